/-! models and contracts, by program (wip/whole/emit.py): X2_to, X2_join, X2_dropLast, X2_countFrom, X2_pathTotal, X2_pathsThrough, X3_fill, X4_length, X4_codeAt, X4_arrowAt, X4_put, X4_clear, X5_forget, X6_total, X6_last, X5_stepFrom, X5_reach, X5_spread, X5_nameReached, X5_countClass, X5_findClasses, X5_refresh, X5_isEqualBy, X5_refreshCore, X5_className, X5_classSize, X5_classTotal, X5_classesBetween, X5_coreSize, X5_isInCore, X5_isRedundant, X5_stepsFrom, X5_nextInProof, X5_cellOfStep -/
def f_X2_to (fu : Nat) (k0 : Nat) (l1 : Int32) (M : Mem) : Option (Int32 × Mem) :=
  (f_X2_hasArrow fu k0 l1 M).bind (fun r2 => if r2.1 = 0 then some ((-1 : Int32), r2.2) else (f_X8_get fu (3 * k0 + 1) l1 r2.2).bind (fun r13 => some (r13.1, r13.2)))
set_option maxHeartbeats 4000000 in
set_option maxRecDepth 100000 in
theorem k_X2_to (l : Launch) (G : GE) (hl : l.stackTraces = false) (hG : GOK G) (fu : Nat) (k0 : Nat) (l1 : Int32) (M : Mem) (res : Int32 × Mem) (hk0 : (2, k0) ∈ gids G) (hm : f_X2_to fu k0 l1 M = some res) : CT l G yX2_to cX2_to 2 (some .int) 1 [vR 2 k0, vI l1] M (.inl (some (vI res.1))) res.2 := by
  refine ct_of [(0, vR 2 k0), (1, vI l1)] (by decide +kernel) hl hG (Nat.le_of_ble_eq_true rfl) rfl (List.forall_mem_cons.mpr ⟨Or.inl hk0, List.forall_mem_cons.mpr ⟨trivial, fun _ h => nomatch h⟩⟩) (List.forall_mem_cons.mpr ⟨Or.inl hk0, List.forall_mem_cons.mpr ⟨trivial, fun _ h => nomatch h⟩⟩) (fun X hX C => ?_)
  subst hX
  have Cl := C
  unfold f_X2_to at hm
  refine g_aload_n C 0 dX2_to_0 rfl rfl ?_
  refine g_iload_n C 1 dX2_to_1 rfl rfl ?_
  obtain ⟨r2, hr2, hm⟩ := bnd_some hm
  refine g_callVi (As := [vI l1]) (rest := []) C lk_X2_37 (k_X2_hasArrow X.2.1 G hl hG fu k0 l1 M r2 hk0 hr2) (by decide) rfl rfl rfl (Nat.le_of_ble_eq_true rfl) ⟨Nat.le_of_ble_eq_true rfl, Nat.le_of_ble_eq_true rfl⟩ dX2_to_2 ?_
  refine g_if_eq (tgt := 19) C dX2_to_5 (by decide) (fun h5 => ?_) (fun h5 => ?_)
  · have hm := ift hm h5
    refine g_iconst (v := -1) C dX2_to_19 rfl ?_
    obtain rfl := Option.some.inj hm
    exact g_iret C dX2_to_20
  · have hm := ife hm h5
    refine g_aload_n C 0 dX2_to_8 rfl rfl ?_
    refine g_getr (k := k0) (k' := (3 * k0 + 1)) C (by decide) kf_X2_27 rfl rfl dX2_to_9 ?_
    refine g_iload_n C 1 dX2_to_12 rfl rfl ?_
    obtain ⟨r13, hr13, hm⟩ := bnd_some hm
    refine g_callVi (As := [vI l1]) (rest := []) C lk_X2_41 (k_X8_get X.2.1 G hl hG fu (3 * k0 + 1) l1 r2.2 r13 ((hG _ hk0).2 3 8 1 3 rfl) hr13) (by decide) rfl rfl rfl (Nat.le_of_ble_eq_true rfl) ⟨Nat.le_of_ble_eq_true rfl, Nat.le_of_ble_eq_true rfl⟩ dX2_to_13 ?_
    refine g_goto (tgt := 20) C dX2_to_16 (by decide) ?_
    obtain rfl := Option.some.inj hm
    exact g_iret C dX2_to_20
def f_X2_join (fu : Nat) (k0 : Nat) (l1 : Int32) (l2 : Int32) (M : Mem) : Option (Int32 × Mem) :=
  (f_X8_set fu (3 * k0 + 0) (M.1 2 k0 1) l1 M).bind (fun r9 => (f_X8_set fu (3 * k0 + 1) (r9.1 2 k0 1) l2 r9).bind (fun r21 => some (((mI r21 2 k0 1 ((r21.1 2 k0 1) + (1 : Int32))).1 2 k0 1) - (1 : Int32), (mI r21 2 k0 1 ((r21.1 2 k0 1) + (1 : Int32))))))
set_option maxHeartbeats 4000000 in
set_option maxRecDepth 100000 in
theorem k_X2_join (l : Launch) (G : GE) (hl : l.stackTraces = false) (hG : GOK G) (fu : Nat) (k0 : Nat) (l1 : Int32) (l2 : Int32) (M : Mem) (res : Int32 × Mem) (hk0 : (2, k0) ∈ gids G) (hm : f_X2_join fu k0 l1 l2 M = some res) : CT l G yX2_join cX2_join 3 (some .int) 1 [vR 2 k0, vI l1, vI l2] M (.inl (some (vI res.1))) res.2 := by
  refine ct_of [(0, vR 2 k0), (1, vI l1), (2, vI l2)] (by decide +kernel) hl hG (Nat.le_of_ble_eq_true rfl) rfl (List.forall_mem_cons.mpr ⟨Or.inl hk0, List.forall_mem_cons.mpr ⟨trivial, List.forall_mem_cons.mpr ⟨trivial, fun _ h => nomatch h⟩⟩⟩) (List.forall_mem_cons.mpr ⟨Or.inl hk0, List.forall_mem_cons.mpr ⟨trivial, List.forall_mem_cons.mpr ⟨trivial, fun _ h => nomatch h⟩⟩⟩) (fun X hX C => ?_)
  subst hX
  have Cl := C
  unfold f_X2_join at hm
  refine g_aload_n C 0 dX2_join_0 rfl rfl ?_
  refine g_getr (k := k0) (k' := (3 * k0 + 0)) C (by decide) kf_X2_23 rfl rfl dX2_join_1 ?_
  refine g_aload_n C 0 dX2_join_4 rfl rfl ?_
  refine g_geti (k := k0) C (by decide) kf_X2_15 rfl dX2_join_5 ?_
  refine g_iload_n C 1 dX2_join_8 rfl rfl ?_
  obtain ⟨r9, hr9, hm⟩ := bnd_some hm
  refine g_callVv (As := [vI (M.1 2 k0 1), vI l1]) (rest := []) C lk_X2_45 (k_X8_set X.2.1 G hl hG fu (3 * k0 + 0) (M.1 2 k0 1) l1 M r9 ((hG _ hk0).2 2 8 0 3 rfl) hr9) (by decide) rfl rfl rfl (Nat.le_of_ble_eq_true rfl) ⟨Nat.le_of_ble_eq_true rfl, Nat.le_of_ble_eq_true rfl⟩ dX2_join_9 ?_
  refine g_aload_n C 0 dX2_join_12 rfl rfl ?_
  refine g_getr (k := k0) (k' := (3 * k0 + 1)) C (by decide) kf_X2_27 rfl rfl dX2_join_13 ?_
  refine g_aload_n C 0 dX2_join_16 rfl rfl ?_
  refine g_geti (k := k0) C (by decide) kf_X2_15 rfl dX2_join_17 ?_
  refine g_iload_n C 2 dX2_join_20 rfl rfl ?_
  obtain ⟨r21, hr21, hm⟩ := bnd_some hm
  refine g_callVv (As := [vI (r9.1 2 k0 1), vI l2]) (rest := []) C lk_X2_45 (k_X8_set X.2.1 G hl hG fu (3 * k0 + 1) (r9.1 2 k0 1) l2 r9 r21 ((hG _ hk0).2 3 8 1 3 rfl) hr21) (by decide) rfl rfl rfl (Nat.le_of_ble_eq_true rfl) ⟨Nat.le_of_ble_eq_true rfl, Nat.le_of_ble_eq_true rfl⟩ dX2_join_21 ?_
  refine g_aload_n C 0 dX2_join_24 rfl rfl ?_
  refine g_dup C dX2_join_25 rfl ?_
  refine g_geti (k := k0) C (by decide) kf_X2_15 rfl dX2_join_26 ?_
  refine g_iconst (v := 1) C dX2_join_29 rfl ?_
  refine g_iadd C dX2_join_30 ?_
  refine g_puti C (by decide) kf_X2_15 rfl rfl rfl dX2_join_31 ?_
  refine g_aload_n C 0 dX2_join_34 rfl rfl ?_
  refine g_geti (k := k0) C (by decide) kf_X2_15 rfl dX2_join_35 ?_
  refine g_iconst (v := 1) C dX2_join_38 rfl ?_
  refine g_isub C dX2_join_39 ?_
  obtain rfl := Option.some.inj hm
  exact g_iret C dX2_join_40
def f_X2_dropLast (fu : Nat) (k0 : Nat) (M : Mem) : Option (Mem) :=
  some (mI M 2 k0 1 ((M.1 2 k0 1) - (1 : Int32)))
set_option maxHeartbeats 4000000 in
set_option maxRecDepth 100000 in
theorem k_X2_dropLast (l : Launch) (G : GE) (hl : l.stackTraces = false) (hG : GOK G) (fu : Nat) (k0 : Nat) (M : Mem) (res : Mem) (hk0 : (2, k0) ∈ gids G) (hm : f_X2_dropLast fu k0 M = some res) : CT l G yX2_dropLast cX2_dropLast 1 none 0 [vR 2 k0] M (.inl none) res := by
  refine ct_of [(0, vR 2 k0)] (by decide +kernel) hl hG (Nat.le_of_ble_eq_true rfl) rfl (List.forall_mem_cons.mpr ⟨Or.inl hk0, fun _ h => nomatch h⟩) (List.forall_mem_cons.mpr ⟨Or.inl hk0, fun _ h => nomatch h⟩) (fun X hX C => ?_)
  subst hX
  have Cl := C
  unfold f_X2_dropLast at hm
  refine g_aload_n C 0 dX2_dropLast_0 rfl rfl ?_
  refine g_dup C dX2_dropLast_1 rfl ?_
  refine g_geti (k := k0) C (by decide) kf_X2_15 rfl dX2_dropLast_2 ?_
  refine g_iconst (v := 1) C dX2_dropLast_5 rfl ?_
  refine g_isub C dX2_dropLast_6 ?_
  refine g_puti C (by decide) kf_X2_15 rfl rfl rfl dX2_dropLast_7 ?_
  obtain rfl := Option.some.inj hm
  exact g_vret C dX2_dropLast_10
def f_X2_countFrom_j70 (fu : Nat) (k0 : Nat) (l1 : Int32) (l2 : Int32) (l3 : Int32) (l4 : Int32) (M : Mem) : Option ((Int32 × Int32 × Mem) ⊕ (Int32 × Mem)) :=
  some (Sum.inl (l3, l4 + (1 : Int32), M))
def f_X2_countFrom_b29 (fu : Nat) (k0 : Nat) (l1 : Int32) (l2 : Int32) (l3 : Int32) (l4 : Int32) (M : Mem) : Option ((Int32 × Int32 × Mem) ⊕ (Int32 × Mem)) :=
  if (M.1 2 k0 1) ≤ l4 then some (Sum.inr (l3, M)) else (f_X8_get fu (3 * k0 + 1) l4 M).bind (fun r44 => if r44.1 = l2 then (f_X8_get fu (3 * k0 + 0) l4 r44.2).bind (fun r62 => (f_X8_get fu (3 * k0 + 2) r62.1 r62.2).bind (fun r65 => f_X2_countFrom_j70 fu k0 l1 l2 (l3 + r65.1) l4 r65.2)) else f_X2_countFrom_j70 fu k0 l1 l2 l3 l4 r44.2)
def f_X2_countFrom_h29 (fu : Nat) (k0 : Nat) (l1 : Int32) (l2 : Int32) (l3 : Int32) (l4 : Int32) (M : Mem) : Option ((Int32 × Mem) ⊕ (Mem)) :=
  (lp_run (fun s => f_X2_countFrom_b29 fu k0 l1 l2 s.1 s.2.1 s.2.2) fu (l3, l4, M)).bind (fun r29 => match r29 with
    | (l3, M) => (f_X8_set fu (3 * k0 + 2) l2 l3 M).bind (fun r82 => some (Sum.inl (l2 + (1 : Int32), r82))))
def f_X2_countFrom_j25 (fu : Nat) (k0 : Nat) (l1 : Int32) (l2 : Int32) (t0 : Int32) (M : Mem) : Option ((Int32 × Mem) ⊕ (Mem)) :=
  f_X2_countFrom_h29 fu k0 l1 l2 t0 (0 : Int32) M
def f_X2_countFrom_j20 (fu : Nat) (k0 : Nat) (l1 : Int32) (l2 : Int32) (M : Mem) : Option ((Int32 × Mem) ⊕ (Mem)) :=
  f_X2_countFrom_j25 fu k0 l1 l2 (1 : Int32) M
def f_X2_countFrom_b2 (fu : Nat) (k0 : Nat) (l1 : Int32) (l2 : Int32) (M : Mem) : Option ((Int32 × Mem) ⊕ (Mem)) :=
  if (M.1 2 k0 0) ≤ l2 then some (Sum.inr M) else if l1 = (-1 : Int32) then f_X2_countFrom_j20 fu k0 l1 l2 M else if l1 = l2 then f_X2_countFrom_j20 fu k0 l1 l2 M else f_X2_countFrom_j25 fu k0 l1 l2 (0 : Int32) M
def f_X2_countFrom_h2 (fu : Nat) (k0 : Nat)  (l1 : Int32) (l2 : Int32) (M : Mem) : Option (Mem) :=
  (lp_run (fun s => f_X2_countFrom_b2 fu k0 l1 s.1 s.2) fu (l2, M)).bind (fun M => some M)
def f_X2_countFrom (fu : Nat) (k0 : Nat) (l1 : Int32) (M : Mem) : Option (Mem) :=
  f_X2_countFrom_h2 fu k0 l1 (0 : Int32) M
set_option maxHeartbeats 4000000 in
set_option maxRecDepth 100000 in
theorem k_X2_countFrom (l : Launch) (G : GE) (hl : l.stackTraces = false) (hG : GOK G) (fu : Nat) (k0 : Nat) (l1 : Int32) (M : Mem) (res : Mem) (hk0 : (2, k0) ∈ gids G) (hm : f_X2_countFrom fu k0 l1 M = some res) : CT l G yX2_countFrom cX2_countFrom 5 none 1 [vR 2 k0, vI l1] M (.inl none) res := by
  refine ct_of [(0, vR 2 k0), (1, vI l1)] (by decide +kernel) hl hG (Nat.le_of_ble_eq_true rfl) rfl (List.forall_mem_cons.mpr ⟨Or.inl hk0, List.forall_mem_cons.mpr ⟨trivial, fun _ h => nomatch h⟩⟩) (List.forall_mem_cons.mpr ⟨Or.inl hk0, List.forall_mem_cons.mpr ⟨trivial, fun _ h => nomatch h⟩⟩) (fun X hX C => ?_)
  subst hX
  have Cl := C
  have J2 : ∀ (l1 : Int32) (l2 : Int32) (M : Mem), f_X2_countFrom_h2 fu k0  l1 l2 M = some res → GW G X 5 (QX G X (.inl none) res) 2 [(0, vR 2 k0), (1, vI l1), (2, vI l2)] [] M := by
    intro l1 l2 M hm
    unfold f_X2_countFrom_h2 at hm
    obtain ⟨r2, hL2, hk2⟩ := bnd_some hm
    have hx2 : ∀ (M : Mem), M = r2 → GW G X 5 (QX G X (.inl none) res) 91 [] [] M := by
      intro M he
      subst he
      have hm := hk2
      try dsimp only at hm
      obtain rfl := Option.some.inj hm
      exact g_vret C dX2_countFrom_91
    refine lp_ind1 (P := (fun l2 M => GW G X 5 (QX G X (.inl none) res) 2 [(0, vR 2 k0), (1, vI l1), (2, vI l2)] [] M)) (r := r2) ?_ fu l2 M hL2
    intro l2 M o2 hm K2
    have J29 : ∀ (l2 : Int32) (l3 : Int32) (l4 : Int32) (M : Mem), f_X2_countFrom_h29 fu k0 l1 l2 l3 l4 M = some o2 → GW G X 5 (QX G X (.inl none) res) 29 [(0, vR 2 k0), (1, vI l1), (2, vI l2), (3, vI l3), (4, vI l4)] [] M := by
      intro l2 l3 l4 M hm
      unfold f_X2_countFrom_h29 at hm
      obtain ⟨r29, hL29, hk29⟩ := bnd_some hm
      have hx29 : ∀ (l3 : Int32) (M : Mem), (l3, M) = r29 → GW G X 5 (QX G X (.inl none) res) 76 [(0, vR 2 k0), (1, vI l1), (2, vI l2), (3, vI l3)] [] M := by
        intro l3 M he
        subst he
        have hm := hk29
        try dsimp only at hm
        refine g_aload_n C 0 dX2_countFrom_76 rfl rfl ?_
        refine g_getr (k := k0) (k' := (3 * k0 + 2)) C (by decide) kf_X2_30 rfl rfl dX2_countFrom_77 ?_
        refine g_iload_n C 2 dX2_countFrom_80 rfl rfl ?_
        refine g_iload_n C 3 dX2_countFrom_81 rfl rfl ?_
        obtain ⟨r82, hr82, hm⟩ := bnd_some hm
        refine g_callVv (As := [vI l2, vI l3]) (rest := []) C lk_X2_45 (k_X8_set X.2.1 G hl hG fu (3 * k0 + 2) l2 l3 M r82 ((hG _ hk0).2 4 8 2 3 rfl) hr82) (by decide) rfl rfl rfl (Nat.le_of_ble_eq_true rfl) ⟨Nat.le_of_ble_eq_true rfl, Nat.le_of_ble_eq_true rfl⟩ dX2_countFrom_82 ?_
        refine g_iinc (ls' := [(2, vI (l2 + (1 : Int32))), (0, vR 2 k0), (1, vI l1), (3, vI l3)]) (v := l2 + (1 : Int32)) C 2 dX2_countFrom_85 rfl (iv_p1 _) (by decide) rfl ?_
        refine g_goto (tgt := 2) C dX2_countFrom_88 (by decide) ?_
        obtain rfl := Option.some.inj hm
        exact g_sub [1, 2, 0] rfl (g_pc rfl (K2.1 (l2 + (1 : Int32)) r82 rfl))
      refine lp_ind2 (P := (fun l3 l4 M => GW G X 5 (QX G X (.inl none) res) 29 [(0, vR 2 k0), (1, vI l1), (2, vI l2), (3, vI l3), (4, vI l4)] [] M)) (r := r29) ?_ fu l3 l4 M hL29
      intro l3 l4 M o29 hm K29
      have J70 : ∀ (l3 : Int32) (l4 : Int32) (M : Mem), f_X2_countFrom_j70 fu k0 l1 l2 l3 l4 M = some o29 → GW G X 5 (QX G X (.inl none) res) 70 [(0, vR 2 k0), (1, vI l1), (2, vI l2), (3, vI l3), (4, vI l4)] [] M := by
        intro l3 l4 M hm
        unfold f_X2_countFrom_j70 at hm
        refine g_iinc (ls' := [(4, vI (l4 + (1 : Int32))), (0, vR 2 k0), (1, vI l1), (2, vI l2), (3, vI l3)]) (v := l4 + (1 : Int32)) C 4 dX2_countFrom_70 rfl (iv_p1 _) (by decide) rfl ?_
        refine g_goto (tgt := 29) C dX2_countFrom_73 (by decide) ?_
        obtain rfl := Option.some.inj hm
        exact g_sub [1, 2, 3, 4, 0] rfl (g_pc rfl (K29.1 l3 (l4 + (1 : Int32)) M rfl))
      unfold f_X2_countFrom_b29 at hm
      refine g_iload C 4 dX2_countFrom_29 rfl ?_
      refine g_aload_n C 0 dX2_countFrom_31 rfl rfl ?_
      refine g_geti (k := k0) C (by decide) kf_X2_15 rfl dX2_countFrom_32 ?_
      refine g_icmp_ge (tgt := 76) C dX2_countFrom_35 (by decide) (fun h35 => ?_) (fun h35 => ?_)
      · have hm := ift hm h35
        obtain rfl := Option.some.inj hm
        exact g_sub [0, 1, 2, 3] rfl (g_pc rfl (hx29 l3 M (K29.2 _ rfl)))
      · have hm := ife hm h35
        refine g_aload_n C 0 dX2_countFrom_38 rfl rfl ?_
        refine g_getr (k := k0) (k' := (3 * k0 + 1)) C (by decide) kf_X2_27 rfl rfl dX2_countFrom_39 ?_
        refine g_iload C 4 dX2_countFrom_42 rfl ?_
        obtain ⟨r44, hr44, hm⟩ := bnd_some hm
        refine g_callVi (As := [vI l4]) (rest := []) C lk_X2_41 (k_X8_get X.2.1 G hl hG fu (3 * k0 + 1) l4 M r44 ((hG _ hk0).2 3 8 1 3 rfl) hr44) (by decide) rfl rfl rfl (Nat.le_of_ble_eq_true rfl) ⟨Nat.le_of_ble_eq_true rfl, Nat.le_of_ble_eq_true rfl⟩ dX2_countFrom_44 ?_
        refine g_iload_n C 2 dX2_countFrom_47 rfl rfl ?_
        refine g_icmp_ne (tgt := 70) C dX2_countFrom_48 (by decide) (fun h48 => ?_) (fun h48 => ?_)
        · have hm := ife hm h48
          exact g_sub [0, 1, 2, 3, 4] rfl (g_pc rfl (J70 l3 l4 r44.2 hm))
        · have hm := ift hm h48
          refine g_iload_n C 3 dX2_countFrom_51 rfl rfl ?_
          refine g_aload_n C 0 dX2_countFrom_52 rfl rfl ?_
          refine g_getr (k := k0) (k' := (3 * k0 + 2)) C (by decide) kf_X2_30 rfl rfl dX2_countFrom_53 ?_
          refine g_aload_n C 0 dX2_countFrom_56 rfl rfl ?_
          refine g_getr (k := k0) (k' := (3 * k0 + 0)) C (by decide) kf_X2_23 rfl rfl dX2_countFrom_57 ?_
          refine g_iload C 4 dX2_countFrom_60 rfl ?_
          obtain ⟨r62, hr62, hm⟩ := bnd_some hm
          refine g_callVi (As := [vI l4]) (rest := [vR 8 (3 * k0 + 2), vI l3]) C lk_X2_41 (k_X8_get X.2.1 G hl hG fu (3 * k0 + 0) l4 r44.2 r62 ((hG _ hk0).2 2 8 0 3 rfl) hr62) (by decide) rfl rfl rfl (Nat.le_of_ble_eq_true rfl) ⟨Nat.le_of_ble_eq_true rfl, Nat.le_of_ble_eq_true rfl⟩ dX2_countFrom_62 ?_
          obtain ⟨r65, hr65, hm⟩ := bnd_some hm
          refine g_callVi (As := [vI r62.1]) (rest := [vI l3]) C lk_X2_41 (k_X8_get X.2.1 G hl hG fu (3 * k0 + 2) r62.1 r62.2 r65 ((hG _ hk0).2 4 8 2 3 rfl) hr65) (by decide) rfl rfl rfl (Nat.le_of_ble_eq_true rfl) ⟨Nat.le_of_ble_eq_true rfl, Nat.le_of_ble_eq_true rfl⟩ dX2_countFrom_65 ?_
          refine g_iadd C dX2_countFrom_68 ?_
          refine g_istore_n (ls' := [(3, vI (l3 + r65.1)), (0, vR 2 k0), (1, vI l1), (2, vI l2), (4, vI l4)]) C dX2_countFrom_69 rfl (by decide) rfl ?_
          exact g_sub [1, 2, 3, 0, 4] rfl (g_pc rfl (J70 (l3 + r65.1) l4 r65.2 hm))
    have J25 : ∀ (l2 : Int32) (t0 : Int32) (M : Mem), f_X2_countFrom_j25 fu k0 l1 l2 t0 M = some o2 → GW G X 5 (QX G X (.inl none) res) 25 [(0, vR 2 k0), (1, vI l1), (2, vI l2)] [vI t0] M := by
      intro l2 t0 M hm
      unfold f_X2_countFrom_j25 at hm
      refine g_istore_n (ls' := [(3, vI t0), (0, vR 2 k0), (1, vI l1), (2, vI l2)]) C dX2_countFrom_25 rfl (by decide) rfl ?_
      refine g_iconst (v := 0) C dX2_countFrom_26 rfl ?_
      refine g_istore (ls' := [(4, vI (0 : Int32)), (3, vI t0), (0, vR 2 k0), (1, vI l1), (2, vI l2)]) C dX2_countFrom_27 (by decide) rfl ?_
      exact g_sub [2, 3, 4, 1, 0] rfl (g_pc rfl (J29 l2 t0 (0 : Int32) M hm))
    have J20 : ∀ (l2 : Int32) (M : Mem), f_X2_countFrom_j20 fu k0 l1 l2 M = some o2 → GW G X 5 (QX G X (.inl none) res) 20 [(0, vR 2 k0), (1, vI l1), (2, vI l2)] [] M := by
      intro l2 M hm
      unfold f_X2_countFrom_j20 at hm
      refine g_iconst (v := 1) C dX2_countFrom_20 rfl ?_
      refine g_goto (tgt := 25) C dX2_countFrom_21 (by decide) ?_
      exact g_sub [0, 1, 2] rfl (g_pc rfl (J25 l2 (1 : Int32) M hm))
    unfold f_X2_countFrom_b2 at hm
    refine g_iload_n C 2 dX2_countFrom_2 rfl rfl ?_
    refine g_aload_n C 0 dX2_countFrom_3 rfl rfl ?_
    refine g_geti (k := k0) C (by decide) kf_X2_9 rfl dX2_countFrom_4 ?_
    refine g_icmp_ge (tgt := 91) C dX2_countFrom_7 (by decide) (fun h7 => ?_) (fun h7 => ?_)
    · have hm := ift hm h7
      obtain rfl := Option.some.inj hm
      exact g_sub [] rfl (g_pc rfl (hx2 M (K2.2 _ rfl)))
    · have hm := ife hm h7
      refine g_iload_n C 1 dX2_countFrom_10 rfl rfl ?_
      refine g_iconst (v := -1) C dX2_countFrom_11 rfl ?_
      refine g_icmp_eq (tgt := 20) C dX2_countFrom_12 (by decide) (fun h12 => ?_) (fun h12 => ?_)
      · have hm := ift hm h12
        exact g_sub [0, 1, 2] rfl (g_pc rfl (J20 l2 M hm))
      · have hm := ife hm h12
        refine g_iload_n C 1 dX2_countFrom_15 rfl rfl ?_
        refine g_iload_n C 2 dX2_countFrom_16 rfl rfl ?_
        refine g_icmp_ne (tgt := 24) C dX2_countFrom_17 (by decide) (fun h17 => ?_) (fun h17 => ?_)
        · have hm := ife hm h17
          refine g_iconst (v := 0) C dX2_countFrom_24 rfl ?_
          exact g_sub [0, 1, 2] rfl (g_pc rfl (J25 l2 (0 : Int32) M hm))
        · have hm := ift hm h17
          exact g_sub [0, 1, 2] rfl (g_pc rfl (J20 l2 M hm))
  unfold f_X2_countFrom at hm
  refine g_iconst (v := 0) C dX2_countFrom_0 rfl ?_
  refine g_istore_n (ls' := [(2, vI (0 : Int32)), (0, vR 2 k0), (1, vI l1)]) C dX2_countFrom_1 rfl (by decide) rfl ?_
  exact g_sub [1, 2, 0] rfl (g_pc rfl (J2 l1 (0 : Int32) M hm))
def f_X2_pathTotal_b9 (fu : Nat) (k0 : Nat)  (l1 : Int32) (l2 : Int32) (M : Mem) : Option ((Int32 × Int32 × Mem) ⊕ (Int32 × Mem)) :=
  if (M.1 2 k0 0) ≤ l2 then some (Sum.inr (l1, M)) else (f_X8_get fu (3 * k0 + 2) l2 M).bind (fun r23 => some (Sum.inl (l1 + r23.1, l2 + (1 : Int32), r23.2)))
def f_X2_pathTotal_h9 (fu : Nat) (k0 : Nat)  (l1 : Int32) (l2 : Int32) (M : Mem) : Option (Int32 × Mem) :=
  (lp_run (fun s => f_X2_pathTotal_b9 fu k0  s.1 s.2.1 s.2.2) fu (l1, l2, M)).bind (fun r9 => match r9 with
    | (l1, M) => some (l1, M))
def f_X2_pathTotal (fu : Nat) (k0 : Nat) (M : Mem) : Option (Int32 × Mem) :=
  (f_X2_countFrom fu k0 (-1 : Int32) M).bind (fun r4 => f_X2_pathTotal_h9 fu k0 (0 : Int32) (0 : Int32) r4)
set_option maxHeartbeats 4000000 in
set_option maxRecDepth 100000 in
theorem k_X2_pathTotal (l : Launch) (G : GE) (hl : l.stackTraces = false) (hG : GOK G) (fu : Nat) (k0 : Nat) (M : Mem) (res : Int32 × Mem) (hk0 : (2, k0) ∈ gids G) (hm : f_X2_pathTotal fu k0 M = some res) : CT l G yX2_pathTotal cX2_pathTotal 3 (some .int) 2 [vR 2 k0] M (.inl (some (vI res.1))) res.2 := by
  refine ct_of [(0, vR 2 k0)] (by decide +kernel) hl hG (Nat.le_of_ble_eq_true rfl) rfl (List.forall_mem_cons.mpr ⟨Or.inl hk0, fun _ h => nomatch h⟩) (List.forall_mem_cons.mpr ⟨Or.inl hk0, fun _ h => nomatch h⟩) (fun X hX C => ?_)
  subst hX
  have Cl := C
  have J9 : ∀ (l1 : Int32) (l2 : Int32) (M : Mem), f_X2_pathTotal_h9 fu k0  l1 l2 M = some res → GW G X 3 (QX G X (.inl (some (vI res.1))) res.2) 9 [(0, vR 2 k0), (1, vI l1), (2, vI l2)] [] M := by
    intro l1 l2 M hm
    unfold f_X2_pathTotal_h9 at hm
    obtain ⟨r9, hL9, hk9⟩ := bnd_some hm
    have hx9 : ∀ (l1 : Int32) (M : Mem), (l1, M) = r9 → GW G X 3 (QX G X (.inl (some (vI res.1))) res.2) 34 [(1, vI l1)] [] M := by
      intro l1 M he
      subst he
      have hm := hk9
      try dsimp only at hm
      refine g_iload_n C 0 dX2_pathTotal_34 rfl rfl ?_
      obtain rfl := Option.some.inj hm
      exact g_iret C dX2_pathTotal_35
    refine lp_ind2 (P := (fun l1 l2 M => GW G X 3 (QX G X (.inl (some (vI res.1))) res.2) 9 [(0, vR 2 k0), (1, vI l1), (2, vI l2)] [] M)) (r := r9) ?_ fu l1 l2 M hL9
    intro l1 l2 M o9 hm K9
    unfold f_X2_pathTotal_b9 at hm
    refine g_iload_n C 2 dX2_pathTotal_9 rfl rfl ?_
    refine g_aload_n C 0 dX2_pathTotal_10 rfl rfl ?_
    refine g_geti (k := k0) C (by decide) kf_X2_9 rfl dX2_pathTotal_11 ?_
    refine g_icmp_ge (tgt := 34) C dX2_pathTotal_14 (by decide) (fun h14 => ?_) (fun h14 => ?_)
    · have hm := ift hm h14
      obtain rfl := Option.some.inj hm
      exact g_sub [1] rfl (g_pc rfl (hx9 l1 M (K9.2 _ rfl)))
    · have hm := ife hm h14
      refine g_iload_n C 1 dX2_pathTotal_17 rfl rfl ?_
      refine g_aload_n C 0 dX2_pathTotal_18 rfl rfl ?_
      refine g_getr (k := k0) (k' := (3 * k0 + 2)) C (by decide) kf_X2_30 rfl rfl dX2_pathTotal_19 ?_
      refine g_iload_n C 2 dX2_pathTotal_22 rfl rfl ?_
      obtain ⟨r23, hr23, hm⟩ := bnd_some hm
      refine g_callVi (As := [vI l2]) (rest := [vI l1]) C lk_X2_41 (k_X8_get X.2.1 G hl hG fu (3 * k0 + 2) l2 M r23 ((hG _ hk0).2 4 8 2 3 rfl) hr23) (by decide) rfl rfl rfl (Nat.le_of_ble_eq_true rfl) ⟨Nat.le_of_ble_eq_true rfl, Nat.le_of_ble_eq_true rfl⟩ dX2_pathTotal_23 ?_
      refine g_iadd C dX2_pathTotal_26 ?_
      refine g_istore_n (ls' := [(1, vI (l1 + r23.1)), (0, vR 2 k0), (2, vI l2)]) C dX2_pathTotal_27 rfl (by decide) rfl ?_
      refine g_iinc (ls' := [(2, vI (l2 + (1 : Int32))), (1, vI (l1 + r23.1)), (0, vR 2 k0)]) (v := l2 + (1 : Int32)) C 2 dX2_pathTotal_28 rfl (iv_p1 _) (by decide) rfl ?_
      refine g_goto (tgt := 9) C dX2_pathTotal_31 (by decide) ?_
      obtain rfl := Option.some.inj hm
      exact g_sub [2, 1, 0] rfl (g_pc rfl (K9.1 (l1 + r23.1) (l2 + (1 : Int32)) r23.2 rfl))
  unfold f_X2_pathTotal at hm
  refine g_iconst (v := 0) C dX2_pathTotal_0 rfl ?_
  refine g_istore_n (ls' := [(1, vI (0 : Int32)), (0, vR 2 k0)]) C dX2_pathTotal_1 rfl (by decide) rfl ?_
  refine g_aload_n C 1 dX2_pathTotal_2 rfl rfl ?_
  refine g_iconst (v := -1) C dX2_pathTotal_3 rfl ?_
  obtain ⟨r4, hr4, hm⟩ := bnd_some hm
  refine g_callVv (As := [vI (-1 : Int32)]) (rest := []) C lk_X2_49 (k_X2_countFrom X.2.1 G hl hG fu k0 (-1 : Int32) M r4 hk0 hr4) (by decide) rfl rfl rfl (Nat.le_of_ble_eq_true rfl) ⟨Nat.le_of_ble_eq_true rfl, Nat.le_of_ble_eq_true rfl⟩ dX2_pathTotal_4 ?_
  refine g_iconst (v := 0) C dX2_pathTotal_7 rfl ?_
  refine g_istore_n (ls' := [(2, vI (0 : Int32)), (1, vI (0 : Int32)), (0, vR 2 k0)]) C dX2_pathTotal_8 rfl (by decide) rfl ?_
  exact g_sub [2, 1, 0] rfl (g_pc rfl (J9 (0 : Int32) (0 : Int32) r4 hm))
def f_X2_pathsThrough_b25 (fu : Nat) (k0 : Nat) (l3 : Int32) (l4 : Int32) (l5 : Int32) (M : Mem) : Option ((Int32 × Int32 × Mem) ⊕ (Int32 × Mem)) :=
  if (M.1 2 k0 0) ≤ l5 then some (Sum.inr (l4, M)) else (f_X8_get fu (3 * k0 + 2) l5 M).bind (fun r42 => some (Sum.inl (l4 + r42.1, l5 + (1 : Int32), r42.2)))
def f_X2_pathsThrough_h25 (fu : Nat) (k0 : Nat)  (l3 : Int32) (l4 : Int32) (l5 : Int32) (M : Mem) : Option (Int32 × Mem) :=
  (lp_run (fun s => f_X2_pathsThrough_b25 fu k0 l3 s.1 s.2.1 s.2.2) fu (l4, l5, M)).bind (fun r25 => match r25 with
    | (l4, M) => some (l3 * l4, M))
def f_X2_pathsThrough (fu : Nat) (k0 : Nat) (l1 : Int32) (l2 : Int32) (M : Mem) : Option (Int32 × Mem) :=
  (f_X2_countFrom fu k0 (-1 : Int32) M).bind (fun r2 => (f_X8_get fu (3 * k0 + 2) l1 r2).bind (fun r10 => (f_X2_countFrom fu k0 l2 r10.2).bind (fun r19 => f_X2_pathsThrough_h25 fu k0 r10.1 (0 : Int32) (0 : Int32) r19)))
set_option maxHeartbeats 4000000 in
set_option maxRecDepth 100000 in
theorem k_X2_pathsThrough (l : Launch) (G : GE) (hl : l.stackTraces = false) (hG : GOK G) (fu : Nat) (k0 : Nat) (l1 : Int32) (l2 : Int32) (M : Mem) (res : Int32 × Mem) (hk0 : (2, k0) ∈ gids G) (hm : f_X2_pathsThrough fu k0 l1 l2 M = some res) : CT l G yX2_pathsThrough cX2_pathsThrough 6 (some .int) 2 [vR 2 k0, vI l1, vI l2] M (.inl (some (vI res.1))) res.2 := by
  refine ct_of [(0, vR 2 k0), (1, vI l1), (2, vI l2)] (by decide +kernel) hl hG (Nat.le_of_ble_eq_true rfl) rfl (List.forall_mem_cons.mpr ⟨Or.inl hk0, List.forall_mem_cons.mpr ⟨trivial, List.forall_mem_cons.mpr ⟨trivial, fun _ h => nomatch h⟩⟩⟩) (List.forall_mem_cons.mpr ⟨Or.inl hk0, List.forall_mem_cons.mpr ⟨trivial, List.forall_mem_cons.mpr ⟨trivial, fun _ h => nomatch h⟩⟩⟩) (fun X hX C => ?_)
  subst hX
  have Cl := C
  have J25 : ∀ (l3 : Int32) (l4 : Int32) (l5 : Int32) (M : Mem), f_X2_pathsThrough_h25 fu k0  l3 l4 l5 M = some res → GW G X 6 (QX G X (.inl (some (vI res.1))) res.2) 25 [(0, vR 2 k0), (3, vI l3), (4, vI l4), (5, vI l5)] [] M := by
    intro l3 l4 l5 M hm
    unfold f_X2_pathsThrough_h25 at hm
    obtain ⟨r25, hL25, hk25⟩ := bnd_some hm
    have hx25 : ∀ (l4 : Int32) (M : Mem), (l4, M) = r25 → GW G X 6 (QX G X (.inl (some (vI res.1))) res.2) 54 [(3, vI l3), (4, vI l4)] [] M := by
      intro l4 M he
      subst he
      have hm := hk25
      try dsimp only at hm
      refine g_iload_n C 0 dX2_pathsThrough_54 rfl rfl ?_
      refine g_iload C 1 dX2_pathsThrough_55 rfl ?_
      refine g_imul C dX2_pathsThrough_57 ?_
      obtain rfl := Option.some.inj hm
      exact g_iret C dX2_pathsThrough_58
    refine lp_ind2 (P := (fun l4 l5 M => GW G X 6 (QX G X (.inl (some (vI res.1))) res.2) 25 [(0, vR 2 k0), (3, vI l3), (4, vI l4), (5, vI l5)] [] M)) (r := r25) ?_ fu l4 l5 M hL25
    intro l4 l5 M o25 hm K25
    unfold f_X2_pathsThrough_b25 at hm
    refine g_iload C 3 dX2_pathsThrough_25 rfl ?_
    refine g_aload_n C 0 dX2_pathsThrough_27 rfl rfl ?_
    refine g_geti (k := k0) C (by decide) kf_X2_9 rfl dX2_pathsThrough_28 ?_
    refine g_icmp_ge (tgt := 54) C dX2_pathsThrough_31 (by decide) (fun h31 => ?_) (fun h31 => ?_)
    · have hm := ift hm h31
      obtain rfl := Option.some.inj hm
      exact g_sub [1, 2] rfl (g_pc rfl (hx25 l4 M (K25.2 _ rfl)))
    · have hm := ife hm h31
      refine g_iload C 2 dX2_pathsThrough_34 rfl ?_
      refine g_aload_n C 0 dX2_pathsThrough_36 rfl rfl ?_
      refine g_getr (k := k0) (k' := (3 * k0 + 2)) C (by decide) kf_X2_30 rfl rfl dX2_pathsThrough_37 ?_
      refine g_iload C 3 dX2_pathsThrough_40 rfl ?_
      obtain ⟨r42, hr42, hm⟩ := bnd_some hm
      refine g_callVi (As := [vI l5]) (rest := [vI l4]) C lk_X2_41 (k_X8_get X.2.1 G hl hG fu (3 * k0 + 2) l5 M r42 ((hG _ hk0).2 4 8 2 3 rfl) hr42) (by decide) rfl rfl rfl (Nat.le_of_ble_eq_true rfl) ⟨Nat.le_of_ble_eq_true rfl, Nat.le_of_ble_eq_true rfl⟩ dX2_pathsThrough_42 ?_
      refine g_iadd C dX2_pathsThrough_45 ?_
      refine g_istore (ls' := [(4, vI (l4 + r42.1)), (0, vR 2 k0), (3, vI l3), (5, vI l5)]) C dX2_pathsThrough_46 (by decide) rfl ?_
      refine g_iinc (ls' := [(5, vI (l5 + (1 : Int32))), (4, vI (l4 + r42.1)), (0, vR 2 k0), (3, vI l3)]) (v := l5 + (1 : Int32)) C 3 dX2_pathsThrough_48 rfl (iv_p1 _) (by decide) rfl ?_
      refine g_goto (tgt := 25) C dX2_pathsThrough_51 (by decide) ?_
      obtain rfl := Option.some.inj hm
      exact g_sub [2, 3, 1, 0] rfl (g_pc rfl (K25.1 (l4 + r42.1) (l5 + (1 : Int32)) r42.2 rfl))
  unfold f_X2_pathsThrough at hm
  refine g_aload_n C 0 dX2_pathsThrough_0 rfl rfl ?_
  refine g_iconst (v := -1) C dX2_pathsThrough_1 rfl ?_
  obtain ⟨r2, hr2, hm⟩ := bnd_some hm
  refine g_callVv (As := [vI (-1 : Int32)]) (rest := []) C lk_X2_49 (k_X2_countFrom X.2.1 G hl hG fu k0 (-1 : Int32) M r2 hk0 hr2) (by decide) rfl rfl rfl (Nat.le_of_ble_eq_true rfl) ⟨Nat.le_of_ble_eq_true rfl, Nat.le_of_ble_eq_true rfl⟩ dX2_pathsThrough_2 ?_
  refine g_aload_n C 0 dX2_pathsThrough_5 rfl rfl ?_
  refine g_getr (k := k0) (k' := (3 * k0 + 2)) C (by decide) kf_X2_30 rfl rfl dX2_pathsThrough_6 ?_
  refine g_iload_n C 1 dX2_pathsThrough_9 rfl rfl ?_
  obtain ⟨r10, hr10, hm⟩ := bnd_some hm
  refine g_callVi (As := [vI l1]) (rest := []) C lk_X2_41 (k_X8_get X.2.1 G hl hG fu (3 * k0 + 2) l1 r2 r10 ((hG _ hk0).2 4 8 2 3 rfl) hr10) (by decide) rfl rfl rfl (Nat.le_of_ble_eq_true rfl) ⟨Nat.le_of_ble_eq_true rfl, Nat.le_of_ble_eq_true rfl⟩ dX2_pathsThrough_10 ?_
  refine g_istore_n (ls' := [(3, vI r10.1), (0, vR 2 k0), (1, vI l1), (2, vI l2)]) C dX2_pathsThrough_13 rfl (by decide) rfl ?_
  refine g_iconst (v := 0) C dX2_pathsThrough_14 rfl ?_
  refine g_istore (ls' := [(4, vI (0 : Int32)), (3, vI r10.1), (0, vR 2 k0), (1, vI l1), (2, vI l2)]) C dX2_pathsThrough_15 (by decide) rfl ?_
  refine g_aload_n C 2 dX2_pathsThrough_17 rfl rfl ?_
  refine g_iload_n C 4 dX2_pathsThrough_18 rfl rfl ?_
  obtain ⟨r19, hr19, hm⟩ := bnd_some hm
  refine g_callVv (As := [vI l2]) (rest := []) C lk_X2_49 (k_X2_countFrom X.2.1 G hl hG fu k0 l2 r10.2 r19 hk0 hr19) (by decide) rfl rfl rfl (Nat.le_of_ble_eq_true rfl) ⟨Nat.le_of_ble_eq_true rfl, Nat.le_of_ble_eq_true rfl⟩ dX2_pathsThrough_19 ?_
  refine g_iconst (v := 0) C dX2_pathsThrough_22 rfl ?_
  refine g_istore (ls' := [(5, vI (0 : Int32)), (4, vI (0 : Int32)), (3, vI r10.1), (0, vR 2 k0), (1, vI l1), (2, vI l2)]) C dX2_pathsThrough_23 (by decide) rfl ?_
  exact g_sub [3, 2, 1, 0] rfl (g_pc rfl (J25 r10.1 (0 : Int32) (0 : Int32) r19 hm))
def f_X3_fill_b2 (fu : Nat) (k0 : Nat) (l1 : Int32) (l2 : Int32) (M : Mem) : Option ((Int32 × Mem) ⊕ (Mem)) :=
  if (nI (alen 21 k0)) ≤ l2 then some (Sum.inr M) else if inb l2 (alen 21 k0) then some (Sum.inl (l2 + (1 : Int32), (mI M 21 k0 l2.toNatClampNeg l1))) else none
def f_X3_fill_h2 (fu : Nat) (k0 : Nat)  (l1 : Int32) (l2 : Int32) (M : Mem) : Option (Mem) :=
  (lp_run (fun s => f_X3_fill_b2 fu k0 l1 s.1 s.2) fu (l2, M)).bind (fun M => some M)
def f_X3_fill (fu : Nat) (k0 : Nat) (l1 : Int32) (M : Mem) : Option (Mem) :=
  f_X3_fill_h2 fu k0 l1 (0 : Int32) M
set_option maxHeartbeats 4000000 in
set_option maxRecDepth 100000 in
theorem k_X3_fill (l : Launch) (G : GE) (hl : l.stackTraces = false) (hG : GOK G) (fu : Nat) (k0 : Nat) (l1 : Int32) (M : Mem) (res : Mem) (hk0 : (3, k0) ∈ gids G) (hm : f_X3_fill fu k0 l1 M = some res) : CT l G yX3_fill cX3_fill 3 none 0 [vR 3 k0, vI l1] M (.inl none) res := by
  refine ct_of [(0, vR 3 k0), (1, vI l1)] (by decide +kernel) hl hG (Nat.le_of_ble_eq_true rfl) rfl (List.forall_mem_cons.mpr ⟨Or.inl hk0, List.forall_mem_cons.mpr ⟨trivial, fun _ h => nomatch h⟩⟩) (List.forall_mem_cons.mpr ⟨Or.inl hk0, List.forall_mem_cons.mpr ⟨trivial, fun _ h => nomatch h⟩⟩) (fun X hX C => ?_)
  subst hX
  have Cl := C
  have J2 : ∀ (l1 : Int32) (l2 : Int32) (M : Mem), f_X3_fill_h2 fu k0  l1 l2 M = some res → GW G X 3 (QX G X (.inl none) res) 2 [(0, vR 3 k0), (1, vI l1), (2, vI l2)] [] M := by
    intro l1 l2 M hm
    unfold f_X3_fill_h2 at hm
    obtain ⟨r2, hL2, hk2⟩ := bnd_some hm
    have hx2 : ∀ (M : Mem), M = r2 → GW G X 3 (QX G X (.inl none) res) 24 [] [] M := by
      intro M he
      subst he
      have hm := hk2
      try dsimp only at hm
      obtain rfl := Option.some.inj hm
      exact g_vret C dX3_fill_24
    refine lp_ind1 (P := (fun l2 M => GW G X 3 (QX G X (.inl none) res) 2 [(0, vR 3 k0), (1, vI l1), (2, vI l2)] [] M)) (r := r2) ?_ fu l2 M hL2
    intro l2 M o2 hm K2
    unfold f_X3_fill_b2 at hm
    refine g_iload_n C 2 dX3_fill_2 rfl rfl ?_
    refine g_aload_n C 0 dX3_fill_3 rfl rfl ?_
    refine g_getr (k := k0) (k' := k0) C (by decide) kf_X3_18 rfl rfl dX3_fill_4 ?_
    refine g_alen C (by decide) dX3_fill_7 ?_
    refine g_icmp_ge (tgt := 24) C dX3_fill_8 (by decide) (fun h8 => ?_) (fun h8 => ?_)
    · have hm := ift hm h8
      obtain rfl := Option.some.inj hm
      exact g_sub [] rfl (g_pc rfl (hx2 M (K2.2 _ rfl)))
    · have hm := ife hm h8
      refine g_aload_n C 0 dX3_fill_11 rfl rfl ?_
      refine g_getr (k := k0) (k' := k0) C (by decide) kf_X3_18 rfl rfl dX3_fill_12 ?_
      refine g_iload_n C 2 dX3_fill_15 rfl rfl ?_
      refine g_iload_n C 1 dX3_fill_16 rfl rfl ?_
      obtain ⟨hi17, hm⟩ := ifn hm
      refine g_iast C (by decide) hi17 dX3_fill_17 ?_
      refine g_iinc (ls' := [(2, vI (l2 + (1 : Int32))), (0, vR 3 k0), (1, vI l1)]) (v := l2 + (1 : Int32)) C 2 dX3_fill_18 rfl (iv_p1 _) (by decide) rfl ?_
      refine g_goto (tgt := 2) C dX3_fill_21 (by decide) ?_
      obtain rfl := Option.some.inj hm
      exact g_sub [1, 2, 0] rfl (g_pc rfl (K2.1 (l2 + (1 : Int32)) (mI M 21 k0 l2.toNatClampNeg l1) rfl))
  unfold f_X3_fill at hm
  refine g_iconst (v := 0) C dX3_fill_0 rfl ?_
  refine g_istore_n (ls' := [(2, vI (0 : Int32)), (0, vR 3 k0), (1, vI l1)]) C dX3_fill_1 rfl (by decide) rfl ?_
  exact g_sub [1, 2, 0] rfl (g_pc rfl (J2 l1 (0 : Int32) M hm))
def f_X4_length (fu : Nat) (M : Mem) : Option (Int32 × Mem) :=
  some (M.1 4 0 0, M)
set_option maxHeartbeats 4000000 in
set_option maxRecDepth 100000 in
theorem k_X4_length (l : Launch) (G : GE) (hl : l.stackTraces = false) (hG : GOK G) (fu : Nat)  (M : Mem) (res : Int32 × Mem) (hk0 : (4, 0) ∈ gids G) (hm : f_X4_length fu  M = some res) : CT l G yX4_length cX4_length 1 (some .int) 0 [vR 4 0] M (.inl (some (vI res.1))) res.2 := by
  refine ct_of [(0, vR 4 0)] (by decide +kernel) hl hG (Nat.le_of_ble_eq_true rfl) rfl (List.forall_mem_cons.mpr ⟨Or.inl hk0, fun _ h => nomatch h⟩) (List.forall_mem_cons.mpr ⟨Or.inl hk0, fun _ h => nomatch h⟩) (fun X hX C => ?_)
  subst hX
  have Cl := C
  unfold f_X4_length at hm
  refine g_aload_n C 0 dX4_length_0 rfl rfl ?_
  refine g_geti (k := 0) C (by decide) kf_X4_9 rfl dX4_length_1 ?_
  obtain rfl := Option.some.inj hm
  exact g_iret C dX4_length_4
def f_X4_codeAt (fu : Nat) (l1 : Int32) (M : Mem) : Option (Int32 × Mem) :=
  if (M.1 4 0 0) ≤ l1 then some ((-1 : Int32), M) else (f_X8_get fu 24 l1 M).bind (fun r13 => some (r13.1, r13.2))
set_option maxHeartbeats 4000000 in
set_option maxRecDepth 100000 in
theorem k_X4_codeAt (l : Launch) (G : GE) (hl : l.stackTraces = false) (hG : GOK G) (fu : Nat) (l1 : Int32) (M : Mem) (res : Int32 × Mem) (hk0 : (4, 0) ∈ gids G) (hm : f_X4_codeAt fu l1 M = some res) : CT l G yX4_codeAt cX4_codeAt 2 (some .int) 1 [vR 4 0, vI l1] M (.inl (some (vI res.1))) res.2 := by
  refine ct_of [(0, vR 4 0), (1, vI l1)] (by decide +kernel) hl hG (Nat.le_of_ble_eq_true rfl) rfl (List.forall_mem_cons.mpr ⟨Or.inl hk0, List.forall_mem_cons.mpr ⟨trivial, fun _ h => nomatch h⟩⟩) (List.forall_mem_cons.mpr ⟨Or.inl hk0, List.forall_mem_cons.mpr ⟨trivial, fun _ h => nomatch h⟩⟩) (fun X hX C => ?_)
  subst hX
  have Cl := C
  unfold f_X4_codeAt at hm
  refine g_iload_n C 1 dX4_codeAt_0 rfl rfl ?_
  refine g_aload_n C 0 dX4_codeAt_1 rfl rfl ?_
  refine g_geti (k := 0) C (by decide) kf_X4_9 rfl dX4_codeAt_2 ?_
  refine g_icmp_ge (tgt := 19) C dX4_codeAt_5 (by decide) (fun h5 => ?_) (fun h5 => ?_)
  · have hm := ift hm h5
    refine g_iconst (v := -1) C dX4_codeAt_19 rfl ?_
    obtain rfl := Option.some.inj hm
    exact g_iret C dX4_codeAt_20
  · have hm := ife hm h5
    refine g_aload_n C 0 dX4_codeAt_8 rfl rfl ?_
    refine g_getr (k := 0) (k' := 24) C (by decide) kf_X4_20 rfl rfl dX4_codeAt_9 ?_
    refine g_iload_n C 1 dX4_codeAt_12 rfl rfl ?_
    obtain ⟨r13, hr13, hm⟩ := bnd_some hm
    refine g_callVi (As := [vI l1]) (rest := []) C lk_X4_24 (k_X8_get X.2.1 G hl hG fu 24 l1 M r13 ((hG _ hk0).2 1 8 24 0 rfl) hr13) (by decide) rfl rfl rfl (Nat.le_of_ble_eq_true rfl) ⟨Nat.le_of_ble_eq_true rfl, Nat.le_of_ble_eq_true rfl⟩ dX4_codeAt_13 ?_
    refine g_goto (tgt := 20) C dX4_codeAt_16 (by decide) ?_
    obtain rfl := Option.some.inj hm
    exact g_iret C dX4_codeAt_20
def f_X4_arrowAt (fu : Nat) (l1 : Int32) (M : Mem) : Option (Int32 × Mem) :=
  (f_X4_codeAt fu l1 M).bind (fun r2 => some (r2.1 - (97 : Int32), r2.2))
set_option maxHeartbeats 4000000 in
set_option maxRecDepth 100000 in
theorem k_X4_arrowAt (l : Launch) (G : GE) (hl : l.stackTraces = false) (hG : GOK G) (fu : Nat) (l1 : Int32) (M : Mem) (res : Int32 × Mem) (hk0 : (4, 0) ∈ gids G) (hm : f_X4_arrowAt fu l1 M = some res) : CT l G yX4_arrowAt cX4_arrowAt 2 (some .int) 2 [vR 4 0, vI l1] M (.inl (some (vI res.1))) res.2 := by
  refine ct_of [(0, vR 4 0), (1, vI l1)] (by decide +kernel) hl hG (Nat.le_of_ble_eq_true rfl) rfl (List.forall_mem_cons.mpr ⟨Or.inl hk0, List.forall_mem_cons.mpr ⟨trivial, fun _ h => nomatch h⟩⟩) (List.forall_mem_cons.mpr ⟨Or.inl hk0, List.forall_mem_cons.mpr ⟨trivial, fun _ h => nomatch h⟩⟩) (fun X hX C => ?_)
  subst hX
  have Cl := C
  unfold f_X4_arrowAt at hm
  refine g_aload_n C 0 dX4_arrowAt_0 rfl rfl ?_
  refine g_iload_n C 1 dX4_arrowAt_1 rfl rfl ?_
  obtain ⟨r2, hr2, hm⟩ := bnd_some hm
  refine g_callVi (As := [vI l1]) (rest := []) C lk_X4_28 (k_X4_codeAt X.2.1 G hl hG fu l1 M r2 hk0 hr2) (by decide) rfl rfl rfl (Nat.le_of_ble_eq_true rfl) ⟨Nat.le_of_ble_eq_true rfl, Nat.le_of_ble_eq_true rfl⟩ dX4_arrowAt_2 ?_
  refine g_bipush (v := 97) C dX4_arrowAt_5 rfl ?_
  refine g_isub C dX4_arrowAt_7 ?_
  obtain rfl := Option.some.inj hm
  exact g_iret C dX4_arrowAt_8
def f_X4_put (fu : Nat) (l1 : Int32) (M : Mem) : Option (Mem) :=
  (f_X8_set fu 24 (M.1 4 0 0) l1 M).bind (fun r9 => some (mI r9 4 0 0 ((r9.1 4 0 0) + (1 : Int32))))
set_option maxHeartbeats 4000000 in
set_option maxRecDepth 100000 in
theorem k_X4_put (l : Launch) (G : GE) (hl : l.stackTraces = false) (hG : GOK G) (fu : Nat) (l1 : Int32) (M : Mem) (res : Mem) (hk0 : (4, 0) ∈ gids G) (hm : f_X4_put fu l1 M = some res) : CT l G yX4_put cX4_put 2 none 1 [vR 4 0, vI l1] M (.inl none) res := by
  refine ct_of [(0, vR 4 0), (1, vI l1)] (by decide +kernel) hl hG (Nat.le_of_ble_eq_true rfl) rfl (List.forall_mem_cons.mpr ⟨Or.inl hk0, List.forall_mem_cons.mpr ⟨trivial, fun _ h => nomatch h⟩⟩) (List.forall_mem_cons.mpr ⟨Or.inl hk0, List.forall_mem_cons.mpr ⟨trivial, fun _ h => nomatch h⟩⟩) (fun X hX C => ?_)
  subst hX
  have Cl := C
  unfold f_X4_put at hm
  refine g_aload_n C 0 dX4_put_0 rfl rfl ?_
  refine g_getr (k := 0) (k' := 24) C (by decide) kf_X4_20 rfl rfl dX4_put_1 ?_
  refine g_aload_n C 0 dX4_put_4 rfl rfl ?_
  refine g_geti (k := 0) C (by decide) kf_X4_9 rfl dX4_put_5 ?_
  refine g_iload_n C 1 dX4_put_8 rfl rfl ?_
  obtain ⟨r9, hr9, hm⟩ := bnd_some hm
  refine g_callVv (As := [vI (M.1 4 0 0), vI l1]) (rest := []) C lk_X4_31 (k_X8_set X.2.1 G hl hG fu 24 (M.1 4 0 0) l1 M r9 ((hG _ hk0).2 1 8 24 0 rfl) hr9) (by decide) rfl rfl rfl (Nat.le_of_ble_eq_true rfl) ⟨Nat.le_of_ble_eq_true rfl, Nat.le_of_ble_eq_true rfl⟩ dX4_put_9 ?_
  refine g_aload_n C 0 dX4_put_12 rfl rfl ?_
  refine g_dup C dX4_put_13 rfl ?_
  refine g_geti (k := 0) C (by decide) kf_X4_9 rfl dX4_put_14 ?_
  refine g_iconst (v := 1) C dX4_put_17 rfl ?_
  refine g_iadd C dX4_put_18 ?_
  refine g_puti C (by decide) kf_X4_9 rfl rfl rfl dX4_put_19 ?_
  obtain rfl := Option.some.inj hm
  exact g_vret C dX4_put_22
def f_X4_clear (fu : Nat) (M : Mem) : Option (Mem) :=
  some (mI M 4 0 0 (0 : Int32))
set_option maxHeartbeats 4000000 in
set_option maxRecDepth 100000 in
theorem k_X4_clear (l : Launch) (G : GE) (hl : l.stackTraces = false) (hG : GOK G) (fu : Nat)  (M : Mem) (res : Mem) (hk0 : (4, 0) ∈ gids G) (hm : f_X4_clear fu  M = some res) : CT l G yX4_clear cX4_clear 1 none 0 [vR 4 0] M (.inl none) res := by
  refine ct_of [(0, vR 4 0)] (by decide +kernel) hl hG (Nat.le_of_ble_eq_true rfl) rfl (List.forall_mem_cons.mpr ⟨Or.inl hk0, fun _ h => nomatch h⟩) (List.forall_mem_cons.mpr ⟨Or.inl hk0, fun _ h => nomatch h⟩) (fun X hX C => ?_)
  subst hX
  have Cl := C
  unfold f_X4_clear at hm
  refine g_aload_n C 0 dX4_clear_0 rfl rfl ?_
  refine g_iconst (v := 0) C dX4_clear_1 rfl ?_
  refine g_puti C (by decide) kf_X4_9 rfl rfl rfl dX4_clear_2 ?_
  obtain rfl := Option.some.inj hm
  exact g_vret C dX4_clear_5
def f_X5_forget (fu : Nat) (M : Mem) : Option (Mem) :=
  some (mI (mI M 5 0 0 (0 : Int32)) 5 0 1 (0 : Int32))
set_option maxHeartbeats 4000000 in
set_option maxRecDepth 100000 in
theorem k_X5_forget (l : Launch) (G : GE) (hl : l.stackTraces = false) (hG : GOK G) (fu : Nat)  (M : Mem) (res : Mem) (hk0 : (5, 0) ∈ gids G) (hm : f_X5_forget fu  M = some res) : CT l G yX5_forget cX5_forget 1 none 0 [vR 5 0] M (.inl none) res := by
  refine ct_of [(0, vR 5 0)] (by decide +kernel) hl hG (Nat.le_of_ble_eq_true rfl) rfl (List.forall_mem_cons.mpr ⟨Or.inl hk0, fun _ h => nomatch h⟩) (List.forall_mem_cons.mpr ⟨Or.inl hk0, fun _ h => nomatch h⟩) (fun X hX C => ?_)
  subst hX
  have Cl := C
  unfold f_X5_forget at hm
  refine g_aload_n C 0 dX5_forget_0 rfl rfl ?_
  refine g_iconst (v := 0) C dX5_forget_1 rfl ?_
  refine g_puti0 C (by decide) kf_X5_9 rfl rfl rfl rfl dX5_forget_2 ?_
  refine g_aload_n C 0 dX5_forget_5 rfl rfl ?_
  refine g_iconst (v := 0) C dX5_forget_6 rfl ?_
  refine g_puti0 C (by decide) kf_X5_15 rfl rfl rfl rfl dX5_forget_7 ?_
  obtain rfl := Option.some.inj hm
  exact g_vret C dX5_forget_10
def f_X6_total (fu : Nat) (M : Mem) : Option (Int32 × Mem) :=
  some (M.1 6 0 0, M)
set_option maxHeartbeats 4000000 in
set_option maxRecDepth 100000 in
theorem k_X6_total (l : Launch) (G : GE) (hl : l.stackTraces = false) (hG : GOK G) (fu : Nat)  (M : Mem) (res : Int32 × Mem) (hk0 : (6, 0) ∈ gids G) (hm : f_X6_total fu  M = some res) : CT l G yX6_total cX6_total 1 (some .int) 0 [vR 6 0] M (.inl (some (vI res.1))) res.2 := by
  refine ct_of [(0, vR 6 0)] (by decide +kernel) hl hG (Nat.le_of_ble_eq_true rfl) rfl (List.forall_mem_cons.mpr ⟨Or.inl hk0, fun _ h => nomatch h⟩) (List.forall_mem_cons.mpr ⟨Or.inl hk0, fun _ h => nomatch h⟩) (fun X hX C => ?_)
  subst hX
  have Cl := C
  unfold f_X6_total at hm
  refine g_aload_n C 0 dX6_total_0 rfl rfl ?_
  refine g_geti (k := 0) C (by decide) kf_X6_9 rfl dX6_total_1 ?_
  obtain rfl := Option.some.inj hm
  exact g_iret C dX6_total_4
def f_X6_last (fu : Nat) (l1 : Int32) (M : Mem) : Option (Int32 × Mem) :=
  (f_X8_get fu 18 l1 M).bind (fun r10 => (f_X3_get fu 2 l1 (r10.1 - (1 : Int32)) r10.2).bind (fun r15 => some (r15.1, r15.2)))
set_option maxHeartbeats 4000000 in
set_option maxRecDepth 100000 in
theorem k_X6_last (l : Launch) (G : GE) (hl : l.stackTraces = false) (hG : GOK G) (fu : Nat) (l1 : Int32) (M : Mem) (res : Int32 × Mem) (hk0 : (6, 0) ∈ gids G) (hm : f_X6_last fu l1 M = some res) : CT l G yX6_last cX6_last 2 (some .int) 1 [vR 6 0, vI l1] M (.inl (some (vI res.1))) res.2 := by
  refine ct_of [(0, vR 6 0), (1, vI l1)] (by decide +kernel) hl hG (Nat.le_of_ble_eq_true rfl) rfl (List.forall_mem_cons.mpr ⟨Or.inl hk0, List.forall_mem_cons.mpr ⟨trivial, fun _ h => nomatch h⟩⟩) (List.forall_mem_cons.mpr ⟨Or.inl hk0, List.forall_mem_cons.mpr ⟨trivial, fun _ h => nomatch h⟩⟩) (fun X hX C => ?_)
  subst hX
  have Cl := C
  unfold f_X6_last at hm
  refine g_aload_n C 0 dX6_last_0 rfl rfl ?_
  refine g_getr (k := 0) (k' := 2) C (by decide) kf_X6_35 rfl rfl dX6_last_1 ?_
  refine g_iload_n C 1 dX6_last_4 rfl rfl ?_
  refine g_aload_n C 0 dX6_last_5 rfl rfl ?_
  refine g_getr (k := 0) (k' := 18) C (by decide) kf_X6_27 rfl rfl dX6_last_6 ?_
  refine g_iload_n C 1 dX6_last_9 rfl rfl ?_
  obtain ⟨r10, hr10, hm⟩ := bnd_some hm
  refine g_callVi (As := [vI l1]) (rest := [vI l1, vR 3 2]) C lk_X6_69 (k_X8_get X.2.1 G hl hG fu 18 l1 M r10 ((hG _ hk0).2 3 8 18 0 rfl) hr10) (by decide) rfl rfl rfl (Nat.le_of_ble_eq_true rfl) ⟨Nat.le_of_ble_eq_true rfl, Nat.le_of_ble_eq_true rfl⟩ dX6_last_10 ?_
  refine g_iconst (v := 1) C dX6_last_13 rfl ?_
  refine g_isub C dX6_last_14 ?_
  obtain ⟨r15, hr15, hm⟩ := bnd_some hm
  refine g_callVi (As := [vI l1, vI (r10.1 - (1 : Int32))]) (rest := []) C lk_X6_72 (k_X3_get X.2.1 G hl hG fu 2 l1 (r10.1 - (1 : Int32)) r10.2 r15 ((hG _ hk0).2 4 3 2 0 rfl) hr15) (by decide) rfl rfl rfl (Nat.le_of_ble_eq_true rfl) ⟨Nat.le_of_ble_eq_true rfl, Nat.le_of_ble_eq_true rfl⟩ dX6_last_15 ?_
  obtain rfl := Option.some.inj hm
  exact g_iret C dX6_last_18
def f_X5_stepFrom_b55 (fu : Nat)  (l4 : Int32) (l5 : Int32) (l7 : Int32) (l8 : Int32) (M : Mem) : Option ((Int32 × Int32 × Mem) ⊕ ((Int32 × Mem) ⊕ (Int32 × Mem))) :=
  if l8 < 0 then some (Sum.inr (Sum.inl (l7, M))) else (f_X6_last fu l7 M).bind (fun r63 => (f_X3_get fu 2 l4 l8 r63.2).bind (fun r74 => if r63.1 = r74.1 then (f_X8_get fu 19 l7 r74.2).bind (fun r88 => some (Sum.inl (r88.1, l8 + (-1 : Int32), r88.2))) else some (Sum.inr (Sum.inr ((-1 : Int32), r74.2)))))
def f_X5_stepFrom_b102 (fu : Nat)  (l5 : Int32) (l7 : Int32) (l8 : Int32) (M : Mem) : Option ((Int32 × Int32 × Mem) ⊕ (Int32 × Mem)) :=
  (f_X8_get fu 18 l5 M).bind (fun r110 => if r110.1 ≤ l8 then some (Sum.inr (l7, r110.2)) else (f_X3_get fu 2 l5 l8 r110.2).bind (fun r130 => (f_X3_get fu 3 l7 r130.1 r130.2).bind (fun r133 => some (Sum.inl (r133.1, l8 + (1 : Int32), r133.2)))))
def f_X5_stepFrom_h102 (fu : Nat)   (l5 : Int32) (l7 : Int32) (l8 : Int32) (M : Mem) : Option (Int32 × Mem) :=
  (lp_run (fun s => f_X5_stepFrom_b102 fu  l5 s.1 s.2.1 s.2.2) fu (l7, l8, M)).bind (fun r102 => match r102 with
    | (l7, M) => some (l7, M))
def f_X5_stepFrom_h55 (fu : Nat)   (l4 : Int32) (l5 : Int32) (l7 : Int32) (l8 : Int32) (M : Mem) : Option (Int32 × Mem) :=
  (lp_run (fun s => f_X5_stepFrom_b55 fu  l4 l5 s.1 s.2.1 s.2.2) fu (l7, l8, M)).bind (fun r55 => match r55 with
    | Sum.inl (l7, M) => f_X5_stepFrom_h102 fu l5 l7 (0 : Int32) M
    | Sum.inr q55 => some q55)
def f_X5_stepFrom (fu : Nat) (l2 : Int32) (l3 : Int32) (l4 : Int32) (l5 : Int32) (M : Mem) : Option (Int32 × Mem) :=
  (f_X8_get fu 19 l2 M).bind (fun r9 => (f_X3_get fu 4 r9.1 l3 r9.2).bind (fun r13 => if r13.1 = (-1 : Int32) then (f_X8_get fu 18 l4 r13.2).bind (fun r48 => f_X5_stepFrom_h55 fu l4 l5 l2 (r48.1 - (1 : Int32)) r48.2) else (f_X6_last fu l2 r13.2).bind (fun r32 => (f_X3_get fu 3 r13.1 r32.1 r32.2).bind (fun r35 => some (r35.1, r35.2)))))
set_option maxHeartbeats 4000000 in
set_option maxRecDepth 100000 in
theorem k_X5_stepFrom (l : Launch) (G : GE) (hl : l.stackTraces = false) (hG : GOK G) (fu : Nat) (l2 : Int32) (l3 : Int32) (l4 : Int32) (l5 : Int32) (M : Mem) (res : Int32 × Mem) (hk0 : (5, 0) ∈ gids G) (hk1 : (6, 0) ∈ gids G) (hm : f_X5_stepFrom fu l2 l3 l4 l5 M = some res) : CT l G yX5_stepFrom cX5_stepFrom 9 (some .int) 2 [vR 5 0, vR 6 0, vI l2, vI l3, vI l4, vI l5] M (.inl (some (vI res.1))) res.2 := by
  refine ct_of [(0, vR 5 0), (1, vR 6 0), (2, vI l2), (3, vI l3), (4, vI l4), (5, vI l5)] (by decide +kernel) hl hG (Nat.le_of_ble_eq_true rfl) rfl (List.forall_mem_cons.mpr ⟨Or.inl hk0, List.forall_mem_cons.mpr ⟨Or.inl hk1, List.forall_mem_cons.mpr ⟨trivial, List.forall_mem_cons.mpr ⟨trivial, List.forall_mem_cons.mpr ⟨trivial, List.forall_mem_cons.mpr ⟨trivial, fun _ h => nomatch h⟩⟩⟩⟩⟩⟩) (List.forall_mem_cons.mpr ⟨Or.inl hk0, List.forall_mem_cons.mpr ⟨Or.inl hk1, List.forall_mem_cons.mpr ⟨trivial, List.forall_mem_cons.mpr ⟨trivial, List.forall_mem_cons.mpr ⟨trivial, List.forall_mem_cons.mpr ⟨trivial, fun _ h => nomatch h⟩⟩⟩⟩⟩⟩) (fun X hX C => ?_)
  subst hX
  have Cl := C
  have J102 : ∀ (l5 : Int32) (l7 : Int32) (l8 : Int32) (M : Mem), f_X5_stepFrom_h102 fu   l5 l7 l8 M = some res → GW G X 9 (QX G X (.inl (some (vI res.1))) res.2) 102 [(1, vR 6 0), (5, vI l5), (7, vI l7), (8, vI l8)] [] M := by
    intro l5 l7 l8 M hm
    unfold f_X5_stepFrom_h102 at hm
    obtain ⟨r102, hL102, hk102⟩ := bnd_some hm
    have hx102 : ∀ (l7 : Int32) (M : Mem), (l7, M) = r102 → GW G X 9 (QX G X (.inl (some (vI res.1))) res.2) 144 [(7, vI l7)] [] M := by
      intro l7 M he
      subst he
      have hm := hk102
      try dsimp only at hm
      refine g_iload C 0 dX5_stepFrom_144 rfl ?_
      obtain rfl := Option.some.inj hm
      exact g_iret C dX5_stepFrom_146
    refine lp_ind2 (P := (fun l7 l8 M => GW G X 9 (QX G X (.inl (some (vI res.1))) res.2) 102 [(1, vR 6 0), (5, vI l5), (7, vI l7), (8, vI l8)] [] M)) (r := r102) ?_ fu l7 l8 M hL102
    intro l7 l8 M o102 hm K102
    unfold f_X5_stepFrom_b102 at hm
    refine g_iload C 3 dX5_stepFrom_102 rfl ?_
    refine g_aload_n C 0 dX5_stepFrom_104 rfl rfl ?_
    refine g_getrN (k := 0) (k' := 18) C (by decide) kf_X5_134 rfl rfl dX5_stepFrom_105 ?_
    refine g_iload C 1 dX5_stepFrom_108 rfl ?_
    obtain ⟨r110, hr110, hm⟩ := bnd_some hm
    refine g_callVi (As := [vI l5]) (rest := [vI l8]) C lk_X5_93 (k_X8_get X.2.1 G hl hG fu 18 l5 M r110 ((hG _ hk1).2 3 8 18 0 rfl) hr110) (by decide) rfl rfl rfl (Nat.le_of_ble_eq_true rfl) ⟨Nat.le_of_ble_eq_true rfl, Nat.le_of_ble_eq_true rfl⟩ dX5_stepFrom_110 ?_
    refine g_icmp_ge (tgt := 144) C dX5_stepFrom_113 (by decide) (fun h113 => ?_) (fun h113 => ?_)
    · have hm := ift hm h113
      obtain rfl := Option.some.inj hm
      exact g_sub [2] rfl (g_pc rfl (hx102 l7 r110.2 (K102.2 _ rfl)))
    · have hm := ife hm h113
      refine g_aload_n C 0 dX5_stepFrom_116 rfl rfl ?_
      refine g_getrN (k := 0) (k' := 3) C (by decide) kf_X5_128 rfl rfl dX5_stepFrom_117 ?_
      refine g_iload C 2 dX5_stepFrom_120 rfl ?_
      refine g_aload_n C 0 dX5_stepFrom_122 rfl rfl ?_
      refine g_getrN (k := 0) (k' := 2) C (by decide) kf_X5_137 rfl rfl dX5_stepFrom_123 ?_
      refine g_iload C 1 dX5_stepFrom_126 rfl ?_
      refine g_iload C 3 dX5_stepFrom_128 rfl ?_
      obtain ⟨r130, hr130, hm⟩ := bnd_some hm
      refine g_callVi (As := [vI l5, vI l8]) (rest := [vI l7, vR 3 3]) C lk_X5_97 (k_X3_get X.2.1 G hl hG fu 2 l5 l8 r110.2 r130 ((hG _ hk1).2 4 3 2 0 rfl) hr130) (by decide) rfl rfl rfl (Nat.le_of_ble_eq_true rfl) ⟨Nat.le_of_ble_eq_true rfl, Nat.le_of_ble_eq_true rfl⟩ dX5_stepFrom_130 ?_
      obtain ⟨r133, hr133, hm⟩ := bnd_some hm
      refine g_callVi (As := [vI l7, vI r130.1]) (rest := []) C lk_X5_97 (k_X3_get X.2.1 G hl hG fu 3 l7 r130.1 r130.2 r133 ((hG _ hk1).2 6 3 3 0 rfl) hr133) (by decide) rfl rfl rfl (Nat.le_of_ble_eq_true rfl) ⟨Nat.le_of_ble_eq_true rfl, Nat.le_of_ble_eq_true rfl⟩ dX5_stepFrom_133 ?_
      refine g_istore (ls' := [(7, vI r133.1), (1, vR 6 0), (5, vI l5), (8, vI l8)]) C dX5_stepFrom_136 (by decide) rfl ?_
      refine g_iinc (ls' := [(8, vI (l8 + (1 : Int32))), (7, vI r133.1), (1, vR 6 0), (5, vI l5)]) (v := l8 + (1 : Int32)) C 3 dX5_stepFrom_138 rfl (iv_p1 _) (by decide) rfl ?_
      refine g_goto (tgt := 102) C dX5_stepFrom_141 (by decide) ?_
      obtain rfl := Option.some.inj hm
      exact g_sub [2, 3, 1, 0] rfl (g_pc rfl (K102.1 r133.1 (l8 + (1 : Int32)) r133.2 rfl))
  have J55 : ∀ (l4 : Int32) (l5 : Int32) (l7 : Int32) (l8 : Int32) (M : Mem), f_X5_stepFrom_h55 fu   l4 l5 l7 l8 M = some res → GW G X 9 (QX G X (.inl (some (vI res.1))) res.2) 55 [(1, vR 6 0), (4, vI l4), (5, vI l5), (7, vI l7), (8, vI l8)] [] M := by
    intro l4 l5 l7 l8 M hm
    unfold f_X5_stepFrom_h55 at hm
    obtain ⟨r55, hL55, hk55⟩ := bnd_some hm
    have hx55 : ∀ (l7 : Int32) (M : Mem), Sum.inl (l7, M) = r55 → GW G X 9 (QX G X (.inl (some (vI res.1))) res.2) 99 [(1, vR 6 0), (5, vI l5), (7, vI l7)] [] M := by
      intro l7 M he
      subst he
      have hm := hk55
      try dsimp only at hm
      refine g_iconst (v := 0) C dX5_stepFrom_99 rfl ?_
      refine g_istore (ls' := [(8, vI (0 : Int32)), (1, vR 6 0), (5, vI l5), (7, vI l7)]) C dX5_stepFrom_100 (by decide) rfl ?_
      exact g_sub [1, 2, 3, 0] rfl (g_pc rfl (J102 l5 l7 (0 : Int32) M hm))
    refine lp_ind2 (P := (fun l7 l8 M => GW G X 9 (QX G X (.inl (some (vI res.1))) res.2) 55 [(1, vR 6 0), (4, vI l4), (5, vI l5), (7, vI l7), (8, vI l8)] [] M)) (r := r55) ?_ fu l7 l8 M hL55
    intro l7 l8 M o55 hm K55
    unfold f_X5_stepFrom_b55 at hm
    refine g_iload C 4 dX5_stepFrom_55 rfl ?_
    refine g_if_lt (tgt := 99) C dX5_stepFrom_57 (by decide) (fun h57 => ?_) (fun h57 => ?_)
    · have hm := ift hm h57
      obtain rfl := Option.some.inj hm
      exact g_sub [0, 2, 3] rfl (g_pc rfl (hx55 l7 M (K55.2 _ rfl)))
    · have hm := ife hm h57
      refine g_aload_n C 0 dX5_stepFrom_60 rfl rfl ?_
      refine g_iload C 3 dX5_stepFrom_61 rfl ?_
      obtain ⟨r63, hr63, hm⟩ := bnd_some hm
      refine g_callVi (As := [vI l7]) (rest := []) C lk_X5_131 (k_X6_last X.2.1 G hl hG fu l7 M r63 hk1 hr63) (by decide) rfl rfl rfl (Nat.le_of_ble_eq_true rfl) ⟨Nat.le_of_ble_eq_true rfl, Nat.le_of_ble_eq_true rfl⟩ dX5_stepFrom_63 ?_
      refine g_aload_n C 0 dX5_stepFrom_66 rfl rfl ?_
      refine g_getrN (k := 0) (k' := 2) C (by decide) kf_X5_137 rfl rfl dX5_stepFrom_67 ?_
      refine g_iload C 1 dX5_stepFrom_70 rfl ?_
      refine g_iload C 4 dX5_stepFrom_72 rfl ?_
      obtain ⟨r74, hr74, hm⟩ := bnd_some hm
      refine g_callVi (As := [vI l4, vI l8]) (rest := [vI r63.1]) C lk_X5_97 (k_X3_get X.2.1 G hl hG fu 2 l4 l8 r63.2 r74 ((hG _ hk1).2 4 3 2 0 rfl) hr74) (by decide) rfl rfl rfl (Nat.le_of_ble_eq_true rfl) ⟨Nat.le_of_ble_eq_true rfl, Nat.le_of_ble_eq_true rfl⟩ dX5_stepFrom_74 ?_
      refine g_icmp_eq (tgt := 82) C dX5_stepFrom_77 (by decide) (fun h77 => ?_) (fun h77 => ?_)
      · have hm := ift hm h77
        refine g_aload_n C 0 dX5_stepFrom_82 rfl rfl ?_
        refine g_getrN (k := 0) (k' := 19) C (by decide) kf_X5_125 rfl rfl dX5_stepFrom_83 ?_
        refine g_iload C 3 dX5_stepFrom_86 rfl ?_
        obtain ⟨r88, hr88, hm⟩ := bnd_some hm
        refine g_callVi (As := [vI l7]) (rest := []) C lk_X5_93 (k_X8_get X.2.1 G hl hG fu 19 l7 r74.2 r88 ((hG _ hk1).2 5 8 19 0 rfl) hr88) (by decide) rfl rfl rfl (Nat.le_of_ble_eq_true rfl) ⟨Nat.le_of_ble_eq_true rfl, Nat.le_of_ble_eq_true rfl⟩ dX5_stepFrom_88 ?_
        refine g_istore (ls' := [(7, vI r88.1), (1, vR 6 0), (4, vI l4), (5, vI l5), (8, vI l8)]) C dX5_stepFrom_91 (by decide) rfl ?_
        refine g_iinc (ls' := [(8, vI (l8 + (-1 : Int32))), (7, vI r88.1), (1, vR 6 0), (4, vI l4), (5, vI l5)]) (v := l8 + (-1 : Int32)) C 4 dX5_stepFrom_93 rfl (iv_m1 _) (by decide) rfl ?_
        refine g_goto (tgt := 55) C dX5_stepFrom_96 (by decide) ?_
        obtain rfl := Option.some.inj hm
        exact g_sub [2, 3, 4, 1, 0] rfl (g_pc rfl (K55.1 r88.1 (l8 + (-1 : Int32)) r88.2 rfl))
      · have hm := ife hm h77
        refine g_iconst (v := -1) C dX5_stepFrom_80 rfl ?_
        obtain rfl := Option.some.inj hm
        have e55 := K55.2 _ rfl
        subst e55
        obtain rfl := Option.some.inj hk55
        exact g_iret C dX5_stepFrom_81
  unfold f_X5_stepFrom at hm
  refine g_aload_n C 0 dX5_stepFrom_0 rfl rfl ?_
  refine g_getr (k := 0) (k' := 4) C (by decide) kf_X5_36 rfl rfl dX5_stepFrom_1 ?_
  refine g_aload_n C 1 dX5_stepFrom_4 rfl rfl ?_
  refine g_getrN (k := 0) (k' := 19) C (by decide) kf_X5_125 rfl rfl dX5_stepFrom_5 ?_
  refine g_iload_n C 2 dX5_stepFrom_8 rfl rfl ?_
  obtain ⟨r9, hr9, hm⟩ := bnd_some hm
  refine g_callVi (As := [vI l2]) (rest := [vR 3 4]) C lk_X5_93 (k_X8_get X.2.1 G hl hG fu 19 l2 M r9 ((hG _ hk1).2 5 8 19 0 rfl) hr9) (by decide) rfl rfl rfl (Nat.le_of_ble_eq_true rfl) ⟨Nat.le_of_ble_eq_true rfl, Nat.le_of_ble_eq_true rfl⟩ dX5_stepFrom_9 ?_
  refine g_iload_n C 3 dX5_stepFrom_12 rfl rfl ?_
  obtain ⟨r13, hr13, hm⟩ := bnd_some hm
  refine g_callVi (As := [vI r9.1, vI l3]) (rest := []) C lk_X5_97 (k_X3_get X.2.1 G hl hG fu 4 r9.1 l3 r9.2 r13 ((hG _ hk0).2 6 3 4 0 rfl) hr13) (by decide) rfl rfl rfl (Nat.le_of_ble_eq_true rfl) ⟨Nat.le_of_ble_eq_true rfl, Nat.le_of_ble_eq_true rfl⟩ dX5_stepFrom_13 ?_
  refine g_istore (ls' := [(6, vI r13.1), (0, vR 5 0), (1, vR 6 0), (2, vI l2), (3, vI l3), (4, vI l4), (5, vI l5)]) C dX5_stepFrom_16 (by decide) rfl ?_
  refine g_iload C 0 dX5_stepFrom_18 rfl ?_
  refine g_iconst (v := -1) C dX5_stepFrom_20 rfl ?_
  refine g_icmp_eq (tgt := 39) C dX5_stepFrom_21 (by decide) (fun h21 => ?_) (fun h21 => ?_)
  · have hm := ift hm h21
    refine g_iload_n C 3 dX5_stepFrom_39 rfl rfl ?_
    refine g_istore (ls' := [(7, vI l2), (6, vI r13.1), (0, vR 5 0), (1, vR 6 0), (2, vI l2), (3, vI l3), (4, vI l4), (5, vI l5)]) C dX5_stepFrom_40 (by decide) rfl ?_
    refine g_aload_n C 3 dX5_stepFrom_42 rfl rfl ?_
    refine g_getrN (k := 0) (k' := 18) C (by decide) kf_X5_134 rfl rfl dX5_stepFrom_43 ?_
    refine g_iload C 6 dX5_stepFrom_46 rfl ?_
    obtain ⟨r48, hr48, hm⟩ := bnd_some hm
    refine g_callVi (As := [vI l4]) (rest := []) C lk_X5_93 (k_X8_get X.2.1 G hl hG fu 18 l4 r13.2 r48 ((hG _ hk1).2 3 8 18 0 rfl) hr48) (by decide) rfl rfl rfl (Nat.le_of_ble_eq_true rfl) ⟨Nat.le_of_ble_eq_true rfl, Nat.le_of_ble_eq_true rfl⟩ dX5_stepFrom_48 ?_
    refine g_iconst (v := 1) C dX5_stepFrom_51 rfl ?_
    refine g_isub C dX5_stepFrom_52 ?_
    refine g_istore (ls' := [(8, vI (r48.1 - (1 : Int32))), (7, vI l2), (6, vI r13.1), (0, vR 5 0), (1, vR 6 0), (2, vI l2), (3, vI l3), (4, vI l4), (5, vI l5)]) C dX5_stepFrom_53 (by decide) rfl ?_
    exact g_sub [4, 7, 8, 1, 0] rfl (g_pc rfl (J55 l4 l5 l2 (r48.1 - (1 : Int32)) r48.2 hm))
  · have hm := ife hm h21
    refine g_aload_n C 2 dX5_stepFrom_24 rfl rfl ?_
    refine g_getrN (k := 0) (k' := 3) C (by decide) kf_X5_128 rfl rfl dX5_stepFrom_25 ?_
    refine g_iload C 0 dX5_stepFrom_28 rfl ?_
    refine g_aload_n C 2 dX5_stepFrom_30 rfl rfl ?_
    refine g_iload_n C 3 dX5_stepFrom_31 rfl rfl ?_
    obtain ⟨r32, hr32, hm⟩ := bnd_some hm
    refine g_callVi (As := [vI l2]) (rest := [vI r13.1, vR 3 3]) C lk_X5_131 (k_X6_last X.2.1 G hl hG fu l2 r13.2 r32 hk1 hr32) (by decide) rfl rfl rfl (Nat.le_of_ble_eq_true rfl) ⟨Nat.le_of_ble_eq_true rfl, Nat.le_of_ble_eq_true rfl⟩ dX5_stepFrom_32 ?_
    obtain ⟨r35, hr35, hm⟩ := bnd_some hm
    refine g_callVi (As := [vI r13.1, vI r32.1]) (rest := []) C lk_X5_97 (k_X3_get X.2.1 G hl hG fu 3 r13.1 r32.1 r32.2 r35 ((hG _ hk1).2 6 3 3 0 rfl) hr35) (by decide) rfl rfl rfl (Nat.le_of_ble_eq_true rfl) ⟨Nat.le_of_ble_eq_true rfl, Nat.le_of_ble_eq_true rfl⟩ dX5_stepFrom_35 ?_
    obtain rfl := Option.some.inj hm
    exact g_iret C dX5_stepFrom_38
def f_X5_reach (fu : Nat) (l1 : Int32) (l2 : Int32) (M : Mem) : Option (Mem) :=
  (f_X8_set fu 22 l1 l2 M).bind (fun r6 => (f_X8_set fu 23 (r6.1 5 0 5) l1 r6).bind (fun r18 => some (mI r18 5 0 5 ((r18.1 5 0 5) + (1 : Int32)))))
set_option maxHeartbeats 4000000 in
set_option maxRecDepth 100000 in
theorem k_X5_reach (l : Launch) (G : GE) (hl : l.stackTraces = false) (hG : GOK G) (fu : Nat) (l1 : Int32) (l2 : Int32) (M : Mem) (res : Mem) (hk0 : (5, 0) ∈ gids G) (hm : f_X5_reach fu l1 l2 M = some res) : CT l G yX5_reach cX5_reach 3 none 1 [vR 5 0, vI l1, vI l2] M (.inl none) res := by
  refine ct_of [(0, vR 5 0), (1, vI l1), (2, vI l2)] (by decide +kernel) hl hG (Nat.le_of_ble_eq_true rfl) rfl (List.forall_mem_cons.mpr ⟨Or.inl hk0, List.forall_mem_cons.mpr ⟨trivial, List.forall_mem_cons.mpr ⟨trivial, fun _ h => nomatch h⟩⟩⟩) (List.forall_mem_cons.mpr ⟨Or.inl hk0, List.forall_mem_cons.mpr ⟨trivial, List.forall_mem_cons.mpr ⟨trivial, fun _ h => nomatch h⟩⟩⟩) (fun X hX C => ?_)
  subst hX
  have Cl := C
  unfold f_X5_reach at hm
  refine g_aload_n C 0 dX5_reach_0 rfl rfl ?_
  refine g_getr (k := 0) (k' := 22) C (by decide) kf_X5_52 rfl rfl dX5_reach_1 ?_
  refine g_iload_n C 1 dX5_reach_4 rfl rfl ?_
  refine g_iload_n C 2 dX5_reach_5 rfl rfl ?_
  obtain ⟨r6, hr6, hm⟩ := bnd_some hm
  refine g_callVv (As := [vI l1, vI l2]) (rest := []) C lk_X5_104 (k_X8_set X.2.1 G hl hG fu 22 l1 l2 M r6 ((hG _ hk0).2 9 8 22 0 rfl) hr6) (by decide) rfl rfl rfl (Nat.le_of_ble_eq_true rfl) ⟨Nat.le_of_ble_eq_true rfl, Nat.le_of_ble_eq_true rfl⟩ dX5_reach_6 ?_
  refine g_aload_n C 0 dX5_reach_9 rfl rfl ?_
  refine g_getr (k := 0) (k' := 23) C (by decide) kf_X5_55 rfl rfl dX5_reach_10 ?_
  refine g_aload_n C 0 dX5_reach_13 rfl rfl ?_
  refine g_geti (k := 0) C (by decide) kf_X5_28 rfl dX5_reach_14 ?_
  refine g_iload_n C 1 dX5_reach_17 rfl rfl ?_
  obtain ⟨r18, hr18, hm⟩ := bnd_some hm
  refine g_callVv (As := [vI (r6.1 5 0 5), vI l1]) (rest := []) C lk_X5_104 (k_X8_set X.2.1 G hl hG fu 23 (r6.1 5 0 5) l1 r6 r18 ((hG _ hk0).2 10 8 23 0 rfl) hr18) (by decide) rfl rfl rfl (Nat.le_of_ble_eq_true rfl) ⟨Nat.le_of_ble_eq_true rfl, Nat.le_of_ble_eq_true rfl⟩ dX5_reach_18 ?_
  refine g_aload_n C 0 dX5_reach_21 rfl rfl ?_
  refine g_dup C dX5_reach_22 rfl ?_
  refine g_geti (k := 0) C (by decide) kf_X5_28 rfl dX5_reach_23 ?_
  refine g_iconst (v := 1) C dX5_reach_26 rfl ?_
  refine g_iadd C dX5_reach_27 ?_
  refine g_puti C (by decide) kf_X5_28 rfl rfl rfl dX5_reach_28 ?_
  obtain rfl := Option.some.inj hm
  exact g_vret C dX5_reach_31
def f_X5_spread_b2 (fu : Nat)  (l1 : Int32) (l2 : Int32) (l3 : Int32) (M : Mem) : Option ((Int32 × Mem) ⊕ (Mem)) :=
  if (M.1 5 0 5) ≤ l3 then some (Sum.inr M) else (f_X8_get fu 23 l3 M).bind (fun r19 => (f_X8_set fu 22 r19.1 (-1 : Int32) r19.2).bind (fun r23 => some (Sum.inl (l3 + (1 : Int32), r23))))
def f_X5_spread_j143 (fu : Nat)  (l2 : Int32) (l3 : Int32) (l4 : Int32) (l5 : Int32) (M : Mem) : Option ((Int32 × Mem) ⊕ (Mem)) :=
  some (Sum.inl (l5 + (1 : Int32), M))
def f_X5_spread_b73 (fu : Nat)  (l2 : Int32) (l3 : Int32) (l4 : Int32) (l5 : Int32) (M : Mem) : Option ((Int32 × Mem) ⊕ (Mem)) :=
  if (M.1 5 0 2) ≤ l5 then some (Sum.inr M) else (f_X3_get fu 4 l4 l5 M).bind (fun r90 => if ((l2 >>> ((l5 / (2 : Int32)) &&& 31)) &&& (1 : Int32)) = (1 : Int32) then if r90.1 = (-1 : Int32) then f_X5_spread_j143 fu l2 l3 l4 l5 r90.2 else (f_X8_get fu 22 r90.1 r90.2).bind (fun r119 => if r119.1 = (-1 : Int32) then (f_X8_get fu 22 l4 r119.2).bind (fun r135 => (f_X5_reach fu r90.1 (r135.1 + (1 : Int32)) r135.2).bind (fun r140 => f_X5_spread_j143 fu l2 l3 l4 l5 r140)) else f_X5_spread_j143 fu l2 l3 l4 l5 r119.2) else f_X5_spread_j143 fu l2 l3 l4 l5 r90.2)
def f_X5_spread_h73 (fu : Nat)  (l2 : Int32) (l3 : Int32) (l4 : Int32) (l5 : Int32) (M : Mem) : Option ((Int32 × Mem) ⊕ (Mem)) :=
  (lp_run (fun s => f_X5_spread_b73 fu  l2 l3 l4 s.1 s.2) fu (l5, M)).bind (fun M => some (Sum.inl (l3 + (1 : Int32), M)))
def f_X5_spread_b45 (fu : Nat)  (l2 : Int32) (l3 : Int32) (M : Mem) : Option ((Int32 × Mem) ⊕ (Mem)) :=
  if (M.1 5 0 5) ≤ l3 then some (Sum.inr M) else if (300 : Int32) ≤ l3 then some (Sum.inr M) else (f_X8_get fu 23 l3 M).bind (fun r65 => f_X5_spread_h73 fu l2 l3 r65.1 (0 : Int32) r65.2)
def f_X5_spread_h45 (fu : Nat)   (l2 : Int32) (l3 : Int32) (M : Mem) : Option (Mem) :=
  (lp_run (fun s => f_X5_spread_b45 fu  l2 s.1 s.2) fu (l3, M)).bind (fun M => some M)
def f_X5_spread_h2 (fu : Nat)   (l1 : Int32) (l2 : Int32) (l3 : Int32) (M : Mem) : Option (Mem) :=
  (lp_run (fun s => f_X5_spread_b2 fu  l1 l2 s.1 s.2) fu (l3, M)).bind (fun M => (f_X5_reach fu l1 (0 : Int32) (mI M 5 0 5 (0 : Int32))).bind (fun r40 => f_X5_spread_h45 fu l2 (0 : Int32) r40))
def f_X5_spread (fu : Nat) (l1 : Int32) (l2 : Int32) (M : Mem) : Option (Mem) :=
  f_X5_spread_h2 fu l1 l2 (0 : Int32) M
set_option maxHeartbeats 4000000 in
set_option maxRecDepth 100000 in
theorem k_X5_spread (l : Launch) (G : GE) (hl : l.stackTraces = false) (hG : GOK G) (fu : Nat) (l1 : Int32) (l2 : Int32) (M : Mem) (res : Mem) (hk0 : (5, 0) ∈ gids G) (hm : f_X5_spread fu l1 l2 M = some res) : CT l G yX5_spread cX5_spread 7 none 2 [vR 5 0, vI l1, vI l2] M (.inl none) res := by
  refine ct_of [(0, vR 5 0), (1, vI l1), (2, vI l2)] (by decide +kernel) hl hG (Nat.le_of_ble_eq_true rfl) rfl (List.forall_mem_cons.mpr ⟨Or.inl hk0, List.forall_mem_cons.mpr ⟨trivial, List.forall_mem_cons.mpr ⟨trivial, fun _ h => nomatch h⟩⟩⟩) (List.forall_mem_cons.mpr ⟨Or.inl hk0, List.forall_mem_cons.mpr ⟨trivial, List.forall_mem_cons.mpr ⟨trivial, fun _ h => nomatch h⟩⟩⟩) (fun X hX C => ?_)
  subst hX
  have Cl := C
  have J45 : ∀ (l2 : Int32) (l3 : Int32) (M : Mem), f_X5_spread_h45 fu   l2 l3 M = some res → GW G X 7 (QX G X (.inl none) res) 45 [(0, vR 5 0), (2, vI l2), (3, vI l3)] [] M := by
    intro l2 l3 M hm
    unfold f_X5_spread_h45 at hm
    obtain ⟨r45, hL45, hk45⟩ := bnd_some hm
    have hx45 : ∀ (M : Mem), M = r45 → GW G X 7 (QX G X (.inl none) res) 155 [] [] M := by
      intro M he
      subst he
      have hm := hk45
      try dsimp only at hm
      obtain rfl := Option.some.inj hm
      exact g_vret C dX5_spread_155
    refine lp_ind1 (P := (fun l3 M => GW G X 7 (QX G X (.inl none) res) 45 [(0, vR 5 0), (2, vI l2), (3, vI l3)] [] M)) (r := r45) ?_ fu l3 M hL45
    intro l3 M o45 hm K45
    have J73 : ∀ (l3 : Int32) (l4 : Int32) (l5 : Int32) (M : Mem), f_X5_spread_h73 fu  l2 l3 l4 l5 M = some o45 → GW G X 7 (QX G X (.inl none) res) 73 [(0, vR 5 0), (2, vI l2), (3, vI l3), (4, vI l4), (5, vI l5)] [] M := by
      intro l3 l4 l5 M hm
      unfold f_X5_spread_h73 at hm
      obtain ⟨r73, hL73, hk73⟩ := bnd_some hm
      have hx73 : ∀ (M : Mem), M = r73 → GW G X 7 (QX G X (.inl none) res) 149 [(0, vR 5 0), (2, vI l2), (3, vI l3)] [] M := by
        intro M he
        subst he
        have hm := hk73
        try dsimp only at hm
        refine g_iinc (ls' := [(3, vI (l3 + (1 : Int32))), (0, vR 5 0), (2, vI l2)]) (v := l3 + (1 : Int32)) C 2 dX5_spread_149 rfl (iv_p1 _) (by decide) rfl ?_
        refine g_goto (tgt := 45) C dX5_spread_152 (by decide) ?_
        obtain rfl := Option.some.inj hm
        exact g_sub [1, 2, 0] rfl (g_pc rfl (K45.1 (l3 + (1 : Int32)) M rfl))
      refine lp_ind1 (P := (fun l5 M => GW G X 7 (QX G X (.inl none) res) 73 [(0, vR 5 0), (2, vI l2), (3, vI l3), (4, vI l4), (5, vI l5)] [] M)) (r := r73) ?_ fu l5 M hL73
      intro l5 M o73 hm K73
      have J143 : ∀ (l5 : Int32) (M : Mem), f_X5_spread_j143 fu  l2 l3 l4 l5 M = some o73 → GW G X 7 (QX G X (.inl none) res) 143 [(0, vR 5 0), (2, vI l2), (3, vI l3), (4, vI l4), (5, vI l5)] [] M := by
        intro l5 M hm
        unfold f_X5_spread_j143 at hm
        refine g_iinc (ls' := [(5, vI (l5 + (1 : Int32))), (0, vR 5 0), (2, vI l2), (3, vI l3), (4, vI l4)]) (v := l5 + (1 : Int32)) C 4 dX5_spread_143 rfl (iv_p1 _) (by decide) rfl ?_
        refine g_goto (tgt := 73) C dX5_spread_146 (by decide) ?_
        obtain rfl := Option.some.inj hm
        exact g_sub [1, 2, 3, 4, 0] rfl (g_pc rfl (K73.1 (l5 + (1 : Int32)) M rfl))
      unfold f_X5_spread_b73 at hm
      refine g_iload C 4 dX5_spread_73 rfl ?_
      refine g_aload_n C 0 dX5_spread_75 rfl rfl ?_
      refine g_geti (k := 0) C (by decide) kf_X5_18 rfl dX5_spread_76 ?_
      refine g_icmp_ge (tgt := 149) C dX5_spread_79 (by decide) (fun h79 => ?_) (fun h79 => ?_)
      · have hm := ift hm h79
        obtain rfl := Option.some.inj hm
        exact g_sub [0, 1, 2] rfl (g_pc rfl (hx73 M (K73.2 _ rfl)))
      · have hm := ife hm h79
        refine g_aload_n C 0 dX5_spread_82 rfl rfl ?_
        refine g_getr (k := 0) (k' := 4) C (by decide) kf_X5_36 rfl rfl dX5_spread_83 ?_
        refine g_iload C 3 dX5_spread_86 rfl ?_
        refine g_iload C 4 dX5_spread_88 rfl ?_
        obtain ⟨r90, hr90, hm⟩ := bnd_some hm
        refine g_callVi (As := [vI l4, vI l5]) (rest := []) C lk_X5_97 (k_X3_get X.2.1 G hl hG fu 4 l4 l5 M r90 ((hG _ hk0).2 6 3 4 0 rfl) hr90) (by decide) rfl rfl rfl (Nat.le_of_ble_eq_true rfl) ⟨Nat.le_of_ble_eq_true rfl, Nat.le_of_ble_eq_true rfl⟩ dX5_spread_90 ?_
        refine g_istore (ls' := [(6, vI r90.1), (0, vR 5 0), (2, vI l2), (3, vI l3), (4, vI l4), (5, vI l5)]) C dX5_spread_93 (by decide) rfl ?_
        refine g_iload_n C 2 dX5_spread_95 rfl rfl ?_
        refine g_iload C 5 dX5_spread_96 rfl ?_
        refine g_iconst (v := 2) C dX5_spread_98 rfl ?_
        refine g_idiv C dX5_spread_99 (by decide) ?_
        refine g_ishr C dX5_spread_100 ?_
        refine g_iconst (v := 1) C dX5_spread_101 rfl ?_
        refine g_iand C dX5_spread_102 ?_
        refine g_iconst (v := 1) C dX5_spread_103 rfl ?_
        refine g_icmp_ne (tgt := 143) C dX5_spread_104 (by decide) (fun h104 => ?_) (fun h104 => ?_)
        · have hm := ife hm h104
          exact g_sub [1, 2, 3, 4, 5] rfl (g_pc rfl (J143 l5 r90.2 hm))
        · have hm := ift hm h104
          refine g_iload C 0 dX5_spread_107 rfl ?_
          refine g_iconst (v := -1) C dX5_spread_109 rfl ?_
          refine g_icmp_eq (tgt := 143) C dX5_spread_110 (by decide) (fun h110 => ?_) (fun h110 => ?_)
          · have hm := ift hm h110
            exact g_sub [1, 2, 3, 4, 5] rfl (g_pc rfl (J143 l5 r90.2 hm))
          · have hm := ife hm h110
            refine g_aload_n C 1 dX5_spread_113 rfl rfl ?_
            refine g_getr (k := 0) (k' := 22) C (by decide) kf_X5_52 rfl rfl dX5_spread_114 ?_
            refine g_iload C 0 dX5_spread_117 rfl ?_
            obtain ⟨r119, hr119, hm⟩ := bnd_some hm
            refine g_callVi (As := [vI r90.1]) (rest := []) C lk_X5_93 (k_X8_get X.2.1 G hl hG fu 22 r90.1 r90.2 r119 ((hG _ hk0).2 9 8 22 0 rfl) hr119) (by decide) rfl rfl rfl (Nat.le_of_ble_eq_true rfl) ⟨Nat.le_of_ble_eq_true rfl, Nat.le_of_ble_eq_true rfl⟩ dX5_spread_119 ?_
            refine g_iconst (v := -1) C dX5_spread_122 rfl ?_
            refine g_icmp_ne (tgt := 143) C dX5_spread_123 (by decide) (fun h123 => ?_) (fun h123 => ?_)
            · have hm := ife hm h123
              exact g_sub [1, 2, 3, 4, 5] rfl (g_pc rfl (J143 l5 r119.2 hm))
            · have hm := ift hm h123
              refine g_aload_n C 1 dX5_spread_126 rfl rfl ?_
              refine g_iload C 0 dX5_spread_127 rfl ?_
              refine g_aload_n C 1 dX5_spread_129 rfl rfl ?_
              refine g_getr (k := 0) (k' := 22) C (by decide) kf_X5_52 rfl rfl dX5_spread_130 ?_
              refine g_iload C 4 dX5_spread_133 rfl ?_
              obtain ⟨r135, hr135, hm⟩ := bnd_some hm
              refine g_callVi (As := [vI l4]) (rest := [vI r90.1, vR 5 0]) C lk_X5_93 (k_X8_get X.2.1 G hl hG fu 22 l4 r119.2 r135 ((hG _ hk0).2 9 8 22 0 rfl) hr135) (by decide) rfl rfl rfl (Nat.le_of_ble_eq_true rfl) ⟨Nat.le_of_ble_eq_true rfl, Nat.le_of_ble_eq_true rfl⟩ dX5_spread_135 ?_
              refine g_iconst (v := 1) C dX5_spread_138 rfl ?_
              refine g_iadd C dX5_spread_139 ?_
              obtain ⟨r140, hr140, hm⟩ := bnd_some hm
              refine g_callVv (As := [vI r90.1, vI (r135.1 + (1 : Int32))]) (rest := []) C lk_X5_106 (k_X5_reach X.2.1 G hl hG fu r90.1 (r135.1 + (1 : Int32)) r135.2 r140 hk0 hr140) (by decide) rfl rfl rfl (Nat.le_of_ble_eq_true rfl) ⟨Nat.le_of_ble_eq_true rfl, Nat.le_of_ble_eq_true rfl⟩ dX5_spread_140 ?_
              exact g_sub [1, 2, 3, 4, 5] rfl (g_pc rfl (J143 l5 r140 hm))
    unfold f_X5_spread_b45 at hm
    refine g_iload_n C 2 dX5_spread_45 rfl rfl ?_
    refine g_aload_n C 0 dX5_spread_46 rfl rfl ?_
    refine g_geti (k := 0) C (by decide) kf_X5_28 rfl dX5_spread_47 ?_
    refine g_icmp_ge (tgt := 155) C dX5_spread_50 (by decide) (fun h50 => ?_) (fun h50 => ?_)
    · have hm := ift hm h50
      obtain rfl := Option.some.inj hm
      exact g_sub [] rfl (g_pc rfl (hx45 M (K45.2 _ rfl)))
    · have hm := ife hm h50
      refine g_iload_n C 2 dX5_spread_53 rfl rfl ?_
      refine g_sipush (v := 300) C dX5_spread_54 rfl ?_
      refine g_icmp_ge (tgt := 155) C dX5_spread_57 (by decide) (fun h57 => ?_) (fun h57 => ?_)
      · have hm := ift hm h57
        obtain rfl := Option.some.inj hm
        exact g_sub [] rfl (g_pc rfl (hx45 M (K45.2 _ rfl)))
      · have hm := ife hm h57
        refine g_aload_n C 0 dX5_spread_60 rfl rfl ?_
        refine g_getr (k := 0) (k' := 23) C (by decide) kf_X5_55 rfl rfl dX5_spread_61 ?_
        refine g_iload_n C 2 dX5_spread_64 rfl rfl ?_
        obtain ⟨r65, hr65, hm⟩ := bnd_some hm
        refine g_callVi (As := [vI l3]) (rest := []) C lk_X5_93 (k_X8_get X.2.1 G hl hG fu 23 l3 M r65 ((hG _ hk0).2 10 8 23 0 rfl) hr65) (by decide) rfl rfl rfl (Nat.le_of_ble_eq_true rfl) ⟨Nat.le_of_ble_eq_true rfl, Nat.le_of_ble_eq_true rfl⟩ dX5_spread_65 ?_
        refine g_istore (ls' := [(4, vI r65.1), (0, vR 5 0), (2, vI l2), (3, vI l3)]) C dX5_spread_68 (by decide) rfl ?_
        refine g_iconst (v := 0) C dX5_spread_70 rfl ?_
        refine g_istore (ls' := [(5, vI (0 : Int32)), (4, vI r65.1), (0, vR 5 0), (2, vI l2), (3, vI l3)]) C dX5_spread_71 (by decide) rfl ?_
        exact g_sub [2, 3, 4, 1, 0] rfl (g_pc rfl (J73 l3 r65.1 (0 : Int32) r65.2 hm))
  have J2 : ∀ (l1 : Int32) (l2 : Int32) (l3 : Int32) (M : Mem), f_X5_spread_h2 fu   l1 l2 l3 M = some res → GW G X 7 (QX G X (.inl none) res) 2 [(0, vR 5 0), (1, vI l1), (2, vI l2), (3, vI l3)] [] M := by
    intro l1 l2 l3 M hm
    unfold f_X5_spread_h2 at hm
    obtain ⟨r2, hL2, hk2⟩ := bnd_some hm
    have hx2 : ∀ (M : Mem), M = r2 → GW G X 7 (QX G X (.inl none) res) 32 [(0, vR 5 0), (1, vI l1), (2, vI l2)] [] M := by
      intro M he
      subst he
      have hm := hk2
      try dsimp only at hm
      refine g_aload_n C 0 dX5_spread_32 rfl rfl ?_
      refine g_iconst (v := 0) C dX5_spread_33 rfl ?_
      refine g_puti C (by decide) kf_X5_28 rfl rfl rfl dX5_spread_34 ?_
      refine g_aload_n C 0 dX5_spread_37 rfl rfl ?_
      refine g_iload_n C 1 dX5_spread_38 rfl rfl ?_
      refine g_iconst (v := 0) C dX5_spread_39 rfl ?_
      obtain ⟨r40, hr40, hm⟩ := bnd_some hm
      refine g_callVv (As := [vI l1, vI (0 : Int32)]) (rest := []) C lk_X5_106 (k_X5_reach X.2.1 G hl hG fu l1 (0 : Int32) (mI M 5 0 5 (0 : Int32)) r40 hk0 hr40) (by decide) rfl rfl rfl (Nat.le_of_ble_eq_true rfl) ⟨Nat.le_of_ble_eq_true rfl, Nat.le_of_ble_eq_true rfl⟩ dX5_spread_40 ?_
      refine g_iconst (v := 0) C dX5_spread_43 rfl ?_
      refine g_istore_n (ls' := [(3, vI (0 : Int32)), (0, vR 5 0), (1, vI l1), (2, vI l2)]) C dX5_spread_44 rfl (by decide) rfl ?_
      exact g_sub [1, 3, 0] rfl (g_pc rfl (J45 l2 (0 : Int32) r40 hm))
    refine lp_ind1 (P := (fun l3 M => GW G X 7 (QX G X (.inl none) res) 2 [(0, vR 5 0), (1, vI l1), (2, vI l2), (3, vI l3)] [] M)) (r := r2) ?_ fu l3 M hL2
    intro l3 M o2 hm K2
    unfold f_X5_spread_b2 at hm
    refine g_iload_n C 3 dX5_spread_2 rfl rfl ?_
    refine g_aload_n C 0 dX5_spread_3 rfl rfl ?_
    refine g_geti (k := 0) C (by decide) kf_X5_28 rfl dX5_spread_4 ?_
    refine g_icmp_ge (tgt := 32) C dX5_spread_7 (by decide) (fun h7 => ?_) (fun h7 => ?_)
    · have hm := ift hm h7
      obtain rfl := Option.some.inj hm
      exact g_sub [0, 1, 2] rfl (g_pc rfl (hx2 M (K2.2 _ rfl)))
    · have hm := ife hm h7
      refine g_aload_n C 0 dX5_spread_10 rfl rfl ?_
      refine g_getr (k := 0) (k' := 22) C (by decide) kf_X5_52 rfl rfl dX5_spread_11 ?_
      refine g_aload_n C 0 dX5_spread_14 rfl rfl ?_
      refine g_getr (k := 0) (k' := 23) C (by decide) kf_X5_55 rfl rfl dX5_spread_15 ?_
      refine g_iload_n C 3 dX5_spread_18 rfl rfl ?_
      obtain ⟨r19, hr19, hm⟩ := bnd_some hm
      refine g_callVi (As := [vI l3]) (rest := [vR 8 22]) C lk_X5_93 (k_X8_get X.2.1 G hl hG fu 23 l3 M r19 ((hG _ hk0).2 10 8 23 0 rfl) hr19) (by decide) rfl rfl rfl (Nat.le_of_ble_eq_true rfl) ⟨Nat.le_of_ble_eq_true rfl, Nat.le_of_ble_eq_true rfl⟩ dX5_spread_19 ?_
      refine g_iconst (v := -1) C dX5_spread_22 rfl ?_
      obtain ⟨r23, hr23, hm⟩ := bnd_some hm
      refine g_callVv (As := [vI r19.1, vI (-1 : Int32)]) (rest := []) C lk_X5_104 (k_X8_set X.2.1 G hl hG fu 22 r19.1 (-1 : Int32) r19.2 r23 ((hG _ hk0).2 9 8 22 0 rfl) hr23) (by decide) rfl rfl rfl (Nat.le_of_ble_eq_true rfl) ⟨Nat.le_of_ble_eq_true rfl, Nat.le_of_ble_eq_true rfl⟩ dX5_spread_23 ?_
      refine g_iinc (ls' := [(3, vI (l3 + (1 : Int32))), (0, vR 5 0), (1, vI l1), (2, vI l2)]) (v := l3 + (1 : Int32)) C 3 dX5_spread_26 rfl (iv_p1 _) (by decide) rfl ?_
      refine g_goto (tgt := 2) C dX5_spread_29 (by decide) ?_
      obtain rfl := Option.some.inj hm
      exact g_sub [1, 2, 3, 0] rfl (g_pc rfl (K2.1 (l3 + (1 : Int32)) r23 rfl))
  unfold f_X5_spread at hm
  refine g_iconst (v := 0) C dX5_spread_0 rfl ?_
  refine g_istore_n (ls' := [(3, vI (0 : Int32)), (0, vR 5 0), (1, vI l1), (2, vI l2)]) C dX5_spread_1 rfl (by decide) rfl ?_
  exact g_sub [1, 2, 3, 0] rfl (g_pc rfl (J2 l1 l2 (0 : Int32) M hm))
def f_X5_nameReached_b2 (fu : Nat)  (l1 : Int32) (l2 : Int32) (M : Mem) : Option ((Int32 × Mem) ⊕ (Mem)) :=
  if (M.1 5 0 5) ≤ l2 then some (Sum.inr M) else (f_X8_get fu 23 l2 M).bind (fun r19 => (f_X8_set fu 20 r19.1 l1 r19.2).bind (fun r23 => (f_X8_get fu 23 l2 r23).bind (fun r35 => (f_X8_set fu 21 r35.1 (r35.2.1 5 0 5) r35.2).bind (fun r42 => some (Sum.inl (l2 + (1 : Int32), r42))))))
def f_X5_nameReached_h2 (fu : Nat)   (l1 : Int32) (l2 : Int32) (M : Mem) : Option (Mem) :=
  (lp_run (fun s => f_X5_nameReached_b2 fu  l1 s.1 s.2) fu (l2, M)).bind (fun M => some M)
def f_X5_nameReached (fu : Nat) (l1 : Int32) (M : Mem) : Option (Mem) :=
  f_X5_nameReached_h2 fu l1 (0 : Int32) M
set_option maxHeartbeats 4000000 in
set_option maxRecDepth 100000 in
theorem k_X5_nameReached (l : Launch) (G : GE) (hl : l.stackTraces = false) (hG : GOK G) (fu : Nat) (l1 : Int32) (M : Mem) (res : Mem) (hk0 : (5, 0) ∈ gids G) (hm : f_X5_nameReached fu l1 M = some res) : CT l G yX5_nameReached cX5_nameReached 3 none 1 [vR 5 0, vI l1] M (.inl none) res := by
  refine ct_of [(0, vR 5 0), (1, vI l1)] (by decide +kernel) hl hG (Nat.le_of_ble_eq_true rfl) rfl (List.forall_mem_cons.mpr ⟨Or.inl hk0, List.forall_mem_cons.mpr ⟨trivial, fun _ h => nomatch h⟩⟩) (List.forall_mem_cons.mpr ⟨Or.inl hk0, List.forall_mem_cons.mpr ⟨trivial, fun _ h => nomatch h⟩⟩) (fun X hX C => ?_)
  subst hX
  have Cl := C
  have J2 : ∀ (l1 : Int32) (l2 : Int32) (M : Mem), f_X5_nameReached_h2 fu   l1 l2 M = some res → GW G X 3 (QX G X (.inl none) res) 2 [(0, vR 5 0), (1, vI l1), (2, vI l2)] [] M := by
    intro l1 l2 M hm
    unfold f_X5_nameReached_h2 at hm
    obtain ⟨r2, hL2, hk2⟩ := bnd_some hm
    have hx2 : ∀ (M : Mem), M = r2 → GW G X 3 (QX G X (.inl none) res) 51 [] [] M := by
      intro M he
      subst he
      have hm := hk2
      try dsimp only at hm
      obtain rfl := Option.some.inj hm
      exact g_vret C dX5_nameReached_51
    refine lp_ind1 (P := (fun l2 M => GW G X 3 (QX G X (.inl none) res) 2 [(0, vR 5 0), (1, vI l1), (2, vI l2)] [] M)) (r := r2) ?_ fu l2 M hL2
    intro l2 M o2 hm K2
    unfold f_X5_nameReached_b2 at hm
    refine g_iload_n C 2 dX5_nameReached_2 rfl rfl ?_
    refine g_aload_n C 0 dX5_nameReached_3 rfl rfl ?_
    refine g_geti (k := 0) C (by decide) kf_X5_28 rfl dX5_nameReached_4 ?_
    refine g_icmp_ge (tgt := 51) C dX5_nameReached_7 (by decide) (fun h7 => ?_) (fun h7 => ?_)
    · have hm := ift hm h7
      obtain rfl := Option.some.inj hm
      exact g_sub [] rfl (g_pc rfl (hx2 M (K2.2 _ rfl)))
    · have hm := ife hm h7
      refine g_aload_n C 0 dX5_nameReached_10 rfl rfl ?_
      refine g_getr (k := 0) (k' := 20) C (by decide) kf_X5_45 rfl rfl dX5_nameReached_11 ?_
      refine g_aload_n C 0 dX5_nameReached_14 rfl rfl ?_
      refine g_getr (k := 0) (k' := 23) C (by decide) kf_X5_55 rfl rfl dX5_nameReached_15 ?_
      refine g_iload_n C 2 dX5_nameReached_18 rfl rfl ?_
      obtain ⟨r19, hr19, hm⟩ := bnd_some hm
      refine g_callVi (As := [vI l2]) (rest := [vR 8 20]) C lk_X5_93 (k_X8_get X.2.1 G hl hG fu 23 l2 M r19 ((hG _ hk0).2 10 8 23 0 rfl) hr19) (by decide) rfl rfl rfl (Nat.le_of_ble_eq_true rfl) ⟨Nat.le_of_ble_eq_true rfl, Nat.le_of_ble_eq_true rfl⟩ dX5_nameReached_19 ?_
      refine g_iload_n C 1 dX5_nameReached_22 rfl rfl ?_
      obtain ⟨r23, hr23, hm⟩ := bnd_some hm
      refine g_callVv (As := [vI r19.1, vI l1]) (rest := []) C lk_X5_104 (k_X8_set X.2.1 G hl hG fu 20 r19.1 l1 r19.2 r23 ((hG _ hk0).2 7 8 20 0 rfl) hr23) (by decide) rfl rfl rfl (Nat.le_of_ble_eq_true rfl) ⟨Nat.le_of_ble_eq_true rfl, Nat.le_of_ble_eq_true rfl⟩ dX5_nameReached_23 ?_
      refine g_aload_n C 0 dX5_nameReached_26 rfl rfl ?_
      refine g_getr (k := 0) (k' := 21) C (by decide) kf_X5_49 rfl rfl dX5_nameReached_27 ?_
      refine g_aload_n C 0 dX5_nameReached_30 rfl rfl ?_
      refine g_getr (k := 0) (k' := 23) C (by decide) kf_X5_55 rfl rfl dX5_nameReached_31 ?_
      refine g_iload_n C 2 dX5_nameReached_34 rfl rfl ?_
      obtain ⟨r35, hr35, hm⟩ := bnd_some hm
      refine g_callVi (As := [vI l2]) (rest := [vR 8 21]) C lk_X5_93 (k_X8_get X.2.1 G hl hG fu 23 l2 r23 r35 ((hG _ hk0).2 10 8 23 0 rfl) hr35) (by decide) rfl rfl rfl (Nat.le_of_ble_eq_true rfl) ⟨Nat.le_of_ble_eq_true rfl, Nat.le_of_ble_eq_true rfl⟩ dX5_nameReached_35 ?_
      refine g_aload_n C 0 dX5_nameReached_38 rfl rfl ?_
      refine g_geti (k := 0) C (by decide) kf_X5_28 rfl dX5_nameReached_39 ?_
      obtain ⟨r42, hr42, hm⟩ := bnd_some hm
      refine g_callVv (As := [vI r35.1, vI (r35.2.1 5 0 5)]) (rest := []) C lk_X5_104 (k_X8_set X.2.1 G hl hG fu 21 r35.1 (r35.2.1 5 0 5) r35.2 r42 ((hG _ hk0).2 8 8 21 0 rfl) hr42) (by decide) rfl rfl rfl (Nat.le_of_ble_eq_true rfl) ⟨Nat.le_of_ble_eq_true rfl, Nat.le_of_ble_eq_true rfl⟩ dX5_nameReached_42 ?_
      refine g_iinc (ls' := [(2, vI (l2 + (1 : Int32))), (0, vR 5 0), (1, vI l1)]) (v := l2 + (1 : Int32)) C 2 dX5_nameReached_45 rfl (iv_p1 _) (by decide) rfl ?_
      refine g_goto (tgt := 2) C dX5_nameReached_48 (by decide) ?_
      obtain rfl := Option.some.inj hm
      exact g_sub [1, 2, 0] rfl (g_pc rfl (K2.1 (l2 + (1 : Int32)) r42 rfl))
  unfold f_X5_nameReached at hm
  refine g_iconst (v := 0) C dX5_nameReached_0 rfl ?_
  refine g_istore_n (ls' := [(2, vI (0 : Int32)), (0, vR 5 0), (1, vI l1)]) C dX5_nameReached_1 rfl (by decide) rfl ?_
  exact g_sub [1, 2, 0] rfl (g_pc rfl (J2 l1 (0 : Int32) M hm))
def f_X5_countClass (fu : Nat) (l1 : Int32) (l2 : Int32) (M : Mem) : Option (Mem) :=
  (f_X3_get fu 5 l1 l2 M).bind (fun r12 => (f_X3_set fu 5 l1 l2 (r12.1 + (1 : Int32)) r12.2).bind (fun r17 => some (mI r17 5 0 3 ((r17.1 5 0 3) + (1 : Int32)))))
set_option maxHeartbeats 4000000 in
set_option maxRecDepth 100000 in
theorem k_X5_countClass (l : Launch) (G : GE) (hl : l.stackTraces = false) (hG : GOK G) (fu : Nat) (l1 : Int32) (l2 : Int32) (M : Mem) (res : Mem) (hk0 : (5, 0) ∈ gids G) (hm : f_X5_countClass fu l1 l2 M = some res) : CT l G yX5_countClass cX5_countClass 3 none 1 [vR 5 0, vI l1, vI l2] M (.inl none) res := by
  refine ct_of [(0, vR 5 0), (1, vI l1), (2, vI l2)] (by decide +kernel) hl hG (Nat.le_of_ble_eq_true rfl) rfl (List.forall_mem_cons.mpr ⟨Or.inl hk0, List.forall_mem_cons.mpr ⟨trivial, List.forall_mem_cons.mpr ⟨trivial, fun _ h => nomatch h⟩⟩⟩) (List.forall_mem_cons.mpr ⟨Or.inl hk0, List.forall_mem_cons.mpr ⟨trivial, List.forall_mem_cons.mpr ⟨trivial, fun _ h => nomatch h⟩⟩⟩) (fun X hX C => ?_)
  subst hX
  have Cl := C
  unfold f_X5_countClass at hm
  refine g_aload_n C 0 dX5_countClass_0 rfl rfl ?_
  refine g_getr (k := 0) (k' := 5) C (by decide) kf_X5_58 rfl rfl dX5_countClass_1 ?_
  refine g_iload_n C 1 dX5_countClass_4 rfl rfl ?_
  refine g_iload_n C 2 dX5_countClass_5 rfl rfl ?_
  refine g_aload_n C 0 dX5_countClass_6 rfl rfl ?_
  refine g_getr (k := 0) (k' := 5) C (by decide) kf_X5_58 rfl rfl dX5_countClass_7 ?_
  refine g_iload_n C 1 dX5_countClass_10 rfl rfl ?_
  refine g_iload_n C 2 dX5_countClass_11 rfl rfl ?_
  obtain ⟨r12, hr12, hm⟩ := bnd_some hm
  refine g_callVi (As := [vI l1, vI l2]) (rest := [vI l2, vI l1, vR 3 5]) C lk_X5_97 (k_X3_get X.2.1 G hl hG fu 5 l1 l2 M r12 ((hG _ hk0).2 11 3 5 0 rfl) hr12) (by decide) rfl rfl rfl (Nat.le_of_ble_eq_true rfl) ⟨Nat.le_of_ble_eq_true rfl, Nat.le_of_ble_eq_true rfl⟩ dX5_countClass_12 ?_
  refine g_iconst (v := 1) C dX5_countClass_15 rfl ?_
  refine g_iadd C dX5_countClass_16 ?_
  obtain ⟨r17, hr17, hm⟩ := bnd_some hm
  refine g_callVv (As := [vI l1, vI l2, vI (r12.1 + (1 : Int32))]) (rest := []) C lk_X5_81 (k_X3_set X.2.1 G hl hG fu 5 l1 l2 (r12.1 + (1 : Int32)) r12.2 r17 ((hG _ hk0).2 11 3 5 0 rfl) hr17) (by decide) rfl rfl rfl (Nat.le_of_ble_eq_true rfl) ⟨Nat.le_of_ble_eq_true rfl, Nat.le_of_ble_eq_true rfl⟩ dX5_countClass_17 ?_
  refine g_aload_n C 0 dX5_countClass_20 rfl rfl ?_
  refine g_dup C dX5_countClass_21 rfl ?_
  refine g_geti (k := 0) C (by decide) kf_X5_22 rfl dX5_countClass_22 ?_
  refine g_iconst (v := 1) C dX5_countClass_25 rfl ?_
  refine g_iadd C dX5_countClass_26 ?_
  refine g_puti C (by decide) kf_X5_22 rfl rfl rfl dX5_countClass_27 ?_
  obtain rfl := Option.some.inj hm
  exact g_vret C dX5_countClass_30
def f_X5_findClasses_j76 (fu : Nat)   (l2 : Int32) (M : Mem) : Option ((Int32 × Mem) ⊕ (Mem)) :=
  some (Sum.inl (l2 + (1 : Int32), M))
def f_X5_findClasses_b23 (fu : Nat)   (l2 : Int32) (M : Mem) : Option ((Int32 × Mem) ⊕ (Mem)) :=
  (f_X6_total fu  M).bind (fun r25 => if r25.1 ≤ l2 then some (Sum.inr r25.2) else (f_X8_get fu 20 l2 r25.2).bind (fun r36 => if r36.1 = (-1 : Int32) then (f_X5_spread fu l2 (1023 : Int32) r36.2).bind (fun r48 => (f_X5_nameReached fu l2 r48).bind (fun r53 => (f_X8_get fu 16 l2 r53).bind (fun r62 => (f_X8_get fu 17 l2 r62.2).bind (fun r70 => (f_X5_countClass fu r62.1 r70.1 r70.2).bind (fun r73 => f_X5_findClasses_j76 fu l2 r73))))) else f_X5_findClasses_j76 fu l2 r36.2))
def f_X5_findClasses_h23 (fu : Nat)   (l2 : Int32) (M : Mem) : Option (Mem) :=
  (lp_run (fun s => f_X5_findClasses_b23 fu   s.1 s.2) fu (l2, M)).bind (fun M => some M)
def f_X5_findClasses (fu : Nat) (M : Mem) : Option (Mem) :=
  (f_X8_fill fu 20 (-1 : Int32) M).bind (fun r5 => (f_X3_fill fu 5 (0 : Int32) r5).bind (fun r13 => f_X5_findClasses_h23 fu (0 : Int32) (mI r13 5 0 3 (0 : Int32))))
set_option maxHeartbeats 4000000 in
set_option maxRecDepth 100000 in
theorem k_X5_findClasses (l : Launch) (G : GE) (hl : l.stackTraces = false) (hG : GOK G) (fu : Nat)  (M : Mem) (res : Mem) (hk0 : (5, 0) ∈ gids G) (hk1 : (6, 0) ∈ gids G) (hm : f_X5_findClasses fu  M = some res) : CT l G yX5_findClasses cX5_findClasses 3 none 3 [vR 5 0, vR 6 0] M (.inl none) res := by
  refine ct_of [(0, vR 5 0), (1, vR 6 0)] (by decide +kernel) hl hG (Nat.le_of_ble_eq_true rfl) rfl (List.forall_mem_cons.mpr ⟨Or.inl hk0, List.forall_mem_cons.mpr ⟨Or.inl hk1, fun _ h => nomatch h⟩⟩) (List.forall_mem_cons.mpr ⟨Or.inl hk0, List.forall_mem_cons.mpr ⟨Or.inl hk1, fun _ h => nomatch h⟩⟩) (fun X hX C => ?_)
  subst hX
  have Cl := C
  have J23 : ∀ (l2 : Int32) (M : Mem), f_X5_findClasses_h23 fu   l2 M = some res → GW G X 3 (QX G X (.inl none) res) 23 [(0, vR 5 0), (1, vR 6 0), (2, vI l2)] [] M := by
    intro l2 M hm
    unfold f_X5_findClasses_h23 at hm
    obtain ⟨r23, hL23, hk23⟩ := bnd_some hm
    have hx23 : ∀ (M : Mem), M = r23 → GW G X 3 (QX G X (.inl none) res) 82 [] [] M := by
      intro M he
      subst he
      have hm := hk23
      try dsimp only at hm
      obtain rfl := Option.some.inj hm
      exact g_vret C dX5_findClasses_82
    refine lp_ind1 (P := (fun l2 M => GW G X 3 (QX G X (.inl none) res) 23 [(0, vR 5 0), (1, vR 6 0), (2, vI l2)] [] M)) (r := r23) ?_ fu l2 M hL23
    intro l2 M o23 hm K23
    have J76 : ∀ (l2 : Int32) (M : Mem), f_X5_findClasses_j76 fu   l2 M = some o23 → GW G X 3 (QX G X (.inl none) res) 76 [(0, vR 5 0), (1, vR 6 0), (2, vI l2)] [] M := by
      intro l2 M hm
      unfold f_X5_findClasses_j76 at hm
      refine g_iinc (ls' := [(2, vI (l2 + (1 : Int32))), (0, vR 5 0), (1, vR 6 0)]) (v := l2 + (1 : Int32)) C 2 dX5_findClasses_76 rfl (iv_p1 _) (by decide) rfl ?_
      refine g_goto (tgt := 23) C dX5_findClasses_79 (by decide) ?_
      obtain rfl := Option.some.inj hm
      exact g_sub [1, 2, 0] rfl (g_pc rfl (K23.1 (l2 + (1 : Int32)) M rfl))
    unfold f_X5_findClasses_b23 at hm
    refine g_iload_n C 2 dX5_findClasses_23 rfl rfl ?_
    refine g_aload_n C 1 dX5_findClasses_24 rfl rfl ?_
    obtain ⟨r25, hr25, hm⟩ := bnd_some hm
    refine g_callVi (As := []) (rest := [vI l2]) C lk_X5_74 (k_X6_total X.2.1 G hl hG fu  M r25 hk1 hr25) (by decide) rfl rfl rfl (Nat.le_of_ble_eq_true rfl) ⟨Nat.le_of_ble_eq_true rfl, Nat.le_of_ble_eq_true rfl⟩ dX5_findClasses_25 ?_
    refine g_icmp_ge (tgt := 82) C dX5_findClasses_28 (by decide) (fun h28 => ?_) (fun h28 => ?_)
    · have hm := ift hm h28
      obtain rfl := Option.some.inj hm
      exact g_sub [] rfl (g_pc rfl (hx23 r25.2 (K23.2 _ rfl)))
    · have hm := ife hm h28
      refine g_aload_n C 0 dX5_findClasses_31 rfl rfl ?_
      refine g_getr (k := 0) (k' := 20) C (by decide) kf_X5_45 rfl rfl dX5_findClasses_32 ?_
      refine g_iload_n C 2 dX5_findClasses_35 rfl rfl ?_
      obtain ⟨r36, hr36, hm⟩ := bnd_some hm
      refine g_callVi (As := [vI l2]) (rest := []) C lk_X5_93 (k_X8_get X.2.1 G hl hG fu 20 l2 r25.2 r36 ((hG _ hk0).2 7 8 20 0 rfl) hr36) (by decide) rfl rfl rfl (Nat.le_of_ble_eq_true rfl) ⟨Nat.le_of_ble_eq_true rfl, Nat.le_of_ble_eq_true rfl⟩ dX5_findClasses_36 ?_
      refine g_iconst (v := -1) C dX5_findClasses_39 rfl ?_
      refine g_icmp_ne (tgt := 76) C dX5_findClasses_40 (by decide) (fun h40 => ?_) (fun h40 => ?_)
      · have hm := ife hm h40
        exact g_sub [0, 1, 2] rfl (g_pc rfl (J76 l2 r36.2 hm))
      · have hm := ift hm h40
        refine g_aload_n C 0 dX5_findClasses_43 rfl rfl ?_
        refine g_iload_n C 2 dX5_findClasses_44 rfl rfl ?_
        refine g_sipush (v := 1023) C dX5_findClasses_45 rfl ?_
        obtain ⟨r48, hr48, hm⟩ := bnd_some hm
        refine g_callVv (As := [vI l2, vI (1023 : Int32)]) (rest := []) C lk_X5_109 (k_X5_spread X.2.1 G hl hG fu l2 (1023 : Int32) r36.2 r48 hk0 hr48) (by decide) rfl rfl rfl (Nat.le_of_ble_eq_true rfl) ⟨Nat.le_of_ble_eq_true rfl, Nat.le_of_ble_eq_true rfl⟩ dX5_findClasses_48 ?_
        refine g_aload_n C 0 dX5_findClasses_51 rfl rfl ?_
        refine g_iload_n C 2 dX5_findClasses_52 rfl rfl ?_
        obtain ⟨r53, hr53, hm⟩ := bnd_some hm
        refine g_callVv (As := [vI l2]) (rest := []) C lk_X5_113 (k_X5_nameReached X.2.1 G hl hG fu l2 r48 r53 hk0 hr53) (by decide) rfl rfl rfl (Nat.le_of_ble_eq_true rfl) ⟨Nat.le_of_ble_eq_true rfl, Nat.le_of_ble_eq_true rfl⟩ dX5_findClasses_53 ?_
        refine g_aload_n C 0 dX5_findClasses_56 rfl rfl ?_
        refine g_aload_n C 1 dX5_findClasses_57 rfl rfl ?_
        refine g_getrN (k := 0) (k' := 16) C (by decide) kf_X5_116 rfl rfl dX5_findClasses_58 ?_
        refine g_iload_n C 2 dX5_findClasses_61 rfl rfl ?_
        obtain ⟨r62, hr62, hm⟩ := bnd_some hm
        refine g_callVi (As := [vI l2]) (rest := [vR 5 0]) C lk_X5_93 (k_X8_get X.2.1 G hl hG fu 16 l2 r53 r62 ((hG _ hk1).2 1 8 16 0 rfl) hr62) (by decide) rfl rfl rfl (Nat.le_of_ble_eq_true rfl) ⟨Nat.le_of_ble_eq_true rfl, Nat.le_of_ble_eq_true rfl⟩ dX5_findClasses_62 ?_
        refine g_aload_n C 1 dX5_findClasses_65 rfl rfl ?_
        refine g_getrN (k := 0) (k' := 17) C (by decide) kf_X5_119 rfl rfl dX5_findClasses_66 ?_
        refine g_iload_n C 2 dX5_findClasses_69 rfl rfl ?_
        obtain ⟨r70, hr70, hm⟩ := bnd_some hm
        refine g_callVi (As := [vI l2]) (rest := [vI r62.1, vR 5 0]) C lk_X5_93 (k_X8_get X.2.1 G hl hG fu 17 l2 r62.2 r70 ((hG _ hk1).2 2 8 17 0 rfl) hr70) (by decide) rfl rfl rfl (Nat.le_of_ble_eq_true rfl) ⟨Nat.le_of_ble_eq_true rfl, Nat.le_of_ble_eq_true rfl⟩ dX5_findClasses_70 ?_
        obtain ⟨r73, hr73, hm⟩ := bnd_some hm
        refine g_callVv (As := [vI r62.1, vI r70.1]) (rest := []) C lk_X5_122 (k_X5_countClass X.2.1 G hl hG fu r62.1 r70.1 r70.2 r73 hk0 hr73) (by decide) rfl rfl rfl (Nat.le_of_ble_eq_true rfl) ⟨Nat.le_of_ble_eq_true rfl, Nat.le_of_ble_eq_true rfl⟩ dX5_findClasses_73 ?_
        exact g_sub [0, 1, 2] rfl (g_pc rfl (J76 l2 r73 hm))
  unfold f_X5_findClasses at hm
  refine g_aload_n C 0 dX5_findClasses_0 rfl rfl ?_
  refine g_getr (k := 0) (k' := 20) C (by decide) kf_X5_45 rfl rfl dX5_findClasses_1 ?_
  refine g_iconst (v := -1) C dX5_findClasses_4 rfl ?_
  obtain ⟨r5, hr5, hm⟩ := bnd_some hm
  refine g_callVv (As := [vI (-1 : Int32)]) (rest := []) C lk_X5_61 (k_X8_fill X.2.1 G hl hG fu 20 (-1 : Int32) M r5 ((hG _ hk0).2 7 8 20 0 rfl) hr5) (by decide) rfl rfl rfl (Nat.le_of_ble_eq_true rfl) ⟨Nat.le_of_ble_eq_true rfl, Nat.le_of_ble_eq_true rfl⟩ dX5_findClasses_5 ?_
  refine g_aload_n C 0 dX5_findClasses_8 rfl rfl ?_
  refine g_getr (k := 0) (k' := 5) C (by decide) kf_X5_58 rfl rfl dX5_findClasses_9 ?_
  refine g_iconst (v := 0) C dX5_findClasses_12 rfl ?_
  obtain ⟨r13, hr13, hm⟩ := bnd_some hm
  refine g_callVv (As := [vI (0 : Int32)]) (rest := []) C lk_X5_112 (k_X3_fill X.2.1 G hl hG fu 5 (0 : Int32) r5 r13 ((hG _ hk0).2 11 3 5 0 rfl) hr13) (by decide) rfl rfl rfl (Nat.le_of_ble_eq_true rfl) ⟨Nat.le_of_ble_eq_true rfl, Nat.le_of_ble_eq_true rfl⟩ dX5_findClasses_13 ?_
  refine g_aload_n C 0 dX5_findClasses_16 rfl rfl ?_
  refine g_iconst (v := 0) C dX5_findClasses_17 rfl ?_
  refine g_puti C (by decide) kf_X5_22 rfl rfl rfl dX5_findClasses_18 ?_
  refine g_iconst (v := 0) C dX5_findClasses_21 rfl ?_
  refine g_istore_n (ls' := [(2, vI (0 : Int32)), (0, vR 5 0), (1, vR 6 0)]) C dX5_findClasses_22 rfl (by decide) rfl ?_
  exact g_sub [1, 2, 0] rfl (g_pc rfl (J23 (0 : Int32) (mI r13 5 0 3 (0 : Int32)) hm))
def f_X5_refresh_b62 (fu : Nat) (k2 : Nat) (l3 : Int32) (l4 : Int32) (l5 : Int32) (l6 : Int32) (M : Mem) : Option ((Int32 × Mem) ⊕ (Mem)) :=
  (f_X6_total fu  M).bind (fun r65 => if r65.1 ≤ l6 then some (Sum.inr r65.2) else (f_X5_stepFrom fu l6 l3 l4 l5 r65.2).bind (fun r87 => (f_X3_set fu 4 l6 l3 r87.1 r87.2).bind (fun r90 => some (Sum.inl (l6 + (1 : Int32), r90)))))
def f_X5_refresh_h62 (fu : Nat) (k2 : Nat)  (l3 : Int32) (l4 : Int32) (l5 : Int32) (l6 : Int32) (M : Mem) : Option ((Int32 × Mem) ⊕ (Mem)) :=
  (lp_run (fun s => f_X5_refresh_b62 fu k2 l3 l4 l5 s.1 s.2) fu (l6, M)).bind (fun M => some (Sum.inl (l3 + (1 : Int32), M)))
def f_X5_refresh_b25 (fu : Nat) (k2 : Nat)  (l3 : Int32) (M : Mem) : Option ((Int32 × Mem) ⊕ (Mem)) :=
  if (M.1 5 0 2) ≤ l3 then some (Sum.inr M) else (f_X0_pathOf fu k2 (l3 / (2 : Int32)) (l3 - l3 / (2 : Int32) * (2 : Int32)) M).bind (fun r40 => (f_X0_pathOf fu k2 (l3 / (2 : Int32)) ((1 : Int32) - (l3 - l3 / (2 : Int32) * (2 : Int32))) r40.2).bind (fun r54 => f_X5_refresh_h62 fu k2 l3 r40.1 r54.1 (0 : Int32) r54.2))
def f_X5_refresh_h25 (fu : Nat) (k2 : Nat)  (l3 : Int32) (M : Mem) : Option (Mem) :=
  (lp_run (fun s => f_X5_refresh_b25 fu k2  s.1 s.2) fu (l3, M)).bind (fun M => (f_X5_findClasses fu  M).bind (fun r107 => some r107))
def f_X5_refresh (fu : Nat) (k2 : Nat) (M : Mem) : Option (Mem) :=
  if (M.1 5 0 0) = 0 then (f_X0_total fu k2 (mI M 5 0 0 (1 : Int32))).bind (fun r16 => f_X5_refresh_h25 fu k2 (0 : Int32) (mI r16.2 5 0 2 ((2 : Int32) * r16.1))) else some M
set_option maxHeartbeats 4000000 in
set_option maxRecDepth 100000 in
theorem k_X5_refresh (l : Launch) (G : GE) (hl : l.stackTraces = false) (hG : GOK G) (fu : Nat) (k2 : Nat) (M : Mem) (res : Mem) (hk0 : (5, 0) ∈ gids G) (hk1 : (6, 0) ∈ gids G) (hk2 : (0, k2) ∈ gids G) (hm : f_X5_refresh fu k2 M = some res) : CT l G yX5_refresh cX5_refresh 7 none 4 [vR 5 0, vR 6 0, vR 0 k2] M (.inl none) res := by
  refine ct_of [(0, vR 5 0), (1, vR 6 0), (2, vR 0 k2)] (by decide +kernel) hl hG (Nat.le_of_ble_eq_true rfl) rfl (List.forall_mem_cons.mpr ⟨Or.inl hk0, List.forall_mem_cons.mpr ⟨Or.inl hk1, List.forall_mem_cons.mpr ⟨Or.inl hk2, fun _ h => nomatch h⟩⟩⟩) (List.forall_mem_cons.mpr ⟨Or.inl hk0, List.forall_mem_cons.mpr ⟨Or.inl hk1, List.forall_mem_cons.mpr ⟨Or.inl hk2, fun _ h => nomatch h⟩⟩⟩) (fun X hX C => ?_)
  subst hX
  have Cl := C
  have J25 : ∀ (l3 : Int32) (M : Mem), f_X5_refresh_h25 fu k2  l3 M = some res → GW G X 7 (QX G X (.inl none) res) 25 [(0, vR 5 0), (1, vR 6 0), (2, vR 0 k2), (3, vI l3)] [] M := by
    intro l3 M hm
    unfold f_X5_refresh_h25 at hm
    obtain ⟨r25, hL25, hk25⟩ := bnd_some hm
    have hx25 : ∀ (M : Mem), M = r25 → GW G X 7 (QX G X (.inl none) res) 105 [(0, vR 5 0), (1, vR 6 0)] [] M := by
      intro M he
      subst he
      have hm := hk25
      try dsimp only at hm
      refine g_aload_n C 0 dX5_refresh_105 rfl rfl ?_
      refine g_aload_n C 1 dX5_refresh_106 rfl rfl ?_
      obtain ⟨r107, hr107, hm⟩ := bnd_some hm
      refine g_callVv (As := [vR 6 0]) (rest := []) C lk_X5_85 (k_X5_findClasses X.2.1 G hl hG fu  M r107 hk0 hk1 hr107) (by decide) rfl rfl rfl (Nat.le_of_ble_eq_true rfl) ⟨Nat.le_of_ble_eq_true rfl, Nat.le_of_ble_eq_true rfl⟩ dX5_refresh_107 ?_
      obtain rfl := Option.some.inj hm
      exact g_vret C dX5_refresh_110
    refine lp_ind1 (P := (fun l3 M => GW G X 7 (QX G X (.inl none) res) 25 [(0, vR 5 0), (1, vR 6 0), (2, vR 0 k2), (3, vI l3)] [] M)) (r := r25) ?_ fu l3 M hL25
    intro l3 M o25 hm K25
    have J62 : ∀ (l3 : Int32) (l4 : Int32) (l5 : Int32) (l6 : Int32) (M : Mem), f_X5_refresh_h62 fu k2  l3 l4 l5 l6 M = some o25 → GW G X 7 (QX G X (.inl none) res) 62 [(0, vR 5 0), (1, vR 6 0), (2, vR 0 k2), (3, vI l3), (4, vI l4), (5, vI l5), (6, vI l6)] [] M := by
      intro l3 l4 l5 l6 M hm
      unfold f_X5_refresh_h62 at hm
      obtain ⟨r62, hL62, hk62⟩ := bnd_some hm
      have hx62 : ∀ (M : Mem), M = r62 → GW G X 7 (QX G X (.inl none) res) 99 [(0, vR 5 0), (1, vR 6 0), (2, vR 0 k2), (3, vI l3)] [] M := by
        intro M he
        subst he
        have hm := hk62
        try dsimp only at hm
        refine g_iinc (ls' := [(3, vI (l3 + (1 : Int32))), (0, vR 5 0), (1, vR 6 0), (2, vR 0 k2)]) (v := l3 + (1 : Int32)) C 3 dX5_refresh_99 rfl (iv_p1 _) (by decide) rfl ?_
        refine g_goto (tgt := 25) C dX5_refresh_102 (by decide) ?_
        obtain rfl := Option.some.inj hm
        exact g_sub [1, 2, 3, 0] rfl (g_pc rfl (K25.1 (l3 + (1 : Int32)) M rfl))
      refine lp_ind1 (P := (fun l6 M => GW G X 7 (QX G X (.inl none) res) 62 [(0, vR 5 0), (1, vR 6 0), (2, vR 0 k2), (3, vI l3), (4, vI l4), (5, vI l5), (6, vI l6)] [] M)) (r := r62) ?_ fu l6 M hL62
      intro l6 M o62 hm K62
      unfold f_X5_refresh_b62 at hm
      refine g_iload C 6 dX5_refresh_62 rfl ?_
      refine g_aload_n C 1 dX5_refresh_64 rfl rfl ?_
      obtain ⟨r65, hr65, hm⟩ := bnd_some hm
      refine g_callVi (As := []) (rest := [vI l6]) C lk_X5_74 (k_X6_total X.2.1 G hl hG fu  M r65 hk1 hr65) (by decide) rfl rfl rfl (Nat.le_of_ble_eq_true rfl) ⟨Nat.le_of_ble_eq_true rfl, Nat.le_of_ble_eq_true rfl⟩ dX5_refresh_65 ?_
      refine g_icmp_ge (tgt := 99) C dX5_refresh_68 (by decide) (fun h68 => ?_) (fun h68 => ?_)
      · have hm := ift hm h68
        obtain rfl := Option.some.inj hm
        exact g_sub [0, 1, 2, 3] rfl (g_pc rfl (hx62 r65.2 (K62.2 _ rfl)))
      · have hm := ife hm h68
        refine g_aload_n C 0 dX5_refresh_71 rfl rfl ?_
        refine g_getr (k := 0) (k' := 4) C (by decide) kf_X5_36 rfl rfl dX5_refresh_72 ?_
        refine g_iload C 6 dX5_refresh_75 rfl ?_
        refine g_iload_n C 3 dX5_refresh_77 rfl rfl ?_
        refine g_aload_n C 0 dX5_refresh_78 rfl rfl ?_
        refine g_aload_n C 1 dX5_refresh_79 rfl rfl ?_
        refine g_iload C 6 dX5_refresh_80 rfl ?_
        refine g_iload_n C 3 dX5_refresh_82 rfl rfl ?_
        refine g_iload C 4 dX5_refresh_83 rfl ?_
        refine g_iload C 5 dX5_refresh_85 rfl ?_
        obtain ⟨r87, hr87, hm⟩ := bnd_some hm
        refine g_callVi (As := [vR 6 0, vI l6, vI l3, vI l4, vI l5]) (rest := [vI l3, vI l6, vR 3 4]) C lk_X5_77 (k_X5_stepFrom X.2.1 G hl hG fu l6 l3 l4 l5 r65.2 r87 hk0 hk1 hr87) (by decide) rfl rfl rfl (Nat.le_of_ble_eq_true rfl) ⟨Nat.le_of_ble_eq_true rfl, Nat.le_of_ble_eq_true rfl⟩ dX5_refresh_87 ?_
        obtain ⟨r90, hr90, hm⟩ := bnd_some hm
        refine g_callVv (As := [vI l6, vI l3, vI r87.1]) (rest := []) C lk_X5_81 (k_X3_set X.2.1 G hl hG fu 4 l6 l3 r87.1 r87.2 r90 ((hG _ hk0).2 6 3 4 0 rfl) hr90) (by decide) rfl rfl rfl (Nat.le_of_ble_eq_true rfl) ⟨Nat.le_of_ble_eq_true rfl, Nat.le_of_ble_eq_true rfl⟩ dX5_refresh_90 ?_
        refine g_iinc (ls' := [(6, vI (l6 + (1 : Int32))), (0, vR 5 0), (1, vR 6 0), (2, vR 0 k2), (3, vI l3), (4, vI l4), (5, vI l5)]) (v := l6 + (1 : Int32)) C 6 dX5_refresh_93 rfl (iv_p1 _) (by decide) rfl ?_
        refine g_goto (tgt := 62) C dX5_refresh_96 (by decide) ?_
        obtain rfl := Option.some.inj hm
        exact g_sub [1, 2, 3, 4, 5, 6, 0] rfl (g_pc rfl (K62.1 (l6 + (1 : Int32)) r90 rfl))
    unfold f_X5_refresh_b25 at hm
    refine g_iload_n C 3 dX5_refresh_25 rfl rfl ?_
    refine g_aload_n C 0 dX5_refresh_26 rfl rfl ?_
    refine g_geti (k := 0) C (by decide) kf_X5_18 rfl dX5_refresh_27 ?_
    refine g_icmp_ge (tgt := 105) C dX5_refresh_30 (by decide) (fun h30 => ?_) (fun h30 => ?_)
    · have hm := ift hm h30
      obtain rfl := Option.some.inj hm
      exact g_sub [0, 1] rfl (g_pc rfl (hx25 M (K25.2 _ rfl)))
    · have hm := ife hm h30
      refine g_aload_n C 2 dX5_refresh_33 rfl rfl ?_
      refine g_iload_n C 3 dX5_refresh_34 rfl rfl ?_
      refine g_iconst (v := 2) C dX5_refresh_35 rfl ?_
      refine g_idiv C dX5_refresh_36 (by decide) ?_
      refine g_iload_n C 3 dX5_refresh_37 rfl rfl ?_
      refine g_iconst (v := 2) C dX5_refresh_38 rfl ?_
      refine g_irem C dX5_refresh_39 (by decide) ?_
      obtain ⟨r40, hr40, hm⟩ := bnd_some hm
      refine g_callVi (As := [vI (l3 / (2 : Int32)), vI (l3 - l3 / (2 : Int32) * (2 : Int32))]) (rest := []) C lk_X5_70 (k_X0_pathOf X.2.1 G hl hG fu k2 (l3 / (2 : Int32)) (l3 - l3 / (2 : Int32) * (2 : Int32)) M r40 hk2 hr40) (by decide) rfl rfl rfl (Nat.le_of_ble_eq_true rfl) ⟨Nat.le_of_ble_eq_true rfl, Nat.le_of_ble_eq_true rfl⟩ dX5_refresh_40 ?_
      refine g_istore (ls' := [(4, vI r40.1), (0, vR 5 0), (1, vR 6 0), (2, vR 0 k2), (3, vI l3)]) C dX5_refresh_43 (by decide) rfl ?_
      refine g_aload_n C 3 dX5_refresh_45 rfl rfl ?_
      refine g_iload_n C 4 dX5_refresh_46 rfl rfl ?_
      refine g_iconst (v := 2) C dX5_refresh_47 rfl ?_
      refine g_idiv C dX5_refresh_48 (by decide) ?_
      refine g_iconst (v := 1) C dX5_refresh_49 rfl ?_
      refine g_iload_n C 4 dX5_refresh_50 rfl rfl ?_
      refine g_iconst (v := 2) C dX5_refresh_51 rfl ?_
      refine g_irem C dX5_refresh_52 (by decide) ?_
      refine g_isub C dX5_refresh_53 ?_
      obtain ⟨r54, hr54, hm⟩ := bnd_some hm
      refine g_callVi (As := [vI (l3 / (2 : Int32)), vI ((1 : Int32) - (l3 - l3 / (2 : Int32) * (2 : Int32)))]) (rest := []) C lk_X5_70 (k_X0_pathOf X.2.1 G hl hG fu k2 (l3 / (2 : Int32)) ((1 : Int32) - (l3 - l3 / (2 : Int32) * (2 : Int32))) r40.2 r54 hk2 hr54) (by decide) rfl rfl rfl (Nat.le_of_ble_eq_true rfl) ⟨Nat.le_of_ble_eq_true rfl, Nat.le_of_ble_eq_true rfl⟩ dX5_refresh_54 ?_
      refine g_istore (ls' := [(5, vI r54.1), (4, vI r40.1), (0, vR 5 0), (1, vR 6 0), (2, vR 0 k2), (3, vI l3)]) C dX5_refresh_57 (by decide) rfl ?_
      refine g_iconst (v := 0) C dX5_refresh_59 rfl ?_
      refine g_istore (ls' := [(6, vI (0 : Int32)), (5, vI r54.1), (4, vI r40.1), (0, vR 5 0), (1, vR 6 0), (2, vR 0 k2), (3, vI l3)]) C dX5_refresh_60 (by decide) rfl ?_
      exact g_sub [3, 4, 5, 6, 2, 1, 0] rfl (g_pc rfl (J62 l3 r40.1 r54.1 (0 : Int32) r54.2 hm))
  unfold f_X5_refresh at hm
  refine g_aload_n C 0 dX5_refresh_0 rfl rfl ?_
  refine g_geti (k := 0) C (by decide) kf_X5_9 rfl dX5_refresh_1 ?_
  refine g_if_eq (tgt := 8) C dX5_refresh_4 (by decide) (fun h4 => ?_) (fun h4 => ?_)
  · have hm := ift hm h4
    refine g_aload_n C 0 dX5_refresh_8 rfl rfl ?_
    refine g_iconst (v := 1) C dX5_refresh_9 rfl ?_
    refine g_puti0 C (by decide) kf_X5_9 rfl rfl rfl rfl dX5_refresh_10 ?_
    refine g_aload_n C 0 dX5_refresh_13 rfl rfl ?_
    refine g_iconst (v := 2) C dX5_refresh_14 rfl ?_
    refine g_aload_n C 2 dX5_refresh_15 rfl rfl ?_
    obtain ⟨r16, hr16, hm⟩ := bnd_some hm
    refine g_callVi (As := []) (rest := [vI (2 : Int32), vR 5 0]) C lk_X5_64 (k_X0_total X.2.1 G hl hG fu k2 (mI M 5 0 0 (1 : Int32)) r16 hk2 hr16) (by decide) rfl rfl rfl (Nat.le_of_ble_eq_true rfl) ⟨Nat.le_of_ble_eq_true rfl, Nat.le_of_ble_eq_true rfl⟩ dX5_refresh_16 ?_
    refine g_imul C dX5_refresh_19 ?_
    refine g_puti C (by decide) kf_X5_18 rfl rfl rfl dX5_refresh_20 ?_
    refine g_iconst (v := 0) C dX5_refresh_23 rfl ?_
    refine g_istore_n (ls' := [(3, vI (0 : Int32)), (0, vR 5 0), (1, vR 6 0), (2, vR 0 k2)]) C dX5_refresh_24 rfl (by decide) rfl ?_
    exact g_sub [1, 2, 3, 0] rfl (g_pc rfl (J25 (0 : Int32) (mI r16.2 5 0 2 ((2 : Int32) * r16.1)) hm))
  · have hm := ife hm h4
    obtain rfl := Option.some.inj hm
    exact g_vret C dX5_refresh_7
def f_X5_isEqualBy (fu : Nat) (k1 : Nat) (l2 : Int32) (l3 : Int32) (M : Mem) : Option (Int32 × Mem) :=
  (f_X0_pathOf fu k1 l2 (0 : Int32) M).bind (fun r4 => (f_X5_spread fu r4.1 l3 r4.2).bind (fun r8 => (f_X0_pathOf fu k1 l2 (1 : Int32) r8).bind (fun r18 => (f_X8_get fu 22 r18.1 r18.2).bind (fun r21 => if r21.1 = (-1 : Int32) then some ((0 : Int32), r21.2) else some ((1 : Int32), r21.2)))))
set_option maxHeartbeats 4000000 in
set_option maxRecDepth 100000 in
theorem k_X5_isEqualBy (l : Launch) (G : GE) (hl : l.stackTraces = false) (hG : GOK G) (fu : Nat) (k1 : Nat) (l2 : Int32) (l3 : Int32) (M : Mem) (res : Int32 × Mem) (hk0 : (5, 0) ∈ gids G) (hk1 : (0, k1) ∈ gids G) (hm : f_X5_isEqualBy fu k1 l2 l3 M = some res) : CT l G yX5_isEqualBy cX5_isEqualBy 4 (some .boolean) 3 [vR 5 0, vR 0 k1, vI l2, vI l3] M (.inl (some (vI res.1))) res.2 := by
  refine ct_of [(0, vR 5 0), (1, vR 0 k1), (2, vI l2), (3, vI l3)] (by decide +kernel) hl hG (Nat.le_of_ble_eq_true rfl) rfl (List.forall_mem_cons.mpr ⟨Or.inl hk0, List.forall_mem_cons.mpr ⟨Or.inl hk1, List.forall_mem_cons.mpr ⟨trivial, List.forall_mem_cons.mpr ⟨trivial, fun _ h => nomatch h⟩⟩⟩⟩) (List.forall_mem_cons.mpr ⟨Or.inl hk0, List.forall_mem_cons.mpr ⟨Or.inl hk1, List.forall_mem_cons.mpr ⟨trivial, List.forall_mem_cons.mpr ⟨trivial, fun _ h => nomatch h⟩⟩⟩⟩) (fun X hX C => ?_)
  subst hX
  have Cl := C
  unfold f_X5_isEqualBy at hm
  refine g_aload_n C 0 dX5_isEqualBy_0 rfl rfl ?_
  refine g_aload_n C 1 dX5_isEqualBy_1 rfl rfl ?_
  refine g_iload_n C 2 dX5_isEqualBy_2 rfl rfl ?_
  refine g_iconst (v := 0) C dX5_isEqualBy_3 rfl ?_
  obtain ⟨r4, hr4, hm⟩ := bnd_some hm
  refine g_callVi (As := [vI l2, vI (0 : Int32)]) (rest := [vR 5 0]) C lk_X5_70 (k_X0_pathOf X.2.1 G hl hG fu k1 l2 (0 : Int32) M r4 hk1 hr4) (by decide) rfl rfl rfl (Nat.le_of_ble_eq_true rfl) ⟨Nat.le_of_ble_eq_true rfl, Nat.le_of_ble_eq_true rfl⟩ dX5_isEqualBy_4 ?_
  refine g_iload_n C 3 dX5_isEqualBy_7 rfl rfl ?_
  obtain ⟨r8, hr8, hm⟩ := bnd_some hm
  refine g_callVv (As := [vI r4.1, vI l3]) (rest := []) C lk_X5_109 (k_X5_spread X.2.1 G hl hG fu r4.1 l3 r4.2 r8 hk0 hr8) (by decide) rfl rfl rfl (Nat.le_of_ble_eq_true rfl) ⟨Nat.le_of_ble_eq_true rfl, Nat.le_of_ble_eq_true rfl⟩ dX5_isEqualBy_8 ?_
  refine g_aload_n C 0 dX5_isEqualBy_11 rfl rfl ?_
  refine g_getr (k := 0) (k' := 22) C (by decide) kf_X5_52 rfl rfl dX5_isEqualBy_12 ?_
  refine g_aload_n C 1 dX5_isEqualBy_15 rfl rfl ?_
  refine g_iload_n C 2 dX5_isEqualBy_16 rfl rfl ?_
  refine g_iconst (v := 1) C dX5_isEqualBy_17 rfl ?_
  obtain ⟨r18, hr18, hm⟩ := bnd_some hm
  refine g_callVi (As := [vI l2, vI (1 : Int32)]) (rest := [vR 8 22]) C lk_X5_70 (k_X0_pathOf X.2.1 G hl hG fu k1 l2 (1 : Int32) r8 r18 hk1 hr18) (by decide) rfl rfl rfl (Nat.le_of_ble_eq_true rfl) ⟨Nat.le_of_ble_eq_true rfl, Nat.le_of_ble_eq_true rfl⟩ dX5_isEqualBy_18 ?_
  obtain ⟨r21, hr21, hm⟩ := bnd_some hm
  refine g_callVi (As := [vI r18.1]) (rest := []) C lk_X5_93 (k_X8_get X.2.1 G hl hG fu 22 r18.1 r18.2 r21 ((hG _ hk0).2 9 8 22 0 rfl) hr21) (by decide) rfl rfl rfl (Nat.le_of_ble_eq_true rfl) ⟨Nat.le_of_ble_eq_true rfl, Nat.le_of_ble_eq_true rfl⟩ dX5_isEqualBy_21 ?_
  refine g_iconst (v := -1) C dX5_isEqualBy_24 rfl ?_
  refine g_icmp_eq (tgt := 32) C dX5_isEqualBy_25 (by decide) (fun h25 => ?_) (fun h25 => ?_)
  · have hm := ift hm h25
    refine g_iconst (v := 0) C dX5_isEqualBy_32 rfl ?_
    obtain rfl := Option.some.inj hm
    exact g_zret C (Or.inl rfl) dX5_isEqualBy_33
  · have hm := ife hm h25
    refine g_iconst (v := 1) C dX5_isEqualBy_28 rfl ?_
    refine g_goto (tgt := 33) C dX5_isEqualBy_29 (by decide) ?_
    obtain rfl := Option.some.inj hm
    exact g_zret C (Or.inr rfl) dX5_isEqualBy_33
def f_X5_refreshCore_j62 (fu : Nat) (k1 : Nat)  (l2 : Int32) (M : Mem) : Option ((Int32 × Mem) ⊕ (Mem)) :=
  some (Sum.inl (l2 + (-1 : Int32), M))
def f_X5_refreshCore_b32 (fu : Nat) (k1 : Nat)  (l2 : Int32) (M : Mem) : Option ((Int32 × Mem) ⊕ (Mem)) :=
  if l2 < 0 then some (Sum.inr M) else (f_X5_isEqualBy fu k1 l2 ((M.1 5 0 4) &&& (((1 : Int32) <<< (l2 &&& 31)) ^^^ (-1 : Int32))) M).bind (fun r51 => if r51.1 = 0 then f_X5_refreshCore_j62 fu k1 l2 r51.2 else f_X5_refreshCore_j62 fu k1 l2 (mI r51.2 5 0 4 ((M.1 5 0 4) &&& (((1 : Int32) <<< (l2 &&& 31)) ^^^ (-1 : Int32)))))
def f_X5_refreshCore_h32 (fu : Nat) (k1 : Nat)  (l2 : Int32) (M : Mem) : Option (Mem) :=
  (lp_run (fun s => f_X5_refreshCore_b32 fu k1  s.1 s.2) fu (l2, M)).bind (fun M => some M)
def f_X5_refreshCore (fu : Nat) (k1 : Nat) (M : Mem) : Option (Mem) :=
  if (M.1 5 0 1) = 0 then (f_X0_total fu k1 (mI M 5 0 1 (1 : Int32))).bind (fun r16 => (f_X0_total fu k1 (mI r16.2 5 0 4 (((1 : Int32) <<< (r16.1 &&& 31)) - (1 : Int32)))).bind (fun r26 => f_X5_refreshCore_h32 fu k1 (r26.1 - (1 : Int32)) r26.2)) else some M
set_option maxHeartbeats 4000000 in
set_option maxRecDepth 100000 in
theorem k_X5_refreshCore (l : Launch) (G : GE) (hl : l.stackTraces = false) (hG : GOK G) (fu : Nat) (k1 : Nat) (M : Mem) (res : Mem) (hk0 : (5, 0) ∈ gids G) (hk1 : (0, k1) ∈ gids G) (hm : f_X5_refreshCore fu k1 M = some res) : CT l G yX5_refreshCore cX5_refreshCore 4 none 4 [vR 5 0, vR 0 k1] M (.inl none) res := by
  refine ct_of [(0, vR 5 0), (1, vR 0 k1)] (by decide +kernel) hl hG (Nat.le_of_ble_eq_true rfl) rfl (List.forall_mem_cons.mpr ⟨Or.inl hk0, List.forall_mem_cons.mpr ⟨Or.inl hk1, fun _ h => nomatch h⟩⟩) (List.forall_mem_cons.mpr ⟨Or.inl hk0, List.forall_mem_cons.mpr ⟨Or.inl hk1, fun _ h => nomatch h⟩⟩) (fun X hX C => ?_)
  subst hX
  have Cl := C
  have J32 : ∀ (l2 : Int32) (M : Mem), f_X5_refreshCore_h32 fu k1  l2 M = some res → GW G X 4 (QX G X (.inl none) res) 32 [(0, vR 5 0), (1, vR 0 k1), (2, vI l2)] [] M := by
    intro l2 M hm
    unfold f_X5_refreshCore_h32 at hm
    obtain ⟨r32, hL32, hk32⟩ := bnd_some hm
    have hx32 : ∀ (M : Mem), M = r32 → GW G X 4 (QX G X (.inl none) res) 68 [] [] M := by
      intro M he
      subst he
      have hm := hk32
      try dsimp only at hm
      obtain rfl := Option.some.inj hm
      exact g_vret C dX5_refreshCore_68
    refine lp_ind1 (P := (fun l2 M => GW G X 4 (QX G X (.inl none) res) 32 [(0, vR 5 0), (1, vR 0 k1), (2, vI l2)] [] M)) (r := r32) ?_ fu l2 M hL32
    intro l2 M o32 hm K32
    have J62 : ∀ (l2 : Int32) (M : Mem), f_X5_refreshCore_j62 fu k1  l2 M = some o32 → GW G X 4 (QX G X (.inl none) res) 62 [(0, vR 5 0), (1, vR 0 k1), (2, vI l2)] [] M := by
      intro l2 M hm
      unfold f_X5_refreshCore_j62 at hm
      refine g_iinc (ls' := [(2, vI (l2 + (-1 : Int32))), (0, vR 5 0), (1, vR 0 k1)]) (v := l2 + (-1 : Int32)) C 2 dX5_refreshCore_62 rfl (iv_m1 _) (by decide) rfl ?_
      refine g_goto (tgt := 32) C dX5_refreshCore_65 (by decide) ?_
      obtain rfl := Option.some.inj hm
      exact g_sub [1, 2, 0] rfl (g_pc rfl (K32.1 (l2 + (-1 : Int32)) M rfl))
    unfold f_X5_refreshCore_b32 at hm
    refine g_iload_n C 2 dX5_refreshCore_32 rfl rfl ?_
    refine g_if_lt (tgt := 68) C dX5_refreshCore_33 (by decide) (fun h33 => ?_) (fun h33 => ?_)
    · have hm := ift hm h33
      obtain rfl := Option.some.inj hm
      exact g_sub [] rfl (g_pc rfl (hx32 M (K32.2 _ rfl)))
    · have hm := ife hm h33
      refine g_aload_n C 0 dX5_refreshCore_36 rfl rfl ?_
      refine g_geti (k := 0) C (by decide) kf_X5_25 rfl dX5_refreshCore_37 ?_
      refine g_iconst (v := 1) C dX5_refreshCore_40 rfl ?_
      refine g_iload_n C 2 dX5_refreshCore_41 rfl rfl ?_
      refine g_ishl C dX5_refreshCore_42 ?_
      refine g_iconst (v := -1) C dX5_refreshCore_43 rfl ?_
      refine g_ixor C dX5_refreshCore_44 ?_
      refine g_iand C dX5_refreshCore_45 ?_
      refine g_istore_n (ls' := [(3, vI ((M.1 5 0 4) &&& (((1 : Int32) <<< (l2 &&& 31)) ^^^ (-1 : Int32)))), (0, vR 5 0), (1, vR 0 k1), (2, vI l2)]) C dX5_refreshCore_46 rfl (by decide) rfl ?_
      refine g_aload_n C 1 dX5_refreshCore_47 rfl rfl ?_
      refine g_aload_n C 2 dX5_refreshCore_48 rfl rfl ?_
      refine g_iload_n C 3 dX5_refreshCore_49 rfl rfl ?_
      refine g_iload_n C 0 dX5_refreshCore_50 rfl rfl ?_
      obtain ⟨r51, hr51, hm⟩ := bnd_some hm
      refine g_callVi (As := [vR 0 k1, vI l2, vI ((M.1 5 0 4) &&& (((1 : Int32) <<< (l2 &&& 31)) ^^^ (-1 : Int32)))]) (rest := []) C lk_X5_89 (k_X5_isEqualBy X.2.1 G hl hG fu k1 l2 ((M.1 5 0 4) &&& (((1 : Int32) <<< (l2 &&& 31)) ^^^ (-1 : Int32))) M r51 hk0 hk1 hr51) (by decide) rfl rfl rfl (Nat.le_of_ble_eq_true rfl) ⟨Nat.le_of_ble_eq_true rfl, Nat.le_of_ble_eq_true rfl⟩ dX5_refreshCore_51 ?_
      refine g_if_eq (tgt := 62) C dX5_refreshCore_54 (by decide) (fun h54 => ?_) (fun h54 => ?_)
      · have hm := ift hm h54
        exact g_sub [1, 2, 3] rfl (g_pc rfl (J62 l2 r51.2 hm))
      · have hm := ife hm h54
        refine g_aload_n C 1 dX5_refreshCore_57 rfl rfl ?_
        refine g_iload_n C 0 dX5_refreshCore_58 rfl rfl ?_
        refine g_puti C (by decide) kf_X5_25 rfl rfl rfl dX5_refreshCore_59 ?_
        exact g_sub [1, 2, 3] rfl (g_pc rfl (J62 l2 (mI r51.2 5 0 4 ((M.1 5 0 4) &&& (((1 : Int32) <<< (l2 &&& 31)) ^^^ (-1 : Int32)))) hm))
  unfold f_X5_refreshCore at hm
  refine g_aload_n C 0 dX5_refreshCore_0 rfl rfl ?_
  refine g_geti (k := 0) C (by decide) kf_X5_15 rfl dX5_refreshCore_1 ?_
  refine g_if_eq (tgt := 8) C dX5_refreshCore_4 (by decide) (fun h4 => ?_) (fun h4 => ?_)
  · have hm := ift hm h4
    refine g_aload_n C 0 dX5_refreshCore_8 rfl rfl ?_
    refine g_iconst (v := 1) C dX5_refreshCore_9 rfl ?_
    refine g_puti0 C (by decide) kf_X5_15 rfl rfl rfl rfl dX5_refreshCore_10 ?_
    refine g_aload_n C 0 dX5_refreshCore_13 rfl rfl ?_
    refine g_iconst (v := 1) C dX5_refreshCore_14 rfl ?_
    refine g_aload_n C 1 dX5_refreshCore_15 rfl rfl ?_
    obtain ⟨r16, hr16, hm⟩ := bnd_some hm
    refine g_callVi (As := []) (rest := [vI (1 : Int32), vR 5 0]) C lk_X5_64 (k_X0_total X.2.1 G hl hG fu k1 (mI M 5 0 1 (1 : Int32)) r16 hk1 hr16) (by decide) rfl rfl rfl (Nat.le_of_ble_eq_true rfl) ⟨Nat.le_of_ble_eq_true rfl, Nat.le_of_ble_eq_true rfl⟩ dX5_refreshCore_16 ?_
    refine g_ishl C dX5_refreshCore_19 ?_
    refine g_iconst (v := 1) C dX5_refreshCore_20 rfl ?_
    refine g_isub C dX5_refreshCore_21 ?_
    refine g_puti C (by decide) kf_X5_25 rfl rfl rfl dX5_refreshCore_22 ?_
    refine g_aload_n C 1 dX5_refreshCore_25 rfl rfl ?_
    obtain ⟨r26, hr26, hm⟩ := bnd_some hm
    refine g_callVi (As := []) (rest := []) C lk_X5_64 (k_X0_total X.2.1 G hl hG fu k1 (mI r16.2 5 0 4 (((1 : Int32) <<< (r16.1 &&& 31)) - (1 : Int32))) r26 hk1 hr26) (by decide) rfl rfl rfl (Nat.le_of_ble_eq_true rfl) ⟨Nat.le_of_ble_eq_true rfl, Nat.le_of_ble_eq_true rfl⟩ dX5_refreshCore_26 ?_
    refine g_iconst (v := 1) C dX5_refreshCore_29 rfl ?_
    refine g_isub C dX5_refreshCore_30 ?_
    refine g_istore_n (ls' := [(2, vI (r26.1 - (1 : Int32))), (0, vR 5 0), (1, vR 0 k1)]) C dX5_refreshCore_31 rfl (by decide) rfl ?_
    exact g_sub [1, 2, 0] rfl (g_pc rfl (J32 (r26.1 - (1 : Int32)) r26.2 hm))
  · have hm := ife hm h4
    obtain rfl := Option.some.inj hm
    exact g_vret C dX5_refreshCore_7
def f_X5_className (fu : Nat) (l1 : Int32) (M : Mem) : Option (Int32 × Mem) :=
  (f_X8_get fu 20 l1 M).bind (fun r5 => some (r5.1, r5.2))
set_option maxHeartbeats 4000000 in
set_option maxRecDepth 100000 in
theorem k_X5_className (l : Launch) (G : GE) (hl : l.stackTraces = false) (hG : GOK G) (fu : Nat) (l1 : Int32) (M : Mem) (res : Int32 × Mem) (hk0 : (5, 0) ∈ gids G) (hm : f_X5_className fu l1 M = some res) : CT l G yX5_className cX5_className 2 (some .int) 1 [vR 5 0, vI l1] M (.inl (some (vI res.1))) res.2 := by
  refine ct_of [(0, vR 5 0), (1, vI l1)] (by decide +kernel) hl hG (Nat.le_of_ble_eq_true rfl) rfl (List.forall_mem_cons.mpr ⟨Or.inl hk0, List.forall_mem_cons.mpr ⟨trivial, fun _ h => nomatch h⟩⟩) (List.forall_mem_cons.mpr ⟨Or.inl hk0, List.forall_mem_cons.mpr ⟨trivial, fun _ h => nomatch h⟩⟩) (fun X hX C => ?_)
  subst hX
  have Cl := C
  unfold f_X5_className at hm
  refine g_aload_n C 0 dX5_className_0 rfl rfl ?_
  refine g_getr (k := 0) (k' := 20) C (by decide) kf_X5_45 rfl rfl dX5_className_1 ?_
  refine g_iload_n C 1 dX5_className_4 rfl rfl ?_
  obtain ⟨r5, hr5, hm⟩ := bnd_some hm
  refine g_callVi (As := [vI l1]) (rest := []) C lk_X5_93 (k_X8_get X.2.1 G hl hG fu 20 l1 M r5 ((hG _ hk0).2 7 8 20 0 rfl) hr5) (by decide) rfl rfl rfl (Nat.le_of_ble_eq_true rfl) ⟨Nat.le_of_ble_eq_true rfl, Nat.le_of_ble_eq_true rfl⟩ dX5_className_5 ?_
  obtain rfl := Option.some.inj hm
  exact g_iret C dX5_className_8
def f_X5_classSize (fu : Nat) (l1 : Int32) (M : Mem) : Option (Int32 × Mem) :=
  (f_X8_get fu 21 l1 M).bind (fun r5 => some (r5.1, r5.2))
set_option maxHeartbeats 4000000 in
set_option maxRecDepth 100000 in
theorem k_X5_classSize (l : Launch) (G : GE) (hl : l.stackTraces = false) (hG : GOK G) (fu : Nat) (l1 : Int32) (M : Mem) (res : Int32 × Mem) (hk0 : (5, 0) ∈ gids G) (hm : f_X5_classSize fu l1 M = some res) : CT l G yX5_classSize cX5_classSize 2 (some .int) 1 [vR 5 0, vI l1] M (.inl (some (vI res.1))) res.2 := by
  refine ct_of [(0, vR 5 0), (1, vI l1)] (by decide +kernel) hl hG (Nat.le_of_ble_eq_true rfl) rfl (List.forall_mem_cons.mpr ⟨Or.inl hk0, List.forall_mem_cons.mpr ⟨trivial, fun _ h => nomatch h⟩⟩) (List.forall_mem_cons.mpr ⟨Or.inl hk0, List.forall_mem_cons.mpr ⟨trivial, fun _ h => nomatch h⟩⟩) (fun X hX C => ?_)
  subst hX
  have Cl := C
  unfold f_X5_classSize at hm
  refine g_aload_n C 0 dX5_classSize_0 rfl rfl ?_
  refine g_getr (k := 0) (k' := 21) C (by decide) kf_X5_49 rfl rfl dX5_classSize_1 ?_
  refine g_iload_n C 1 dX5_classSize_4 rfl rfl ?_
  obtain ⟨r5, hr5, hm⟩ := bnd_some hm
  refine g_callVi (As := [vI l1]) (rest := []) C lk_X5_93 (k_X8_get X.2.1 G hl hG fu 21 l1 M r5 ((hG _ hk0).2 8 8 21 0 rfl) hr5) (by decide) rfl rfl rfl (Nat.le_of_ble_eq_true rfl) ⟨Nat.le_of_ble_eq_true rfl, Nat.le_of_ble_eq_true rfl⟩ dX5_classSize_5 ?_
  obtain rfl := Option.some.inj hm
  exact g_iret C dX5_classSize_8
def f_X5_classTotal (fu : Nat) (M : Mem) : Option (Int32 × Mem) :=
  some (M.1 5 0 3, M)
set_option maxHeartbeats 4000000 in
set_option maxRecDepth 100000 in
theorem k_X5_classTotal (l : Launch) (G : GE) (hl : l.stackTraces = false) (hG : GOK G) (fu : Nat)  (M : Mem) (res : Int32 × Mem) (hk0 : (5, 0) ∈ gids G) (hm : f_X5_classTotal fu  M = some res) : CT l G yX5_classTotal cX5_classTotal 1 (some .int) 0 [vR 5 0] M (.inl (some (vI res.1))) res.2 := by
  refine ct_of [(0, vR 5 0)] (by decide +kernel) hl hG (Nat.le_of_ble_eq_true rfl) rfl (List.forall_mem_cons.mpr ⟨Or.inl hk0, fun _ h => nomatch h⟩) (List.forall_mem_cons.mpr ⟨Or.inl hk0, fun _ h => nomatch h⟩) (fun X hX C => ?_)
  subst hX
  have Cl := C
  unfold f_X5_classTotal at hm
  refine g_aload_n C 0 dX5_classTotal_0 rfl rfl ?_
  refine g_geti (k := 0) C (by decide) kf_X5_22 rfl dX5_classTotal_1 ?_
  obtain rfl := Option.some.inj hm
  exact g_iret C dX5_classTotal_4
def f_X5_classesBetween (fu : Nat) (l1 : Int32) (l2 : Int32) (M : Mem) : Option (Int32 × Mem) :=
  (f_X3_get fu 5 l1 l2 M).bind (fun r6 => some (r6.1, r6.2))
set_option maxHeartbeats 4000000 in
set_option maxRecDepth 100000 in
theorem k_X5_classesBetween (l : Launch) (G : GE) (hl : l.stackTraces = false) (hG : GOK G) (fu : Nat) (l1 : Int32) (l2 : Int32) (M : Mem) (res : Int32 × Mem) (hk0 : (5, 0) ∈ gids G) (hm : f_X5_classesBetween fu l1 l2 M = some res) : CT l G yX5_classesBetween cX5_classesBetween 3 (some .int) 1 [vR 5 0, vI l1, vI l2] M (.inl (some (vI res.1))) res.2 := by
  refine ct_of [(0, vR 5 0), (1, vI l1), (2, vI l2)] (by decide +kernel) hl hG (Nat.le_of_ble_eq_true rfl) rfl (List.forall_mem_cons.mpr ⟨Or.inl hk0, List.forall_mem_cons.mpr ⟨trivial, List.forall_mem_cons.mpr ⟨trivial, fun _ h => nomatch h⟩⟩⟩) (List.forall_mem_cons.mpr ⟨Or.inl hk0, List.forall_mem_cons.mpr ⟨trivial, List.forall_mem_cons.mpr ⟨trivial, fun _ h => nomatch h⟩⟩⟩) (fun X hX C => ?_)
  subst hX
  have Cl := C
  unfold f_X5_classesBetween at hm
  refine g_aload_n C 0 dX5_classesBetween_0 rfl rfl ?_
  refine g_getr (k := 0) (k' := 5) C (by decide) kf_X5_58 rfl rfl dX5_classesBetween_1 ?_
  refine g_iload_n C 1 dX5_classesBetween_4 rfl rfl ?_
  refine g_iload_n C 2 dX5_classesBetween_5 rfl rfl ?_
  obtain ⟨r6, hr6, hm⟩ := bnd_some hm
  refine g_callVi (As := [vI l1, vI l2]) (rest := []) C lk_X5_97 (k_X3_get X.2.1 G hl hG fu 5 l1 l2 M r6 ((hG _ hk0).2 11 3 5 0 rfl) hr6) (by decide) rfl rfl rfl (Nat.le_of_ble_eq_true rfl) ⟨Nat.le_of_ble_eq_true rfl, Nat.le_of_ble_eq_true rfl⟩ dX5_classesBetween_6 ?_
  obtain rfl := Option.some.inj hm
  exact g_iret C dX5_classesBetween_9
def f_X5_coreSize (fu : Nat) (M : Mem) : Option (Int32 × Mem) :=
  (f_J6_bitCount_0f7a4 fu (M.1 5 0 4) M).bind (fun r4 => some (r4.1, r4.2))
set_option maxHeartbeats 4000000 in
set_option maxRecDepth 100000 in
theorem k_X5_coreSize (l : Launch) (G : GE) (hl : l.stackTraces = false) (hG : GOK G) (fu : Nat)  (M : Mem) (res : Int32 × Mem) (hk0 : (5, 0) ∈ gids G) (hm : f_X5_coreSize fu  M = some res) : CT l G yX5_coreSize cX5_coreSize 1 (some .int) 1 [vR 5 0] M (.inl (some (vI res.1))) res.2 := by
  refine ct_of [(0, vR 5 0)] (by decide +kernel) hl hG (Nat.le_of_ble_eq_true rfl) rfl (List.forall_mem_cons.mpr ⟨Or.inl hk0, fun _ h => nomatch h⟩) (List.forall_mem_cons.mpr ⟨Or.inl hk0, fun _ h => nomatch h⟩) (fun X hX C => ?_)
  subst hX
  have Cl := C
  unfold f_X5_coreSize at hm
  refine g_aload_n C 0 dX5_coreSize_0 rfl rfl ?_
  refine g_geti (k := 0) C (by decide) kf_X5_25 rfl dX5_coreSize_1 ?_
  obtain ⟨r4, hr4, hm⟩ := bnd_some hm
  refine g_callSi (As := [vI (M.1 5 0 4)]) (rest := []) C lk_X5_99 (k_J6_bitCount_0f7a4 X.2.1 G hl hG fu (M.1 5 0 4) M r4  hr4) rfl rfl (Nat.le_of_ble_eq_true rfl) ⟨Nat.le_of_ble_eq_true rfl, Nat.le_of_ble_eq_true rfl⟩ dX5_coreSize_4 ?_
  obtain rfl := Option.some.inj hm
  exact g_iret C dX5_coreSize_7
def f_X5_isInCore (fu : Nat) (l1 : Int32) (M : Mem) : Option (Int32 × Mem) :=
  if (((M.1 5 0 4) >>> (l1 &&& 31)) &&& (1 : Int32)) = (1 : Int32) then some ((1 : Int32), M) else some ((0 : Int32), M)
set_option maxHeartbeats 4000000 in
set_option maxRecDepth 100000 in
theorem k_X5_isInCore (l : Launch) (G : GE) (hl : l.stackTraces = false) (hG : GOK G) (fu : Nat) (l1 : Int32) (M : Mem) (res : Int32 × Mem) (hk0 : (5, 0) ∈ gids G) (hm : f_X5_isInCore fu l1 M = some res) : CT l G yX5_isInCore cX5_isInCore 2 (some .boolean) 0 [vR 5 0, vI l1] M (.inl (some (vI res.1))) res.2 := by
  refine ct_of [(0, vR 5 0), (1, vI l1)] (by decide +kernel) hl hG (Nat.le_of_ble_eq_true rfl) rfl (List.forall_mem_cons.mpr ⟨Or.inl hk0, List.forall_mem_cons.mpr ⟨trivial, fun _ h => nomatch h⟩⟩) (List.forall_mem_cons.mpr ⟨Or.inl hk0, List.forall_mem_cons.mpr ⟨trivial, fun _ h => nomatch h⟩⟩) (fun X hX C => ?_)
  subst hX
  have Cl := C
  unfold f_X5_isInCore at hm
  refine g_aload_n C 0 dX5_isInCore_0 rfl rfl ?_
  refine g_geti (k := 0) C (by decide) kf_X5_25 rfl dX5_isInCore_1 ?_
  refine g_iload_n C 1 dX5_isInCore_4 rfl rfl ?_
  refine g_ishr C dX5_isInCore_5 ?_
  refine g_iconst (v := 1) C dX5_isInCore_6 rfl ?_
  refine g_iand C dX5_isInCore_7 ?_
  refine g_iconst (v := 1) C dX5_isInCore_8 rfl ?_
  refine g_icmp_ne (tgt := 16) C dX5_isInCore_9 (by decide) (fun h9 => ?_) (fun h9 => ?_)
  · have hm := ife hm h9
    refine g_iconst (v := 0) C dX5_isInCore_16 rfl ?_
    obtain rfl := Option.some.inj hm
    exact g_zret C (Or.inl rfl) dX5_isInCore_17
  · have hm := ift hm h9
    refine g_iconst (v := 1) C dX5_isInCore_12 rfl ?_
    refine g_goto (tgt := 17) C dX5_isInCore_13 (by decide) ?_
    obtain rfl := Option.some.inj hm
    exact g_zret C (Or.inr rfl) dX5_isInCore_17
def f_X5_isRedundant (fu : Nat) (k1 : Nat) (l2 : Int32) (M : Mem) : Option (Int32 × Mem) :=
  (f_X5_isEqualBy fu k1 l2 ((1023 : Int32) &&& (((1 : Int32) <<< (l2 &&& 31)) ^^^ (-1 : Int32))) M).bind (fun r12 => if r12.1 = 0 ∨ r12.1 = 1 then some (r12.1, r12.2) else none)
set_option maxHeartbeats 4000000 in
set_option maxRecDepth 100000 in
theorem k_X5_isRedundant (l : Launch) (G : GE) (hl : l.stackTraces = false) (hG : GOK G) (fu : Nat) (k1 : Nat) (l2 : Int32) (M : Mem) (res : Int32 × Mem) (hk0 : (5, 0) ∈ gids G) (hk1 : (0, k1) ∈ gids G) (hm : f_X5_isRedundant fu k1 l2 M = some res) : CT l G yX5_isRedundant cX5_isRedundant 3 (some .boolean) 4 [vR 5 0, vR 0 k1, vI l2] M (.inl (some (vI res.1))) res.2 := by
  refine ct_of [(0, vR 5 0), (1, vR 0 k1), (2, vI l2)] (by decide +kernel) hl hG (Nat.le_of_ble_eq_true rfl) rfl (List.forall_mem_cons.mpr ⟨Or.inl hk0, List.forall_mem_cons.mpr ⟨Or.inl hk1, List.forall_mem_cons.mpr ⟨trivial, fun _ h => nomatch h⟩⟩⟩) (List.forall_mem_cons.mpr ⟨Or.inl hk0, List.forall_mem_cons.mpr ⟨Or.inl hk1, List.forall_mem_cons.mpr ⟨trivial, fun _ h => nomatch h⟩⟩⟩) (fun X hX C => ?_)
  subst hX
  have Cl := C
  unfold f_X5_isRedundant at hm
  refine g_aload_n C 0 dX5_isRedundant_0 rfl rfl ?_
  refine g_aload_n C 1 dX5_isRedundant_1 rfl rfl ?_
  refine g_iload_n C 2 dX5_isRedundant_2 rfl rfl ?_
  refine g_sipush (v := 1023) C dX5_isRedundant_3 rfl ?_
  refine g_iconst (v := 1) C dX5_isRedundant_6 rfl ?_
  refine g_iload_n C 2 dX5_isRedundant_7 rfl rfl ?_
  refine g_ishl C dX5_isRedundant_8 ?_
  refine g_iconst (v := -1) C dX5_isRedundant_9 rfl ?_
  refine g_ixor C dX5_isRedundant_10 ?_
  refine g_iand C dX5_isRedundant_11 ?_
  obtain ⟨r12, hr12, hm⟩ := bnd_some hm
  refine g_callVi (As := [vR 0 k1, vI l2, vI ((1023 : Int32) &&& (((1 : Int32) <<< (l2 &&& 31)) ^^^ (-1 : Int32)))]) (rest := []) C lk_X5_89 (k_X5_isEqualBy X.2.1 G hl hG fu k1 l2 ((1023 : Int32) &&& (((1 : Int32) <<< (l2 &&& 31)) ^^^ (-1 : Int32))) M r12 hk0 hk1 hr12) (by decide) rfl rfl rfl (Nat.le_of_ble_eq_true rfl) ⟨Nat.le_of_ble_eq_true rfl, Nat.le_of_ble_eq_true rfl⟩ dX5_isRedundant_12 ?_
  obtain ⟨hz15, hm⟩ := ifn hm
  obtain rfl := Option.some.inj hm
  exact g_zret C hz15 dX5_isRedundant_15
def f_X5_stepsFrom (fu : Nat) (l1 : Int32) (M : Mem) : Option (Int32 × Mem) :=
  (f_X8_get fu 22 l1 M).bind (fun r5 => some (r5.1, r5.2))
set_option maxHeartbeats 4000000 in
set_option maxRecDepth 100000 in
theorem k_X5_stepsFrom (l : Launch) (G : GE) (hl : l.stackTraces = false) (hG : GOK G) (fu : Nat) (l1 : Int32) (M : Mem) (res : Int32 × Mem) (hk0 : (5, 0) ∈ gids G) (hm : f_X5_stepsFrom fu l1 M = some res) : CT l G yX5_stepsFrom cX5_stepsFrom 2 (some .int) 1 [vR 5 0, vI l1] M (.inl (some (vI res.1))) res.2 := by
  refine ct_of [(0, vR 5 0), (1, vI l1)] (by decide +kernel) hl hG (Nat.le_of_ble_eq_true rfl) rfl (List.forall_mem_cons.mpr ⟨Or.inl hk0, List.forall_mem_cons.mpr ⟨trivial, fun _ h => nomatch h⟩⟩) (List.forall_mem_cons.mpr ⟨Or.inl hk0, List.forall_mem_cons.mpr ⟨trivial, fun _ h => nomatch h⟩⟩) (fun X hX C => ?_)
  subst hX
  have Cl := C
  unfold f_X5_stepsFrom at hm
  refine g_aload_n C 0 dX5_stepsFrom_0 rfl rfl ?_
  refine g_getr (k := 0) (k' := 22) C (by decide) kf_X5_52 rfl rfl dX5_stepsFrom_1 ?_
  refine g_iload_n C 1 dX5_stepsFrom_4 rfl rfl ?_
  obtain ⟨r5, hr5, hm⟩ := bnd_some hm
  refine g_callVi (As := [vI l1]) (rest := []) C lk_X5_93 (k_X8_get X.2.1 G hl hG fu 22 l1 M r5 ((hG _ hk0).2 9 8 22 0 rfl) hr5) (by decide) rfl rfl rfl (Nat.le_of_ble_eq_true rfl) ⟨Nat.le_of_ble_eq_true rfl, Nat.le_of_ble_eq_true rfl⟩ dX5_stepsFrom_5 ?_
  obtain rfl := Option.some.inj hm
  exact g_iret C dX5_stepsFrom_8
def f_X5_nextInProof_j77 (fu : Nat)  (l1 : Int32) (l2 : Int32) (l3 : Int32) (M : Mem) : Option ((Int32 × Int32 × Mem) ⊕ (Int32 × Mem)) :=
  some (Sum.inl (l2, l3 + (1 : Int32), M))
def f_X5_nextInProof_j74 (fu : Nat)  (l1 : Int32) (l3 : Int32) (l4 : Int32) (M : Mem) : Option ((Int32 × Int32 × Mem) ⊕ (Int32 × Mem)) :=
  f_X5_nextInProof_j77 fu l1 l4 l3 M
def f_X5_nextInProof_j56 (fu : Nat)  (l1 : Int32) (l2 : Int32) (l3 : Int32) (l4 : Int32) (t0 : Int32) (M : Mem) : Option ((Int32 × Int32 × Mem) ⊕ (Int32 × Mem)) :=
  if t0 = 0 then f_X5_nextInProof_j77 fu l1 l2 l3 M else if l2 = (-1 : Int32) then f_X5_nextInProof_j74 fu l1 l3 l4 M else if l2 ≤ l4 then f_X5_nextInProof_j77 fu l1 l2 l3 M else f_X5_nextInProof_j74 fu l1 l3 l4 M
def f_X5_nextInProof_j55 (fu : Nat)  (l1 : Int32) (l2 : Int32) (l3 : Int32) (l4 : Int32) (M : Mem) : Option ((Int32 × Int32 × Mem) ⊕ (Int32 × Mem)) :=
  f_X5_nextInProof_j56 fu l1 l2 l3 l4 (0 : Int32) M
def f_X5_nextInProof_b4 (fu : Nat)  (l1 : Int32) (l2 : Int32) (l3 : Int32) (M : Mem) : Option ((Int32 × Int32 × Mem) ⊕ (Int32 × Mem)) :=
  if (M.1 5 0 2) ≤ l3 then some (Sum.inr (l2, M)) else (f_X3_get fu 4 l1 l3 M).bind (fun r18 => if r18.1 = (-1 : Int32) then f_X5_nextInProof_j55 fu l1 l2 l3 r18.1 r18.2 else (f_X8_get fu 22 r18.1 r18.2).bind (fun r35 => (f_X8_get fu 22 l1 r35.2).bind (fun r43 => if r35.1 = (r43.1 - (1 : Int32)) then f_X5_nextInProof_j56 fu l1 l2 l3 r18.1 (1 : Int32) r43.2 else f_X5_nextInProof_j55 fu l1 l2 l3 r18.1 r43.2)))
def f_X5_nextInProof_h4 (fu : Nat)   (l1 : Int32) (l2 : Int32) (l3 : Int32) (M : Mem) : Option (Int32 × Mem) :=
  (lp_run (fun s => f_X5_nextInProof_b4 fu  l1 s.1 s.2.1 s.2.2) fu (l2, l3, M)).bind (fun r4 => match r4 with
    | (l2, M) => some (l2, M))
def f_X5_nextInProof (fu : Nat) (l1 : Int32) (M : Mem) : Option (Int32 × Mem) :=
  f_X5_nextInProof_h4 fu l1 (-1 : Int32) (0 : Int32) M
set_option maxHeartbeats 4000000 in
set_option maxRecDepth 100000 in
theorem k_X5_nextInProof (l : Launch) (G : GE) (hl : l.stackTraces = false) (hG : GOK G) (fu : Nat) (l1 : Int32) (M : Mem) (res : Int32 × Mem) (hk0 : (5, 0) ∈ gids G) (hm : f_X5_nextInProof fu l1 M = some res) : CT l G yX5_nextInProof cX5_nextInProof 6 (some .int) 1 [vR 5 0, vI l1] M (.inl (some (vI res.1))) res.2 := by
  refine ct_of [(0, vR 5 0), (1, vI l1)] (by decide +kernel) hl hG (Nat.le_of_ble_eq_true rfl) rfl (List.forall_mem_cons.mpr ⟨Or.inl hk0, List.forall_mem_cons.mpr ⟨trivial, fun _ h => nomatch h⟩⟩) (List.forall_mem_cons.mpr ⟨Or.inl hk0, List.forall_mem_cons.mpr ⟨trivial, fun _ h => nomatch h⟩⟩) (fun X hX C => ?_)
  subst hX
  have Cl := C
  have J4 : ∀ (l1 : Int32) (l2 : Int32) (l3 : Int32) (M : Mem), f_X5_nextInProof_h4 fu   l1 l2 l3 M = some res → GW G X 6 (QX G X (.inl (some (vI res.1))) res.2) 4 [(0, vR 5 0), (1, vI l1), (2, vI l2), (3, vI l3)] [] M := by
    intro l1 l2 l3 M hm
    unfold f_X5_nextInProof_h4 at hm
    obtain ⟨r4, hL4, hk4⟩ := bnd_some hm
    have hx4 : ∀ (l2 : Int32) (M : Mem), (l2, M) = r4 → GW G X 6 (QX G X (.inl (some (vI res.1))) res.2) 83 [(2, vI l2)] [] M := by
      intro l2 M he
      subst he
      have hm := hk4
      try dsimp only at hm
      refine g_iload_n C 0 dX5_nextInProof_83 rfl rfl ?_
      obtain rfl := Option.some.inj hm
      exact g_iret C dX5_nextInProof_84
    refine lp_ind2 (P := (fun l2 l3 M => GW G X 6 (QX G X (.inl (some (vI res.1))) res.2) 4 [(0, vR 5 0), (1, vI l1), (2, vI l2), (3, vI l3)] [] M)) (r := r4) ?_ fu l2 l3 M hL4
    intro l2 l3 M o4 hm K4
    have J77 : ∀ (l2 : Int32) (l3 : Int32) (M : Mem), f_X5_nextInProof_j77 fu  l1 l2 l3 M = some o4 → GW G X 6 (QX G X (.inl (some (vI res.1))) res.2) 77 [(0, vR 5 0), (1, vI l1), (2, vI l2), (3, vI l3)] [] M := by
      intro l2 l3 M hm
      unfold f_X5_nextInProof_j77 at hm
      refine g_iinc (ls' := [(3, vI (l3 + (1 : Int32))), (0, vR 5 0), (1, vI l1), (2, vI l2)]) (v := l3 + (1 : Int32)) C 3 dX5_nextInProof_77 rfl (iv_p1 _) (by decide) rfl ?_
      refine g_goto (tgt := 4) C dX5_nextInProof_80 (by decide) ?_
      obtain rfl := Option.some.inj hm
      exact g_sub [1, 2, 3, 0] rfl (g_pc rfl (K4.1 l2 (l3 + (1 : Int32)) M rfl))
    have J74 : ∀ (l3 : Int32) (l4 : Int32) (M : Mem), f_X5_nextInProof_j74 fu  l1 l3 l4 M = some o4 → GW G X 6 (QX G X (.inl (some (vI res.1))) res.2) 74 [(0, vR 5 0), (1, vI l1), (3, vI l3), (4, vI l4)] [] M := by
      intro l3 l4 M hm
      unfold f_X5_nextInProof_j74 at hm
      refine g_iload C 3 dX5_nextInProof_74 rfl ?_
      refine g_istore_n (ls' := [(2, vI l4), (0, vR 5 0), (1, vI l1), (3, vI l3), (4, vI l4)]) C dX5_nextInProof_76 rfl (by decide) rfl ?_
      exact g_sub [1, 2, 0, 3] rfl (g_pc rfl (J77 l4 l3 M hm))
    have J56 : ∀ (l2 : Int32) (l3 : Int32) (l4 : Int32) (t0 : Int32) (M : Mem), f_X5_nextInProof_j56 fu  l1 l2 l3 l4 t0 M = some o4 → GW G X 6 (QX G X (.inl (some (vI res.1))) res.2) 56 [(0, vR 5 0), (1, vI l1), (2, vI l2), (3, vI l3), (4, vI l4)] [vI t0] M := by
      intro l2 l3 l4 t0 M hm
      unfold f_X5_nextInProof_j56 at hm
      refine g_istore (ls' := [(5, vI t0), (0, vR 5 0), (1, vI l1), (2, vI l2), (3, vI l3), (4, vI l4)]) C dX5_nextInProof_56 (by decide) rfl ?_
      refine g_iload C 0 dX5_nextInProof_58 rfl ?_
      refine g_if_eq (tgt := 77) C dX5_nextInProof_60 (by decide) (fun h60 => ?_) (fun h60 => ?_)
      · have hm := ift hm h60
        exact g_sub [1, 2, 3, 4] rfl (g_pc rfl (J77 l2 l3 M hm))
      · have hm := ife hm h60
        refine g_iload_n C 3 dX5_nextInProof_63 rfl rfl ?_
        refine g_iconst (v := -1) C dX5_nextInProof_64 rfl ?_
        refine g_icmp_eq (tgt := 74) C dX5_nextInProof_65 (by decide) (fun h65 => ?_) (fun h65 => ?_)
        · have hm := ift hm h65
          exact g_sub [1, 2, 4, 5] rfl (g_pc rfl (J74 l3 l4 M hm))
        · have hm := ife hm h65
          refine g_iload C 5 dX5_nextInProof_68 rfl ?_
          refine g_iload_n C 3 dX5_nextInProof_70 rfl rfl ?_
          refine g_icmp_ge (tgt := 77) C dX5_nextInProof_71 (by decide) (fun h71 => ?_) (fun h71 => ?_)
          · have hm := ift hm h71
            exact g_sub [1, 2, 3, 4] rfl (g_pc rfl (J77 l2 l3 M hm))
          · have hm := ife hm h71
            exact g_sub [1, 2, 4, 5] rfl (g_pc rfl (J74 l3 l4 M hm))
    have J55 : ∀ (l2 : Int32) (l3 : Int32) (l4 : Int32) (M : Mem), f_X5_nextInProof_j55 fu  l1 l2 l3 l4 M = some o4 → GW G X 6 (QX G X (.inl (some (vI res.1))) res.2) 55 [(0, vR 5 0), (1, vI l1), (2, vI l2), (3, vI l3), (4, vI l4)] [] M := by
      intro l2 l3 l4 M hm
      unfold f_X5_nextInProof_j55 at hm
      refine g_iconst (v := 0) C dX5_nextInProof_55 rfl ?_
      exact g_sub [0, 1, 2, 3, 4] rfl (g_pc rfl (J56 l2 l3 l4 (0 : Int32) M hm))
    unfold f_X5_nextInProof_b4 at hm
    refine g_iload_n C 3 dX5_nextInProof_4 rfl rfl ?_
    refine g_aload_n C 0 dX5_nextInProof_5 rfl rfl ?_
    refine g_geti (k := 0) C (by decide) kf_X5_18 rfl dX5_nextInProof_6 ?_
    refine g_icmp_ge (tgt := 83) C dX5_nextInProof_9 (by decide) (fun h9 => ?_) (fun h9 => ?_)
    · have hm := ift hm h9
      obtain rfl := Option.some.inj hm
      exact g_sub [2] rfl (g_pc rfl (hx4 l2 M (K4.2 _ rfl)))
    · have hm := ife hm h9
      refine g_aload_n C 0 dX5_nextInProof_12 rfl rfl ?_
      refine g_getr (k := 0) (k' := 4) C (by decide) kf_X5_36 rfl rfl dX5_nextInProof_13 ?_
      refine g_iload_n C 1 dX5_nextInProof_16 rfl rfl ?_
      refine g_iload_n C 3 dX5_nextInProof_17 rfl rfl ?_
      obtain ⟨r18, hr18, hm⟩ := bnd_some hm
      refine g_callVi (As := [vI l1, vI l3]) (rest := []) C lk_X5_97 (k_X3_get X.2.1 G hl hG fu 4 l1 l3 M r18 ((hG _ hk0).2 6 3 4 0 rfl) hr18) (by decide) rfl rfl rfl (Nat.le_of_ble_eq_true rfl) ⟨Nat.le_of_ble_eq_true rfl, Nat.le_of_ble_eq_true rfl⟩ dX5_nextInProof_18 ?_
      refine g_istore (ls' := [(4, vI r18.1), (0, vR 5 0), (1, vI l1), (2, vI l2), (3, vI l3)]) C dX5_nextInProof_21 (by decide) rfl ?_
      refine g_iload C 0 dX5_nextInProof_23 rfl ?_
      refine g_iconst (v := -1) C dX5_nextInProof_25 rfl ?_
      refine g_icmp_eq (tgt := 55) C dX5_nextInProof_26 (by decide) (fun h26 => ?_) (fun h26 => ?_)
      · have hm := ift hm h26
        exact g_sub [1, 2, 3, 4, 0] rfl (g_pc rfl (J55 l2 l3 r18.1 r18.2 hm))
      · have hm := ife hm h26
        refine g_aload_n C 1 dX5_nextInProof_29 rfl rfl ?_
        refine g_getr (k := 0) (k' := 22) C (by decide) kf_X5_52 rfl rfl dX5_nextInProof_30 ?_
        refine g_iload C 0 dX5_nextInProof_33 rfl ?_
        obtain ⟨r35, hr35, hm⟩ := bnd_some hm
        refine g_callVi (As := [vI r18.1]) (rest := []) C lk_X5_93 (k_X8_get X.2.1 G hl hG fu 22 r18.1 r18.2 r35 ((hG _ hk0).2 9 8 22 0 rfl) hr35) (by decide) rfl rfl rfl (Nat.le_of_ble_eq_true rfl) ⟨Nat.le_of_ble_eq_true rfl, Nat.le_of_ble_eq_true rfl⟩ dX5_nextInProof_35 ?_
        refine g_aload_n C 1 dX5_nextInProof_38 rfl rfl ?_
        refine g_getr (k := 0) (k' := 22) C (by decide) kf_X5_52 rfl rfl dX5_nextInProof_39 ?_
        refine g_iload_n C 2 dX5_nextInProof_42 rfl rfl ?_
        obtain ⟨r43, hr43, hm⟩ := bnd_some hm
        refine g_callVi (As := [vI l1]) (rest := [vI r35.1]) C lk_X5_93 (k_X8_get X.2.1 G hl hG fu 22 l1 r35.2 r43 ((hG _ hk0).2 9 8 22 0 rfl) hr43) (by decide) rfl rfl rfl (Nat.le_of_ble_eq_true rfl) ⟨Nat.le_of_ble_eq_true rfl, Nat.le_of_ble_eq_true rfl⟩ dX5_nextInProof_43 ?_
        refine g_iconst (v := 1) C dX5_nextInProof_46 rfl ?_
        refine g_isub C dX5_nextInProof_47 ?_
        refine g_icmp_ne (tgt := 55) C dX5_nextInProof_48 (by decide) (fun h48 => ?_) (fun h48 => ?_)
        · have hm := ife hm h48
          exact g_sub [1, 2, 3, 4, 0] rfl (g_pc rfl (J55 l2 l3 r18.1 r43.2 hm))
        · have hm := ift hm h48
          refine g_iconst (v := 1) C dX5_nextInProof_51 rfl ?_
          refine g_goto (tgt := 56) C dX5_nextInProof_52 (by decide) ?_
          exact g_sub [1, 2, 3, 4, 0] rfl (g_pc rfl (J56 l2 l3 r18.1 (1 : Int32) r43.2 hm))
  unfold f_X5_nextInProof at hm
  refine g_iconst (v := -1) C dX5_nextInProof_0 rfl ?_
  refine g_istore_n (ls' := [(2, vI (-1 : Int32)), (0, vR 5 0), (1, vI l1)]) C dX5_nextInProof_1 rfl (by decide) rfl ?_
  refine g_iconst (v := 0) C dX5_nextInProof_2 rfl ?_
  refine g_istore_n (ls' := [(3, vI (0 : Int32)), (2, vI (-1 : Int32)), (0, vR 5 0), (1, vI l1)]) C dX5_nextInProof_3 rfl (by decide) rfl ?_
  exact g_sub [2, 3, 1, 0] rfl (g_pc rfl (J4 l1 (-1 : Int32) (0 : Int32) M hm))
def f_X5_cellOfStep_b2 (fu : Nat)  (l1 : Int32) (l2 : Int32) (l3 : Int32) (M : Mem) : Option ((Int32 × Mem) ⊕ ((Mem) ⊕ (Int32 × Mem))) :=
  if (M.1 5 0 2) ≤ l3 then some (Sum.inr (Sum.inl M)) else (f_X3_get fu 4 l1 l3 M).bind (fun r16 => if r16.1 = l2 then some (Sum.inr (Sum.inr (l3 / (2 : Int32), r16.2))) else some (Sum.inl (l3 + (1 : Int32), r16.2)))
def f_X5_cellOfStep_h2 (fu : Nat)   (l1 : Int32) (l2 : Int32) (l3 : Int32) (M : Mem) : Option (Int32 × Mem) :=
  (lp_run (fun s => f_X5_cellOfStep_b2 fu  l1 l2 s.1 s.2) fu (l3, M)).bind (fun r2 => match r2 with
    | Sum.inl M => some ((-1 : Int32), M)
    | Sum.inr q2 => some q2)
def f_X5_cellOfStep (fu : Nat) (l1 : Int32) (l2 : Int32) (M : Mem) : Option (Int32 × Mem) :=
  f_X5_cellOfStep_h2 fu l1 l2 (0 : Int32) M
set_option maxHeartbeats 4000000 in
set_option maxRecDepth 100000 in
theorem k_X5_cellOfStep (l : Launch) (G : GE) (hl : l.stackTraces = false) (hG : GOK G) (fu : Nat) (l1 : Int32) (l2 : Int32) (M : Mem) (res : Int32 × Mem) (hk0 : (5, 0) ∈ gids G) (hm : f_X5_cellOfStep fu l1 l2 M = some res) : CT l G yX5_cellOfStep cX5_cellOfStep 4 (some .int) 1 [vR 5 0, vI l1, vI l2] M (.inl (some (vI res.1))) res.2 := by
  refine ct_of [(0, vR 5 0), (1, vI l1), (2, vI l2)] (by decide +kernel) hl hG (Nat.le_of_ble_eq_true rfl) rfl (List.forall_mem_cons.mpr ⟨Or.inl hk0, List.forall_mem_cons.mpr ⟨trivial, List.forall_mem_cons.mpr ⟨trivial, fun _ h => nomatch h⟩⟩⟩) (List.forall_mem_cons.mpr ⟨Or.inl hk0, List.forall_mem_cons.mpr ⟨trivial, List.forall_mem_cons.mpr ⟨trivial, fun _ h => nomatch h⟩⟩⟩) (fun X hX C => ?_)
  subst hX
  have Cl := C
  have J2 : ∀ (l1 : Int32) (l2 : Int32) (l3 : Int32) (M : Mem), f_X5_cellOfStep_h2 fu   l1 l2 l3 M = some res → GW G X 4 (QX G X (.inl (some (vI res.1))) res.2) 2 [(0, vR 5 0), (1, vI l1), (2, vI l2), (3, vI l3)] [] M := by
    intro l1 l2 l3 M hm
    unfold f_X5_cellOfStep_h2 at hm
    obtain ⟨r2, hL2, hk2⟩ := bnd_some hm
    have hx2 : ∀ (M : Mem), Sum.inl M = r2 → GW G X 4 (QX G X (.inl (some (vI res.1))) res.2) 33 [] [] M := by
      intro M he
      subst he
      have hm := hk2
      try dsimp only at hm
      refine g_iconst (v := -1) C dX5_cellOfStep_33 rfl ?_
      obtain rfl := Option.some.inj hm
      exact g_iret C dX5_cellOfStep_34
    refine lp_ind1 (P := (fun l3 M => GW G X 4 (QX G X (.inl (some (vI res.1))) res.2) 2 [(0, vR 5 0), (1, vI l1), (2, vI l2), (3, vI l3)] [] M)) (r := r2) ?_ fu l3 M hL2
    intro l3 M o2 hm K2
    unfold f_X5_cellOfStep_b2 at hm
    refine g_iload_n C 3 dX5_cellOfStep_2 rfl rfl ?_
    refine g_aload_n C 0 dX5_cellOfStep_3 rfl rfl ?_
    refine g_geti (k := 0) C (by decide) kf_X5_18 rfl dX5_cellOfStep_4 ?_
    refine g_icmp_ge (tgt := 33) C dX5_cellOfStep_7 (by decide) (fun h7 => ?_) (fun h7 => ?_)
    · have hm := ift hm h7
      obtain rfl := Option.some.inj hm
      exact g_sub [] rfl (g_pc rfl (hx2 M (K2.2 _ rfl)))
    · have hm := ife hm h7
      refine g_aload_n C 0 dX5_cellOfStep_10 rfl rfl ?_
      refine g_getr (k := 0) (k' := 4) C (by decide) kf_X5_36 rfl rfl dX5_cellOfStep_11 ?_
      refine g_iload_n C 1 dX5_cellOfStep_14 rfl rfl ?_
      refine g_iload_n C 3 dX5_cellOfStep_15 rfl rfl ?_
      obtain ⟨r16, hr16, hm⟩ := bnd_some hm
      refine g_callVi (As := [vI l1, vI l3]) (rest := []) C lk_X5_97 (k_X3_get X.2.1 G hl hG fu 4 l1 l3 M r16 ((hG _ hk0).2 6 3 4 0 rfl) hr16) (by decide) rfl rfl rfl (Nat.le_of_ble_eq_true rfl) ⟨Nat.le_of_ble_eq_true rfl, Nat.le_of_ble_eq_true rfl⟩ dX5_cellOfStep_16 ?_
      refine g_iload_n C 2 dX5_cellOfStep_19 rfl rfl ?_
      refine g_icmp_ne (tgt := 27) C dX5_cellOfStep_20 (by decide) (fun h20 => ?_) (fun h20 => ?_)
      · have hm := ife hm h20
        refine g_iinc (ls' := [(3, vI (l3 + (1 : Int32))), (0, vR 5 0), (1, vI l1), (2, vI l2)]) (v := l3 + (1 : Int32)) C 3 dX5_cellOfStep_27 rfl (iv_p1 _) (by decide) rfl ?_
        refine g_goto (tgt := 2) C dX5_cellOfStep_30 (by decide) ?_
        obtain rfl := Option.some.inj hm
        exact g_sub [1, 2, 3, 0] rfl (g_pc rfl (K2.1 (l3 + (1 : Int32)) r16.2 rfl))
      · have hm := ift hm h20
        refine g_iload_n C 3 dX5_cellOfStep_23 rfl rfl ?_
        refine g_iconst (v := 2) C dX5_cellOfStep_24 rfl ?_
        refine g_idiv C dX5_cellOfStep_25 (by decide) ?_
        obtain rfl := Option.some.inj hm
        have e2 := K2.2 _ rfl
        subst e2
        obtain rfl := Option.some.inj hk2
        exact g_iret C dX5_cellOfStep_26
  unfold f_X5_cellOfStep at hm
  refine g_iconst (v := 0) C dX5_cellOfStep_0 rfl ?_
  refine g_istore_n (ls' := [(3, vI (0 : Int32)), (0, vR 5 0), (1, vI l1), (2, vI l2)]) C dX5_cellOfStep_1 rfl (by decide) rfl ?_
  exact g_sub [1, 2, 3, 0] rfl (g_pc rfl (J2 l1 l2 (0 : Int32) M hm))

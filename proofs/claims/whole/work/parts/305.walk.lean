/-! models and contracts, by program (wip/whole/emit.py): X10_thrown, X10_within, X10_isObject, X10_isArrow, X10_isPath, X10_areParallel, X10_sideOf, X10_begin, X10_putArrow, X10_addArrow, X10_removeCell, X10_hasLetter, X10_dropArrow, X10_putSide, X10_addCell, X10_isCell, X10_dropCell, X10_append, X10_clearInput, X10_takesDigit, X10_putLetter, X10_takesLetter, X10_mayEnd, X10_endItem -/
def f_X10_thrown (fu : Nat) (M : Mem) : Option (Int32 × Mem) :=
  some (M.1 10 0 0, M)
set_option maxHeartbeats 4000000 in
set_option maxRecDepth 100000 in
theorem k_X10_thrown (l : Launch) (G : GE) (hl : l.stackTraces = false) (hG : GOK G) (fu : Nat)  (M : Mem) (res : Int32 × Mem) (hk0 : (10, 0) ∈ gids G) (hm : f_X10_thrown fu  M = some res) : CT l G yX10_thrown cX10_thrown 1 (some .int) 0 [vR 10 0] M (.inl (some (vI res.1))) res.2 := by
  refine ct_of [(0, vR 10 0)] (by decide +kernel) hl hG (Nat.le_of_ble_eq_true rfl) rfl (List.forall_mem_cons.mpr ⟨Or.inl hk0, fun _ h => nomatch h⟩) (List.forall_mem_cons.mpr ⟨Or.inl hk0, fun _ h => nomatch h⟩) (fun X hX C => ?_)
  subst hX
  have Cl := C
  unfold f_X10_thrown at hm
  refine g_aload_n C 0 dX10_thrown_0 rfl rfl ?_
  refine g_geti (k := 0) C (by decide) kf_X10_72 rfl dX10_thrown_1 ?_
  obtain rfl := Option.some.inj hm
  exact g_iret C dX10_thrown_4
def f_X10_within (fu : Nat) (l0 : Int32) (l1 : Int32) (l2 : Int32) (M : Mem) : Option (Int32 × Mem) :=
  if l0 < l1 then some ((0 : Int32), M) else if l2 < l0 then some ((0 : Int32), M) else some ((1 : Int32), M)
set_option maxHeartbeats 4000000 in
set_option maxRecDepth 100000 in
theorem k_X10_within (l : Launch) (G : GE) (hl : l.stackTraces = false) (hG : GOK G) (fu : Nat) (l0 : Int32) (l1 : Int32) (l2 : Int32) (M : Mem) (res : Int32 × Mem)  (hm : f_X10_within fu l0 l1 l2 M = some res) : CT l G yX10_within cX10_within 3 (some .boolean) 0 [vI l0, vI l1, vI l2] M (.inl (some (vI res.1))) res.2 := by
  refine ct_of [(0, vI l0), (1, vI l1), (2, vI l2)] (by decide +kernel) hl hG (Nat.le_of_ble_eq_true rfl) rfl (List.forall_mem_cons.mpr ⟨trivial, List.forall_mem_cons.mpr ⟨trivial, List.forall_mem_cons.mpr ⟨trivial, fun _ h => nomatch h⟩⟩⟩) (List.forall_mem_cons.mpr ⟨trivial, List.forall_mem_cons.mpr ⟨trivial, List.forall_mem_cons.mpr ⟨trivial, fun _ h => nomatch h⟩⟩⟩) (fun X hX C => ?_)
  subst hX
  have Cl := C
  unfold f_X10_within at hm
  refine g_iload_n C 0 dX10_within_0 rfl rfl ?_
  refine g_iload_n C 1 dX10_within_1 rfl rfl ?_
  refine g_icmp_lt (tgt := 14) C dX10_within_2 (by decide) (fun h2 => ?_) (fun h2 => ?_)
  · have hm := ift hm h2
    refine g_iconst (v := 0) C dX10_within_14 rfl ?_
    obtain rfl := Option.some.inj hm
    exact g_zret C (Or.inl rfl) dX10_within_15
  · have hm := ife hm h2
    refine g_iload_n C 0 dX10_within_5 rfl rfl ?_
    refine g_iload_n C 2 dX10_within_6 rfl rfl ?_
    refine g_icmp_gt (tgt := 14) C dX10_within_7 (by decide) (fun h7 => ?_) (fun h7 => ?_)
    · have hm := ift hm h7
      refine g_iconst (v := 0) C dX10_within_14 rfl ?_
      obtain rfl := Option.some.inj hm
      exact g_zret C (Or.inl rfl) dX10_within_15
    · have hm := ife hm h7
      refine g_iconst (v := 1) C dX10_within_10 rfl ?_
      refine g_goto (tgt := 15) C dX10_within_11 (by decide) ?_
      obtain rfl := Option.some.inj hm
      exact g_zret C (Or.inr rfl) dX10_within_15
def f_X10_isObject (fu : Nat) (l1 : Int32) (M : Mem) : Option (Int32 × Mem) :=
  (f_X10_within fu l1 (0 : Int32) ((M.1 10 0 1) - (1 : Int32)) M).bind (fun r8 => if r8.1 = 0 ∨ r8.1 = 1 then some (r8.1, r8.2) else none)
set_option maxHeartbeats 4000000 in
set_option maxRecDepth 100000 in
theorem k_X10_isObject (l : Launch) (G : GE) (hl : l.stackTraces = false) (hG : GOK G) (fu : Nat) (l1 : Int32) (M : Mem) (res : Int32 × Mem) (hk0 : (10, 0) ∈ gids G) (hm : f_X10_isObject fu l1 M = some res) : CT l G yX10_isObject cX10_isObject 2 (some .boolean) 1 [vR 10 0, vI l1] M (.inl (some (vI res.1))) res.2 := by
  refine ct_of [(0, vR 10 0), (1, vI l1)] (by decide +kernel) hl hG (Nat.le_of_ble_eq_true rfl) rfl (List.forall_mem_cons.mpr ⟨Or.inl hk0, List.forall_mem_cons.mpr ⟨trivial, fun _ h => nomatch h⟩⟩) (List.forall_mem_cons.mpr ⟨Or.inl hk0, List.forall_mem_cons.mpr ⟨trivial, fun _ h => nomatch h⟩⟩) (fun X hX C => ?_)
  subst hX
  have Cl := C
  unfold f_X10_isObject at hm
  refine g_iload_n C 1 dX10_isObject_0 rfl rfl ?_
  refine g_iconst (v := 0) C dX10_isObject_1 rfl ?_
  refine g_aload_n C 0 dX10_isObject_2 rfl rfl ?_
  refine g_geti (k := 0) C (by decide) kf_X10_7 rfl dX10_isObject_3 ?_
  refine g_iconst (v := 1) C dX10_isObject_6 rfl ?_
  refine g_isub C dX10_isObject_7 ?_
  obtain ⟨r8, hr8, hm⟩ := bnd_some hm
  refine g_callSi (As := [vI l1, vI (0 : Int32), vI ((M.1 10 0 1) - (1 : Int32))]) (rest := []) C lk_X10_75 (k_X10_within X.2.1 G hl hG fu l1 (0 : Int32) ((M.1 10 0 1) - (1 : Int32)) M r8  hr8) rfl rfl (Nat.le_of_ble_eq_true rfl) ⟨Nat.le_of_ble_eq_true rfl, Nat.le_of_ble_eq_true rfl⟩ dX10_isObject_8 ?_
  obtain ⟨hz11, hm⟩ := ifn hm
  obtain rfl := Option.some.inj hm
  exact g_zret C hz11 dX10_isObject_11
def f_X10_isArrow (fu : Nat) (l1 : Int32) (M : Mem) : Option (Int32 × Mem) :=
  (f_X10_within fu l1 (0 : Int32) ((M.1 10 0 2) - (1 : Int32)) M).bind (fun r8 => if r8.1 = 0 ∨ r8.1 = 1 then some (r8.1, r8.2) else none)
set_option maxHeartbeats 4000000 in
set_option maxRecDepth 100000 in
theorem k_X10_isArrow (l : Launch) (G : GE) (hl : l.stackTraces = false) (hG : GOK G) (fu : Nat) (l1 : Int32) (M : Mem) (res : Int32 × Mem) (hk0 : (10, 0) ∈ gids G) (hm : f_X10_isArrow fu l1 M = some res) : CT l G yX10_isArrow cX10_isArrow 2 (some .boolean) 1 [vR 10 0, vI l1] M (.inl (some (vI res.1))) res.2 := by
  refine ct_of [(0, vR 10 0), (1, vI l1)] (by decide +kernel) hl hG (Nat.le_of_ble_eq_true rfl) rfl (List.forall_mem_cons.mpr ⟨Or.inl hk0, List.forall_mem_cons.mpr ⟨trivial, fun _ h => nomatch h⟩⟩) (List.forall_mem_cons.mpr ⟨Or.inl hk0, List.forall_mem_cons.mpr ⟨trivial, fun _ h => nomatch h⟩⟩) (fun X hX C => ?_)
  subst hX
  have Cl := C
  unfold f_X10_isArrow at hm
  refine g_iload_n C 1 dX10_isArrow_0 rfl rfl ?_
  refine g_iconst (v := 0) C dX10_isArrow_1 rfl ?_
  refine g_aload_n C 0 dX10_isArrow_2 rfl rfl ?_
  refine g_geti (k := 0) C (by decide) kf_X10_79 rfl dX10_isArrow_3 ?_
  refine g_iconst (v := 1) C dX10_isArrow_6 rfl ?_
  refine g_isub C dX10_isArrow_7 ?_
  obtain ⟨r8, hr8, hm⟩ := bnd_some hm
  refine g_callSi (As := [vI l1, vI (0 : Int32), vI ((M.1 10 0 2) - (1 : Int32))]) (rest := []) C lk_X10_75 (k_X10_within X.2.1 G hl hG fu l1 (0 : Int32) ((M.1 10 0 2) - (1 : Int32)) M r8  hr8) rfl rfl (Nat.le_of_ble_eq_true rfl) ⟨Nat.le_of_ble_eq_true rfl, Nat.le_of_ble_eq_true rfl⟩ dX10_isArrow_8 ?_
  obtain ⟨hz11, hm⟩ := ifn hm
  obtain rfl := Option.some.inj hm
  exact g_zret C hz11 dX10_isArrow_11
def f_X10_isPath (fu : Nat) (l1 : Int32) (M : Mem) : Option (Int32 × Mem) :=
  (f_X10_within fu l1 (0 : Int32) ((M.1 10 0 13) - (1 : Int32)) M).bind (fun r8 => if r8.1 = 0 ∨ r8.1 = 1 then some (r8.1, r8.2) else none)
set_option maxHeartbeats 4000000 in
set_option maxRecDepth 100000 in
theorem k_X10_isPath (l : Launch) (G : GE) (hl : l.stackTraces = false) (hG : GOK G) (fu : Nat) (l1 : Int32) (M : Mem) (res : Int32 × Mem) (hk0 : (10, 0) ∈ gids G) (hm : f_X10_isPath fu l1 M = some res) : CT l G yX10_isPath cX10_isPath 2 (some .boolean) 1 [vR 10 0, vI l1] M (.inl (some (vI res.1))) res.2 := by
  refine ct_of [(0, vR 10 0), (1, vI l1)] (by decide +kernel) hl hG (Nat.le_of_ble_eq_true rfl) rfl (List.forall_mem_cons.mpr ⟨Or.inl hk0, List.forall_mem_cons.mpr ⟨trivial, fun _ h => nomatch h⟩⟩) (List.forall_mem_cons.mpr ⟨Or.inl hk0, List.forall_mem_cons.mpr ⟨trivial, fun _ h => nomatch h⟩⟩) (fun X hX C => ?_)
  subst hX
  have Cl := C
  unfold f_X10_isPath at hm
  refine g_iload_n C 1 dX10_isPath_0 rfl rfl ?_
  refine g_iconst (v := 0) C dX10_isPath_1 rfl ?_
  refine g_aload_n C 0 dX10_isPath_2 rfl rfl ?_
  refine g_geti (k := 0) C (by decide) kf_X10_89 rfl dX10_isPath_3 ?_
  refine g_iconst (v := 1) C dX10_isPath_6 rfl ?_
  refine g_isub C dX10_isPath_7 ?_
  obtain ⟨r8, hr8, hm⟩ := bnd_some hm
  refine g_callSi (As := [vI l1, vI (0 : Int32), vI ((M.1 10 0 13) - (1 : Int32))]) (rest := []) C lk_X10_75 (k_X10_within X.2.1 G hl hG fu l1 (0 : Int32) ((M.1 10 0 13) - (1 : Int32)) M r8  hr8) rfl rfl (Nat.le_of_ble_eq_true rfl) ⟨Nat.le_of_ble_eq_true rfl, Nat.le_of_ble_eq_true rfl⟩ dX10_isPath_8 ?_
  obtain ⟨hz11, hm⟩ := ifn hm
  obtain rfl := Option.some.inj hm
  exact g_zret C hz11 dX10_isPath_11
def f_X10_areParallel (fu : Nat) (l1 : Int32) (l2 : Int32) (M : Mem) : Option (Int32 × Mem) :=
  if inb l1 (alen 22 14) then if inb l2 (alen 22 14) then if (M.1 22 14 l1.toNatClampNeg) = (M.1 22 14 l2.toNatClampNeg) then if inb l1 (alen 22 15) then if inb l2 (alen 22 15) then if (M.1 22 15 l1.toNatClampNeg) = (M.1 22 15 l2.toNatClampNeg) then some ((1 : Int32), M) else some ((0 : Int32), M) else none else none else some ((0 : Int32), M) else none else none
set_option maxHeartbeats 4000000 in
set_option maxRecDepth 100000 in
theorem k_X10_areParallel (l : Launch) (G : GE) (hl : l.stackTraces = false) (hG : GOK G) (fu : Nat) (l1 : Int32) (l2 : Int32) (M : Mem) (res : Int32 × Mem) (hk0 : (10, 0) ∈ gids G) (hm : f_X10_areParallel fu l1 l2 M = some res) : CT l G yX10_areParallel cX10_areParallel 3 (some .boolean) 0 [vR 10 0, vI l1, vI l2] M (.inl (some (vI res.1))) res.2 := by
  refine ct_of [(0, vR 10 0), (1, vI l1), (2, vI l2)] (by decide +kernel) hl hG (Nat.le_of_ble_eq_true rfl) rfl (List.forall_mem_cons.mpr ⟨Or.inl hk0, List.forall_mem_cons.mpr ⟨trivial, List.forall_mem_cons.mpr ⟨trivial, fun _ h => nomatch h⟩⟩⟩) (List.forall_mem_cons.mpr ⟨Or.inl hk0, List.forall_mem_cons.mpr ⟨trivial, List.forall_mem_cons.mpr ⟨trivial, fun _ h => nomatch h⟩⟩⟩) (fun X hX C => ?_)
  subst hX
  have Cl := C
  unfold f_X10_areParallel at hm
  refine g_aload_n C 0 dX10_areParallel_0 rfl rfl ?_
  refine g_getr (k := 0) (k' := 14) C (by decide) kf_X10_38 rfl rfl dX10_areParallel_1 ?_
  refine g_iload_n C 1 dX10_areParallel_4 rfl rfl ?_
  obtain ⟨hi5, hm⟩ := ifn hm
  refine g_iald C (by decide) hi5 dX10_areParallel_5 ?_
  refine g_aload_n C 0 dX10_areParallel_6 rfl rfl ?_
  refine g_getr (k := 0) (k' := 14) C (by decide) kf_X10_38 rfl rfl dX10_areParallel_7 ?_
  refine g_iload_n C 2 dX10_areParallel_10 rfl rfl ?_
  obtain ⟨hi11, hm⟩ := ifn hm
  refine g_iald C (by decide) hi11 dX10_areParallel_11 ?_
  refine g_icmp_ne (tgt := 34) C dX10_areParallel_12 (by decide) (fun h12 => ?_) (fun h12 => ?_)
  · have hm := ife hm h12
    refine g_iconst (v := 0) C dX10_areParallel_34 rfl ?_
    obtain rfl := Option.some.inj hm
    exact g_zret C (Or.inl rfl) dX10_areParallel_35
  · have hm := ift hm h12
    refine g_aload_n C 0 dX10_areParallel_15 rfl rfl ?_
    refine g_getr (k := 0) (k' := 15) C (by decide) kf_X10_41 rfl rfl dX10_areParallel_16 ?_
    refine g_iload_n C 1 dX10_areParallel_19 rfl rfl ?_
    obtain ⟨hi20, hm⟩ := ifn hm
    refine g_iald C (by decide) hi20 dX10_areParallel_20 ?_
    refine g_aload_n C 0 dX10_areParallel_21 rfl rfl ?_
    refine g_getr (k := 0) (k' := 15) C (by decide) kf_X10_41 rfl rfl dX10_areParallel_22 ?_
    refine g_iload_n C 2 dX10_areParallel_25 rfl rfl ?_
    obtain ⟨hi26, hm⟩ := ifn hm
    refine g_iald C (by decide) hi26 dX10_areParallel_26 ?_
    refine g_icmp_ne (tgt := 34) C dX10_areParallel_27 (by decide) (fun h27 => ?_) (fun h27 => ?_)
    · have hm := ife hm h27
      refine g_iconst (v := 0) C dX10_areParallel_34 rfl ?_
      obtain rfl := Option.some.inj hm
      exact g_zret C (Or.inl rfl) dX10_areParallel_35
    · have hm := ift hm h27
      refine g_iconst (v := 1) C dX10_areParallel_30 rfl ?_
      refine g_goto (tgt := 35) C dX10_areParallel_31 (by decide) ?_
      obtain rfl := Option.some.inj hm
      exact g_zret C (Or.inr rfl) dX10_areParallel_35
def f_X10_sideOf_b10 (fu : Nat)  (l1 : Int32) (l2 : Int32) (l3 : Int32) (l4 : Int32) (M : Mem) : Option ((Int32 × Int32 × Mem) ⊕ (Int32 × Mem)) :=
  if inb (((2 : Int32) * l1) + l2) (alen 22 9) then if (M.1 22 9 (((2 : Int32) * l1) + l2).toNatClampNeg) ≤ l4 then some (Sum.inr (l3, M)) else if inb (((7 : Int32) * (((2 : Int32) * l1) + l2)) + l4) (alen 22 10) then if inb (((14 : Int32) * l3) + (M.1 22 10 (((7 : Int32) * (((2 : Int32) * l1) + l2)) + l4).toNatClampNeg)) (alen 22 18) then some (Sum.inl (M.1 22 18 (((14 : Int32) * l3) + (M.1 22 10 (((7 : Int32) * (((2 : Int32) * l1) + l2)) + l4).toNatClampNeg)).toNatClampNeg, l4 + (1 : Int32), M)) else none else none else none
def f_X10_sideOf_h10 (fu : Nat)   (l1 : Int32) (l2 : Int32) (l3 : Int32) (l4 : Int32) (M : Mem) : Option (Int32 × Mem) :=
  (lp_run (fun s => f_X10_sideOf_b10 fu  l1 l2 s.1 s.2.1 s.2.2) fu (l3, l4, M)).bind (fun r10 => match r10 with
    | (l3, M) => some (l3, M))
def f_X10_sideOf (fu : Nat) (l1 : Int32) (l2 : Int32) (M : Mem) : Option (Int32 × Mem) :=
  if inb l1 (alen 22 8) then f_X10_sideOf_h10 fu l1 l2 (M.1 22 8 l1.toNatClampNeg) (0 : Int32) M else none
set_option maxHeartbeats 4000000 in
set_option maxRecDepth 100000 in
theorem k_X10_sideOf (l : Launch) (G : GE) (hl : l.stackTraces = false) (hG : GOK G) (fu : Nat) (l1 : Int32) (l2 : Int32) (M : Mem) (res : Int32 × Mem) (hk0 : (10, 0) ∈ gids G) (hm : f_X10_sideOf fu l1 l2 M = some res) : CT l G yX10_sideOf cX10_sideOf 5 (some .int) 0 [vR 10 0, vI l1, vI l2] M (.inl (some (vI res.1))) res.2 := by
  refine ct_of [(0, vR 10 0), (1, vI l1), (2, vI l2)] (by decide +kernel) hl hG (Nat.le_of_ble_eq_true rfl) rfl (List.forall_mem_cons.mpr ⟨Or.inl hk0, List.forall_mem_cons.mpr ⟨trivial, List.forall_mem_cons.mpr ⟨trivial, fun _ h => nomatch h⟩⟩⟩) (List.forall_mem_cons.mpr ⟨Or.inl hk0, List.forall_mem_cons.mpr ⟨trivial, List.forall_mem_cons.mpr ⟨trivial, fun _ h => nomatch h⟩⟩⟩) (fun X hX C => ?_)
  subst hX
  have Cl := C
  have J10 : ∀ (l1 : Int32) (l2 : Int32) (l3 : Int32) (l4 : Int32) (M : Mem), f_X10_sideOf_h10 fu   l1 l2 l3 l4 M = some res → GW G X 5 (QX G X (.inl (some (vI res.1))) res.2) 10 [(0, vR 10 0), (1, vI l1), (2, vI l2), (3, vI l3), (4, vI l4)] [] M := by
    intro l1 l2 l3 l4 M hm
    unfold f_X10_sideOf_h10 at hm
    obtain ⟨r10, hL10, hk10⟩ := bnd_some hm
    have hx10 : ∀ (l3 : Int32) (M : Mem), (l3, M) = r10 → GW G X 5 (QX G X (.inl (some (vI res.1))) res.2) 58 [(3, vI l3)] [] M := by
      intro l3 M he
      subst he
      have hm := hk10
      try dsimp only at hm
      refine g_iload_n C 0 dX10_sideOf_58 rfl rfl ?_
      obtain rfl := Option.some.inj hm
      exact g_iret C dX10_sideOf_59
    refine lp_ind2 (P := (fun l3 l4 M => GW G X 5 (QX G X (.inl (some (vI res.1))) res.2) 10 [(0, vR 10 0), (1, vI l1), (2, vI l2), (3, vI l3), (4, vI l4)] [] M)) (r := r10) ?_ fu l3 l4 M hL10
    intro l3 l4 M o10 hm K10
    unfold f_X10_sideOf_b10 at hm
    refine g_iload C 4 dX10_sideOf_10 rfl ?_
    refine g_aload_n C 0 dX10_sideOf_12 rfl rfl ?_
    refine g_getr (k := 0) (k' := 9) C (by decide) kf_X10_29 rfl rfl dX10_sideOf_13 ?_
    refine g_iconst (v := 2) C dX10_sideOf_16 rfl ?_
    refine g_iload_n C 1 dX10_sideOf_17 rfl rfl ?_
    refine g_imul C dX10_sideOf_18 ?_
    refine g_iload_n C 2 dX10_sideOf_19 rfl rfl ?_
    refine g_iadd C dX10_sideOf_20 ?_
    obtain ⟨hi21, hm⟩ := ifn hm
    refine g_iald C (by decide) hi21 dX10_sideOf_21 ?_
    refine g_icmp_ge (tgt := 58) C dX10_sideOf_22 (by decide) (fun h22 => ?_) (fun h22 => ?_)
    · have hm := ift hm h22
      obtain rfl := Option.some.inj hm
      exact g_sub [3] rfl (g_pc rfl (hx10 l3 M (K10.2 _ rfl)))
    · have hm := ife hm h22
      refine g_aload_n C 0 dX10_sideOf_25 rfl rfl ?_
      refine g_getr (k := 0) (k' := 18) C (by decide) kf_X10_50 rfl rfl dX10_sideOf_26 ?_
      refine g_bipush (v := 14) C dX10_sideOf_29 rfl ?_
      refine g_iload_n C 3 dX10_sideOf_31 rfl rfl ?_
      refine g_imul C dX10_sideOf_32 ?_
      refine g_aload_n C 0 dX10_sideOf_33 rfl rfl ?_
      refine g_getr (k := 0) (k' := 10) C (by decide) kf_X10_32 rfl rfl dX10_sideOf_34 ?_
      refine g_bipush (v := 7) C dX10_sideOf_37 rfl ?_
      refine g_iconst (v := 2) C dX10_sideOf_39 rfl ?_
      refine g_iload_n C 1 dX10_sideOf_40 rfl rfl ?_
      refine g_imul C dX10_sideOf_41 ?_
      refine g_iload_n C 2 dX10_sideOf_42 rfl rfl ?_
      refine g_iadd C dX10_sideOf_43 ?_
      refine g_imul C dX10_sideOf_44 ?_
      refine g_iload C 4 dX10_sideOf_45 rfl ?_
      refine g_iadd C dX10_sideOf_47 ?_
      obtain ⟨hi48, hm⟩ := ifn hm
      refine g_iald C (by decide) hi48 dX10_sideOf_48 ?_
      refine g_iadd C dX10_sideOf_49 ?_
      obtain ⟨hi50, hm⟩ := ifn hm
      refine g_iald C (by decide) hi50 dX10_sideOf_50 ?_
      refine g_istore_n (ls' := [(3, vI (M.1 22 18 (((14 : Int32) * l3) + (M.1 22 10 (((7 : Int32) * (((2 : Int32) * l1) + l2)) + l4).toNatClampNeg)).toNatClampNeg)), (0, vR 10 0), (1, vI l1), (2, vI l2), (4, vI l4)]) C dX10_sideOf_51 rfl (by decide) rfl ?_
      refine g_iinc (ls' := [(4, vI (l4 + (1 : Int32))), (3, vI (M.1 22 18 (((14 : Int32) * l3) + (M.1 22 10 (((7 : Int32) * (((2 : Int32) * l1) + l2)) + l4).toNatClampNeg)).toNatClampNeg)), (0, vR 10 0), (1, vI l1), (2, vI l2)]) (v := l4 + (1 : Int32)) C 4 dX10_sideOf_52 rfl (iv_p1 _) (by decide) rfl ?_
      refine g_goto (tgt := 10) C dX10_sideOf_55 (by decide) ?_
      obtain rfl := Option.some.inj hm
      exact g_sub [2, 3, 4, 1, 0] rfl (g_pc rfl (K10.1 (M.1 22 18 (((14 : Int32) * l3) + (M.1 22 10 (((7 : Int32) * (((2 : Int32) * l1) + l2)) + l4).toNatClampNeg)).toNatClampNeg) (l4 + (1 : Int32)) M rfl))
  unfold f_X10_sideOf at hm
  refine g_aload_n C 0 dX10_sideOf_0 rfl rfl ?_
  refine g_getr (k := 0) (k' := 8) C (by decide) kf_X10_26 rfl rfl dX10_sideOf_1 ?_
  refine g_iload_n C 1 dX10_sideOf_4 rfl rfl ?_
  obtain ⟨hi5, hm⟩ := ifn hm
  refine g_iald C (by decide) hi5 dX10_sideOf_5 ?_
  refine g_istore_n (ls' := [(3, vI (M.1 22 8 l1.toNatClampNeg)), (0, vR 10 0), (1, vI l1), (2, vI l2)]) C dX10_sideOf_6 rfl (by decide) rfl ?_
  refine g_iconst (v := 0) C dX10_sideOf_7 rfl ?_
  refine g_istore (ls' := [(4, vI (0 : Int32)), (3, vI (M.1 22 8 l1.toNatClampNeg)), (0, vR 10 0), (1, vI l1), (2, vI l2)]) C dX10_sideOf_8 (by decide) rfl ?_
  exact g_sub [2, 3, 4, 1, 0] rfl (g_pc rfl (J10 l1 l2 (M.1 22 8 l1.toNatClampNeg) (0 : Int32) M hm))
def f_X10_begin_j16 (fu : Nat)   (l1 : Int32) (t1 : Int32) (M : Mem) : Option (Int32 × Mem) :=
  if ((mI M 10 0 0 t1).1 10 0 0) ≤ 0 then (f_X10_fresh fu l1 (mI M 10 0 0 t1)).bind (fun r35 => some ((mI M 10 0 0 t1).1 10 0 1, r35)) else some ((0 : Int32), (mI M 10 0 0 t1))
def f_X10_begin (fu : Nat) (l1 : Int32) (M : Mem) : Option (Int32 × Mem) :=
  (f_X10_within fu l1 (2 : Int32) (8 : Int32) M).bind (fun r5 => if r5.1 = 0 then f_X10_begin_j16 fu l1 (1 : Int32) r5.2 else f_X10_begin_j16 fu l1 (0 : Int32) r5.2)
set_option maxHeartbeats 4000000 in
set_option maxRecDepth 100000 in
theorem k_X10_begin (l : Launch) (G : GE) (hl : l.stackTraces = false) (hG : GOK G) (fu : Nat) (l1 : Int32) (M : Mem) (res : Int32 × Mem) (hk0 : (10, 0) ∈ gids G) (hm : f_X10_begin fu l1 M = some res) : CT l G yX10_begin cX10_begin 3 (some .int) 4 [vR 10 0, vI l1] M (.inl (some (vI res.1))) res.2 := by
  refine ct_of [(0, vR 10 0), (1, vI l1)] (by decide +kernel) hl hG (Nat.le_of_ble_eq_true rfl) rfl (List.forall_mem_cons.mpr ⟨Or.inl hk0, List.forall_mem_cons.mpr ⟨trivial, fun _ h => nomatch h⟩⟩) (List.forall_mem_cons.mpr ⟨Or.inl hk0, List.forall_mem_cons.mpr ⟨trivial, fun _ h => nomatch h⟩⟩) (fun X hX C => ?_)
  subst hX
  have Cl := C
  have J16 : ∀ (l1 : Int32) (t1 : Int32) (M : Mem), f_X10_begin_j16 fu   l1 t1 M = some res → GW G X 3 (QX G X (.inl (some (vI res.1))) res.2) 16 [(0, vR 10 0), (1, vI l1)] [vI t1, vR 10 0] M := by
    intro l1 t1 M hm
    unfold f_X10_begin_j16 at hm
    refine g_puti C (by decide) kf_X10_72 rfl rfl rfl dX10_begin_16 ?_
    refine g_aload_n C 0 dX10_begin_19 rfl rfl ?_
    refine g_geti (k := 0) C (by decide) kf_X10_72 rfl dX10_begin_20 ?_
    refine g_if_le (tgt := 28) C dX10_begin_23 (by decide) (fun h23 => ?_) (fun h23 => ?_)
    · have hm := ift hm h23
      refine g_aload_n C 0 dX10_begin_28 rfl rfl ?_
      refine g_geti (k := 0) C (by decide) kf_X10_7 rfl dX10_begin_29 ?_
      refine g_istore_n (ls' := [(2, vI ((mI M 10 0 0 t1).1 10 0 1)), (0, vR 10 0), (1, vI l1)]) C dX10_begin_32 rfl (by decide) rfl ?_
      refine g_aload_n C 1 dX10_begin_33 rfl rfl ?_
      refine g_iload_n C 2 dX10_begin_34 rfl rfl ?_
      obtain ⟨r35, hr35, hm⟩ := bnd_some hm
      refine g_callVv (As := [vI l1]) (rest := []) C lk_X10_68 (k_X10_fresh X.2.1 G hl hG fu l1 (mI M 10 0 0 t1) r35 hk0 hr35) (by decide) rfl rfl rfl (Nat.le_of_ble_eq_true rfl) ⟨Nat.le_of_ble_eq_true rfl, Nat.le_of_ble_eq_true rfl⟩ dX10_begin_35 ?_
      refine g_iload_n C 0 dX10_begin_38 rfl rfl ?_
      obtain rfl := Option.some.inj hm
      exact g_iret C dX10_begin_39
    · have hm := ife hm h23
      refine g_iconst (v := 0) C dX10_begin_26 rfl ?_
      obtain rfl := Option.some.inj hm
      exact g_iret C dX10_begin_27
  unfold f_X10_begin at hm
  refine g_aload_n C 0 dX10_begin_0 rfl rfl ?_
  refine g_iload_n C 1 dX10_begin_1 rfl rfl ?_
  refine g_iconst (v := 2) C dX10_begin_2 rfl ?_
  refine g_bipush (v := 8) C dX10_begin_3 rfl ?_
  obtain ⟨r5, hr5, hm⟩ := bnd_some hm
  refine g_callSi (As := [vI l1, vI (2 : Int32), vI (8 : Int32)]) (rest := [vR 10 0]) C lk_X10_75 (k_X10_within X.2.1 G hl hG fu l1 (2 : Int32) (8 : Int32) M r5  hr5) rfl rfl (Nat.le_of_ble_eq_true rfl) ⟨Nat.le_of_ble_eq_true rfl, Nat.le_of_ble_eq_true rfl⟩ dX10_begin_5 ?_
  refine g_if_eq (tgt := 15) C dX10_begin_8 (by decide) (fun h8 => ?_) (fun h8 => ?_)
  · have hm := ift hm h8
    refine g_iconst (v := 1) C dX10_begin_15 rfl ?_
    exact g_sub [0, 1] rfl (g_pc rfl (J16 l1 (1 : Int32) r5.2 hm))
  · have hm := ife hm h8
    refine g_iconst (v := 0) C dX10_begin_11 rfl ?_
    refine g_goto (tgt := 16) C dX10_begin_12 (by decide) ?_
    exact g_sub [0, 1] rfl (g_pc rfl (J16 l1 (0 : Int32) r5.2 hm))
def f_X10_putArrow (fu : Nat) (l1 : Int32) (l2 : Int32) (M : Mem) : Option (Mem) :=
  if inb (M.1 10 0 2) (alen 22 3) then if inb ((mI M 22 3 (M.1 10 0 2).toNatClampNeg l1).1 10 0 2) (alen 22 4) then if inb ((mI (mI M 22 3 (M.1 10 0 2).toNatClampNeg l1) 22 4 ((mI M 22 3 (M.1 10 0 2).toNatClampNeg l1).1 10 0 2).toNatClampNeg l2).1 10 0 2) (alen 22 5) then some (mI (mI (mI (mI M 22 3 (M.1 10 0 2).toNatClampNeg l1) 22 4 ((mI M 22 3 (M.1 10 0 2).toNatClampNeg l1).1 10 0 2).toNatClampNeg l2) 22 5 ((mI (mI M 22 3 (M.1 10 0 2).toNatClampNeg l1) 22 4 ((mI M 22 3 (M.1 10 0 2).toNatClampNeg l1).1 10 0 2).toNatClampNeg l2).1 10 0 2).toNatClampNeg (0 : Int32)) 10 0 2 (((mI (mI (mI M 22 3 (M.1 10 0 2).toNatClampNeg l1) 22 4 ((mI M 22 3 (M.1 10 0 2).toNatClampNeg l1).1 10 0 2).toNatClampNeg l2) 22 5 ((mI (mI M 22 3 (M.1 10 0 2).toNatClampNeg l1) 22 4 ((mI M 22 3 (M.1 10 0 2).toNatClampNeg l1).1 10 0 2).toNatClampNeg l2).1 10 0 2).toNatClampNeg (0 : Int32)).1 10 0 2) + (1 : Int32))) else none else none else none
set_option maxHeartbeats 4000000 in
set_option maxRecDepth 100000 in
theorem k_X10_putArrow (l : Launch) (G : GE) (hl : l.stackTraces = false) (hG : GOK G) (fu : Nat) (l1 : Int32) (l2 : Int32) (M : Mem) (res : Mem) (hk0 : (10, 0) ∈ gids G) (hm : f_X10_putArrow fu l1 l2 M = some res) : CT l G yX10_putArrow cX10_putArrow 3 none 0 [vR 10 0, vI l1, vI l2] M (.inl none) res := by
  refine ct_of [(0, vR 10 0), (1, vI l1), (2, vI l2)] (by decide +kernel) hl hG (Nat.le_of_ble_eq_true rfl) rfl (List.forall_mem_cons.mpr ⟨Or.inl hk0, List.forall_mem_cons.mpr ⟨trivial, List.forall_mem_cons.mpr ⟨trivial, fun _ h => nomatch h⟩⟩⟩) (List.forall_mem_cons.mpr ⟨Or.inl hk0, List.forall_mem_cons.mpr ⟨trivial, List.forall_mem_cons.mpr ⟨trivial, fun _ h => nomatch h⟩⟩⟩) (fun X hX C => ?_)
  subst hX
  have Cl := C
  unfold f_X10_putArrow at hm
  refine g_aload_n C 0 dX10_putArrow_0 rfl rfl ?_
  refine g_getr (k := 0) (k' := 3) C (by decide) kf_X10_13 rfl rfl dX10_putArrow_1 ?_
  refine g_aload_n C 0 dX10_putArrow_4 rfl rfl ?_
  refine g_geti (k := 0) C (by decide) kf_X10_79 rfl dX10_putArrow_5 ?_
  refine g_iload_n C 1 dX10_putArrow_8 rfl rfl ?_
  obtain ⟨hi9, hm⟩ := ifn hm
  refine g_iast C (by decide) hi9 dX10_putArrow_9 ?_
  refine g_aload_n C 0 dX10_putArrow_10 rfl rfl ?_
  refine g_getr (k := 0) (k' := 4) C (by decide) kf_X10_17 rfl rfl dX10_putArrow_11 ?_
  refine g_aload_n C 0 dX10_putArrow_14 rfl rfl ?_
  refine g_geti (k := 0) C (by decide) kf_X10_79 rfl dX10_putArrow_15 ?_
  refine g_iload_n C 2 dX10_putArrow_18 rfl rfl ?_
  obtain ⟨hi19, hm⟩ := ifn hm
  refine g_iast C (by decide) hi19 dX10_putArrow_19 ?_
  refine g_aload_n C 0 dX10_putArrow_20 rfl rfl ?_
  refine g_getr (k := 0) (k' := 5) C (by decide) kf_X10_20 rfl rfl dX10_putArrow_21 ?_
  refine g_aload_n C 0 dX10_putArrow_24 rfl rfl ?_
  refine g_geti (k := 0) C (by decide) kf_X10_79 rfl dX10_putArrow_25 ?_
  refine g_iconst (v := 0) C dX10_putArrow_28 rfl ?_
  obtain ⟨hi29, hm⟩ := ifn hm
  refine g_iast C (by decide) hi29 dX10_putArrow_29 ?_
  refine g_aload_n C 0 dX10_putArrow_30 rfl rfl ?_
  refine g_dup C dX10_putArrow_31 rfl ?_
  refine g_geti (k := 0) C (by decide) kf_X10_79 rfl dX10_putArrow_32 ?_
  refine g_iconst (v := 1) C dX10_putArrow_35 rfl ?_
  refine g_iadd C dX10_putArrow_36 ?_
  refine g_puti C (by decide) kf_X10_79 rfl rfl rfl dX10_putArrow_37 ?_
  obtain rfl := Option.some.inj hm
  exact g_vret C dX10_putArrow_40
def f_X10_addArrow_j44 (fu : Nat)   (l1 : Int32) (l2 : Int32) (t1 : Int32) (M : Mem) : Option (Int32 × Mem) :=
  if ((mI M 10 0 0 t1).1 10 0 0) ≤ 0 then (f_X10_putArrow fu l1 l2 (mI M 10 0 0 t1)).bind (fun r59 => (f_X10_layPaths fu  r59).bind (fun r63 => if r63.1 = 0 then (f_X10_layPaths fu  (mI r63.2 10 0 2 ((r63.2.1 10 0 2) - (1 : Int32)))).bind (fun r80 => some ((0 : Int32), (mI r80.2 10 0 0 (3 : Int32)))) else some ((r63.2.1 10 0 2) - (1 : Int32), r63.2))) else some ((0 : Int32), (mI M 10 0 0 t1))
def f_X10_addArrow_j17 (fu : Nat)   (l1 : Int32) (l2 : Int32) (M : Mem) : Option (Int32 × Mem) :=
  f_X10_addArrow_j44 fu l1 l2 (1 : Int32) M
def f_X10_addArrow (fu : Nat) (l1 : Int32) (l2 : Int32) (M : Mem) : Option (Int32 × Mem) :=
  (f_X10_isObject fu l1 M).bind (fun r3 => if r3.1 = 0 then f_X10_addArrow_j17 fu l1 l2 r3.2 else (f_X10_isObject fu l2 r3.2).bind (fun r11 => if r11.1 = 0 then f_X10_addArrow_j17 fu l1 l2 r11.2 else if l1 < l2 then if (r11.2.1 10 0 2) = (14 : Int32) then f_X10_addArrow_j44 fu l1 l2 (3 : Int32) r11.2 else f_X10_addArrow_j44 fu l1 l2 (0 : Int32) r11.2 else f_X10_addArrow_j44 fu l1 l2 (2 : Int32) r11.2))
set_option maxHeartbeats 4000000 in
set_option maxRecDepth 100000 in
theorem k_X10_addArrow (l : Launch) (G : GE) (hl : l.stackTraces = false) (hG : GOK G) (fu : Nat) (l1 : Int32) (l2 : Int32) (M : Mem) (res : Int32 × Mem) (hk0 : (10, 0) ∈ gids G) (hm : f_X10_addArrow fu l1 l2 M = some res) : CT l G yX10_addArrow cX10_addArrow 3 (some .int) 3 [vR 10 0, vI l1, vI l2] M (.inl (some (vI res.1))) res.2 := by
  refine ct_of [(0, vR 10 0), (1, vI l1), (2, vI l2)] (by decide +kernel) hl hG (Nat.le_of_ble_eq_true rfl) rfl (List.forall_mem_cons.mpr ⟨Or.inl hk0, List.forall_mem_cons.mpr ⟨trivial, List.forall_mem_cons.mpr ⟨trivial, fun _ h => nomatch h⟩⟩⟩) (List.forall_mem_cons.mpr ⟨Or.inl hk0, List.forall_mem_cons.mpr ⟨trivial, List.forall_mem_cons.mpr ⟨trivial, fun _ h => nomatch h⟩⟩⟩) (fun X hX C => ?_)
  subst hX
  have Cl := C
  have J44 : ∀ (l1 : Int32) (l2 : Int32) (t1 : Int32) (M : Mem), f_X10_addArrow_j44 fu   l1 l2 t1 M = some res → GW G X 3 (QX G X (.inl (some (vI res.1))) res.2) 44 [(0, vR 10 0), (1, vI l1), (2, vI l2)] [vI t1, vR 10 0] M := by
    intro l1 l2 t1 M hm
    unfold f_X10_addArrow_j44 at hm
    refine g_puti C (by decide) kf_X10_72 rfl rfl rfl dX10_addArrow_44 ?_
    refine g_aload_n C 0 dX10_addArrow_47 rfl rfl ?_
    refine g_geti (k := 0) C (by decide) kf_X10_72 rfl dX10_addArrow_48 ?_
    refine g_if_le (tgt := 56) C dX10_addArrow_51 (by decide) (fun h51 => ?_) (fun h51 => ?_)
    · have hm := ift hm h51
      refine g_aload_n C 0 dX10_addArrow_56 rfl rfl ?_
      refine g_iload_n C 1 dX10_addArrow_57 rfl rfl ?_
      refine g_iload_n C 2 dX10_addArrow_58 rfl rfl ?_
      obtain ⟨r59, hr59, hm⟩ := bnd_some hm
      refine g_callVv (As := [vI l1, vI l2]) (rest := []) C lk_X10_104 (k_X10_putArrow X.2.1 G hl hG fu l1 l2 (mI M 10 0 0 t1) r59 hk0 hr59) (by decide) rfl rfl rfl (Nat.le_of_ble_eq_true rfl) ⟨Nat.le_of_ble_eq_true rfl, Nat.le_of_ble_eq_true rfl⟩ dX10_addArrow_59 ?_
      refine g_aload_n C 0 dX10_addArrow_62 rfl rfl ?_
      obtain ⟨r63, hr63, hm⟩ := bnd_some hm
      refine g_callVi (As := []) (rest := []) C lk_X10_85 (k_X10_layPaths X.2.1 G hl hG fu  r59 r63 hk0 hr63) (by decide) rfl rfl rfl (Nat.le_of_ble_eq_true rfl) ⟨Nat.le_of_ble_eq_true rfl, Nat.le_of_ble_eq_true rfl⟩ dX10_addArrow_63 ?_
      refine g_if_ne (tgt := 91) C dX10_addArrow_66 (by decide) (fun h66 => ?_) (fun h66 => ?_)
      · have hm := ife hm h66
        refine g_aload_n C 0 dX10_addArrow_91 rfl rfl ?_
        refine g_geti (k := 0) C (by decide) kf_X10_79 rfl dX10_addArrow_92 ?_
        refine g_iconst (v := 1) C dX10_addArrow_95 rfl ?_
        refine g_isub C dX10_addArrow_96 ?_
        obtain rfl := Option.some.inj hm
        exact g_iret C dX10_addArrow_97
      · have hm := ift hm h66
        refine g_aload_n C 0 dX10_addArrow_69 rfl rfl ?_
        refine g_dup C dX10_addArrow_70 rfl ?_
        refine g_geti (k := 0) C (by decide) kf_X10_79 rfl dX10_addArrow_71 ?_
        refine g_iconst (v := 1) C dX10_addArrow_74 rfl ?_
        refine g_isub C dX10_addArrow_75 ?_
        refine g_puti C (by decide) kf_X10_79 rfl rfl rfl dX10_addArrow_76 ?_
        refine g_aload_n C 0 dX10_addArrow_79 rfl rfl ?_
        obtain ⟨r80, hr80, hm⟩ := bnd_some hm
        refine g_callVi (As := []) (rest := []) C lk_X10_85 (k_X10_layPaths X.2.1 G hl hG fu  (mI r63.2 10 0 2 ((r63.2.1 10 0 2) - (1 : Int32))) r80 hk0 hr80) (by decide) rfl rfl rfl (Nat.le_of_ble_eq_true rfl) ⟨Nat.le_of_ble_eq_true rfl, Nat.le_of_ble_eq_true rfl⟩ dX10_addArrow_80 ?_
        refine g_pop C dX10_addArrow_83 rfl ?_
        refine g_aload_n C 0 dX10_addArrow_84 rfl rfl ?_
        refine g_iconst (v := 3) C dX10_addArrow_85 rfl ?_
        refine g_puti C (by decide) kf_X10_72 rfl rfl rfl dX10_addArrow_86 ?_
        refine g_iconst (v := 0) C dX10_addArrow_89 rfl ?_
        obtain rfl := Option.some.inj hm
        exact g_iret C dX10_addArrow_90
    · have hm := ife hm h51
      refine g_iconst (v := 0) C dX10_addArrow_54 rfl ?_
      obtain rfl := Option.some.inj hm
      exact g_iret C dX10_addArrow_55
  have J17 : ∀ (l1 : Int32) (l2 : Int32) (M : Mem), f_X10_addArrow_j17 fu   l1 l2 M = some res → GW G X 3 (QX G X (.inl (some (vI res.1))) res.2) 17 [(0, vR 10 0), (1, vI l1), (2, vI l2)] [vR 10 0] M := by
    intro l1 l2 M hm
    unfold f_X10_addArrow_j17 at hm
    refine g_iconst (v := 1) C dX10_addArrow_17 rfl ?_
    refine g_goto (tgt := 44) C dX10_addArrow_18 (by decide) ?_
    exact g_sub [0, 1, 2] rfl (g_pc rfl (J44 l1 l2 (1 : Int32) M hm))
  unfold f_X10_addArrow at hm
  refine g_aload_n C 0 dX10_addArrow_0 rfl rfl ?_
  refine g_aload_n C 0 dX10_addArrow_1 rfl rfl ?_
  refine g_iload_n C 1 dX10_addArrow_2 rfl rfl ?_
  obtain ⟨r3, hr3, hm⟩ := bnd_some hm
  refine g_callVi (As := [vI l1]) (rest := [vR 10 0]) C lk_X10_100 (k_X10_isObject X.2.1 G hl hG fu l1 M r3 hk0 hr3) (by decide) rfl rfl rfl (Nat.le_of_ble_eq_true rfl) ⟨Nat.le_of_ble_eq_true rfl, Nat.le_of_ble_eq_true rfl⟩ dX10_addArrow_3 ?_
  refine g_if_eq (tgt := 17) C dX10_addArrow_6 (by decide) (fun h6 => ?_) (fun h6 => ?_)
  · have hm := ift hm h6
    exact g_sub [0, 1, 2] rfl (g_pc rfl (J17 l1 l2 r3.2 hm))
  · have hm := ife hm h6
    refine g_aload_n C 0 dX10_addArrow_9 rfl rfl ?_
    refine g_iload_n C 2 dX10_addArrow_10 rfl rfl ?_
    obtain ⟨r11, hr11, hm⟩ := bnd_some hm
    refine g_callVi (As := [vI l2]) (rest := [vR 10 0]) C lk_X10_100 (k_X10_isObject X.2.1 G hl hG fu l2 r3.2 r11 hk0 hr11) (by decide) rfl rfl rfl (Nat.le_of_ble_eq_true rfl) ⟨Nat.le_of_ble_eq_true rfl, Nat.le_of_ble_eq_true rfl⟩ dX10_addArrow_11 ?_
    refine g_if_ne (tgt := 21) C dX10_addArrow_14 (by decide) (fun h14 => ?_) (fun h14 => ?_)
    · have hm := ife hm h14
      refine g_iload_n C 2 dX10_addArrow_21 rfl rfl ?_
      refine g_iload_n C 1 dX10_addArrow_22 rfl rfl ?_
      refine g_icmp_gt (tgt := 30) C dX10_addArrow_23 (by decide) (fun h23 => ?_) (fun h23 => ?_)
      · have hm := ift hm h23
        refine g_aload_n C 0 dX10_addArrow_30 rfl rfl ?_
        refine g_geti (k := 0) C (by decide) kf_X10_79 rfl dX10_addArrow_31 ?_
        refine g_bipush (v := 14) C dX10_addArrow_34 rfl ?_
        refine g_icmp_ne (tgt := 43) C dX10_addArrow_36 (by decide) (fun h36 => ?_) (fun h36 => ?_)
        · have hm := ife hm h36
          refine g_iconst (v := 0) C dX10_addArrow_43 rfl ?_
          exact g_sub [0, 1, 2] rfl (g_pc rfl (J44 l1 l2 (0 : Int32) r11.2 hm))
        · have hm := ift hm h36
          refine g_iconst (v := 3) C dX10_addArrow_39 rfl ?_
          refine g_goto (tgt := 44) C dX10_addArrow_40 (by decide) ?_
          exact g_sub [0, 1, 2] rfl (g_pc rfl (J44 l1 l2 (3 : Int32) r11.2 hm))
      · have hm := ife hm h23
        refine g_iconst (v := 2) C dX10_addArrow_26 rfl ?_
        refine g_goto (tgt := 44) C dX10_addArrow_27 (by decide) ?_
        exact g_sub [0, 1, 2] rfl (g_pc rfl (J44 l1 l2 (2 : Int32) r11.2 hm))
    · have hm := ift hm h14
      exact g_sub [0, 1, 2] rfl (g_pc rfl (J17 l1 l2 r11.2 hm))
def f_X10_removeCell_b74 (fu : Nat)  (l2 : Int32) (l3 : Int32) (M : Mem) : Option ((Int32 × Mem) ⊕ (Mem)) :=
  if (14 : Int32) ≤ l3 then some (Sum.inr M) else if inb (((14 : Int32) * (l2 + (1 : Int32))) + l3) (alen 22 10) then if inb (((14 : Int32) * l2) + l3) (alen 22 10) then some (Sum.inl (l3 + (1 : Int32), (mI M 22 10 (((14 : Int32) * l2) + l3).toNatClampNeg (M.1 22 10 (((14 : Int32) * (l2 + (1 : Int32))) + l3).toNatClampNeg)))) else none else none
def f_X10_removeCell_h74 (fu : Nat)   (l2 : Int32) (l3 : Int32) (M : Mem) : Option ((Int32 × Mem) ⊕ (Mem)) :=
  (lp_run (fun s => f_X10_removeCell_b74 fu  l2 s.1 s.2) fu (l3, M)).bind (fun M => some (Sum.inl (l2 + (1 : Int32), M)))
def f_X10_removeCell_b12 (fu : Nat)   (l2 : Int32) (M : Mem) : Option ((Int32 × Mem) ⊕ (Mem)) :=
  if (M.1 10 0 7) ≤ l2 then some (Sum.inr M) else if inb (l2 + (1 : Int32)) (alen 22 8) then if inb l2 (alen 22 8) then if inb (((2 : Int32) * l2) + (2 : Int32)) (alen 22 9) then if inb ((2 : Int32) * l2) (alen 22 9) then if inb (((2 : Int32) * l2) + (3 : Int32)) (alen 22 9) then if inb (((2 : Int32) * l2) + (1 : Int32)) (alen 22 9) then f_X10_removeCell_h74 fu l2 (0 : Int32) (mI (mI (mI M 22 8 l2.toNatClampNeg (M.1 22 8 (l2 + (1 : Int32)).toNatClampNeg)) 22 9 ((2 : Int32) * l2).toNatClampNeg ((mI M 22 8 l2.toNatClampNeg (M.1 22 8 (l2 + (1 : Int32)).toNatClampNeg)).1 22 9 (((2 : Int32) * l2) + (2 : Int32)).toNatClampNeg)) 22 9 (((2 : Int32) * l2) + (1 : Int32)).toNatClampNeg ((mI (mI M 22 8 l2.toNatClampNeg (M.1 22 8 (l2 + (1 : Int32)).toNatClampNeg)) 22 9 ((2 : Int32) * l2).toNatClampNeg ((mI M 22 8 l2.toNatClampNeg (M.1 22 8 (l2 + (1 : Int32)).toNatClampNeg)).1 22 9 (((2 : Int32) * l2) + (2 : Int32)).toNatClampNeg)).1 22 9 (((2 : Int32) * l2) + (3 : Int32)).toNatClampNeg)) else none else none else none else none else none else none
def f_X10_removeCell_h12 (fu : Nat)   (l2 : Int32) (M : Mem) : Option (Mem) :=
  (lp_run (fun s => f_X10_removeCell_b12 fu   s.1 s.2) fu (l2, M)).bind (fun M => some M)
def f_X10_removeCell (fu : Nat) (l1 : Int32) (M : Mem) : Option (Mem) :=
  f_X10_removeCell_h12 fu l1 (mI M 10 0 7 ((M.1 10 0 7) - (1 : Int32)))
set_option maxHeartbeats 4000000 in
set_option maxRecDepth 100000 in
theorem k_X10_removeCell (l : Launch) (G : GE) (hl : l.stackTraces = false) (hG : GOK G) (fu : Nat) (l1 : Int32) (M : Mem) (res : Mem) (hk0 : (10, 0) ∈ gids G) (hm : f_X10_removeCell fu l1 M = some res) : CT l G yX10_removeCell cX10_removeCell 4 none 0 [vR 10 0, vI l1] M (.inl none) res := by
  refine ct_of [(0, vR 10 0), (1, vI l1)] (by decide +kernel) hl hG (Nat.le_of_ble_eq_true rfl) rfl (List.forall_mem_cons.mpr ⟨Or.inl hk0, List.forall_mem_cons.mpr ⟨trivial, fun _ h => nomatch h⟩⟩) (List.forall_mem_cons.mpr ⟨Or.inl hk0, List.forall_mem_cons.mpr ⟨trivial, fun _ h => nomatch h⟩⟩) (fun X hX C => ?_)
  subst hX
  have Cl := C
  have J12 : ∀ (l2 : Int32) (M : Mem), f_X10_removeCell_h12 fu   l2 M = some res → GW G X 4 (QX G X (.inl none) res) 12 [(0, vR 10 0), (2, vI l2)] [] M := by
    intro l2 M hm
    unfold f_X10_removeCell_h12 at hm
    obtain ⟨r12, hL12, hk12⟩ := bnd_some hm
    have hx12 : ∀ (M : Mem), M = r12 → GW G X 4 (QX G X (.inl none) res) 116 [] [] M := by
      intro M he
      subst he
      have hm := hk12
      try dsimp only at hm
      obtain rfl := Option.some.inj hm
      exact g_vret C dX10_removeCell_116
    refine lp_ind1 (P := (fun l2 M => GW G X 4 (QX G X (.inl none) res) 12 [(0, vR 10 0), (2, vI l2)] [] M)) (r := r12) ?_ fu l2 M hL12
    intro l2 M o12 hm K12
    have J74 : ∀ (l2 : Int32) (l3 : Int32) (M : Mem), f_X10_removeCell_h74 fu   l2 l3 M = some o12 → GW G X 4 (QX G X (.inl none) res) 74 [(0, vR 10 0), (2, vI l2), (3, vI l3)] [] M := by
      intro l2 l3 M hm
      unfold f_X10_removeCell_h74 at hm
      obtain ⟨r74, hL74, hk74⟩ := bnd_some hm
      have hx74 : ∀ (M : Mem), M = r74 → GW G X 4 (QX G X (.inl none) res) 110 [(0, vR 10 0), (2, vI l2)] [] M := by
        intro M he
        subst he
        have hm := hk74
        try dsimp only at hm
        refine g_iinc (ls' := [(2, vI (l2 + (1 : Int32))), (0, vR 10 0)]) (v := l2 + (1 : Int32)) C 1 dX10_removeCell_110 rfl (iv_p1 _) (by decide) rfl ?_
        refine g_goto (tgt := 12) C dX10_removeCell_113 (by decide) ?_
        obtain rfl := Option.some.inj hm
        exact g_sub [1, 0] rfl (g_pc rfl (K12.1 (l2 + (1 : Int32)) M rfl))
      refine lp_ind1 (P := (fun l3 M => GW G X 4 (QX G X (.inl none) res) 74 [(0, vR 10 0), (2, vI l2), (3, vI l3)] [] M)) (r := r74) ?_ fu l3 M hL74
      intro l3 M o74 hm K74
      unfold f_X10_removeCell_b74 at hm
      refine g_iload_n C 2 dX10_removeCell_74 rfl rfl ?_
      refine g_bipush (v := 14) C dX10_removeCell_75 rfl ?_
      refine g_icmp_ge (tgt := 110) C dX10_removeCell_77 (by decide) (fun h77 => ?_) (fun h77 => ?_)
      · have hm := ift hm h77
        obtain rfl := Option.some.inj hm
        exact g_sub [0, 1] rfl (g_pc rfl (hx74 M (K74.2 _ rfl)))
      · have hm := ife hm h77
        refine g_aload_n C 0 dX10_removeCell_80 rfl rfl ?_
        refine g_getr (k := 0) (k' := 10) C (by decide) kf_X10_32 rfl rfl dX10_removeCell_81 ?_
        refine g_bipush (v := 14) C dX10_removeCell_84 rfl ?_
        refine g_iload_n C 1 dX10_removeCell_86 rfl rfl ?_
        refine g_imul C dX10_removeCell_87 ?_
        refine g_iload_n C 2 dX10_removeCell_88 rfl rfl ?_
        refine g_iadd C dX10_removeCell_89 ?_
        refine g_aload_n C 0 dX10_removeCell_90 rfl rfl ?_
        refine g_getr (k := 0) (k' := 10) C (by decide) kf_X10_32 rfl rfl dX10_removeCell_91 ?_
        refine g_bipush (v := 14) C dX10_removeCell_94 rfl ?_
        refine g_iload_n C 1 dX10_removeCell_96 rfl rfl ?_
        refine g_iconst (v := 1) C dX10_removeCell_97 rfl ?_
        refine g_iadd C dX10_removeCell_98 ?_
        refine g_imul C dX10_removeCell_99 ?_
        refine g_iload_n C 2 dX10_removeCell_100 rfl rfl ?_
        refine g_iadd C dX10_removeCell_101 ?_
        obtain ⟨hi102, hm⟩ := ifn hm
        refine g_iald C (by decide) hi102 dX10_removeCell_102 ?_
        obtain ⟨hi103, hm⟩ := ifn hm
        refine g_iast C (by decide) hi103 dX10_removeCell_103 ?_
        refine g_iinc (ls' := [(3, vI (l3 + (1 : Int32))), (0, vR 10 0), (2, vI l2)]) (v := l3 + (1 : Int32)) C 2 dX10_removeCell_104 rfl (iv_p1 _) (by decide) rfl ?_
        refine g_goto (tgt := 74) C dX10_removeCell_107 (by decide) ?_
        obtain rfl := Option.some.inj hm
        exact g_sub [1, 2, 0] rfl (g_pc rfl (K74.1 (l3 + (1 : Int32)) (mI M 22 10 (((14 : Int32) * l2) + l3).toNatClampNeg (M.1 22 10 (((14 : Int32) * (l2 + (1 : Int32))) + l3).toNatClampNeg)) rfl))
    unfold f_X10_removeCell_b12 at hm
    refine g_iload_n C 1 dX10_removeCell_12 rfl rfl ?_
    refine g_aload_n C 0 dX10_removeCell_13 rfl rfl ?_
    refine g_geti (k := 0) C (by decide) kf_X10_82 rfl dX10_removeCell_14 ?_
    refine g_icmp_ge (tgt := 116) C dX10_removeCell_17 (by decide) (fun h17 => ?_) (fun h17 => ?_)
    · have hm := ift hm h17
      obtain rfl := Option.some.inj hm
      exact g_sub [] rfl (g_pc rfl (hx12 M (K12.2 _ rfl)))
    · have hm := ife hm h17
      refine g_aload_n C 0 dX10_removeCell_20 rfl rfl ?_
      refine g_getr (k := 0) (k' := 8) C (by decide) kf_X10_26 rfl rfl dX10_removeCell_21 ?_
      refine g_iload_n C 1 dX10_removeCell_24 rfl rfl ?_
      refine g_aload_n C 0 dX10_removeCell_25 rfl rfl ?_
      refine g_getr (k := 0) (k' := 8) C (by decide) kf_X10_26 rfl rfl dX10_removeCell_26 ?_
      refine g_iload_n C 1 dX10_removeCell_29 rfl rfl ?_
      refine g_iconst (v := 1) C dX10_removeCell_30 rfl ?_
      refine g_iadd C dX10_removeCell_31 ?_
      obtain ⟨hi32, hm⟩ := ifn hm
      refine g_iald C (by decide) hi32 dX10_removeCell_32 ?_
      obtain ⟨hi33, hm⟩ := ifn hm
      refine g_iast C (by decide) hi33 dX10_removeCell_33 ?_
      refine g_aload_n C 0 dX10_removeCell_34 rfl rfl ?_
      refine g_getr (k := 0) (k' := 9) C (by decide) kf_X10_29 rfl rfl dX10_removeCell_35 ?_
      refine g_iconst (v := 2) C dX10_removeCell_38 rfl ?_
      refine g_iload_n C 1 dX10_removeCell_39 rfl rfl ?_
      refine g_imul C dX10_removeCell_40 ?_
      refine g_aload_n C 0 dX10_removeCell_41 rfl rfl ?_
      refine g_getr (k := 0) (k' := 9) C (by decide) kf_X10_29 rfl rfl dX10_removeCell_42 ?_
      refine g_iconst (v := 2) C dX10_removeCell_45 rfl ?_
      refine g_iload_n C 1 dX10_removeCell_46 rfl rfl ?_
      refine g_imul C dX10_removeCell_47 ?_
      refine g_iconst (v := 2) C dX10_removeCell_48 rfl ?_
      refine g_iadd C dX10_removeCell_49 ?_
      obtain ⟨hi50, hm⟩ := ifn hm
      refine g_iald C (by decide) hi50 dX10_removeCell_50 ?_
      obtain ⟨hi51, hm⟩ := ifn hm
      refine g_iast C (by decide) hi51 dX10_removeCell_51 ?_
      refine g_aload_n C 0 dX10_removeCell_52 rfl rfl ?_
      refine g_getr (k := 0) (k' := 9) C (by decide) kf_X10_29 rfl rfl dX10_removeCell_53 ?_
      refine g_iconst (v := 2) C dX10_removeCell_56 rfl ?_
      refine g_iload_n C 1 dX10_removeCell_57 rfl rfl ?_
      refine g_imul C dX10_removeCell_58 ?_
      refine g_iconst (v := 1) C dX10_removeCell_59 rfl ?_
      refine g_iadd C dX10_removeCell_60 ?_
      refine g_aload_n C 0 dX10_removeCell_61 rfl rfl ?_
      refine g_getr (k := 0) (k' := 9) C (by decide) kf_X10_29 rfl rfl dX10_removeCell_62 ?_
      refine g_iconst (v := 2) C dX10_removeCell_65 rfl ?_
      refine g_iload_n C 1 dX10_removeCell_66 rfl rfl ?_
      refine g_imul C dX10_removeCell_67 ?_
      refine g_iconst (v := 3) C dX10_removeCell_68 rfl ?_
      refine g_iadd C dX10_removeCell_69 ?_
      obtain ⟨hi70, hm⟩ := ifn hm
      refine g_iald C (by decide) hi70 dX10_removeCell_70 ?_
      obtain ⟨hi71, hm⟩ := ifn hm
      refine g_iast C (by decide) hi71 dX10_removeCell_71 ?_
      refine g_iconst (v := 0) C dX10_removeCell_72 rfl ?_
      refine g_istore_n (ls' := [(3, vI (0 : Int32)), (0, vR 10 0), (2, vI l2)]) C dX10_removeCell_73 rfl (by decide) rfl ?_
      exact g_sub [1, 2, 0] rfl (g_pc rfl (J74 l2 (0 : Int32) (mI (mI (mI M 22 8 l2.toNatClampNeg (M.1 22 8 (l2 + (1 : Int32)).toNatClampNeg)) 22 9 ((2 : Int32) * l2).toNatClampNeg ((mI M 22 8 l2.toNatClampNeg (M.1 22 8 (l2 + (1 : Int32)).toNatClampNeg)).1 22 9 (((2 : Int32) * l2) + (2 : Int32)).toNatClampNeg)) 22 9 (((2 : Int32) * l2) + (1 : Int32)).toNatClampNeg ((mI (mI M 22 8 l2.toNatClampNeg (M.1 22 8 (l2 + (1 : Int32)).toNatClampNeg)) 22 9 ((2 : Int32) * l2).toNatClampNeg ((mI M 22 8 l2.toNatClampNeg (M.1 22 8 (l2 + (1 : Int32)).toNatClampNeg)).1 22 9 (((2 : Int32) * l2) + (2 : Int32)).toNatClampNeg)).1 22 9 (((2 : Int32) * l2) + (3 : Int32)).toNatClampNeg)) hm))
  unfold f_X10_removeCell at hm
  refine g_aload_n C 0 dX10_removeCell_0 rfl rfl ?_
  refine g_dup C dX10_removeCell_1 rfl ?_
  refine g_geti (k := 0) C (by decide) kf_X10_82 rfl dX10_removeCell_2 ?_
  refine g_iconst (v := 1) C dX10_removeCell_5 rfl ?_
  refine g_isub C dX10_removeCell_6 ?_
  refine g_puti C (by decide) kf_X10_82 rfl rfl rfl dX10_removeCell_7 ?_
  refine g_iload_n C 1 dX10_removeCell_10 rfl rfl ?_
  refine g_istore_n (ls' := [(2, vI l1), (0, vR 10 0), (1, vI l1)]) C dX10_removeCell_11 rfl (by decide) rfl ?_
  exact g_sub [1, 0] rfl (g_pc rfl (J12 l1 (mI M 10 0 7 ((M.1 10 0 7) - (1 : Int32))) hm))
def f_X10_hasLetter_j60 (fu : Nat)  (l1 : Int32) (l2 : Int32) (l4 : Int32) (l5 : Int32) (t0 : Int32) (M : Mem) : Option ((Int32 × Int32 × Mem) ⊕ (Int32 × Mem)) :=
  some (Sum.inl (t0, l5 + (1 : Int32), M))
def f_X10_hasLetter_j55 (fu : Nat)  (l1 : Int32) (l2 : Int32) (l4 : Int32) (l5 : Int32) (M : Mem) : Option ((Int32 × Int32 × Mem) ⊕ (Int32 × Mem)) :=
  f_X10_hasLetter_j60 fu l1 l2 l4 l5 (1 : Int32) M
def f_X10_hasLetter_b14 (fu : Nat)  (l1 : Int32) (l2 : Int32) (l4 : Int32) (l3 : Int32) (l5 : Int32) (M : Mem) : Option ((Int32 × Int32 × Mem) ⊕ (Int32 × Mem)) :=
  if inb (((2 : Int32) * l1) + l4) (alen 22 9) then if (M.1 22 9 (((2 : Int32) * l1) + l4).toNatClampNeg) ≤ l5 then some (Sum.inr (l3, M)) else if l3 = 0 then if inb (((7 : Int32) * (((2 : Int32) * l1) + l4)) + l5) (alen 22 10) then if (M.1 22 10 (((7 : Int32) * (((2 : Int32) * l1) + l4)) + l5).toNatClampNeg) = l2 then f_X10_hasLetter_j55 fu l1 l2 l4 l5 M else f_X10_hasLetter_j60 fu l1 l2 l4 l5 (0 : Int32) M else none else f_X10_hasLetter_j55 fu l1 l2 l4 l5 M else none
def f_X10_hasLetter_h14 (fu : Nat)  (l1 : Int32) (l2 : Int32) (l3 : Int32) (l4 : Int32) (l5 : Int32) (M : Mem) : Option ((Int32 × Int32 × Mem) ⊕ (Int32 × Mem)) :=
  (lp_run (fun s => f_X10_hasLetter_b14 fu  l1 l2 l4 s.1 s.2.1 s.2.2) fu (l3, l5, M)).bind (fun r14 => match r14 with
    | (l3, M) => some (Sum.inl (l3, l4 + (1 : Int32), M)))
def f_X10_hasLetter_b5 (fu : Nat)  (l1 : Int32) (l2 : Int32) (l3 : Int32) (l4 : Int32) (M : Mem) : Option ((Int32 × Int32 × Mem) ⊕ (Int32 × Mem)) :=
  if (2 : Int32) ≤ l4 then some (Sum.inr (l3, M)) else f_X10_hasLetter_h14 fu l1 l2 l3 l4 (0 : Int32) M
def f_X10_hasLetter_h5 (fu : Nat)   (l1 : Int32) (l2 : Int32) (l3 : Int32) (l4 : Int32) (M : Mem) : Option (Int32 × Mem) :=
  (lp_run (fun s => f_X10_hasLetter_b5 fu  l1 l2 s.1 s.2.1 s.2.2) fu (l3, l4, M)).bind (fun r5 => match r5 with
    | (l3, M) => if l3 = 0 ∨ l3 = 1 then some (l3, M) else none)
def f_X10_hasLetter (fu : Nat) (l1 : Int32) (l2 : Int32) (M : Mem) : Option (Int32 × Mem) :=
  f_X10_hasLetter_h5 fu l1 l2 (0 : Int32) (0 : Int32) M
set_option maxHeartbeats 4000000 in
set_option maxRecDepth 100000 in
theorem k_X10_hasLetter (l : Launch) (G : GE) (hl : l.stackTraces = false) (hG : GOK G) (fu : Nat) (l1 : Int32) (l2 : Int32) (M : Mem) (res : Int32 × Mem) (hk0 : (10, 0) ∈ gids G) (hm : f_X10_hasLetter fu l1 l2 M = some res) : CT l G yX10_hasLetter cX10_hasLetter 6 (some .boolean) 0 [vR 10 0, vI l1, vI l2] M (.inl (some (vI res.1))) res.2 := by
  refine ct_of [(0, vR 10 0), (1, vI l1), (2, vI l2)] (by decide +kernel) hl hG (Nat.le_of_ble_eq_true rfl) rfl (List.forall_mem_cons.mpr ⟨Or.inl hk0, List.forall_mem_cons.mpr ⟨trivial, List.forall_mem_cons.mpr ⟨trivial, fun _ h => nomatch h⟩⟩⟩) (List.forall_mem_cons.mpr ⟨Or.inl hk0, List.forall_mem_cons.mpr ⟨trivial, List.forall_mem_cons.mpr ⟨trivial, fun _ h => nomatch h⟩⟩⟩) (fun X hX C => ?_)
  subst hX
  have Cl := C
  have J5 : ∀ (l1 : Int32) (l2 : Int32) (l3 : Int32) (l4 : Int32) (M : Mem), f_X10_hasLetter_h5 fu   l1 l2 l3 l4 M = some res → GW G X 6 (QX G X (.inl (some (vI res.1))) res.2) 5 [(0, vR 10 0), (1, vI l1), (2, vI l2), (3, vI l3), (4, vI l4)] [] M := by
    intro l1 l2 l3 l4 M hm
    unfold f_X10_hasLetter_h5 at hm
    obtain ⟨r5, hL5, hk5⟩ := bnd_some hm
    have hx5 : ∀ (l3 : Int32) (M : Mem), (l3, M) = r5 → GW G X 6 (QX G X (.inl (some (vI res.1))) res.2) 73 [(3, vI l3)] [] M := by
      intro l3 M he
      subst he
      have hm := hk5
      try dsimp only at hm
      refine g_iload_n C 0 dX10_hasLetter_73 rfl rfl ?_
      obtain ⟨hz74, hm⟩ := ifn hm
      obtain rfl := Option.some.inj hm
      exact g_zret C hz74 dX10_hasLetter_74
    refine lp_ind2 (P := (fun l3 l4 M => GW G X 6 (QX G X (.inl (some (vI res.1))) res.2) 5 [(0, vR 10 0), (1, vI l1), (2, vI l2), (3, vI l3), (4, vI l4)] [] M)) (r := r5) ?_ fu l3 l4 M hL5
    intro l3 l4 M o5 hm K5
    have J14 : ∀ (l3 : Int32) (l4 : Int32) (l5 : Int32) (M : Mem), f_X10_hasLetter_h14 fu  l1 l2 l3 l4 l5 M = some o5 → GW G X 6 (QX G X (.inl (some (vI res.1))) res.2) 14 [(0, vR 10 0), (1, vI l1), (2, vI l2), (3, vI l3), (4, vI l4), (5, vI l5)] [] M := by
      intro l3 l4 l5 M hm
      unfold f_X10_hasLetter_h14 at hm
      obtain ⟨r14, hL14, hk14⟩ := bnd_some hm
      have hx14 : ∀ (l3 : Int32) (M : Mem), (l3, M) = r14 → GW G X 6 (QX G X (.inl (some (vI res.1))) res.2) 67 [(0, vR 10 0), (1, vI l1), (2, vI l2), (3, vI l3), (4, vI l4)] [] M := by
        intro l3 M he
        subst he
        have hm := hk14
        try dsimp only at hm
        refine g_iinc (ls' := [(4, vI (l4 + (1 : Int32))), (0, vR 10 0), (1, vI l1), (2, vI l2), (3, vI l3)]) (v := l4 + (1 : Int32)) C 4 dX10_hasLetter_67 rfl (iv_p1 _) (by decide) rfl ?_
        refine g_goto (tgt := 5) C dX10_hasLetter_70 (by decide) ?_
        obtain rfl := Option.some.inj hm
        exact g_sub [1, 2, 3, 4, 0] rfl (g_pc rfl (K5.1 l3 (l4 + (1 : Int32)) M rfl))
      refine lp_ind2 (P := (fun l3 l5 M => GW G X 6 (QX G X (.inl (some (vI res.1))) res.2) 14 [(0, vR 10 0), (1, vI l1), (2, vI l2), (3, vI l3), (4, vI l4), (5, vI l5)] [] M)) (r := r14) ?_ fu l3 l5 M hL14
      intro l3 l5 M o14 hm K14
      have J60 : ∀ (l5 : Int32) (t0 : Int32) (M : Mem), f_X10_hasLetter_j60 fu  l1 l2 l4 l5 t0 M = some o14 → GW G X 6 (QX G X (.inl (some (vI res.1))) res.2) 60 [(0, vR 10 0), (1, vI l1), (2, vI l2), (4, vI l4), (5, vI l5)] [vI t0] M := by
        intro l5 t0 M hm
        unfold f_X10_hasLetter_j60 at hm
        refine g_istore_n (ls' := [(3, vI t0), (0, vR 10 0), (1, vI l1), (2, vI l2), (4, vI l4), (5, vI l5)]) C dX10_hasLetter_60 rfl (by decide) rfl ?_
        refine g_iinc (ls' := [(5, vI (l5 + (1 : Int32))), (3, vI t0), (0, vR 10 0), (1, vI l1), (2, vI l2), (4, vI l4)]) (v := l5 + (1 : Int32)) C 5 dX10_hasLetter_61 rfl (iv_p1 _) (by decide) rfl ?_
        refine g_goto (tgt := 14) C dX10_hasLetter_64 (by decide) ?_
        obtain rfl := Option.some.inj hm
        exact g_sub [2, 3, 4, 1, 5, 0] rfl (g_pc rfl (K14.1 t0 (l5 + (1 : Int32)) M rfl))
      have J55 : ∀ (l5 : Int32) (M : Mem), f_X10_hasLetter_j55 fu  l1 l2 l4 l5 M = some o14 → GW G X 6 (QX G X (.inl (some (vI res.1))) res.2) 55 [(0, vR 10 0), (1, vI l1), (2, vI l2), (4, vI l4), (5, vI l5)] [] M := by
        intro l5 M hm
        unfold f_X10_hasLetter_j55 at hm
        refine g_iconst (v := 1) C dX10_hasLetter_55 rfl ?_
        refine g_goto (tgt := 60) C dX10_hasLetter_56 (by decide) ?_
        exact g_sub [0, 1, 2, 3, 4] rfl (g_pc rfl (J60 l5 (1 : Int32) M hm))
      unfold f_X10_hasLetter_b14 at hm
      refine g_iload C 5 dX10_hasLetter_14 rfl ?_
      refine g_aload_n C 0 dX10_hasLetter_16 rfl rfl ?_
      refine g_getr (k := 0) (k' := 9) C (by decide) kf_X10_29 rfl rfl dX10_hasLetter_17 ?_
      refine g_iconst (v := 2) C dX10_hasLetter_20 rfl ?_
      refine g_iload_n C 1 dX10_hasLetter_21 rfl rfl ?_
      refine g_imul C dX10_hasLetter_22 ?_
      refine g_iload C 4 dX10_hasLetter_23 rfl ?_
      refine g_iadd C dX10_hasLetter_25 ?_
      obtain ⟨hi26, hm⟩ := ifn hm
      refine g_iald C (by decide) hi26 dX10_hasLetter_26 ?_
      refine g_icmp_ge (tgt := 67) C dX10_hasLetter_27 (by decide) (fun h27 => ?_) (fun h27 => ?_)
      · have hm := ift hm h27
        obtain rfl := Option.some.inj hm
        exact g_sub [0, 1, 2, 3, 4] rfl (g_pc rfl (hx14 l3 M (K14.2 _ rfl)))
      · have hm := ife hm h27
        refine g_iload_n C 3 dX10_hasLetter_30 rfl rfl ?_
        refine g_if_ne (tgt := 55) C dX10_hasLetter_31 (by decide) (fun h31 => ?_) (fun h31 => ?_)
        · have hm := ife hm h31
          exact g_sub [0, 1, 2, 4, 5] rfl (g_pc rfl (J55 l5 M hm))
        · have hm := ift hm h31
          refine g_aload_n C 0 dX10_hasLetter_34 rfl rfl ?_
          refine g_getr (k := 0) (k' := 10) C (by decide) kf_X10_32 rfl rfl dX10_hasLetter_35 ?_
          refine g_bipush (v := 7) C dX10_hasLetter_38 rfl ?_
          refine g_iconst (v := 2) C dX10_hasLetter_40 rfl ?_
          refine g_iload_n C 1 dX10_hasLetter_41 rfl rfl ?_
          refine g_imul C dX10_hasLetter_42 ?_
          refine g_iload C 4 dX10_hasLetter_43 rfl ?_
          refine g_iadd C dX10_hasLetter_45 ?_
          refine g_imul C dX10_hasLetter_46 ?_
          refine g_iload C 5 dX10_hasLetter_47 rfl ?_
          refine g_iadd C dX10_hasLetter_49 ?_
          obtain ⟨hi50, hm⟩ := ifn hm
          refine g_iald C (by decide) hi50 dX10_hasLetter_50 ?_
          refine g_iload_n C 2 dX10_hasLetter_51 rfl rfl ?_
          refine g_icmp_ne (tgt := 59) C dX10_hasLetter_52 (by decide) (fun h52 => ?_) (fun h52 => ?_)
          · have hm := ife hm h52
            refine g_iconst (v := 0) C dX10_hasLetter_59 rfl ?_
            exact g_sub [0, 1, 2, 4, 5] rfl (g_pc rfl (J60 l5 (0 : Int32) M hm))
          · have hm := ift hm h52
            exact g_sub [0, 1, 2, 4, 5] rfl (g_pc rfl (J55 l5 M hm))
    unfold f_X10_hasLetter_b5 at hm
    refine g_iload C 4 dX10_hasLetter_5 rfl ?_
    refine g_iconst (v := 2) C dX10_hasLetter_7 rfl ?_
    refine g_icmp_ge (tgt := 73) C dX10_hasLetter_8 (by decide) (fun h8 => ?_) (fun h8 => ?_)
    · have hm := ift hm h8
      obtain rfl := Option.some.inj hm
      exact g_sub [3] rfl (g_pc rfl (hx5 l3 M (K5.2 _ rfl)))
    · have hm := ife hm h8
      refine g_iconst (v := 0) C dX10_hasLetter_11 rfl ?_
      refine g_istore (ls' := [(5, vI (0 : Int32)), (0, vR 10 0), (1, vI l1), (2, vI l2), (3, vI l3), (4, vI l4)]) C dX10_hasLetter_12 (by decide) rfl ?_
      exact g_sub [1, 2, 3, 4, 5, 0] rfl (g_pc rfl (J14 l3 l4 (0 : Int32) M hm))
  unfold f_X10_hasLetter at hm
  refine g_iconst (v := 0) C dX10_hasLetter_0 rfl ?_
  refine g_istore_n (ls' := [(3, vI (0 : Int32)), (0, vR 10 0), (1, vI l1), (2, vI l2)]) C dX10_hasLetter_1 rfl (by decide) rfl ?_
  refine g_iconst (v := 0) C dX10_hasLetter_2 rfl ?_
  refine g_istore (ls' := [(4, vI (0 : Int32)), (3, vI (0 : Int32)), (0, vR 10 0), (1, vI l1), (2, vI l2)]) C dX10_hasLetter_3 (by decide) rfl ?_
  exact g_sub [2, 3, 4, 1, 0] rfl (g_pc rfl (J5 l1 l2 (0 : Int32) (0 : Int32) M hm))
def f_X10_dropArrow_j68 (fu : Nat)  (l1 : Int32) (l2 : Int32) (M : Mem) : Option ((Int32 × Mem) ⊕ (Mem)) :=
  some (Sum.inl (l2 + (-1 : Int32), M))
def f_X10_dropArrow_b47 (fu : Nat)  (l1 : Int32) (l2 : Int32) (M : Mem) : Option ((Int32 × Mem) ⊕ (Mem)) :=
  if l2 < 0 then some (Sum.inr M) else (f_X10_hasLetter fu l2 (M.1 10 0 2) M).bind (fun r57 => if r57.1 = 0 then f_X10_dropArrow_j68 fu l1 l2 r57.2 else (f_X10_removeCell fu l2 r57.2).bind (fun r65 => f_X10_dropArrow_j68 fu l1 l2 r65))
def f_X10_dropArrow_h47 (fu : Nat)   (l1 : Int32) (l2 : Int32) (M : Mem) : Option (Int32 × Mem) :=
  (lp_run (fun s => f_X10_dropArrow_b47 fu  l1 s.1 s.2) fu (l2, M)).bind (fun M => (f_X10_layPaths fu  M).bind (fun r75 => some (l1 - (r75.2.1 10 0 7), r75.2)))
def f_X10_dropArrow_j13 (fu : Nat)   (t1 : Int32) (M : Mem) : Option (Int32 × Mem) :=
  if ((mI M 10 0 0 t1).1 10 0 0) ≤ 0 then f_X10_dropArrow_h47 fu ((mI M 10 0 0 t1).1 10 0 7) (((mI (mI M 10 0 0 t1) 10 0 2 (((mI M 10 0 0 t1).1 10 0 2) - (1 : Int32))).1 10 0 7) - (1 : Int32)) (mI (mI M 10 0 0 t1) 10 0 2 (((mI M 10 0 0 t1).1 10 0 2) - (1 : Int32))) else some ((0 : Int32), (mI M 10 0 0 t1))
def f_X10_dropArrow (fu : Nat) (M : Mem) : Option (Int32 × Mem) :=
  if (M.1 10 0 2) ≤ 0 then f_X10_dropArrow_j13 fu (1 : Int32) M else f_X10_dropArrow_j13 fu (0 : Int32) M
set_option maxHeartbeats 4000000 in
set_option maxRecDepth 100000 in
theorem k_X10_dropArrow (l : Launch) (G : GE) (hl : l.stackTraces = false) (hG : GOK G) (fu : Nat)  (M : Mem) (res : Int32 × Mem) (hk0 : (10, 0) ∈ gids G) (hm : f_X10_dropArrow fu  M = some res) : CT l G yX10_dropArrow cX10_dropArrow 3 (some .int) 3 [vR 10 0] M (.inl (some (vI res.1))) res.2 := by
  refine ct_of [(0, vR 10 0)] (by decide +kernel) hl hG (Nat.le_of_ble_eq_true rfl) rfl (List.forall_mem_cons.mpr ⟨Or.inl hk0, fun _ h => nomatch h⟩) (List.forall_mem_cons.mpr ⟨Or.inl hk0, fun _ h => nomatch h⟩) (fun X hX C => ?_)
  subst hX
  have Cl := C
  have J47 : ∀ (l1 : Int32) (l2 : Int32) (M : Mem), f_X10_dropArrow_h47 fu   l1 l2 M = some res → GW G X 3 (QX G X (.inl (some (vI res.1))) res.2) 47 [(0, vR 10 0), (1, vI l1), (2, vI l2)] [] M := by
    intro l1 l2 M hm
    unfold f_X10_dropArrow_h47 at hm
    obtain ⟨r47, hL47, hk47⟩ := bnd_some hm
    have hx47 : ∀ (M : Mem), M = r47 → GW G X 3 (QX G X (.inl (some (vI res.1))) res.2) 74 [(0, vR 10 0), (1, vI l1)] [] M := by
      intro M he
      subst he
      have hm := hk47
      try dsimp only at hm
      refine g_aload_n C 0 dX10_dropArrow_74 rfl rfl ?_
      obtain ⟨r75, hr75, hm⟩ := bnd_some hm
      refine g_callVi (As := []) (rest := []) C lk_X10_85 (k_X10_layPaths X.2.1 G hl hG fu  M r75 hk0 hr75) (by decide) rfl rfl rfl (Nat.le_of_ble_eq_true rfl) ⟨Nat.le_of_ble_eq_true rfl, Nat.le_of_ble_eq_true rfl⟩ dX10_dropArrow_75 ?_
      refine g_pop C dX10_dropArrow_78 rfl ?_
      refine g_iload_n C 1 dX10_dropArrow_79 rfl rfl ?_
      refine g_aload_n C 0 dX10_dropArrow_80 rfl rfl ?_
      refine g_geti (k := 0) C (by decide) kf_X10_82 rfl dX10_dropArrow_81 ?_
      refine g_isub C dX10_dropArrow_84 ?_
      obtain rfl := Option.some.inj hm
      exact g_iret C dX10_dropArrow_85
    refine lp_ind1 (P := (fun l2 M => GW G X 3 (QX G X (.inl (some (vI res.1))) res.2) 47 [(0, vR 10 0), (1, vI l1), (2, vI l2)] [] M)) (r := r47) ?_ fu l2 M hL47
    intro l2 M o47 hm K47
    have J68 : ∀ (l2 : Int32) (M : Mem), f_X10_dropArrow_j68 fu  l1 l2 M = some o47 → GW G X 3 (QX G X (.inl (some (vI res.1))) res.2) 68 [(0, vR 10 0), (1, vI l1), (2, vI l2)] [] M := by
      intro l2 M hm
      unfold f_X10_dropArrow_j68 at hm
      refine g_iinc (ls' := [(2, vI (l2 + (-1 : Int32))), (0, vR 10 0), (1, vI l1)]) (v := l2 + (-1 : Int32)) C 2 dX10_dropArrow_68 rfl (iv_m1 _) (by decide) rfl ?_
      refine g_goto (tgt := 47) C dX10_dropArrow_71 (by decide) ?_
      obtain rfl := Option.some.inj hm
      exact g_sub [1, 2, 0] rfl (g_pc rfl (K47.1 (l2 + (-1 : Int32)) M rfl))
    unfold f_X10_dropArrow_b47 at hm
    refine g_iload_n C 2 dX10_dropArrow_47 rfl rfl ?_
    refine g_if_lt (tgt := 74) C dX10_dropArrow_48 (by decide) (fun h48 => ?_) (fun h48 => ?_)
    · have hm := ift hm h48
      obtain rfl := Option.some.inj hm
      exact g_sub [0, 1] rfl (g_pc rfl (hx47 M (K47.2 _ rfl)))
    · have hm := ife hm h48
      refine g_aload_n C 0 dX10_dropArrow_51 rfl rfl ?_
      refine g_iload_n C 2 dX10_dropArrow_52 rfl rfl ?_
      refine g_aload_n C 0 dX10_dropArrow_53 rfl rfl ?_
      refine g_geti (k := 0) C (by decide) kf_X10_79 rfl dX10_dropArrow_54 ?_
      obtain ⟨r57, hr57, hm⟩ := bnd_some hm
      refine g_callVi (As := [vI l2, vI (M.1 10 0 2)]) (rest := []) C lk_X10_107 (k_X10_hasLetter X.2.1 G hl hG fu l2 (M.1 10 0 2) M r57 hk0 hr57) (by decide) rfl rfl rfl (Nat.le_of_ble_eq_true rfl) ⟨Nat.le_of_ble_eq_true rfl, Nat.le_of_ble_eq_true rfl⟩ dX10_dropArrow_57 ?_
      refine g_if_eq (tgt := 68) C dX10_dropArrow_60 (by decide) (fun h60 => ?_) (fun h60 => ?_)
      · have hm := ift hm h60
        exact g_sub [0, 1, 2] rfl (g_pc rfl (J68 l2 r57.2 hm))
      · have hm := ife hm h60
        refine g_aload_n C 0 dX10_dropArrow_63 rfl rfl ?_
        refine g_iload_n C 2 dX10_dropArrow_64 rfl rfl ?_
        obtain ⟨r65, hr65, hm⟩ := bnd_some hm
        refine g_callVv (As := [vI l2]) (rest := []) C lk_X10_111 (k_X10_removeCell X.2.1 G hl hG fu l2 r57.2 r65 hk0 hr65) (by decide) rfl rfl rfl (Nat.le_of_ble_eq_true rfl) ⟨Nat.le_of_ble_eq_true rfl, Nat.le_of_ble_eq_true rfl⟩ dX10_dropArrow_65 ?_
        exact g_sub [0, 1, 2] rfl (g_pc rfl (J68 l2 r65 hm))
  have J13 : ∀ (t1 : Int32) (M : Mem), f_X10_dropArrow_j13 fu   t1 M = some res → GW G X 3 (QX G X (.inl (some (vI res.1))) res.2) 13 [(0, vR 10 0)] [vI t1, vR 10 0] M := by
    intro t1 M hm
    unfold f_X10_dropArrow_j13 at hm
    refine g_puti C (by decide) kf_X10_72 rfl rfl rfl dX10_dropArrow_13 ?_
    refine g_aload_n C 0 dX10_dropArrow_16 rfl rfl ?_
    refine g_geti (k := 0) C (by decide) kf_X10_72 rfl dX10_dropArrow_17 ?_
    refine g_if_le (tgt := 25) C dX10_dropArrow_20 (by decide) (fun h20 => ?_) (fun h20 => ?_)
    · have hm := ift hm h20
      refine g_aload_n C 0 dX10_dropArrow_25 rfl rfl ?_
      refine g_geti (k := 0) C (by decide) kf_X10_82 rfl dX10_dropArrow_26 ?_
      refine g_istore_n (ls' := [(1, vI ((mI M 10 0 0 t1).1 10 0 7)), (0, vR 10 0)]) C dX10_dropArrow_29 rfl (by decide) rfl ?_
      refine g_aload_n C 1 dX10_dropArrow_30 rfl rfl ?_
      refine g_dup C dX10_dropArrow_31 rfl ?_
      refine g_geti (k := 0) C (by decide) kf_X10_79 rfl dX10_dropArrow_32 ?_
      refine g_iconst (v := 1) C dX10_dropArrow_35 rfl ?_
      refine g_isub C dX10_dropArrow_36 ?_
      refine g_puti C (by decide) kf_X10_79 rfl rfl rfl dX10_dropArrow_37 ?_
      refine g_aload_n C 1 dX10_dropArrow_40 rfl rfl ?_
      refine g_geti (k := 0) C (by decide) kf_X10_82 rfl dX10_dropArrow_41 ?_
      refine g_iconst (v := 1) C dX10_dropArrow_44 rfl ?_
      refine g_isub C dX10_dropArrow_45 ?_
      refine g_istore_n (ls' := [(2, vI (((mI (mI M 10 0 0 t1) 10 0 2 (((mI M 10 0 0 t1).1 10 0 2) - (1 : Int32))).1 10 0 7) - (1 : Int32))), (1, vI ((mI M 10 0 0 t1).1 10 0 7)), (0, vR 10 0)]) C dX10_dropArrow_46 rfl (by decide) rfl ?_
      exact g_sub [2, 1, 0] rfl (g_pc rfl (J47 ((mI M 10 0 0 t1).1 10 0 7) (((mI (mI M 10 0 0 t1) 10 0 2 (((mI M 10 0 0 t1).1 10 0 2) - (1 : Int32))).1 10 0 7) - (1 : Int32)) (mI (mI M 10 0 0 t1) 10 0 2 (((mI M 10 0 0 t1).1 10 0 2) - (1 : Int32))) hm))
    · have hm := ife hm h20
      refine g_iconst (v := 0) C dX10_dropArrow_23 rfl ?_
      obtain rfl := Option.some.inj hm
      exact g_iret C dX10_dropArrow_24
  unfold f_X10_dropArrow at hm
  refine g_aload_n C 0 dX10_dropArrow_0 rfl rfl ?_
  refine g_aload_n C 0 dX10_dropArrow_1 rfl rfl ?_
  refine g_geti (k := 0) C (by decide) kf_X10_79 rfl dX10_dropArrow_2 ?_
  refine g_if_le (tgt := 12) C dX10_dropArrow_5 (by decide) (fun h5 => ?_) (fun h5 => ?_)
  · have hm := ift hm h5
    refine g_iconst (v := 1) C dX10_dropArrow_12 rfl ?_
    exact g_sub [0] rfl (g_pc rfl (J13 (1 : Int32) M hm))
  · have hm := ife hm h5
    refine g_iconst (v := 0) C dX10_dropArrow_8 rfl ?_
    refine g_goto (tgt := 13) C dX10_dropArrow_9 (by decide) ?_
    exact g_sub [0] rfl (g_pc rfl (J13 (0 : Int32) M hm))
def f_X10_putSide_b21 (fu : Nat)  (l1 : Int32) (l2 : Int32) (l3 : Int32) (M : Mem) : Option ((Int32 × Mem) ⊕ (Mem)) :=
  if inb l2 (alen 22 16) then if (M.1 22 16 l2.toNatClampNeg) ≤ l3 then some (Sum.inr M) else if inb (((7 : Int32) * l2) + l3) (alen 22 17) then if inb (((7 : Int32) * (((2 : Int32) * (M.1 10 0 7)) + l1)) + l3) (alen 22 10) then some (Sum.inl (l3 + (1 : Int32), (mI M 22 10 (((7 : Int32) * (((2 : Int32) * (M.1 10 0 7)) + l1)) + l3).toNatClampNeg (M.1 22 17 (((7 : Int32) * l2) + l3).toNatClampNeg)))) else none else none else none
def f_X10_putSide_h21 (fu : Nat)   (l1 : Int32) (l2 : Int32) (l3 : Int32) (M : Mem) : Option (Mem) :=
  (lp_run (fun s => f_X10_putSide_b21 fu  l1 l2 s.1 s.2) fu (l3, M)).bind (fun M => some M)
def f_X10_putSide (fu : Nat) (l1 : Int32) (l2 : Int32) (M : Mem) : Option (Mem) :=
  if inb l2 (alen 22 16) then if inb (((2 : Int32) * (M.1 10 0 7)) + l1) (alen 22 9) then f_X10_putSide_h21 fu l1 l2 (0 : Int32) (mI M 22 9 (((2 : Int32) * (M.1 10 0 7)) + l1).toNatClampNeg (M.1 22 16 l2.toNatClampNeg)) else none else none
set_option maxHeartbeats 4000000 in
set_option maxRecDepth 100000 in
theorem k_X10_putSide (l : Launch) (G : GE) (hl : l.stackTraces = false) (hG : GOK G) (fu : Nat) (l1 : Int32) (l2 : Int32) (M : Mem) (res : Mem) (hk0 : (10, 0) ∈ gids G) (hm : f_X10_putSide fu l1 l2 M = some res) : CT l G yX10_putSide cX10_putSide 4 none 0 [vR 10 0, vI l1, vI l2] M (.inl none) res := by
  refine ct_of [(0, vR 10 0), (1, vI l1), (2, vI l2)] (by decide +kernel) hl hG (Nat.le_of_ble_eq_true rfl) rfl (List.forall_mem_cons.mpr ⟨Or.inl hk0, List.forall_mem_cons.mpr ⟨trivial, List.forall_mem_cons.mpr ⟨trivial, fun _ h => nomatch h⟩⟩⟩) (List.forall_mem_cons.mpr ⟨Or.inl hk0, List.forall_mem_cons.mpr ⟨trivial, List.forall_mem_cons.mpr ⟨trivial, fun _ h => nomatch h⟩⟩⟩) (fun X hX C => ?_)
  subst hX
  have Cl := C
  have J21 : ∀ (l1 : Int32) (l2 : Int32) (l3 : Int32) (M : Mem), f_X10_putSide_h21 fu   l1 l2 l3 M = some res → GW G X 4 (QX G X (.inl none) res) 21 [(0, vR 10 0), (1, vI l1), (2, vI l2), (3, vI l3)] [] M := by
    intro l1 l2 l3 M hm
    unfold f_X10_putSide_h21 at hm
    obtain ⟨r21, hL21, hk21⟩ := bnd_some hm
    have hx21 : ∀ (M : Mem), M = r21 → GW G X 4 (QX G X (.inl none) res) 66 [] [] M := by
      intro M he
      subst he
      have hm := hk21
      try dsimp only at hm
      obtain rfl := Option.some.inj hm
      exact g_vret C dX10_putSide_66
    refine lp_ind1 (P := (fun l3 M => GW G X 4 (QX G X (.inl none) res) 21 [(0, vR 10 0), (1, vI l1), (2, vI l2), (3, vI l3)] [] M)) (r := r21) ?_ fu l3 M hL21
    intro l3 M o21 hm K21
    unfold f_X10_putSide_b21 at hm
    refine g_iload_n C 3 dX10_putSide_21 rfl rfl ?_
    refine g_aload_n C 0 dX10_putSide_22 rfl rfl ?_
    refine g_getr (k := 0) (k' := 16) C (by decide) kf_X10_44 rfl rfl dX10_putSide_23 ?_
    refine g_iload_n C 2 dX10_putSide_26 rfl rfl ?_
    obtain ⟨hi27, hm⟩ := ifn hm
    refine g_iald C (by decide) hi27 dX10_putSide_27 ?_
    refine g_icmp_ge (tgt := 66) C dX10_putSide_28 (by decide) (fun h28 => ?_) (fun h28 => ?_)
    · have hm := ift hm h28
      obtain rfl := Option.some.inj hm
      exact g_sub [] rfl (g_pc rfl (hx21 M (K21.2 _ rfl)))
    · have hm := ife hm h28
      refine g_aload_n C 0 dX10_putSide_31 rfl rfl ?_
      refine g_getr (k := 0) (k' := 10) C (by decide) kf_X10_32 rfl rfl dX10_putSide_32 ?_
      refine g_bipush (v := 7) C dX10_putSide_35 rfl ?_
      refine g_iconst (v := 2) C dX10_putSide_37 rfl ?_
      refine g_aload_n C 0 dX10_putSide_38 rfl rfl ?_
      refine g_geti (k := 0) C (by decide) kf_X10_82 rfl dX10_putSide_39 ?_
      refine g_imul C dX10_putSide_42 ?_
      refine g_iload_n C 1 dX10_putSide_43 rfl rfl ?_
      refine g_iadd C dX10_putSide_44 ?_
      refine g_imul C dX10_putSide_45 ?_
      refine g_iload_n C 3 dX10_putSide_46 rfl rfl ?_
      refine g_iadd C dX10_putSide_47 ?_
      refine g_aload_n C 0 dX10_putSide_48 rfl rfl ?_
      refine g_getr (k := 0) (k' := 17) C (by decide) kf_X10_47 rfl rfl dX10_putSide_49 ?_
      refine g_bipush (v := 7) C dX10_putSide_52 rfl ?_
      refine g_iload_n C 2 dX10_putSide_54 rfl rfl ?_
      refine g_imul C dX10_putSide_55 ?_
      refine g_iload_n C 3 dX10_putSide_56 rfl rfl ?_
      refine g_iadd C dX10_putSide_57 ?_
      obtain ⟨hi58, hm⟩ := ifn hm
      refine g_iald C (by decide) hi58 dX10_putSide_58 ?_
      obtain ⟨hi59, hm⟩ := ifn hm
      refine g_iast C (by decide) hi59 dX10_putSide_59 ?_
      refine g_iinc (ls' := [(3, vI (l3 + (1 : Int32))), (0, vR 10 0), (1, vI l1), (2, vI l2)]) (v := l3 + (1 : Int32)) C 3 dX10_putSide_60 rfl (iv_p1 _) (by decide) rfl ?_
      refine g_goto (tgt := 21) C dX10_putSide_63 (by decide) ?_
      obtain rfl := Option.some.inj hm
      exact g_sub [1, 2, 3, 0] rfl (g_pc rfl (K21.1 (l3 + (1 : Int32)) (mI M 22 10 (((7 : Int32) * (((2 : Int32) * (M.1 10 0 7)) + l1)) + l3).toNatClampNeg (M.1 22 17 (((7 : Int32) * l2) + l3).toNatClampNeg)) rfl))
  unfold f_X10_putSide at hm
  refine g_aload_n C 0 dX10_putSide_0 rfl rfl ?_
  refine g_getr (k := 0) (k' := 9) C (by decide) kf_X10_29 rfl rfl dX10_putSide_1 ?_
  refine g_iconst (v := 2) C dX10_putSide_4 rfl ?_
  refine g_aload_n C 0 dX10_putSide_5 rfl rfl ?_
  refine g_geti (k := 0) C (by decide) kf_X10_82 rfl dX10_putSide_6 ?_
  refine g_imul C dX10_putSide_9 ?_
  refine g_iload_n C 1 dX10_putSide_10 rfl rfl ?_
  refine g_iadd C dX10_putSide_11 ?_
  refine g_aload_n C 0 dX10_putSide_12 rfl rfl ?_
  refine g_getr (k := 0) (k' := 16) C (by decide) kf_X10_44 rfl rfl dX10_putSide_13 ?_
  refine g_iload_n C 2 dX10_putSide_16 rfl rfl ?_
  obtain ⟨hi17, hm⟩ := ifn hm
  refine g_iald C (by decide) hi17 dX10_putSide_17 ?_
  obtain ⟨hi18, hm⟩ := ifn hm
  refine g_iast C (by decide) hi18 dX10_putSide_18 ?_
  refine g_iconst (v := 0) C dX10_putSide_19 rfl ?_
  refine g_istore_n (ls' := [(3, vI (0 : Int32)), (0, vR 10 0), (1, vI l1), (2, vI l2)]) C dX10_putSide_20 rfl (by decide) rfl ?_
  exact g_sub [1, 2, 3, 0] rfl (g_pc rfl (J21 l1 l2 (0 : Int32) (mI M 22 9 (((2 : Int32) * (M.1 10 0 7)) + l1).toNatClampNeg (M.1 22 16 l2.toNatClampNeg)) hm))
def f_X10_addCell_j58 (fu : Nat)   (l1 : Int32) (l2 : Int32) (t1 : Int32) (M : Mem) : Option (Int32 × Mem) :=
  if ((mI M 10 0 0 t1).1 10 0 0) ≤ 0 then if inb l1 (alen 22 14) then if inb ((mI M 10 0 0 t1).1 10 0 7) (alen 22 8) then (f_X10_putSide fu (0 : Int32) l1 (mI (mI M 10 0 0 t1) 22 8 ((mI M 10 0 0 t1).1 10 0 7).toNatClampNeg ((mI M 10 0 0 t1).1 22 14 l1.toNatClampNeg))).bind (fun r88 => (f_X10_putSide fu (1 : Int32) l2 r88).bind (fun r94 => some (((mI r94 10 0 7 ((r94.1 10 0 7) + (1 : Int32))).1 10 0 7) - (1 : Int32), (mI r94 10 0 7 ((r94.1 10 0 7) + (1 : Int32)))))) else none else none else some ((0 : Int32), (mI M 10 0 0 t1))
def f_X10_addCell_j21 (fu : Nat)   (l1 : Int32) (l2 : Int32) (t0 : Int32) (M : Mem) : Option (Int32 × Mem) :=
  if t0 = 0 then f_X10_addCell_j58 fu l1 l2 (1 : Int32) M else (f_X10_areParallel fu l1 l2 M).bind (fun r34 => if r34.1 = 0 then f_X10_addCell_j58 fu l1 l2 (2 : Int32) r34.2 else if (r34.2.1 10 0 7) = (10 : Int32) then f_X10_addCell_j58 fu l1 l2 (3 : Int32) r34.2 else f_X10_addCell_j58 fu l1 l2 (0 : Int32) r34.2)
def f_X10_addCell_j20 (fu : Nat)   (l1 : Int32) (l2 : Int32) (M : Mem) : Option (Int32 × Mem) :=
  f_X10_addCell_j21 fu l1 l2 (0 : Int32) M
def f_X10_addCell (fu : Nat) (l1 : Int32) (l2 : Int32) (M : Mem) : Option (Int32 × Mem) :=
  (f_X10_isPath fu l1 M).bind (fun r2 => if r2.1 = 0 then f_X10_addCell_j20 fu l1 l2 r2.2 else (f_X10_isPath fu l2 r2.2).bind (fun r10 => if r10.1 = 0 then f_X10_addCell_j20 fu l1 l2 r10.2 else f_X10_addCell_j21 fu l1 l2 (1 : Int32) r10.2))
set_option maxHeartbeats 4000000 in
set_option maxRecDepth 100000 in
theorem k_X10_addCell (l : Launch) (G : GE) (hl : l.stackTraces = false) (hG : GOK G) (fu : Nat) (l1 : Int32) (l2 : Int32) (M : Mem) (res : Int32 × Mem) (hk0 : (10, 0) ∈ gids G) (hm : f_X10_addCell fu l1 l2 M = some res) : CT l G yX10_addCell cX10_addCell 4 (some .int) 2 [vR 10 0, vI l1, vI l2] M (.inl (some (vI res.1))) res.2 := by
  refine ct_of [(0, vR 10 0), (1, vI l1), (2, vI l2)] (by decide +kernel) hl hG (Nat.le_of_ble_eq_true rfl) rfl (List.forall_mem_cons.mpr ⟨Or.inl hk0, List.forall_mem_cons.mpr ⟨trivial, List.forall_mem_cons.mpr ⟨trivial, fun _ h => nomatch h⟩⟩⟩) (List.forall_mem_cons.mpr ⟨Or.inl hk0, List.forall_mem_cons.mpr ⟨trivial, List.forall_mem_cons.mpr ⟨trivial, fun _ h => nomatch h⟩⟩⟩) (fun X hX C => ?_)
  subst hX
  have Cl := C
  have J58 : ∀ (l1 : Int32) (l2 : Int32) (t1 : Int32) (M : Mem), f_X10_addCell_j58 fu   l1 l2 t1 M = some res → GW G X 4 (QX G X (.inl (some (vI res.1))) res.2) 58 [(0, vR 10 0), (1, vI l1), (2, vI l2)] [vI t1, vR 10 0] M := by
    intro l1 l2 t1 M hm
    unfold f_X10_addCell_j58 at hm
    refine g_puti C (by decide) kf_X10_72 rfl rfl rfl dX10_addCell_58 ?_
    refine g_aload_n C 0 dX10_addCell_61 rfl rfl ?_
    refine g_geti (k := 0) C (by decide) kf_X10_72 rfl dX10_addCell_62 ?_
    refine g_if_le (tgt := 70) C dX10_addCell_65 (by decide) (fun h65 => ?_) (fun h65 => ?_)
    · have hm := ift hm h65
      refine g_aload_n C 0 dX10_addCell_70 rfl rfl ?_
      refine g_getr (k := 0) (k' := 8) C (by decide) kf_X10_26 rfl rfl dX10_addCell_71 ?_
      refine g_aload_n C 0 dX10_addCell_74 rfl rfl ?_
      refine g_geti (k := 0) C (by decide) kf_X10_82 rfl dX10_addCell_75 ?_
      refine g_aload_n C 0 dX10_addCell_78 rfl rfl ?_
      refine g_getr (k := 0) (k' := 14) C (by decide) kf_X10_38 rfl rfl dX10_addCell_79 ?_
      refine g_iload_n C 1 dX10_addCell_82 rfl rfl ?_
      obtain ⟨hi83, hm⟩ := ifn hm
      refine g_iald C (by decide) hi83 dX10_addCell_83 ?_
      obtain ⟨hi84, hm⟩ := ifn hm
      refine g_iast C (by decide) hi84 dX10_addCell_84 ?_
      refine g_aload_n C 0 dX10_addCell_85 rfl rfl ?_
      refine g_iconst (v := 0) C dX10_addCell_86 rfl ?_
      refine g_iload_n C 1 dX10_addCell_87 rfl rfl ?_
      obtain ⟨r88, hr88, hm⟩ := bnd_some hm
      refine g_callVv (As := [vI (0 : Int32), vI l1]) (rest := []) C lk_X10_120 (k_X10_putSide X.2.1 G hl hG fu (0 : Int32) l1 (mI (mI M 10 0 0 t1) 22 8 ((mI M 10 0 0 t1).1 10 0 7).toNatClampNeg ((mI M 10 0 0 t1).1 22 14 l1.toNatClampNeg)) r88 hk0 hr88) (by decide) rfl rfl rfl (Nat.le_of_ble_eq_true rfl) ⟨Nat.le_of_ble_eq_true rfl, Nat.le_of_ble_eq_true rfl⟩ dX10_addCell_88 ?_
      refine g_aload_n C 0 dX10_addCell_91 rfl rfl ?_
      refine g_iconst (v := 1) C dX10_addCell_92 rfl ?_
      refine g_iload_n C 2 dX10_addCell_93 rfl rfl ?_
      obtain ⟨r94, hr94, hm⟩ := bnd_some hm
      refine g_callVv (As := [vI (1 : Int32), vI l2]) (rest := []) C lk_X10_120 (k_X10_putSide X.2.1 G hl hG fu (1 : Int32) l2 r88 r94 hk0 hr94) (by decide) rfl rfl rfl (Nat.le_of_ble_eq_true rfl) ⟨Nat.le_of_ble_eq_true rfl, Nat.le_of_ble_eq_true rfl⟩ dX10_addCell_94 ?_
      refine g_aload_n C 0 dX10_addCell_97 rfl rfl ?_
      refine g_dup C dX10_addCell_98 rfl ?_
      refine g_geti (k := 0) C (by decide) kf_X10_82 rfl dX10_addCell_99 ?_
      refine g_iconst (v := 1) C dX10_addCell_102 rfl ?_
      refine g_iadd C dX10_addCell_103 ?_
      refine g_puti C (by decide) kf_X10_82 rfl rfl rfl dX10_addCell_104 ?_
      refine g_aload_n C 0 dX10_addCell_107 rfl rfl ?_
      refine g_geti (k := 0) C (by decide) kf_X10_82 rfl dX10_addCell_108 ?_
      refine g_iconst (v := 1) C dX10_addCell_111 rfl ?_
      refine g_isub C dX10_addCell_112 ?_
      obtain rfl := Option.some.inj hm
      exact g_iret C dX10_addCell_113
    · have hm := ife hm h65
      refine g_iconst (v := 0) C dX10_addCell_68 rfl ?_
      obtain rfl := Option.some.inj hm
      exact g_iret C dX10_addCell_69
  have J21 : ∀ (l1 : Int32) (l2 : Int32) (t0 : Int32) (M : Mem), f_X10_addCell_j21 fu   l1 l2 t0 M = some res → GW G X 4 (QX G X (.inl (some (vI res.1))) res.2) 21 [(0, vR 10 0), (1, vI l1), (2, vI l2)] [vI t0] M := by
    intro l1 l2 t0 M hm
    unfold f_X10_addCell_j21 at hm
    refine g_istore_n (ls' := [(3, vI t0), (0, vR 10 0), (1, vI l1), (2, vI l2)]) C dX10_addCell_21 rfl (by decide) rfl ?_
    refine g_aload_n C 1 dX10_addCell_22 rfl rfl ?_
    refine g_iload_n C 0 dX10_addCell_23 rfl rfl ?_
    refine g_if_ne (tgt := 31) C dX10_addCell_24 (by decide) (fun h24 => ?_) (fun h24 => ?_)
    · have hm := ife hm h24
      refine g_aload_n C 1 dX10_addCell_31 rfl rfl ?_
      refine g_iload_n C 2 dX10_addCell_32 rfl rfl ?_
      refine g_iload_n C 3 dX10_addCell_33 rfl rfl ?_
      obtain ⟨r34, hr34, hm⟩ := bnd_some hm
      refine g_callVi (As := [vI l1, vI l2]) (rest := [vR 10 0]) C lk_X10_117 (k_X10_areParallel X.2.1 G hl hG fu l1 l2 M r34 hk0 hr34) (by decide) rfl rfl rfl (Nat.le_of_ble_eq_true rfl) ⟨Nat.le_of_ble_eq_true rfl, Nat.le_of_ble_eq_true rfl⟩ dX10_addCell_34 ?_
      refine g_if_ne (tgt := 44) C dX10_addCell_37 (by decide) (fun h37 => ?_) (fun h37 => ?_)
      · have hm := ife hm h37
        refine g_aload_n C 1 dX10_addCell_44 rfl rfl ?_
        refine g_geti (k := 0) C (by decide) kf_X10_82 rfl dX10_addCell_45 ?_
        refine g_bipush (v := 10) C dX10_addCell_48 rfl ?_
        refine g_icmp_ne (tgt := 57) C dX10_addCell_50 (by decide) (fun h50 => ?_) (fun h50 => ?_)
        · have hm := ife hm h50
          refine g_iconst (v := 0) C dX10_addCell_57 rfl ?_
          exact g_sub [1, 2, 3] rfl (g_pc rfl (J58 l1 l2 (0 : Int32) r34.2 hm))
        · have hm := ift hm h50
          refine g_iconst (v := 3) C dX10_addCell_53 rfl ?_
          refine g_goto (tgt := 58) C dX10_addCell_54 (by decide) ?_
          exact g_sub [1, 2, 3] rfl (g_pc rfl (J58 l1 l2 (3 : Int32) r34.2 hm))
      · have hm := ift hm h37
        refine g_iconst (v := 2) C dX10_addCell_40 rfl ?_
        refine g_goto (tgt := 58) C dX10_addCell_41 (by decide) ?_
        exact g_sub [1, 2, 3] rfl (g_pc rfl (J58 l1 l2 (2 : Int32) r34.2 hm))
    · have hm := ift hm h24
      refine g_iconst (v := 1) C dX10_addCell_27 rfl ?_
      refine g_goto (tgt := 58) C dX10_addCell_28 (by decide) ?_
      exact g_sub [1, 2, 3] rfl (g_pc rfl (J58 l1 l2 (1 : Int32) M hm))
  have J20 : ∀ (l1 : Int32) (l2 : Int32) (M : Mem), f_X10_addCell_j20 fu   l1 l2 M = some res → GW G X 4 (QX G X (.inl (some (vI res.1))) res.2) 20 [(0, vR 10 0), (1, vI l1), (2, vI l2)] [] M := by
    intro l1 l2 M hm
    unfold f_X10_addCell_j20 at hm
    refine g_iconst (v := 0) C dX10_addCell_20 rfl ?_
    exact g_sub [0, 1, 2] rfl (g_pc rfl (J21 l1 l2 (0 : Int32) M hm))
  unfold f_X10_addCell at hm
  refine g_aload_n C 0 dX10_addCell_0 rfl rfl ?_
  refine g_iload_n C 1 dX10_addCell_1 rfl rfl ?_
  obtain ⟨r2, hr2, hm⟩ := bnd_some hm
  refine g_callVi (As := [vI l1]) (rest := []) C lk_X10_114 (k_X10_isPath X.2.1 G hl hG fu l1 M r2 hk0 hr2) (by decide) rfl rfl rfl (Nat.le_of_ble_eq_true rfl) ⟨Nat.le_of_ble_eq_true rfl, Nat.le_of_ble_eq_true rfl⟩ dX10_addCell_2 ?_
  refine g_if_eq (tgt := 20) C dX10_addCell_5 (by decide) (fun h5 => ?_) (fun h5 => ?_)
  · have hm := ift hm h5
    exact g_sub [0, 1, 2] rfl (g_pc rfl (J20 l1 l2 r2.2 hm))
  · have hm := ife hm h5
    refine g_aload_n C 0 dX10_addCell_8 rfl rfl ?_
    refine g_iload_n C 2 dX10_addCell_9 rfl rfl ?_
    obtain ⟨r10, hr10, hm⟩ := bnd_some hm
    refine g_callVi (As := [vI l2]) (rest := []) C lk_X10_114 (k_X10_isPath X.2.1 G hl hG fu l2 r2.2 r10 hk0 hr10) (by decide) rfl rfl rfl (Nat.le_of_ble_eq_true rfl) ⟨Nat.le_of_ble_eq_true rfl, Nat.le_of_ble_eq_true rfl⟩ dX10_addCell_10 ?_
    refine g_if_eq (tgt := 20) C dX10_addCell_13 (by decide) (fun h13 => ?_) (fun h13 => ?_)
    · have hm := ift hm h13
      exact g_sub [0, 1, 2] rfl (g_pc rfl (J20 l1 l2 r10.2 hm))
    · have hm := ife hm h13
      refine g_iconst (v := 1) C dX10_addCell_16 rfl ?_
      refine g_goto (tgt := 21) C dX10_addCell_17 (by decide) ?_
      exact g_sub [0, 1, 2] rfl (g_pc rfl (J21 l1 l2 (1 : Int32) r10.2 hm))
def f_X10_isCell (fu : Nat) (l1 : Int32) (M : Mem) : Option (Int32 × Mem) :=
  (f_X10_within fu l1 (0 : Int32) ((M.1 10 0 7) - (1 : Int32)) M).bind (fun r8 => if r8.1 = 0 ∨ r8.1 = 1 then some (r8.1, r8.2) else none)
set_option maxHeartbeats 4000000 in
set_option maxRecDepth 100000 in
theorem k_X10_isCell (l : Launch) (G : GE) (hl : l.stackTraces = false) (hG : GOK G) (fu : Nat) (l1 : Int32) (M : Mem) (res : Int32 × Mem) (hk0 : (10, 0) ∈ gids G) (hm : f_X10_isCell fu l1 M = some res) : CT l G yX10_isCell cX10_isCell 2 (some .boolean) 1 [vR 10 0, vI l1] M (.inl (some (vI res.1))) res.2 := by
  refine ct_of [(0, vR 10 0), (1, vI l1)] (by decide +kernel) hl hG (Nat.le_of_ble_eq_true rfl) rfl (List.forall_mem_cons.mpr ⟨Or.inl hk0, List.forall_mem_cons.mpr ⟨trivial, fun _ h => nomatch h⟩⟩) (List.forall_mem_cons.mpr ⟨Or.inl hk0, List.forall_mem_cons.mpr ⟨trivial, fun _ h => nomatch h⟩⟩) (fun X hX C => ?_)
  subst hX
  have Cl := C
  unfold f_X10_isCell at hm
  refine g_iload_n C 1 dX10_isCell_0 rfl rfl ?_
  refine g_iconst (v := 0) C dX10_isCell_1 rfl ?_
  refine g_aload_n C 0 dX10_isCell_2 rfl rfl ?_
  refine g_geti (k := 0) C (by decide) kf_X10_82 rfl dX10_isCell_3 ?_
  refine g_iconst (v := 1) C dX10_isCell_6 rfl ?_
  refine g_isub C dX10_isCell_7 ?_
  obtain ⟨r8, hr8, hm⟩ := bnd_some hm
  refine g_callSi (As := [vI l1, vI (0 : Int32), vI ((M.1 10 0 7) - (1 : Int32))]) (rest := []) C lk_X10_75 (k_X10_within X.2.1 G hl hG fu l1 (0 : Int32) ((M.1 10 0 7) - (1 : Int32)) M r8  hr8) rfl rfl (Nat.le_of_ble_eq_true rfl) ⟨Nat.le_of_ble_eq_true rfl, Nat.le_of_ble_eq_true rfl⟩ dX10_isCell_8 ?_
  obtain ⟨hz11, hm⟩ := ifn hm
  obtain rfl := Option.some.inj hm
  exact g_zret C hz11 dX10_isCell_11
def f_X10_dropCell_j14 (fu : Nat)   (l1 : Int32) (t1 : Int32) (M : Mem) : Option (Int32 × Mem) :=
  if ((mI M 10 0 0 t1).1 10 0 0) ≤ 0 then (f_X10_removeCell fu l1 (mI M 10 0 0 t1)).bind (fun r28 => some (r28.1 10 0 7, r28)) else some ((0 : Int32), (mI M 10 0 0 t1))
def f_X10_dropCell (fu : Nat) (l1 : Int32) (M : Mem) : Option (Int32 × Mem) :=
  (f_X10_isCell fu l1 M).bind (fun r3 => if r3.1 = 0 then f_X10_dropCell_j14 fu l1 (1 : Int32) r3.2 else f_X10_dropCell_j14 fu l1 (0 : Int32) r3.2)
set_option maxHeartbeats 4000000 in
set_option maxRecDepth 100000 in
theorem k_X10_dropCell (l : Launch) (G : GE) (hl : l.stackTraces = false) (hG : GOK G) (fu : Nat) (l1 : Int32) (M : Mem) (res : Int32 × Mem) (hk0 : (10, 0) ∈ gids G) (hm : f_X10_dropCell fu l1 M = some res) : CT l G yX10_dropCell cX10_dropCell 2 (some .int) 2 [vR 10 0, vI l1] M (.inl (some (vI res.1))) res.2 := by
  refine ct_of [(0, vR 10 0), (1, vI l1)] (by decide +kernel) hl hG (Nat.le_of_ble_eq_true rfl) rfl (List.forall_mem_cons.mpr ⟨Or.inl hk0, List.forall_mem_cons.mpr ⟨trivial, fun _ h => nomatch h⟩⟩) (List.forall_mem_cons.mpr ⟨Or.inl hk0, List.forall_mem_cons.mpr ⟨trivial, fun _ h => nomatch h⟩⟩) (fun X hX C => ?_)
  subst hX
  have Cl := C
  have J14 : ∀ (l1 : Int32) (t1 : Int32) (M : Mem), f_X10_dropCell_j14 fu   l1 t1 M = some res → GW G X 2 (QX G X (.inl (some (vI res.1))) res.2) 14 [(0, vR 10 0), (1, vI l1)] [vI t1, vR 10 0] M := by
    intro l1 t1 M hm
    unfold f_X10_dropCell_j14 at hm
    refine g_puti C (by decide) kf_X10_72 rfl rfl rfl dX10_dropCell_14 ?_
    refine g_aload_n C 0 dX10_dropCell_17 rfl rfl ?_
    refine g_geti (k := 0) C (by decide) kf_X10_72 rfl dX10_dropCell_18 ?_
    refine g_if_le (tgt := 26) C dX10_dropCell_21 (by decide) (fun h21 => ?_) (fun h21 => ?_)
    · have hm := ift hm h21
      refine g_aload_n C 0 dX10_dropCell_26 rfl rfl ?_
      refine g_iload_n C 1 dX10_dropCell_27 rfl rfl ?_
      obtain ⟨r28, hr28, hm⟩ := bnd_some hm
      refine g_callVv (As := [vI l1]) (rest := []) C lk_X10_111 (k_X10_removeCell X.2.1 G hl hG fu l1 (mI M 10 0 0 t1) r28 hk0 hr28) (by decide) rfl rfl rfl (Nat.le_of_ble_eq_true rfl) ⟨Nat.le_of_ble_eq_true rfl, Nat.le_of_ble_eq_true rfl⟩ dX10_dropCell_28 ?_
      refine g_aload_n C 0 dX10_dropCell_31 rfl rfl ?_
      refine g_geti (k := 0) C (by decide) kf_X10_82 rfl dX10_dropCell_32 ?_
      obtain rfl := Option.some.inj hm
      exact g_iret C dX10_dropCell_35
    · have hm := ife hm h21
      refine g_iconst (v := 0) C dX10_dropCell_24 rfl ?_
      obtain rfl := Option.some.inj hm
      exact g_iret C dX10_dropCell_25
  unfold f_X10_dropCell at hm
  refine g_aload_n C 0 dX10_dropCell_0 rfl rfl ?_
  refine g_aload_n C 0 dX10_dropCell_1 rfl rfl ?_
  refine g_iload_n C 1 dX10_dropCell_2 rfl rfl ?_
  obtain ⟨r3, hr3, hm⟩ := bnd_some hm
  refine g_callVi (As := [vI l1]) (rest := [vR 10 0]) C lk_X10_123 (k_X10_isCell X.2.1 G hl hG fu l1 M r3 hk0 hr3) (by decide) rfl rfl rfl (Nat.le_of_ble_eq_true rfl) ⟨Nat.le_of_ble_eq_true rfl, Nat.le_of_ble_eq_true rfl⟩ dX10_dropCell_3 ?_
  refine g_if_eq (tgt := 13) C dX10_dropCell_6 (by decide) (fun h6 => ?_) (fun h6 => ?_)
  · have hm := ift hm h6
    refine g_iconst (v := 1) C dX10_dropCell_13 rfl ?_
    exact g_sub [0, 1] rfl (g_pc rfl (J14 l1 (1 : Int32) r3.2 hm))
  · have hm := ife hm h6
    refine g_iconst (v := 0) C dX10_dropCell_9 rfl ?_
    refine g_goto (tgt := 14) C dX10_dropCell_10 (by decide) ?_
    exact g_sub [0, 1] rfl (g_pc rfl (J14 l1 (0 : Int32) r3.2 hm))
def f_X10_append_j30 (fu : Nat)   (l1 : Int32) (t1 : Int32) (M : Mem) : Option (Int32 × Mem) :=
  if ((mI M 10 0 0 t1).1 10 0 0) ≤ 0 then if inb ((mI M 10 0 0 t1).1 10 0 11) (alen 22 12) then some ((mI (mI (mI M 10 0 0 t1) 22 12 ((mI M 10 0 0 t1).1 10 0 11).toNatClampNeg l1) 10 0 11 (((mI (mI M 10 0 0 t1) 22 12 ((mI M 10 0 0 t1).1 10 0 11).toNatClampNeg l1).1 10 0 11) + (1 : Int32))).1 10 0 11, (mI (mI (mI M 10 0 0 t1) 22 12 ((mI M 10 0 0 t1).1 10 0 11).toNatClampNeg l1) 10 0 11 (((mI (mI M 10 0 0 t1) 22 12 ((mI M 10 0 0 t1).1 10 0 11).toNatClampNeg l1).1 10 0 11) + (1 : Int32)))) else none else some ((0 : Int32), (mI M 10 0 0 t1))
def f_X10_append (fu : Nat) (l1 : Int32) (M : Mem) : Option (Int32 × Mem) :=
  (f_X10_within fu l1 (32 : Int32) (126 : Int32) M).bind (fun r6 => if r6.1 = 0 then f_X10_append_j30 fu l1 (1 : Int32) r6.2 else if (r6.2.1 10 0 11) = (60 : Int32) then f_X10_append_j30 fu l1 (2 : Int32) r6.2 else f_X10_append_j30 fu l1 (0 : Int32) r6.2)
set_option maxHeartbeats 4000000 in
set_option maxRecDepth 100000 in
theorem k_X10_append (l : Launch) (G : GE) (hl : l.stackTraces = false) (hG : GOK G) (fu : Nat) (l1 : Int32) (M : Mem) (res : Int32 × Mem) (hk0 : (10, 0) ∈ gids G) (hm : f_X10_append fu l1 M = some res) : CT l G yX10_append cX10_append 2 (some .int) 1 [vR 10 0, vI l1] M (.inl (some (vI res.1))) res.2 := by
  refine ct_of [(0, vR 10 0), (1, vI l1)] (by decide +kernel) hl hG (Nat.le_of_ble_eq_true rfl) rfl (List.forall_mem_cons.mpr ⟨Or.inl hk0, List.forall_mem_cons.mpr ⟨trivial, fun _ h => nomatch h⟩⟩) (List.forall_mem_cons.mpr ⟨Or.inl hk0, List.forall_mem_cons.mpr ⟨trivial, fun _ h => nomatch h⟩⟩) (fun X hX C => ?_)
  subst hX
  have Cl := C
  have J30 : ∀ (l1 : Int32) (t1 : Int32) (M : Mem), f_X10_append_j30 fu   l1 t1 M = some res → GW G X 2 (QX G X (.inl (some (vI res.1))) res.2) 30 [(0, vR 10 0), (1, vI l1)] [vI t1, vR 10 0] M := by
    intro l1 t1 M hm
    unfold f_X10_append_j30 at hm
    refine g_puti C (by decide) kf_X10_72 rfl rfl rfl dX10_append_30 ?_
    refine g_aload_n C 0 dX10_append_33 rfl rfl ?_
    refine g_geti (k := 0) C (by decide) kf_X10_72 rfl dX10_append_34 ?_
    refine g_if_le (tgt := 42) C dX10_append_37 (by decide) (fun h37 => ?_) (fun h37 => ?_)
    · have hm := ift hm h37
      refine g_aload_n C 0 dX10_append_42 rfl rfl ?_
      refine g_getr (k := 0) (k' := 12) C (by decide) kf_X10_35 rfl rfl dX10_append_43 ?_
      refine g_aload_n C 0 dX10_append_46 rfl rfl ?_
      refine g_geti (k := 0) C (by decide) kf_X10_126 rfl dX10_append_47 ?_
      refine g_iload_n C 1 dX10_append_50 rfl rfl ?_
      obtain ⟨hi51, hm⟩ := ifn hm
      refine g_iast C (by decide) hi51 dX10_append_51 ?_
      refine g_aload_n C 0 dX10_append_52 rfl rfl ?_
      refine g_dup C dX10_append_53 rfl ?_
      refine g_geti (k := 0) C (by decide) kf_X10_126 rfl dX10_append_54 ?_
      refine g_iconst (v := 1) C dX10_append_57 rfl ?_
      refine g_iadd C dX10_append_58 ?_
      refine g_puti C (by decide) kf_X10_126 rfl rfl rfl dX10_append_59 ?_
      refine g_aload_n C 0 dX10_append_62 rfl rfl ?_
      refine g_geti (k := 0) C (by decide) kf_X10_126 rfl dX10_append_63 ?_
      obtain rfl := Option.some.inj hm
      exact g_iret C dX10_append_66
    · have hm := ife hm h37
      refine g_iconst (v := 0) C dX10_append_40 rfl ?_
      obtain rfl := Option.some.inj hm
      exact g_iret C dX10_append_41
  unfold f_X10_append at hm
  refine g_aload_n C 0 dX10_append_0 rfl rfl ?_
  refine g_iload_n C 1 dX10_append_1 rfl rfl ?_
  refine g_bipush (v := 32) C dX10_append_2 rfl ?_
  refine g_bipush (v := 126) C dX10_append_4 rfl ?_
  obtain ⟨r6, hr6, hm⟩ := bnd_some hm
  refine g_callSi (As := [vI l1, vI (32 : Int32), vI (126 : Int32)]) (rest := [vR 10 0]) C lk_X10_75 (k_X10_within X.2.1 G hl hG fu l1 (32 : Int32) (126 : Int32) M r6  hr6) rfl rfl (Nat.le_of_ble_eq_true rfl) ⟨Nat.le_of_ble_eq_true rfl, Nat.le_of_ble_eq_true rfl⟩ dX10_append_6 ?_
  refine g_if_ne (tgt := 16) C dX10_append_9 (by decide) (fun h9 => ?_) (fun h9 => ?_)
  · have hm := ife hm h9
    refine g_aload_n C 0 dX10_append_16 rfl rfl ?_
    refine g_geti (k := 0) C (by decide) kf_X10_126 rfl dX10_append_17 ?_
    refine g_bipush (v := 60) C dX10_append_20 rfl ?_
    refine g_icmp_ne (tgt := 29) C dX10_append_22 (by decide) (fun h22 => ?_) (fun h22 => ?_)
    · have hm := ife hm h22
      refine g_iconst (v := 0) C dX10_append_29 rfl ?_
      exact g_sub [0, 1] rfl (g_pc rfl (J30 l1 (0 : Int32) r6.2 hm))
    · have hm := ift hm h22
      refine g_iconst (v := 2) C dX10_append_25 rfl ?_
      refine g_goto (tgt := 30) C dX10_append_26 (by decide) ?_
      exact g_sub [0, 1] rfl (g_pc rfl (J30 l1 (2 : Int32) r6.2 hm))
  · have hm := ift hm h9
    refine g_iconst (v := 1) C dX10_append_12 rfl ?_
    refine g_goto (tgt := 30) C dX10_append_13 (by decide) ?_
    exact g_sub [0, 1] rfl (g_pc rfl (J30 l1 (1 : Int32) r6.2 hm))
def f_X10_clearInput (fu : Nat) (M : Mem) : Option (Int32 × Mem) :=
  some ((mI M 10 0 0 (0 : Int32)).1 10 0 11, (mI (mI M 10 0 0 (0 : Int32)) 10 0 11 (0 : Int32)))
set_option maxHeartbeats 4000000 in
set_option maxRecDepth 100000 in
theorem k_X10_clearInput (l : Launch) (G : GE) (hl : l.stackTraces = false) (hG : GOK G) (fu : Nat)  (M : Mem) (res : Int32 × Mem) (hk0 : (10, 0) ∈ gids G) (hm : f_X10_clearInput fu  M = some res) : CT l G yX10_clearInput cX10_clearInput 2 (some .int) 0 [vR 10 0] M (.inl (some (vI res.1))) res.2 := by
  refine ct_of [(0, vR 10 0)] (by decide +kernel) hl hG (Nat.le_of_ble_eq_true rfl) rfl (List.forall_mem_cons.mpr ⟨Or.inl hk0, fun _ h => nomatch h⟩) (List.forall_mem_cons.mpr ⟨Or.inl hk0, fun _ h => nomatch h⟩) (fun X hX C => ?_)
  subst hX
  have Cl := C
  unfold f_X10_clearInput at hm
  refine g_aload_n C 0 dX10_clearInput_0 rfl rfl ?_
  refine g_iconst (v := 0) C dX10_clearInput_1 rfl ?_
  refine g_puti C (by decide) kf_X10_72 rfl rfl rfl dX10_clearInput_2 ?_
  refine g_aload_n C 0 dX10_clearInput_5 rfl rfl ?_
  refine g_geti (k := 0) C (by decide) kf_X10_126 rfl dX10_clearInput_6 ?_
  refine g_istore_n (ls' := [(1, vI ((mI M 10 0 0 (0 : Int32)).1 10 0 11)), (0, vR 10 0)]) C dX10_clearInput_9 rfl (by decide) rfl ?_
  refine g_aload_n C 1 dX10_clearInput_10 rfl rfl ?_
  refine g_iconst (v := 0) C dX10_clearInput_11 rfl ?_
  refine g_puti C (by decide) kf_X10_126 rfl rfl rfl dX10_clearInput_12 ?_
  refine g_iload_n C 0 dX10_clearInput_15 rfl rfl ?_
  obtain rfl := Option.some.inj hm
  exact g_iret C dX10_clearInput_16
def f_X10_takesDigit_j44 (fu : Nat)   (l1 : Int32) (t0 : Int32) (M : Mem) : Option (Int32 × Mem) :=
  if t0 = 0 then if t0 = 0 ∨ t0 = 1 then some (t0, M) else none else if inb ((M.1 10 0 2) + (M.1 10 0 20)) (alen 22 3) then if t0 = 0 ∨ t0 = 1 then some (t0, (mI (mI M 22 3 ((M.1 10 0 2) + (M.1 10 0 20)).toNatClampNeg (l1 - (48 : Int32))) 10 0 19 (1 : Int32))) else none else none
def f_X10_takesDigit_j43 (fu : Nat)   (l1 : Int32) (M : Mem) : Option (Int32 × Mem) :=
  f_X10_takesDigit_j44 fu l1 (0 : Int32) M
def f_X10_takesDigit (fu : Nat) (l1 : Int32) (M : Mem) : Option (Int32 × Mem) :=
  if (M.1 10 0 19) = 0 then if (14 : Int32) ≤ ((M.1 10 0 2) + (M.1 10 0 20)) then f_X10_takesDigit_j43 fu l1 M else (f_X10_within fu l1 (48 : Int32) (((48 : Int32) + (M.1 10 0 1)) - (2 : Int32)) M).bind (fun r33 => if r33.1 = 0 then f_X10_takesDigit_j43 fu l1 r33.2 else f_X10_takesDigit_j44 fu l1 (1 : Int32) r33.2) else if inb ((M.1 10 0 2) + (M.1 10 0 20)) (alen 22 3) then (f_X10_within fu l1 ((49 : Int32) + (M.1 22 3 ((M.1 10 0 2) + (M.1 10 0 20)).toNatClampNeg)) (((48 : Int32) + (M.1 10 0 1)) - (1 : Int32)) M).bind (fun r101 => if r101.1 = 0 then if r101.1 = 0 ∨ r101.1 = 1 then some (r101.1, r101.2) else none else if inb ((r101.2.1 10 0 2) + (r101.2.1 10 0 20)) (alen 22 4) then if r101.1 = 0 ∨ r101.1 = 1 then some (r101.1, (mI (mI (mI r101.2 22 4 ((r101.2.1 10 0 2) + (r101.2.1 10 0 20)).toNatClampNeg (l1 - (48 : Int32))) 10 0 20 (((mI r101.2 22 4 ((r101.2.1 10 0 2) + (r101.2.1 10 0 20)).toNatClampNeg (l1 - (48 : Int32))).1 10 0 20) + (1 : Int32))) 10 0 19 (2 : Int32))) else none else none) else none
set_option maxHeartbeats 4000000 in
set_option maxRecDepth 100000 in
theorem k_X10_takesDigit (l : Launch) (G : GE) (hl : l.stackTraces = false) (hG : GOK G) (fu : Nat) (l1 : Int32) (M : Mem) (res : Int32 × Mem) (hk0 : (10, 0) ∈ gids G) (hm : f_X10_takesDigit fu l1 M = some res) : CT l G yX10_takesDigit cX10_takesDigit 3 (some .boolean) 1 [vR 10 0, vI l1] M (.inl (some (vI res.1))) res.2 := by
  refine ct_of [(0, vR 10 0), (1, vI l1)] (by decide +kernel) hl hG (Nat.le_of_ble_eq_true rfl) rfl (List.forall_mem_cons.mpr ⟨Or.inl hk0, List.forall_mem_cons.mpr ⟨trivial, fun _ h => nomatch h⟩⟩) (List.forall_mem_cons.mpr ⟨Or.inl hk0, List.forall_mem_cons.mpr ⟨trivial, fun _ h => nomatch h⟩⟩) (fun X hX C => ?_)
  subst hX
  have Cl := C
  have J44 : ∀ (l1 : Int32) (t0 : Int32) (M : Mem), f_X10_takesDigit_j44 fu   l1 t0 M = some res → GW G X 3 (QX G X (.inl (some (vI res.1))) res.2) 44 [(0, vR 10 0), (1, vI l1)] [vI t0] M := by
    intro l1 t0 M hm
    unfold f_X10_takesDigit_j44 at hm
    refine g_istore_n (ls' := [(2, vI t0), (0, vR 10 0), (1, vI l1)]) C dX10_takesDigit_44 rfl (by decide) rfl ?_
    refine g_iload_n C 0 dX10_takesDigit_45 rfl rfl ?_
    refine g_if_eq (tgt := 72) C dX10_takesDigit_46 (by decide) (fun h46 => ?_) (fun h46 => ?_)
    · have hm := ift hm h46
      refine g_iload_n C 0 dX10_takesDigit_72 rfl rfl ?_
      obtain ⟨hz73, hm⟩ := ifn hm
      obtain rfl := Option.some.inj hm
      exact g_zret C hz73 dX10_takesDigit_73
    · have hm := ife hm h46
      refine g_aload_n C 1 dX10_takesDigit_49 rfl rfl ?_
      refine g_getr (k := 0) (k' := 3) C (by decide) kf_X10_13 rfl rfl dX10_takesDigit_50 ?_
      refine g_aload_n C 1 dX10_takesDigit_53 rfl rfl ?_
      refine g_geti (k := 0) C (by decide) kf_X10_79 rfl dX10_takesDigit_54 ?_
      refine g_aload_n C 1 dX10_takesDigit_57 rfl rfl ?_
      refine g_geti (k := 0) C (by decide) kf_X10_132 rfl dX10_takesDigit_58 ?_
      refine g_iadd C dX10_takesDigit_61 ?_
      refine g_iload_n C 2 dX10_takesDigit_62 rfl rfl ?_
      refine g_bipush (v := 48) C dX10_takesDigit_63 rfl ?_
      refine g_isub C dX10_takesDigit_65 ?_
      obtain ⟨hi66, hm⟩ := ifn hm
      refine g_iast C (by decide) hi66 dX10_takesDigit_66 ?_
      refine g_aload_n C 1 dX10_takesDigit_67 rfl rfl ?_
      refine g_iconst (v := 1) C dX10_takesDigit_68 rfl ?_
      refine g_puti C (by decide) kf_X10_129 rfl rfl rfl dX10_takesDigit_69 ?_
      refine g_iload_n C 0 dX10_takesDigit_72 rfl rfl ?_
      obtain ⟨hz73, hm⟩ := ifn hm
      obtain rfl := Option.some.inj hm
      exact g_zret C hz73 dX10_takesDigit_73
  have J43 : ∀ (l1 : Int32) (M : Mem), f_X10_takesDigit_j43 fu   l1 M = some res → GW G X 3 (QX G X (.inl (some (vI res.1))) res.2) 43 [(0, vR 10 0), (1, vI l1)] [] M := by
    intro l1 M hm
    unfold f_X10_takesDigit_j43 at hm
    refine g_iconst (v := 0) C dX10_takesDigit_43 rfl ?_
    exact g_sub [0, 1] rfl (g_pc rfl (J44 l1 (0 : Int32) M hm))
  unfold f_X10_takesDigit at hm
  refine g_aload_n C 0 dX10_takesDigit_0 rfl rfl ?_
  refine g_geti (k := 0) C (by decide) kf_X10_129 rfl dX10_takesDigit_1 ?_
  refine g_if_ne (tgt := 74) C dX10_takesDigit_4 (by decide) (fun h4 => ?_) (fun h4 => ?_)
  · have hm := ife hm h4
    refine g_iload_n C 1 dX10_takesDigit_74 rfl rfl ?_
    refine g_bipush (v := 49) C dX10_takesDigit_75 rfl ?_
    refine g_aload_n C 0 dX10_takesDigit_77 rfl rfl ?_
    refine g_getr (k := 0) (k' := 3) C (by decide) kf_X10_13 rfl rfl dX10_takesDigit_78 ?_
    refine g_aload_n C 0 dX10_takesDigit_81 rfl rfl ?_
    refine g_geti (k := 0) C (by decide) kf_X10_79 rfl dX10_takesDigit_82 ?_
    refine g_aload_n C 0 dX10_takesDigit_85 rfl rfl ?_
    refine g_geti (k := 0) C (by decide) kf_X10_132 rfl dX10_takesDigit_86 ?_
    refine g_iadd C dX10_takesDigit_89 ?_
    obtain ⟨hi90, hm⟩ := ifn hm
    refine g_iald C (by decide) hi90 dX10_takesDigit_90 ?_
    refine g_iadd C dX10_takesDigit_91 ?_
    refine g_bipush (v := 48) C dX10_takesDigit_92 rfl ?_
    refine g_aload_n C 0 dX10_takesDigit_94 rfl rfl ?_
    refine g_geti (k := 0) C (by decide) kf_X10_7 rfl dX10_takesDigit_95 ?_
    refine g_iadd C dX10_takesDigit_98 ?_
    refine g_iconst (v := 1) C dX10_takesDigit_99 rfl ?_
    refine g_isub C dX10_takesDigit_100 ?_
    obtain ⟨r101, hr101, hm⟩ := bnd_some hm
    refine g_callSi (As := [vI l1, vI ((49 : Int32) + (M.1 22 3 ((M.1 10 0 2) + (M.1 10 0 20)).toNatClampNeg)), vI (((48 : Int32) + (M.1 10 0 1)) - (1 : Int32))]) (rest := []) C lk_X10_75 (k_X10_within X.2.1 G hl hG fu l1 ((49 : Int32) + (M.1 22 3 ((M.1 10 0 2) + (M.1 10 0 20)).toNatClampNeg)) (((48 : Int32) + (M.1 10 0 1)) - (1 : Int32)) M r101  hr101) rfl rfl (Nat.le_of_ble_eq_true rfl) ⟨Nat.le_of_ble_eq_true rfl, Nat.le_of_ble_eq_true rfl⟩ dX10_takesDigit_101 ?_
    refine g_istore_n (ls' := [(2, vI r101.1), (0, vR 10 0), (1, vI l1)]) C dX10_takesDigit_104 rfl (by decide) rfl ?_
    refine g_iload_n C 0 dX10_takesDigit_105 rfl rfl ?_
    refine g_if_eq (tgt := 142) C dX10_takesDigit_106 (by decide) (fun h106 => ?_) (fun h106 => ?_)
    · have hm := ift hm h106
      refine g_iload_n C 0 dX10_takesDigit_142 rfl rfl ?_
      obtain ⟨hz143, hm⟩ := ifn hm
      obtain rfl := Option.some.inj hm
      exact g_zret C hz143 dX10_takesDigit_143
    · have hm := ife hm h106
      refine g_aload_n C 1 dX10_takesDigit_109 rfl rfl ?_
      refine g_getr (k := 0) (k' := 4) C (by decide) kf_X10_17 rfl rfl dX10_takesDigit_110 ?_
      refine g_aload_n C 1 dX10_takesDigit_113 rfl rfl ?_
      refine g_geti (k := 0) C (by decide) kf_X10_79 rfl dX10_takesDigit_114 ?_
      refine g_aload_n C 1 dX10_takesDigit_117 rfl rfl ?_
      refine g_geti (k := 0) C (by decide) kf_X10_132 rfl dX10_takesDigit_118 ?_
      refine g_iadd C dX10_takesDigit_121 ?_
      refine g_iload_n C 2 dX10_takesDigit_122 rfl rfl ?_
      refine g_bipush (v := 48) C dX10_takesDigit_123 rfl ?_
      refine g_isub C dX10_takesDigit_125 ?_
      obtain ⟨hi126, hm⟩ := ifn hm
      refine g_iast C (by decide) hi126 dX10_takesDigit_126 ?_
      refine g_aload_n C 1 dX10_takesDigit_127 rfl rfl ?_
      refine g_dup C dX10_takesDigit_128 rfl ?_
      refine g_geti (k := 0) C (by decide) kf_X10_132 rfl dX10_takesDigit_129 ?_
      refine g_iconst (v := 1) C dX10_takesDigit_132 rfl ?_
      refine g_iadd C dX10_takesDigit_133 ?_
      refine g_puti C (by decide) kf_X10_132 rfl rfl rfl dX10_takesDigit_134 ?_
      refine g_aload_n C 1 dX10_takesDigit_137 rfl rfl ?_
      refine g_iconst (v := 2) C dX10_takesDigit_138 rfl ?_
      refine g_puti C (by decide) kf_X10_129 rfl rfl rfl dX10_takesDigit_139 ?_
      refine g_iload_n C 0 dX10_takesDigit_142 rfl rfl ?_
      obtain ⟨hz143, hm⟩ := ifn hm
      obtain rfl := Option.some.inj hm
      exact g_zret C hz143 dX10_takesDigit_143
  · have hm := ift hm h4
    refine g_aload_n C 0 dX10_takesDigit_7 rfl rfl ?_
    refine g_geti (k := 0) C (by decide) kf_X10_79 rfl dX10_takesDigit_8 ?_
    refine g_aload_n C 0 dX10_takesDigit_11 rfl rfl ?_
    refine g_geti (k := 0) C (by decide) kf_X10_132 rfl dX10_takesDigit_12 ?_
    refine g_iadd C dX10_takesDigit_15 ?_
    refine g_bipush (v := 14) C dX10_takesDigit_16 rfl ?_
    refine g_icmp_ge (tgt := 43) C dX10_takesDigit_18 (by decide) (fun h18 => ?_) (fun h18 => ?_)
    · have hm := ift hm h18
      exact g_sub [0, 1] rfl (g_pc rfl (J43 l1 M hm))
    · have hm := ife hm h18
      refine g_iload_n C 1 dX10_takesDigit_21 rfl rfl ?_
      refine g_bipush (v := 48) C dX10_takesDigit_22 rfl ?_
      refine g_bipush (v := 48) C dX10_takesDigit_24 rfl ?_
      refine g_aload_n C 0 dX10_takesDigit_26 rfl rfl ?_
      refine g_geti (k := 0) C (by decide) kf_X10_7 rfl dX10_takesDigit_27 ?_
      refine g_iadd C dX10_takesDigit_30 ?_
      refine g_iconst (v := 2) C dX10_takesDigit_31 rfl ?_
      refine g_isub C dX10_takesDigit_32 ?_
      obtain ⟨r33, hr33, hm⟩ := bnd_some hm
      refine g_callSi (As := [vI l1, vI (48 : Int32), vI (((48 : Int32) + (M.1 10 0 1)) - (2 : Int32))]) (rest := []) C lk_X10_75 (k_X10_within X.2.1 G hl hG fu l1 (48 : Int32) (((48 : Int32) + (M.1 10 0 1)) - (2 : Int32)) M r33  hr33) rfl rfl (Nat.le_of_ble_eq_true rfl) ⟨Nat.le_of_ble_eq_true rfl, Nat.le_of_ble_eq_true rfl⟩ dX10_takesDigit_33 ?_
      refine g_if_eq (tgt := 43) C dX10_takesDigit_36 (by decide) (fun h36 => ?_) (fun h36 => ?_)
      · have hm := ift hm h36
        exact g_sub [0, 1] rfl (g_pc rfl (J43 l1 r33.2 hm))
      · have hm := ife hm h36
        refine g_iconst (v := 1) C dX10_takesDigit_39 rfl ?_
        refine g_goto (tgt := 44) C dX10_takesDigit_40 (by decide) ?_
        exact g_sub [0, 1] rfl (g_pc rfl (J44 l1 (1 : Int32) r33.2 hm))
def f_X10_putLetter (fu : Nat) (l1 : Int32) (l2 : Int32) (M : Mem) : Option (Mem) :=
  if inb (((2 : Int32) * ((M.1 10 0 7) + (M.1 10 0 21))) + l1) (alen 22 9) then if inb (((7 : Int32) * (((2 : Int32) * ((M.1 10 0 7) + (M.1 10 0 21))) + l1)) + (M.1 22 9 (((2 : Int32) * ((M.1 10 0 7) + (M.1 10 0 21))) + l1).toNatClampNeg)) (alen 22 10) then if inb (((2 : Int32) * ((M.1 10 0 7) + (M.1 10 0 21))) + l1) (alen 22 9) then if inb (((2 : Int32) * ((M.1 10 0 7) + (M.1 10 0 21))) + l1) (alen 22 9) then if inb l2 (alen 22 4) then some (mI (mI (mI M 22 10 (((7 : Int32) * (((2 : Int32) * ((M.1 10 0 7) + (M.1 10 0 21))) + l1)) + (M.1 22 9 (((2 : Int32) * ((M.1 10 0 7) + (M.1 10 0 21))) + l1).toNatClampNeg)).toNatClampNeg l2) 22 9 (((2 : Int32) * ((M.1 10 0 7) + (M.1 10 0 21))) + l1).toNatClampNeg (((mI M 22 10 (((7 : Int32) * (((2 : Int32) * ((M.1 10 0 7) + (M.1 10 0 21))) + l1)) + (M.1 22 9 (((2 : Int32) * ((M.1 10 0 7) + (M.1 10 0 21))) + l1).toNatClampNeg)).toNatClampNeg l2).1 22 9 (((2 : Int32) * ((M.1 10 0 7) + (M.1 10 0 21))) + l1).toNatClampNeg) + (1 : Int32))) 10 0 23 ((mI (mI M 22 10 (((7 : Int32) * (((2 : Int32) * ((M.1 10 0 7) + (M.1 10 0 21))) + l1)) + (M.1 22 9 (((2 : Int32) * ((M.1 10 0 7) + (M.1 10 0 21))) + l1).toNatClampNeg)).toNatClampNeg l2) 22 9 (((2 : Int32) * ((M.1 10 0 7) + (M.1 10 0 21))) + l1).toNatClampNeg (((mI M 22 10 (((7 : Int32) * (((2 : Int32) * ((M.1 10 0 7) + (M.1 10 0 21))) + l1)) + (M.1 22 9 (((2 : Int32) * ((M.1 10 0 7) + (M.1 10 0 21))) + l1).toNatClampNeg)).toNatClampNeg l2).1 22 9 (((2 : Int32) * ((M.1 10 0 7) + (M.1 10 0 21))) + l1).toNatClampNeg) + (1 : Int32))).1 22 4 l2.toNatClampNeg)) else none else none else none else none else none
set_option maxHeartbeats 4000000 in
set_option maxRecDepth 100000 in
theorem k_X10_putLetter (l : Launch) (G : GE) (hl : l.stackTraces = false) (hG : GOK G) (fu : Nat) (l1 : Int32) (l2 : Int32) (M : Mem) (res : Mem) (hk0 : (10, 0) ∈ gids G) (hm : f_X10_putLetter fu l1 l2 M = some res) : CT l G yX10_putLetter cX10_putLetter 4 none 0 [vR 10 0, vI l1, vI l2] M (.inl none) res := by
  refine ct_of [(0, vR 10 0), (1, vI l1), (2, vI l2)] (by decide +kernel) hl hG (Nat.le_of_ble_eq_true rfl) rfl (List.forall_mem_cons.mpr ⟨Or.inl hk0, List.forall_mem_cons.mpr ⟨trivial, List.forall_mem_cons.mpr ⟨trivial, fun _ h => nomatch h⟩⟩⟩) (List.forall_mem_cons.mpr ⟨Or.inl hk0, List.forall_mem_cons.mpr ⟨trivial, List.forall_mem_cons.mpr ⟨trivial, fun _ h => nomatch h⟩⟩⟩) (fun X hX C => ?_)
  subst hX
  have Cl := C
  unfold f_X10_putLetter at hm
  refine g_iconst (v := 2) C dX10_putLetter_0 rfl ?_
  refine g_aload_n C 0 dX10_putLetter_1 rfl rfl ?_
  refine g_geti (k := 0) C (by decide) kf_X10_82 rfl dX10_putLetter_2 ?_
  refine g_aload_n C 0 dX10_putLetter_5 rfl rfl ?_
  refine g_geti (k := 0) C (by decide) kf_X10_135 rfl dX10_putLetter_6 ?_
  refine g_iadd C dX10_putLetter_9 ?_
  refine g_imul C dX10_putLetter_10 ?_
  refine g_iload_n C 1 dX10_putLetter_11 rfl rfl ?_
  refine g_iadd C dX10_putLetter_12 ?_
  refine g_istore_n (ls' := [(3, vI (((2 : Int32) * ((M.1 10 0 7) + (M.1 10 0 21))) + l1)), (0, vR 10 0), (1, vI l1), (2, vI l2)]) C dX10_putLetter_13 rfl (by decide) rfl ?_
  refine g_aload_n C 1 dX10_putLetter_14 rfl rfl ?_
  refine g_getr (k := 0) (k' := 10) C (by decide) kf_X10_32 rfl rfl dX10_putLetter_15 ?_
  refine g_bipush (v := 7) C dX10_putLetter_18 rfl ?_
  refine g_iload_n C 0 dX10_putLetter_20 rfl rfl ?_
  refine g_imul C dX10_putLetter_21 ?_
  refine g_aload_n C 1 dX10_putLetter_22 rfl rfl ?_
  refine g_getr (k := 0) (k' := 9) C (by decide) kf_X10_29 rfl rfl dX10_putLetter_23 ?_
  refine g_iload_n C 0 dX10_putLetter_26 rfl rfl ?_
  obtain ⟨hi27, hm⟩ := ifn hm
  refine g_iald C (by decide) hi27 dX10_putLetter_27 ?_
  refine g_iadd C dX10_putLetter_28 ?_
  refine g_iload_n C 3 dX10_putLetter_29 rfl rfl ?_
  obtain ⟨hi30, hm⟩ := ifn hm
  refine g_iast C (by decide) hi30 dX10_putLetter_30 ?_
  refine g_aload_n C 1 dX10_putLetter_31 rfl rfl ?_
  refine g_getr (k := 0) (k' := 9) C (by decide) kf_X10_29 rfl rfl dX10_putLetter_32 ?_
  refine g_iload_n C 0 dX10_putLetter_35 rfl rfl ?_
  refine g_dup2 C dX10_putLetter_36 rfl rfl ?_
  obtain ⟨hi37, hm⟩ := ifn hm
  refine g_iald C (by decide) hi37 dX10_putLetter_37 ?_
  refine g_iconst (v := 1) C dX10_putLetter_38 rfl ?_
  refine g_iadd C dX10_putLetter_39 ?_
  obtain ⟨hi40, hm⟩ := ifn hm
  refine g_iast C (by decide) hi40 dX10_putLetter_40 ?_
  refine g_aload_n C 1 dX10_putLetter_41 rfl rfl ?_
  refine g_aload_n C 1 dX10_putLetter_42 rfl rfl ?_
  refine g_getr (k := 0) (k' := 4) C (by decide) kf_X10_17 rfl rfl dX10_putLetter_43 ?_
  refine g_iload_n C 3 dX10_putLetter_46 rfl rfl ?_
  obtain ⟨hi47, hm⟩ := ifn hm
  refine g_iald C (by decide) hi47 dX10_putLetter_47 ?_
  refine g_puti C (by decide) kf_X10_138 rfl rfl rfl dX10_putLetter_48 ?_
  obtain rfl := Option.some.inj hm
  exact g_vret C dX10_putLetter_51
def f_X10_takesLetter_j213 (fu : Nat)   (l3 : Int32) (t1 : Int32) (M : Mem) : Option (Int32 × Mem) :=
  if l3 = 0 ∨ l3 = 1 then some (l3, (mI M 10 0 19 t1)) else none
def f_X10_takesLetter_j192 (fu : Nat)   (l2 : Int32) (l3 : Int32) (t1 : Int32) (M : Mem) : Option (Int32 × Mem) :=
  (f_X10_putLetter fu t1 l2 M).bind (fun r193 => if (r193.1 10 0 19) = (4 : Int32) then f_X10_takesLetter_j213 fu l3 (5 : Int32) r193 else f_X10_takesLetter_j213 fu l3 (r193.1 10 0 19) r193)
def f_X10_takesLetter_j173 (fu : Nat)   (l2 : Int32) (t0 : Int32) (M : Mem) : Option (Int32 × Mem) :=
  if t0 = 0 then if t0 = 0 ∨ t0 = 1 then some (t0, M) else none else if (M.1 10 0 19) = (3 : Int32) then f_X10_takesLetter_j192 fu l2 t0 (0 : Int32) M else f_X10_takesLetter_j192 fu l2 t0 (1 : Int32) M
def f_X10_takesLetter_j172 (fu : Nat)   (l2 : Int32) (M : Mem) : Option (Int32 × Mem) :=
  f_X10_takesLetter_j173 fu l2 (0 : Int32) M
def f_X10_takesLetter_j165 (fu : Nat)   (l2 : Int32) (t0 : Int32) (t1 : Int32) (M : Mem) : Option (Int32 × Mem) :=
  if t0 = t1 then f_X10_takesLetter_j173 fu l2 (1 : Int32) M else f_X10_takesLetter_j172 fu l2 M
def f_X10_takesLetter_j52 (fu : Nat)   (l2 : Int32) (t0 : Int32) (M : Mem) : Option (Int32 × Mem) :=
  if t0 = 0 then if t0 = 0 ∨ t0 = 1 then some (t0, M) else none else if inb l2 (alen 22 3) then if inb ((M.1 10 0 7) + (M.1 10 0 21)) (alen 22 8) then if inb ((2 : Int32) * (((mI M 22 8 ((M.1 10 0 7) + (M.1 10 0 21)).toNatClampNeg (M.1 22 3 l2.toNatClampNeg)).1 10 0 7) + ((mI M 22 8 ((M.1 10 0 7) + (M.1 10 0 21)).toNatClampNeg (M.1 22 3 l2.toNatClampNeg)).1 10 0 21))) (alen 22 9) then if inb (((2 : Int32) * (((mI (mI M 22 8 ((M.1 10 0 7) + (M.1 10 0 21)).toNatClampNeg (M.1 22 3 l2.toNatClampNeg)) 22 9 ((2 : Int32) * (((mI M 22 8 ((M.1 10 0 7) + (M.1 10 0 21)).toNatClampNeg (M.1 22 3 l2.toNatClampNeg)).1 10 0 7) + ((mI M 22 8 ((M.1 10 0 7) + (M.1 10 0 21)).toNatClampNeg (M.1 22 3 l2.toNatClampNeg)).1 10 0 21))).toNatClampNeg (0 : Int32)).1 10 0 7) + ((mI (mI M 22 8 ((M.1 10 0 7) + (M.1 10 0 21)).toNatClampNeg (M.1 22 3 l2.toNatClampNeg)) 22 9 ((2 : Int32) * (((mI M 22 8 ((M.1 10 0 7) + (M.1 10 0 21)).toNatClampNeg (M.1 22 3 l2.toNatClampNeg)).1 10 0 7) + ((mI M 22 8 ((M.1 10 0 7) + (M.1 10 0 21)).toNatClampNeg (M.1 22 3 l2.toNatClampNeg)).1 10 0 21))).toNatClampNeg (0 : Int32)).1 10 0 21))) + (1 : Int32)) (alen 22 9) then (f_X10_putLetter fu (0 : Int32) l2 (mI (mI (mI M 22 8 ((M.1 10 0 7) + (M.1 10 0 21)).toNatClampNeg (M.1 22 3 l2.toNatClampNeg)) 22 9 ((2 : Int32) * (((mI M 22 8 ((M.1 10 0 7) + (M.1 10 0 21)).toNatClampNeg (M.1 22 3 l2.toNatClampNeg)).1 10 0 7) + ((mI M 22 8 ((M.1 10 0 7) + (M.1 10 0 21)).toNatClampNeg (M.1 22 3 l2.toNatClampNeg)).1 10 0 21))).toNatClampNeg (0 : Int32)) 22 9 (((2 : Int32) * (((mI (mI M 22 8 ((M.1 10 0 7) + (M.1 10 0 21)).toNatClampNeg (M.1 22 3 l2.toNatClampNeg)) 22 9 ((2 : Int32) * (((mI M 22 8 ((M.1 10 0 7) + (M.1 10 0 21)).toNatClampNeg (M.1 22 3 l2.toNatClampNeg)).1 10 0 7) + ((mI M 22 8 ((M.1 10 0 7) + (M.1 10 0 21)).toNatClampNeg (M.1 22 3 l2.toNatClampNeg)).1 10 0 21))).toNatClampNeg (0 : Int32)).1 10 0 7) + ((mI (mI M 22 8 ((M.1 10 0 7) + (M.1 10 0 21)).toNatClampNeg (M.1 22 3 l2.toNatClampNeg)) 22 9 ((2 : Int32) * (((mI M 22 8 ((M.1 10 0 7) + (M.1 10 0 21)).toNatClampNeg (M.1 22 3 l2.toNatClampNeg)).1 10 0 7) + ((mI M 22 8 ((M.1 10 0 7) + (M.1 10 0 21)).toNatClampNeg (M.1 22 3 l2.toNatClampNeg)).1 10 0 21))).toNatClampNeg (0 : Int32)).1 10 0 21))) + (1 : Int32)).toNatClampNeg (0 : Int32))).bind (fun r116 => if t0 = 0 ∨ t0 = 1 then some (t0, (mI r116 10 0 19 (3 : Int32))) else none) else none else none else none else none
def f_X10_takesLetter_j51 (fu : Nat)   (l2 : Int32) (M : Mem) : Option (Int32 × Mem) :=
  f_X10_takesLetter_j52 fu l2 (0 : Int32) M
def f_X10_takesLetter (fu : Nat) (l1 : Int32) (M : Mem) : Option (Int32 × Mem) :=
  (f_X10_within fu (l1 - (97 : Int32)) (0 : Int32) (((M.1 10 0 2) + (M.1 10 0 20)) - (1 : Int32)) M).bind (fun r18 => if (r18.2.1 10 0 19) = 0 then if r18.1 = 0 then f_X10_takesLetter_j51 fu (l1 - (97 : Int32)) r18.2 else if (10 : Int32) ≤ ((r18.2.1 10 0 7) + (r18.2.1 10 0 21)) then f_X10_takesLetter_j51 fu (l1 - (97 : Int32)) r18.2 else f_X10_takesLetter_j52 fu (l1 - (97 : Int32)) (1 : Int32) r18.2 else if r18.1 = 0 then f_X10_takesLetter_j172 fu (l1 - (97 : Int32)) r18.2 else if inb (l1 - (97 : Int32)) (alen 22 3) then if (r18.2.1 10 0 19) = (4 : Int32) then if inb ((r18.2.1 10 0 7) + (r18.2.1 10 0 21)) (alen 22 8) then f_X10_takesLetter_j165 fu (l1 - (97 : Int32)) (r18.2.1 22 3 (l1 - (97 : Int32)).toNatClampNeg) (r18.2.1 22 8 ((r18.2.1 10 0 7) + (r18.2.1 10 0 21)).toNatClampNeg) r18.2 else none else f_X10_takesLetter_j165 fu (l1 - (97 : Int32)) (r18.2.1 22 3 (l1 - (97 : Int32)).toNatClampNeg) (r18.2.1 10 0 23) r18.2 else none)
set_option maxHeartbeats 4000000 in
set_option maxRecDepth 100000 in
theorem k_X10_takesLetter (l : Launch) (G : GE) (hl : l.stackTraces = false) (hG : GOK G) (fu : Nat) (l1 : Int32) (M : Mem) (res : Int32 × Mem) (hk0 : (10, 0) ∈ gids G) (hm : f_X10_takesLetter fu l1 M = some res) : CT l G yX10_takesLetter cX10_takesLetter 4 (some .boolean) 1 [vR 10 0, vI l1] M (.inl (some (vI res.1))) res.2 := by
  refine ct_of [(0, vR 10 0), (1, vI l1)] (by decide +kernel) hl hG (Nat.le_of_ble_eq_true rfl) rfl (List.forall_mem_cons.mpr ⟨Or.inl hk0, List.forall_mem_cons.mpr ⟨trivial, fun _ h => nomatch h⟩⟩) (List.forall_mem_cons.mpr ⟨Or.inl hk0, List.forall_mem_cons.mpr ⟨trivial, fun _ h => nomatch h⟩⟩) (fun X hX C => ?_)
  subst hX
  have Cl := C
  have J213 : ∀ (l3 : Int32) (t1 : Int32) (M : Mem), f_X10_takesLetter_j213 fu   l3 t1 M = some res → GW G X 4 (QX G X (.inl (some (vI res.1))) res.2) 213 [(3, vI l3)] [vI t1, vR 10 0] M := by
    intro l3 t1 M hm
    unfold f_X10_takesLetter_j213 at hm
    refine g_puti C (by decide) kf_X10_129 rfl rfl rfl dX10_takesLetter_213 ?_
    refine g_iload_n C 0 dX10_takesLetter_216 rfl rfl ?_
    obtain ⟨hz217, hm⟩ := ifn hm
    obtain rfl := Option.some.inj hm
    exact g_zret C hz217 dX10_takesLetter_217
  have J192 : ∀ (l2 : Int32) (l3 : Int32) (t1 : Int32) (M : Mem), f_X10_takesLetter_j192 fu   l2 l3 t1 M = some res → GW G X 4 (QX G X (.inl (some (vI res.1))) res.2) 192 [(0, vR 10 0), (2, vI l2), (3, vI l3)] [vI t1, vR 10 0] M := by
    intro l2 l3 t1 M hm
    unfold f_X10_takesLetter_j192 at hm
    refine g_iload_n C 1 dX10_takesLetter_192 rfl rfl ?_
    obtain ⟨r193, hr193, hm⟩ := bnd_some hm
    refine g_callVv (As := [vI t1, vI l2]) (rest := []) C lk_X10_141 (k_X10_putLetter X.2.1 G hl hG fu t1 l2 M r193 hk0 hr193) (by decide) rfl rfl rfl (Nat.le_of_ble_eq_true rfl) ⟨Nat.le_of_ble_eq_true rfl, Nat.le_of_ble_eq_true rfl⟩ dX10_takesLetter_193 ?_
    refine g_aload_n C 0 dX10_takesLetter_196 rfl rfl ?_
    refine g_aload_n C 0 dX10_takesLetter_197 rfl rfl ?_
    refine g_geti (k := 0) C (by decide) kf_X10_129 rfl dX10_takesLetter_198 ?_
    refine g_iconst (v := 4) C dX10_takesLetter_201 rfl ?_
    refine g_icmp_ne (tgt := 209) C dX10_takesLetter_202 (by decide) (fun h202 => ?_) (fun h202 => ?_)
    · have hm := ife hm h202
      refine g_aload_n C 0 dX10_takesLetter_209 rfl rfl ?_
      refine g_geti (k := 0) C (by decide) kf_X10_129 rfl dX10_takesLetter_210 ?_
      exact g_sub [2] rfl (g_pc rfl (J213 l3 (r193.1 10 0 19) r193 hm))
    · have hm := ift hm h202
      refine g_iconst (v := 5) C dX10_takesLetter_205 rfl ?_
      refine g_goto (tgt := 213) C dX10_takesLetter_206 (by decide) ?_
      exact g_sub [2] rfl (g_pc rfl (J213 l3 (5 : Int32) r193 hm))
  have J173 : ∀ (l2 : Int32) (t0 : Int32) (M : Mem), f_X10_takesLetter_j173 fu   l2 t0 M = some res → GW G X 4 (QX G X (.inl (some (vI res.1))) res.2) 173 [(0, vR 10 0), (2, vI l2)] [vI t0] M := by
    intro l2 t0 M hm
    unfold f_X10_takesLetter_j173 at hm
    refine g_istore_n (ls' := [(3, vI t0), (0, vR 10 0), (2, vI l2)]) C dX10_takesLetter_173 rfl (by decide) rfl ?_
    refine g_iload_n C 0 dX10_takesLetter_174 rfl rfl ?_
    refine g_if_eq (tgt := 216) C dX10_takesLetter_175 (by decide) (fun h175 => ?_) (fun h175 => ?_)
    · have hm := ift hm h175
      refine g_iload_n C 0 dX10_takesLetter_216 rfl rfl ?_
      obtain ⟨hz217, hm⟩ := ifn hm
      obtain rfl := Option.some.inj hm
      exact g_zret C hz217 dX10_takesLetter_217
    · have hm := ife hm h175
      refine g_aload_n C 1 dX10_takesLetter_178 rfl rfl ?_
      refine g_aload_n C 1 dX10_takesLetter_179 rfl rfl ?_
      refine g_geti (k := 0) C (by decide) kf_X10_129 rfl dX10_takesLetter_180 ?_
      refine g_iconst (v := 3) C dX10_takesLetter_183 rfl ?_
      refine g_icmp_ne (tgt := 191) C dX10_takesLetter_184 (by decide) (fun h184 => ?_) (fun h184 => ?_)
      · have hm := ife hm h184
        refine g_iconst (v := 1) C dX10_takesLetter_191 rfl ?_
        exact g_sub [1, 2, 0] rfl (g_pc rfl (J192 l2 t0 (1 : Int32) M hm))
      · have hm := ift hm h184
        refine g_iconst (v := 0) C dX10_takesLetter_187 rfl ?_
        refine g_goto (tgt := 192) C dX10_takesLetter_188 (by decide) ?_
        exact g_sub [1, 2, 0] rfl (g_pc rfl (J192 l2 t0 (0 : Int32) M hm))
  have J172 : ∀ (l2 : Int32) (M : Mem), f_X10_takesLetter_j172 fu   l2 M = some res → GW G X 4 (QX G X (.inl (some (vI res.1))) res.2) 172 [(0, vR 10 0), (2, vI l2)] [] M := by
    intro l2 M hm
    unfold f_X10_takesLetter_j172 at hm
    refine g_iconst (v := 0) C dX10_takesLetter_172 rfl ?_
    exact g_sub [0, 1] rfl (g_pc rfl (J173 l2 (0 : Int32) M hm))
  have J165 : ∀ (l2 : Int32) (t0 : Int32) (t1 : Int32) (M : Mem), f_X10_takesLetter_j165 fu   l2 t0 t1 M = some res → GW G X 4 (QX G X (.inl (some (vI res.1))) res.2) 165 [(0, vR 10 0), (2, vI l2)] [vI t1, vI t0] M := by
    intro l2 t0 t1 M hm
    unfold f_X10_takesLetter_j165 at hm
    refine g_icmp_ne (tgt := 172) C dX10_takesLetter_165 (by decide) (fun h165 => ?_) (fun h165 => ?_)
    · have hm := ife hm h165
      exact g_sub [0, 1] rfl (g_pc rfl (J172 l2 M hm))
    · have hm := ift hm h165
      refine g_iconst (v := 1) C dX10_takesLetter_168 rfl ?_
      refine g_goto (tgt := 173) C dX10_takesLetter_169 (by decide) ?_
      exact g_sub [0, 1] rfl (g_pc rfl (J173 l2 (1 : Int32) M hm))
  have J52 : ∀ (l2 : Int32) (t0 : Int32) (M : Mem), f_X10_takesLetter_j52 fu   l2 t0 M = some res → GW G X 4 (QX G X (.inl (some (vI res.1))) res.2) 52 [(0, vR 10 0), (2, vI l2)] [vI t0] M := by
    intro l2 t0 M hm
    unfold f_X10_takesLetter_j52 at hm
    refine g_istore_n (ls' := [(3, vI t0), (0, vR 10 0), (2, vI l2)]) C dX10_takesLetter_52 rfl (by decide) rfl ?_
    refine g_iload_n C 0 dX10_takesLetter_53 rfl rfl ?_
    refine g_if_eq (tgt := 124) C dX10_takesLetter_54 (by decide) (fun h54 => ?_) (fun h54 => ?_)
    · have hm := ift hm h54
      refine g_iload_n C 0 dX10_takesLetter_124 rfl rfl ?_
      obtain ⟨hz125, hm⟩ := ifn hm
      obtain rfl := Option.some.inj hm
      exact g_zret C hz125 dX10_takesLetter_125
    · have hm := ife hm h54
      refine g_aload_n C 1 dX10_takesLetter_57 rfl rfl ?_
      refine g_getr (k := 0) (k' := 8) C (by decide) kf_X10_26 rfl rfl dX10_takesLetter_58 ?_
      refine g_aload_n C 1 dX10_takesLetter_61 rfl rfl ?_
      refine g_geti (k := 0) C (by decide) kf_X10_82 rfl dX10_takesLetter_62 ?_
      refine g_aload_n C 1 dX10_takesLetter_65 rfl rfl ?_
      refine g_geti (k := 0) C (by decide) kf_X10_135 rfl dX10_takesLetter_66 ?_
      refine g_iadd C dX10_takesLetter_69 ?_
      refine g_aload_n C 1 dX10_takesLetter_70 rfl rfl ?_
      refine g_getr (k := 0) (k' := 3) C (by decide) kf_X10_13 rfl rfl dX10_takesLetter_71 ?_
      refine g_iload_n C 2 dX10_takesLetter_74 rfl rfl ?_
      obtain ⟨hi75, hm⟩ := ifn hm
      refine g_iald C (by decide) hi75 dX10_takesLetter_75 ?_
      obtain ⟨hi76, hm⟩ := ifn hm
      refine g_iast C (by decide) hi76 dX10_takesLetter_76 ?_
      refine g_aload_n C 1 dX10_takesLetter_77 rfl rfl ?_
      refine g_getr (k := 0) (k' := 9) C (by decide) kf_X10_29 rfl rfl dX10_takesLetter_78 ?_
      refine g_iconst (v := 2) C dX10_takesLetter_81 rfl ?_
      refine g_aload_n C 1 dX10_takesLetter_82 rfl rfl ?_
      refine g_geti (k := 0) C (by decide) kf_X10_82 rfl dX10_takesLetter_83 ?_
      refine g_aload_n C 1 dX10_takesLetter_86 rfl rfl ?_
      refine g_geti (k := 0) C (by decide) kf_X10_135 rfl dX10_takesLetter_87 ?_
      refine g_iadd C dX10_takesLetter_90 ?_
      refine g_imul C dX10_takesLetter_91 ?_
      refine g_iconst (v := 0) C dX10_takesLetter_92 rfl ?_
      obtain ⟨hi93, hm⟩ := ifn hm
      refine g_iast C (by decide) hi93 dX10_takesLetter_93 ?_
      refine g_aload_n C 1 dX10_takesLetter_94 rfl rfl ?_
      refine g_getr (k := 0) (k' := 9) C (by decide) kf_X10_29 rfl rfl dX10_takesLetter_95 ?_
      refine g_iconst (v := 2) C dX10_takesLetter_98 rfl ?_
      refine g_aload_n C 1 dX10_takesLetter_99 rfl rfl ?_
      refine g_geti (k := 0) C (by decide) kf_X10_82 rfl dX10_takesLetter_100 ?_
      refine g_aload_n C 1 dX10_takesLetter_103 rfl rfl ?_
      refine g_geti (k := 0) C (by decide) kf_X10_135 rfl dX10_takesLetter_104 ?_
      refine g_iadd C dX10_takesLetter_107 ?_
      refine g_imul C dX10_takesLetter_108 ?_
      refine g_iconst (v := 1) C dX10_takesLetter_109 rfl ?_
      refine g_iadd C dX10_takesLetter_110 ?_
      refine g_iconst (v := 0) C dX10_takesLetter_111 rfl ?_
      obtain ⟨hi112, hm⟩ := ifn hm
      refine g_iast C (by decide) hi112 dX10_takesLetter_112 ?_
      refine g_aload_n C 1 dX10_takesLetter_113 rfl rfl ?_
      refine g_iconst (v := 0) C dX10_takesLetter_114 rfl ?_
      refine g_iload_n C 2 dX10_takesLetter_115 rfl rfl ?_
      obtain ⟨r116, hr116, hm⟩ := bnd_some hm
      refine g_callVv (As := [vI (0 : Int32), vI l2]) (rest := []) C lk_X10_141 (k_X10_putLetter X.2.1 G hl hG fu (0 : Int32) l2 (mI (mI (mI M 22 8 ((M.1 10 0 7) + (M.1 10 0 21)).toNatClampNeg (M.1 22 3 l2.toNatClampNeg)) 22 9 ((2 : Int32) * (((mI M 22 8 ((M.1 10 0 7) + (M.1 10 0 21)).toNatClampNeg (M.1 22 3 l2.toNatClampNeg)).1 10 0 7) + ((mI M 22 8 ((M.1 10 0 7) + (M.1 10 0 21)).toNatClampNeg (M.1 22 3 l2.toNatClampNeg)).1 10 0 21))).toNatClampNeg (0 : Int32)) 22 9 (((2 : Int32) * (((mI (mI M 22 8 ((M.1 10 0 7) + (M.1 10 0 21)).toNatClampNeg (M.1 22 3 l2.toNatClampNeg)) 22 9 ((2 : Int32) * (((mI M 22 8 ((M.1 10 0 7) + (M.1 10 0 21)).toNatClampNeg (M.1 22 3 l2.toNatClampNeg)).1 10 0 7) + ((mI M 22 8 ((M.1 10 0 7) + (M.1 10 0 21)).toNatClampNeg (M.1 22 3 l2.toNatClampNeg)).1 10 0 21))).toNatClampNeg (0 : Int32)).1 10 0 7) + ((mI (mI M 22 8 ((M.1 10 0 7) + (M.1 10 0 21)).toNatClampNeg (M.1 22 3 l2.toNatClampNeg)) 22 9 ((2 : Int32) * (((mI M 22 8 ((M.1 10 0 7) + (M.1 10 0 21)).toNatClampNeg (M.1 22 3 l2.toNatClampNeg)).1 10 0 7) + ((mI M 22 8 ((M.1 10 0 7) + (M.1 10 0 21)).toNatClampNeg (M.1 22 3 l2.toNatClampNeg)).1 10 0 21))).toNatClampNeg (0 : Int32)).1 10 0 21))) + (1 : Int32)).toNatClampNeg (0 : Int32)) r116 hk0 hr116) (by decide) rfl rfl rfl (Nat.le_of_ble_eq_true rfl) ⟨Nat.le_of_ble_eq_true rfl, Nat.le_of_ble_eq_true rfl⟩ dX10_takesLetter_116 ?_
      refine g_aload_n C 1 dX10_takesLetter_119 rfl rfl ?_
      refine g_iconst (v := 3) C dX10_takesLetter_120 rfl ?_
      refine g_puti C (by decide) kf_X10_129 rfl rfl rfl dX10_takesLetter_121 ?_
      refine g_iload_n C 0 dX10_takesLetter_124 rfl rfl ?_
      obtain ⟨hz125, hm⟩ := ifn hm
      obtain rfl := Option.some.inj hm
      exact g_zret C hz125 dX10_takesLetter_125
  have J51 : ∀ (l2 : Int32) (M : Mem), f_X10_takesLetter_j51 fu   l2 M = some res → GW G X 4 (QX G X (.inl (some (vI res.1))) res.2) 51 [(0, vR 10 0), (2, vI l2)] [] M := by
    intro l2 M hm
    unfold f_X10_takesLetter_j51 at hm
    refine g_iconst (v := 0) C dX10_takesLetter_51 rfl ?_
    exact g_sub [0, 1] rfl (g_pc rfl (J52 l2 (0 : Int32) M hm))
  unfold f_X10_takesLetter at hm
  refine g_iload_n C 1 dX10_takesLetter_0 rfl rfl ?_
  refine g_bipush (v := 97) C dX10_takesLetter_1 rfl ?_
  refine g_isub C dX10_takesLetter_3 ?_
  refine g_istore_n (ls' := [(2, vI (l1 - (97 : Int32))), (0, vR 10 0), (1, vI l1)]) C dX10_takesLetter_4 rfl (by decide) rfl ?_
  refine g_iload_n C 0 dX10_takesLetter_5 rfl rfl ?_
  refine g_iconst (v := 0) C dX10_takesLetter_6 rfl ?_
  refine g_aload_n C 1 dX10_takesLetter_7 rfl rfl ?_
  refine g_geti (k := 0) C (by decide) kf_X10_79 rfl dX10_takesLetter_8 ?_
  refine g_aload_n C 1 dX10_takesLetter_11 rfl rfl ?_
  refine g_geti (k := 0) C (by decide) kf_X10_132 rfl dX10_takesLetter_12 ?_
  refine g_iadd C dX10_takesLetter_15 ?_
  refine g_iconst (v := 1) C dX10_takesLetter_16 rfl ?_
  refine g_isub C dX10_takesLetter_17 ?_
  obtain ⟨r18, hr18, hm⟩ := bnd_some hm
  refine g_callSi (As := [vI (l1 - (97 : Int32)), vI (0 : Int32), vI (((M.1 10 0 2) + (M.1 10 0 20)) - (1 : Int32))]) (rest := []) C lk_X10_75 (k_X10_within X.2.1 G hl hG fu (l1 - (97 : Int32)) (0 : Int32) (((M.1 10 0 2) + (M.1 10 0 20)) - (1 : Int32)) M r18  hr18) rfl rfl (Nat.le_of_ble_eq_true rfl) ⟨Nat.le_of_ble_eq_true rfl, Nat.le_of_ble_eq_true rfl⟩ dX10_takesLetter_18 ?_
  refine g_istore_n (ls' := [(3, vI r18.1), (2, vI (l1 - (97 : Int32))), (0, vR 10 0), (1, vI l1)]) C dX10_takesLetter_21 rfl (by decide) rfl ?_
  refine g_aload_n C 2 dX10_takesLetter_22 rfl rfl ?_
  refine g_geti (k := 0) C (by decide) kf_X10_129 rfl dX10_takesLetter_23 ?_
  refine g_if_ne (tgt := 126) C dX10_takesLetter_26 (by decide) (fun h26 => ?_) (fun h26 => ?_)
  · have hm := ife hm h26
    refine g_iload_n C 0 dX10_takesLetter_126 rfl rfl ?_
    refine g_if_eq (tgt := 172) C dX10_takesLetter_127 (by decide) (fun h127 => ?_) (fun h127 => ?_)
    · have hm := ift hm h127
      exact g_sub [2, 1] rfl (g_pc rfl (J172 (l1 - (97 : Int32)) r18.2 hm))
    · have hm := ife hm h127
      refine g_aload_n C 2 dX10_takesLetter_130 rfl rfl ?_
      refine g_getr (k := 0) (k' := 3) C (by decide) kf_X10_13 rfl rfl dX10_takesLetter_131 ?_
      refine g_iload_n C 1 dX10_takesLetter_134 rfl rfl ?_
      obtain ⟨hi135, hm⟩ := ifn hm
      refine g_iald C (by decide) hi135 dX10_takesLetter_135 ?_
      refine g_aload_n C 2 dX10_takesLetter_136 rfl rfl ?_
      refine g_geti (k := 0) C (by decide) kf_X10_129 rfl dX10_takesLetter_137 ?_
      refine g_iconst (v := 4) C dX10_takesLetter_140 rfl ?_
      refine g_icmp_ne (tgt := 161) C dX10_takesLetter_141 (by decide) (fun h141 => ?_) (fun h141 => ?_)
      · have hm := ife hm h141
        refine g_aload_n C 2 dX10_takesLetter_161 rfl rfl ?_
        refine g_geti (k := 0) C (by decide) kf_X10_138 rfl dX10_takesLetter_162 ?_
        exact g_sub [2, 1] rfl (g_pc rfl (J165 (l1 - (97 : Int32)) (r18.2.1 22 3 (l1 - (97 : Int32)).toNatClampNeg) (r18.2.1 10 0 23) r18.2 hm))
      · have hm := ift hm h141
        refine g_aload_n C 2 dX10_takesLetter_144 rfl rfl ?_
        refine g_getr (k := 0) (k' := 8) C (by decide) kf_X10_26 rfl rfl dX10_takesLetter_145 ?_
        refine g_aload_n C 2 dX10_takesLetter_148 rfl rfl ?_
        refine g_geti (k := 0) C (by decide) kf_X10_82 rfl dX10_takesLetter_149 ?_
        refine g_aload_n C 2 dX10_takesLetter_152 rfl rfl ?_
        refine g_geti (k := 0) C (by decide) kf_X10_135 rfl dX10_takesLetter_153 ?_
        refine g_iadd C dX10_takesLetter_156 ?_
        obtain ⟨hi157, hm⟩ := ifn hm
        refine g_iald C (by decide) hi157 dX10_takesLetter_157 ?_
        refine g_goto (tgt := 165) C dX10_takesLetter_158 (by decide) ?_
        exact g_sub [2, 1] rfl (g_pc rfl (J165 (l1 - (97 : Int32)) (r18.2.1 22 3 (l1 - (97 : Int32)).toNatClampNeg) (r18.2.1 22 8 ((r18.2.1 10 0 7) + (r18.2.1 10 0 21)).toNatClampNeg) r18.2 hm))
  · have hm := ift hm h26
    refine g_iload_n C 0 dX10_takesLetter_29 rfl rfl ?_
    refine g_if_eq (tgt := 51) C dX10_takesLetter_30 (by decide) (fun h30 => ?_) (fun h30 => ?_)
    · have hm := ift hm h30
      exact g_sub [2, 1] rfl (g_pc rfl (J51 (l1 - (97 : Int32)) r18.2 hm))
    · have hm := ife hm h30
      refine g_aload_n C 2 dX10_takesLetter_33 rfl rfl ?_
      refine g_geti (k := 0) C (by decide) kf_X10_82 rfl dX10_takesLetter_34 ?_
      refine g_aload_n C 2 dX10_takesLetter_37 rfl rfl ?_
      refine g_geti (k := 0) C (by decide) kf_X10_135 rfl dX10_takesLetter_38 ?_
      refine g_iadd C dX10_takesLetter_41 ?_
      refine g_bipush (v := 10) C dX10_takesLetter_42 rfl ?_
      refine g_icmp_ge (tgt := 51) C dX10_takesLetter_44 (by decide) (fun h44 => ?_) (fun h44 => ?_)
      · have hm := ift hm h44
        exact g_sub [2, 1] rfl (g_pc rfl (J51 (l1 - (97 : Int32)) r18.2 hm))
      · have hm := ife hm h44
        refine g_iconst (v := 1) C dX10_takesLetter_47 rfl ?_
        refine g_goto (tgt := 52) C dX10_takesLetter_48 (by decide) ?_
        exact g_sub [2, 1] rfl (g_pc rfl (J52 (l1 - (97 : Int32)) (1 : Int32) r18.2 hm))
def f_X10_mayEnd (fu : Nat) (M : Mem) : Option (Int32 × Mem) :=
  if (M.1 10 0 19) = (2 : Int32) then some ((1 : Int32), M) else if (M.1 10 0 19) = (5 : Int32) then if (M.1 10 0 23) = (M.1 10 0 24) then some ((1 : Int32), M) else some ((0 : Int32), M) else some ((0 : Int32), M)
set_option maxHeartbeats 4000000 in
set_option maxRecDepth 100000 in
theorem k_X10_mayEnd (l : Launch) (G : GE) (hl : l.stackTraces = false) (hG : GOK G) (fu : Nat)  (M : Mem) (res : Int32 × Mem) (hk0 : (10, 0) ∈ gids G) (hm : f_X10_mayEnd fu  M = some res) : CT l G yX10_mayEnd cX10_mayEnd 1 (some .boolean) 0 [vR 10 0] M (.inl (some (vI res.1))) res.2 := by
  refine ct_of [(0, vR 10 0)] (by decide +kernel) hl hG (Nat.le_of_ble_eq_true rfl) rfl (List.forall_mem_cons.mpr ⟨Or.inl hk0, fun _ h => nomatch h⟩) (List.forall_mem_cons.mpr ⟨Or.inl hk0, fun _ h => nomatch h⟩) (fun X hX C => ?_)
  subst hX
  have Cl := C
  unfold f_X10_mayEnd at hm
  refine g_aload_n C 0 dX10_mayEnd_0 rfl rfl ?_
  refine g_geti (k := 0) C (by decide) kf_X10_129 rfl dX10_mayEnd_1 ?_
  refine g_iconst (v := 2) C dX10_mayEnd_4 rfl ?_
  refine g_icmp_eq (tgt := 27) C dX10_mayEnd_5 (by decide) (fun h5 => ?_) (fun h5 => ?_)
  · have hm := ift hm h5
    refine g_iconst (v := 1) C dX10_mayEnd_27 rfl ?_
    refine g_goto (tgt := 32) C dX10_mayEnd_28 (by decide) ?_
    obtain rfl := Option.some.inj hm
    exact g_zret C (Or.inr rfl) dX10_mayEnd_32
  · have hm := ife hm h5
    refine g_aload_n C 0 dX10_mayEnd_8 rfl rfl ?_
    refine g_geti (k := 0) C (by decide) kf_X10_129 rfl dX10_mayEnd_9 ?_
    refine g_iconst (v := 5) C dX10_mayEnd_12 rfl ?_
    refine g_icmp_ne (tgt := 31) C dX10_mayEnd_13 (by decide) (fun h13 => ?_) (fun h13 => ?_)
    · have hm := ife hm h13
      refine g_iconst (v := 0) C dX10_mayEnd_31 rfl ?_
      obtain rfl := Option.some.inj hm
      exact g_zret C (Or.inl rfl) dX10_mayEnd_32
    · have hm := ift hm h13
      refine g_aload_n C 0 dX10_mayEnd_16 rfl rfl ?_
      refine g_geti (k := 0) C (by decide) kf_X10_138 rfl dX10_mayEnd_17 ?_
      refine g_aload_n C 0 dX10_mayEnd_20 rfl rfl ?_
      refine g_geti (k := 0) C (by decide) kf_X10_144 rfl dX10_mayEnd_21 ?_
      refine g_icmp_ne (tgt := 31) C dX10_mayEnd_24 (by decide) (fun h24 => ?_) (fun h24 => ?_)
      · have hm := ife hm h24
        refine g_iconst (v := 0) C dX10_mayEnd_31 rfl ?_
        obtain rfl := Option.some.inj hm
        exact g_zret C (Or.inl rfl) dX10_mayEnd_32
      · have hm := ift hm h24
        refine g_iconst (v := 1) C dX10_mayEnd_27 rfl ?_
        refine g_goto (tgt := 32) C dX10_mayEnd_28 (by decide) ?_
        obtain rfl := Option.some.inj hm
        exact g_zret C (Or.inr rfl) dX10_mayEnd_32
def f_X10_endItem_j18 (fu : Nat)   (t1 : Int32) (t2 : Int32) (M : Mem) : Option (Mem) :=
  some (mI (mI (mI M 10 0 21 (t1 + t2)) 10 0 22 (((mI M 10 0 21 (t1 + t2)).1 10 0 22) + (1 : Int32))) 10 0 19 (0 : Int32))
def f_X10_endItem (fu : Nat) (M : Mem) : Option (Mem) :=
  if (M.1 10 0 19) = (5 : Int32) then f_X10_endItem_j18 fu (M.1 10 0 21) (1 : Int32) M else f_X10_endItem_j18 fu (M.1 10 0 21) (0 : Int32) M
set_option maxHeartbeats 4000000 in
set_option maxRecDepth 100000 in
theorem k_X10_endItem (l : Launch) (G : GE) (hl : l.stackTraces = false) (hG : GOK G) (fu : Nat)  (M : Mem) (res : Mem) (hk0 : (10, 0) ∈ gids G) (hm : f_X10_endItem fu  M = some res) : CT l G yX10_endItem cX10_endItem 1 none 0 [vR 10 0] M (.inl none) res := by
  refine ct_of [(0, vR 10 0)] (by decide +kernel) hl hG (Nat.le_of_ble_eq_true rfl) rfl (List.forall_mem_cons.mpr ⟨Or.inl hk0, fun _ h => nomatch h⟩) (List.forall_mem_cons.mpr ⟨Or.inl hk0, fun _ h => nomatch h⟩) (fun X hX C => ?_)
  subst hX
  have Cl := C
  have J18 : ∀ (t1 : Int32) (t2 : Int32) (M : Mem), f_X10_endItem_j18 fu   t1 t2 M = some res → GW G X 1 (QX G X (.inl none) res) 18 [(0, vR 10 0)] [vI t2, vI t1, vR 10 0] M := by
    intro t1 t2 M hm
    unfold f_X10_endItem_j18 at hm
    refine g_iadd C dX10_endItem_18 ?_
    refine g_puti C (by decide) kf_X10_135 rfl rfl rfl dX10_endItem_19 ?_
    refine g_aload_n C 0 dX10_endItem_22 rfl rfl ?_
    refine g_dup C dX10_endItem_23 rfl ?_
    refine g_geti (k := 0) C (by decide) kf_X10_147 rfl dX10_endItem_24 ?_
    refine g_iconst (v := 1) C dX10_endItem_27 rfl ?_
    refine g_iadd C dX10_endItem_28 ?_
    refine g_puti C (by decide) kf_X10_147 rfl rfl rfl dX10_endItem_29 ?_
    refine g_aload_n C 0 dX10_endItem_32 rfl rfl ?_
    refine g_iconst (v := 0) C dX10_endItem_33 rfl ?_
    refine g_puti C (by decide) kf_X10_129 rfl rfl rfl dX10_endItem_34 ?_
    obtain rfl := Option.some.inj hm
    exact g_vret C dX10_endItem_37
  unfold f_X10_endItem at hm
  refine g_aload_n C 0 dX10_endItem_0 rfl rfl ?_
  refine g_dup C dX10_endItem_1 rfl ?_
  refine g_geti (k := 0) C (by decide) kf_X10_135 rfl dX10_endItem_2 ?_
  refine g_aload_n C 0 dX10_endItem_5 rfl rfl ?_
  refine g_geti (k := 0) C (by decide) kf_X10_129 rfl dX10_endItem_6 ?_
  refine g_iconst (v := 5) C dX10_endItem_9 rfl ?_
  refine g_icmp_ne (tgt := 17) C dX10_endItem_10 (by decide) (fun h10 => ?_) (fun h10 => ?_)
  · have hm := ife hm h10
    refine g_iconst (v := 0) C dX10_endItem_17 rfl ?_
    exact g_sub [0] rfl (g_pc rfl (J18 (M.1 10 0 21) (0 : Int32) M hm))
  · have hm := ift hm h10
    refine g_iconst (v := 1) C dX10_endItem_13 rfl ?_
    refine g_goto (tgt := 18) C dX10_endItem_14 (by decide) ?_
    exact g_sub [0] rfl (g_pc rfl (J18 (M.1 10 0 21) (1 : Int32) M hm))

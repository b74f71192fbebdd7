/-! models and contracts, by program (wip/whole/emit.py): X10_value, X10_through, X10_image, X10_areAlike, X10_holds, X10_classSize, X10_pathNow, X10_path, X10_arrowOf, X10_counted, X10_between, X10_cellNow, X10_cell, X10_pairs, X10_holding, X10_bits, X10_number, X10_count, X10_commutingNow, X10_commuting, X10_setSize, X10_isCode, X10_setFunction, X10_apply -/
def f_X10_value (fu : Nat) (l1 : Int32) (l2 : Int32) (M : Mem) : Option (Int32 × Mem) :=
  if inb l1 (alen 22 5) then some (((M.1 22 5 l1.toNatClampNeg) >>> (((2 : Int32) * l2) &&& 31)) &&& (3 : Int32), M) else none
set_option maxHeartbeats 4000000 in
set_option maxRecDepth 100000 in
theorem k_X10_value (l : Launch) (G : GE) (hl : l.stackTraces = false) (hG : GOK G) (fu : Nat) (l1 : Int32) (l2 : Int32) (M : Mem) (res : Int32 × Mem) (hk0 : (10, 0) ∈ gids G) (hm : f_X10_value fu l1 l2 M = some res) : CT l G yX10_value cX10_value 3 (some .int) 0 [vR 10 0, vI l1, vI l2] M (.inl (some (vI res.1))) res.2 := by
  refine ct_of [(0, vR 10 0), (1, vI l1), (2, vI l2)] (by decide +kernel) hl hG (Nat.le_of_ble_eq_true rfl) rfl (List.forall_mem_cons.mpr ⟨Or.inl hk0, List.forall_mem_cons.mpr ⟨trivial, List.forall_mem_cons.mpr ⟨trivial, fun _ h => nomatch h⟩⟩⟩) (List.forall_mem_cons.mpr ⟨Or.inl hk0, List.forall_mem_cons.mpr ⟨trivial, List.forall_mem_cons.mpr ⟨trivial, fun _ h => nomatch h⟩⟩⟩) (fun X hX C => ?_)
  subst hX
  have Cl := C
  unfold f_X10_value at hm
  refine g_aload_n C 0 dX10_value_0 rfl rfl ?_
  refine g_getr (k := 0) (k' := 5) C (by decide) kf_X10_20 rfl rfl dX10_value_1 ?_
  refine g_iload_n C 1 dX10_value_4 rfl rfl ?_
  obtain ⟨hi5, hm⟩ := ifn hm
  refine g_iald C (by decide) hi5 dX10_value_5 ?_
  refine g_iconst (v := 2) C dX10_value_6 rfl ?_
  refine g_iload_n C 2 dX10_value_7 rfl rfl ?_
  refine g_imul C dX10_value_8 ?_
  refine g_ishr C dX10_value_9 ?_
  refine g_iconst (v := 3) C dX10_value_10 rfl ?_
  refine g_iand C dX10_value_11 ?_
  obtain rfl := Option.some.inj hm
  exact g_iret C dX10_value_12
def f_X10_through_b5 (fu : Nat)  (l1 : Int32) (l3 : Int32) (l4 : Int32) (M : Mem) : Option ((Int32 × Int32 × Mem) ⊕ (Int32 × Mem)) :=
  if inb l1 (alen 22 16) then if (M.1 22 16 l1.toNatClampNeg) ≤ l4 then some (Sum.inr (l3, M)) else if inb (((7 : Int32) * l1) + l4) (alen 22 17) then (f_X10_value fu (M.1 22 17 (((7 : Int32) * l1) + l4).toNatClampNeg) l3 M).bind (fun r30 => some (Sum.inl (r30.1, l4 + (1 : Int32), r30.2))) else none else none
def f_X10_through_h5 (fu : Nat)   (l1 : Int32) (l3 : Int32) (l4 : Int32) (M : Mem) : Option (Int32 × Mem) :=
  (lp_run (fun s => f_X10_through_b5 fu  l1 s.1 s.2.1 s.2.2) fu (l3, l4, M)).bind (fun r5 => match r5 with
    | (l3, M) => some (l3, M))
def f_X10_through (fu : Nat) (l1 : Int32) (l2 : Int32) (M : Mem) : Option (Int32 × Mem) :=
  f_X10_through_h5 fu l1 l2 (0 : Int32) M
set_option maxHeartbeats 4000000 in
set_option maxRecDepth 100000 in
theorem k_X10_through (l : Launch) (G : GE) (hl : l.stackTraces = false) (hG : GOK G) (fu : Nat) (l1 : Int32) (l2 : Int32) (M : Mem) (res : Int32 × Mem) (hk0 : (10, 0) ∈ gids G) (hm : f_X10_through fu l1 l2 M = some res) : CT l G yX10_through cX10_through 5 (some .int) 1 [vR 10 0, vI l1, vI l2] M (.inl (some (vI res.1))) res.2 := by
  refine ct_of [(0, vR 10 0), (1, vI l1), (2, vI l2)] (by decide +kernel) hl hG (Nat.le_of_ble_eq_true rfl) rfl (List.forall_mem_cons.mpr ⟨Or.inl hk0, List.forall_mem_cons.mpr ⟨trivial, List.forall_mem_cons.mpr ⟨trivial, fun _ h => nomatch h⟩⟩⟩) (List.forall_mem_cons.mpr ⟨Or.inl hk0, List.forall_mem_cons.mpr ⟨trivial, List.forall_mem_cons.mpr ⟨trivial, fun _ h => nomatch h⟩⟩⟩) (fun X hX C => ?_)
  subst hX
  have Cl := C
  have J5 : ∀ (l1 : Int32) (l3 : Int32) (l4 : Int32) (M : Mem), f_X10_through_h5 fu   l1 l3 l4 M = some res → GW G X 5 (QX G X (.inl (some (vI res.1))) res.2) 5 [(0, vR 10 0), (1, vI l1), (3, vI l3), (4, vI l4)] [] M := by
    intro l1 l3 l4 M hm
    unfold f_X10_through_h5 at hm
    obtain ⟨r5, hL5, hk5⟩ := bnd_some hm
    have hx5 : ∀ (l3 : Int32) (M : Mem), (l3, M) = r5 → GW G X 5 (QX G X (.inl (some (vI res.1))) res.2) 40 [(3, vI l3)] [] M := by
      intro l3 M he
      subst he
      have hm := hk5
      try dsimp only at hm
      refine g_iload_n C 0 dX10_through_40 rfl rfl ?_
      obtain rfl := Option.some.inj hm
      exact g_iret C dX10_through_41
    refine lp_ind2 (P := (fun l3 l4 M => GW G X 5 (QX G X (.inl (some (vI res.1))) res.2) 5 [(0, vR 10 0), (1, vI l1), (3, vI l3), (4, vI l4)] [] M)) (r := r5) ?_ fu l3 l4 M hL5
    intro l3 l4 M o5 hm K5
    unfold f_X10_through_b5 at hm
    refine g_iload C 3 dX10_through_5 rfl ?_
    refine g_aload_n C 0 dX10_through_7 rfl rfl ?_
    refine g_getr (k := 0) (k' := 16) C (by decide) kf_X10_44 rfl rfl dX10_through_8 ?_
    refine g_iload_n C 1 dX10_through_11 rfl rfl ?_
    obtain ⟨hi12, hm⟩ := ifn hm
    refine g_iald C (by decide) hi12 dX10_through_12 ?_
    refine g_icmp_ge (tgt := 40) C dX10_through_13 (by decide) (fun h13 => ?_) (fun h13 => ?_)
    · have hm := ift hm h13
      obtain rfl := Option.some.inj hm
      exact g_sub [2] rfl (g_pc rfl (hx5 l3 M (K5.2 _ rfl)))
    · have hm := ife hm h13
      refine g_aload_n C 0 dX10_through_16 rfl rfl ?_
      refine g_aload_n C 0 dX10_through_17 rfl rfl ?_
      refine g_getr (k := 0) (k' := 17) C (by decide) kf_X10_47 rfl rfl dX10_through_18 ?_
      refine g_bipush (v := 7) C dX10_through_21 rfl ?_
      refine g_iload_n C 1 dX10_through_23 rfl rfl ?_
      refine g_imul C dX10_through_24 ?_
      refine g_iload C 3 dX10_through_25 rfl ?_
      refine g_iadd C dX10_through_27 ?_
      obtain ⟨hi28, hm⟩ := ifn hm
      refine g_iald C (by decide) hi28 dX10_through_28 ?_
      refine g_iload_n C 2 dX10_through_29 rfl rfl ?_
      obtain ⟨r30, hr30, hm⟩ := bnd_some hm
      refine g_callVi (As := [vI (M.1 22 17 (((7 : Int32) * l1) + l4).toNatClampNeg), vI l3]) (rest := []) C lk_X10_208 (k_X10_value X.2.1 G hl hG fu (M.1 22 17 (((7 : Int32) * l1) + l4).toNatClampNeg) l3 M r30 hk0 hr30) (by decide) rfl rfl rfl (Nat.le_of_ble_eq_true rfl) ⟨Nat.le_of_ble_eq_true rfl, Nat.le_of_ble_eq_true rfl⟩ dX10_through_30 ?_
      refine g_istore_n (ls' := [(3, vI r30.1), (0, vR 10 0), (1, vI l1), (4, vI l4)]) C dX10_through_33 rfl (by decide) rfl ?_
      refine g_iinc (ls' := [(4, vI (l4 + (1 : Int32))), (3, vI r30.1), (0, vR 10 0), (1, vI l1)]) (v := l4 + (1 : Int32)) C 3 dX10_through_34 rfl (iv_p1 _) (by decide) rfl ?_
      refine g_goto (tgt := 5) C dX10_through_37 (by decide) ?_
      obtain rfl := Option.some.inj hm
      exact g_sub [2, 3, 1, 0] rfl (g_pc rfl (K5.1 r30.1 (l4 + (1 : Int32)) r30.2 rfl))
  unfold f_X10_through at hm
  refine g_iload_n C 2 dX10_through_0 rfl rfl ?_
  refine g_istore_n (ls' := [(3, vI l2), (0, vR 10 0), (1, vI l1), (2, vI l2)]) C dX10_through_1 rfl (by decide) rfl ?_
  refine g_iconst (v := 0) C dX10_through_2 rfl ?_
  refine g_istore (ls' := [(4, vI (0 : Int32)), (3, vI l2), (0, vR 10 0), (1, vI l1), (2, vI l2)]) C dX10_through_3 (by decide) rfl ?_
  exact g_sub [2, 3, 1, 0] rfl (g_pc rfl (J5 l1 l2 (0 : Int32) M hm))
def f_X10_image_b4 (fu : Nat)  (l1 : Int32) (l2 : Int32) (l3 : Int32) (M : Mem) : Option ((Int32 × Int32 × Mem) ⊕ (Int32 × Mem)) :=
  if inb l1 (alen 22 14) then if inb (M.1 22 14 l1.toNatClampNeg) (alen 22 6) then if (M.1 22 6 (M.1 22 14 l1.toNatClampNeg).toNatClampNeg) ≤ l3 then some (Sum.inr (l2, M)) else (f_X10_through fu l1 l3 M).bind (fun r24 => some (Sum.inl (l2 ||| ((1 : Int32) <<< (r24.1 &&& 31)), l3 + (1 : Int32), r24.2))) else none else none
def f_X10_image_h4 (fu : Nat)   (l1 : Int32) (l2 : Int32) (l3 : Int32) (M : Mem) : Option (Int32 × Mem) :=
  (lp_run (fun s => f_X10_image_b4 fu  l1 s.1 s.2.1 s.2.2) fu (l2, l3, M)).bind (fun r4 => match r4 with
    | (l2, M) => some ((((l2 &&& (1 : Int32)) + ((l2 >>> ((1 : Int32) &&& 31)) &&& (1 : Int32))) + ((l2 >>> ((2 : Int32) &&& 31)) &&& (1 : Int32))) + ((l2 >>> ((3 : Int32) &&& 31)) &&& (1 : Int32)), M))
def f_X10_image (fu : Nat) (l1 : Int32) (M : Mem) : Option (Int32 × Mem) :=
  f_X10_image_h4 fu l1 (0 : Int32) (0 : Int32) M
set_option maxHeartbeats 4000000 in
set_option maxRecDepth 100000 in
theorem k_X10_image (l : Launch) (G : GE) (hl : l.stackTraces = false) (hG : GOK G) (fu : Nat) (l1 : Int32) (M : Mem) (res : Int32 × Mem) (hk0 : (10, 0) ∈ gids G) (hm : f_X10_image fu l1 M = some res) : CT l G yX10_image cX10_image 4 (some .int) 2 [vR 10 0, vI l1] M (.inl (some (vI res.1))) res.2 := by
  refine ct_of [(0, vR 10 0), (1, vI l1)] (by decide +kernel) hl hG (Nat.le_of_ble_eq_true rfl) rfl (List.forall_mem_cons.mpr ⟨Or.inl hk0, List.forall_mem_cons.mpr ⟨trivial, fun _ h => nomatch h⟩⟩) (List.forall_mem_cons.mpr ⟨Or.inl hk0, List.forall_mem_cons.mpr ⟨trivial, fun _ h => nomatch h⟩⟩) (fun X hX C => ?_)
  subst hX
  have Cl := C
  have J4 : ∀ (l1 : Int32) (l2 : Int32) (l3 : Int32) (M : Mem), f_X10_image_h4 fu   l1 l2 l3 M = some res → GW G X 4 (QX G X (.inl (some (vI res.1))) res.2) 4 [(0, vR 10 0), (1, vI l1), (2, vI l2), (3, vI l3)] [] M := by
    intro l1 l2 l3 M hm
    unfold f_X10_image_h4 at hm
    obtain ⟨r4, hL4, hk4⟩ := bnd_some hm
    have hx4 : ∀ (l2 : Int32) (M : Mem), (l2, M) = r4 → GW G X 4 (QX G X (.inl (some (vI res.1))) res.2) 36 [(2, vI l2)] [] M := by
      intro l2 M he
      subst he
      have hm := hk4
      try dsimp only at hm
      refine g_iload_n C 0 dX10_image_36 rfl rfl ?_
      refine g_iconst (v := 1) C dX10_image_37 rfl ?_
      refine g_iand C dX10_image_38 ?_
      refine g_iload_n C 0 dX10_image_39 rfl rfl ?_
      refine g_iconst (v := 1) C dX10_image_40 rfl ?_
      refine g_ishr C dX10_image_41 ?_
      refine g_iconst (v := 1) C dX10_image_42 rfl ?_
      refine g_iand C dX10_image_43 ?_
      refine g_iadd C dX10_image_44 ?_
      refine g_iload_n C 0 dX10_image_45 rfl rfl ?_
      refine g_iconst (v := 2) C dX10_image_46 rfl ?_
      refine g_ishr C dX10_image_47 ?_
      refine g_iconst (v := 1) C dX10_image_48 rfl ?_
      refine g_iand C dX10_image_49 ?_
      refine g_iadd C dX10_image_50 ?_
      refine g_iload_n C 0 dX10_image_51 rfl rfl ?_
      refine g_iconst (v := 3) C dX10_image_52 rfl ?_
      refine g_ishr C dX10_image_53 ?_
      refine g_iconst (v := 1) C dX10_image_54 rfl ?_
      refine g_iand C dX10_image_55 ?_
      refine g_iadd C dX10_image_56 ?_
      obtain rfl := Option.some.inj hm
      exact g_iret C dX10_image_57
    refine lp_ind2 (P := (fun l2 l3 M => GW G X 4 (QX G X (.inl (some (vI res.1))) res.2) 4 [(0, vR 10 0), (1, vI l1), (2, vI l2), (3, vI l3)] [] M)) (r := r4) ?_ fu l2 l3 M hL4
    intro l2 l3 M o4 hm K4
    unfold f_X10_image_b4 at hm
    refine g_iload_n C 3 dX10_image_4 rfl rfl ?_
    refine g_aload_n C 0 dX10_image_5 rfl rfl ?_
    refine g_getr (k := 0) (k' := 6) C (by decide) kf_X10_23 rfl rfl dX10_image_6 ?_
    refine g_aload_n C 0 dX10_image_9 rfl rfl ?_
    refine g_getr (k := 0) (k' := 14) C (by decide) kf_X10_38 rfl rfl dX10_image_10 ?_
    refine g_iload_n C 1 dX10_image_13 rfl rfl ?_
    obtain ⟨hi14, hm⟩ := ifn hm
    refine g_iald C (by decide) hi14 dX10_image_14 ?_
    obtain ⟨hi15, hm⟩ := ifn hm
    refine g_iald C (by decide) hi15 dX10_image_15 ?_
    refine g_icmp_ge (tgt := 36) C dX10_image_16 (by decide) (fun h16 => ?_) (fun h16 => ?_)
    · have hm := ift hm h16
      obtain rfl := Option.some.inj hm
      exact g_sub [2] rfl (g_pc rfl (hx4 l2 M (K4.2 _ rfl)))
    · have hm := ife hm h16
      refine g_iload_n C 2 dX10_image_19 rfl rfl ?_
      refine g_iconst (v := 1) C dX10_image_20 rfl ?_
      refine g_aload_n C 0 dX10_image_21 rfl rfl ?_
      refine g_iload_n C 1 dX10_image_22 rfl rfl ?_
      refine g_iload_n C 3 dX10_image_23 rfl rfl ?_
      obtain ⟨r24, hr24, hm⟩ := bnd_some hm
      refine g_callVi (As := [vI l1, vI l3]) (rest := [vI (1 : Int32), vI l2]) C lk_X10_211 (k_X10_through X.2.1 G hl hG fu l1 l3 M r24 hk0 hr24) (by decide) rfl rfl rfl (Nat.le_of_ble_eq_true rfl) ⟨Nat.le_of_ble_eq_true rfl, Nat.le_of_ble_eq_true rfl⟩ dX10_image_24 ?_
      refine g_ishl C dX10_image_27 ?_
      refine g_ior C dX10_image_28 ?_
      refine g_istore_n (ls' := [(2, vI (l2 ||| ((1 : Int32) <<< (r24.1 &&& 31)))), (0, vR 10 0), (1, vI l1), (3, vI l3)]) C dX10_image_29 rfl (by decide) rfl ?_
      refine g_iinc (ls' := [(3, vI (l3 + (1 : Int32))), (2, vI (l2 ||| ((1 : Int32) <<< (r24.1 &&& 31)))), (0, vR 10 0), (1, vI l1)]) (v := l3 + (1 : Int32)) C 3 dX10_image_30 rfl (iv_p1 _) (by decide) rfl ?_
      refine g_goto (tgt := 4) C dX10_image_33 (by decide) ?_
      obtain rfl := Option.some.inj hm
      exact g_sub [2, 3, 1, 0] rfl (g_pc rfl (K4.1 (l2 ||| ((1 : Int32) <<< (r24.1 &&& 31))) (l3 + (1 : Int32)) r24.2 rfl))
  unfold f_X10_image at hm
  refine g_iconst (v := 0) C dX10_image_0 rfl ?_
  refine g_istore_n (ls' := [(2, vI (0 : Int32)), (0, vR 10 0), (1, vI l1)]) C dX10_image_1 rfl (by decide) rfl ?_
  refine g_iconst (v := 0) C dX10_image_2 rfl ?_
  refine g_istore_n (ls' := [(3, vI (0 : Int32)), (2, vI (0 : Int32)), (0, vR 10 0), (1, vI l1)]) C dX10_image_3 rfl (by decide) rfl ?_
  exact g_sub [2, 3, 1, 0] rfl (g_pc rfl (J4 l1 (0 : Int32) (0 : Int32) M hm))
def f_X10_areAlike_j47 (fu : Nat)  (l1 : Int32) (l2 : Int32) (l4 : Int32) (t0 : Int32) (M : Mem) : Option ((Int32 × Int32 × Mem) ⊕ (Int32 × Mem)) :=
  some (Sum.inl (t0, l4 + (1 : Int32), M))
def f_X10_areAlike_j46 (fu : Nat)  (l1 : Int32) (l2 : Int32) (l4 : Int32) (M : Mem) : Option ((Int32 × Int32 × Mem) ⊕ (Int32 × Mem)) :=
  f_X10_areAlike_j47 fu l1 l2 l4 (0 : Int32) M
def f_X10_areAlike_b5 (fu : Nat)  (l1 : Int32) (l2 : Int32) (l3 : Int32) (l4 : Int32) (M : Mem) : Option ((Int32 × Int32 × Mem) ⊕ (Int32 × Mem)) :=
  if inb l1 (alen 22 14) then if inb (M.1 22 14 l1.toNatClampNeg) (alen 22 6) then if (M.1 22 6 (M.1 22 14 l1.toNatClampNeg).toNatClampNeg) ≤ l4 then some (Sum.inr (l3, M)) else if l3 = 0 then f_X10_areAlike_j46 fu l1 l2 l4 M else (f_X10_through fu l1 l4 M).bind (fun r29 => (f_X10_through fu l2 l4 r29.2).bind (fun r36 => if r29.1 = r36.1 then f_X10_areAlike_j47 fu l1 l2 l4 (1 : Int32) r36.2 else f_X10_areAlike_j46 fu l1 l2 l4 r36.2)) else none else none
def f_X10_areAlike_h5 (fu : Nat)   (l1 : Int32) (l2 : Int32) (l3 : Int32) (l4 : Int32) (M : Mem) : Option (Int32 × Mem) :=
  (lp_run (fun s => f_X10_areAlike_b5 fu  l1 l2 s.1 s.2.1 s.2.2) fu (l3, l4, M)).bind (fun r5 => match r5 with
    | (l3, M) => if l3 = 0 ∨ l3 = 1 then some (l3, M) else none)
def f_X10_areAlike (fu : Nat) (l1 : Int32) (l2 : Int32) (M : Mem) : Option (Int32 × Mem) :=
  f_X10_areAlike_h5 fu l1 l2 (1 : Int32) (0 : Int32) M
set_option maxHeartbeats 4000000 in
set_option maxRecDepth 100000 in
theorem k_X10_areAlike (l : Launch) (G : GE) (hl : l.stackTraces = false) (hG : GOK G) (fu : Nat) (l1 : Int32) (l2 : Int32) (M : Mem) (res : Int32 × Mem) (hk0 : (10, 0) ∈ gids G) (hm : f_X10_areAlike fu l1 l2 M = some res) : CT l G yX10_areAlike cX10_areAlike 5 (some .boolean) 2 [vR 10 0, vI l1, vI l2] M (.inl (some (vI res.1))) res.2 := by
  refine ct_of [(0, vR 10 0), (1, vI l1), (2, vI l2)] (by decide +kernel) hl hG (Nat.le_of_ble_eq_true rfl) rfl (List.forall_mem_cons.mpr ⟨Or.inl hk0, List.forall_mem_cons.mpr ⟨trivial, List.forall_mem_cons.mpr ⟨trivial, fun _ h => nomatch h⟩⟩⟩) (List.forall_mem_cons.mpr ⟨Or.inl hk0, List.forall_mem_cons.mpr ⟨trivial, List.forall_mem_cons.mpr ⟨trivial, fun _ h => nomatch h⟩⟩⟩) (fun X hX C => ?_)
  subst hX
  have Cl := C
  have J5 : ∀ (l1 : Int32) (l2 : Int32) (l3 : Int32) (l4 : Int32) (M : Mem), f_X10_areAlike_h5 fu   l1 l2 l3 l4 M = some res → GW G X 5 (QX G X (.inl (some (vI res.1))) res.2) 5 [(0, vR 10 0), (1, vI l1), (2, vI l2), (3, vI l3), (4, vI l4)] [] M := by
    intro l1 l2 l3 l4 M hm
    unfold f_X10_areAlike_h5 at hm
    obtain ⟨r5, hL5, hk5⟩ := bnd_some hm
    have hx5 : ∀ (l3 : Int32) (M : Mem), (l3, M) = r5 → GW G X 5 (QX G X (.inl (some (vI res.1))) res.2) 54 [(3, vI l3)] [] M := by
      intro l3 M he
      subst he
      have hm := hk5
      try dsimp only at hm
      refine g_iload_n C 0 dX10_areAlike_54 rfl rfl ?_
      obtain ⟨hz55, hm⟩ := ifn hm
      obtain rfl := Option.some.inj hm
      exact g_zret C hz55 dX10_areAlike_55
    refine lp_ind2 (P := (fun l3 l4 M => GW G X 5 (QX G X (.inl (some (vI res.1))) res.2) 5 [(0, vR 10 0), (1, vI l1), (2, vI l2), (3, vI l3), (4, vI l4)] [] M)) (r := r5) ?_ fu l3 l4 M hL5
    intro l3 l4 M o5 hm K5
    have J47 : ∀ (l4 : Int32) (t0 : Int32) (M : Mem), f_X10_areAlike_j47 fu  l1 l2 l4 t0 M = some o5 → GW G X 5 (QX G X (.inl (some (vI res.1))) res.2) 47 [(0, vR 10 0), (1, vI l1), (2, vI l2), (4, vI l4)] [vI t0] M := by
      intro l4 t0 M hm
      unfold f_X10_areAlike_j47 at hm
      refine g_istore_n (ls' := [(3, vI t0), (0, vR 10 0), (1, vI l1), (2, vI l2), (4, vI l4)]) C dX10_areAlike_47 rfl (by decide) rfl ?_
      refine g_iinc (ls' := [(4, vI (l4 + (1 : Int32))), (3, vI t0), (0, vR 10 0), (1, vI l1), (2, vI l2)]) (v := l4 + (1 : Int32)) C 4 dX10_areAlike_48 rfl (iv_p1 _) (by decide) rfl ?_
      refine g_goto (tgt := 5) C dX10_areAlike_51 (by decide) ?_
      obtain rfl := Option.some.inj hm
      exact g_sub [2, 3, 4, 1, 0] rfl (g_pc rfl (K5.1 t0 (l4 + (1 : Int32)) M rfl))
    have J46 : ∀ (l4 : Int32) (M : Mem), f_X10_areAlike_j46 fu  l1 l2 l4 M = some o5 → GW G X 5 (QX G X (.inl (some (vI res.1))) res.2) 46 [(0, vR 10 0), (1, vI l1), (2, vI l2), (4, vI l4)] [] M := by
      intro l4 M hm
      unfold f_X10_areAlike_j46 at hm
      refine g_iconst (v := 0) C dX10_areAlike_46 rfl ?_
      exact g_sub [0, 1, 2, 3] rfl (g_pc rfl (J47 l4 (0 : Int32) M hm))
    unfold f_X10_areAlike_b5 at hm
    refine g_iload C 4 dX10_areAlike_5 rfl ?_
    refine g_aload_n C 0 dX10_areAlike_7 rfl rfl ?_
    refine g_getr (k := 0) (k' := 6) C (by decide) kf_X10_23 rfl rfl dX10_areAlike_8 ?_
    refine g_aload_n C 0 dX10_areAlike_11 rfl rfl ?_
    refine g_getr (k := 0) (k' := 14) C (by decide) kf_X10_38 rfl rfl dX10_areAlike_12 ?_
    refine g_iload_n C 1 dX10_areAlike_15 rfl rfl ?_
    obtain ⟨hi16, hm⟩ := ifn hm
    refine g_iald C (by decide) hi16 dX10_areAlike_16 ?_
    obtain ⟨hi17, hm⟩ := ifn hm
    refine g_iald C (by decide) hi17 dX10_areAlike_17 ?_
    refine g_icmp_ge (tgt := 54) C dX10_areAlike_18 (by decide) (fun h18 => ?_) (fun h18 => ?_)
    · have hm := ift hm h18
      obtain rfl := Option.some.inj hm
      exact g_sub [3] rfl (g_pc rfl (hx5 l3 M (K5.2 _ rfl)))
    · have hm := ife hm h18
      refine g_iload_n C 3 dX10_areAlike_21 rfl rfl ?_
      refine g_if_eq (tgt := 46) C dX10_areAlike_22 (by decide) (fun h22 => ?_) (fun h22 => ?_)
      · have hm := ift hm h22
        exact g_sub [0, 1, 2, 4] rfl (g_pc rfl (J46 l4 M hm))
      · have hm := ife hm h22
        refine g_aload_n C 0 dX10_areAlike_25 rfl rfl ?_
        refine g_iload_n C 1 dX10_areAlike_26 rfl rfl ?_
        refine g_iload C 4 dX10_areAlike_27 rfl ?_
        obtain ⟨r29, hr29, hm⟩ := bnd_some hm
        refine g_callVi (As := [vI l1, vI l4]) (rest := []) C lk_X10_211 (k_X10_through X.2.1 G hl hG fu l1 l4 M r29 hk0 hr29) (by decide) rfl rfl rfl (Nat.le_of_ble_eq_true rfl) ⟨Nat.le_of_ble_eq_true rfl, Nat.le_of_ble_eq_true rfl⟩ dX10_areAlike_29 ?_
        refine g_aload_n C 0 dX10_areAlike_32 rfl rfl ?_
        refine g_iload_n C 2 dX10_areAlike_33 rfl rfl ?_
        refine g_iload C 4 dX10_areAlike_34 rfl ?_
        obtain ⟨r36, hr36, hm⟩ := bnd_some hm
        refine g_callVi (As := [vI l2, vI l4]) (rest := [vI r29.1]) C lk_X10_211 (k_X10_through X.2.1 G hl hG fu l2 l4 r29.2 r36 hk0 hr36) (by decide) rfl rfl rfl (Nat.le_of_ble_eq_true rfl) ⟨Nat.le_of_ble_eq_true rfl, Nat.le_of_ble_eq_true rfl⟩ dX10_areAlike_36 ?_
        refine g_icmp_ne (tgt := 46) C dX10_areAlike_39 (by decide) (fun h39 => ?_) (fun h39 => ?_)
        · have hm := ife hm h39
          exact g_sub [0, 1, 2, 4] rfl (g_pc rfl (J46 l4 r36.2 hm))
        · have hm := ift hm h39
          refine g_iconst (v := 1) C dX10_areAlike_42 rfl ?_
          refine g_goto (tgt := 47) C dX10_areAlike_43 (by decide) ?_
          exact g_sub [0, 1, 2, 4] rfl (g_pc rfl (J47 l4 (1 : Int32) r36.2 hm))
  unfold f_X10_areAlike at hm
  refine g_iconst (v := 1) C dX10_areAlike_0 rfl ?_
  refine g_istore_n (ls' := [(3, vI (1 : Int32)), (0, vR 10 0), (1, vI l1), (2, vI l2)]) C dX10_areAlike_1 rfl (by decide) rfl ?_
  refine g_iconst (v := 0) C dX10_areAlike_2 rfl ?_
  refine g_istore (ls' := [(4, vI (0 : Int32)), (3, vI (1 : Int32)), (0, vR 10 0), (1, vI l1), (2, vI l2)]) C dX10_areAlike_3 (by decide) rfl ?_
  exact g_sub [2, 3, 4, 1, 0] rfl (g_pc rfl (J5 l1 l2 (1 : Int32) (0 : Int32) M hm))
def f_X10_holds (fu : Nat) (l1 : Int32) (M : Mem) : Option (Int32 × Mem) :=
  (f_X10_sideOf fu l1 (0 : Int32) M).bind (fun r4 => (f_X10_sideOf fu l1 (1 : Int32) r4.2).bind (fun r10 => (f_X10_areAlike fu r4.1 r10.1 r10.2).bind (fun r13 => if r13.1 = 0 ∨ r13.1 = 1 then some (r13.1, r13.2) else none)))
set_option maxHeartbeats 4000000 in
set_option maxRecDepth 100000 in
theorem k_X10_holds (l : Launch) (G : GE) (hl : l.stackTraces = false) (hG : GOK G) (fu : Nat) (l1 : Int32) (M : Mem) (res : Int32 × Mem) (hk0 : (10, 0) ∈ gids G) (hm : f_X10_holds fu l1 M = some res) : CT l G yX10_holds cX10_holds 2 (some .boolean) 3 [vR 10 0, vI l1] M (.inl (some (vI res.1))) res.2 := by
  refine ct_of [(0, vR 10 0), (1, vI l1)] (by decide +kernel) hl hG (Nat.le_of_ble_eq_true rfl) rfl (List.forall_mem_cons.mpr ⟨Or.inl hk0, List.forall_mem_cons.mpr ⟨trivial, fun _ h => nomatch h⟩⟩) (List.forall_mem_cons.mpr ⟨Or.inl hk0, List.forall_mem_cons.mpr ⟨trivial, fun _ h => nomatch h⟩⟩) (fun X hX C => ?_)
  subst hX
  have Cl := C
  unfold f_X10_holds at hm
  refine g_aload_n C 0 dX10_holds_0 rfl rfl ?_
  refine g_aload_n C 0 dX10_holds_1 rfl rfl ?_
  refine g_iload_n C 1 dX10_holds_2 rfl rfl ?_
  refine g_iconst (v := 0) C dX10_holds_3 rfl ?_
  obtain ⟨r4, hr4, hm⟩ := bnd_some hm
  refine g_callVi (As := [vI l1, vI (0 : Int32)]) (rest := [vR 10 0]) C lk_X10_186 (k_X10_sideOf X.2.1 G hl hG fu l1 (0 : Int32) M r4 hk0 hr4) (by decide) rfl rfl rfl (Nat.le_of_ble_eq_true rfl) ⟨Nat.le_of_ble_eq_true rfl, Nat.le_of_ble_eq_true rfl⟩ dX10_holds_4 ?_
  refine g_aload_n C 0 dX10_holds_7 rfl rfl ?_
  refine g_iload_n C 1 dX10_holds_8 rfl rfl ?_
  refine g_iconst (v := 1) C dX10_holds_9 rfl ?_
  obtain ⟨r10, hr10, hm⟩ := bnd_some hm
  refine g_callVi (As := [vI l1, vI (1 : Int32)]) (rest := [vI r4.1, vR 10 0]) C lk_X10_186 (k_X10_sideOf X.2.1 G hl hG fu l1 (1 : Int32) r4.2 r10 hk0 hr10) (by decide) rfl rfl rfl (Nat.le_of_ble_eq_true rfl) ⟨Nat.le_of_ble_eq_true rfl, Nat.le_of_ble_eq_true rfl⟩ dX10_holds_10 ?_
  obtain ⟨r13, hr13, hm⟩ := bnd_some hm
  refine g_callVi (As := [vI r4.1, vI r10.1]) (rest := []) C lk_X10_214 (k_X10_areAlike X.2.1 G hl hG fu r4.1 r10.1 r10.2 r13 hk0 hr13) (by decide) rfl rfl rfl (Nat.le_of_ble_eq_true rfl) ⟨Nat.le_of_ble_eq_true rfl, Nat.le_of_ble_eq_true rfl⟩ dX10_holds_13 ?_
  obtain ⟨hz16, hm⟩ := ifn hm
  obtain rfl := Option.some.inj hm
  exact g_zret C hz16 dX10_holds_16
def f_X10_classSize_j28 (fu : Nat)  (l1 : Int32) (l3 : Int32) (t0 : Int32) (t1 : Int32) (M : Mem) : Option ((Int32 × Int32 × Mem) ⊕ (Int32 × Mem)) :=
  some (Sum.inl (t0 + t1, l3 + (1 : Int32), M))
def f_X10_classSize_b4 (fu : Nat)  (l1 : Int32) (l2 : Int32) (l3 : Int32) (M : Mem) : Option ((Int32 × Int32 × Mem) ⊕ (Int32 × Mem)) :=
  if (M.1 10 0 13) ≤ l3 then some (Sum.inr (l2, M)) else if inb l3 (alen 22 26) then if (M.1 22 26 l3.toNatClampNeg) = l1 then f_X10_classSize_j28 fu l1 l3 l2 (1 : Int32) M else f_X10_classSize_j28 fu l1 l3 l2 (0 : Int32) M else none
def f_X10_classSize_h4 (fu : Nat)   (l1 : Int32) (l2 : Int32) (l3 : Int32) (M : Mem) : Option (Int32 × Mem) :=
  (lp_run (fun s => f_X10_classSize_b4 fu  l1 s.1 s.2.1 s.2.2) fu (l2, l3, M)).bind (fun r4 => match r4 with
    | (l2, M) => some (l2, M))
def f_X10_classSize (fu : Nat) (l1 : Int32) (M : Mem) : Option (Int32 × Mem) :=
  f_X10_classSize_h4 fu l1 (0 : Int32) (0 : Int32) M
set_option maxHeartbeats 4000000 in
set_option maxRecDepth 100000 in
theorem k_X10_classSize (l : Launch) (G : GE) (hl : l.stackTraces = false) (hG : GOK G) (fu : Nat) (l1 : Int32) (M : Mem) (res : Int32 × Mem) (hk0 : (10, 0) ∈ gids G) (hm : f_X10_classSize fu l1 M = some res) : CT l G yX10_classSize cX10_classSize 4 (some .int) 0 [vR 10 0, vI l1] M (.inl (some (vI res.1))) res.2 := by
  refine ct_of [(0, vR 10 0), (1, vI l1)] (by decide +kernel) hl hG (Nat.le_of_ble_eq_true rfl) rfl (List.forall_mem_cons.mpr ⟨Or.inl hk0, List.forall_mem_cons.mpr ⟨trivial, fun _ h => nomatch h⟩⟩) (List.forall_mem_cons.mpr ⟨Or.inl hk0, List.forall_mem_cons.mpr ⟨trivial, fun _ h => nomatch h⟩⟩) (fun X hX C => ?_)
  subst hX
  have Cl := C
  have J4 : ∀ (l1 : Int32) (l2 : Int32) (l3 : Int32) (M : Mem), f_X10_classSize_h4 fu   l1 l2 l3 M = some res → GW G X 4 (QX G X (.inl (some (vI res.1))) res.2) 4 [(0, vR 10 0), (1, vI l1), (2, vI l2), (3, vI l3)] [] M := by
    intro l1 l2 l3 M hm
    unfold f_X10_classSize_h4 at hm
    obtain ⟨r4, hL4, hk4⟩ := bnd_some hm
    have hx4 : ∀ (l2 : Int32) (M : Mem), (l2, M) = r4 → GW G X 4 (QX G X (.inl (some (vI res.1))) res.2) 36 [(2, vI l2)] [] M := by
      intro l2 M he
      subst he
      have hm := hk4
      try dsimp only at hm
      refine g_iload_n C 0 dX10_classSize_36 rfl rfl ?_
      obtain rfl := Option.some.inj hm
      exact g_iret C dX10_classSize_37
    refine lp_ind2 (P := (fun l2 l3 M => GW G X 4 (QX G X (.inl (some (vI res.1))) res.2) 4 [(0, vR 10 0), (1, vI l1), (2, vI l2), (3, vI l3)] [] M)) (r := r4) ?_ fu l2 l3 M hL4
    intro l2 l3 M o4 hm K4
    have J28 : ∀ (l3 : Int32) (t0 : Int32) (t1 : Int32) (M : Mem), f_X10_classSize_j28 fu  l1 l3 t0 t1 M = some o4 → GW G X 4 (QX G X (.inl (some (vI res.1))) res.2) 28 [(0, vR 10 0), (1, vI l1), (3, vI l3)] [vI t1, vI t0] M := by
      intro l3 t0 t1 M hm
      unfold f_X10_classSize_j28 at hm
      refine g_iadd C dX10_classSize_28 ?_
      refine g_istore_n (ls' := [(2, vI (t0 + t1)), (0, vR 10 0), (1, vI l1), (3, vI l3)]) C dX10_classSize_29 rfl (by decide) rfl ?_
      refine g_iinc (ls' := [(3, vI (l3 + (1 : Int32))), (2, vI (t0 + t1)), (0, vR 10 0), (1, vI l1)]) (v := l3 + (1 : Int32)) C 3 dX10_classSize_30 rfl (iv_p1 _) (by decide) rfl ?_
      refine g_goto (tgt := 4) C dX10_classSize_33 (by decide) ?_
      obtain rfl := Option.some.inj hm
      exact g_sub [2, 3, 1, 0] rfl (g_pc rfl (K4.1 (t0 + t1) (l3 + (1 : Int32)) M rfl))
    unfold f_X10_classSize_b4 at hm
    refine g_iload_n C 3 dX10_classSize_4 rfl rfl ?_
    refine g_aload_n C 0 dX10_classSize_5 rfl rfl ?_
    refine g_geti (k := 0) C (by decide) kf_X10_89 rfl dX10_classSize_6 ?_
    refine g_icmp_ge (tgt := 36) C dX10_classSize_9 (by decide) (fun h9 => ?_) (fun h9 => ?_)
    · have hm := ift hm h9
      obtain rfl := Option.some.inj hm
      exact g_sub [2] rfl (g_pc rfl (hx4 l2 M (K4.2 _ rfl)))
    · have hm := ife hm h9
      refine g_iload_n C 2 dX10_classSize_12 rfl rfl ?_
      refine g_aload_n C 0 dX10_classSize_13 rfl rfl ?_
      refine g_getr (k := 0) (k' := 26) C (by decide) kf_X10_56 rfl rfl dX10_classSize_14 ?_
      refine g_iload_n C 3 dX10_classSize_17 rfl rfl ?_
      obtain ⟨hi18, hm⟩ := ifn hm
      refine g_iald C (by decide) hi18 dX10_classSize_18 ?_
      refine g_iload_n C 1 dX10_classSize_19 rfl rfl ?_
      refine g_icmp_ne (tgt := 27) C dX10_classSize_20 (by decide) (fun h20 => ?_) (fun h20 => ?_)
      · have hm := ife hm h20
        refine g_iconst (v := 0) C dX10_classSize_27 rfl ?_
        exact g_sub [0, 1, 3] rfl (g_pc rfl (J28 l3 l2 (0 : Int32) M hm))
      · have hm := ift hm h20
        refine g_iconst (v := 1) C dX10_classSize_23 rfl ?_
        refine g_goto (tgt := 28) C dX10_classSize_24 (by decide) ?_
        exact g_sub [0, 1, 3] rfl (g_pc rfl (J28 l3 l2 (1 : Int32) M hm))
  unfold f_X10_classSize at hm
  refine g_iconst (v := 0) C dX10_classSize_0 rfl ?_
  refine g_istore_n (ls' := [(2, vI (0 : Int32)), (0, vR 10 0), (1, vI l1)]) C dX10_classSize_1 rfl (by decide) rfl ?_
  refine g_iconst (v := 0) C dX10_classSize_2 rfl ?_
  refine g_istore_n (ls' := [(3, vI (0 : Int32)), (2, vI (0 : Int32)), (0, vR 10 0), (1, vI l1)]) C dX10_classSize_3 rfl (by decide) rfl ?_
  exact g_sub [2, 3, 1, 0] rfl (g_pc rfl (J4 l1 (0 : Int32) (0 : Int32) M hm))
def f_X10_pathNow (fu : Nat) (l1 : Int32) (l2 : Int32) (M : Mem) : Option (Int32 × Mem) :=
  if l2 = (0 : Int32) then if inb l1 (alen 22 14) then some (M.1 22 14 l1.toNatClampNeg, M) else none else if l2 = (1 : Int32) then if inb l1 (alen 22 15) then some (M.1 22 15 l1.toNatClampNeg, M) else none else if l2 = (2 : Int32) then if inb l1 (alen 22 16) then some (M.1 22 16 l1.toNatClampNeg, M) else none else if l2 = (3 : Int32) then if inb l1 (alen 22 26) then some (M.1 22 26 l1.toNatClampNeg, M) else none else if l2 = (4 : Int32) then if inb l1 (alen 22 26) then (f_X10_classSize fu (M.1 22 26 l1.toNatClampNeg) M).bind (fun r75 => some (r75.1, r75.2)) else none else if l2 = (5 : Int32) then (f_X10_image fu l1 M).bind (fun r81 => some (r81.1, r81.2)) else (f_X10_image fu l1 M).bind (fun r87 => if inb l1 (alen 22 14) then if inb (r87.2.1 22 14 l1.toNatClampNeg) (alen 22 6) then if r87.1 = (r87.2.1 22 6 (r87.2.1 22 14 l1.toNatClampNeg).toNatClampNeg) then some ((1 : Int32), r87.2) else some ((0 : Int32), r87.2) else none else none)
set_option maxHeartbeats 4000000 in
set_option maxRecDepth 100000 in
theorem k_X10_pathNow (l : Launch) (G : GE) (hl : l.stackTraces = false) (hG : GOK G) (fu : Nat) (l1 : Int32) (l2 : Int32) (M : Mem) (res : Int32 × Mem) (hk0 : (10, 0) ∈ gids G) (hm : f_X10_pathNow fu l1 l2 M = some res) : CT l G yX10_pathNow cX10_pathNow 3 (some .int) 3 [vR 10 0, vI l1, vI l2] M (.inl (some (vI res.1))) res.2 := by
  refine ct_of [(0, vR 10 0), (1, vI l1), (2, vI l2)] (by decide +kernel) hl hG (Nat.le_of_ble_eq_true rfl) rfl (List.forall_mem_cons.mpr ⟨Or.inl hk0, List.forall_mem_cons.mpr ⟨trivial, List.forall_mem_cons.mpr ⟨trivial, fun _ h => nomatch h⟩⟩⟩) (List.forall_mem_cons.mpr ⟨Or.inl hk0, List.forall_mem_cons.mpr ⟨trivial, List.forall_mem_cons.mpr ⟨trivial, fun _ h => nomatch h⟩⟩⟩) (fun X hX C => ?_)
  subst hX
  have Cl := C
  unfold f_X10_pathNow at hm
  refine g_iload_n C 2 dX10_pathNow_0 rfl rfl ?_
  by_cases h1_0 : l2 = (0 : Int32)
  · have hm := ift hm h1_0
    refine g_tabIn (off := 39) (tgt := 40) C dX10_pathNow_1 (by rw [h1_0]; decide) (by rw [h1_0]; decide) (by rw [h1_0]; rfl) (by decide) ?_
    refine g_aload_n C 0 dX10_pathNow_40 rfl rfl ?_
    refine g_getr (k := 0) (k' := 14) C (by decide) kf_X10_38 rfl rfl dX10_pathNow_41 ?_
    refine g_iload_n C 1 dX10_pathNow_44 rfl rfl ?_
    obtain ⟨hi45, hm⟩ := ifn hm
    refine g_iald C (by decide) hi45 dX10_pathNow_45 ?_
    obtain rfl := Option.some.inj hm
    exact g_iret C dX10_pathNow_46
  have hm := ife hm h1_0
  by_cases h1_1 : l2 = (1 : Int32)
  · have hm := ift hm h1_1
    refine g_tabIn (off := 46) (tgt := 47) C dX10_pathNow_1 (by rw [h1_1]; decide) (by rw [h1_1]; decide) (by rw [h1_1]; rfl) (by decide) ?_
    refine g_aload_n C 0 dX10_pathNow_47 rfl rfl ?_
    refine g_getr (k := 0) (k' := 15) C (by decide) kf_X10_41 rfl rfl dX10_pathNow_48 ?_
    refine g_iload_n C 1 dX10_pathNow_51 rfl rfl ?_
    obtain ⟨hi52, hm⟩ := ifn hm
    refine g_iald C (by decide) hi52 dX10_pathNow_52 ?_
    obtain rfl := Option.some.inj hm
    exact g_iret C dX10_pathNow_53
  have hm := ife hm h1_1
  by_cases h1_2 : l2 = (2 : Int32)
  · have hm := ift hm h1_2
    refine g_tabIn (off := 53) (tgt := 54) C dX10_pathNow_1 (by rw [h1_2]; decide) (by rw [h1_2]; decide) (by rw [h1_2]; rfl) (by decide) ?_
    refine g_aload_n C 0 dX10_pathNow_54 rfl rfl ?_
    refine g_getr (k := 0) (k' := 16) C (by decide) kf_X10_44 rfl rfl dX10_pathNow_55 ?_
    refine g_iload_n C 1 dX10_pathNow_58 rfl rfl ?_
    obtain ⟨hi59, hm⟩ := ifn hm
    refine g_iald C (by decide) hi59 dX10_pathNow_59 ?_
    obtain rfl := Option.some.inj hm
    exact g_iret C dX10_pathNow_60
  have hm := ife hm h1_2
  by_cases h1_3 : l2 = (3 : Int32)
  · have hm := ift hm h1_3
    refine g_tabIn (off := 60) (tgt := 61) C dX10_pathNow_1 (by rw [h1_3]; decide) (by rw [h1_3]; decide) (by rw [h1_3]; rfl) (by decide) ?_
    refine g_aload_n C 0 dX10_pathNow_61 rfl rfl ?_
    refine g_getr (k := 0) (k' := 26) C (by decide) kf_X10_56 rfl rfl dX10_pathNow_62 ?_
    refine g_iload_n C 1 dX10_pathNow_65 rfl rfl ?_
    obtain ⟨hi66, hm⟩ := ifn hm
    refine g_iald C (by decide) hi66 dX10_pathNow_66 ?_
    obtain rfl := Option.some.inj hm
    exact g_iret C dX10_pathNow_67
  have hm := ife hm h1_3
  by_cases h1_4 : l2 = (4 : Int32)
  · have hm := ift hm h1_4
    refine g_tabIn (off := 67) (tgt := 68) C dX10_pathNow_1 (by rw [h1_4]; decide) (by rw [h1_4]; decide) (by rw [h1_4]; rfl) (by decide) ?_
    refine g_aload_n C 0 dX10_pathNow_68 rfl rfl ?_
    refine g_aload_n C 0 dX10_pathNow_69 rfl rfl ?_
    refine g_getr (k := 0) (k' := 26) C (by decide) kf_X10_56 rfl rfl dX10_pathNow_70 ?_
    refine g_iload_n C 1 dX10_pathNow_73 rfl rfl ?_
    obtain ⟨hi74, hm⟩ := ifn hm
    refine g_iald C (by decide) hi74 dX10_pathNow_74 ?_
    obtain ⟨r75, hr75, hm⟩ := bnd_some hm
    refine g_callVi (As := [vI (M.1 22 26 l1.toNatClampNeg)]) (rest := []) C lk_X10_217 (k_X10_classSize X.2.1 G hl hG fu (M.1 22 26 l1.toNatClampNeg) M r75 hk0 hr75) (by decide) rfl rfl rfl (Nat.le_of_ble_eq_true rfl) ⟨Nat.le_of_ble_eq_true rfl, Nat.le_of_ble_eq_true rfl⟩ dX10_pathNow_75 ?_
    obtain rfl := Option.some.inj hm
    exact g_iret C dX10_pathNow_78
  have hm := ife hm h1_4
  by_cases h1_5 : l2 = (5 : Int32)
  · have hm := ift hm h1_5
    refine g_tabIn (off := 78) (tgt := 79) C dX10_pathNow_1 (by rw [h1_5]; decide) (by rw [h1_5]; decide) (by rw [h1_5]; rfl) (by decide) ?_
    refine g_aload_n C 0 dX10_pathNow_79 rfl rfl ?_
    refine g_iload_n C 1 dX10_pathNow_80 rfl rfl ?_
    obtain ⟨r81, hr81, hm⟩ := bnd_some hm
    refine g_callVi (As := [vI l1]) (rest := []) C lk_X10_220 (k_X10_image X.2.1 G hl hG fu l1 M r81 hk0 hr81) (by decide) rfl rfl rfl (Nat.le_of_ble_eq_true rfl) ⟨Nat.le_of_ble_eq_true rfl, Nat.le_of_ble_eq_true rfl⟩ dX10_pathNow_81 ?_
    obtain rfl := Option.some.inj hm
    exact g_iret C dX10_pathNow_84
  have hm := ife hm h1_5
  refine g_tabOut (tgt := 85) C dX10_pathNow_1 (tab_out 6 (by decide) (by intro j hj; rcases Nat.lt_succ_iff_lt_or_eq.mp hj with hj | rfl; rotate_left; exact h1_5; rcases Nat.lt_succ_iff_lt_or_eq.mp hj with hj | rfl; rotate_left; exact h1_4; rcases Nat.lt_succ_iff_lt_or_eq.mp hj with hj | rfl; rotate_left; exact h1_3; rcases Nat.lt_succ_iff_lt_or_eq.mp hj with hj | rfl; rotate_left; exact h1_2; rcases Nat.lt_succ_iff_lt_or_eq.mp hj with hj | rfl; rotate_left; exact h1_1; rcases Nat.lt_succ_iff_lt_or_eq.mp hj with hj | rfl; rotate_left; exact h1_0; exact absurd hj (Nat.not_lt_zero _))) (by decide) ?_
  refine g_aload_n C 0 dX10_pathNow_85 rfl rfl ?_
  refine g_iload_n C 1 dX10_pathNow_86 rfl rfl ?_
  obtain ⟨r87, hr87, hm⟩ := bnd_some hm
  refine g_callVi (As := [vI l1]) (rest := []) C lk_X10_220 (k_X10_image X.2.1 G hl hG fu l1 M r87 hk0 hr87) (by decide) rfl rfl rfl (Nat.le_of_ble_eq_true rfl) ⟨Nat.le_of_ble_eq_true rfl, Nat.le_of_ble_eq_true rfl⟩ dX10_pathNow_87 ?_
  refine g_aload_n C 0 dX10_pathNow_90 rfl rfl ?_
  refine g_getr (k := 0) (k' := 6) C (by decide) kf_X10_23 rfl rfl dX10_pathNow_91 ?_
  refine g_aload_n C 0 dX10_pathNow_94 rfl rfl ?_
  refine g_getr (k := 0) (k' := 14) C (by decide) kf_X10_38 rfl rfl dX10_pathNow_95 ?_
  refine g_iload_n C 1 dX10_pathNow_98 rfl rfl ?_
  obtain ⟨hi99, hm⟩ := ifn hm
  refine g_iald C (by decide) hi99 dX10_pathNow_99 ?_
  obtain ⟨hi100, hm⟩ := ifn hm
  refine g_iald C (by decide) hi100 dX10_pathNow_100 ?_
  refine g_icmp_ne (tgt := 108) C dX10_pathNow_101 (by decide) (fun h101 => ?_) (fun h101 => ?_)
  · have hm := ife hm h101
    refine g_iconst (v := 0) C dX10_pathNow_108 rfl ?_
    obtain rfl := Option.some.inj hm
    exact g_iret C dX10_pathNow_109
  · have hm := ift hm h101
    refine g_iconst (v := 1) C dX10_pathNow_104 rfl ?_
    refine g_goto (tgt := 109) C dX10_pathNow_105 (by decide) ?_
    obtain rfl := Option.some.inj hm
    exact g_iret C dX10_pathNow_109
def f_X10_path_j28 (fu : Nat)   (l1 : Int32) (l2 : Int32) (t1 : Int32) (M : Mem) : Option (Int32 × Mem) :=
  if ((mI M 10 0 0 t1).1 10 0 0) ≤ 0 then (f_X10_allCells fu  (mI M 10 0 0 t1)).bind (fun r42 => (f_X10_layNames fu r42.1 r42.2).bind (fun r45 => (f_X10_pathNow fu l1 l2 r45.2).bind (fun r52 => some (r52.1, r52.2)))) else some ((0 : Int32), (mI M 10 0 0 t1))
def f_X10_path (fu : Nat) (l1 : Int32) (l2 : Int32) (M : Mem) : Option (Int32 × Mem) :=
  (f_X10_isPath fu l1 M).bind (fun r3 => if r3.1 = 0 then f_X10_path_j28 fu l1 l2 (1 : Int32) r3.2 else (f_X10_within fu l2 (0 : Int32) (6 : Int32) r3.2).bind (fun r17 => if r17.1 = 0 then f_X10_path_j28 fu l1 l2 (2 : Int32) r17.2 else f_X10_path_j28 fu l1 l2 (0 : Int32) r17.2))
set_option maxHeartbeats 4000000 in
set_option maxRecDepth 100000 in
theorem k_X10_path (l : Launch) (G : GE) (hl : l.stackTraces = false) (hG : GOK G) (fu : Nat) (l1 : Int32) (l2 : Int32) (M : Mem) (res : Int32 × Mem) (hk0 : (10, 0) ∈ gids G) (hm : f_X10_path fu l1 l2 M = some res) : CT l G yX10_path cX10_path 3 (some .int) 4 [vR 10 0, vI l1, vI l2] M (.inl (some (vI res.1))) res.2 := by
  refine ct_of [(0, vR 10 0), (1, vI l1), (2, vI l2)] (by decide +kernel) hl hG (Nat.le_of_ble_eq_true rfl) rfl (List.forall_mem_cons.mpr ⟨Or.inl hk0, List.forall_mem_cons.mpr ⟨trivial, List.forall_mem_cons.mpr ⟨trivial, fun _ h => nomatch h⟩⟩⟩) (List.forall_mem_cons.mpr ⟨Or.inl hk0, List.forall_mem_cons.mpr ⟨trivial, List.forall_mem_cons.mpr ⟨trivial, fun _ h => nomatch h⟩⟩⟩) (fun X hX C => ?_)
  subst hX
  have Cl := C
  have J28 : ∀ (l1 : Int32) (l2 : Int32) (t1 : Int32) (M : Mem), f_X10_path_j28 fu   l1 l2 t1 M = some res → GW G X 3 (QX G X (.inl (some (vI res.1))) res.2) 28 [(0, vR 10 0), (1, vI l1), (2, vI l2)] [vI t1, vR 10 0] M := by
    intro l1 l2 t1 M hm
    unfold f_X10_path_j28 at hm
    refine g_puti C (by decide) kf_X10_72 rfl rfl rfl dX10_path_28 ?_
    refine g_aload_n C 0 dX10_path_31 rfl rfl ?_
    refine g_geti (k := 0) C (by decide) kf_X10_72 rfl dX10_path_32 ?_
    refine g_if_le (tgt := 40) C dX10_path_35 (by decide) (fun h35 => ?_) (fun h35 => ?_)
    · have hm := ift hm h35
      refine g_aload_n C 0 dX10_path_40 rfl rfl ?_
      refine g_aload_n C 0 dX10_path_41 rfl rfl ?_
      obtain ⟨r42, hr42, hm⟩ := bnd_some hm
      refine g_callVi (As := []) (rest := [vR 10 0]) C lk_X10_192 (k_X10_allCells X.2.1 G hl hG fu  (mI M 10 0 0 t1) r42 hk0 hr42) (by decide) rfl rfl rfl (Nat.le_of_ble_eq_true rfl) ⟨Nat.le_of_ble_eq_true rfl, Nat.le_of_ble_eq_true rfl⟩ dX10_path_42 ?_
      obtain ⟨r45, hr45, hm⟩ := bnd_some hm
      refine g_callVi (As := [vI r42.1]) (rest := []) C lk_X10_223 (k_X10_layNames X.2.1 G hl hG fu r42.1 r42.2 r45 hk0 hr45) (by decide) rfl rfl rfl (Nat.le_of_ble_eq_true rfl) ⟨Nat.le_of_ble_eq_true rfl, Nat.le_of_ble_eq_true rfl⟩ dX10_path_45 ?_
      refine g_pop C dX10_path_48 rfl ?_
      refine g_aload_n C 0 dX10_path_49 rfl rfl ?_
      refine g_iload_n C 1 dX10_path_50 rfl rfl ?_
      refine g_iload_n C 2 dX10_path_51 rfl rfl ?_
      obtain ⟨r52, hr52, hm⟩ := bnd_some hm
      refine g_callVi (As := [vI l1, vI l2]) (rest := []) C lk_X10_226 (k_X10_pathNow X.2.1 G hl hG fu l1 l2 r45.2 r52 hk0 hr52) (by decide) rfl rfl rfl (Nat.le_of_ble_eq_true rfl) ⟨Nat.le_of_ble_eq_true rfl, Nat.le_of_ble_eq_true rfl⟩ dX10_path_52 ?_
      obtain rfl := Option.some.inj hm
      exact g_iret C dX10_path_55
    · have hm := ife hm h35
      refine g_iconst (v := 0) C dX10_path_38 rfl ?_
      obtain rfl := Option.some.inj hm
      exact g_iret C dX10_path_39
  unfold f_X10_path at hm
  refine g_aload_n C 0 dX10_path_0 rfl rfl ?_
  refine g_aload_n C 0 dX10_path_1 rfl rfl ?_
  refine g_iload_n C 1 dX10_path_2 rfl rfl ?_
  obtain ⟨r3, hr3, hm⟩ := bnd_some hm
  refine g_callVi (As := [vI l1]) (rest := [vR 10 0]) C lk_X10_114 (k_X10_isPath X.2.1 G hl hG fu l1 M r3 hk0 hr3) (by decide) rfl rfl rfl (Nat.le_of_ble_eq_true rfl) ⟨Nat.le_of_ble_eq_true rfl, Nat.le_of_ble_eq_true rfl⟩ dX10_path_3 ?_
  refine g_if_ne (tgt := 13) C dX10_path_6 (by decide) (fun h6 => ?_) (fun h6 => ?_)
  · have hm := ife hm h6
    refine g_iload_n C 2 dX10_path_13 rfl rfl ?_
    refine g_iconst (v := 0) C dX10_path_14 rfl ?_
    refine g_bipush (v := 6) C dX10_path_15 rfl ?_
    obtain ⟨r17, hr17, hm⟩ := bnd_some hm
    refine g_callSi (As := [vI l2, vI (0 : Int32), vI (6 : Int32)]) (rest := [vR 10 0]) C lk_X10_75 (k_X10_within X.2.1 G hl hG fu l2 (0 : Int32) (6 : Int32) r3.2 r17  hr17) rfl rfl (Nat.le_of_ble_eq_true rfl) ⟨Nat.le_of_ble_eq_true rfl, Nat.le_of_ble_eq_true rfl⟩ dX10_path_17 ?_
    refine g_if_eq (tgt := 27) C dX10_path_20 (by decide) (fun h20 => ?_) (fun h20 => ?_)
    · have hm := ift hm h20
      refine g_iconst (v := 2) C dX10_path_27 rfl ?_
      exact g_sub [0, 1, 2] rfl (g_pc rfl (J28 l1 l2 (2 : Int32) r17.2 hm))
    · have hm := ife hm h20
      refine g_iconst (v := 0) C dX10_path_23 rfl ?_
      refine g_goto (tgt := 28) C dX10_path_24 (by decide) ?_
      exact g_sub [0, 1, 2] rfl (g_pc rfl (J28 l1 l2 (0 : Int32) r17.2 hm))
  · have hm := ift hm h6
    refine g_iconst (v := 1) C dX10_path_9 rfl ?_
    refine g_goto (tgt := 28) C dX10_path_10 (by decide) ?_
    exact g_sub [0, 1, 2] rfl (g_pc rfl (J28 l1 l2 (1 : Int32) r3.2 hm))
def f_X10_arrowOf_j30 (fu : Nat)   (l1 : Int32) (l2 : Int32) (t1 : Int32) (M : Mem) : Option (Int32 × Mem) :=
  if ((mI M 10 0 0 t1).1 10 0 0) ≤ 0 then if inb (((7 : Int32) * l1) + l2) (alen 22 17) then some ((mI M 10 0 0 t1).1 22 17 (((7 : Int32) * l1) + l2).toNatClampNeg, (mI M 10 0 0 t1)) else none else some ((0 : Int32), (mI M 10 0 0 t1))
def f_X10_arrowOf_j29 (fu : Nat)   (l1 : Int32) (l2 : Int32) (M : Mem) : Option (Int32 × Mem) :=
  f_X10_arrowOf_j30 fu l1 l2 (1 : Int32) M
def f_X10_arrowOf (fu : Nat) (l1 : Int32) (l2 : Int32) (M : Mem) : Option (Int32 × Mem) :=
  (f_X10_isPath fu l1 M).bind (fun r3 => if r3.1 = 0 then f_X10_arrowOf_j29 fu l1 l2 r3.2 else if inb l1 (alen 22 16) then (f_X10_within fu l2 (0 : Int32) ((r3.2.1 22 16 l1.toNatClampNeg) - (1 : Int32)) r3.2).bind (fun r19 => if r19.1 = 0 then f_X10_arrowOf_j29 fu l1 l2 r19.2 else f_X10_arrowOf_j30 fu l1 l2 (0 : Int32) r19.2) else none)
set_option maxHeartbeats 4000000 in
set_option maxRecDepth 100000 in
theorem k_X10_arrowOf (l : Launch) (G : GE) (hl : l.stackTraces = false) (hG : GOK G) (fu : Nat) (l1 : Int32) (l2 : Int32) (M : Mem) (res : Int32 × Mem) (hk0 : (10, 0) ∈ gids G) (hm : f_X10_arrowOf fu l1 l2 M = some res) : CT l G yX10_arrowOf cX10_arrowOf 3 (some .int) 2 [vR 10 0, vI l1, vI l2] M (.inl (some (vI res.1))) res.2 := by
  refine ct_of [(0, vR 10 0), (1, vI l1), (2, vI l2)] (by decide +kernel) hl hG (Nat.le_of_ble_eq_true rfl) rfl (List.forall_mem_cons.mpr ⟨Or.inl hk0, List.forall_mem_cons.mpr ⟨trivial, List.forall_mem_cons.mpr ⟨trivial, fun _ h => nomatch h⟩⟩⟩) (List.forall_mem_cons.mpr ⟨Or.inl hk0, List.forall_mem_cons.mpr ⟨trivial, List.forall_mem_cons.mpr ⟨trivial, fun _ h => nomatch h⟩⟩⟩) (fun X hX C => ?_)
  subst hX
  have Cl := C
  have J30 : ∀ (l1 : Int32) (l2 : Int32) (t1 : Int32) (M : Mem), f_X10_arrowOf_j30 fu   l1 l2 t1 M = some res → GW G X 3 (QX G X (.inl (some (vI res.1))) res.2) 30 [(0, vR 10 0), (1, vI l1), (2, vI l2)] [vI t1, vR 10 0] M := by
    intro l1 l2 t1 M hm
    unfold f_X10_arrowOf_j30 at hm
    refine g_puti C (by decide) kf_X10_72 rfl rfl rfl dX10_arrowOf_30 ?_
    refine g_aload_n C 0 dX10_arrowOf_33 rfl rfl ?_
    refine g_geti (k := 0) C (by decide) kf_X10_72 rfl dX10_arrowOf_34 ?_
    refine g_if_le (tgt := 44) C dX10_arrowOf_37 (by decide) (fun h37 => ?_) (fun h37 => ?_)
    · have hm := ift hm h37
      refine g_aload_n C 0 dX10_arrowOf_44 rfl rfl ?_
      refine g_getr (k := 0) (k' := 17) C (by decide) kf_X10_47 rfl rfl dX10_arrowOf_45 ?_
      refine g_bipush (v := 7) C dX10_arrowOf_48 rfl ?_
      refine g_iload_n C 1 dX10_arrowOf_50 rfl rfl ?_
      refine g_imul C dX10_arrowOf_51 ?_
      refine g_iload_n C 2 dX10_arrowOf_52 rfl rfl ?_
      refine g_iadd C dX10_arrowOf_53 ?_
      obtain ⟨hi54, hm⟩ := ifn hm
      refine g_iald C (by decide) hi54 dX10_arrowOf_54 ?_
      obtain rfl := Option.some.inj hm
      exact g_iret C dX10_arrowOf_55
    · have hm := ife hm h37
      refine g_iconst (v := 0) C dX10_arrowOf_40 rfl ?_
      refine g_goto (tgt := 55) C dX10_arrowOf_41 (by decide) ?_
      obtain rfl := Option.some.inj hm
      exact g_iret C dX10_arrowOf_55
  have J29 : ∀ (l1 : Int32) (l2 : Int32) (M : Mem), f_X10_arrowOf_j29 fu   l1 l2 M = some res → GW G X 3 (QX G X (.inl (some (vI res.1))) res.2) 29 [(0, vR 10 0), (1, vI l1), (2, vI l2)] [vR 10 0] M := by
    intro l1 l2 M hm
    unfold f_X10_arrowOf_j29 at hm
    refine g_iconst (v := 1) C dX10_arrowOf_29 rfl ?_
    exact g_sub [0, 1, 2] rfl (g_pc rfl (J30 l1 l2 (1 : Int32) M hm))
  unfold f_X10_arrowOf at hm
  refine g_aload_n C 0 dX10_arrowOf_0 rfl rfl ?_
  refine g_aload_n C 0 dX10_arrowOf_1 rfl rfl ?_
  refine g_iload_n C 1 dX10_arrowOf_2 rfl rfl ?_
  obtain ⟨r3, hr3, hm⟩ := bnd_some hm
  refine g_callVi (As := [vI l1]) (rest := [vR 10 0]) C lk_X10_114 (k_X10_isPath X.2.1 G hl hG fu l1 M r3 hk0 hr3) (by decide) rfl rfl rfl (Nat.le_of_ble_eq_true rfl) ⟨Nat.le_of_ble_eq_true rfl, Nat.le_of_ble_eq_true rfl⟩ dX10_arrowOf_3 ?_
  refine g_if_eq (tgt := 29) C dX10_arrowOf_6 (by decide) (fun h6 => ?_) (fun h6 => ?_)
  · have hm := ift hm h6
    exact g_sub [0, 1, 2] rfl (g_pc rfl (J29 l1 l2 r3.2 hm))
  · have hm := ife hm h6
    refine g_iload_n C 2 dX10_arrowOf_9 rfl rfl ?_
    refine g_iconst (v := 0) C dX10_arrowOf_10 rfl ?_
    refine g_aload_n C 0 dX10_arrowOf_11 rfl rfl ?_
    refine g_getr (k := 0) (k' := 16) C (by decide) kf_X10_44 rfl rfl dX10_arrowOf_12 ?_
    refine g_iload_n C 1 dX10_arrowOf_15 rfl rfl ?_
    obtain ⟨hi16, hm⟩ := ifn hm
    refine g_iald C (by decide) hi16 dX10_arrowOf_16 ?_
    refine g_iconst (v := 1) C dX10_arrowOf_17 rfl ?_
    refine g_isub C dX10_arrowOf_18 ?_
    obtain ⟨r19, hr19, hm⟩ := bnd_some hm
    refine g_callSi (As := [vI l2, vI (0 : Int32), vI ((r3.2.1 22 16 l1.toNatClampNeg) - (1 : Int32))]) (rest := [vR 10 0]) C lk_X10_75 (k_X10_within X.2.1 G hl hG fu l2 (0 : Int32) ((r3.2.1 22 16 l1.toNatClampNeg) - (1 : Int32)) r3.2 r19  hr19) rfl rfl (Nat.le_of_ble_eq_true rfl) ⟨Nat.le_of_ble_eq_true rfl, Nat.le_of_ble_eq_true rfl⟩ dX10_arrowOf_19 ?_
    refine g_if_eq (tgt := 29) C dX10_arrowOf_22 (by decide) (fun h22 => ?_) (fun h22 => ?_)
    · have hm := ift hm h22
      exact g_sub [0, 1, 2] rfl (g_pc rfl (J29 l1 l2 r19.2 hm))
    · have hm := ife hm h22
      refine g_iconst (v := 0) C dX10_arrowOf_25 rfl ?_
      refine g_goto (tgt := 30) C dX10_arrowOf_26 (by decide) ?_
      exact g_sub [0, 1, 2] rfl (g_pc rfl (J30 l1 l2 (0 : Int32) r19.2 hm))
def f_X10_counted_j60 (fu : Nat)  (l1 : Int32) (l2 : Int32) (l3 : Int32) (l5 : Int32) (t0 : Int32) (t1 : Int32) (M : Mem) : Option ((Int32 × Int32 × Mem) ⊕ (Int32 × Mem)) :=
  some (Sum.inl (t0 + t1, l5 + (1 : Int32), M))
def f_X10_counted_j59 (fu : Nat)  (l1 : Int32) (l2 : Int32) (l3 : Int32) (l5 : Int32) (t0 : Int32) (M : Mem) : Option ((Int32 × Int32 × Mem) ⊕ (Int32 × Mem)) :=
  f_X10_counted_j60 fu l1 l2 l3 l5 t0 (0 : Int32) M
def f_X10_counted_j55 (fu : Nat)  (l1 : Int32) (l2 : Int32) (l3 : Int32) (l5 : Int32) (t0 : Int32) (M : Mem) : Option ((Int32 × Int32 × Mem) ⊕ (Int32 × Mem)) :=
  f_X10_counted_j60 fu l1 l2 l3 l5 t0 (1 : Int32) M
def f_X10_counted_b6 (fu : Nat)  (l1 : Int32) (l2 : Int32) (l3 : Int32) (l4 : Int32) (l5 : Int32) (M : Mem) : Option ((Int32 × Int32 × Mem) ⊕ (Int32 × Mem)) :=
  if (M.1 10 0 13) ≤ l5 then some (Sum.inr (l4, M)) else if inb l5 (alen 22 14) then if (M.1 22 14 l5.toNatClampNeg) = l1 then if inb l5 (alen 22 15) then if (M.1 22 15 l5.toNatClampNeg) = l2 then if l3 = 0 then f_X10_counted_j55 fu l1 l2 l3 l5 l4 M else if inb l5 (alen 22 26) then if (M.1 22 26 l5.toNatClampNeg) = l5 then f_X10_counted_j55 fu l1 l2 l3 l5 l4 M else f_X10_counted_j59 fu l1 l2 l3 l5 l4 M else none else f_X10_counted_j59 fu l1 l2 l3 l5 l4 M else none else f_X10_counted_j59 fu l1 l2 l3 l5 l4 M else none
def f_X10_counted_h6 (fu : Nat)   (l1 : Int32) (l2 : Int32) (l3 : Int32) (l4 : Int32) (l5 : Int32) (M : Mem) : Option (Int32 × Mem) :=
  (lp_run (fun s => f_X10_counted_b6 fu  l1 l2 l3 s.1 s.2.1 s.2.2) fu (l4, l5, M)).bind (fun r6 => match r6 with
    | (l4, M) => some (l4, M))
def f_X10_counted (fu : Nat) (l1 : Int32) (l2 : Int32) (l3 : Int32) (M : Mem) : Option (Int32 × Mem) :=
  f_X10_counted_h6 fu l1 l2 l3 (0 : Int32) (0 : Int32) M
set_option maxHeartbeats 4000000 in
set_option maxRecDepth 100000 in
theorem k_X10_counted (l : Launch) (G : GE) (hl : l.stackTraces = false) (hG : GOK G) (fu : Nat) (l1 : Int32) (l2 : Int32) (l3 : Int32) (M : Mem) (res : Int32 × Mem) (hk0 : (10, 0) ∈ gids G) (hm : f_X10_counted fu l1 l2 l3 M = some res) : CT l G yX10_counted cX10_counted 6 (some .int) 0 [vR 10 0, vI l1, vI l2, vI l3] M (.inl (some (vI res.1))) res.2 := by
  refine ct_of [(0, vR 10 0), (1, vI l1), (2, vI l2), (3, vI l3)] (by decide +kernel) hl hG (Nat.le_of_ble_eq_true rfl) rfl (List.forall_mem_cons.mpr ⟨Or.inl hk0, List.forall_mem_cons.mpr ⟨trivial, List.forall_mem_cons.mpr ⟨trivial, List.forall_mem_cons.mpr ⟨trivial, fun _ h => nomatch h⟩⟩⟩⟩) (List.forall_mem_cons.mpr ⟨Or.inl hk0, List.forall_mem_cons.mpr ⟨trivial, List.forall_mem_cons.mpr ⟨trivial, List.forall_mem_cons.mpr ⟨trivial, fun _ h => nomatch h⟩⟩⟩⟩) (fun X hX C => ?_)
  subst hX
  have Cl := C
  have J6 : ∀ (l1 : Int32) (l2 : Int32) (l3 : Int32) (l4 : Int32) (l5 : Int32) (M : Mem), f_X10_counted_h6 fu   l1 l2 l3 l4 l5 M = some res → GW G X 6 (QX G X (.inl (some (vI res.1))) res.2) 6 [(0, vR 10 0), (1, vI l1), (2, vI l2), (3, vI l3), (4, vI l4), (5, vI l5)] [] M := by
    intro l1 l2 l3 l4 l5 M hm
    unfold f_X10_counted_h6 at hm
    obtain ⟨r6, hL6, hk6⟩ := bnd_some hm
    have hx6 : ∀ (l4 : Int32) (M : Mem), (l4, M) = r6 → GW G X 6 (QX G X (.inl (some (vI res.1))) res.2) 69 [(4, vI l4)] [] M := by
      intro l4 M he
      subst he
      have hm := hk6
      try dsimp only at hm
      refine g_iload C 0 dX10_counted_69 rfl ?_
      obtain rfl := Option.some.inj hm
      exact g_iret C dX10_counted_71
    refine lp_ind2 (P := (fun l4 l5 M => GW G X 6 (QX G X (.inl (some (vI res.1))) res.2) 6 [(0, vR 10 0), (1, vI l1), (2, vI l2), (3, vI l3), (4, vI l4), (5, vI l5)] [] M)) (r := r6) ?_ fu l4 l5 M hL6
    intro l4 l5 M o6 hm K6
    have J60 : ∀ (l5 : Int32) (t0 : Int32) (t1 : Int32) (M : Mem), f_X10_counted_j60 fu  l1 l2 l3 l5 t0 t1 M = some o6 → GW G X 6 (QX G X (.inl (some (vI res.1))) res.2) 60 [(0, vR 10 0), (1, vI l1), (2, vI l2), (3, vI l3), (5, vI l5)] [vI t1, vI t0] M := by
      intro l5 t0 t1 M hm
      unfold f_X10_counted_j60 at hm
      refine g_iadd C dX10_counted_60 ?_
      refine g_istore (ls' := [(4, vI (t0 + t1)), (0, vR 10 0), (1, vI l1), (2, vI l2), (3, vI l3), (5, vI l5)]) C dX10_counted_61 (by decide) rfl ?_
      refine g_iinc (ls' := [(5, vI (l5 + (1 : Int32))), (4, vI (t0 + t1)), (0, vR 10 0), (1, vI l1), (2, vI l2), (3, vI l3)]) (v := l5 + (1 : Int32)) C 5 dX10_counted_63 rfl (iv_p1 _) (by decide) rfl ?_
      refine g_goto (tgt := 6) C dX10_counted_66 (by decide) ?_
      obtain rfl := Option.some.inj hm
      exact g_sub [2, 3, 4, 5, 1, 0] rfl (g_pc rfl (K6.1 (t0 + t1) (l5 + (1 : Int32)) M rfl))
    have J59 : ∀ (l5 : Int32) (t0 : Int32) (M : Mem), f_X10_counted_j59 fu  l1 l2 l3 l5 t0 M = some o6 → GW G X 6 (QX G X (.inl (some (vI res.1))) res.2) 59 [(0, vR 10 0), (1, vI l1), (2, vI l2), (3, vI l3), (5, vI l5)] [vI t0] M := by
      intro l5 t0 M hm
      unfold f_X10_counted_j59 at hm
      refine g_iconst (v := 0) C dX10_counted_59 rfl ?_
      exact g_sub [0, 1, 2, 3, 4] rfl (g_pc rfl (J60 l5 t0 (0 : Int32) M hm))
    have J55 : ∀ (l5 : Int32) (t0 : Int32) (M : Mem), f_X10_counted_j55 fu  l1 l2 l3 l5 t0 M = some o6 → GW G X 6 (QX G X (.inl (some (vI res.1))) res.2) 55 [(0, vR 10 0), (1, vI l1), (2, vI l2), (3, vI l3), (5, vI l5)] [vI t0] M := by
      intro l5 t0 M hm
      unfold f_X10_counted_j55 at hm
      refine g_iconst (v := 1) C dX10_counted_55 rfl ?_
      refine g_goto (tgt := 60) C dX10_counted_56 (by decide) ?_
      exact g_sub [0, 1, 2, 3, 4] rfl (g_pc rfl (J60 l5 t0 (1 : Int32) M hm))
    unfold f_X10_counted_b6 at hm
    refine g_iload C 5 dX10_counted_6 rfl ?_
    refine g_aload_n C 0 dX10_counted_8 rfl rfl ?_
    refine g_geti (k := 0) C (by decide) kf_X10_89 rfl dX10_counted_9 ?_
    refine g_icmp_ge (tgt := 69) C dX10_counted_12 (by decide) (fun h12 => ?_) (fun h12 => ?_)
    · have hm := ift hm h12
      obtain rfl := Option.some.inj hm
      exact g_sub [4] rfl (g_pc rfl (hx6 l4 M (K6.2 _ rfl)))
    · have hm := ife hm h12
      refine g_iload C 4 dX10_counted_15 rfl ?_
      refine g_aload_n C 0 dX10_counted_17 rfl rfl ?_
      refine g_getr (k := 0) (k' := 14) C (by decide) kf_X10_38 rfl rfl dX10_counted_18 ?_
      refine g_iload C 5 dX10_counted_21 rfl ?_
      obtain ⟨hi23, hm⟩ := ifn hm
      refine g_iald C (by decide) hi23 dX10_counted_23 ?_
      refine g_iload_n C 1 dX10_counted_24 rfl rfl ?_
      refine g_icmp_ne (tgt := 59) C dX10_counted_25 (by decide) (fun h25 => ?_) (fun h25 => ?_)
      · have hm := ife hm h25
        exact g_sub [0, 1, 2, 3, 5] rfl (g_pc rfl (J59 l5 l4 M hm))
      · have hm := ift hm h25
        refine g_aload_n C 0 dX10_counted_28 rfl rfl ?_
        refine g_getr (k := 0) (k' := 15) C (by decide) kf_X10_41 rfl rfl dX10_counted_29 ?_
        refine g_iload C 5 dX10_counted_32 rfl ?_
        obtain ⟨hi34, hm⟩ := ifn hm
        refine g_iald C (by decide) hi34 dX10_counted_34 ?_
        refine g_iload_n C 2 dX10_counted_35 rfl rfl ?_
        refine g_icmp_ne (tgt := 59) C dX10_counted_36 (by decide) (fun h36 => ?_) (fun h36 => ?_)
        · have hm := ife hm h36
          exact g_sub [0, 1, 2, 3, 5] rfl (g_pc rfl (J59 l5 l4 M hm))
        · have hm := ift hm h36
          refine g_iload_n C 3 dX10_counted_39 rfl rfl ?_
          refine g_if_eq (tgt := 55) C dX10_counted_40 (by decide) (fun h40 => ?_) (fun h40 => ?_)
          · have hm := ift hm h40
            exact g_sub [0, 1, 2, 3, 5] rfl (g_pc rfl (J55 l5 l4 M hm))
          · have hm := ife hm h40
            refine g_aload_n C 0 dX10_counted_43 rfl rfl ?_
            refine g_getr (k := 0) (k' := 26) C (by decide) kf_X10_56 rfl rfl dX10_counted_44 ?_
            refine g_iload C 5 dX10_counted_47 rfl ?_
            obtain ⟨hi49, hm⟩ := ifn hm
            refine g_iald C (by decide) hi49 dX10_counted_49 ?_
            refine g_iload C 5 dX10_counted_50 rfl ?_
            refine g_icmp_ne (tgt := 59) C dX10_counted_52 (by decide) (fun h52 => ?_) (fun h52 => ?_)
            · have hm := ife hm h52
              exact g_sub [0, 1, 2, 3, 5] rfl (g_pc rfl (J59 l5 l4 M hm))
            · have hm := ift hm h52
              exact g_sub [0, 1, 2, 3, 5] rfl (g_pc rfl (J55 l5 l4 M hm))
  unfold f_X10_counted at hm
  refine g_iconst (v := 0) C dX10_counted_0 rfl ?_
  refine g_istore (ls' := [(4, vI (0 : Int32)), (0, vR 10 0), (1, vI l1), (2, vI l2), (3, vI l3)]) C dX10_counted_1 (by decide) rfl ?_
  refine g_iconst (v := 0) C dX10_counted_3 rfl ?_
  refine g_istore (ls' := [(5, vI (0 : Int32)), (4, vI (0 : Int32)), (0, vR 10 0), (1, vI l1), (2, vI l2), (3, vI l3)]) C dX10_counted_4 (by decide) rfl ?_
  exact g_sub [2, 3, 4, 5, 1, 0] rfl (g_pc rfl (J6 l1 l2 l3 (0 : Int32) (0 : Int32) M hm))
def f_X10_between_j22 (fu : Nat)   (l1 : Int32) (l2 : Int32) (l3 : Int32) (t1 : Int32) (M : Mem) : Option (Int32 × Mem) :=
  if ((mI M 10 0 0 t1).1 10 0 0) ≤ 0 then (f_X10_allCells fu  (mI M 10 0 0 t1)).bind (fun r36 => (f_X10_layNames fu r36.1 r36.2).bind (fun r39 => (f_X10_counted fu l1 l2 l3 r39.2).bind (fun r47 => some (r47.1, r47.2)))) else some ((0 : Int32), (mI M 10 0 0 t1))
def f_X10_between_j21 (fu : Nat)   (l1 : Int32) (l2 : Int32) (l3 : Int32) (M : Mem) : Option (Int32 × Mem) :=
  f_X10_between_j22 fu l1 l2 l3 (1 : Int32) M
def f_X10_between (fu : Nat) (l1 : Int32) (l2 : Int32) (l3 : Int32) (M : Mem) : Option (Int32 × Mem) :=
  (f_X10_isObject fu l1 M).bind (fun r3 => if r3.1 = 0 then f_X10_between_j21 fu l1 l2 l3 r3.2 else (f_X10_isObject fu l2 r3.2).bind (fun r11 => if r11.1 = 0 then f_X10_between_j21 fu l1 l2 l3 r11.2 else f_X10_between_j22 fu l1 l2 l3 (0 : Int32) r11.2))
set_option maxHeartbeats 4000000 in
set_option maxRecDepth 100000 in
theorem k_X10_between (l : Launch) (G : GE) (hl : l.stackTraces = false) (hG : GOK G) (fu : Nat) (l1 : Int32) (l2 : Int32) (l3 : Int32) (M : Mem) (res : Int32 × Mem) (hk0 : (10, 0) ∈ gids G) (hm : f_X10_between fu l1 l2 l3 M = some res) : CT l G yX10_between cX10_between 4 (some .int) 4 [vR 10 0, vI l1, vI l2, vI l3] M (.inl (some (vI res.1))) res.2 := by
  refine ct_of [(0, vR 10 0), (1, vI l1), (2, vI l2), (3, vI l3)] (by decide +kernel) hl hG (Nat.le_of_ble_eq_true rfl) rfl (List.forall_mem_cons.mpr ⟨Or.inl hk0, List.forall_mem_cons.mpr ⟨trivial, List.forall_mem_cons.mpr ⟨trivial, List.forall_mem_cons.mpr ⟨trivial, fun _ h => nomatch h⟩⟩⟩⟩) (List.forall_mem_cons.mpr ⟨Or.inl hk0, List.forall_mem_cons.mpr ⟨trivial, List.forall_mem_cons.mpr ⟨trivial, List.forall_mem_cons.mpr ⟨trivial, fun _ h => nomatch h⟩⟩⟩⟩) (fun X hX C => ?_)
  subst hX
  have Cl := C
  have J22 : ∀ (l1 : Int32) (l2 : Int32) (l3 : Int32) (t1 : Int32) (M : Mem), f_X10_between_j22 fu   l1 l2 l3 t1 M = some res → GW G X 4 (QX G X (.inl (some (vI res.1))) res.2) 22 [(0, vR 10 0), (1, vI l1), (2, vI l2), (3, vI l3)] [vI t1, vR 10 0] M := by
    intro l1 l2 l3 t1 M hm
    unfold f_X10_between_j22 at hm
    refine g_puti C (by decide) kf_X10_72 rfl rfl rfl dX10_between_22 ?_
    refine g_aload_n C 0 dX10_between_25 rfl rfl ?_
    refine g_geti (k := 0) C (by decide) kf_X10_72 rfl dX10_between_26 ?_
    refine g_if_le (tgt := 34) C dX10_between_29 (by decide) (fun h29 => ?_) (fun h29 => ?_)
    · have hm := ift hm h29
      refine g_aload_n C 0 dX10_between_34 rfl rfl ?_
      refine g_aload_n C 0 dX10_between_35 rfl rfl ?_
      obtain ⟨r36, hr36, hm⟩ := bnd_some hm
      refine g_callVi (As := []) (rest := [vR 10 0]) C lk_X10_192 (k_X10_allCells X.2.1 G hl hG fu  (mI M 10 0 0 t1) r36 hk0 hr36) (by decide) rfl rfl rfl (Nat.le_of_ble_eq_true rfl) ⟨Nat.le_of_ble_eq_true rfl, Nat.le_of_ble_eq_true rfl⟩ dX10_between_36 ?_
      obtain ⟨r39, hr39, hm⟩ := bnd_some hm
      refine g_callVi (As := [vI r36.1]) (rest := []) C lk_X10_223 (k_X10_layNames X.2.1 G hl hG fu r36.1 r36.2 r39 hk0 hr39) (by decide) rfl rfl rfl (Nat.le_of_ble_eq_true rfl) ⟨Nat.le_of_ble_eq_true rfl, Nat.le_of_ble_eq_true rfl⟩ dX10_between_39 ?_
      refine g_pop C dX10_between_42 rfl ?_
      refine g_aload_n C 0 dX10_between_43 rfl rfl ?_
      refine g_iload_n C 1 dX10_between_44 rfl rfl ?_
      refine g_iload_n C 2 dX10_between_45 rfl rfl ?_
      refine g_iload_n C 3 dX10_between_46 rfl rfl ?_
      obtain ⟨r47, hr47, hm⟩ := bnd_some hm
      refine g_callVi (As := [vI l1, vI l2, vI l3]) (rest := []) C lk_X10_229 (k_X10_counted X.2.1 G hl hG fu l1 l2 l3 r39.2 r47 hk0 hr47) (by decide) rfl rfl rfl (Nat.le_of_ble_eq_true rfl) ⟨Nat.le_of_ble_eq_true rfl, Nat.le_of_ble_eq_true rfl⟩ dX10_between_47 ?_
      obtain rfl := Option.some.inj hm
      exact g_iret C dX10_between_50
    · have hm := ife hm h29
      refine g_iconst (v := 0) C dX10_between_32 rfl ?_
      obtain rfl := Option.some.inj hm
      exact g_iret C dX10_between_33
  have J21 : ∀ (l1 : Int32) (l2 : Int32) (l3 : Int32) (M : Mem), f_X10_between_j21 fu   l1 l2 l3 M = some res → GW G X 4 (QX G X (.inl (some (vI res.1))) res.2) 21 [(0, vR 10 0), (1, vI l1), (2, vI l2), (3, vI l3)] [vR 10 0] M := by
    intro l1 l2 l3 M hm
    unfold f_X10_between_j21 at hm
    refine g_iconst (v := 1) C dX10_between_21 rfl ?_
    exact g_sub [0, 1, 2, 3] rfl (g_pc rfl (J22 l1 l2 l3 (1 : Int32) M hm))
  unfold f_X10_between at hm
  refine g_aload_n C 0 dX10_between_0 rfl rfl ?_
  refine g_aload_n C 0 dX10_between_1 rfl rfl ?_
  refine g_iload_n C 1 dX10_between_2 rfl rfl ?_
  obtain ⟨r3, hr3, hm⟩ := bnd_some hm
  refine g_callVi (As := [vI l1]) (rest := [vR 10 0]) C lk_X10_100 (k_X10_isObject X.2.1 G hl hG fu l1 M r3 hk0 hr3) (by decide) rfl rfl rfl (Nat.le_of_ble_eq_true rfl) ⟨Nat.le_of_ble_eq_true rfl, Nat.le_of_ble_eq_true rfl⟩ dX10_between_3 ?_
  refine g_if_eq (tgt := 21) C dX10_between_6 (by decide) (fun h6 => ?_) (fun h6 => ?_)
  · have hm := ift hm h6
    exact g_sub [0, 1, 2, 3] rfl (g_pc rfl (J21 l1 l2 l3 r3.2 hm))
  · have hm := ife hm h6
    refine g_aload_n C 0 dX10_between_9 rfl rfl ?_
    refine g_iload_n C 2 dX10_between_10 rfl rfl ?_
    obtain ⟨r11, hr11, hm⟩ := bnd_some hm
    refine g_callVi (As := [vI l2]) (rest := [vR 10 0]) C lk_X10_100 (k_X10_isObject X.2.1 G hl hG fu l2 r3.2 r11 hk0 hr11) (by decide) rfl rfl rfl (Nat.le_of_ble_eq_true rfl) ⟨Nat.le_of_ble_eq_true rfl, Nat.le_of_ble_eq_true rfl⟩ dX10_between_11 ?_
    refine g_if_eq (tgt := 21) C dX10_between_14 (by decide) (fun h14 => ?_) (fun h14 => ?_)
    · have hm := ift hm h14
      exact g_sub [0, 1, 2, 3] rfl (g_pc rfl (J21 l1 l2 l3 r11.2 hm))
    · have hm := ife hm h14
      refine g_iconst (v := 0) C dX10_between_17 rfl ?_
      refine g_goto (tgt := 22) C dX10_between_18 (by decide) ?_
      exact g_sub [0, 1, 2, 3] rfl (g_pc rfl (J22 l1 l2 l3 (0 : Int32) r11.2 hm))
def f_X10_cellNow_j32 (fu : Nat)   (l1 : Int32) (l2 : Int32) (M : Mem) : Option (Int32 × Mem) :=
  (f_X10_sideOf fu l1 l2 M).bind (fun r35 => some (r35.1, r35.2))
def f_X10_cellNow (fu : Nat) (l1 : Int32) (l2 : Int32) (M : Mem) : Option (Int32 × Mem) :=
  if l2 = (0 : Int32) then f_X10_cellNow_j32 fu l1 l2 M else if l2 = (1 : Int32) then f_X10_cellNow_j32 fu l1 l2 M else if l2 = (2 : Int32) then (f_X10_allCells fu  M).bind (fun r42 => (f_X10_isRedundant fu l1 r42.1 r42.2).bind (fun r45 => if r45.1 = 0 then some ((0 : Int32), r45.2) else some ((1 : Int32), r45.2))) else if l2 = (3 : Int32) then (f_X10_core fu  M).bind (fun r58 => some ((r58.1 >>> (l1 &&& 31)) &&& (1 : Int32), r58.2)) else (f_X10_holds fu l1 M).bind (fun r68 => if r68.1 = 0 then some ((0 : Int32), r68.2) else some ((1 : Int32), r68.2))
set_option maxHeartbeats 4000000 in
set_option maxRecDepth 100000 in
theorem k_X10_cellNow (l : Launch) (G : GE) (hl : l.stackTraces = false) (hG : GOK G) (fu : Nat) (l1 : Int32) (l2 : Int32) (M : Mem) (res : Int32 × Mem) (hk0 : (10, 0) ∈ gids G) (hm : f_X10_cellNow fu l1 l2 M = some res) : CT l G yX10_cellNow cX10_cellNow 3 (some .int) 6 [vR 10 0, vI l1, vI l2] M (.inl (some (vI res.1))) res.2 := by
  refine ct_of [(0, vR 10 0), (1, vI l1), (2, vI l2)] (by decide +kernel) hl hG (Nat.le_of_ble_eq_true rfl) rfl (List.forall_mem_cons.mpr ⟨Or.inl hk0, List.forall_mem_cons.mpr ⟨trivial, List.forall_mem_cons.mpr ⟨trivial, fun _ h => nomatch h⟩⟩⟩) (List.forall_mem_cons.mpr ⟨Or.inl hk0, List.forall_mem_cons.mpr ⟨trivial, List.forall_mem_cons.mpr ⟨trivial, fun _ h => nomatch h⟩⟩⟩) (fun X hX C => ?_)
  subst hX
  have Cl := C
  have J32 : ∀ (l1 : Int32) (l2 : Int32) (M : Mem), f_X10_cellNow_j32 fu   l1 l2 M = some res → GW G X 3 (QX G X (.inl (some (vI res.1))) res.2) 32 [(0, vR 10 0), (1, vI l1), (2, vI l2)] [] M := by
    intro l1 l2 M hm
    unfold f_X10_cellNow_j32 at hm
    refine g_aload_n C 0 dX10_cellNow_32 rfl rfl ?_
    refine g_iload_n C 1 dX10_cellNow_33 rfl rfl ?_
    refine g_iload_n C 2 dX10_cellNow_34 rfl rfl ?_
    obtain ⟨r35, hr35, hm⟩ := bnd_some hm
    refine g_callVi (As := [vI l1, vI l2]) (rest := []) C lk_X10_186 (k_X10_sideOf X.2.1 G hl hG fu l1 l2 M r35 hk0 hr35) (by decide) rfl rfl rfl (Nat.le_of_ble_eq_true rfl) ⟨Nat.le_of_ble_eq_true rfl, Nat.le_of_ble_eq_true rfl⟩ dX10_cellNow_35 ?_
    obtain rfl := Option.some.inj hm
    exact g_iret C dX10_cellNow_38
  unfold f_X10_cellNow at hm
  refine g_iload_n C 2 dX10_cellNow_0 rfl rfl ?_
  by_cases h1_0 : l2 = (0 : Int32)
  · have hm := ift hm h1_0
    refine g_tabIn (off := 31) (tgt := 32) C dX10_cellNow_1 (by rw [h1_0]; decide) (by rw [h1_0]; decide) (by rw [h1_0]; rfl) (by decide) ?_
    exact g_sub [0, 1, 2] rfl (g_pc rfl (J32 l1 l2 M hm))
  have hm := ife hm h1_0
  by_cases h1_1 : l2 = (1 : Int32)
  · have hm := ift hm h1_1
    refine g_tabIn (off := 31) (tgt := 32) C dX10_cellNow_1 (by rw [h1_1]; decide) (by rw [h1_1]; decide) (by rw [h1_1]; rfl) (by decide) ?_
    exact g_sub [0, 1, 2] rfl (g_pc rfl (J32 l1 l2 M hm))
  have hm := ife hm h1_1
  by_cases h1_2 : l2 = (2 : Int32)
  · have hm := ift hm h1_2
    refine g_tabIn (off := 38) (tgt := 39) C dX10_cellNow_1 (by rw [h1_2]; decide) (by rw [h1_2]; decide) (by rw [h1_2]; rfl) (by decide) ?_
    refine g_aload_n C 0 dX10_cellNow_39 rfl rfl ?_
    refine g_iload_n C 1 dX10_cellNow_40 rfl rfl ?_
    refine g_aload_n C 0 dX10_cellNow_41 rfl rfl ?_
    obtain ⟨r42, hr42, hm⟩ := bnd_some hm
    refine g_callVi (As := []) (rest := [vI l1, vR 10 0]) C lk_X10_192 (k_X10_allCells X.2.1 G hl hG fu  M r42 hk0 hr42) (by decide) rfl rfl rfl (Nat.le_of_ble_eq_true rfl) ⟨Nat.le_of_ble_eq_true rfl, Nat.le_of_ble_eq_true rfl⟩ dX10_cellNow_42 ?_
    obtain ⟨r45, hr45, hm⟩ := bnd_some hm
    refine g_callVi (As := [vI l1, vI r42.1]) (rest := []) C lk_X10_195 (k_X10_isRedundant X.2.1 G hl hG fu l1 r42.1 r42.2 r45 hk0 hr45) (by decide) rfl rfl rfl (Nat.le_of_ble_eq_true rfl) ⟨Nat.le_of_ble_eq_true rfl, Nat.le_of_ble_eq_true rfl⟩ dX10_cellNow_45 ?_
    refine g_if_eq (tgt := 55) C dX10_cellNow_48 (by decide) (fun h48 => ?_) (fun h48 => ?_)
    · have hm := ift hm h48
      refine g_iconst (v := 0) C dX10_cellNow_55 rfl ?_
      obtain rfl := Option.some.inj hm
      exact g_iret C dX10_cellNow_56
    · have hm := ife hm h48
      refine g_iconst (v := 1) C dX10_cellNow_51 rfl ?_
      refine g_goto (tgt := 56) C dX10_cellNow_52 (by decide) ?_
      obtain rfl := Option.some.inj hm
      exact g_iret C dX10_cellNow_56
  have hm := ife hm h1_2
  by_cases h1_3 : l2 = (3 : Int32)
  · have hm := ift hm h1_3
    refine g_tabIn (off := 56) (tgt := 57) C dX10_cellNow_1 (by rw [h1_3]; decide) (by rw [h1_3]; decide) (by rw [h1_3]; rfl) (by decide) ?_
    refine g_aload_n C 0 dX10_cellNow_57 rfl rfl ?_
    obtain ⟨r58, hr58, hm⟩ := bnd_some hm
    refine g_callVi (As := []) (rest := []) C lk_X10_233 (k_X10_core X.2.1 G hl hG fu  M r58 hk0 hr58) (by decide) rfl rfl rfl (Nat.le_of_ble_eq_true rfl) ⟨Nat.le_of_ble_eq_true rfl, Nat.le_of_ble_eq_true rfl⟩ dX10_cellNow_58 ?_
    refine g_iload_n C 1 dX10_cellNow_61 rfl rfl ?_
    refine g_ishr C dX10_cellNow_62 ?_
    refine g_iconst (v := 1) C dX10_cellNow_63 rfl ?_
    refine g_iand C dX10_cellNow_64 ?_
    obtain rfl := Option.some.inj hm
    exact g_iret C dX10_cellNow_65
  have hm := ife hm h1_3
  refine g_tabOut (tgt := 66) C dX10_cellNow_1 (tab_out 4 (by decide) (by intro j hj; rcases Nat.lt_succ_iff_lt_or_eq.mp hj with hj | rfl; rotate_left; exact h1_3; rcases Nat.lt_succ_iff_lt_or_eq.mp hj with hj | rfl; rotate_left; exact h1_2; rcases Nat.lt_succ_iff_lt_or_eq.mp hj with hj | rfl; rotate_left; exact h1_1; rcases Nat.lt_succ_iff_lt_or_eq.mp hj with hj | rfl; rotate_left; exact h1_0; exact absurd hj (Nat.not_lt_zero _))) (by decide) ?_
  refine g_aload_n C 0 dX10_cellNow_66 rfl rfl ?_
  refine g_iload_n C 1 dX10_cellNow_67 rfl rfl ?_
  obtain ⟨r68, hr68, hm⟩ := bnd_some hm
  refine g_callVi (As := [vI l1]) (rest := []) C lk_X10_236 (k_X10_holds X.2.1 G hl hG fu l1 M r68 hk0 hr68) (by decide) rfl rfl rfl (Nat.le_of_ble_eq_true rfl) ⟨Nat.le_of_ble_eq_true rfl, Nat.le_of_ble_eq_true rfl⟩ dX10_cellNow_68 ?_
  refine g_if_eq (tgt := 78) C dX10_cellNow_71 (by decide) (fun h71 => ?_) (fun h71 => ?_)
  · have hm := ift hm h71
    refine g_iconst (v := 0) C dX10_cellNow_78 rfl ?_
    obtain rfl := Option.some.inj hm
    exact g_iret C dX10_cellNow_79
  · have hm := ife hm h71
    refine g_iconst (v := 1) C dX10_cellNow_74 rfl ?_
    refine g_goto (tgt := 79) C dX10_cellNow_75 (by decide) ?_
    obtain rfl := Option.some.inj hm
    exact g_iret C dX10_cellNow_79
def f_X10_cell_j27 (fu : Nat)   (l1 : Int32) (l2 : Int32) (t1 : Int32) (M : Mem) : Option (Int32 × Mem) :=
  if ((mI M 10 0 0 t1).1 10 0 0) ≤ 0 then (f_X10_cellNow fu l1 l2 (mI M 10 0 0 t1)).bind (fun r44 => some (r44.1, r44.2)) else some ((0 : Int32), (mI M 10 0 0 t1))
def f_X10_cell (fu : Nat) (l1 : Int32) (l2 : Int32) (M : Mem) : Option (Int32 × Mem) :=
  (f_X10_isCell fu l1 M).bind (fun r3 => if r3.1 = 0 then f_X10_cell_j27 fu l1 l2 (1 : Int32) r3.2 else (f_X10_within fu l2 (0 : Int32) (4 : Int32) r3.2).bind (fun r16 => if r16.1 = 0 then f_X10_cell_j27 fu l1 l2 (2 : Int32) r16.2 else f_X10_cell_j27 fu l1 l2 (0 : Int32) r16.2))
set_option maxHeartbeats 4000000 in
set_option maxRecDepth 100000 in
theorem k_X10_cell (l : Launch) (G : GE) (hl : l.stackTraces = false) (hG : GOK G) (fu : Nat) (l1 : Int32) (l2 : Int32) (M : Mem) (res : Int32 × Mem) (hk0 : (10, 0) ∈ gids G) (hm : f_X10_cell fu l1 l2 M = some res) : CT l G yX10_cell cX10_cell 3 (some .int) 7 [vR 10 0, vI l1, vI l2] M (.inl (some (vI res.1))) res.2 := by
  refine ct_of [(0, vR 10 0), (1, vI l1), (2, vI l2)] (by decide +kernel) hl hG (Nat.le_of_ble_eq_true rfl) rfl (List.forall_mem_cons.mpr ⟨Or.inl hk0, List.forall_mem_cons.mpr ⟨trivial, List.forall_mem_cons.mpr ⟨trivial, fun _ h => nomatch h⟩⟩⟩) (List.forall_mem_cons.mpr ⟨Or.inl hk0, List.forall_mem_cons.mpr ⟨trivial, List.forall_mem_cons.mpr ⟨trivial, fun _ h => nomatch h⟩⟩⟩) (fun X hX C => ?_)
  subst hX
  have Cl := C
  have J27 : ∀ (l1 : Int32) (l2 : Int32) (t1 : Int32) (M : Mem), f_X10_cell_j27 fu   l1 l2 t1 M = some res → GW G X 3 (QX G X (.inl (some (vI res.1))) res.2) 27 [(0, vR 10 0), (1, vI l1), (2, vI l2)] [vI t1, vR 10 0] M := by
    intro l1 l2 t1 M hm
    unfold f_X10_cell_j27 at hm
    refine g_puti C (by decide) kf_X10_72 rfl rfl rfl dX10_cell_27 ?_
    refine g_aload_n C 0 dX10_cell_30 rfl rfl ?_
    refine g_geti (k := 0) C (by decide) kf_X10_72 rfl dX10_cell_31 ?_
    refine g_if_le (tgt := 41) C dX10_cell_34 (by decide) (fun h34 => ?_) (fun h34 => ?_)
    · have hm := ift hm h34
      refine g_aload_n C 0 dX10_cell_41 rfl rfl ?_
      refine g_iload_n C 1 dX10_cell_42 rfl rfl ?_
      refine g_iload_n C 2 dX10_cell_43 rfl rfl ?_
      obtain ⟨r44, hr44, hm⟩ := bnd_some hm
      refine g_callVi (As := [vI l1, vI l2]) (rest := []) C lk_X10_239 (k_X10_cellNow X.2.1 G hl hG fu l1 l2 (mI M 10 0 0 t1) r44 hk0 hr44) (by decide) rfl rfl rfl (Nat.le_of_ble_eq_true rfl) ⟨Nat.le_of_ble_eq_true rfl, Nat.le_of_ble_eq_true rfl⟩ dX10_cell_44 ?_
      obtain rfl := Option.some.inj hm
      exact g_iret C dX10_cell_47
    · have hm := ife hm h34
      refine g_iconst (v := 0) C dX10_cell_37 rfl ?_
      refine g_goto (tgt := 47) C dX10_cell_38 (by decide) ?_
      obtain rfl := Option.some.inj hm
      exact g_iret C dX10_cell_47
  unfold f_X10_cell at hm
  refine g_aload_n C 0 dX10_cell_0 rfl rfl ?_
  refine g_aload_n C 0 dX10_cell_1 rfl rfl ?_
  refine g_iload_n C 1 dX10_cell_2 rfl rfl ?_
  obtain ⟨r3, hr3, hm⟩ := bnd_some hm
  refine g_callVi (As := [vI l1]) (rest := [vR 10 0]) C lk_X10_123 (k_X10_isCell X.2.1 G hl hG fu l1 M r3 hk0 hr3) (by decide) rfl rfl rfl (Nat.le_of_ble_eq_true rfl) ⟨Nat.le_of_ble_eq_true rfl, Nat.le_of_ble_eq_true rfl⟩ dX10_cell_3 ?_
  refine g_if_ne (tgt := 13) C dX10_cell_6 (by decide) (fun h6 => ?_) (fun h6 => ?_)
  · have hm := ife hm h6
    refine g_iload_n C 2 dX10_cell_13 rfl rfl ?_
    refine g_iconst (v := 0) C dX10_cell_14 rfl ?_
    refine g_iconst (v := 4) C dX10_cell_15 rfl ?_
    obtain ⟨r16, hr16, hm⟩ := bnd_some hm
    refine g_callSi (As := [vI l2, vI (0 : Int32), vI (4 : Int32)]) (rest := [vR 10 0]) C lk_X10_75 (k_X10_within X.2.1 G hl hG fu l2 (0 : Int32) (4 : Int32) r3.2 r16  hr16) rfl rfl (Nat.le_of_ble_eq_true rfl) ⟨Nat.le_of_ble_eq_true rfl, Nat.le_of_ble_eq_true rfl⟩ dX10_cell_16 ?_
    refine g_if_eq (tgt := 26) C dX10_cell_19 (by decide) (fun h19 => ?_) (fun h19 => ?_)
    · have hm := ift hm h19
      refine g_iconst (v := 2) C dX10_cell_26 rfl ?_
      exact g_sub [0, 1, 2] rfl (g_pc rfl (J27 l1 l2 (2 : Int32) r16.2 hm))
    · have hm := ife hm h19
      refine g_iconst (v := 0) C dX10_cell_22 rfl ?_
      refine g_goto (tgt := 27) C dX10_cell_23 (by decide) ?_
      exact g_sub [0, 1, 2] rfl (g_pc rfl (J27 l1 l2 (0 : Int32) r16.2 hm))
  · have hm := ift hm h6
    refine g_iconst (v := 1) C dX10_cell_9 rfl ?_
    refine g_goto (tgt := 27) C dX10_cell_10 (by decide) ?_
    exact g_sub [0, 1, 2] rfl (g_pc rfl (J27 l1 l2 (1 : Int32) r3.2 hm))
def f_X10_pairs_j93 (fu : Nat)  (l1 : Int32) (l3 : Int32) (t0 : Int32) (t1 : Int32) (M : Mem) : Option ((Int32 × Int32 × Mem) ⊕ (Int32 × Mem)) :=
  some (Sum.inl (t0 + t1, l3 + (1 : Int32), M))
def f_X10_pairs_j62 (fu : Nat)  (l1 : Int32) (l2 : Int32) (l3 : Int32) (t0 : Int32) (M : Mem) : Option ((Int32 × Int32 × Mem) ⊕ (Int32 × Mem)) :=
  if l1 = 0 then if t0 ≤ 0 then f_X10_pairs_j93 fu l1 l3 l2 (0 : Int32) M else f_X10_pairs_j93 fu l1 l3 l2 (1 : Int32) M else if t0 = (1 : Int32) then f_X10_pairs_j93 fu l1 l3 l2 (1 : Int32) M else f_X10_pairs_j93 fu l1 l3 l2 (0 : Int32) M
def f_X10_pairs_b13 (fu : Nat)  (l1 : Int32) (l2 : Int32) (l3 : Int32) (M : Mem) : Option ((Int32 × Int32 × Mem) ⊕ (Int32 × Mem)) :=
  if ((M.1 10 0 1) * (M.1 10 0 1)) ≤ l3 then some (Sum.inr (l2, M)) else if ¬ (M.1 10 0 1) = 0 then if ¬ (M.1 10 0 1) = 0 then if (l3 / (M.1 10 0 1)) = (l3 - l3 / (M.1 10 0 1) * (M.1 10 0 1)) then f_X10_pairs_j62 fu l1 l2 l3 (0 : Int32) M else if ¬ (M.1 10 0 1) = 0 then if ¬ (M.1 10 0 1) = 0 then (f_X10_counted fu (l3 / (M.1 10 0 1)) (l3 - l3 / (M.1 10 0 1) * (M.1 10 0 1)) l1 M).bind (fun r59 => f_X10_pairs_j62 fu l1 l2 l3 r59.1 r59.2) else none else none else none else none
def f_X10_pairs_h13 (fu : Nat)   (l1 : Int32) (l2 : Int32) (l3 : Int32) (M : Mem) : Option (Int32 × Mem) :=
  (lp_run (fun s => f_X10_pairs_b13 fu  l1 s.1 s.2.1 s.2.2) fu (l2, l3, M)).bind (fun r13 => match r13 with
    | (l2, M) => some (l2, M))
def f_X10_pairs (fu : Nat) (l1 : Int32) (M : Mem) : Option (Int32 × Mem) :=
  (f_X10_allCells fu  M).bind (fun r2 => (f_X10_layNames fu r2.1 r2.2).bind (fun r5 => f_X10_pairs_h13 fu l1 (0 : Int32) (0 : Int32) r5.2))
set_option maxHeartbeats 4000000 in
set_option maxRecDepth 100000 in
theorem k_X10_pairs (l : Launch) (G : GE) (hl : l.stackTraces = false) (hG : GOK G) (fu : Nat) (l1 : Int32) (M : Mem) (res : Int32 × Mem) (hk0 : (10, 0) ∈ gids G) (hm : f_X10_pairs fu l1 M = some res) : CT l G yX10_pairs cX10_pairs 5 (some .int) 4 [vR 10 0, vI l1] M (.inl (some (vI res.1))) res.2 := by
  refine ct_of [(0, vR 10 0), (1, vI l1)] (by decide +kernel) hl hG (Nat.le_of_ble_eq_true rfl) rfl (List.forall_mem_cons.mpr ⟨Or.inl hk0, List.forall_mem_cons.mpr ⟨trivial, fun _ h => nomatch h⟩⟩) (List.forall_mem_cons.mpr ⟨Or.inl hk0, List.forall_mem_cons.mpr ⟨trivial, fun _ h => nomatch h⟩⟩) (fun X hX C => ?_)
  subst hX
  have Cl := C
  have J13 : ∀ (l1 : Int32) (l2 : Int32) (l3 : Int32) (M : Mem), f_X10_pairs_h13 fu   l1 l2 l3 M = some res → GW G X 5 (QX G X (.inl (some (vI res.1))) res.2) 13 [(0, vR 10 0), (1, vI l1), (2, vI l2), (3, vI l3)] [] M := by
    intro l1 l2 l3 M hm
    unfold f_X10_pairs_h13 at hm
    obtain ⟨r13, hL13, hk13⟩ := bnd_some hm
    have hx13 : ∀ (l2 : Int32) (M : Mem), (l2, M) = r13 → GW G X 5 (QX G X (.inl (some (vI res.1))) res.2) 101 [(2, vI l2)] [] M := by
      intro l2 M he
      subst he
      have hm := hk13
      try dsimp only at hm
      refine g_iload_n C 0 dX10_pairs_101 rfl rfl ?_
      obtain rfl := Option.some.inj hm
      exact g_iret C dX10_pairs_102
    refine lp_ind2 (P := (fun l2 l3 M => GW G X 5 (QX G X (.inl (some (vI res.1))) res.2) 13 [(0, vR 10 0), (1, vI l1), (2, vI l2), (3, vI l3)] [] M)) (r := r13) ?_ fu l2 l3 M hL13
    intro l2 l3 M o13 hm K13
    have J93 : ∀ (l3 : Int32) (t0 : Int32) (t1 : Int32) (M : Mem), f_X10_pairs_j93 fu  l1 l3 t0 t1 M = some o13 → GW G X 5 (QX G X (.inl (some (vI res.1))) res.2) 93 [(0, vR 10 0), (1, vI l1), (3, vI l3)] [vI t1, vI t0] M := by
      intro l3 t0 t1 M hm
      unfold f_X10_pairs_j93 at hm
      refine g_iadd C dX10_pairs_93 ?_
      refine g_istore_n (ls' := [(2, vI (t0 + t1)), (0, vR 10 0), (1, vI l1), (3, vI l3)]) C dX10_pairs_94 rfl (by decide) rfl ?_
      refine g_iinc (ls' := [(3, vI (l3 + (1 : Int32))), (2, vI (t0 + t1)), (0, vR 10 0), (1, vI l1)]) (v := l3 + (1 : Int32)) C 3 dX10_pairs_95 rfl (iv_p1 _) (by decide) rfl ?_
      refine g_goto (tgt := 13) C dX10_pairs_98 (by decide) ?_
      obtain rfl := Option.some.inj hm
      exact g_sub [2, 3, 1, 0] rfl (g_pc rfl (K13.1 (t0 + t1) (l3 + (1 : Int32)) M rfl))
    have J62 : ∀ (l2 : Int32) (l3 : Int32) (t0 : Int32) (M : Mem), f_X10_pairs_j62 fu  l1 l2 l3 t0 M = some o13 → GW G X 5 (QX G X (.inl (some (vI res.1))) res.2) 62 [(0, vR 10 0), (1, vI l1), (2, vI l2), (3, vI l3)] [vI t0] M := by
      intro l2 l3 t0 M hm
      unfold f_X10_pairs_j62 at hm
      refine g_istore (ls' := [(4, vI t0), (0, vR 10 0), (1, vI l1), (2, vI l2), (3, vI l3)]) C dX10_pairs_62 (by decide) rfl ?_
      refine g_iload_n C 3 dX10_pairs_64 rfl rfl ?_
      refine g_iload_n C 2 dX10_pairs_65 rfl rfl ?_
      refine g_if_eq (tgt := 83) C dX10_pairs_66 (by decide) (fun h66 => ?_) (fun h66 => ?_)
      · have hm := ift hm h66
        refine g_iload C 0 dX10_pairs_83 rfl ?_
        refine g_if_le (tgt := 92) C dX10_pairs_85 (by decide) (fun h85 => ?_) (fun h85 => ?_)
        · have hm := ift hm h85
          refine g_iconst (v := 0) C dX10_pairs_92 rfl ?_
          exact g_sub [1, 2, 4] rfl (g_pc rfl (J93 l3 l2 (0 : Int32) M hm))
        · have hm := ife hm h85
          refine g_iconst (v := 1) C dX10_pairs_88 rfl ?_
          refine g_goto (tgt := 93) C dX10_pairs_89 (by decide) ?_
          exact g_sub [1, 2, 4] rfl (g_pc rfl (J93 l3 l2 (1 : Int32) M hm))
      · have hm := ife hm h66
        refine g_iload C 0 dX10_pairs_69 rfl ?_
        refine g_iconst (v := 1) C dX10_pairs_71 rfl ?_
        refine g_icmp_ne (tgt := 79) C dX10_pairs_72 (by decide) (fun h72 => ?_) (fun h72 => ?_)
        · have hm := ife hm h72
          refine g_iconst (v := 0) C dX10_pairs_79 rfl ?_
          refine g_goto (tgt := 93) C dX10_pairs_80 (by decide) ?_
          exact g_sub [1, 2, 4] rfl (g_pc rfl (J93 l3 l2 (0 : Int32) M hm))
        · have hm := ift hm h72
          refine g_iconst (v := 1) C dX10_pairs_75 rfl ?_
          refine g_goto (tgt := 93) C dX10_pairs_76 (by decide) ?_
          exact g_sub [1, 2, 4] rfl (g_pc rfl (J93 l3 l2 (1 : Int32) M hm))
    unfold f_X10_pairs_b13 at hm
    refine g_iload_n C 3 dX10_pairs_13 rfl rfl ?_
    refine g_aload_n C 0 dX10_pairs_14 rfl rfl ?_
    refine g_geti (k := 0) C (by decide) kf_X10_7 rfl dX10_pairs_15 ?_
    refine g_aload_n C 0 dX10_pairs_18 rfl rfl ?_
    refine g_geti (k := 0) C (by decide) kf_X10_7 rfl dX10_pairs_19 ?_
    refine g_imul C dX10_pairs_22 ?_
    refine g_icmp_ge (tgt := 101) C dX10_pairs_23 (by decide) (fun h23 => ?_) (fun h23 => ?_)
    · have hm := ift hm h23
      obtain rfl := Option.some.inj hm
      exact g_sub [2] rfl (g_pc rfl (hx13 l2 M (K13.2 _ rfl)))
    · have hm := ife hm h23
      refine g_iload_n C 3 dX10_pairs_26 rfl rfl ?_
      refine g_aload_n C 0 dX10_pairs_27 rfl rfl ?_
      refine g_geti (k := 0) C (by decide) kf_X10_7 rfl dX10_pairs_28 ?_
      obtain ⟨hz31, hm⟩ := ifn hm
      refine g_idiv C dX10_pairs_31 hz31 ?_
      refine g_iload_n C 3 dX10_pairs_32 rfl rfl ?_
      refine g_aload_n C 0 dX10_pairs_33 rfl rfl ?_
      refine g_geti (k := 0) C (by decide) kf_X10_7 rfl dX10_pairs_34 ?_
      obtain ⟨hz37, hm⟩ := ifn hm
      refine g_irem C dX10_pairs_37 hz37 ?_
      refine g_icmp_ne (tgt := 45) C dX10_pairs_38 (by decide) (fun h38 => ?_) (fun h38 => ?_)
      · have hm := ife hm h38
        refine g_aload_n C 0 dX10_pairs_45 rfl rfl ?_
        refine g_iload_n C 3 dX10_pairs_46 rfl rfl ?_
        refine g_aload_n C 0 dX10_pairs_47 rfl rfl ?_
        refine g_geti (k := 0) C (by decide) kf_X10_7 rfl dX10_pairs_48 ?_
        obtain ⟨hz51, hm⟩ := ifn hm
        refine g_idiv C dX10_pairs_51 hz51 ?_
        refine g_iload_n C 3 dX10_pairs_52 rfl rfl ?_
        refine g_aload_n C 0 dX10_pairs_53 rfl rfl ?_
        refine g_geti (k := 0) C (by decide) kf_X10_7 rfl dX10_pairs_54 ?_
        obtain ⟨hz57, hm⟩ := ifn hm
        refine g_irem C dX10_pairs_57 hz57 ?_
        refine g_iload_n C 1 dX10_pairs_58 rfl rfl ?_
        obtain ⟨r59, hr59, hm⟩ := bnd_some hm
        refine g_callVi (As := [vI (l3 / (M.1 10 0 1)), vI (l3 - l3 / (M.1 10 0 1) * (M.1 10 0 1)), vI l1]) (rest := []) C lk_X10_229 (k_X10_counted X.2.1 G hl hG fu (l3 / (M.1 10 0 1)) (l3 - l3 / (M.1 10 0 1) * (M.1 10 0 1)) l1 M r59 hk0 hr59) (by decide) rfl rfl rfl (Nat.le_of_ble_eq_true rfl) ⟨Nat.le_of_ble_eq_true rfl, Nat.le_of_ble_eq_true rfl⟩ dX10_pairs_59 ?_
        exact g_sub [0, 1, 2, 3] rfl (g_pc rfl (J62 l2 l3 r59.1 r59.2 hm))
      · have hm := ift hm h38
        refine g_iconst (v := 0) C dX10_pairs_41 rfl ?_
        refine g_goto (tgt := 62) C dX10_pairs_42 (by decide) ?_
        exact g_sub [0, 1, 2, 3] rfl (g_pc rfl (J62 l2 l3 (0 : Int32) M hm))
  unfold f_X10_pairs at hm
  refine g_aload_n C 0 dX10_pairs_0 rfl rfl ?_
  refine g_aload_n C 0 dX10_pairs_1 rfl rfl ?_
  obtain ⟨r2, hr2, hm⟩ := bnd_some hm
  refine g_callVi (As := []) (rest := [vR 10 0]) C lk_X10_192 (k_X10_allCells X.2.1 G hl hG fu  M r2 hk0 hr2) (by decide) rfl rfl rfl (Nat.le_of_ble_eq_true rfl) ⟨Nat.le_of_ble_eq_true rfl, Nat.le_of_ble_eq_true rfl⟩ dX10_pairs_2 ?_
  obtain ⟨r5, hr5, hm⟩ := bnd_some hm
  refine g_callVi (As := [vI r2.1]) (rest := []) C lk_X10_223 (k_X10_layNames X.2.1 G hl hG fu r2.1 r2.2 r5 hk0 hr5) (by decide) rfl rfl rfl (Nat.le_of_ble_eq_true rfl) ⟨Nat.le_of_ble_eq_true rfl, Nat.le_of_ble_eq_true rfl⟩ dX10_pairs_5 ?_
  refine g_pop C dX10_pairs_8 rfl ?_
  refine g_iconst (v := 0) C dX10_pairs_9 rfl ?_
  refine g_istore_n (ls' := [(2, vI (0 : Int32)), (0, vR 10 0), (1, vI l1)]) C dX10_pairs_10 rfl (by decide) rfl ?_
  refine g_iconst (v := 0) C dX10_pairs_11 rfl ?_
  refine g_istore_n (ls' := [(3, vI (0 : Int32)), (2, vI (0 : Int32)), (0, vR 10 0), (1, vI l1)]) C dX10_pairs_12 rfl (by decide) rfl ?_
  exact g_sub [2, 3, 1, 0] rfl (g_pc rfl (J13 l1 (0 : Int32) (0 : Int32) r5.2 hm))
def f_X10_holding_j26 (fu : Nat)   (l2 : Int32) (t0 : Int32) (t1 : Int32) (M : Mem) : Option ((Int32 × Int32 × Mem) ⊕ (Int32 × Mem)) :=
  some (Sum.inl (t0 + t1, l2 + (1 : Int32), M))
def f_X10_holding_b4 (fu : Nat)   (l1 : Int32) (l2 : Int32) (M : Mem) : Option ((Int32 × Int32 × Mem) ⊕ (Int32 × Mem)) :=
  if (M.1 10 0 7) ≤ l2 then some (Sum.inr (l1, M)) else (f_X10_holds fu l2 M).bind (fun r15 => if r15.1 = 0 then f_X10_holding_j26 fu l2 l1 (0 : Int32) r15.2 else f_X10_holding_j26 fu l2 l1 (1 : Int32) r15.2)
def f_X10_holding_h4 (fu : Nat)   (l1 : Int32) (l2 : Int32) (M : Mem) : Option (Int32 × Mem) :=
  (lp_run (fun s => f_X10_holding_b4 fu   s.1 s.2.1 s.2.2) fu (l1, l2, M)).bind (fun r4 => match r4 with
    | (l1, M) => some (l1, M))
def f_X10_holding (fu : Nat) (M : Mem) : Option (Int32 × Mem) :=
  f_X10_holding_h4 fu (0 : Int32) (0 : Int32) M
set_option maxHeartbeats 4000000 in
set_option maxRecDepth 100000 in
theorem k_X10_holding (l : Launch) (G : GE) (hl : l.stackTraces = false) (hG : GOK G) (fu : Nat)  (M : Mem) (res : Int32 × Mem) (hk0 : (10, 0) ∈ gids G) (hm : f_X10_holding fu  M = some res) : CT l G yX10_holding cX10_holding 3 (some .int) 4 [vR 10 0] M (.inl (some (vI res.1))) res.2 := by
  refine ct_of [(0, vR 10 0)] (by decide +kernel) hl hG (Nat.le_of_ble_eq_true rfl) rfl (List.forall_mem_cons.mpr ⟨Or.inl hk0, fun _ h => nomatch h⟩) (List.forall_mem_cons.mpr ⟨Or.inl hk0, fun _ h => nomatch h⟩) (fun X hX C => ?_)
  subst hX
  have Cl := C
  have J4 : ∀ (l1 : Int32) (l2 : Int32) (M : Mem), f_X10_holding_h4 fu   l1 l2 M = some res → GW G X 3 (QX G X (.inl (some (vI res.1))) res.2) 4 [(0, vR 10 0), (1, vI l1), (2, vI l2)] [] M := by
    intro l1 l2 M hm
    unfold f_X10_holding_h4 at hm
    obtain ⟨r4, hL4, hk4⟩ := bnd_some hm
    have hx4 : ∀ (l1 : Int32) (M : Mem), (l1, M) = r4 → GW G X 3 (QX G X (.inl (some (vI res.1))) res.2) 34 [(1, vI l1)] [] M := by
      intro l1 M he
      subst he
      have hm := hk4
      try dsimp only at hm
      refine g_iload_n C 0 dX10_holding_34 rfl rfl ?_
      obtain rfl := Option.some.inj hm
      exact g_iret C dX10_holding_35
    refine lp_ind2 (P := (fun l1 l2 M => GW G X 3 (QX G X (.inl (some (vI res.1))) res.2) 4 [(0, vR 10 0), (1, vI l1), (2, vI l2)] [] M)) (r := r4) ?_ fu l1 l2 M hL4
    intro l1 l2 M o4 hm K4
    have J26 : ∀ (l2 : Int32) (t0 : Int32) (t1 : Int32) (M : Mem), f_X10_holding_j26 fu   l2 t0 t1 M = some o4 → GW G X 3 (QX G X (.inl (some (vI res.1))) res.2) 26 [(0, vR 10 0), (2, vI l2)] [vI t1, vI t0] M := by
      intro l2 t0 t1 M hm
      unfold f_X10_holding_j26 at hm
      refine g_iadd C dX10_holding_26 ?_
      refine g_istore_n (ls' := [(1, vI (t0 + t1)), (0, vR 10 0), (2, vI l2)]) C dX10_holding_27 rfl (by decide) rfl ?_
      refine g_iinc (ls' := [(2, vI (l2 + (1 : Int32))), (1, vI (t0 + t1)), (0, vR 10 0)]) (v := l2 + (1 : Int32)) C 2 dX10_holding_28 rfl (iv_p1 _) (by decide) rfl ?_
      refine g_goto (tgt := 4) C dX10_holding_31 (by decide) ?_
      obtain rfl := Option.some.inj hm
      exact g_sub [2, 1, 0] rfl (g_pc rfl (K4.1 (t0 + t1) (l2 + (1 : Int32)) M rfl))
    unfold f_X10_holding_b4 at hm
    refine g_iload_n C 2 dX10_holding_4 rfl rfl ?_
    refine g_aload_n C 0 dX10_holding_5 rfl rfl ?_
    refine g_geti (k := 0) C (by decide) kf_X10_82 rfl dX10_holding_6 ?_
    refine g_icmp_ge (tgt := 34) C dX10_holding_9 (by decide) (fun h9 => ?_) (fun h9 => ?_)
    · have hm := ift hm h9
      obtain rfl := Option.some.inj hm
      exact g_sub [1] rfl (g_pc rfl (hx4 l1 M (K4.2 _ rfl)))
    · have hm := ife hm h9
      refine g_iload_n C 1 dX10_holding_12 rfl rfl ?_
      refine g_aload_n C 0 dX10_holding_13 rfl rfl ?_
      refine g_iload_n C 2 dX10_holding_14 rfl rfl ?_
      obtain ⟨r15, hr15, hm⟩ := bnd_some hm
      refine g_callVi (As := [vI l2]) (rest := [vI l1]) C lk_X10_236 (k_X10_holds X.2.1 G hl hG fu l2 M r15 hk0 hr15) (by decide) rfl rfl rfl (Nat.le_of_ble_eq_true rfl) ⟨Nat.le_of_ble_eq_true rfl, Nat.le_of_ble_eq_true rfl⟩ dX10_holding_15 ?_
      refine g_if_eq (tgt := 25) C dX10_holding_18 (by decide) (fun h18 => ?_) (fun h18 => ?_)
      · have hm := ift hm h18
        refine g_iconst (v := 0) C dX10_holding_25 rfl ?_
        exact g_sub [0, 2] rfl (g_pc rfl (J26 l2 l1 (0 : Int32) r15.2 hm))
      · have hm := ife hm h18
        refine g_iconst (v := 1) C dX10_holding_21 rfl ?_
        refine g_goto (tgt := 26) C dX10_holding_22 (by decide) ?_
        exact g_sub [0, 2] rfl (g_pc rfl (J26 l2 l1 (1 : Int32) r15.2 hm))
  unfold f_X10_holding at hm
  refine g_iconst (v := 0) C dX10_holding_0 rfl ?_
  refine g_istore_n (ls' := [(1, vI (0 : Int32)), (0, vR 10 0)]) C dX10_holding_1 rfl (by decide) rfl ?_
  refine g_iconst (v := 0) C dX10_holding_2 rfl ?_
  refine g_istore_n (ls' := [(2, vI (0 : Int32)), (1, vI (0 : Int32)), (0, vR 10 0)]) C dX10_holding_3 rfl (by decide) rfl ?_
  exact g_sub [2, 1, 0] rfl (g_pc rfl (J4 (0 : Int32) (0 : Int32) M hm))
def f_X10_bits_b4 (fu : Nat)  (l0 : Int32) (l1 : Int32) (l2 : Int32) (M : Mem) : Option ((Int32 × Int32 × Mem) ⊕ (Int32 × Mem)) :=
  if (10 : Int32) ≤ l2 then some (Sum.inr (l1, M)) else some (Sum.inl (l1 + ((l0 >>> (l2 &&& 31)) &&& (1 : Int32)), l2 + (1 : Int32), M))
def f_X10_bits_h4 (fu : Nat)   (l0 : Int32) (l1 : Int32) (l2 : Int32) (M : Mem) : Option (Int32 × Mem) :=
  (lp_run (fun s => f_X10_bits_b4 fu  l0 s.1 s.2.1 s.2.2) fu (l1, l2, M)).bind (fun r4 => match r4 with
    | (l1, M) => some (l1, M))
def f_X10_bits (fu : Nat) (l0 : Int32) (M : Mem) : Option (Int32 × Mem) :=
  f_X10_bits_h4 fu l0 (0 : Int32) (0 : Int32) M
set_option maxHeartbeats 4000000 in
set_option maxRecDepth 100000 in
theorem k_X10_bits (l : Launch) (G : GE) (hl : l.stackTraces = false) (hG : GOK G) (fu : Nat) (l0 : Int32) (M : Mem) (res : Int32 × Mem)  (hm : f_X10_bits fu l0 M = some res) : CT l G yX10_bits cX10_bits 3 (some .int) 0 [vI l0] M (.inl (some (vI res.1))) res.2 := by
  refine ct_of [(0, vI l0)] (by decide +kernel) hl hG (Nat.le_of_ble_eq_true rfl) rfl (List.forall_mem_cons.mpr ⟨trivial, fun _ h => nomatch h⟩) (List.forall_mem_cons.mpr ⟨trivial, fun _ h => nomatch h⟩) (fun X hX C => ?_)
  subst hX
  have Cl := C
  have J4 : ∀ (l0 : Int32) (l1 : Int32) (l2 : Int32) (M : Mem), f_X10_bits_h4 fu   l0 l1 l2 M = some res → GW G X 3 (QX G X (.inl (some (vI res.1))) res.2) 4 [(0, vI l0), (1, vI l1), (2, vI l2)] [] M := by
    intro l0 l1 l2 M hm
    unfold f_X10_bits_h4 at hm
    obtain ⟨r4, hL4, hk4⟩ := bnd_some hm
    have hx4 : ∀ (l1 : Int32) (M : Mem), (l1, M) = r4 → GW G X 3 (QX G X (.inl (some (vI res.1))) res.2) 24 [(1, vI l1)] [] M := by
      intro l1 M he
      subst he
      have hm := hk4
      try dsimp only at hm
      refine g_iload_n C 0 dX10_bits_24 rfl rfl ?_
      obtain rfl := Option.some.inj hm
      exact g_iret C dX10_bits_25
    refine lp_ind2 (P := (fun l1 l2 M => GW G X 3 (QX G X (.inl (some (vI res.1))) res.2) 4 [(0, vI l0), (1, vI l1), (2, vI l2)] [] M)) (r := r4) ?_ fu l1 l2 M hL4
    intro l1 l2 M o4 hm K4
    unfold f_X10_bits_b4 at hm
    refine g_iload_n C 2 dX10_bits_4 rfl rfl ?_
    refine g_bipush (v := 10) C dX10_bits_5 rfl ?_
    refine g_icmp_ge (tgt := 24) C dX10_bits_7 (by decide) (fun h7 => ?_) (fun h7 => ?_)
    · have hm := ift hm h7
      obtain rfl := Option.some.inj hm
      exact g_sub [1] rfl (g_pc rfl (hx4 l1 M (K4.2 _ rfl)))
    · have hm := ife hm h7
      refine g_iload_n C 1 dX10_bits_10 rfl rfl ?_
      refine g_iload_n C 0 dX10_bits_11 rfl rfl ?_
      refine g_iload_n C 2 dX10_bits_12 rfl rfl ?_
      refine g_ishr C dX10_bits_13 ?_
      refine g_iconst (v := 1) C dX10_bits_14 rfl ?_
      refine g_iand C dX10_bits_15 ?_
      refine g_iadd C dX10_bits_16 ?_
      refine g_istore_n (ls' := [(1, vI (l1 + ((l0 >>> (l2 &&& 31)) &&& (1 : Int32)))), (0, vI l0), (2, vI l2)]) C dX10_bits_17 rfl (by decide) rfl ?_
      refine g_iinc (ls' := [(2, vI (l2 + (1 : Int32))), (1, vI (l1 + ((l0 >>> (l2 &&& 31)) &&& (1 : Int32)))), (0, vI l0)]) (v := l2 + (1 : Int32)) C 2 dX10_bits_18 rfl (iv_p1 _) (by decide) rfl ?_
      refine g_goto (tgt := 4) C dX10_bits_21 (by decide) ?_
      obtain rfl := Option.some.inj hm
      exact g_sub [2, 1, 0] rfl (g_pc rfl (K4.1 (l1 + ((l0 >>> (l2 &&& 31)) &&& (1 : Int32))) (l2 + (1 : Int32)) M rfl))
  unfold f_X10_bits at hm
  refine g_iconst (v := 0) C dX10_bits_0 rfl ?_
  refine g_istore_n (ls' := [(1, vI (0 : Int32)), (0, vI l0)]) C dX10_bits_1 rfl (by decide) rfl ?_
  refine g_iconst (v := 0) C dX10_bits_2 rfl ?_
  refine g_istore_n (ls' := [(2, vI (0 : Int32)), (1, vI (0 : Int32)), (0, vI l0)]) C dX10_bits_3 rfl (by decide) rfl ?_
  exact g_sub [2, 1, 0] rfl (g_pc rfl (J4 l0 (0 : Int32) (0 : Int32) M hm))
def f_X10_number (fu : Nat) (l1 : Int32) (M : Mem) : Option (Int32 × Mem) :=
  if l1 = (0 : Int32) then some (M.1 10 0 1, M) else if l1 = (1 : Int32) then some (M.1 10 0 2, M) else if l1 = (2 : Int32) then some (M.1 10 0 7, M) else if l1 = (3 : Int32) then some (M.1 10 0 13, M) else if l1 = (4 : Int32) then (f_X10_allCells fu  M).bind (fun r66 => (f_X10_layNames fu r66.1 r66.2).bind (fun r69 => some (r69.1, r69.2))) else if l1 = (5 : Int32) then (f_X10_pairs fu (1 : Int32) M).bind (fun r75 => some (r75.1, r75.2)) else if l1 = (6 : Int32) then (f_X10_holding fu  M).bind (fun r80 => some (r80.1, r80.2)) else (f_X10_core fu  M).bind (fun r85 => (f_X10_bits fu r85.1 r85.2).bind (fun r88 => some (r88.1, r88.2)))
set_option maxHeartbeats 4000000 in
set_option maxRecDepth 100000 in
theorem k_X10_number (l : Launch) (G : GE) (hl : l.stackTraces = false) (hG : GOK G) (fu : Nat) (l1 : Int32) (M : Mem) (res : Int32 × Mem) (hk0 : (10, 0) ∈ gids G) (hm : f_X10_number fu l1 M = some res) : CT l G yX10_number cX10_number 2 (some .int) 6 [vR 10 0, vI l1] M (.inl (some (vI res.1))) res.2 := by
  refine ct_of [(0, vR 10 0), (1, vI l1)] (by decide +kernel) hl hG (Nat.le_of_ble_eq_true rfl) rfl (List.forall_mem_cons.mpr ⟨Or.inl hk0, List.forall_mem_cons.mpr ⟨trivial, fun _ h => nomatch h⟩⟩) (List.forall_mem_cons.mpr ⟨Or.inl hk0, List.forall_mem_cons.mpr ⟨trivial, fun _ h => nomatch h⟩⟩) (fun X hX C => ?_)
  subst hX
  have Cl := C
  unfold f_X10_number at hm
  refine g_iload_n C 1 dX10_number_0 rfl rfl ?_
  by_cases h1_0 : l1 = (0 : Int32)
  · have hm := ift hm h1_0
    refine g_tabIn (off := 43) (tgt := 44) C dX10_number_1 (by rw [h1_0]; decide) (by rw [h1_0]; decide) (by rw [h1_0]; rfl) (by decide) ?_
    refine g_aload_n C 0 dX10_number_44 rfl rfl ?_
    refine g_geti (k := 0) C (by decide) kf_X10_7 rfl dX10_number_45 ?_
    obtain rfl := Option.some.inj hm
    exact g_iret C dX10_number_48
  have hm := ife hm h1_0
  by_cases h1_1 : l1 = (1 : Int32)
  · have hm := ift hm h1_1
    refine g_tabIn (off := 48) (tgt := 49) C dX10_number_1 (by rw [h1_1]; decide) (by rw [h1_1]; decide) (by rw [h1_1]; rfl) (by decide) ?_
    refine g_aload_n C 0 dX10_number_49 rfl rfl ?_
    refine g_geti (k := 0) C (by decide) kf_X10_79 rfl dX10_number_50 ?_
    obtain rfl := Option.some.inj hm
    exact g_iret C dX10_number_53
  have hm := ife hm h1_1
  by_cases h1_2 : l1 = (2 : Int32)
  · have hm := ift hm h1_2
    refine g_tabIn (off := 53) (tgt := 54) C dX10_number_1 (by rw [h1_2]; decide) (by rw [h1_2]; decide) (by rw [h1_2]; rfl) (by decide) ?_
    refine g_aload_n C 0 dX10_number_54 rfl rfl ?_
    refine g_geti (k := 0) C (by decide) kf_X10_82 rfl dX10_number_55 ?_
    obtain rfl := Option.some.inj hm
    exact g_iret C dX10_number_58
  have hm := ife hm h1_2
  by_cases h1_3 : l1 = (3 : Int32)
  · have hm := ift hm h1_3
    refine g_tabIn (off := 58) (tgt := 59) C dX10_number_1 (by rw [h1_3]; decide) (by rw [h1_3]; decide) (by rw [h1_3]; rfl) (by decide) ?_
    refine g_aload_n C 0 dX10_number_59 rfl rfl ?_
    refine g_geti (k := 0) C (by decide) kf_X10_89 rfl dX10_number_60 ?_
    obtain rfl := Option.some.inj hm
    exact g_iret C dX10_number_63
  have hm := ife hm h1_3
  by_cases h1_4 : l1 = (4 : Int32)
  · have hm := ift hm h1_4
    refine g_tabIn (off := 63) (tgt := 64) C dX10_number_1 (by rw [h1_4]; decide) (by rw [h1_4]; decide) (by rw [h1_4]; rfl) (by decide) ?_
    refine g_aload_n C 0 dX10_number_64 rfl rfl ?_
    refine g_aload_n C 0 dX10_number_65 rfl rfl ?_
    obtain ⟨r66, hr66, hm⟩ := bnd_some hm
    refine g_callVi (As := []) (rest := [vR 10 0]) C lk_X10_192 (k_X10_allCells X.2.1 G hl hG fu  M r66 hk0 hr66) (by decide) rfl rfl rfl (Nat.le_of_ble_eq_true rfl) ⟨Nat.le_of_ble_eq_true rfl, Nat.le_of_ble_eq_true rfl⟩ dX10_number_66 ?_
    obtain ⟨r69, hr69, hm⟩ := bnd_some hm
    refine g_callVi (As := [vI r66.1]) (rest := []) C lk_X10_223 (k_X10_layNames X.2.1 G hl hG fu r66.1 r66.2 r69 hk0 hr69) (by decide) rfl rfl rfl (Nat.le_of_ble_eq_true rfl) ⟨Nat.le_of_ble_eq_true rfl, Nat.le_of_ble_eq_true rfl⟩ dX10_number_69 ?_
    obtain rfl := Option.some.inj hm
    exact g_iret C dX10_number_72
  have hm := ife hm h1_4
  by_cases h1_5 : l1 = (5 : Int32)
  · have hm := ift hm h1_5
    refine g_tabIn (off := 72) (tgt := 73) C dX10_number_1 (by rw [h1_5]; decide) (by rw [h1_5]; decide) (by rw [h1_5]; rfl) (by decide) ?_
    refine g_aload_n C 0 dX10_number_73 rfl rfl ?_
    refine g_iconst (v := 1) C dX10_number_74 rfl ?_
    obtain ⟨r75, hr75, hm⟩ := bnd_some hm
    refine g_callVi (As := [vI (1 : Int32)]) (rest := []) C lk_X10_242 (k_X10_pairs X.2.1 G hl hG fu (1 : Int32) M r75 hk0 hr75) (by decide) rfl rfl rfl (Nat.le_of_ble_eq_true rfl) ⟨Nat.le_of_ble_eq_true rfl, Nat.le_of_ble_eq_true rfl⟩ dX10_number_75 ?_
    obtain rfl := Option.some.inj hm
    exact g_iret C dX10_number_78
  have hm := ife hm h1_5
  by_cases h1_6 : l1 = (6 : Int32)
  · have hm := ift hm h1_6
    refine g_tabIn (off := 78) (tgt := 79) C dX10_number_1 (by rw [h1_6]; decide) (by rw [h1_6]; decide) (by rw [h1_6]; rfl) (by decide) ?_
    refine g_aload_n C 0 dX10_number_79 rfl rfl ?_
    obtain ⟨r80, hr80, hm⟩ := bnd_some hm
    refine g_callVi (As := []) (rest := []) C lk_X10_246 (k_X10_holding X.2.1 G hl hG fu  M r80 hk0 hr80) (by decide) rfl rfl rfl (Nat.le_of_ble_eq_true rfl) ⟨Nat.le_of_ble_eq_true rfl, Nat.le_of_ble_eq_true rfl⟩ dX10_number_80 ?_
    obtain rfl := Option.some.inj hm
    exact g_iret C dX10_number_83
  have hm := ife hm h1_6
  refine g_tabOut (tgt := 84) C dX10_number_1 (tab_out 7 (by decide) (by intro j hj; rcases Nat.lt_succ_iff_lt_or_eq.mp hj with hj | rfl; rotate_left; exact h1_6; rcases Nat.lt_succ_iff_lt_or_eq.mp hj with hj | rfl; rotate_left; exact h1_5; rcases Nat.lt_succ_iff_lt_or_eq.mp hj with hj | rfl; rotate_left; exact h1_4; rcases Nat.lt_succ_iff_lt_or_eq.mp hj with hj | rfl; rotate_left; exact h1_3; rcases Nat.lt_succ_iff_lt_or_eq.mp hj with hj | rfl; rotate_left; exact h1_2; rcases Nat.lt_succ_iff_lt_or_eq.mp hj with hj | rfl; rotate_left; exact h1_1; rcases Nat.lt_succ_iff_lt_or_eq.mp hj with hj | rfl; rotate_left; exact h1_0; exact absurd hj (Nat.not_lt_zero _))) (by decide) ?_
  refine g_aload_n C 0 dX10_number_84 rfl rfl ?_
  obtain ⟨r85, hr85, hm⟩ := bnd_some hm
  refine g_callVi (As := []) (rest := []) C lk_X10_233 (k_X10_core X.2.1 G hl hG fu  M r85 hk0 hr85) (by decide) rfl rfl rfl (Nat.le_of_ble_eq_true rfl) ⟨Nat.le_of_ble_eq_true rfl, Nat.le_of_ble_eq_true rfl⟩ dX10_number_85 ?_
  obtain ⟨r88, hr88, hm⟩ := bnd_some hm
  refine g_callSi (As := [vI r85.1]) (rest := []) C lk_X10_249 (k_X10_bits X.2.1 G hl hG fu r85.1 r85.2 r88  hr88) rfl rfl (Nat.le_of_ble_eq_true rfl) ⟨Nat.le_of_ble_eq_true rfl, Nat.le_of_ble_eq_true rfl⟩ dX10_number_88 ?_
  obtain rfl := Option.some.inj hm
  exact g_iret C dX10_number_91
def f_X10_count_j16 (fu : Nat)   (l1 : Int32) (t1 : Int32) (M : Mem) : Option (Int32 × Mem) :=
  if ((mI M 10 0 0 t1).1 10 0 0) ≤ 0 then (f_X10_number fu l1 (mI M 10 0 0 t1)).bind (fun r32 => some (r32.1, r32.2)) else some ((0 : Int32), (mI M 10 0 0 t1))
def f_X10_count (fu : Nat) (l1 : Int32) (M : Mem) : Option (Int32 × Mem) :=
  (f_X10_within fu l1 (0 : Int32) (7 : Int32) M).bind (fun r5 => if r5.1 = 0 then f_X10_count_j16 fu l1 (1 : Int32) r5.2 else f_X10_count_j16 fu l1 (0 : Int32) r5.2)
set_option maxHeartbeats 4000000 in
set_option maxRecDepth 100000 in
theorem k_X10_count (l : Launch) (G : GE) (hl : l.stackTraces = false) (hG : GOK G) (fu : Nat) (l1 : Int32) (M : Mem) (res : Int32 × Mem) (hk0 : (10, 0) ∈ gids G) (hm : f_X10_count fu l1 M = some res) : CT l G yX10_count cX10_count 2 (some .int) 7 [vR 10 0, vI l1] M (.inl (some (vI res.1))) res.2 := by
  refine ct_of [(0, vR 10 0), (1, vI l1)] (by decide +kernel) hl hG (Nat.le_of_ble_eq_true rfl) rfl (List.forall_mem_cons.mpr ⟨Or.inl hk0, List.forall_mem_cons.mpr ⟨trivial, fun _ h => nomatch h⟩⟩) (List.forall_mem_cons.mpr ⟨Or.inl hk0, List.forall_mem_cons.mpr ⟨trivial, fun _ h => nomatch h⟩⟩) (fun X hX C => ?_)
  subst hX
  have Cl := C
  have J16 : ∀ (l1 : Int32) (t1 : Int32) (M : Mem), f_X10_count_j16 fu   l1 t1 M = some res → GW G X 2 (QX G X (.inl (some (vI res.1))) res.2) 16 [(0, vR 10 0), (1, vI l1)] [vI t1, vR 10 0] M := by
    intro l1 t1 M hm
    unfold f_X10_count_j16 at hm
    refine g_puti C (by decide) kf_X10_72 rfl rfl rfl dX10_count_16 ?_
    refine g_aload_n C 0 dX10_count_19 rfl rfl ?_
    refine g_geti (k := 0) C (by decide) kf_X10_72 rfl dX10_count_20 ?_
    refine g_if_le (tgt := 30) C dX10_count_23 (by decide) (fun h23 => ?_) (fun h23 => ?_)
    · have hm := ift hm h23
      refine g_aload_n C 0 dX10_count_30 rfl rfl ?_
      refine g_iload_n C 1 dX10_count_31 rfl rfl ?_
      obtain ⟨r32, hr32, hm⟩ := bnd_some hm
      refine g_callVi (As := [vI l1]) (rest := []) C lk_X10_252 (k_X10_number X.2.1 G hl hG fu l1 (mI M 10 0 0 t1) r32 hk0 hr32) (by decide) rfl rfl rfl (Nat.le_of_ble_eq_true rfl) ⟨Nat.le_of_ble_eq_true rfl, Nat.le_of_ble_eq_true rfl⟩ dX10_count_32 ?_
      obtain rfl := Option.some.inj hm
      exact g_iret C dX10_count_35
    · have hm := ife hm h23
      refine g_iconst (v := 0) C dX10_count_26 rfl ?_
      refine g_goto (tgt := 35) C dX10_count_27 (by decide) ?_
      obtain rfl := Option.some.inj hm
      exact g_iret C dX10_count_35
  unfold f_X10_count at hm
  refine g_aload_n C 0 dX10_count_0 rfl rfl ?_
  refine g_iload_n C 1 dX10_count_1 rfl rfl ?_
  refine g_iconst (v := 0) C dX10_count_2 rfl ?_
  refine g_bipush (v := 7) C dX10_count_3 rfl ?_
  obtain ⟨r5, hr5, hm⟩ := bnd_some hm
  refine g_callSi (As := [vI l1, vI (0 : Int32), vI (7 : Int32)]) (rest := [vR 10 0]) C lk_X10_75 (k_X10_within X.2.1 G hl hG fu l1 (0 : Int32) (7 : Int32) M r5  hr5) rfl rfl (Nat.le_of_ble_eq_true rfl) ⟨Nat.le_of_ble_eq_true rfl, Nat.le_of_ble_eq_true rfl⟩ dX10_count_5 ?_
  refine g_if_eq (tgt := 15) C dX10_count_8 (by decide) (fun h8 => ?_) (fun h8 => ?_)
  · have hm := ift hm h8
    refine g_iconst (v := 1) C dX10_count_15 rfl ?_
    exact g_sub [0, 1] rfl (g_pc rfl (J16 l1 (1 : Int32) r5.2 hm))
  · have hm := ife hm h8
    refine g_iconst (v := 0) C dX10_count_11 rfl ?_
    refine g_goto (tgt := 16) C dX10_count_12 (by decide) ?_
    exact g_sub [0, 1] rfl (g_pc rfl (J16 l1 (0 : Int32) r5.2 hm))
def f_X10_commutingNow (fu : Nat) (M : Mem) : Option (UInt64 × Mem) :=
  (f_X10_pairs fu (0 : Int32) M).bind (fun r2 => if r2.1 = 0 then some (FP.dconst1, r2.2) else (f_X10_pairs fu (1 : Int32) r2.2).bind (fun r16 => if fn64 (FP.ddiv (FP.i2d r16.1) (FP.i2d r2.1)) then some (FP.ddiv (FP.i2d r16.1) (FP.i2d r2.1), r16.2) else none))
set_option maxHeartbeats 4000000 in
set_option maxRecDepth 100000 in
theorem k_X10_commutingNow (l : Launch) (G : GE) (hl : l.stackTraces = false) (hG : GOK G) (fu : Nat)  (M : Mem) (res : UInt64 × Mem) (hk0 : (10, 0) ∈ gids G) (hm : f_X10_commutingNow fu  M = some res) : CT l G yX10_commutingNow cX10_commutingNow 2 (some .double) 5 [vR 10 0] M (.inl (some (vD res.1))) res.2 := by
  refine ct_of [(0, vR 10 0)] (by decide +kernel) hl hG (Nat.le_of_ble_eq_true rfl) rfl (List.forall_mem_cons.mpr ⟨Or.inl hk0, fun _ h => nomatch h⟩) (List.forall_mem_cons.mpr ⟨Or.inl hk0, fun _ h => nomatch h⟩) (fun X hX C => ?_)
  subst hX
  have Cl := C
  unfold f_X10_commutingNow at hm
  refine g_aload_n C 0 dX10_commutingNow_0 rfl rfl ?_
  refine g_iconst (v := 0) C dX10_commutingNow_1 rfl ?_
  obtain ⟨r2, hr2, hm⟩ := bnd_some hm
  refine g_callVi (As := [vI (0 : Int32)]) (rest := []) C lk_X10_242 (k_X10_pairs X.2.1 G hl hG fu (0 : Int32) M r2 hk0 hr2) (by decide) rfl rfl rfl (Nat.le_of_ble_eq_true rfl) ⟨Nat.le_of_ble_eq_true rfl, Nat.le_of_ble_eq_true rfl⟩ dX10_commutingNow_2 ?_
  refine g_istore_n (ls' := [(1, vI r2.1), (0, vR 10 0)]) C dX10_commutingNow_5 rfl (by decide) rfl ?_
  refine g_iload_n C 0 dX10_commutingNow_6 rfl rfl ?_
  refine g_if_ne (tgt := 14) C dX10_commutingNow_7 (by decide) (fun h7 => ?_) (fun h7 => ?_)
  · have hm := ife hm h7
    refine g_aload_n C 1 dX10_commutingNow_14 rfl rfl ?_
    refine g_iconst (v := 1) C dX10_commutingNow_15 rfl ?_
    obtain ⟨r16, hr16, hm⟩ := bnd_some hm
    refine g_callVi (As := [vI (1 : Int32)]) (rest := []) C lk_X10_242 (k_X10_pairs X.2.1 G hl hG fu (1 : Int32) r2.2 r16 hk0 hr16) (by decide) rfl rfl rfl (Nat.le_of_ble_eq_true rfl) ⟨Nat.le_of_ble_eq_true rfl, Nat.le_of_ble_eq_true rfl⟩ dX10_commutingNow_16 ?_
    refine g_i2d C dX10_commutingNow_19 ?_
    refine g_iload_n C 0 dX10_commutingNow_20 rfl rfl ?_
    refine g_i2d C dX10_commutingNow_21 ?_
    obtain ⟨hz22, hm⟩ := ifn hm
    refine g_ddiv C dX10_commutingNow_22 hz22 ?_
    obtain rfl := Option.some.inj hm
    exact g_dret C dX10_commutingNow_23
  · have hm := ift hm h7
    refine g_dconst1 C dX10_commutingNow_10 ?_
    refine g_goto (tgt := 23) C dX10_commutingNow_11 (by decide) ?_
    obtain rfl := Option.some.inj hm
    exact g_dret C dX10_commutingNow_23
def f_X10_commuting (fu : Nat) (M : Mem) : Option (UInt64 × Mem) :=
  (f_X10_commutingNow fu  (mI M 10 0 0 (0 : Int32))).bind (fun r6 => some (r6.1, r6.2))
set_option maxHeartbeats 4000000 in
set_option maxRecDepth 100000 in
theorem k_X10_commuting (l : Launch) (G : GE) (hl : l.stackTraces = false) (hG : GOK G) (fu : Nat)  (M : Mem) (res : UInt64 × Mem) (hk0 : (10, 0) ∈ gids G) (hm : f_X10_commuting fu  M = some res) : CT l G yX10_commuting cX10_commuting 1 (some .double) 6 [vR 10 0] M (.inl (some (vD res.1))) res.2 := by
  refine ct_of [(0, vR 10 0)] (by decide +kernel) hl hG (Nat.le_of_ble_eq_true rfl) rfl (List.forall_mem_cons.mpr ⟨Or.inl hk0, fun _ h => nomatch h⟩) (List.forall_mem_cons.mpr ⟨Or.inl hk0, fun _ h => nomatch h⟩) (fun X hX C => ?_)
  subst hX
  have Cl := C
  unfold f_X10_commuting at hm
  refine g_aload_n C 0 dX10_commuting_0 rfl rfl ?_
  refine g_iconst (v := 0) C dX10_commuting_1 rfl ?_
  refine g_puti C (by decide) kf_X10_72 rfl rfl rfl dX10_commuting_2 ?_
  refine g_aload_n C 0 dX10_commuting_5 rfl rfl ?_
  obtain ⟨r6, hr6, hm⟩ := bnd_some hm
  refine g_callVd (As := []) (rest := []) C lk_X10_255 (k_X10_commutingNow X.2.1 G hl hG fu  (mI M 10 0 0 (0 : Int32)) r6 hk0 hr6) (by decide) rfl rfl rfl (Nat.le_of_ble_eq_true rfl) ⟨Nat.le_of_ble_eq_true rfl, Nat.le_of_ble_eq_true rfl⟩ dX10_commuting_6 ?_
  obtain rfl := Option.some.inj hm
  exact g_dret C dX10_commuting_9
def f_X10_setSize_j104 (fu : Nat)  (l1 : Int32) (l3 : Int32) (l4 : Int32) (t1 : Int32) (t2 : Int32) (M : Mem) : Option ((Int32 × Mem) ⊕ (Mem)) :=
  if inb t1 (alen 22 5) then some (Sum.inl (l4 + (1 : Int32), (mI M 22 5 t1.toNatClampNeg t2))) else none
def f_X10_setSize_j93 (fu : Nat)  (l1 : Int32) (l3 : Int32) (l4 : Int32) (t1 : Int32) (M : Mem) : Option ((Int32 × Mem) ⊕ (Mem)) :=
  f_X10_setSize_j104 fu l1 l3 l4 t1 (0 : Int32) M
def f_X10_setSize_b56 (fu : Nat)  (l1 : Int32) (l3 : Int32) (l4 : Int32) (M : Mem) : Option ((Int32 × Mem) ⊕ (Mem)) :=
  if (M.1 10 0 2) ≤ l4 then some (Sum.inr M) else if inb l4 (alen 22 3) then if (M.1 22 3 l4.toNatClampNeg) = l1 then f_X10_setSize_j93 fu l1 l3 l4 l4 M else if inb l4 (alen 22 4) then if (M.1 22 4 l4.toNatClampNeg) = l1 then f_X10_setSize_j93 fu l1 l3 l4 l4 M else if inb l4 (alen 22 5) then f_X10_setSize_j104 fu l1 l3 l4 l4 (M.1 22 5 l4.toNatClampNeg) M else none else none else none
def f_X10_setSize_h56 (fu : Nat)   (l1 : Int32) (l3 : Int32) (l4 : Int32) (M : Mem) : Option (Int32 × Mem) :=
  (lp_run (fun s => f_X10_setSize_b56 fu  l1 l3 s.1 s.2) fu (l4, M)).bind (fun M => some (l3, M))
def f_X10_setSize_j27 (fu : Nat)   (l1 : Int32) (l2 : Int32) (t1 : Int32) (M : Mem) : Option (Int32 × Mem) :=
  if ((mI M 10 0 0 t1).1 10 0 0) ≤ 0 then if inb l1 (alen 22 6) then if inb l1 (alen 22 6) then f_X10_setSize_h56 fu l1 ((mI M 10 0 0 t1).1 22 6 l1.toNatClampNeg) (0 : Int32) (mI (mI M 10 0 0 t1) 22 6 l1.toNatClampNeg l2) else none else none else some ((0 : Int32), (mI M 10 0 0 t1))
def f_X10_setSize (fu : Nat) (l1 : Int32) (l2 : Int32) (M : Mem) : Option (Int32 × Mem) :=
  (f_X10_isObject fu l1 M).bind (fun r3 => if r3.1 = 0 then f_X10_setSize_j27 fu l1 l2 (1 : Int32) r3.2 else (f_X10_within fu l2 (1 : Int32) (4 : Int32) r3.2).bind (fun r16 => if r16.1 = 0 then f_X10_setSize_j27 fu l1 l2 (2 : Int32) r16.2 else f_X10_setSize_j27 fu l1 l2 (0 : Int32) r16.2))
set_option maxHeartbeats 4000000 in
set_option maxRecDepth 100000 in
theorem k_X10_setSize (l : Launch) (G : GE) (hl : l.stackTraces = false) (hG : GOK G) (fu : Nat) (l1 : Int32) (l2 : Int32) (M : Mem) (res : Int32 × Mem) (hk0 : (10, 0) ∈ gids G) (hm : f_X10_setSize fu l1 l2 M = some res) : CT l G yX10_setSize cX10_setSize 5 (some .int) 2 [vR 10 0, vI l1, vI l2] M (.inl (some (vI res.1))) res.2 := by
  refine ct_of [(0, vR 10 0), (1, vI l1), (2, vI l2)] (by decide +kernel) hl hG (Nat.le_of_ble_eq_true rfl) rfl (List.forall_mem_cons.mpr ⟨Or.inl hk0, List.forall_mem_cons.mpr ⟨trivial, List.forall_mem_cons.mpr ⟨trivial, fun _ h => nomatch h⟩⟩⟩) (List.forall_mem_cons.mpr ⟨Or.inl hk0, List.forall_mem_cons.mpr ⟨trivial, List.forall_mem_cons.mpr ⟨trivial, fun _ h => nomatch h⟩⟩⟩) (fun X hX C => ?_)
  subst hX
  have Cl := C
  have J56 : ∀ (l1 : Int32) (l3 : Int32) (l4 : Int32) (M : Mem), f_X10_setSize_h56 fu   l1 l3 l4 M = some res → GW G X 5 (QX G X (.inl (some (vI res.1))) res.2) 56 [(0, vR 10 0), (1, vI l1), (3, vI l3), (4, vI l4)] [] M := by
    intro l1 l3 l4 M hm
    unfold f_X10_setSize_h56 at hm
    obtain ⟨r56, hL56, hk56⟩ := bnd_some hm
    have hx56 : ∀ (M : Mem), M = r56 → GW G X 5 (QX G X (.inl (some (vI res.1))) res.2) 111 [(3, vI l3)] [] M := by
      intro M he
      subst he
      have hm := hk56
      try dsimp only at hm
      refine g_iload_n C 0 dX10_setSize_111 rfl rfl ?_
      obtain rfl := Option.some.inj hm
      exact g_iret C dX10_setSize_112
    refine lp_ind1 (P := (fun l4 M => GW G X 5 (QX G X (.inl (some (vI res.1))) res.2) 56 [(0, vR 10 0), (1, vI l1), (3, vI l3), (4, vI l4)] [] M)) (r := r56) ?_ fu l4 M hL56
    intro l4 M o56 hm K56
    have J104 : ∀ (l4 : Int32) (t1 : Int32) (t2 : Int32) (M : Mem), f_X10_setSize_j104 fu  l1 l3 l4 t1 t2 M = some o56 → GW G X 5 (QX G X (.inl (some (vI res.1))) res.2) 104 [(0, vR 10 0), (1, vI l1), (3, vI l3), (4, vI l4)] [vI t2, vI t1, vR 22 5] M := by
      intro l4 t1 t2 M hm
      unfold f_X10_setSize_j104 at hm
      obtain ⟨hi104, hm⟩ := ifn hm
      refine g_iast C (by decide) hi104 dX10_setSize_104 ?_
      refine g_iinc (ls' := [(4, vI (l4 + (1 : Int32))), (0, vR 10 0), (1, vI l1), (3, vI l3)]) (v := l4 + (1 : Int32)) C 3 dX10_setSize_105 rfl (iv_p1 _) (by decide) rfl ?_
      refine g_goto (tgt := 56) C dX10_setSize_108 (by decide) ?_
      obtain rfl := Option.some.inj hm
      exact g_sub [1, 2, 3, 0] rfl (g_pc rfl (K56.1 (l4 + (1 : Int32)) (mI M 22 5 t1.toNatClampNeg t2) rfl))
    have J93 : ∀ (l4 : Int32) (t1 : Int32) (M : Mem), f_X10_setSize_j93 fu  l1 l3 l4 t1 M = some o56 → GW G X 5 (QX G X (.inl (some (vI res.1))) res.2) 93 [(0, vR 10 0), (1, vI l1), (3, vI l3), (4, vI l4)] [vI t1, vR 22 5] M := by
      intro l4 t1 M hm
      unfold f_X10_setSize_j93 at hm
      refine g_iconst (v := 0) C dX10_setSize_93 rfl ?_
      refine g_goto (tgt := 104) C dX10_setSize_94 (by decide) ?_
      exact g_sub [0, 1, 2, 3] rfl (g_pc rfl (J104 l4 t1 (0 : Int32) M hm))
    unfold f_X10_setSize_b56 at hm
    refine g_iload C 3 dX10_setSize_56 rfl ?_
    refine g_aload_n C 0 dX10_setSize_58 rfl rfl ?_
    refine g_geti (k := 0) C (by decide) kf_X10_79 rfl dX10_setSize_59 ?_
    refine g_icmp_ge (tgt := 111) C dX10_setSize_62 (by decide) (fun h62 => ?_) (fun h62 => ?_)
    · have hm := ift hm h62
      obtain rfl := Option.some.inj hm
      exact g_sub [2] rfl (g_pc rfl (hx56 M (K56.2 _ rfl)))
    · have hm := ife hm h62
      refine g_aload_n C 0 dX10_setSize_65 rfl rfl ?_
      refine g_getr (k := 0) (k' := 5) C (by decide) kf_X10_20 rfl rfl dX10_setSize_66 ?_
      refine g_iload C 3 dX10_setSize_69 rfl ?_
      refine g_aload_n C 0 dX10_setSize_71 rfl rfl ?_
      refine g_getr (k := 0) (k' := 3) C (by decide) kf_X10_13 rfl rfl dX10_setSize_72 ?_
      refine g_iload C 3 dX10_setSize_75 rfl ?_
      obtain ⟨hi77, hm⟩ := ifn hm
      refine g_iald C (by decide) hi77 dX10_setSize_77 ?_
      refine g_iload_n C 1 dX10_setSize_78 rfl rfl ?_
      refine g_icmp_eq (tgt := 93) C dX10_setSize_79 (by decide) (fun h79 => ?_) (fun h79 => ?_)
      · have hm := ift hm h79
        exact g_sub [0, 1, 2, 3] rfl (g_pc rfl (J93 l4 l4 M hm))
      · have hm := ife hm h79
        refine g_aload_n C 0 dX10_setSize_82 rfl rfl ?_
        refine g_getr (k := 0) (k' := 4) C (by decide) kf_X10_17 rfl rfl dX10_setSize_83 ?_
        refine g_iload C 3 dX10_setSize_86 rfl ?_
        obtain ⟨hi88, hm⟩ := ifn hm
        refine g_iald C (by decide) hi88 dX10_setSize_88 ?_
        refine g_iload_n C 1 dX10_setSize_89 rfl rfl ?_
        refine g_icmp_ne (tgt := 97) C dX10_setSize_90 (by decide) (fun h90 => ?_) (fun h90 => ?_)
        · have hm := ife hm h90
          refine g_aload_n C 0 dX10_setSize_97 rfl rfl ?_
          refine g_getr (k := 0) (k' := 5) C (by decide) kf_X10_20 rfl rfl dX10_setSize_98 ?_
          refine g_iload C 3 dX10_setSize_101 rfl ?_
          obtain ⟨hi103, hm⟩ := ifn hm
          refine g_iald C (by decide) hi103 dX10_setSize_103 ?_
          exact g_sub [0, 1, 2, 3] rfl (g_pc rfl (J104 l4 l4 (M.1 22 5 l4.toNatClampNeg) M hm))
        · have hm := ift hm h90
          exact g_sub [0, 1, 2, 3] rfl (g_pc rfl (J93 l4 l4 M hm))
  have J27 : ∀ (l1 : Int32) (l2 : Int32) (t1 : Int32) (M : Mem), f_X10_setSize_j27 fu   l1 l2 t1 M = some res → GW G X 5 (QX G X (.inl (some (vI res.1))) res.2) 27 [(0, vR 10 0), (1, vI l1), (2, vI l2)] [vI t1, vR 10 0] M := by
    intro l1 l2 t1 M hm
    unfold f_X10_setSize_j27 at hm
    refine g_puti C (by decide) kf_X10_72 rfl rfl rfl dX10_setSize_27 ?_
    refine g_aload_n C 0 dX10_setSize_30 rfl rfl ?_
    refine g_geti (k := 0) C (by decide) kf_X10_72 rfl dX10_setSize_31 ?_
    refine g_if_le (tgt := 39) C dX10_setSize_34 (by decide) (fun h34 => ?_) (fun h34 => ?_)
    · have hm := ift hm h34
      refine g_aload_n C 0 dX10_setSize_39 rfl rfl ?_
      refine g_getr (k := 0) (k' := 6) C (by decide) kf_X10_23 rfl rfl dX10_setSize_40 ?_
      refine g_iload_n C 1 dX10_setSize_43 rfl rfl ?_
      obtain ⟨hi44, hm⟩ := ifn hm
      refine g_iald C (by decide) hi44 dX10_setSize_44 ?_
      refine g_istore_n (ls' := [(3, vI ((mI M 10 0 0 t1).1 22 6 l1.toNatClampNeg)), (0, vR 10 0), (1, vI l1), (2, vI l2)]) C dX10_setSize_45 rfl (by decide) rfl ?_
      refine g_aload_n C 1 dX10_setSize_46 rfl rfl ?_
      refine g_getr (k := 0) (k' := 6) C (by decide) kf_X10_23 rfl rfl dX10_setSize_47 ?_
      refine g_iload_n C 2 dX10_setSize_50 rfl rfl ?_
      refine g_iload_n C 3 dX10_setSize_51 rfl rfl ?_
      obtain ⟨hi52, hm⟩ := ifn hm
      refine g_iast C (by decide) hi52 dX10_setSize_52 ?_
      refine g_iconst (v := 0) C dX10_setSize_53 rfl ?_
      refine g_istore (ls' := [(4, vI (0 : Int32)), (3, vI ((mI M 10 0 0 t1).1 22 6 l1.toNatClampNeg)), (0, vR 10 0), (1, vI l1), (2, vI l2)]) C dX10_setSize_54 (by decide) rfl ?_
      exact g_sub [2, 3, 1, 0] rfl (g_pc rfl (J56 l1 ((mI M 10 0 0 t1).1 22 6 l1.toNatClampNeg) (0 : Int32) (mI (mI M 10 0 0 t1) 22 6 l1.toNatClampNeg l2) hm))
    · have hm := ife hm h34
      refine g_iconst (v := 0) C dX10_setSize_37 rfl ?_
      obtain rfl := Option.some.inj hm
      exact g_iret C dX10_setSize_38
  unfold f_X10_setSize at hm
  refine g_aload_n C 0 dX10_setSize_0 rfl rfl ?_
  refine g_aload_n C 0 dX10_setSize_1 rfl rfl ?_
  refine g_iload_n C 1 dX10_setSize_2 rfl rfl ?_
  obtain ⟨r3, hr3, hm⟩ := bnd_some hm
  refine g_callVi (As := [vI l1]) (rest := [vR 10 0]) C lk_X10_100 (k_X10_isObject X.2.1 G hl hG fu l1 M r3 hk0 hr3) (by decide) rfl rfl rfl (Nat.le_of_ble_eq_true rfl) ⟨Nat.le_of_ble_eq_true rfl, Nat.le_of_ble_eq_true rfl⟩ dX10_setSize_3 ?_
  refine g_if_ne (tgt := 13) C dX10_setSize_6 (by decide) (fun h6 => ?_) (fun h6 => ?_)
  · have hm := ife hm h6
    refine g_iload_n C 2 dX10_setSize_13 rfl rfl ?_
    refine g_iconst (v := 1) C dX10_setSize_14 rfl ?_
    refine g_iconst (v := 4) C dX10_setSize_15 rfl ?_
    obtain ⟨r16, hr16, hm⟩ := bnd_some hm
    refine g_callSi (As := [vI l2, vI (1 : Int32), vI (4 : Int32)]) (rest := [vR 10 0]) C lk_X10_75 (k_X10_within X.2.1 G hl hG fu l2 (1 : Int32) (4 : Int32) r3.2 r16  hr16) rfl rfl (Nat.le_of_ble_eq_true rfl) ⟨Nat.le_of_ble_eq_true rfl, Nat.le_of_ble_eq_true rfl⟩ dX10_setSize_16 ?_
    refine g_if_eq (tgt := 26) C dX10_setSize_19 (by decide) (fun h19 => ?_) (fun h19 => ?_)
    · have hm := ift hm h19
      refine g_iconst (v := 2) C dX10_setSize_26 rfl ?_
      exact g_sub [0, 1, 2] rfl (g_pc rfl (J27 l1 l2 (2 : Int32) r16.2 hm))
    · have hm := ife hm h19
      refine g_iconst (v := 0) C dX10_setSize_22 rfl ?_
      refine g_goto (tgt := 27) C dX10_setSize_23 (by decide) ?_
      exact g_sub [0, 1, 2] rfl (g_pc rfl (J27 l1 l2 (0 : Int32) r16.2 hm))
  · have hm := ift hm h6
    refine g_iconst (v := 1) C dX10_setSize_9 rfl ?_
    refine g_goto (tgt := 27) C dX10_setSize_10 (by decide) ?_
    exact g_sub [0, 1, 2] rfl (g_pc rfl (J27 l1 l2 (1 : Int32) r3.2 hm))
def f_X10_isCode_j68 (fu : Nat)  (l1 : Int32) (l2 : Int32) (l4 : Int32) (t0 : Int32) (M : Mem) : Option ((Int32 × Int32 × Mem) ⊕ (Int32 × Mem)) :=
  some (Sum.inl (t0, l4 + (1 : Int32), M))
def f_X10_isCode_b31 (fu : Nat)  (l1 : Int32) (l2 : Int32) (l3 : Int32) (l4 : Int32) (M : Mem) : Option ((Int32 × Int32 × Mem) ⊕ (Int32 × Mem)) :=
  if (4 : Int32) ≤ l4 then some (Sum.inr (l3, M)) else if l3 = 0 then some (Sum.inr (l3, M)) else if inb l1 (alen 22 4) then if inb (M.1 22 4 l1.toNatClampNeg) (alen 22 6) then if (M.1 22 6 (M.1 22 4 l1.toNatClampNeg).toNatClampNeg) ≤ ((l2 >>> (((2 : Int32) * l4) &&& 31)) &&& (3 : Int32)) then f_X10_isCode_j68 fu l1 l2 l4 (0 : Int32) M else f_X10_isCode_j68 fu l1 l2 l4 (1 : Int32) M else none else none
def f_X10_isCode_h31 (fu : Nat)   (l1 : Int32) (l2 : Int32) (l3 : Int32) (l4 : Int32) (M : Mem) : Option (Int32 × Mem) :=
  (lp_run (fun s => f_X10_isCode_b31 fu  l1 l2 s.1 s.2.1 s.2.2) fu (l3, l4, M)).bind (fun r31 => match r31 with
    | (l3, M) => if l3 = 0 ∨ l3 = 1 then some (l3, M) else none)
def f_X10_isCode_j27 (fu : Nat)   (l1 : Int32) (l2 : Int32) (t0 : Int32) (M : Mem) : Option (Int32 × Mem) :=
  f_X10_isCode_h31 fu l1 l2 t0 (0 : Int32) M
def f_X10_isCode_j26 (fu : Nat)   (l1 : Int32) (l2 : Int32) (M : Mem) : Option (Int32 × Mem) :=
  f_X10_isCode_j27 fu l1 l2 (0 : Int32) M
def f_X10_isCode (fu : Nat) (l1 : Int32) (l2 : Int32) (M : Mem) : Option (Int32 × Mem) :=
  if l2 < 0 then f_X10_isCode_j26 fu l1 l2 M else if inb l1 (alen 22 3) then if inb (M.1 22 3 l1.toNatClampNeg) (alen 22 6) then if (l2 >>> (((2 : Int32) * (M.1 22 6 (M.1 22 3 l1.toNatClampNeg).toNatClampNeg)) &&& 31)) = 0 then f_X10_isCode_j27 fu l1 l2 (1 : Int32) M else f_X10_isCode_j26 fu l1 l2 M else none else none
set_option maxHeartbeats 4000000 in
set_option maxRecDepth 100000 in
theorem k_X10_isCode (l : Launch) (G : GE) (hl : l.stackTraces = false) (hG : GOK G) (fu : Nat) (l1 : Int32) (l2 : Int32) (M : Mem) (res : Int32 × Mem) (hk0 : (10, 0) ∈ gids G) (hm : f_X10_isCode fu l1 l2 M = some res) : CT l G yX10_isCode cX10_isCode 5 (some .boolean) 0 [vR 10 0, vI l1, vI l2] M (.inl (some (vI res.1))) res.2 := by
  refine ct_of [(0, vR 10 0), (1, vI l1), (2, vI l2)] (by decide +kernel) hl hG (Nat.le_of_ble_eq_true rfl) rfl (List.forall_mem_cons.mpr ⟨Or.inl hk0, List.forall_mem_cons.mpr ⟨trivial, List.forall_mem_cons.mpr ⟨trivial, fun _ h => nomatch h⟩⟩⟩) (List.forall_mem_cons.mpr ⟨Or.inl hk0, List.forall_mem_cons.mpr ⟨trivial, List.forall_mem_cons.mpr ⟨trivial, fun _ h => nomatch h⟩⟩⟩) (fun X hX C => ?_)
  subst hX
  have Cl := C
  have J31 : ∀ (l1 : Int32) (l2 : Int32) (l3 : Int32) (l4 : Int32) (M : Mem), f_X10_isCode_h31 fu   l1 l2 l3 l4 M = some res → GW G X 5 (QX G X (.inl (some (vI res.1))) res.2) 31 [(0, vR 10 0), (1, vI l1), (2, vI l2), (3, vI l3), (4, vI l4)] [] M := by
    intro l1 l2 l3 l4 M hm
    unfold f_X10_isCode_h31 at hm
    obtain ⟨r31, hL31, hk31⟩ := bnd_some hm
    have hx31 : ∀ (l3 : Int32) (M : Mem), (l3, M) = r31 → GW G X 5 (QX G X (.inl (some (vI res.1))) res.2) 75 [(3, vI l3)] [] M := by
      intro l3 M he
      subst he
      have hm := hk31
      try dsimp only at hm
      refine g_iload_n C 0 dX10_isCode_75 rfl rfl ?_
      obtain ⟨hz76, hm⟩ := ifn hm
      obtain rfl := Option.some.inj hm
      exact g_zret C hz76 dX10_isCode_76
    refine lp_ind2 (P := (fun l3 l4 M => GW G X 5 (QX G X (.inl (some (vI res.1))) res.2) 31 [(0, vR 10 0), (1, vI l1), (2, vI l2), (3, vI l3), (4, vI l4)] [] M)) (r := r31) ?_ fu l3 l4 M hL31
    intro l3 l4 M o31 hm K31
    have J68 : ∀ (l4 : Int32) (t0 : Int32) (M : Mem), f_X10_isCode_j68 fu  l1 l2 l4 t0 M = some o31 → GW G X 5 (QX G X (.inl (some (vI res.1))) res.2) 68 [(0, vR 10 0), (1, vI l1), (2, vI l2), (4, vI l4)] [vI t0] M := by
      intro l4 t0 M hm
      unfold f_X10_isCode_j68 at hm
      refine g_istore_n (ls' := [(3, vI t0), (0, vR 10 0), (1, vI l1), (2, vI l2), (4, vI l4)]) C dX10_isCode_68 rfl (by decide) rfl ?_
      refine g_iinc (ls' := [(4, vI (l4 + (1 : Int32))), (3, vI t0), (0, vR 10 0), (1, vI l1), (2, vI l2)]) (v := l4 + (1 : Int32)) C 4 dX10_isCode_69 rfl (iv_p1 _) (by decide) rfl ?_
      refine g_goto (tgt := 31) C dX10_isCode_72 (by decide) ?_
      obtain rfl := Option.some.inj hm
      exact g_sub [2, 3, 4, 1, 0] rfl (g_pc rfl (K31.1 t0 (l4 + (1 : Int32)) M rfl))
    unfold f_X10_isCode_b31 at hm
    refine g_iload C 4 dX10_isCode_31 rfl ?_
    refine g_iconst (v := 4) C dX10_isCode_33 rfl ?_
    refine g_icmp_ge (tgt := 75) C dX10_isCode_34 (by decide) (fun h34 => ?_) (fun h34 => ?_)
    · have hm := ift hm h34
      obtain rfl := Option.some.inj hm
      exact g_sub [3] rfl (g_pc rfl (hx31 l3 M (K31.2 _ rfl)))
    · have hm := ife hm h34
      refine g_iload_n C 3 dX10_isCode_37 rfl rfl ?_
      refine g_if_eq (tgt := 75) C dX10_isCode_38 (by decide) (fun h38 => ?_) (fun h38 => ?_)
      · have hm := ift hm h38
        obtain rfl := Option.some.inj hm
        exact g_sub [3] rfl (g_pc rfl (hx31 l3 M (K31.2 _ rfl)))
      · have hm := ife hm h38
        refine g_iload_n C 2 dX10_isCode_41 rfl rfl ?_
        refine g_iconst (v := 2) C dX10_isCode_42 rfl ?_
        refine g_iload C 4 dX10_isCode_43 rfl ?_
        refine g_imul C dX10_isCode_45 ?_
        refine g_ishr C dX10_isCode_46 ?_
        refine g_iconst (v := 3) C dX10_isCode_47 rfl ?_
        refine g_iand C dX10_isCode_48 ?_
        refine g_aload_n C 0 dX10_isCode_49 rfl rfl ?_
        refine g_getr (k := 0) (k' := 6) C (by decide) kf_X10_23 rfl rfl dX10_isCode_50 ?_
        refine g_aload_n C 0 dX10_isCode_53 rfl rfl ?_
        refine g_getr (k := 0) (k' := 4) C (by decide) kf_X10_17 rfl rfl dX10_isCode_54 ?_
        refine g_iload_n C 1 dX10_isCode_57 rfl rfl ?_
        obtain ⟨hi58, hm⟩ := ifn hm
        refine g_iald C (by decide) hi58 dX10_isCode_58 ?_
        obtain ⟨hi59, hm⟩ := ifn hm
        refine g_iald C (by decide) hi59 dX10_isCode_59 ?_
        refine g_icmp_ge (tgt := 67) C dX10_isCode_60 (by decide) (fun h60 => ?_) (fun h60 => ?_)
        · have hm := ift hm h60
          refine g_iconst (v := 0) C dX10_isCode_67 rfl ?_
          exact g_sub [0, 1, 2, 4] rfl (g_pc rfl (J68 l4 (0 : Int32) M hm))
        · have hm := ife hm h60
          refine g_iconst (v := 1) C dX10_isCode_63 rfl ?_
          refine g_goto (tgt := 68) C dX10_isCode_64 (by decide) ?_
          exact g_sub [0, 1, 2, 4] rfl (g_pc rfl (J68 l4 (1 : Int32) M hm))
  have J27 : ∀ (l1 : Int32) (l2 : Int32) (t0 : Int32) (M : Mem), f_X10_isCode_j27 fu   l1 l2 t0 M = some res → GW G X 5 (QX G X (.inl (some (vI res.1))) res.2) 27 [(0, vR 10 0), (1, vI l1), (2, vI l2)] [vI t0] M := by
    intro l1 l2 t0 M hm
    unfold f_X10_isCode_j27 at hm
    refine g_istore_n (ls' := [(3, vI t0), (0, vR 10 0), (1, vI l1), (2, vI l2)]) C dX10_isCode_27 rfl (by decide) rfl ?_
    refine g_iconst (v := 0) C dX10_isCode_28 rfl ?_
    refine g_istore (ls' := [(4, vI (0 : Int32)), (3, vI t0), (0, vR 10 0), (1, vI l1), (2, vI l2)]) C dX10_isCode_29 (by decide) rfl ?_
    exact g_sub [2, 3, 4, 1, 0] rfl (g_pc rfl (J31 l1 l2 t0 (0 : Int32) M hm))
  have J26 : ∀ (l1 : Int32) (l2 : Int32) (M : Mem), f_X10_isCode_j26 fu   l1 l2 M = some res → GW G X 5 (QX G X (.inl (some (vI res.1))) res.2) 26 [(0, vR 10 0), (1, vI l1), (2, vI l2)] [] M := by
    intro l1 l2 M hm
    unfold f_X10_isCode_j26 at hm
    refine g_iconst (v := 0) C dX10_isCode_26 rfl ?_
    exact g_sub [0, 1, 2] rfl (g_pc rfl (J27 l1 l2 (0 : Int32) M hm))
  unfold f_X10_isCode at hm
  refine g_iload_n C 2 dX10_isCode_0 rfl rfl ?_
  refine g_if_lt (tgt := 26) C dX10_isCode_1 (by decide) (fun h1 => ?_) (fun h1 => ?_)
  · have hm := ift hm h1
    exact g_sub [0, 1, 2] rfl (g_pc rfl (J26 l1 l2 M hm))
  · have hm := ife hm h1
    refine g_iload_n C 2 dX10_isCode_4 rfl rfl ?_
    refine g_iconst (v := 2) C dX10_isCode_5 rfl ?_
    refine g_aload_n C 0 dX10_isCode_6 rfl rfl ?_
    refine g_getr (k := 0) (k' := 6) C (by decide) kf_X10_23 rfl rfl dX10_isCode_7 ?_
    refine g_aload_n C 0 dX10_isCode_10 rfl rfl ?_
    refine g_getr (k := 0) (k' := 3) C (by decide) kf_X10_13 rfl rfl dX10_isCode_11 ?_
    refine g_iload_n C 1 dX10_isCode_14 rfl rfl ?_
    obtain ⟨hi15, hm⟩ := ifn hm
    refine g_iald C (by decide) hi15 dX10_isCode_15 ?_
    obtain ⟨hi16, hm⟩ := ifn hm
    refine g_iald C (by decide) hi16 dX10_isCode_16 ?_
    refine g_imul C dX10_isCode_17 ?_
    refine g_ishr C dX10_isCode_18 ?_
    refine g_if_ne (tgt := 26) C dX10_isCode_19 (by decide) (fun h19 => ?_) (fun h19 => ?_)
    · have hm := ife hm h19
      exact g_sub [0, 1, 2] rfl (g_pc rfl (J26 l1 l2 M hm))
    · have hm := ift hm h19
      refine g_iconst (v := 1) C dX10_isCode_22 rfl ?_
      refine g_goto (tgt := 27) C dX10_isCode_23 (by decide) ?_
      exact g_sub [0, 1, 2] rfl (g_pc rfl (J27 l1 l2 (1 : Int32) M hm))
def f_X10_setFunction_j27 (fu : Nat)   (l1 : Int32) (l2 : Int32) (t1 : Int32) (M : Mem) : Option (Int32 × Mem) :=
  if ((mI M 10 0 0 t1).1 10 0 0) ≤ 0 then if inb l1 (alen 22 5) then if inb l1 (alen 22 5) then some ((mI M 10 0 0 t1).1 22 5 l1.toNatClampNeg, (mI (mI M 10 0 0 t1) 22 5 l1.toNatClampNeg l2)) else none else none else some ((0 : Int32), (mI M 10 0 0 t1))
def f_X10_setFunction (fu : Nat) (l1 : Int32) (l2 : Int32) (M : Mem) : Option (Int32 × Mem) :=
  (f_X10_isArrow fu l1 M).bind (fun r3 => if r3.1 = 0 then f_X10_setFunction_j27 fu l1 l2 (1 : Int32) r3.2 else (f_X10_isCode fu l1 l2 r3.2).bind (fun r16 => if r16.1 = 0 then f_X10_setFunction_j27 fu l1 l2 (2 : Int32) r16.2 else f_X10_setFunction_j27 fu l1 l2 (0 : Int32) r16.2))
set_option maxHeartbeats 4000000 in
set_option maxRecDepth 100000 in
theorem k_X10_setFunction (l : Launch) (G : GE) (hl : l.stackTraces = false) (hG : GOK G) (fu : Nat) (l1 : Int32) (l2 : Int32) (M : Mem) (res : Int32 × Mem) (hk0 : (10, 0) ∈ gids G) (hm : f_X10_setFunction fu l1 l2 M = some res) : CT l G yX10_setFunction cX10_setFunction 4 (some .int) 2 [vR 10 0, vI l1, vI l2] M (.inl (some (vI res.1))) res.2 := by
  refine ct_of [(0, vR 10 0), (1, vI l1), (2, vI l2)] (by decide +kernel) hl hG (Nat.le_of_ble_eq_true rfl) rfl (List.forall_mem_cons.mpr ⟨Or.inl hk0, List.forall_mem_cons.mpr ⟨trivial, List.forall_mem_cons.mpr ⟨trivial, fun _ h => nomatch h⟩⟩⟩) (List.forall_mem_cons.mpr ⟨Or.inl hk0, List.forall_mem_cons.mpr ⟨trivial, List.forall_mem_cons.mpr ⟨trivial, fun _ h => nomatch h⟩⟩⟩) (fun X hX C => ?_)
  subst hX
  have Cl := C
  have J27 : ∀ (l1 : Int32) (l2 : Int32) (t1 : Int32) (M : Mem), f_X10_setFunction_j27 fu   l1 l2 t1 M = some res → GW G X 4 (QX G X (.inl (some (vI res.1))) res.2) 27 [(0, vR 10 0), (1, vI l1), (2, vI l2)] [vI t1, vR 10 0] M := by
    intro l1 l2 t1 M hm
    unfold f_X10_setFunction_j27 at hm
    refine g_puti C (by decide) kf_X10_72 rfl rfl rfl dX10_setFunction_27 ?_
    refine g_aload_n C 0 dX10_setFunction_30 rfl rfl ?_
    refine g_geti (k := 0) C (by decide) kf_X10_72 rfl dX10_setFunction_31 ?_
    refine g_if_le (tgt := 39) C dX10_setFunction_34 (by decide) (fun h34 => ?_) (fun h34 => ?_)
    · have hm := ift hm h34
      refine g_aload_n C 0 dX10_setFunction_39 rfl rfl ?_
      refine g_getr (k := 0) (k' := 5) C (by decide) kf_X10_20 rfl rfl dX10_setFunction_40 ?_
      refine g_iload_n C 1 dX10_setFunction_43 rfl rfl ?_
      obtain ⟨hi44, hm⟩ := ifn hm
      refine g_iald C (by decide) hi44 dX10_setFunction_44 ?_
      refine g_istore_n (ls' := [(3, vI ((mI M 10 0 0 t1).1 22 5 l1.toNatClampNeg)), (0, vR 10 0), (1, vI l1), (2, vI l2)]) C dX10_setFunction_45 rfl (by decide) rfl ?_
      refine g_aload_n C 1 dX10_setFunction_46 rfl rfl ?_
      refine g_getr (k := 0) (k' := 5) C (by decide) kf_X10_20 rfl rfl dX10_setFunction_47 ?_
      refine g_iload_n C 2 dX10_setFunction_50 rfl rfl ?_
      refine g_iload_n C 3 dX10_setFunction_51 rfl rfl ?_
      obtain ⟨hi52, hm⟩ := ifn hm
      refine g_iast C (by decide) hi52 dX10_setFunction_52 ?_
      refine g_iload_n C 0 dX10_setFunction_53 rfl rfl ?_
      obtain rfl := Option.some.inj hm
      exact g_iret C dX10_setFunction_54
    · have hm := ife hm h34
      refine g_iconst (v := 0) C dX10_setFunction_37 rfl ?_
      obtain rfl := Option.some.inj hm
      exact g_iret C dX10_setFunction_38
  unfold f_X10_setFunction at hm
  refine g_aload_n C 0 dX10_setFunction_0 rfl rfl ?_
  refine g_aload_n C 0 dX10_setFunction_1 rfl rfl ?_
  refine g_iload_n C 1 dX10_setFunction_2 rfl rfl ?_
  obtain ⟨r3, hr3, hm⟩ := bnd_some hm
  refine g_callVi (As := [vI l1]) (rest := [vR 10 0]) C lk_X10_169 (k_X10_isArrow X.2.1 G hl hG fu l1 M r3 hk0 hr3) (by decide) rfl rfl rfl (Nat.le_of_ble_eq_true rfl) ⟨Nat.le_of_ble_eq_true rfl, Nat.le_of_ble_eq_true rfl⟩ dX10_setFunction_3 ?_
  refine g_if_ne (tgt := 13) C dX10_setFunction_6 (by decide) (fun h6 => ?_) (fun h6 => ?_)
  · have hm := ife hm h6
    refine g_aload_n C 0 dX10_setFunction_13 rfl rfl ?_
    refine g_iload_n C 1 dX10_setFunction_14 rfl rfl ?_
    refine g_iload_n C 2 dX10_setFunction_15 rfl rfl ?_
    obtain ⟨r16, hr16, hm⟩ := bnd_some hm
    refine g_callVi (As := [vI l1, vI l2]) (rest := [vR 10 0]) C lk_X10_259 (k_X10_isCode X.2.1 G hl hG fu l1 l2 r3.2 r16 hk0 hr16) (by decide) rfl rfl rfl (Nat.le_of_ble_eq_true rfl) ⟨Nat.le_of_ble_eq_true rfl, Nat.le_of_ble_eq_true rfl⟩ dX10_setFunction_16 ?_
    refine g_if_eq (tgt := 26) C dX10_setFunction_19 (by decide) (fun h19 => ?_) (fun h19 => ?_)
    · have hm := ift hm h19
      refine g_iconst (v := 2) C dX10_setFunction_26 rfl ?_
      exact g_sub [0, 1, 2] rfl (g_pc rfl (J27 l1 l2 (2 : Int32) r16.2 hm))
    · have hm := ife hm h19
      refine g_iconst (v := 0) C dX10_setFunction_22 rfl ?_
      refine g_goto (tgt := 27) C dX10_setFunction_23 (by decide) ?_
      exact g_sub [0, 1, 2] rfl (g_pc rfl (J27 l1 l2 (0 : Int32) r16.2 hm))
  · have hm := ift hm h6
    refine g_iconst (v := 1) C dX10_setFunction_9 rfl ?_
    refine g_goto (tgt := 27) C dX10_setFunction_10 (by decide) ?_
    exact g_sub [0, 1, 2] rfl (g_pc rfl (J27 l1 l2 (1 : Int32) r3.2 hm))
def f_X10_apply_j39 (fu : Nat)   (l1 : Int32) (l2 : Int32) (t1 : Int32) (M : Mem) : Option (Int32 × Mem) :=
  if ((mI M 10 0 0 t1).1 10 0 0) ≤ 0 then (f_X10_through fu l1 l2 (mI M 10 0 0 t1)).bind (fun r56 => some (r56.1, r56.2)) else some ((0 : Int32), (mI M 10 0 0 t1))
def f_X10_apply (fu : Nat) (l1 : Int32) (l2 : Int32) (M : Mem) : Option (Int32 × Mem) :=
  (f_X10_isPath fu l1 M).bind (fun r3 => if r3.1 = 0 then f_X10_apply_j39 fu l1 l2 (1 : Int32) r3.2 else if inb l1 (alen 22 14) then if inb (r3.2.1 22 14 l1.toNatClampNeg) (alen 22 6) then (f_X10_within fu l2 (0 : Int32) ((r3.2.1 22 6 (r3.2.1 22 14 l1.toNatClampNeg).toNatClampNeg) - (1 : Int32)) r3.2).bind (fun r28 => if r28.1 = 0 then f_X10_apply_j39 fu l1 l2 (2 : Int32) r28.2 else f_X10_apply_j39 fu l1 l2 (0 : Int32) r28.2) else none else none)
set_option maxHeartbeats 4000000 in
set_option maxRecDepth 100000 in
theorem k_X10_apply (l : Launch) (G : GE) (hl : l.stackTraces = false) (hG : GOK G) (fu : Nat) (l1 : Int32) (l2 : Int32) (M : Mem) (res : Int32 × Mem) (hk0 : (10, 0) ∈ gids G) (hm : f_X10_apply fu l1 l2 M = some res) : CT l G yX10_apply cX10_apply 3 (some .int) 2 [vR 10 0, vI l1, vI l2] M (.inl (some (vI res.1))) res.2 := by
  refine ct_of [(0, vR 10 0), (1, vI l1), (2, vI l2)] (by decide +kernel) hl hG (Nat.le_of_ble_eq_true rfl) rfl (List.forall_mem_cons.mpr ⟨Or.inl hk0, List.forall_mem_cons.mpr ⟨trivial, List.forall_mem_cons.mpr ⟨trivial, fun _ h => nomatch h⟩⟩⟩) (List.forall_mem_cons.mpr ⟨Or.inl hk0, List.forall_mem_cons.mpr ⟨trivial, List.forall_mem_cons.mpr ⟨trivial, fun _ h => nomatch h⟩⟩⟩) (fun X hX C => ?_)
  subst hX
  have Cl := C
  have J39 : ∀ (l1 : Int32) (l2 : Int32) (t1 : Int32) (M : Mem), f_X10_apply_j39 fu   l1 l2 t1 M = some res → GW G X 3 (QX G X (.inl (some (vI res.1))) res.2) 39 [(0, vR 10 0), (1, vI l1), (2, vI l2)] [vI t1, vR 10 0] M := by
    intro l1 l2 t1 M hm
    unfold f_X10_apply_j39 at hm
    refine g_puti C (by decide) kf_X10_72 rfl rfl rfl dX10_apply_39 ?_
    refine g_aload_n C 0 dX10_apply_42 rfl rfl ?_
    refine g_geti (k := 0) C (by decide) kf_X10_72 rfl dX10_apply_43 ?_
    refine g_if_le (tgt := 53) C dX10_apply_46 (by decide) (fun h46 => ?_) (fun h46 => ?_)
    · have hm := ift hm h46
      refine g_aload_n C 0 dX10_apply_53 rfl rfl ?_
      refine g_iload_n C 1 dX10_apply_54 rfl rfl ?_
      refine g_iload_n C 2 dX10_apply_55 rfl rfl ?_
      obtain ⟨r56, hr56, hm⟩ := bnd_some hm
      refine g_callVi (As := [vI l1, vI l2]) (rest := []) C lk_X10_211 (k_X10_through X.2.1 G hl hG fu l1 l2 (mI M 10 0 0 t1) r56 hk0 hr56) (by decide) rfl rfl rfl (Nat.le_of_ble_eq_true rfl) ⟨Nat.le_of_ble_eq_true rfl, Nat.le_of_ble_eq_true rfl⟩ dX10_apply_56 ?_
      obtain rfl := Option.some.inj hm
      exact g_iret C dX10_apply_59
    · have hm := ife hm h46
      refine g_iconst (v := 0) C dX10_apply_49 rfl ?_
      refine g_goto (tgt := 59) C dX10_apply_50 (by decide) ?_
      obtain rfl := Option.some.inj hm
      exact g_iret C dX10_apply_59
  unfold f_X10_apply at hm
  refine g_aload_n C 0 dX10_apply_0 rfl rfl ?_
  refine g_aload_n C 0 dX10_apply_1 rfl rfl ?_
  refine g_iload_n C 1 dX10_apply_2 rfl rfl ?_
  obtain ⟨r3, hr3, hm⟩ := bnd_some hm
  refine g_callVi (As := [vI l1]) (rest := [vR 10 0]) C lk_X10_114 (k_X10_isPath X.2.1 G hl hG fu l1 M r3 hk0 hr3) (by decide) rfl rfl rfl (Nat.le_of_ble_eq_true rfl) ⟨Nat.le_of_ble_eq_true rfl, Nat.le_of_ble_eq_true rfl⟩ dX10_apply_3 ?_
  refine g_if_ne (tgt := 13) C dX10_apply_6 (by decide) (fun h6 => ?_) (fun h6 => ?_)
  · have hm := ife hm h6
    refine g_iload_n C 2 dX10_apply_13 rfl rfl ?_
    refine g_iconst (v := 0) C dX10_apply_14 rfl ?_
    refine g_aload_n C 0 dX10_apply_15 rfl rfl ?_
    refine g_getr (k := 0) (k' := 6) C (by decide) kf_X10_23 rfl rfl dX10_apply_16 ?_
    refine g_aload_n C 0 dX10_apply_19 rfl rfl ?_
    refine g_getr (k := 0) (k' := 14) C (by decide) kf_X10_38 rfl rfl dX10_apply_20 ?_
    refine g_iload_n C 1 dX10_apply_23 rfl rfl ?_
    obtain ⟨hi24, hm⟩ := ifn hm
    refine g_iald C (by decide) hi24 dX10_apply_24 ?_
    obtain ⟨hi25, hm⟩ := ifn hm
    refine g_iald C (by decide) hi25 dX10_apply_25 ?_
    refine g_iconst (v := 1) C dX10_apply_26 rfl ?_
    refine g_isub C dX10_apply_27 ?_
    obtain ⟨r28, hr28, hm⟩ := bnd_some hm
    refine g_callSi (As := [vI l2, vI (0 : Int32), vI ((r3.2.1 22 6 (r3.2.1 22 14 l1.toNatClampNeg).toNatClampNeg) - (1 : Int32))]) (rest := [vR 10 0]) C lk_X10_75 (k_X10_within X.2.1 G hl hG fu l2 (0 : Int32) ((r3.2.1 22 6 (r3.2.1 22 14 l1.toNatClampNeg).toNatClampNeg) - (1 : Int32)) r3.2 r28  hr28) rfl rfl (Nat.le_of_ble_eq_true rfl) ⟨Nat.le_of_ble_eq_true rfl, Nat.le_of_ble_eq_true rfl⟩ dX10_apply_28 ?_
    refine g_if_eq (tgt := 38) C dX10_apply_31 (by decide) (fun h31 => ?_) (fun h31 => ?_)
    · have hm := ift hm h31
      refine g_iconst (v := 2) C dX10_apply_38 rfl ?_
      exact g_sub [0, 1, 2] rfl (g_pc rfl (J39 l1 l2 (2 : Int32) r28.2 hm))
    · have hm := ife hm h31
      refine g_iconst (v := 0) C dX10_apply_34 rfl ?_
      refine g_goto (tgt := 39) C dX10_apply_35 (by decide) ?_
      exact g_sub [0, 1, 2] rfl (g_pc rfl (J39 l1 l2 (0 : Int32) r28.2 hm))
  · have hm := ift hm h6
    refine g_iconst (v := 1) C dX10_apply_9 rfl ?_
    refine g_goto (tgt := 39) C dX10_apply_10 (by decide) ?_
    exact g_sub [0, 1, 2] rfl (g_pc rfl (J39 l1 l2 (1 : Int32) r3.2 hm))

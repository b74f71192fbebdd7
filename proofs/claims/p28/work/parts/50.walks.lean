/-! p28: the claim is false as printed (its room): made by wip/refute/port.py out of whole's rows -/
/-! models and contracts, by program (wip/whole/emit.py): X0_clear, X8_get, X8_copyFrom, X3_copyFrom, X0_become, X0_total, X8_set, X0_open, X3_set, X0_lengthen, X3_get, X0_move, X0_remove, X0_occurs, X0_removeAllWith, X0_renumber, X0_pathOf, X8_fill, X1_clear, X1_become, X1_size, X1_resize, X1_code, X1_setCode, X1_digit, X1_value, X1_valueAlong, J6_bitCount_0f7a4, X1_imageSize, X1_agree, X1_choose, X1_isCode, X2_clear, X2_become, X2_objectTotal, X2_arrowTotal, X2_hasObject, X2_hasArrow, X2_from -/
def f_X8_get (fu : Nat) (k0 : Nat) (l1 : Int32) (M : Mem) : Option (Int32 × Mem) :=
  if l1 < 0 then some ((-1 : Int32), M) else if (nI (alen 20 k0)) ≤ l1 then some ((-1 : Int32), M) else if inb l1 (alen 20 k0) then some (M.1 20 k0 l1.toNatClampNeg, M) else none
set_option maxHeartbeats 4000000 in
set_option maxRecDepth 100000 in
theorem k_X8_get (l : Launch) (G : GE) (hl : l.stackTraces = false) (hG : GOK G) (fu : Nat) (k0 : Nat) (l1 : Int32) (M : Mem) (res : Int32 × Mem) (hk0 : (8, k0) ∈ gids G) (hm : f_X8_get fu k0 l1 M = some res) : CT l G yX8_get cX8_get 2 (some .int) 0 [vR 8 k0, vI l1] M (.inl (some (vI res.1))) res.2 := by
  refine ct_of [(0, vR 8 k0), (1, vI l1)] (by decide +kernel) hl hG (Nat.le_of_ble_eq_true rfl) rfl (List.forall_mem_cons.mpr ⟨Or.inl hk0, List.forall_mem_cons.mpr ⟨trivial, fun _ h => nomatch h⟩⟩) (List.forall_mem_cons.mpr ⟨Or.inl hk0, List.forall_mem_cons.mpr ⟨trivial, fun _ h => nomatch h⟩⟩) (fun X hX C => ?_)
  subst hX
  have Cl := C
  unfold f_X8_get at hm
  refine g_iload_n C 1 dX8_get_0 rfl rfl ?_
  refine g_if_lt (tgt := 22) C dX8_get_1 (by decide) (fun h1 => ?_) (fun h1 => ?_)
  · have hm := ift hm h1
    refine g_iconst (v := -1) C dX8_get_22 rfl ?_
    obtain rfl := Option.some.inj hm
    exact g_iret C dX8_get_23
  · have hm := ife hm h1
    refine g_iload_n C 1 dX8_get_4 rfl rfl ?_
    refine g_aload_n C 0 dX8_get_5 rfl rfl ?_
    refine g_getr (k := k0) (k' := k0) C (by decide) kf_X8_9 rfl rfl dX8_get_6 ?_
    refine g_alen C (by decide) dX8_get_9 ?_
    refine g_icmp_ge (tgt := 22) C dX8_get_10 (by decide) (fun h10 => ?_) (fun h10 => ?_)
    · have hm := ift hm h10
      refine g_iconst (v := -1) C dX8_get_22 rfl ?_
      obtain rfl := Option.some.inj hm
      exact g_iret C dX8_get_23
    · have hm := ife hm h10
      refine g_aload_n C 0 dX8_get_13 rfl rfl ?_
      refine g_getr (k := k0) (k' := k0) C (by decide) kf_X8_9 rfl rfl dX8_get_14 ?_
      refine g_iload_n C 1 dX8_get_17 rfl rfl ?_
      obtain ⟨hi18, hm⟩ := ifn hm
      refine g_iald C (by decide) hi18 dX8_get_18 ?_
      refine g_goto (tgt := 23) C dX8_get_19 (by decide) ?_
      obtain rfl := Option.some.inj hm
      exact g_iret C dX8_get_23
def f_X8_set (fu : Nat) (k0 : Nat) (l1 : Int32) (l2 : Int32) (M : Mem) : Option (Mem) :=
  if l1 < 0 then some M else if (nI (alen 20 k0)) ≤ l1 then some M else if inb l1 (alen 20 k0) then some (mI M 20 k0 l1.toNatClampNeg l2) else none
set_option maxHeartbeats 4000000 in
set_option maxRecDepth 100000 in
theorem k_X8_set (l : Launch) (G : GE) (hl : l.stackTraces = false) (hG : GOK G) (fu : Nat) (k0 : Nat) (l1 : Int32) (l2 : Int32) (M : Mem) (res : Mem) (hk0 : (8, k0) ∈ gids G) (hm : f_X8_set fu k0 l1 l2 M = some res) : CT l G yX8_set cX8_set 3 none 0 [vR 8 k0, vI l1, vI l2] M (.inl none) res := by
  refine ct_of [(0, vR 8 k0), (1, vI l1), (2, vI l2)] (by decide +kernel) hl hG (Nat.le_of_ble_eq_true rfl) rfl (List.forall_mem_cons.mpr ⟨Or.inl hk0, List.forall_mem_cons.mpr ⟨trivial, List.forall_mem_cons.mpr ⟨trivial, fun _ h => nomatch h⟩⟩⟩) (List.forall_mem_cons.mpr ⟨Or.inl hk0, List.forall_mem_cons.mpr ⟨trivial, List.forall_mem_cons.mpr ⟨trivial, fun _ h => nomatch h⟩⟩⟩) (fun X hX C => ?_)
  subst hX
  have Cl := C
  unfold f_X8_set at hm
  refine g_iload_n C 1 dX8_set_0 rfl rfl ?_
  refine g_if_lt (tgt := 20) C dX8_set_1 (by decide) (fun h1 => ?_) (fun h1 => ?_)
  · have hm := ift hm h1
    obtain rfl := Option.some.inj hm
    exact g_vret C dX8_set_20
  · have hm := ife hm h1
    refine g_iload_n C 1 dX8_set_4 rfl rfl ?_
    refine g_aload_n C 0 dX8_set_5 rfl rfl ?_
    refine g_getr (k := k0) (k' := k0) C (by decide) kf_X8_9 rfl rfl dX8_set_6 ?_
    refine g_alen C (by decide) dX8_set_9 ?_
    refine g_icmp_ge (tgt := 20) C dX8_set_10 (by decide) (fun h10 => ?_) (fun h10 => ?_)
    · have hm := ift hm h10
      obtain rfl := Option.some.inj hm
      exact g_vret C dX8_set_20
    · have hm := ife hm h10
      refine g_aload_n C 0 dX8_set_13 rfl rfl ?_
      refine g_getr (k := k0) (k' := k0) C (by decide) kf_X8_9 rfl rfl dX8_set_14 ?_
      refine g_iload_n C 1 dX8_set_17 rfl rfl ?_
      refine g_iload_n C 2 dX8_set_18 rfl rfl ?_
      obtain ⟨hi19, hm⟩ := ifn hm
      refine g_iast C (by decide) hi19 dX8_set_19 ?_
      obtain rfl := Option.some.inj hm
      exact g_vret C dX8_set_20
def f_X3_set (fu : Nat) (k0 : Nat) (l1 : Int32) (l2 : Int32) (l3 : Int32) (M : Mem) : Option (Mem) :=
  if l1 < 0 then some M else if (M.1 3 k0 0) ≤ l1 then some M else if l2 < 0 then some M else if l2 < (M.1 3 k0 1) then if ((l1 * (M.1 3 k0 1)) + l2) < 0 then some M else if (nI (alen 21 k0)) ≤ ((l1 * (M.1 3 k0 1)) + l2) then some M else if inb ((l1 * (M.1 3 k0 1)) + l2) (alen 21 k0) then some (mI M 21 k0 ((l1 * (M.1 3 k0 1)) + l2).toNatClampNeg l3) else none else some M
set_option maxHeartbeats 4000000 in
set_option maxRecDepth 100000 in
theorem k_X3_set (l : Launch) (G : GE) (hl : l.stackTraces = false) (hG : GOK G) (fu : Nat) (k0 : Nat) (l1 : Int32) (l2 : Int32) (l3 : Int32) (M : Mem) (res : Mem) (hk0 : (3, k0) ∈ gids G) (hm : f_X3_set fu k0 l1 l2 l3 M = some res) : CT l G yX3_set cX3_set 5 none 0 [vR 3 k0, vI l1, vI l2, vI l3] M (.inl none) res := by
  refine ct_of [(0, vR 3 k0), (1, vI l1), (2, vI l2), (3, vI l3)] (by decide +kernel) hl hG (Nat.le_of_ble_eq_true rfl) rfl (List.forall_mem_cons.mpr ⟨Or.inl hk0, List.forall_mem_cons.mpr ⟨trivial, List.forall_mem_cons.mpr ⟨trivial, List.forall_mem_cons.mpr ⟨trivial, fun _ h => nomatch h⟩⟩⟩⟩) (List.forall_mem_cons.mpr ⟨Or.inl hk0, List.forall_mem_cons.mpr ⟨trivial, List.forall_mem_cons.mpr ⟨trivial, List.forall_mem_cons.mpr ⟨trivial, fun _ h => nomatch h⟩⟩⟩⟩) (fun X hX C => ?_)
  subst hX
  have Cl := C
  unfold f_X3_set at hm
  refine g_iload_n C 1 dX3_set_0 rfl rfl ?_
  refine g_if_lt (tgt := 24) C dX3_set_1 (by decide) (fun h1 => ?_) (fun h1 => ?_)
  · have hm := ift hm h1
    obtain rfl := Option.some.inj hm
    exact g_vret C dX3_set_24
  · have hm := ife hm h1
    refine g_iload_n C 1 dX3_set_4 rfl rfl ?_
    refine g_aload_n C 0 dX3_set_5 rfl rfl ?_
    refine g_geti (k := k0) C (by decide) kf_X3_9 rfl dX3_set_6 ?_
    refine g_icmp_ge (tgt := 24) C dX3_set_9 (by decide) (fun h9 => ?_) (fun h9 => ?_)
    · have hm := ift hm h9
      obtain rfl := Option.some.inj hm
      exact g_vret C dX3_set_24
    · have hm := ife hm h9
      refine g_iload_n C 2 dX3_set_12 rfl rfl ?_
      refine g_if_lt (tgt := 24) C dX3_set_13 (by decide) (fun h13 => ?_) (fun h13 => ?_)
      · have hm := ift hm h13
        obtain rfl := Option.some.inj hm
        exact g_vret C dX3_set_24
      · have hm := ife hm h13
        refine g_iload_n C 2 dX3_set_16 rfl rfl ?_
        refine g_aload_n C 0 dX3_set_17 rfl rfl ?_
        refine g_geti (k := k0) C (by decide) kf_X3_15 rfl dX3_set_18 ?_
        refine g_icmp_lt (tgt := 25) C dX3_set_21 (by decide) (fun h21 => ?_) (fun h21 => ?_)
        · have hm := ift hm h21
          refine g_iload_n C 1 dX3_set_25 rfl rfl ?_
          refine g_aload_n C 0 dX3_set_26 rfl rfl ?_
          refine g_geti (k := k0) C (by decide) kf_X3_15 rfl dX3_set_27 ?_
          refine g_imul C dX3_set_30 ?_
          refine g_iload_n C 2 dX3_set_31 rfl rfl ?_
          refine g_iadd C dX3_set_32 ?_
          refine g_istore (ls' := [(4, vI ((l1 * (M.1 3 k0 1)) + l2)), (0, vR 3 k0), (1, vI l1), (2, vI l2), (3, vI l3)]) C dX3_set_33 (by decide) rfl ?_
          refine g_iload C 0 dX3_set_35 rfl ?_
          refine g_if_lt (tgt := 58) C dX3_set_37 (by decide) (fun h37 => ?_) (fun h37 => ?_)
          · have hm := ift hm h37
            obtain rfl := Option.some.inj hm
            exact g_vret C dX3_set_58
          · have hm := ife hm h37
            refine g_iload C 0 dX3_set_40 rfl ?_
            refine g_aload_n C 1 dX3_set_42 rfl rfl ?_
            refine g_getr (k := k0) (k' := k0) C (by decide) kf_X3_18 rfl rfl dX3_set_43 ?_
            refine g_alen C (by decide) dX3_set_46 ?_
            refine g_icmp_ge (tgt := 58) C dX3_set_47 (by decide) (fun h47 => ?_) (fun h47 => ?_)
            · have hm := ift hm h47
              obtain rfl := Option.some.inj hm
              exact g_vret C dX3_set_58
            · have hm := ife hm h47
              refine g_aload_n C 1 dX3_set_50 rfl rfl ?_
              refine g_getr (k := k0) (k' := k0) C (by decide) kf_X3_18 rfl rfl dX3_set_51 ?_
              refine g_iload C 0 dX3_set_54 rfl ?_
              refine g_iload_n C 4 dX3_set_56 rfl rfl ?_
              obtain ⟨hi57, hm⟩ := ifn hm
              refine g_iast C (by decide) hi57 dX3_set_57 ?_
              obtain rfl := Option.some.inj hm
              exact g_vret C dX3_set_58
        · have hm := ife hm h21
          obtain rfl := Option.some.inj hm
          exact g_vret C dX3_set_24
def f_X3_get (fu : Nat) (k0 : Nat) (l1 : Int32) (l2 : Int32) (M : Mem) : Option (Int32 × Mem) :=
  if l1 < 0 then some ((-1 : Int32), M) else if (M.1 3 k0 0) ≤ l1 then some ((-1 : Int32), M) else if l2 < 0 then some ((-1 : Int32), M) else if l2 < (M.1 3 k0 1) then if ((l1 * (M.1 3 k0 1)) + l2) < 0 then some ((-1 : Int32), M) else if (nI (alen 21 k0)) ≤ ((l1 * (M.1 3 k0 1)) + l2) then some ((-1 : Int32), M) else if inb ((l1 * (M.1 3 k0 1)) + l2) (alen 21 k0) then some (M.1 21 k0 ((l1 * (M.1 3 k0 1)) + l2).toNatClampNeg, M) else none else some ((-1 : Int32), M)
set_option maxHeartbeats 4000000 in
set_option maxRecDepth 100000 in
theorem k_X3_get (l : Launch) (G : GE) (hl : l.stackTraces = false) (hG : GOK G) (fu : Nat) (k0 : Nat) (l1 : Int32) (l2 : Int32) (M : Mem) (res : Int32 × Mem) (hk0 : (3, k0) ∈ gids G) (hm : f_X3_get fu k0 l1 l2 M = some res) : CT l G yX3_get cX3_get 4 (some .int) 0 [vR 3 k0, vI l1, vI l2] M (.inl (some (vI res.1))) res.2 := by
  refine ct_of [(0, vR 3 k0), (1, vI l1), (2, vI l2)] (by decide +kernel) hl hG (Nat.le_of_ble_eq_true rfl) rfl (List.forall_mem_cons.mpr ⟨Or.inl hk0, List.forall_mem_cons.mpr ⟨trivial, List.forall_mem_cons.mpr ⟨trivial, fun _ h => nomatch h⟩⟩⟩) (List.forall_mem_cons.mpr ⟨Or.inl hk0, List.forall_mem_cons.mpr ⟨trivial, List.forall_mem_cons.mpr ⟨trivial, fun _ h => nomatch h⟩⟩⟩) (fun X hX C => ?_)
  subst hX
  have Cl := C
  unfold f_X3_get at hm
  refine g_iload_n C 1 dX3_get_0 rfl rfl ?_
  refine g_if_lt (tgt := 24) C dX3_get_1 (by decide) (fun h1 => ?_) (fun h1 => ?_)
  · have hm := ift hm h1
    refine g_iconst (v := -1) C dX3_get_24 rfl ?_
    obtain rfl := Option.some.inj hm
    exact g_iret C dX3_get_25
  · have hm := ife hm h1
    refine g_iload_n C 1 dX3_get_4 rfl rfl ?_
    refine g_aload_n C 0 dX3_get_5 rfl rfl ?_
    refine g_geti (k := k0) C (by decide) kf_X3_9 rfl dX3_get_6 ?_
    refine g_icmp_ge (tgt := 24) C dX3_get_9 (by decide) (fun h9 => ?_) (fun h9 => ?_)
    · have hm := ift hm h9
      refine g_iconst (v := -1) C dX3_get_24 rfl ?_
      obtain rfl := Option.some.inj hm
      exact g_iret C dX3_get_25
    · have hm := ife hm h9
      refine g_iload_n C 2 dX3_get_12 rfl rfl ?_
      refine g_if_lt (tgt := 24) C dX3_get_13 (by decide) (fun h13 => ?_) (fun h13 => ?_)
      · have hm := ift hm h13
        refine g_iconst (v := -1) C dX3_get_24 rfl ?_
        obtain rfl := Option.some.inj hm
        exact g_iret C dX3_get_25
      · have hm := ife hm h13
        refine g_iload_n C 2 dX3_get_16 rfl rfl ?_
        refine g_aload_n C 0 dX3_get_17 rfl rfl ?_
        refine g_geti (k := k0) C (by decide) kf_X3_15 rfl dX3_get_18 ?_
        refine g_icmp_lt (tgt := 26) C dX3_get_21 (by decide) (fun h21 => ?_) (fun h21 => ?_)
        · have hm := ift hm h21
          refine g_iload_n C 1 dX3_get_26 rfl rfl ?_
          refine g_aload_n C 0 dX3_get_27 rfl rfl ?_
          refine g_geti (k := k0) C (by decide) kf_X3_15 rfl dX3_get_28 ?_
          refine g_imul C dX3_get_31 ?_
          refine g_iload_n C 2 dX3_get_32 rfl rfl ?_
          refine g_iadd C dX3_get_33 ?_
          refine g_istore_n (ls' := [(3, vI ((l1 * (M.1 3 k0 1)) + l2)), (0, vR 3 k0), (1, vI l1), (2, vI l2)]) C dX3_get_34 rfl (by decide) rfl ?_
          refine g_iload_n C 0 dX3_get_35 rfl rfl ?_
          refine g_if_lt (tgt := 57) C dX3_get_36 (by decide) (fun h36 => ?_) (fun h36 => ?_)
          · have hm := ift hm h36
            refine g_iconst (v := -1) C dX3_get_57 rfl ?_
            obtain rfl := Option.some.inj hm
            exact g_iret C dX3_get_58
          · have hm := ife hm h36
            refine g_iload_n C 0 dX3_get_39 rfl rfl ?_
            refine g_aload_n C 1 dX3_get_40 rfl rfl ?_
            refine g_getr (k := k0) (k' := k0) C (by decide) kf_X3_18 rfl rfl dX3_get_41 ?_
            refine g_alen C (by decide) dX3_get_44 ?_
            refine g_icmp_ge (tgt := 57) C dX3_get_45 (by decide) (fun h45 => ?_) (fun h45 => ?_)
            · have hm := ift hm h45
              refine g_iconst (v := -1) C dX3_get_57 rfl ?_
              obtain rfl := Option.some.inj hm
              exact g_iret C dX3_get_58
            · have hm := ife hm h45
              refine g_aload_n C 1 dX3_get_48 rfl rfl ?_
              refine g_getr (k := k0) (k' := k0) C (by decide) kf_X3_18 rfl rfl dX3_get_49 ?_
              refine g_iload_n C 0 dX3_get_52 rfl rfl ?_
              obtain ⟨hi53, hm⟩ := ifn hm
              refine g_iald C (by decide) hi53 dX3_get_53 ?_
              refine g_goto (tgt := 58) C dX3_get_54 (by decide) ?_
              obtain rfl := Option.some.inj hm
              exact g_iret C dX3_get_58
        · have hm := ife hm h21
          refine g_iconst (v := -1) C dX3_get_24 rfl ?_
          obtain rfl := Option.some.inj hm
          exact g_iret C dX3_get_25
def f_X0_renumber_b26 (fu : Nat) (k0 : Nat) (l2 : Int32) (l3 : Int32) (l4 : Int32) (M : Mem) : Option ((Int32 × Int32 × Mem) ⊕ (Int32 × Mem)) :=
  (f_X8_get fu (3 * k0 + 7) l2 M).bind (fun r33 => if r33.1 ≤ l4 then some (Sum.inr (l3, r33.2)) else (f_X3_get fu k0 l2 l4 r33.2).bind (fun r51 => (f_X3_get fu 3 l3 r51.1 r51.2).bind (fun r54 => some (Sum.inl (r54.1, l4 + (1 : Int32), r54.2)))))
def f_X0_renumber_h26 (fu : Nat) (k0 : Nat)  (l2 : Int32) (l3 : Int32) (l4 : Int32) (M : Mem) : Option ((Int32 × Mem) ⊕ (Mem)) :=
  (lp_run (fun s => f_X0_renumber_b26 fu k0 l2 s.1 s.2.1 s.2.2) fu (l3, l4, M)).bind (fun r26 => match r26 with
    | (l3, M) => (f_X8_set fu (3 * k0 + 8) l2 l3 M).bind (fun r70 => some (Sum.inl (l2 + (1 : Int32), r70))))
def f_X0_renumber_b2 (fu : Nat) (k0 : Nat)  (l2 : Int32) (M : Mem) : Option ((Int32 × Mem) ⊕ (Mem)) :=
  if ((2 : Int32) * (M.1 0 k0 0)) ≤ l2 then some (Sum.inr M) else (f_X8_get fu (3 * k0 + 6) (l2 / (2 : Int32)) M).bind (fun r19 => f_X0_renumber_h26 fu k0 l2 r19.1 (0 : Int32) r19.2)
def f_X0_renumber_h2 (fu : Nat) (k0 : Nat)  (l2 : Int32) (M : Mem) : Option (Mem) :=
  (lp_run (fun s => f_X0_renumber_b2 fu k0  s.1 s.2) fu (l2, M)).bind (fun M => some M)
def f_X0_renumber (fu : Nat) (k0 : Nat) (M : Mem) : Option (Mem) :=
  f_X0_renumber_h2 fu k0 (0 : Int32) M
set_option maxHeartbeats 4000000 in
set_option maxRecDepth 100000 in
theorem k_X0_renumber (l : Launch) (G : GE) (hl : l.stackTraces = false) (hG : GOK G) (fu : Nat) (k0 : Nat) (M : Mem) (res : Mem) (hk0 : (0, k0) ∈ gids G) (hk1 : (6, 0) ∈ gids G) (hm : f_X0_renumber fu k0 M = some res) : CT l G yX0_renumber cX0_renumber 5 none 1 [vR 0 k0, vR 6 0] M (.inl none) res := by
  refine ct_of [(0, vR 0 k0), (1, vR 6 0)] (by decide +kernel) hl hG (Nat.le_of_ble_eq_true rfl) rfl (List.forall_mem_cons.mpr ⟨Or.inl hk0, List.forall_mem_cons.mpr ⟨Or.inl hk1, fun _ h => nomatch h⟩⟩) (List.forall_mem_cons.mpr ⟨Or.inl hk0, List.forall_mem_cons.mpr ⟨Or.inl hk1, fun _ h => nomatch h⟩⟩) (fun X hX C => ?_)
  subst hX
  have Cl := C
  have J2 : ∀ (l2 : Int32) (M : Mem), f_X0_renumber_h2 fu k0  l2 M = some res → GW G X 5 (QX G X (.inl none) res) 2 [(0, vR 0 k0), (1, vR 6 0), (2, vI l2)] [] M := by
    intro l2 M hm
    unfold f_X0_renumber_h2 at hm
    obtain ⟨r2, hL2, hk2⟩ := bnd_some hm
    have hx2 : ∀ (M : Mem), M = r2 → GW G X 5 (QX G X (.inl none) res) 79 [] [] M := by
      intro M he
      subst he
      have hm := hk2
      try dsimp only at hm
      obtain rfl := Option.some.inj hm
      exact g_vret C dX0_renumber_79
    refine lp_ind1 (P := (fun l2 M => GW G X 5 (QX G X (.inl none) res) 2 [(0, vR 0 k0), (1, vR 6 0), (2, vI l2)] [] M)) (r := r2) ?_ fu l2 M hL2
    intro l2 M o2 hm K2
    have J26 : ∀ (l2 : Int32) (l3 : Int32) (l4 : Int32) (M : Mem), f_X0_renumber_h26 fu k0  l2 l3 l4 M = some o2 → GW G X 5 (QX G X (.inl none) res) 26 [(0, vR 0 k0), (1, vR 6 0), (2, vI l2), (3, vI l3), (4, vI l4)] [] M := by
      intro l2 l3 l4 M hm
      unfold f_X0_renumber_h26 at hm
      obtain ⟨r26, hL26, hk26⟩ := bnd_some hm
      have hx26 : ∀ (l3 : Int32) (M : Mem), (l3, M) = r26 → GW G X 5 (QX G X (.inl none) res) 64 [(0, vR 0 k0), (1, vR 6 0), (2, vI l2), (3, vI l3)] [] M := by
        intro l3 M he
        subst he
        have hm := hk26
        try dsimp only at hm
        refine g_aload_n C 0 dX0_renumber_64 rfl rfl ?_
        refine g_getr (k := k0) (k' := (3 * k0 + 8)) C (by decide) kf_X0_36 rfl rfl dX0_renumber_65 ?_
        refine g_iload_n C 2 dX0_renumber_68 rfl rfl ?_
        refine g_iload_n C 3 dX0_renumber_69 rfl rfl ?_
        obtain ⟨r70, hr70, hm⟩ := bnd_some hm
        refine g_callVv (As := [vI l2, vI l3]) (rest := []) C lk_X0_46 (k_X8_set X.2.1 G hl hG fu (3 * k0 + 8) l2 l3 M r70 ((hG _ hk0).2 4 8 8 3 rfl) hr70) (by decide) rfl rfl rfl (Nat.le_of_ble_eq_true rfl) ⟨Nat.le_of_ble_eq_true rfl, Nat.le_of_ble_eq_true rfl⟩ dX0_renumber_70 ?_
        refine g_iinc (ls' := [(2, vI (l2 + (1 : Int32))), (0, vR 0 k0), (1, vR 6 0), (3, vI l3)]) (v := l2 + (1 : Int32)) C 2 dX0_renumber_73 rfl (iv_p1 _) (by decide) rfl ?_
        refine g_goto (tgt := 2) C dX0_renumber_76 (by decide) ?_
        obtain rfl := Option.some.inj hm
        exact g_sub [1, 2, 0] rfl (g_pc rfl (K2.1 (l2 + (1 : Int32)) r70 rfl))
      refine lp_ind2 (P := (fun l3 l4 M => GW G X 5 (QX G X (.inl none) res) 26 [(0, vR 0 k0), (1, vR 6 0), (2, vI l2), (3, vI l3), (4, vI l4)] [] M)) (r := r26) ?_ fu l3 l4 M hL26
      intro l3 l4 M o26 hm K26
      unfold f_X0_renumber_b26 at hm
      refine g_iload C 4 dX0_renumber_26 rfl ?_
      refine g_aload_n C 0 dX0_renumber_28 rfl rfl ?_
      refine g_getr (k := k0) (k' := (3 * k0 + 7)) C (by decide) kf_X0_24 rfl rfl dX0_renumber_29 ?_
      refine g_iload_n C 2 dX0_renumber_32 rfl rfl ?_
      obtain ⟨r33, hr33, hm⟩ := bnd_some hm
      refine g_callVi (As := [vI l2]) (rest := [vI l4]) C lk_X0_49 (k_X8_get X.2.1 G hl hG fu (3 * k0 + 7) l2 M r33 ((hG _ hk0).2 2 8 7 3 rfl) hr33) (by decide) rfl rfl rfl (Nat.le_of_ble_eq_true rfl) ⟨Nat.le_of_ble_eq_true rfl, Nat.le_of_ble_eq_true rfl⟩ dX0_renumber_33 ?_
      refine g_icmp_ge (tgt := 64) C dX0_renumber_36 (by decide) (fun h36 => ?_) (fun h36 => ?_)
      · have hm := ift hm h36
        obtain rfl := Option.some.inj hm
        exact g_sub [0, 1, 2, 3] rfl (g_pc rfl (hx26 l3 r33.2 (K26.2 _ rfl)))
      · have hm := ife hm h36
        refine g_aload_n C 1 dX0_renumber_39 rfl rfl ?_
        refine g_getrN (k := 0) (k' := 3) C (by decide) kf_X0_63 rfl rfl dX0_renumber_40 ?_
        refine g_iload_n C 3 dX0_renumber_43 rfl rfl ?_
        refine g_aload_n C 0 dX0_renumber_44 rfl rfl ?_
        refine g_getr (k := k0) (k' := k0) C (by decide) kf_X0_32 rfl rfl dX0_renumber_45 ?_
        refine g_iload_n C 2 dX0_renumber_48 rfl rfl ?_
        refine g_iload C 4 dX0_renumber_49 rfl ?_
        obtain ⟨r51, hr51, hm⟩ := bnd_some hm
        refine g_callVi (As := [vI l2, vI l4]) (rest := [vI l3, vR 3 3]) C lk_X0_68 (k_X3_get X.2.1 G hl hG fu k0 l2 l4 r33.2 r51 ((hG _ hk0).2 3 3 0 1 rfl) hr51) (by decide) rfl rfl rfl (Nat.le_of_ble_eq_true rfl) ⟨Nat.le_of_ble_eq_true rfl, Nat.le_of_ble_eq_true rfl⟩ dX0_renumber_51 ?_
        obtain ⟨r54, hr54, hm⟩ := bnd_some hm
        refine g_callVi (As := [vI l3, vI r51.1]) (rest := []) C lk_X0_68 (k_X3_get X.2.1 G hl hG fu 3 l3 r51.1 r51.2 r54 ((hG _ hk1).2 6 3 3 0 rfl) hr54) (by decide) rfl rfl rfl (Nat.le_of_ble_eq_true rfl) ⟨Nat.le_of_ble_eq_true rfl, Nat.le_of_ble_eq_true rfl⟩ dX0_renumber_54 ?_
        refine g_istore_n (ls' := [(3, vI r54.1), (0, vR 0 k0), (1, vR 6 0), (2, vI l2), (4, vI l4)]) C dX0_renumber_57 rfl (by decide) rfl ?_
        refine g_iinc (ls' := [(4, vI (l4 + (1 : Int32))), (3, vI r54.1), (0, vR 0 k0), (1, vR 6 0), (2, vI l2)]) (v := l4 + (1 : Int32)) C 4 dX0_renumber_58 rfl (iv_p1 _) (by decide) rfl ?_
        refine g_goto (tgt := 26) C dX0_renumber_61 (by decide) ?_
        obtain rfl := Option.some.inj hm
        exact g_sub [2, 3, 4, 1, 0] rfl (g_pc rfl (K26.1 r54.1 (l4 + (1 : Int32)) r54.2 rfl))
    unfold f_X0_renumber_b2 at hm
    refine g_iload_n C 2 dX0_renumber_2 rfl rfl ?_
    refine g_iconst (v := 2) C dX0_renumber_3 rfl ?_
    refine g_aload_n C 0 dX0_renumber_4 rfl rfl ?_
    refine g_geti (k := k0) C (by decide) kf_X0_9 rfl dX0_renumber_5 ?_
    refine g_imul C dX0_renumber_8 ?_
    refine g_icmp_ge (tgt := 79) C dX0_renumber_9 (by decide) (fun h9 => ?_) (fun h9 => ?_)
    · have hm := ift hm h9
      obtain rfl := Option.some.inj hm
      exact g_sub [] rfl (g_pc rfl (hx2 M (K2.2 _ rfl)))
    · have hm := ife hm h9
      refine g_aload_n C 0 dX0_renumber_12 rfl rfl ?_
      refine g_getr (k := k0) (k' := (3 * k0 + 6)) C (by decide) kf_X0_20 rfl rfl dX0_renumber_13 ?_
      refine g_iload_n C 2 dX0_renumber_16 rfl rfl ?_
      refine g_iconst (v := 2) C dX0_renumber_17 rfl ?_
      refine g_idiv C dX0_renumber_18 (by decide) ?_
      obtain ⟨r19, hr19, hm⟩ := bnd_some hm
      refine g_callVi (As := [vI (l2 / (2 : Int32))]) (rest := []) C lk_X0_49 (k_X8_get X.2.1 G hl hG fu (3 * k0 + 6) (l2 / (2 : Int32)) M r19 ((hG _ hk0).2 1 8 6 3 rfl) hr19) (by decide) rfl rfl rfl (Nat.le_of_ble_eq_true rfl) ⟨Nat.le_of_ble_eq_true rfl, Nat.le_of_ble_eq_true rfl⟩ dX0_renumber_19 ?_
      refine g_istore_n (ls' := [(3, vI r19.1), (0, vR 0 k0), (1, vR 6 0), (2, vI l2)]) C dX0_renumber_22 rfl (by decide) rfl ?_
      refine g_iconst (v := 0) C dX0_renumber_23 rfl ?_
      refine g_istore (ls' := [(4, vI (0 : Int32)), (3, vI r19.1), (0, vR 0 k0), (1, vR 6 0), (2, vI l2)]) C dX0_renumber_24 (by decide) rfl ?_
      exact g_sub [2, 3, 4, 1, 0] rfl (g_pc rfl (J26 l2 r19.1 (0 : Int32) r19.2 hm))
  unfold f_X0_renumber at hm
  refine g_iconst (v := 0) C dX0_renumber_0 rfl ?_
  refine g_istore_n (ls' := [(2, vI (0 : Int32)), (0, vR 0 k0), (1, vR 6 0)]) C dX0_renumber_1 rfl (by decide) rfl ?_
  exact g_sub [1, 2, 0] rfl (g_pc rfl (J2 (0 : Int32) M hm))
def f_X8_fill_b2 (fu : Nat) (k0 : Nat) (l1 : Int32) (l2 : Int32) (M : Mem) : Option ((Int32 × Mem) ⊕ (Mem)) :=
  if (nI (alen 20 k0)) ≤ l2 then some (Sum.inr M) else if inb l2 (alen 20 k0) then some (Sum.inl (l2 + (1 : Int32), (mI M 20 k0 l2.toNatClampNeg l1))) else none
def f_X8_fill_h2 (fu : Nat) (k0 : Nat)  (l1 : Int32) (l2 : Int32) (M : Mem) : Option (Mem) :=
  (lp_run (fun s => f_X8_fill_b2 fu k0 l1 s.1 s.2) fu (l2, M)).bind (fun M => some M)
def f_X8_fill (fu : Nat) (k0 : Nat) (l1 : Int32) (M : Mem) : Option (Mem) :=
  f_X8_fill_h2 fu k0 l1 (0 : Int32) M
set_option maxHeartbeats 4000000 in
set_option maxRecDepth 100000 in
theorem k_X8_fill (l : Launch) (G : GE) (hl : l.stackTraces = false) (hG : GOK G) (fu : Nat) (k0 : Nat) (l1 : Int32) (M : Mem) (res : Mem) (hk0 : (8, k0) ∈ gids G) (hm : f_X8_fill fu k0 l1 M = some res) : CT l G yX8_fill cX8_fill 3 none 0 [vR 8 k0, vI l1] M (.inl none) res := by
  refine ct_of [(0, vR 8 k0), (1, vI l1)] (by decide +kernel) hl hG (Nat.le_of_ble_eq_true rfl) rfl (List.forall_mem_cons.mpr ⟨Or.inl hk0, List.forall_mem_cons.mpr ⟨trivial, fun _ h => nomatch h⟩⟩) (List.forall_mem_cons.mpr ⟨Or.inl hk0, List.forall_mem_cons.mpr ⟨trivial, fun _ h => nomatch h⟩⟩) (fun X hX C => ?_)
  subst hX
  have Cl := C
  have J2 : ∀ (l1 : Int32) (l2 : Int32) (M : Mem), f_X8_fill_h2 fu k0  l1 l2 M = some res → GW G X 3 (QX G X (.inl none) res) 2 [(0, vR 8 k0), (1, vI l1), (2, vI l2)] [] M := by
    intro l1 l2 M hm
    unfold f_X8_fill_h2 at hm
    obtain ⟨r2, hL2, hk2⟩ := bnd_some hm
    have hx2 : ∀ (M : Mem), M = r2 → GW G X 3 (QX G X (.inl none) res) 24 [] [] M := by
      intro M he
      subst he
      have hm := hk2
      try dsimp only at hm
      obtain rfl := Option.some.inj hm
      exact g_vret C dX8_fill_24
    refine lp_ind1 (P := (fun l2 M => GW G X 3 (QX G X (.inl none) res) 2 [(0, vR 8 k0), (1, vI l1), (2, vI l2)] [] M)) (r := r2) ?_ fu l2 M hL2
    intro l2 M o2 hm K2
    unfold f_X8_fill_b2 at hm
    refine g_iload_n C 2 dX8_fill_2 rfl rfl ?_
    refine g_aload_n C 0 dX8_fill_3 rfl rfl ?_
    refine g_getr (k := k0) (k' := k0) C (by decide) kf_X8_9 rfl rfl dX8_fill_4 ?_
    refine g_alen C (by decide) dX8_fill_7 ?_
    refine g_icmp_ge (tgt := 24) C dX8_fill_8 (by decide) (fun h8 => ?_) (fun h8 => ?_)
    · have hm := ift hm h8
      obtain rfl := Option.some.inj hm
      exact g_sub [] rfl (g_pc rfl (hx2 M (K2.2 _ rfl)))
    · have hm := ife hm h8
      refine g_aload_n C 0 dX8_fill_11 rfl rfl ?_
      refine g_getr (k := k0) (k' := k0) C (by decide) kf_X8_9 rfl rfl dX8_fill_12 ?_
      refine g_iload_n C 2 dX8_fill_15 rfl rfl ?_
      refine g_iload_n C 1 dX8_fill_16 rfl rfl ?_
      obtain ⟨hi17, hm⟩ := ifn hm
      refine g_iast C (by decide) hi17 dX8_fill_17 ?_
      refine g_iinc (ls' := [(2, vI (l2 + (1 : Int32))), (0, vR 8 k0), (1, vI l1)]) (v := l2 + (1 : Int32)) C 2 dX8_fill_18 rfl (iv_p1 _) (by decide) rfl ?_
      refine g_goto (tgt := 2) C dX8_fill_21 (by decide) ?_
      obtain rfl := Option.some.inj hm
      exact g_sub [1, 2, 0] rfl (g_pc rfl (K2.1 (l2 + (1 : Int32)) (mI M 20 k0 l2.toNatClampNeg l1) rfl))
  unfold f_X8_fill at hm
  refine g_iconst (v := 0) C dX8_fill_0 rfl ?_
  refine g_istore_n (ls' := [(2, vI (0 : Int32)), (0, vR 8 k0), (1, vI l1)]) C dX8_fill_1 rfl (by decide) rfl ?_
  exact g_sub [1, 2, 0] rfl (g_pc rfl (J2 l1 (0 : Int32) M hm))
def f_X1_clear (fu : Nat) (k0 : Nat) (M : Mem) : Option (Mem) :=
  (f_X8_fill fu (2 * k0 + 12) (2 : Int32) M).bind (fun r5 => some r5)
set_option maxHeartbeats 4000000 in
set_option maxRecDepth 100000 in
theorem k_X1_clear (l : Launch) (G : GE) (hl : l.stackTraces = false) (hG : GOK G) (fu : Nat) (k0 : Nat) (M : Mem) (res : Mem) (hk0 : (1, k0) ∈ gids G) (hm : f_X1_clear fu k0 M = some res) : CT l G yX1_clear cX1_clear 1 none 1 [vR 1 k0] M (.inl none) res := by
  refine ct_of [(0, vR 1 k0)] (by decide +kernel) hl hG (Nat.le_of_ble_eq_true rfl) rfl (List.forall_mem_cons.mpr ⟨Or.inl hk0, fun _ h => nomatch h⟩) (List.forall_mem_cons.mpr ⟨Or.inl hk0, fun _ h => nomatch h⟩) (fun X hX C => ?_)
  subst hX
  have Cl := C
  unfold f_X1_clear at hm
  refine g_aload_n C 0 dX1_clear_0 rfl rfl ?_
  refine g_getr (k := k0) (k' := (2 * k0 + 12)) C (by decide) kf_X1_14 rfl rfl dX1_clear_1 ?_
  refine g_iconst (v := 2) C dX1_clear_4 rfl ?_
  obtain ⟨r5, hr5, hm⟩ := bnd_some hm
  refine g_callVv (As := [vI (2 : Int32)]) (rest := []) C lk_X1_23 (k_X8_fill X.2.1 G hl hG fu (2 * k0 + 12) (2 : Int32) M r5 ((hG _ hk0).2 0 8 12 2 rfl) hr5) (by decide) rfl rfl rfl (Nat.le_of_ble_eq_true rfl) ⟨Nat.le_of_ble_eq_true rfl, Nat.le_of_ble_eq_true rfl⟩ dX1_clear_5 ?_
  obtain rfl := Option.some.inj hm
  exact g_vret C dX1_clear_8
def f_X2_clear (fu : Nat) (k0 : Nat) (l1 : Int32) (M : Mem) : Option (Mem) :=
  some (mI (mI M 2 k0 0 l1) 2 k0 1 (0 : Int32))
set_option maxHeartbeats 4000000 in
set_option maxRecDepth 100000 in
theorem k_X2_clear (l : Launch) (G : GE) (hl : l.stackTraces = false) (hG : GOK G) (fu : Nat) (k0 : Nat) (l1 : Int32) (M : Mem) (res : Mem) (hk0 : (2, k0) ∈ gids G) (hm : f_X2_clear fu k0 l1 M = some res) : CT l G yX2_clear cX2_clear 2 none 0 [vR 2 k0, vI l1] M (.inl none) res := by
  refine ct_of [(0, vR 2 k0), (1, vI l1)] (by decide +kernel) hl hG (Nat.le_of_ble_eq_true rfl) rfl (List.forall_mem_cons.mpr ⟨Or.inl hk0, List.forall_mem_cons.mpr ⟨trivial, fun _ h => nomatch h⟩⟩) (List.forall_mem_cons.mpr ⟨Or.inl hk0, List.forall_mem_cons.mpr ⟨trivial, fun _ h => nomatch h⟩⟩) (fun X hX C => ?_)
  subst hX
  have Cl := C
  unfold f_X2_clear at hm
  refine g_aload_n C 0 dX2_clear_0 rfl rfl ?_
  refine g_iload_n C 1 dX2_clear_1 rfl rfl ?_
  refine g_puti C (by decide) kf_X2_9 rfl rfl rfl dX2_clear_2 ?_
  refine g_aload_n C 0 dX2_clear_5 rfl rfl ?_
  refine g_iconst (v := 0) C dX2_clear_6 rfl ?_
  refine g_puti C (by decide) kf_X2_15 rfl rfl rfl dX2_clear_7 ?_
  obtain rfl := Option.some.inj hm
  exact g_vret C dX2_clear_10
def f_X2_objectTotal (fu : Nat) (k0 : Nat) (M : Mem) : Option (Int32 × Mem) :=
  some (M.1 2 k0 0, M)
set_option maxHeartbeats 4000000 in
set_option maxRecDepth 100000 in
theorem k_X2_objectTotal (l : Launch) (G : GE) (hl : l.stackTraces = false) (hG : GOK G) (fu : Nat) (k0 : Nat) (M : Mem) (res : Int32 × Mem) (hk0 : (2, k0) ∈ gids G) (hm : f_X2_objectTotal fu k0 M = some res) : CT l G yX2_objectTotal cX2_objectTotal 1 (some .int) 0 [vR 2 k0] M (.inl (some (vI res.1))) res.2 := by
  refine ct_of [(0, vR 2 k0)] (by decide +kernel) hl hG (Nat.le_of_ble_eq_true rfl) rfl (List.forall_mem_cons.mpr ⟨Or.inl hk0, fun _ h => nomatch h⟩) (List.forall_mem_cons.mpr ⟨Or.inl hk0, fun _ h => nomatch h⟩) (fun X hX C => ?_)
  subst hX
  have Cl := C
  unfold f_X2_objectTotal at hm
  refine g_aload_n C 0 dX2_objectTotal_0 rfl rfl ?_
  refine g_geti (k := k0) C (by decide) kf_X2_9 rfl dX2_objectTotal_1 ?_
  obtain rfl := Option.some.inj hm
  exact g_iret C dX2_objectTotal_4
def f_X2_arrowTotal (fu : Nat) (k0 : Nat) (M : Mem) : Option (Int32 × Mem) :=
  some (M.1 2 k0 1, M)
set_option maxHeartbeats 4000000 in
set_option maxRecDepth 100000 in
theorem k_X2_arrowTotal (l : Launch) (G : GE) (hl : l.stackTraces = false) (hG : GOK G) (fu : Nat) (k0 : Nat) (M : Mem) (res : Int32 × Mem) (hk0 : (2, k0) ∈ gids G) (hm : f_X2_arrowTotal fu k0 M = some res) : CT l G yX2_arrowTotal cX2_arrowTotal 1 (some .int) 0 [vR 2 k0] M (.inl (some (vI res.1))) res.2 := by
  refine ct_of [(0, vR 2 k0)] (by decide +kernel) hl hG (Nat.le_of_ble_eq_true rfl) rfl (List.forall_mem_cons.mpr ⟨Or.inl hk0, fun _ h => nomatch h⟩) (List.forall_mem_cons.mpr ⟨Or.inl hk0, fun _ h => nomatch h⟩) (fun X hX C => ?_)
  subst hX
  have Cl := C
  unfold f_X2_arrowTotal at hm
  refine g_aload_n C 0 dX2_arrowTotal_0 rfl rfl ?_
  refine g_geti (k := k0) C (by decide) kf_X2_15 rfl dX2_arrowTotal_1 ?_
  obtain rfl := Option.some.inj hm
  exact g_iret C dX2_arrowTotal_4
def f_X2_hasArrow (fu : Nat) (k0 : Nat) (l1 : Int32) (M : Mem) : Option (Int32 × Mem) :=
  if l1 < 0 then some ((0 : Int32), M) else if (M.1 2 k0 1) ≤ l1 then some ((0 : Int32), M) else some ((1 : Int32), M)
set_option maxHeartbeats 4000000 in
set_option maxRecDepth 100000 in
theorem k_X2_hasArrow (l : Launch) (G : GE) (hl : l.stackTraces = false) (hG : GOK G) (fu : Nat) (k0 : Nat) (l1 : Int32) (M : Mem) (res : Int32 × Mem) (hk0 : (2, k0) ∈ gids G) (hm : f_X2_hasArrow fu k0 l1 M = some res) : CT l G yX2_hasArrow cX2_hasArrow 2 (some .boolean) 0 [vR 2 k0, vI l1] M (.inl (some (vI res.1))) res.2 := by
  refine ct_of [(0, vR 2 k0), (1, vI l1)] (by decide +kernel) hl hG (Nat.le_of_ble_eq_true rfl) rfl (List.forall_mem_cons.mpr ⟨Or.inl hk0, List.forall_mem_cons.mpr ⟨trivial, fun _ h => nomatch h⟩⟩) (List.forall_mem_cons.mpr ⟨Or.inl hk0, List.forall_mem_cons.mpr ⟨trivial, fun _ h => nomatch h⟩⟩) (fun X hX C => ?_)
  subst hX
  have Cl := C
  unfold f_X2_hasArrow at hm
  refine g_iload_n C 1 dX2_hasArrow_0 rfl rfl ?_
  refine g_if_lt (tgt := 16) C dX2_hasArrow_1 (by decide) (fun h1 => ?_) (fun h1 => ?_)
  · have hm := ift hm h1
    refine g_iconst (v := 0) C dX2_hasArrow_16 rfl ?_
    obtain rfl := Option.some.inj hm
    exact g_zret C (Or.inl rfl) dX2_hasArrow_17
  · have hm := ife hm h1
    refine g_iload_n C 1 dX2_hasArrow_4 rfl rfl ?_
    refine g_aload_n C 0 dX2_hasArrow_5 rfl rfl ?_
    refine g_geti (k := k0) C (by decide) kf_X2_15 rfl dX2_hasArrow_6 ?_
    refine g_icmp_ge (tgt := 16) C dX2_hasArrow_9 (by decide) (fun h9 => ?_) (fun h9 => ?_)
    · have hm := ift hm h9
      refine g_iconst (v := 0) C dX2_hasArrow_16 rfl ?_
      obtain rfl := Option.some.inj hm
      exact g_zret C (Or.inl rfl) dX2_hasArrow_17
    · have hm := ife hm h9
      refine g_iconst (v := 1) C dX2_hasArrow_12 rfl ?_
      refine g_goto (tgt := 17) C dX2_hasArrow_13 (by decide) ?_
      obtain rfl := Option.some.inj hm
      exact g_zret C (Or.inr rfl) dX2_hasArrow_17
def f_X2_from (fu : Nat) (k0 : Nat) (l1 : Int32) (M : Mem) : Option (Int32 × Mem) :=
  (f_X2_hasArrow fu k0 l1 M).bind (fun r2 => if r2.1 = 0 then some ((-1 : Int32), r2.2) else (f_X8_get fu (3 * k0 + 0) l1 r2.2).bind (fun r13 => some (r13.1, r13.2)))
set_option maxHeartbeats 4000000 in
set_option maxRecDepth 100000 in
theorem k_X2_from (l : Launch) (G : GE) (hl : l.stackTraces = false) (hG : GOK G) (fu : Nat) (k0 : Nat) (l1 : Int32) (M : Mem) (res : Int32 × Mem) (hk0 : (2, k0) ∈ gids G) (hm : f_X2_from fu k0 l1 M = some res) : CT l G yX2_from cX2_from 2 (some .int) 1 [vR 2 k0, vI l1] M (.inl (some (vI res.1))) res.2 := by
  refine ct_of [(0, vR 2 k0), (1, vI l1)] (by decide +kernel) hl hG (Nat.le_of_ble_eq_true rfl) rfl (List.forall_mem_cons.mpr ⟨Or.inl hk0, List.forall_mem_cons.mpr ⟨trivial, fun _ h => nomatch h⟩⟩) (List.forall_mem_cons.mpr ⟨Or.inl hk0, List.forall_mem_cons.mpr ⟨trivial, fun _ h => nomatch h⟩⟩) (fun X hX C => ?_)
  subst hX
  have Cl := C
  unfold f_X2_from at hm
  refine g_aload_n C 0 dX2_from_0 rfl rfl ?_
  refine g_iload_n C 1 dX2_from_1 rfl rfl ?_
  obtain ⟨r2, hr2, hm⟩ := bnd_some hm
  refine g_callVi (As := [vI l1]) (rest := []) C lk_X2_37 (k_X2_hasArrow X.2.1 G hl hG fu k0 l1 M r2 hk0 hr2) (by decide) rfl rfl rfl (Nat.le_of_ble_eq_true rfl) ⟨Nat.le_of_ble_eq_true rfl, Nat.le_of_ble_eq_true rfl⟩ dX2_from_2 ?_
  refine g_if_eq (tgt := 19) C dX2_from_5 (by decide) (fun h5 => ?_) (fun h5 => ?_)
  · have hm := ift hm h5
    refine g_iconst (v := -1) C dX2_from_19 rfl ?_
    obtain rfl := Option.some.inj hm
    exact g_iret C dX2_from_20
  · have hm := ife hm h5
    refine g_aload_n C 0 dX2_from_8 rfl rfl ?_
    refine g_getr (k := k0) (k' := (3 * k0 + 0)) C (by decide) kf_X2_23 rfl rfl dX2_from_9 ?_
    refine g_iload_n C 1 dX2_from_12 rfl rfl ?_
    obtain ⟨r13, hr13, hm⟩ := bnd_some hm
    refine g_callVi (As := [vI l1]) (rest := []) C lk_X2_41 (k_X8_get X.2.1 G hl hG fu (3 * k0 + 0) l1 r2.2 r13 ((hG _ hk0).2 2 8 0 3 rfl) hr13) (by decide) rfl rfl rfl (Nat.le_of_ble_eq_true rfl) ⟨Nat.le_of_ble_eq_true rfl, Nat.le_of_ble_eq_true rfl⟩ dX2_from_13 ?_
    refine g_goto (tgt := 20) C dX2_from_16 (by decide) ?_
    obtain rfl := Option.some.inj hm
    exact g_iret C dX2_from_20
/-! models and contracts, by program (wip/whole/emit.py): X2_to, X2_join, X2_dropLast, X2_countFrom, X2_pathTotal, X2_pathsThrough, X3_fill, X4_length, X4_codeAt, X4_arrowAt, X4_put, X4_clear, X5_forget, X6_total, X6_last, X5_stepFrom, X5_reach, X5_spread, X5_nameReached, X5_countClass, X5_findClasses, X5_refresh, X5_isEqualBy, X5_refreshCore, X5_className, X5_classSize, X5_classTotal, X5_classesBetween, X5_coreSize, X5_isInCore, X5_isRedundant, X5_stepsFrom, X5_nextInProof, X5_cellOfStep -/
def f_X2_to (fu : Nat) (k0 : Nat) (l1 : Int32) (M : Mem) : Option (Int32 × Mem) :=
  (f_X2_hasArrow fu k0 l1 M).bind (fun r2 => if r2.1 = 0 then some ((-1 : Int32), r2.2) else (f_X8_get fu (3 * k0 + 1) l1 r2.2).bind (fun r13 => some (r13.1, r13.2)))
set_option maxHeartbeats 4000000 in
set_option maxRecDepth 100000 in
theorem k_X2_to (l : Launch) (G : GE) (hl : l.stackTraces = false) (hG : GOK G) (fu : Nat) (k0 : Nat) (l1 : Int32) (M : Mem) (res : Int32 × Mem) (hk0 : (2, k0) ∈ gids G) (hm : f_X2_to fu k0 l1 M = some res) : CT l G yX2_to cX2_to 2 (some .int) 1 [vR 2 k0, vI l1] M (.inl (some (vI res.1))) res.2 := by
  refine ct_of [(0, vR 2 k0), (1, vI l1)] (by decide +kernel) hl hG (Nat.le_of_ble_eq_true rfl) rfl (List.forall_mem_cons.mpr ⟨Or.inl hk0, List.forall_mem_cons.mpr ⟨trivial, fun _ h => nomatch h⟩⟩) (List.forall_mem_cons.mpr ⟨Or.inl hk0, List.forall_mem_cons.mpr ⟨trivial, fun _ h => nomatch h⟩⟩) (fun X hX C => ?_)
  subst hX
  have Cl := C
  unfold f_X2_to at hm
  refine g_aload_n C 0 dX2_to_0 rfl rfl ?_
  refine g_iload_n C 1 dX2_to_1 rfl rfl ?_
  obtain ⟨r2, hr2, hm⟩ := bnd_some hm
  refine g_callVi (As := [vI l1]) (rest := []) C lk_X2_37 (k_X2_hasArrow X.2.1 G hl hG fu k0 l1 M r2 hk0 hr2) (by decide) rfl rfl rfl (Nat.le_of_ble_eq_true rfl) ⟨Nat.le_of_ble_eq_true rfl, Nat.le_of_ble_eq_true rfl⟩ dX2_to_2 ?_
  refine g_if_eq (tgt := 19) C dX2_to_5 (by decide) (fun h5 => ?_) (fun h5 => ?_)
  · have hm := ift hm h5
    refine g_iconst (v := -1) C dX2_to_19 rfl ?_
    obtain rfl := Option.some.inj hm
    exact g_iret C dX2_to_20
  · have hm := ife hm h5
    refine g_aload_n C 0 dX2_to_8 rfl rfl ?_
    refine g_getr (k := k0) (k' := (3 * k0 + 1)) C (by decide) kf_X2_27 rfl rfl dX2_to_9 ?_
    refine g_iload_n C 1 dX2_to_12 rfl rfl ?_
    obtain ⟨r13, hr13, hm⟩ := bnd_some hm
    refine g_callVi (As := [vI l1]) (rest := []) C lk_X2_41 (k_X8_get X.2.1 G hl hG fu (3 * k0 + 1) l1 r2.2 r13 ((hG _ hk0).2 3 8 1 3 rfl) hr13) (by decide) rfl rfl rfl (Nat.le_of_ble_eq_true rfl) ⟨Nat.le_of_ble_eq_true rfl, Nat.le_of_ble_eq_true rfl⟩ dX2_to_13 ?_
    refine g_goto (tgt := 20) C dX2_to_16 (by decide) ?_
    obtain rfl := Option.some.inj hm
    exact g_iret C dX2_to_20
def f_X5_forget (fu : Nat) (M : Mem) : Option (Mem) :=
  some (mI (mI M 5 0 0 (0 : Int32)) 5 0 1 (0 : Int32))
set_option maxHeartbeats 4000000 in
set_option maxRecDepth 100000 in
theorem k_X5_forget (l : Launch) (G : GE) (hl : l.stackTraces = false) (hG : GOK G) (fu : Nat)  (M : Mem) (res : Mem) (hk0 : (5, 0) ∈ gids G) (hm : f_X5_forget fu  M = some res) : CT l G yX5_forget cX5_forget 1 none 0 [vR 5 0] M (.inl none) res := by
  refine ct_of [(0, vR 5 0)] (by decide +kernel) hl hG (Nat.le_of_ble_eq_true rfl) rfl (List.forall_mem_cons.mpr ⟨Or.inl hk0, fun _ h => nomatch h⟩) (List.forall_mem_cons.mpr ⟨Or.inl hk0, fun _ h => nomatch h⟩) (fun X hX C => ?_)
  subst hX
  have Cl := C
  unfold f_X5_forget at hm
  refine g_aload_n C 0 dX5_forget_0 rfl rfl ?_
  refine g_iconst (v := 0) C dX5_forget_1 rfl ?_
  refine g_puti0 C (by decide) kf_X5_9 rfl rfl rfl rfl dX5_forget_2 ?_
  refine g_aload_n C 0 dX5_forget_5 rfl rfl ?_
  refine g_iconst (v := 0) C dX5_forget_6 rfl ?_
  refine g_puti0 C (by decide) kf_X5_15 rfl rfl rfl rfl dX5_forget_7 ?_
  obtain rfl := Option.some.inj hm
  exact g_vret C dX5_forget_10
/-! models and contracts, by program (wip/whole/emit.py): X6_enter, X6_enterLonger, X6_rebuild, X6_leads, X7_beginsArrow, X7_goesOn, X7_beginsCell, X7_endsArrow, X7_isComplete, X7_endsItem, X7_endsFirst, X7_beginsSecond, X7_accepts, X7_read, X7_graphRead, X7_cellsRead, X9_cellsChanged, X9_graphChanged, X9_begin, X9_requireObject, X9_addArrow, X9_dropArrow, X9_requirePath, X9_requireParallel, X9_lengthenBy, X9_addCell, X9_requireCell, X9_dropCell, X9_append, X9_clearInput, X9_firstError, X9_load -/
def f_X6_enter_b52 (fu : Nat)   (l5 : Int32) (M : Mem) : Option ((Int32 × Mem) ⊕ (Mem)) :=
  if (14 : Int32) ≤ l5 then some (Sum.inr M) else (f_X3_set fu 3 (M.1 6 0 0) l5 (-1 : Int32) M).bind (fun r70 => some (Sum.inl (l5 + (1 : Int32), r70)))
def f_X6_enter_h52 (fu : Nat)   (l5 : Int32) (M : Mem) : Option (Mem) :=
  (lp_run (fun s => f_X6_enter_b52 fu   s.1 s.2) fu (l5, M)).bind (fun M => some (mI M 6 0 0 ((M.1 6 0 0) + (1 : Int32))))
def f_X6_enter (fu : Nat) (l1 : Int32) (l2 : Int32) (l3 : Int32) (l4 : Int32) (M : Mem) : Option (Mem) :=
  (f_X8_set fu 16 (M.1 6 0 0) l1 M).bind (fun r9 => (f_X8_set fu 17 (r9.1 6 0 0) l2 r9).bind (fun r21 => (f_X8_set fu 18 (r21.1 6 0 0) l3 r21).bind (fun r33 => (f_X8_set fu 19 (r33.1 6 0 0) l4 r33).bind (fun r46 => f_X6_enter_h52 fu (0 : Int32) r46))))
set_option maxHeartbeats 4000000 in
set_option maxRecDepth 100000 in
theorem k_X6_enter (l : Launch) (G : GE) (hl : l.stackTraces = false) (hG : GOK G) (fu : Nat) (l1 : Int32) (l2 : Int32) (l3 : Int32) (l4 : Int32) (M : Mem) (res : Mem) (hk0 : (6, 0) ∈ gids G) (hm : f_X6_enter fu l1 l2 l3 l4 M = some res) : CT l G yX6_enter cX6_enter 6 none 1 [vR 6 0, vI l1, vI l2, vI l3, vI l4] M (.inl none) res := by
  refine ct_of [(0, vR 6 0), (1, vI l1), (2, vI l2), (3, vI l3), (4, vI l4)] (by decide +kernel) hl hG (Nat.le_of_ble_eq_true rfl) rfl (List.forall_mem_cons.mpr ⟨Or.inl hk0, List.forall_mem_cons.mpr ⟨trivial, List.forall_mem_cons.mpr ⟨trivial, List.forall_mem_cons.mpr ⟨trivial, List.forall_mem_cons.mpr ⟨trivial, fun _ h => nomatch h⟩⟩⟩⟩⟩) (List.forall_mem_cons.mpr ⟨Or.inl hk0, List.forall_mem_cons.mpr ⟨trivial, List.forall_mem_cons.mpr ⟨trivial, List.forall_mem_cons.mpr ⟨trivial, List.forall_mem_cons.mpr ⟨trivial, fun _ h => nomatch h⟩⟩⟩⟩⟩) (fun X hX C => ?_)
  subst hX
  have Cl := C
  have J52 : ∀ (l5 : Int32) (M : Mem), f_X6_enter_h52 fu   l5 M = some res → GW G X 6 (QX G X (.inl none) res) 52 [(0, vR 6 0), (5, vI l5)] [] M := by
    intro l5 M hm
    unfold f_X6_enter_h52 at hm
    obtain ⟨r52, hL52, hk52⟩ := bnd_some hm
    have hx52 : ∀ (M : Mem), M = r52 → GW G X 6 (QX G X (.inl none) res) 79 [(0, vR 6 0)] [] M := by
      intro M he
      subst he
      have hm := hk52
      try dsimp only at hm
      refine g_aload_n C 0 dX6_enter_79 rfl rfl ?_
      refine g_dup C dX6_enter_80 rfl ?_
      refine g_geti (k := 0) C (by decide) kf_X6_9 rfl dX6_enter_81 ?_
      refine g_iconst (v := 1) C dX6_enter_84 rfl ?_
      refine g_iadd C dX6_enter_85 ?_
      refine g_puti C (by decide) kf_X6_9 rfl rfl rfl dX6_enter_86 ?_
      obtain rfl := Option.some.inj hm
      exact g_vret C dX6_enter_89
    refine lp_ind1 (P := (fun l5 M => GW G X 6 (QX G X (.inl none) res) 52 [(0, vR 6 0), (5, vI l5)] [] M)) (r := r52) ?_ fu l5 M hL52
    intro l5 M o52 hm K52
    unfold f_X6_enter_b52 at hm
    refine g_iload C 1 dX6_enter_52 rfl ?_
    refine g_bipush (v := 14) C dX6_enter_54 rfl ?_
    refine g_icmp_ge (tgt := 79) C dX6_enter_56 (by decide) (fun h56 => ?_) (fun h56 => ?_)
    · have hm := ift hm h56
      obtain rfl := Option.some.inj hm
      exact g_sub [0] rfl (g_pc rfl (hx52 M (K52.2 _ rfl)))
    · have hm := ife hm h56
      refine g_aload_n C 0 dX6_enter_59 rfl rfl ?_
      refine g_getr (k := 0) (k' := 3) C (by decide) kf_X6_42 rfl rfl dX6_enter_60 ?_
      refine g_aload_n C 0 dX6_enter_63 rfl rfl ?_
      refine g_geti (k := 0) C (by decide) kf_X6_9 rfl dX6_enter_64 ?_
      refine g_iload C 1 dX6_enter_67 rfl ?_
      refine g_iconst (v := -1) C dX6_enter_69 rfl ?_
      obtain ⟨r70, hr70, hm⟩ := bnd_some hm
      refine g_callVv (As := [vI (M.1 6 0 0), vI l5, vI (-1 : Int32)]) (rest := []) C lk_X6_78 (k_X3_set X.2.1 G hl hG fu 3 (M.1 6 0 0) l5 (-1 : Int32) M r70 ((hG _ hk0).2 6 3 3 0 rfl) hr70) (by decide) rfl rfl rfl (Nat.le_of_ble_eq_true rfl) ⟨Nat.le_of_ble_eq_true rfl, Nat.le_of_ble_eq_true rfl⟩ dX6_enter_70 ?_
      refine g_iinc (ls' := [(5, vI (l5 + (1 : Int32))), (0, vR 6 0)]) (v := l5 + (1 : Int32)) C 1 dX6_enter_73 rfl (iv_p1 _) (by decide) rfl ?_
      refine g_goto (tgt := 52) C dX6_enter_76 (by decide) ?_
      obtain rfl := Option.some.inj hm
      exact g_sub [1, 0] rfl (g_pc rfl (K52.1 (l5 + (1 : Int32)) r70 rfl))
  unfold f_X6_enter at hm
  refine g_aload_n C 0 dX6_enter_0 rfl rfl ?_
  refine g_getr (k := 0) (k' := 16) C (by decide) kf_X6_20 rfl rfl dX6_enter_1 ?_
  refine g_aload_n C 0 dX6_enter_4 rfl rfl ?_
  refine g_geti (k := 0) C (by decide) kf_X6_9 rfl dX6_enter_5 ?_
  refine g_iload_n C 1 dX6_enter_8 rfl rfl ?_
  obtain ⟨r9, hr9, hm⟩ := bnd_some hm
  refine g_callVv (As := [vI (M.1 6 0 0), vI l1]) (rest := []) C lk_X6_75 (k_X8_set X.2.1 G hl hG fu 16 (M.1 6 0 0) l1 M r9 ((hG _ hk0).2 1 8 16 0 rfl) hr9) (by decide) rfl rfl rfl (Nat.le_of_ble_eq_true rfl) ⟨Nat.le_of_ble_eq_true rfl, Nat.le_of_ble_eq_true rfl⟩ dX6_enter_9 ?_
  refine g_aload_n C 0 dX6_enter_12 rfl rfl ?_
  refine g_getr (k := 0) (k' := 17) C (by decide) kf_X6_24 rfl rfl dX6_enter_13 ?_
  refine g_aload_n C 0 dX6_enter_16 rfl rfl ?_
  refine g_geti (k := 0) C (by decide) kf_X6_9 rfl dX6_enter_17 ?_
  refine g_iload_n C 2 dX6_enter_20 rfl rfl ?_
  obtain ⟨r21, hr21, hm⟩ := bnd_some hm
  refine g_callVv (As := [vI (r9.1 6 0 0), vI l2]) (rest := []) C lk_X6_75 (k_X8_set X.2.1 G hl hG fu 17 (r9.1 6 0 0) l2 r9 r21 ((hG _ hk0).2 2 8 17 0 rfl) hr21) (by decide) rfl rfl rfl (Nat.le_of_ble_eq_true rfl) ⟨Nat.le_of_ble_eq_true rfl, Nat.le_of_ble_eq_true rfl⟩ dX6_enter_21 ?_
  refine g_aload_n C 0 dX6_enter_24 rfl rfl ?_
  refine g_getr (k := 0) (k' := 18) C (by decide) kf_X6_27 rfl rfl dX6_enter_25 ?_
  refine g_aload_n C 0 dX6_enter_28 rfl rfl ?_
  refine g_geti (k := 0) C (by decide) kf_X6_9 rfl dX6_enter_29 ?_
  refine g_iload_n C 3 dX6_enter_32 rfl rfl ?_
  obtain ⟨r33, hr33, hm⟩ := bnd_some hm
  refine g_callVv (As := [vI (r21.1 6 0 0), vI l3]) (rest := []) C lk_X6_75 (k_X8_set X.2.1 G hl hG fu 18 (r21.1 6 0 0) l3 r21 r33 ((hG _ hk0).2 3 8 18 0 rfl) hr33) (by decide) rfl rfl rfl (Nat.le_of_ble_eq_true rfl) ⟨Nat.le_of_ble_eq_true rfl, Nat.le_of_ble_eq_true rfl⟩ dX6_enter_33 ?_
  refine g_aload_n C 0 dX6_enter_36 rfl rfl ?_
  refine g_getr (k := 0) (k' := 19) C (by decide) kf_X6_39 rfl rfl dX6_enter_37 ?_
  refine g_aload_n C 0 dX6_enter_40 rfl rfl ?_
  refine g_geti (k := 0) C (by decide) kf_X6_9 rfl dX6_enter_41 ?_
  refine g_iload C 4 dX6_enter_44 rfl ?_
  obtain ⟨r46, hr46, hm⟩ := bnd_some hm
  refine g_callVv (As := [vI (r33.1 6 0 0), vI l4]) (rest := []) C lk_X6_75 (k_X8_set X.2.1 G hl hG fu 19 (r33.1 6 0 0) l4 r33 r46 ((hG _ hk0).2 5 8 19 0 rfl) hr46) (by decide) rfl rfl rfl (Nat.le_of_ble_eq_true rfl) ⟨Nat.le_of_ble_eq_true rfl, Nat.le_of_ble_eq_true rfl⟩ dX6_enter_46 ?_
  refine g_iconst (v := 0) C dX6_enter_49 rfl ?_
  refine g_istore (ls' := [(5, vI (0 : Int32)), (0, vR 6 0), (1, vI l1), (2, vI l2), (3, vI l3), (4, vI l4)]) C dX6_enter_50 (by decide) rfl ?_
  exact g_sub [1, 0] rfl (g_pc rfl (J52 (0 : Int32) r46 hm))
def f_X6_enterLonger_b13 (fu : Nat)  (l1 : Int32) (l2 : Int32) (l3 : Int32) (l4 : Int32) (l5 : Int32) (M : Mem) : Option ((Int32 × Mem) ⊕ (Mem)) :=
  if l4 ≤ l5 then some (Sum.inr M) else (f_X3_get fu 2 l1 l5 M).bind (fun r37 => (f_X3_set fu 2 (M.1 6 0 0) l5 r37.1 r37.2).bind (fun r40 => some (Sum.inl (l5 + (1 : Int32), r40))))
def f_X6_enterLonger_h13 (fu : Nat)   (l1 : Int32) (l2 : Int32) (l3 : Int32) (l4 : Int32) (l5 : Int32) (M : Mem) : Option (Mem) :=
  (lp_run (fun s => f_X6_enterLonger_b13 fu  l1 l2 l3 l4 s.1 s.2) fu (l5, M)).bind (fun M => (f_X3_set fu 2 (M.1 6 0 0) l4 l2 M).bind (fun r60 => (f_X3_set fu 3 l1 l2 (r60.1 6 0 0) r60).bind (fun r73 => (f_X8_get fu 16 l1 r73).bind (fun r82 => (f_X6_enter fu r82.1 l3 (l4 + (1 : Int32)) l1 r82.2).bind (fun r91 => some r91)))))
def f_X6_enterLonger (fu : Nat) (l1 : Int32) (l2 : Int32) (l3 : Int32) (M : Mem) : Option (Mem) :=
  (f_X8_get fu 18 l1 M).bind (fun r5 => f_X6_enterLonger_h13 fu l1 l2 l3 r5.1 (0 : Int32) r5.2)
set_option maxHeartbeats 4000000 in
set_option maxRecDepth 100000 in
theorem k_X6_enterLonger (l : Launch) (G : GE) (hl : l.stackTraces = false) (hG : GOK G) (fu : Nat) (l1 : Int32) (l2 : Int32) (l3 : Int32) (M : Mem) (res : Mem) (hk0 : (6, 0) ∈ gids G) (hm : f_X6_enterLonger fu l1 l2 l3 M = some res) : CT l G yX6_enterLonger cX6_enterLonger 6 none 2 [vR 6 0, vI l1, vI l2, vI l3] M (.inl none) res := by
  refine ct_of [(0, vR 6 0), (1, vI l1), (2, vI l2), (3, vI l3)] (by decide +kernel) hl hG (Nat.le_of_ble_eq_true rfl) rfl (List.forall_mem_cons.mpr ⟨Or.inl hk0, List.forall_mem_cons.mpr ⟨trivial, List.forall_mem_cons.mpr ⟨trivial, List.forall_mem_cons.mpr ⟨trivial, fun _ h => nomatch h⟩⟩⟩⟩) (List.forall_mem_cons.mpr ⟨Or.inl hk0, List.forall_mem_cons.mpr ⟨trivial, List.forall_mem_cons.mpr ⟨trivial, List.forall_mem_cons.mpr ⟨trivial, fun _ h => nomatch h⟩⟩⟩⟩) (fun X hX C => ?_)
  subst hX
  have Cl := C
  have J13 : ∀ (l1 : Int32) (l2 : Int32) (l3 : Int32) (l4 : Int32) (l5 : Int32) (M : Mem), f_X6_enterLonger_h13 fu   l1 l2 l3 l4 l5 M = some res → GW G X 6 (QX G X (.inl none) res) 13 [(0, vR 6 0), (1, vI l1), (2, vI l2), (3, vI l3), (4, vI l4), (5, vI l5)] [] M := by
    intro l1 l2 l3 l4 l5 M hm
    unfold f_X6_enterLonger_h13 at hm
    obtain ⟨r13, hL13, hk13⟩ := bnd_some hm
    have hx13 : ∀ (M : Mem), M = r13 → GW G X 6 (QX G X (.inl none) res) 49 [(0, vR 6 0), (1, vI l1), (2, vI l2), (3, vI l3), (4, vI l4)] [] M := by
      intro M he
      subst he
      have hm := hk13
      try dsimp only at hm
      refine g_aload_n C 0 dX6_enterLonger_49 rfl rfl ?_
      refine g_getr (k := 0) (k' := 2) C (by decide) kf_X6_35 rfl rfl dX6_enterLonger_50 ?_
      refine g_aload_n C 0 dX6_enterLonger_53 rfl rfl ?_
      refine g_geti (k := 0) C (by decide) kf_X6_9 rfl dX6_enterLonger_54 ?_
      refine g_iload C 4 dX6_enterLonger_57 rfl ?_
      refine g_iload_n C 2 dX6_enterLonger_59 rfl rfl ?_
      obtain ⟨r60, hr60, hm⟩ := bnd_some hm
      refine g_callVv (As := [vI (M.1 6 0 0), vI l4, vI l2]) (rest := []) C lk_X6_78 (k_X3_set X.2.1 G hl hG fu 2 (M.1 6 0 0) l4 l2 M r60 ((hG _ hk0).2 4 3 2 0 rfl) hr60) (by decide) rfl rfl rfl (Nat.le_of_ble_eq_true rfl) ⟨Nat.le_of_ble_eq_true rfl, Nat.le_of_ble_eq_true rfl⟩ dX6_enterLonger_60 ?_
      refine g_aload_n C 0 dX6_enterLonger_63 rfl rfl ?_
      refine g_getr (k := 0) (k' := 3) C (by decide) kf_X6_42 rfl rfl dX6_enterLonger_64 ?_
      refine g_iload_n C 1 dX6_enterLonger_67 rfl rfl ?_
      refine g_iload_n C 2 dX6_enterLonger_68 rfl rfl ?_
      refine g_aload_n C 0 dX6_enterLonger_69 rfl rfl ?_
      refine g_geti (k := 0) C (by decide) kf_X6_9 rfl dX6_enterLonger_70 ?_
      obtain ⟨r73, hr73, hm⟩ := bnd_some hm
      refine g_callVv (As := [vI l1, vI l2, vI (r60.1 6 0 0)]) (rest := []) C lk_X6_78 (k_X3_set X.2.1 G hl hG fu 3 l1 l2 (r60.1 6 0 0) r60 r73 ((hG _ hk0).2 6 3 3 0 rfl) hr73) (by decide) rfl rfl rfl (Nat.le_of_ble_eq_true rfl) ⟨Nat.le_of_ble_eq_true rfl, Nat.le_of_ble_eq_true rfl⟩ dX6_enterLonger_73 ?_
      refine g_aload_n C 0 dX6_enterLonger_76 rfl rfl ?_
      refine g_aload_n C 0 dX6_enterLonger_77 rfl rfl ?_
      refine g_getr (k := 0) (k' := 16) C (by decide) kf_X6_20 rfl rfl dX6_enterLonger_78 ?_
      refine g_iload_n C 1 dX6_enterLonger_81 rfl rfl ?_
      obtain ⟨r82, hr82, hm⟩ := bnd_some hm
      refine g_callVi (As := [vI l1]) (rest := [vR 6 0]) C lk_X6_69 (k_X8_get X.2.1 G hl hG fu 16 l1 r73 r82 ((hG _ hk0).2 1 8 16 0 rfl) hr82) (by decide) rfl rfl rfl (Nat.le_of_ble_eq_true rfl) ⟨Nat.le_of_ble_eq_true rfl, Nat.le_of_ble_eq_true rfl⟩ dX6_enterLonger_82 ?_
      refine g_iload_n C 3 dX6_enterLonger_85 rfl rfl ?_
      refine g_iload C 4 dX6_enterLonger_86 rfl ?_
      refine g_iconst (v := 1) C dX6_enterLonger_88 rfl ?_
      refine g_iadd C dX6_enterLonger_89 ?_
      refine g_iload_n C 1 dX6_enterLonger_90 rfl rfl ?_
      obtain ⟨r91, hr91, hm⟩ := bnd_some hm
      refine g_callVv (As := [vI r82.1, vI l3, vI (l4 + (1 : Int32)), vI l1]) (rest := []) C lk_X6_51 (k_X6_enter X.2.1 G hl hG fu r82.1 l3 (l4 + (1 : Int32)) l1 r82.2 r91 hk0 hr91) (by decide) rfl rfl rfl (Nat.le_of_ble_eq_true rfl) ⟨Nat.le_of_ble_eq_true rfl, Nat.le_of_ble_eq_true rfl⟩ dX6_enterLonger_91 ?_
      obtain rfl := Option.some.inj hm
      exact g_vret C dX6_enterLonger_94
    refine lp_ind1 (P := (fun l5 M => GW G X 6 (QX G X (.inl none) res) 13 [(0, vR 6 0), (1, vI l1), (2, vI l2), (3, vI l3), (4, vI l4), (5, vI l5)] [] M)) (r := r13) ?_ fu l5 M hL13
    intro l5 M o13 hm K13
    unfold f_X6_enterLonger_b13 at hm
    refine g_iload C 5 dX6_enterLonger_13 rfl ?_
    refine g_iload C 4 dX6_enterLonger_15 rfl ?_
    refine g_icmp_ge (tgt := 49) C dX6_enterLonger_17 (by decide) (fun h17 => ?_) (fun h17 => ?_)
    · have hm := ift hm h17
      obtain rfl := Option.some.inj hm
      exact g_sub [0, 1, 2, 3, 4] rfl (g_pc rfl (hx13 M (K13.2 _ rfl)))
    · have hm := ife hm h17
      refine g_aload_n C 0 dX6_enterLonger_20 rfl rfl ?_
      refine g_getr (k := 0) (k' := 2) C (by decide) kf_X6_35 rfl rfl dX6_enterLonger_21 ?_
      refine g_aload_n C 0 dX6_enterLonger_24 rfl rfl ?_
      refine g_geti (k := 0) C (by decide) kf_X6_9 rfl dX6_enterLonger_25 ?_
      refine g_iload C 5 dX6_enterLonger_28 rfl ?_
      refine g_aload_n C 0 dX6_enterLonger_30 rfl rfl ?_
      refine g_getr (k := 0) (k' := 2) C (by decide) kf_X6_35 rfl rfl dX6_enterLonger_31 ?_
      refine g_iload_n C 1 dX6_enterLonger_34 rfl rfl ?_
      refine g_iload C 5 dX6_enterLonger_35 rfl ?_
      obtain ⟨r37, hr37, hm⟩ := bnd_some hm
      refine g_callVi (As := [vI l1, vI l5]) (rest := [vI l5, vI (M.1 6 0 0), vR 3 2]) C lk_X6_72 (k_X3_get X.2.1 G hl hG fu 2 l1 l5 M r37 ((hG _ hk0).2 4 3 2 0 rfl) hr37) (by decide) rfl rfl rfl (Nat.le_of_ble_eq_true rfl) ⟨Nat.le_of_ble_eq_true rfl, Nat.le_of_ble_eq_true rfl⟩ dX6_enterLonger_37 ?_
      obtain ⟨r40, hr40, hm⟩ := bnd_some hm
      refine g_callVv (As := [vI (M.1 6 0 0), vI l5, vI r37.1]) (rest := []) C lk_X6_78 (k_X3_set X.2.1 G hl hG fu 2 (M.1 6 0 0) l5 r37.1 r37.2 r40 ((hG _ hk0).2 4 3 2 0 rfl) hr40) (by decide) rfl rfl rfl (Nat.le_of_ble_eq_true rfl) ⟨Nat.le_of_ble_eq_true rfl, Nat.le_of_ble_eq_true rfl⟩ dX6_enterLonger_40 ?_
      refine g_iinc (ls' := [(5, vI (l5 + (1 : Int32))), (0, vR 6 0), (1, vI l1), (2, vI l2), (3, vI l3), (4, vI l4)]) (v := l5 + (1 : Int32)) C 5 dX6_enterLonger_43 rfl (iv_p1 _) (by decide) rfl ?_
      refine g_goto (tgt := 13) C dX6_enterLonger_46 (by decide) ?_
      obtain rfl := Option.some.inj hm
      exact g_sub [1, 2, 3, 4, 5, 0] rfl (g_pc rfl (K13.1 (l5 + (1 : Int32)) r40 rfl))
  unfold f_X6_enterLonger at hm
  refine g_aload_n C 0 dX6_enterLonger_0 rfl rfl ?_
  refine g_getr (k := 0) (k' := 18) C (by decide) kf_X6_27 rfl rfl dX6_enterLonger_1 ?_
  refine g_iload_n C 1 dX6_enterLonger_4 rfl rfl ?_
  obtain ⟨r5, hr5, hm⟩ := bnd_some hm
  refine g_callVi (As := [vI l1]) (rest := []) C lk_X6_69 (k_X8_get X.2.1 G hl hG fu 18 l1 M r5 ((hG _ hk0).2 3 8 18 0 rfl) hr5) (by decide) rfl rfl rfl (Nat.le_of_ble_eq_true rfl) ⟨Nat.le_of_ble_eq_true rfl, Nat.le_of_ble_eq_true rfl⟩ dX6_enterLonger_5 ?_
  refine g_istore (ls' := [(4, vI r5.1), (0, vR 6 0), (1, vI l1), (2, vI l2), (3, vI l3)]) C dX6_enterLonger_8 (by decide) rfl ?_
  refine g_iconst (v := 0) C dX6_enterLonger_10 rfl ?_
  refine g_istore (ls' := [(5, vI (0 : Int32)), (4, vI r5.1), (0, vR 6 0), (1, vI l1), (2, vI l2), (3, vI l3)]) C dX6_enterLonger_11 (by decide) rfl ?_
  exact g_sub [2, 3, 4, 5, 1, 0] rfl (g_pc rfl (J13 l1 l2 l3 r5.1 (0 : Int32) r5.2 hm))
def f_X6_rebuild_b7 (fu : Nat) (k1 : Nat)  (l2 : Int32) (M : Mem) : Option ((Int32 × Mem) ⊕ (Mem)) :=
  (f_X2_objectTotal fu k1 M).bind (fun r9 => if r9.1 ≤ l2 then some (Sum.inr r9.2) else (f_X6_enter fu l2 l2 (0 : Int32) (-1 : Int32) r9.2).bind (fun r20 => some (Sum.inl (l2 + (1 : Int32), r20))))
def f_X6_rebuild_b31 (fu : Nat) (k1 : Nat)  (l2 : Int32) (M : Mem) : Option ((Int32 × Mem) ⊕ (Mem)) :=
  (f_X2_arrowTotal fu k1 M).bind (fun r33 => if r33.1 ≤ l2 then some (Sum.inr r33.2) else (f_X2_from fu k1 l2 r33.2).bind (fun r42 => (f_X2_to fu k1 l2 r42.2).bind (fun r48 => (f_X6_enterLonger fu r42.1 l2 r48.1 r48.2).bind (fun r51 => some (Sum.inl (l2 + (1 : Int32), r51))))))
def f_X6_rebuild_j117 (fu : Nat) (k1 : Nat) (l2 : Int32) (l3 : Int32) (M : Mem) : Option ((Int32 × Mem) ⊕ (Mem)) :=
  some (Sum.inl (l3 + (1 : Int32), M))
def f_X6_rebuild_b82 (fu : Nat) (k1 : Nat) (l2 : Int32) (l3 : Int32) (M : Mem) : Option ((Int32 × Mem) ⊕ (Mem)) :=
  (f_X2_arrowTotal fu k1 M).bind (fun r84 => if r84.1 ≤ l3 then some (Sum.inr r84.2) else (f_X2_from fu k1 l3 r84.2).bind (fun r92 => (f_X8_get fu 17 l2 r92.2).bind (fun r100 => if r92.1 = r100.1 then (f_X2_to fu k1 l3 r100.2).bind (fun r111 => (f_X6_enterLonger fu l2 l3 r111.1 r111.2).bind (fun r114 => f_X6_rebuild_j117 fu k1 l2 l3 r114)) else f_X6_rebuild_j117 fu k1 l2 l3 r100.2)))
def f_X6_rebuild_h82 (fu : Nat) (k1 : Nat)  (l2 : Int32) (l3 : Int32) (M : Mem) : Option ((Int32 × Mem) ⊕ (Mem)) :=
  (lp_run (fun s => f_X6_rebuild_b82 fu k1 l2 s.1 s.2) fu (l3, M)).bind (fun M => some (Sum.inl (l2 + (1 : Int32), M)))
def f_X6_rebuild_b65 (fu : Nat) (k1 : Nat)  (l2 : Int32) (M : Mem) : Option ((Int32 × Mem) ⊕ (Mem)) :=
  if (M.1 6 0 0) ≤ l2 then some (Sum.inr M) else if (300 : Int32) ≤ l2 then some (Sum.inr M) else f_X6_rebuild_h82 fu k1 l2 (0 : Int32) M
def f_X6_rebuild_h65 (fu : Nat) (k1 : Nat)  (l2 : Int32) (M : Mem) : Option (Mem) :=
  (lp_run (fun s => f_X6_rebuild_b65 fu k1  s.1 s.2) fu (l2, M)).bind (fun M => some M)
def f_X6_rebuild_h31 (fu : Nat) (k1 : Nat)  (l2 : Int32) (M : Mem) : Option (Mem) :=
  (lp_run (fun s => f_X6_rebuild_b31 fu k1  s.1 s.2) fu (l2, M)).bind (fun M => (f_X2_objectTotal fu k1 M).bind (fun r61 => f_X6_rebuild_h65 fu k1 r61.1 r61.2))
def f_X6_rebuild_h7 (fu : Nat) (k1 : Nat)  (l2 : Int32) (M : Mem) : Option (Mem) :=
  (lp_run (fun s => f_X6_rebuild_b7 fu k1  s.1 s.2) fu (l2, M)).bind (fun M => f_X6_rebuild_h31 fu k1 (0 : Int32) M)
def f_X6_rebuild (fu : Nat) (k1 : Nat) (M : Mem) : Option (Mem) :=
  f_X6_rebuild_h7 fu k1 (0 : Int32) (mI M 6 0 0 (0 : Int32))
set_option maxHeartbeats 4000000 in
set_option maxRecDepth 100000 in
theorem k_X6_rebuild (l : Launch) (G : GE) (hl : l.stackTraces = false) (hG : GOK G) (fu : Nat) (k1 : Nat) (M : Mem) (res : Mem) (hk0 : (6, 0) ∈ gids G) (hk1 : (2, k1) ∈ gids G) (hm : f_X6_rebuild fu k1 M = some res) : CT l G yX6_rebuild cX6_rebuild 4 none 3 [vR 6 0, vR 2 k1] M (.inl none) res := by
  refine ct_of [(0, vR 6 0), (1, vR 2 k1)] (by decide +kernel) hl hG (Nat.le_of_ble_eq_true rfl) rfl (List.forall_mem_cons.mpr ⟨Or.inl hk0, List.forall_mem_cons.mpr ⟨Or.inl hk1, fun _ h => nomatch h⟩⟩) (List.forall_mem_cons.mpr ⟨Or.inl hk0, List.forall_mem_cons.mpr ⟨Or.inl hk1, fun _ h => nomatch h⟩⟩) (fun X hX C => ?_)
  subst hX
  have Cl := C
  have J65 : ∀ (l2 : Int32) (M : Mem), f_X6_rebuild_h65 fu k1  l2 M = some res → GW G X 4 (QX G X (.inl none) res) 65 [(0, vR 6 0), (1, vR 2 k1), (2, vI l2)] [] M := by
    intro l2 M hm
    unfold f_X6_rebuild_h65 at hm
    obtain ⟨r65, hL65, hk65⟩ := bnd_some hm
    have hx65 : ∀ (M : Mem), M = r65 → GW G X 4 (QX G X (.inl none) res) 129 [] [] M := by
      intro M he
      subst he
      have hm := hk65
      try dsimp only at hm
      obtain rfl := Option.some.inj hm
      exact g_vret C dX6_rebuild_129
    refine lp_ind1 (P := (fun l2 M => GW G X 4 (QX G X (.inl none) res) 65 [(0, vR 6 0), (1, vR 2 k1), (2, vI l2)] [] M)) (r := r65) ?_ fu l2 M hL65
    intro l2 M o65 hm K65
    have J82 : ∀ (l2 : Int32) (l3 : Int32) (M : Mem), f_X6_rebuild_h82 fu k1  l2 l3 M = some o65 → GW G X 4 (QX G X (.inl none) res) 82 [(0, vR 6 0), (1, vR 2 k1), (2, vI l2), (3, vI l3)] [] M := by
      intro l2 l3 M hm
      unfold f_X6_rebuild_h82 at hm
      obtain ⟨r82, hL82, hk82⟩ := bnd_some hm
      have hx82 : ∀ (M : Mem), M = r82 → GW G X 4 (QX G X (.inl none) res) 123 [(0, vR 6 0), (1, vR 2 k1), (2, vI l2)] [] M := by
        intro M he
        subst he
        have hm := hk82
        try dsimp only at hm
        refine g_iinc (ls' := [(2, vI (l2 + (1 : Int32))), (0, vR 6 0), (1, vR 2 k1)]) (v := l2 + (1 : Int32)) C 2 dX6_rebuild_123 rfl (iv_p1 _) (by decide) rfl ?_
        refine g_goto (tgt := 65) C dX6_rebuild_126 (by decide) ?_
        obtain rfl := Option.some.inj hm
        exact g_sub [1, 2, 0] rfl (g_pc rfl (K65.1 (l2 + (1 : Int32)) M rfl))
      refine lp_ind1 (P := (fun l3 M => GW G X 4 (QX G X (.inl none) res) 82 [(0, vR 6 0), (1, vR 2 k1), (2, vI l2), (3, vI l3)] [] M)) (r := r82) ?_ fu l3 M hL82
      intro l3 M o82 hm K82
      have J117 : ∀ (l3 : Int32) (M : Mem), f_X6_rebuild_j117 fu k1 l2 l3 M = some o82 → GW G X 4 (QX G X (.inl none) res) 117 [(0, vR 6 0), (1, vR 2 k1), (2, vI l2), (3, vI l3)] [] M := by
        intro l3 M hm
        unfold f_X6_rebuild_j117 at hm
        refine g_iinc (ls' := [(3, vI (l3 + (1 : Int32))), (0, vR 6 0), (1, vR 2 k1), (2, vI l2)]) (v := l3 + (1 : Int32)) C 3 dX6_rebuild_117 rfl (iv_p1 _) (by decide) rfl ?_
        refine g_goto (tgt := 82) C dX6_rebuild_120 (by decide) ?_
        obtain rfl := Option.some.inj hm
        exact g_sub [1, 2, 3, 0] rfl (g_pc rfl (K82.1 (l3 + (1 : Int32)) M rfl))
      unfold f_X6_rebuild_b82 at hm
      refine g_iload_n C 3 dX6_rebuild_82 rfl rfl ?_
      refine g_aload_n C 1 dX6_rebuild_83 rfl rfl ?_
      obtain ⟨r84, hr84, hm⟩ := bnd_some hm
      refine g_callVi (As := []) (rest := [vI l3]) C lk_X6_55 (k_X2_arrowTotal X.2.1 G hl hG fu k1 M r84 hk1 hr84) (by decide) rfl rfl rfl (Nat.le_of_ble_eq_true rfl) ⟨Nat.le_of_ble_eq_true rfl, Nat.le_of_ble_eq_true rfl⟩ dX6_rebuild_84 ?_
      refine g_icmp_ge (tgt := 123) C dX6_rebuild_87 (by decide) (fun h87 => ?_) (fun h87 => ?_)
      · have hm := ift hm h87
        obtain rfl := Option.some.inj hm
        exact g_sub [0, 1, 2] rfl (g_pc rfl (hx82 r84.2 (K82.2 _ rfl)))
      · have hm := ife hm h87
        refine g_aload_n C 1 dX6_rebuild_90 rfl rfl ?_
        refine g_iload_n C 3 dX6_rebuild_91 rfl rfl ?_
        obtain ⟨r92, hr92, hm⟩ := bnd_some hm
        refine g_callVi (As := [vI l3]) (rest := []) C lk_X6_58 (k_X2_from X.2.1 G hl hG fu k1 l3 r84.2 r92 hk1 hr92) (by decide) rfl rfl rfl (Nat.le_of_ble_eq_true rfl) ⟨Nat.le_of_ble_eq_true rfl, Nat.le_of_ble_eq_true rfl⟩ dX6_rebuild_92 ?_
        refine g_aload_n C 0 dX6_rebuild_95 rfl rfl ?_
        refine g_getr (k := 0) (k' := 17) C (by decide) kf_X6_24 rfl rfl dX6_rebuild_96 ?_
        refine g_iload_n C 2 dX6_rebuild_99 rfl rfl ?_
        obtain ⟨r100, hr100, hm⟩ := bnd_some hm
        refine g_callVi (As := [vI l2]) (rest := [vI r92.1]) C lk_X6_69 (k_X8_get X.2.1 G hl hG fu 17 l2 r92.2 r100 ((hG _ hk0).2 2 8 17 0 rfl) hr100) (by decide) rfl rfl rfl (Nat.le_of_ble_eq_true rfl) ⟨Nat.le_of_ble_eq_true rfl, Nat.le_of_ble_eq_true rfl⟩ dX6_rebuild_100 ?_
        refine g_icmp_ne (tgt := 117) C dX6_rebuild_103 (by decide) (fun h103 => ?_) (fun h103 => ?_)
        · have hm := ife hm h103
          exact g_sub [0, 1, 2, 3] rfl (g_pc rfl (J117 l3 r100.2 hm))
        · have hm := ift hm h103
          refine g_aload_n C 0 dX6_rebuild_106 rfl rfl ?_
          refine g_iload_n C 2 dX6_rebuild_107 rfl rfl ?_
          refine g_iload_n C 3 dX6_rebuild_108 rfl rfl ?_
          refine g_aload_n C 1 dX6_rebuild_109 rfl rfl ?_
          refine g_iload_n C 3 dX6_rebuild_110 rfl rfl ?_
          obtain ⟨r111, hr111, hm⟩ := bnd_some hm
          refine g_callVi (As := [vI l3]) (rest := [vI l3, vI l2, vR 6 0]) C lk_X6_62 (k_X2_to X.2.1 G hl hG fu k1 l3 r100.2 r111 hk1 hr111) (by decide) rfl rfl rfl (Nat.le_of_ble_eq_true rfl) ⟨Nat.le_of_ble_eq_true rfl, Nat.le_of_ble_eq_true rfl⟩ dX6_rebuild_111 ?_
          obtain ⟨r114, hr114, hm⟩ := bnd_some hm
          refine g_callVv (As := [vI l2, vI l3, vI r111.1]) (rest := []) C lk_X6_65 (k_X6_enterLonger X.2.1 G hl hG fu l2 l3 r111.1 r111.2 r114 hk0 hr114) (by decide) rfl rfl rfl (Nat.le_of_ble_eq_true rfl) ⟨Nat.le_of_ble_eq_true rfl, Nat.le_of_ble_eq_true rfl⟩ dX6_rebuild_114 ?_
          exact g_sub [0, 1, 2, 3] rfl (g_pc rfl (J117 l3 r114 hm))
    unfold f_X6_rebuild_b65 at hm
    refine g_iload_n C 2 dX6_rebuild_65 rfl rfl ?_
    refine g_aload_n C 0 dX6_rebuild_66 rfl rfl ?_
    refine g_geti (k := 0) C (by decide) kf_X6_9 rfl dX6_rebuild_67 ?_
    refine g_icmp_ge (tgt := 129) C dX6_rebuild_70 (by decide) (fun h70 => ?_) (fun h70 => ?_)
    · have hm := ift hm h70
      obtain rfl := Option.some.inj hm
      exact g_sub [] rfl (g_pc rfl (hx65 M (K65.2 _ rfl)))
    · have hm := ife hm h70
      refine g_iload_n C 2 dX6_rebuild_73 rfl rfl ?_
      refine g_sipush (v := 300) C dX6_rebuild_74 rfl ?_
      refine g_icmp_ge (tgt := 129) C dX6_rebuild_77 (by decide) (fun h77 => ?_) (fun h77 => ?_)
      · have hm := ift hm h77
        obtain rfl := Option.some.inj hm
        exact g_sub [] rfl (g_pc rfl (hx65 M (K65.2 _ rfl)))
      · have hm := ife hm h77
        refine g_iconst (v := 0) C dX6_rebuild_80 rfl ?_
        refine g_istore_n (ls' := [(3, vI (0 : Int32)), (0, vR 6 0), (1, vR 2 k1), (2, vI l2)]) C dX6_rebuild_81 rfl (by decide) rfl ?_
        exact g_sub [1, 2, 3, 0] rfl (g_pc rfl (J82 l2 (0 : Int32) M hm))
  have J31 : ∀ (l2 : Int32) (M : Mem), f_X6_rebuild_h31 fu k1  l2 M = some res → GW G X 4 (QX G X (.inl none) res) 31 [(0, vR 6 0), (1, vR 2 k1), (2, vI l2)] [] M := by
    intro l2 M hm
    unfold f_X6_rebuild_h31 at hm
    obtain ⟨r31, hL31, hk31⟩ := bnd_some hm
    have hx31 : ∀ (M : Mem), M = r31 → GW G X 4 (QX G X (.inl none) res) 60 [(0, vR 6 0), (1, vR 2 k1)] [] M := by
      intro M he
      subst he
      have hm := hk31
      try dsimp only at hm
      refine g_aload_n C 1 dX6_rebuild_60 rfl rfl ?_
      obtain ⟨r61, hr61, hm⟩ := bnd_some hm
      refine g_callVi (As := []) (rest := []) C lk_X6_45 (k_X2_objectTotal X.2.1 G hl hG fu k1 M r61 hk1 hr61) (by decide) rfl rfl rfl (Nat.le_of_ble_eq_true rfl) ⟨Nat.le_of_ble_eq_true rfl, Nat.le_of_ble_eq_true rfl⟩ dX6_rebuild_61 ?_
      refine g_istore_n (ls' := [(2, vI r61.1), (0, vR 6 0), (1, vR 2 k1)]) C dX6_rebuild_64 rfl (by decide) rfl ?_
      exact g_sub [1, 2, 0] rfl (g_pc rfl (J65 r61.1 r61.2 hm))
    refine lp_ind1 (P := (fun l2 M => GW G X 4 (QX G X (.inl none) res) 31 [(0, vR 6 0), (1, vR 2 k1), (2, vI l2)] [] M)) (r := r31) ?_ fu l2 M hL31
    intro l2 M o31 hm K31
    unfold f_X6_rebuild_b31 at hm
    refine g_iload_n C 2 dX6_rebuild_31 rfl rfl ?_
    refine g_aload_n C 1 dX6_rebuild_32 rfl rfl ?_
    obtain ⟨r33, hr33, hm⟩ := bnd_some hm
    refine g_callVi (As := []) (rest := [vI l2]) C lk_X6_55 (k_X2_arrowTotal X.2.1 G hl hG fu k1 M r33 hk1 hr33) (by decide) rfl rfl rfl (Nat.le_of_ble_eq_true rfl) ⟨Nat.le_of_ble_eq_true rfl, Nat.le_of_ble_eq_true rfl⟩ dX6_rebuild_33 ?_
    refine g_icmp_ge (tgt := 60) C dX6_rebuild_36 (by decide) (fun h36 => ?_) (fun h36 => ?_)
    · have hm := ift hm h36
      obtain rfl := Option.some.inj hm
      exact g_sub [0, 1] rfl (g_pc rfl (hx31 r33.2 (K31.2 _ rfl)))
    · have hm := ife hm h36
      refine g_aload_n C 0 dX6_rebuild_39 rfl rfl ?_
      refine g_aload_n C 1 dX6_rebuild_40 rfl rfl ?_
      refine g_iload_n C 2 dX6_rebuild_41 rfl rfl ?_
      obtain ⟨r42, hr42, hm⟩ := bnd_some hm
      refine g_callVi (As := [vI l2]) (rest := [vR 6 0]) C lk_X6_58 (k_X2_from X.2.1 G hl hG fu k1 l2 r33.2 r42 hk1 hr42) (by decide) rfl rfl rfl (Nat.le_of_ble_eq_true rfl) ⟨Nat.le_of_ble_eq_true rfl, Nat.le_of_ble_eq_true rfl⟩ dX6_rebuild_42 ?_
      refine g_iload_n C 2 dX6_rebuild_45 rfl rfl ?_
      refine g_aload_n C 1 dX6_rebuild_46 rfl rfl ?_
      refine g_iload_n C 2 dX6_rebuild_47 rfl rfl ?_
      obtain ⟨r48, hr48, hm⟩ := bnd_some hm
      refine g_callVi (As := [vI l2]) (rest := [vI l2, vI r42.1, vR 6 0]) C lk_X6_62 (k_X2_to X.2.1 G hl hG fu k1 l2 r42.2 r48 hk1 hr48) (by decide) rfl rfl rfl (Nat.le_of_ble_eq_true rfl) ⟨Nat.le_of_ble_eq_true rfl, Nat.le_of_ble_eq_true rfl⟩ dX6_rebuild_48 ?_
      obtain ⟨r51, hr51, hm⟩ := bnd_some hm
      refine g_callVv (As := [vI r42.1, vI l2, vI r48.1]) (rest := []) C lk_X6_65 (k_X6_enterLonger X.2.1 G hl hG fu r42.1 l2 r48.1 r48.2 r51 hk0 hr51) (by decide) rfl rfl rfl (Nat.le_of_ble_eq_true rfl) ⟨Nat.le_of_ble_eq_true rfl, Nat.le_of_ble_eq_true rfl⟩ dX6_rebuild_51 ?_
      refine g_iinc (ls' := [(2, vI (l2 + (1 : Int32))), (0, vR 6 0), (1, vR 2 k1)]) (v := l2 + (1 : Int32)) C 2 dX6_rebuild_54 rfl (iv_p1 _) (by decide) rfl ?_
      refine g_goto (tgt := 31) C dX6_rebuild_57 (by decide) ?_
      obtain rfl := Option.some.inj hm
      exact g_sub [1, 2, 0] rfl (g_pc rfl (K31.1 (l2 + (1 : Int32)) r51 rfl))
  have J7 : ∀ (l2 : Int32) (M : Mem), f_X6_rebuild_h7 fu k1  l2 M = some res → GW G X 4 (QX G X (.inl none) res) 7 [(0, vR 6 0), (1, vR 2 k1), (2, vI l2)] [] M := by
    intro l2 M hm
    unfold f_X6_rebuild_h7 at hm
    obtain ⟨r7, hL7, hk7⟩ := bnd_some hm
    have hx7 : ∀ (M : Mem), M = r7 → GW G X 4 (QX G X (.inl none) res) 29 [(0, vR 6 0), (1, vR 2 k1)] [] M := by
      intro M he
      subst he
      have hm := hk7
      try dsimp only at hm
      refine g_iconst (v := 0) C dX6_rebuild_29 rfl ?_
      refine g_istore_n (ls' := [(2, vI (0 : Int32)), (0, vR 6 0), (1, vR 2 k1)]) C dX6_rebuild_30 rfl (by decide) rfl ?_
      exact g_sub [1, 2, 0] rfl (g_pc rfl (J31 (0 : Int32) M hm))
    refine lp_ind1 (P := (fun l2 M => GW G X 4 (QX G X (.inl none) res) 7 [(0, vR 6 0), (1, vR 2 k1), (2, vI l2)] [] M)) (r := r7) ?_ fu l2 M hL7
    intro l2 M o7 hm K7
    unfold f_X6_rebuild_b7 at hm
    refine g_iload_n C 2 dX6_rebuild_7 rfl rfl ?_
    refine g_aload_n C 1 dX6_rebuild_8 rfl rfl ?_
    obtain ⟨r9, hr9, hm⟩ := bnd_some hm
    refine g_callVi (As := []) (rest := [vI l2]) C lk_X6_45 (k_X2_objectTotal X.2.1 G hl hG fu k1 M r9 hk1 hr9) (by decide) rfl rfl rfl (Nat.le_of_ble_eq_true rfl) ⟨Nat.le_of_ble_eq_true rfl, Nat.le_of_ble_eq_true rfl⟩ dX6_rebuild_9 ?_
    refine g_icmp_ge (tgt := 29) C dX6_rebuild_12 (by decide) (fun h12 => ?_) (fun h12 => ?_)
    · have hm := ift hm h12
      obtain rfl := Option.some.inj hm
      exact g_sub [0, 1] rfl (g_pc rfl (hx7 r9.2 (K7.2 _ rfl)))
    · have hm := ife hm h12
      refine g_aload_n C 0 dX6_rebuild_15 rfl rfl ?_
      refine g_iload_n C 2 dX6_rebuild_16 rfl rfl ?_
      refine g_iload_n C 2 dX6_rebuild_17 rfl rfl ?_
      refine g_iconst (v := 0) C dX6_rebuild_18 rfl ?_
      refine g_iconst (v := -1) C dX6_rebuild_19 rfl ?_
      obtain ⟨r20, hr20, hm⟩ := bnd_some hm
      refine g_callVv (As := [vI l2, vI l2, vI (0 : Int32), vI (-1 : Int32)]) (rest := []) C lk_X6_51 (k_X6_enter X.2.1 G hl hG fu l2 l2 (0 : Int32) (-1 : Int32) r9.2 r20 hk0 hr20) (by decide) rfl rfl rfl (Nat.le_of_ble_eq_true rfl) ⟨Nat.le_of_ble_eq_true rfl, Nat.le_of_ble_eq_true rfl⟩ dX6_rebuild_20 ?_
      refine g_iinc (ls' := [(2, vI (l2 + (1 : Int32))), (0, vR 6 0), (1, vR 2 k1)]) (v := l2 + (1 : Int32)) C 2 dX6_rebuild_23 rfl (iv_p1 _) (by decide) rfl ?_
      refine g_goto (tgt := 7) C dX6_rebuild_26 (by decide) ?_
      obtain rfl := Option.some.inj hm
      exact g_sub [1, 2, 0] rfl (g_pc rfl (K7.1 (l2 + (1 : Int32)) r20 rfl))
  unfold f_X6_rebuild at hm
  refine g_aload_n C 0 dX6_rebuild_0 rfl rfl ?_
  refine g_iconst (v := 0) C dX6_rebuild_1 rfl ?_
  refine g_puti C (by decide) kf_X6_9 rfl rfl rfl dX6_rebuild_2 ?_
  refine g_iconst (v := 0) C dX6_rebuild_5 rfl ?_
  refine g_istore_n (ls' := [(2, vI (0 : Int32)), (0, vR 6 0), (1, vR 2 k1)]) C dX6_rebuild_6 rfl (by decide) rfl ?_
  exact g_sub [1, 2, 0] rfl (g_pc rfl (J7 (0 : Int32) (mI M 6 0 0 (0 : Int32)) hm))
def f_X9_cellsChanged (fu : Nat) (M : Mem) : Option (Mem) :=
  (f_X0_renumber fu 0 M).bind (fun r8 => (f_X5_forget fu  r8).bind (fun r15 => some r15))
set_option maxHeartbeats 4000000 in
set_option maxRecDepth 100000 in
theorem k_X9_cellsChanged (l : Launch) (G : GE) (hl : l.stackTraces = false) (hG : GOK G) (fu : Nat)  (M : Mem) (res : Mem) (hk0 : (9, 0) ∈ gids G) (hm : f_X9_cellsChanged fu  M = some res) : CT l G yX9_cellsChanged cX9_cellsChanged 1 none 2 [vR 9 0] M (.inl none) res := by
  refine ct_of [(0, vR 9 0)] (by decide +kernel) hl hG (Nat.le_of_ble_eq_true rfl) rfl (List.forall_mem_cons.mpr ⟨Or.inl hk0, fun _ h => nomatch h⟩) (List.forall_mem_cons.mpr ⟨Or.inl hk0, fun _ h => nomatch h⟩) (fun X hX C => ?_)
  subst hX
  have Cl := C
  unfold f_X9_cellsChanged at hm
  refine g_aload_n C 0 dX9_cellsChanged_0 rfl rfl ?_
  refine g_getr (k := 0) (k' := 0) C (by decide) kf_X9_19 rfl rfl dX9_cellsChanged_1 ?_
  refine g_aload_n C 0 dX9_cellsChanged_4 rfl rfl ?_
  refine g_getr (k := 0) (k' := 0) C (by decide) kf_X9_26 rfl rfl dX9_cellsChanged_5 ?_
  obtain ⟨r8, hr8, hm⟩ := bnd_some hm
  refine g_callVv (As := [vR 6 0]) (rest := []) C lk_X9_387 (k_X0_renumber X.2.1 G hl hG fu 0 M r8 ((hG _ hk0).2 1 0 0 0 rfl) ((hG _ hk0).2 2 6 0 0 rfl) hr8) (by decide) rfl rfl rfl (Nat.le_of_ble_eq_true rfl) ⟨Nat.le_of_ble_eq_true rfl, Nat.le_of_ble_eq_true rfl⟩ dX9_cellsChanged_8 ?_
  refine g_aload_n C 0 dX9_cellsChanged_11 rfl rfl ?_
  refine g_getr (k := 0) (k' := 0) C (by decide) kf_X9_33 rfl rfl dX9_cellsChanged_12 ?_
  obtain ⟨r15, hr15, hm⟩ := bnd_some hm
  refine g_callVv (As := []) (rest := []) C lk_X9_391 (k_X5_forget X.2.1 G hl hG fu  r8 r15 ((hG _ hk0).2 3 5 0 0 rfl) hr15) (by decide) rfl rfl rfl (Nat.le_of_ble_eq_true rfl) ⟨Nat.le_of_ble_eq_true rfl, Nat.le_of_ble_eq_true rfl⟩ dX9_cellsChanged_15 ?_
  obtain rfl := Option.some.inj hm
  exact g_vret C dX9_cellsChanged_18
def f_X9_graphChanged (fu : Nat) (M : Mem) : Option (Mem) :=
  (f_X6_rebuild fu 0 M).bind (fun r8 => (f_X9_cellsChanged fu  r8).bind (fun r12 => some r12))
set_option maxHeartbeats 4000000 in
set_option maxRecDepth 100000 in
theorem k_X9_graphChanged (l : Launch) (G : GE) (hl : l.stackTraces = false) (hG : GOK G) (fu : Nat)  (M : Mem) (res : Mem) (hk0 : (9, 0) ∈ gids G) (hm : f_X9_graphChanged fu  M = some res) : CT l G yX9_graphChanged cX9_graphChanged 1 none 4 [vR 9 0] M (.inl none) res := by
  refine ct_of [(0, vR 9 0)] (by decide +kernel) hl hG (Nat.le_of_ble_eq_true rfl) rfl (List.forall_mem_cons.mpr ⟨Or.inl hk0, fun _ h => nomatch h⟩) (List.forall_mem_cons.mpr ⟨Or.inl hk0, fun _ h => nomatch h⟩) (fun X hX C => ?_)
  subst hX
  have Cl := C
  unfold f_X9_graphChanged at hm
  refine g_aload_n C 0 dX9_graphChanged_0 rfl rfl ?_
  refine g_getr (k := 0) (k' := 0) C (by decide) kf_X9_26 rfl rfl dX9_graphChanged_1 ?_
  refine g_aload_n C 0 dX9_graphChanged_4 rfl rfl ?_
  refine g_getr (k := 0) (k' := 0) C (by decide) kf_X9_12 rfl rfl dX9_graphChanged_5 ?_
  obtain ⟨r8, hr8, hm⟩ := bnd_some hm
  refine g_callVv (As := [vR 2 0]) (rest := []) C lk_X9_384 (k_X6_rebuild X.2.1 G hl hG fu 0 M r8 ((hG _ hk0).2 2 6 0 0 rfl) ((hG _ hk0).2 0 2 0 0 rfl) hr8) (by decide) rfl rfl rfl (Nat.le_of_ble_eq_true rfl) ⟨Nat.le_of_ble_eq_true rfl, Nat.le_of_ble_eq_true rfl⟩ dX9_graphChanged_8 ?_
  refine g_aload_n C 0 dX9_graphChanged_11 rfl rfl ?_
  obtain ⟨r12, hr12, hm⟩ := bnd_some hm
  refine g_callVv (As := []) (rest := []) C lk_X9_143 (k_X9_cellsChanged X.2.1 G hl hG fu  r8 r12 hk0 hr12) (by decide) rfl rfl rfl (Nat.le_of_ble_eq_true rfl) ⟨Nat.le_of_ble_eq_true rfl, Nat.le_of_ble_eq_true rfl⟩ dX9_graphChanged_12 ?_
  obtain rfl := Option.some.inj hm
  exact g_vret C dX9_graphChanged_15
/-! models and contracts, by program (wip/whole/emit.py): X9_sizeAtEnd, X9_sizeAtStart, X9_sources, X9_isProduct, X9_isSquare, X9_sameBehind, X9_isPullback, X9_isEqualizer, X9_doubleBits, X9_digest, X10_putPath, X10_goOn, X10_layPaths, X10_fresh -/
def f_X10_putPath_b33 (fu : Nat)   (l4 : Int32) (M : Mem) : Option ((Int32 × Mem) ⊕ (Mem)) :=
  if (14 : Int32) ≤ l4 then some (Sum.inr M) else if inb (((14 : Int32) * (M.1 10 0 13)) + l4) (alen 22 18) then some (Sum.inl (l4 + (1 : Int32), (mI M 22 18 (((14 : Int32) * (M.1 10 0 13)) + l4).toNatClampNeg (-1 : Int32)))) else none
def f_X10_putPath_h33 (fu : Nat)   (l4 : Int32) (M : Mem) : Option (Mem) :=
  (lp_run (fun s => f_X10_putPath_b33 fu   s.1 s.2) fu (l4, M)).bind (fun M => some (mI M 10 0 13 ((M.1 10 0 13) + (1 : Int32))))
def f_X10_putPath (fu : Nat) (l1 : Int32) (l2 : Int32) (l3 : Int32) (M : Mem) : Option (Mem) :=
  if inb (M.1 10 0 13) (alen 22 14) then if inb ((mI M 22 14 (M.1 10 0 13).toNatClampNeg l1).1 10 0 13) (alen 22 15) then if inb ((mI (mI M 22 14 (M.1 10 0 13).toNatClampNeg l1) 22 15 ((mI M 22 14 (M.1 10 0 13).toNatClampNeg l1).1 10 0 13).toNatClampNeg l2).1 10 0 13) (alen 22 16) then f_X10_putPath_h33 fu (0 : Int32) (mI (mI (mI M 22 14 (M.1 10 0 13).toNatClampNeg l1) 22 15 ((mI M 22 14 (M.1 10 0 13).toNatClampNeg l1).1 10 0 13).toNatClampNeg l2) 22 16 ((mI (mI M 22 14 (M.1 10 0 13).toNatClampNeg l1) 22 15 ((mI M 22 14 (M.1 10 0 13).toNatClampNeg l1).1 10 0 13).toNatClampNeg l2).1 10 0 13).toNatClampNeg l3) else none else none else none
set_option maxHeartbeats 4000000 in
set_option maxRecDepth 100000 in
theorem k_X10_putPath (l : Launch) (G : GE) (hl : l.stackTraces = false) (hG : GOK G) (fu : Nat) (l1 : Int32) (l2 : Int32) (l3 : Int32) (M : Mem) (res : Mem) (hk0 : (10, 0) ∈ gids G) (hm : f_X10_putPath fu l1 l2 l3 M = some res) : CT l G yX10_putPath cX10_putPath 5 none 0 [vR 10 0, vI l1, vI l2, vI l3] M (.inl none) res := by
  refine ct_of [(0, vR 10 0), (1, vI l1), (2, vI l2), (3, vI l3)] (by decide +kernel) hl hG (Nat.le_of_ble_eq_true rfl) rfl (List.forall_mem_cons.mpr ⟨Or.inl hk0, List.forall_mem_cons.mpr ⟨trivial, List.forall_mem_cons.mpr ⟨trivial, List.forall_mem_cons.mpr ⟨trivial, fun _ h => nomatch h⟩⟩⟩⟩) (List.forall_mem_cons.mpr ⟨Or.inl hk0, List.forall_mem_cons.mpr ⟨trivial, List.forall_mem_cons.mpr ⟨trivial, List.forall_mem_cons.mpr ⟨trivial, fun _ h => nomatch h⟩⟩⟩⟩) (fun X hX C => ?_)
  subst hX
  have Cl := C
  have J33 : ∀ (l4 : Int32) (M : Mem), f_X10_putPath_h33 fu   l4 M = some res → GW G X 5 (QX G X (.inl none) res) 33 [(0, vR 10 0), (4, vI l4)] [] M := by
    intro l4 M hm
    unfold f_X10_putPath_h33 at hm
    obtain ⟨r33, hL33, hk33⟩ := bnd_some hm
    have hx33 : ∀ (M : Mem), M = r33 → GW G X 5 (QX G X (.inl none) res) 62 [(0, vR 10 0)] [] M := by
      intro M he
      subst he
      have hm := hk33
      try dsimp only at hm
      refine g_aload_n C 0 dX10_putPath_62 rfl rfl ?_
      refine g_dup C dX10_putPath_63 rfl ?_
      refine g_geti (k := 0) C (by decide) kf_X10_89 rfl dX10_putPath_64 ?_
      refine g_iconst (v := 1) C dX10_putPath_67 rfl ?_
      refine g_iadd C dX10_putPath_68 ?_
      refine g_puti C (by decide) kf_X10_89 rfl rfl rfl dX10_putPath_69 ?_
      obtain rfl := Option.some.inj hm
      exact g_vret C dX10_putPath_72
    refine lp_ind1 (P := (fun l4 M => GW G X 5 (QX G X (.inl none) res) 33 [(0, vR 10 0), (4, vI l4)] [] M)) (r := r33) ?_ fu l4 M hL33
    intro l4 M o33 hm K33
    unfold f_X10_putPath_b33 at hm
    refine g_iload C 1 dX10_putPath_33 rfl ?_
    refine g_bipush (v := 14) C dX10_putPath_35 rfl ?_
    refine g_icmp_ge (tgt := 62) C dX10_putPath_37 (by decide) (fun h37 => ?_) (fun h37 => ?_)
    · have hm := ift hm h37
      obtain rfl := Option.some.inj hm
      exact g_sub [0] rfl (g_pc rfl (hx33 M (K33.2 _ rfl)))
    · have hm := ife hm h37
      refine g_aload_n C 0 dX10_putPath_40 rfl rfl ?_
      refine g_getr (k := 0) (k' := 18) C (by decide) kf_X10_50 rfl rfl dX10_putPath_41 ?_
      refine g_bipush (v := 14) C dX10_putPath_44 rfl ?_
      refine g_aload_n C 0 dX10_putPath_46 rfl rfl ?_
      refine g_geti (k := 0) C (by decide) kf_X10_89 rfl dX10_putPath_47 ?_
      refine g_imul C dX10_putPath_50 ?_
      refine g_iload C 1 dX10_putPath_51 rfl ?_
      refine g_iadd C dX10_putPath_53 ?_
      refine g_iconst (v := -1) C dX10_putPath_54 rfl ?_
      obtain ⟨hi55, hm⟩ := ifn hm
      refine g_iast C (by decide) hi55 dX10_putPath_55 ?_
      refine g_iinc (ls' := [(4, vI (l4 + (1 : Int32))), (0, vR 10 0)]) (v := l4 + (1 : Int32)) C 1 dX10_putPath_56 rfl (iv_p1 _) (by decide) rfl ?_
      refine g_goto (tgt := 33) C dX10_putPath_59 (by decide) ?_
      obtain rfl := Option.some.inj hm
      exact g_sub [1, 0] rfl (g_pc rfl (K33.1 (l4 + (1 : Int32)) (mI M 22 18 (((14 : Int32) * (M.1 10 0 13)) + l4).toNatClampNeg (-1 : Int32)) rfl))
  unfold f_X10_putPath at hm
  refine g_aload_n C 0 dX10_putPath_0 rfl rfl ?_
  refine g_getr (k := 0) (k' := 14) C (by decide) kf_X10_38 rfl rfl dX10_putPath_1 ?_
  refine g_aload_n C 0 dX10_putPath_4 rfl rfl ?_
  refine g_geti (k := 0) C (by decide) kf_X10_89 rfl dX10_putPath_5 ?_
  refine g_iload_n C 1 dX10_putPath_8 rfl rfl ?_
  obtain ⟨hi9, hm⟩ := ifn hm
  refine g_iast C (by decide) hi9 dX10_putPath_9 ?_
  refine g_aload_n C 0 dX10_putPath_10 rfl rfl ?_
  refine g_getr (k := 0) (k' := 15) C (by decide) kf_X10_41 rfl rfl dX10_putPath_11 ?_
  refine g_aload_n C 0 dX10_putPath_14 rfl rfl ?_
  refine g_geti (k := 0) C (by decide) kf_X10_89 rfl dX10_putPath_15 ?_
  refine g_iload_n C 2 dX10_putPath_18 rfl rfl ?_
  obtain ⟨hi19, hm⟩ := ifn hm
  refine g_iast C (by decide) hi19 dX10_putPath_19 ?_
  refine g_aload_n C 0 dX10_putPath_20 rfl rfl ?_
  refine g_getr (k := 0) (k' := 16) C (by decide) kf_X10_44 rfl rfl dX10_putPath_21 ?_
  refine g_aload_n C 0 dX10_putPath_24 rfl rfl ?_
  refine g_geti (k := 0) C (by decide) kf_X10_89 rfl dX10_putPath_25 ?_
  refine g_iload_n C 3 dX10_putPath_28 rfl rfl ?_
  obtain ⟨hi29, hm⟩ := ifn hm
  refine g_iast C (by decide) hi29 dX10_putPath_29 ?_
  refine g_iconst (v := 0) C dX10_putPath_30 rfl ?_
  refine g_istore (ls' := [(4, vI (0 : Int32)), (0, vR 10 0), (1, vI l1), (2, vI l2), (3, vI l3)]) C dX10_putPath_31 (by decide) rfl ?_
  exact g_sub [1, 0] rfl (g_pc rfl (J33 (0 : Int32) (mI (mI (mI M 22 14 (M.1 10 0 13).toNatClampNeg l1) 22 15 ((mI M 22 14 (M.1 10 0 13).toNatClampNeg l1).1 10 0 13).toNatClampNeg l2) 22 16 ((mI (mI M 22 14 (M.1 10 0 13).toNatClampNeg l1) 22 15 ((mI M 22 14 (M.1 10 0 13).toNatClampNeg l1).1 10 0 13).toNatClampNeg l2).1 10 0 13).toNatClampNeg l3) hm))
def f_X10_goOn_b32 (fu : Nat)  (l1 : Int32) (l2 : Int32) (l3 : Int32) (l4 : Int32) (M : Mem) : Option ((Int32 × Mem) ⊕ (Mem)) :=
  if inb l1 (alen 22 16) then if (M.1 22 16 l1.toNatClampNeg) ≤ l4 then some (Sum.inr M) else if inb (((7 : Int32) * l1) + l4) (alen 22 17) then if inb (((7 : Int32) * l3) + l4) (alen 22 17) then some (Sum.inl (l4 + (1 : Int32), (mI M 22 17 (((7 : Int32) * l3) + l4).toNatClampNeg (M.1 22 17 (((7 : Int32) * l1) + l4).toNatClampNeg)))) else none else none else none
def f_X10_goOn_h32 (fu : Nat)   (l1 : Int32) (l2 : Int32) (l3 : Int32) (l4 : Int32) (M : Mem) : Option (Mem) :=
  (lp_run (fun s => f_X10_goOn_b32 fu  l1 l2 l3 s.1 s.2) fu (l4, M)).bind (fun M => if inb l1 (alen 22 16) then if inb (((7 : Int32) * l3) + (M.1 22 16 l1.toNatClampNeg)) (alen 22 17) then if inb (((14 : Int32) * l1) + l2) (alen 22 18) then some (mI (mI M 22 17 (((7 : Int32) * l3) + (M.1 22 16 l1.toNatClampNeg)).toNatClampNeg l2) 22 18 (((14 : Int32) * l1) + l2).toNatClampNeg l3) else none else none else none)
def f_X10_goOn (fu : Nat) (l1 : Int32) (l2 : Int32) (M : Mem) : Option (Mem) :=
  if inb l1 (alen 22 14) then if inb l2 (alen 22 4) then if inb l1 (alen 22 16) then (f_X10_putPath fu (M.1 22 14 l1.toNatClampNeg) (M.1 22 4 l2.toNatClampNeg) ((M.1 22 16 l1.toNatClampNeg) + (1 : Int32)) M).bind (fun r26 => f_X10_goOn_h32 fu l1 l2 (M.1 10 0 13) (0 : Int32) r26) else none else none else none
set_option maxHeartbeats 4000000 in
set_option maxRecDepth 100000 in
theorem k_X10_goOn (l : Launch) (G : GE) (hl : l.stackTraces = false) (hG : GOK G) (fu : Nat) (l1 : Int32) (l2 : Int32) (M : Mem) (res : Mem) (hk0 : (10, 0) ∈ gids G) (hm : f_X10_goOn fu l1 l2 M = some res) : CT l G yX10_goOn cX10_goOn 5 none 1 [vR 10 0, vI l1, vI l2] M (.inl none) res := by
  refine ct_of [(0, vR 10 0), (1, vI l1), (2, vI l2)] (by decide +kernel) hl hG (Nat.le_of_ble_eq_true rfl) rfl (List.forall_mem_cons.mpr ⟨Or.inl hk0, List.forall_mem_cons.mpr ⟨trivial, List.forall_mem_cons.mpr ⟨trivial, fun _ h => nomatch h⟩⟩⟩) (List.forall_mem_cons.mpr ⟨Or.inl hk0, List.forall_mem_cons.mpr ⟨trivial, List.forall_mem_cons.mpr ⟨trivial, fun _ h => nomatch h⟩⟩⟩) (fun X hX C => ?_)
  subst hX
  have Cl := C
  have J32 : ∀ (l1 : Int32) (l2 : Int32) (l3 : Int32) (l4 : Int32) (M : Mem), f_X10_goOn_h32 fu   l1 l2 l3 l4 M = some res → GW G X 5 (QX G X (.inl none) res) 32 [(0, vR 10 0), (1, vI l1), (2, vI l2), (3, vI l3), (4, vI l4)] [] M := by
    intro l1 l2 l3 l4 M hm
    unfold f_X10_goOn_h32 at hm
    obtain ⟨r32, hL32, hk32⟩ := bnd_some hm
    have hx32 : ∀ (M : Mem), M = r32 → GW G X 5 (QX G X (.inl none) res) 73 [(0, vR 10 0), (1, vI l1), (2, vI l2), (3, vI l3)] [] M := by
      intro M he
      subst he
      have hm := hk32
      try dsimp only at hm
      refine g_aload_n C 0 dX10_goOn_73 rfl rfl ?_
      refine g_getr (k := 0) (k' := 17) C (by decide) kf_X10_47 rfl rfl dX10_goOn_74 ?_
      refine g_bipush (v := 7) C dX10_goOn_77 rfl ?_
      refine g_iload_n C 3 dX10_goOn_79 rfl rfl ?_
      refine g_imul C dX10_goOn_80 ?_
      refine g_aload_n C 0 dX10_goOn_81 rfl rfl ?_
      refine g_getr (k := 0) (k' := 16) C (by decide) kf_X10_44 rfl rfl dX10_goOn_82 ?_
      refine g_iload_n C 1 dX10_goOn_85 rfl rfl ?_
      obtain ⟨hi86, hm⟩ := ifn hm
      refine g_iald C (by decide) hi86 dX10_goOn_86 ?_
      refine g_iadd C dX10_goOn_87 ?_
      refine g_iload_n C 2 dX10_goOn_88 rfl rfl ?_
      obtain ⟨hi89, hm⟩ := ifn hm
      refine g_iast C (by decide) hi89 dX10_goOn_89 ?_
      refine g_aload_n C 0 dX10_goOn_90 rfl rfl ?_
      refine g_getr (k := 0) (k' := 18) C (by decide) kf_X10_50 rfl rfl dX10_goOn_91 ?_
      refine g_bipush (v := 14) C dX10_goOn_94 rfl ?_
      refine g_iload_n C 1 dX10_goOn_96 rfl rfl ?_
      refine g_imul C dX10_goOn_97 ?_
      refine g_iload_n C 2 dX10_goOn_98 rfl rfl ?_
      refine g_iadd C dX10_goOn_99 ?_
      refine g_iload_n C 3 dX10_goOn_100 rfl rfl ?_
      obtain ⟨hi101, hm⟩ := ifn hm
      refine g_iast C (by decide) hi101 dX10_goOn_101 ?_
      obtain rfl := Option.some.inj hm
      exact g_vret C dX10_goOn_102
    refine lp_ind1 (P := (fun l4 M => GW G X 5 (QX G X (.inl none) res) 32 [(0, vR 10 0), (1, vI l1), (2, vI l2), (3, vI l3), (4, vI l4)] [] M)) (r := r32) ?_ fu l4 M hL32
    intro l4 M o32 hm K32
    unfold f_X10_goOn_b32 at hm
    refine g_iload C 4 dX10_goOn_32 rfl ?_
    refine g_aload_n C 0 dX10_goOn_34 rfl rfl ?_
    refine g_getr (k := 0) (k' := 16) C (by decide) kf_X10_44 rfl rfl dX10_goOn_35 ?_
    refine g_iload_n C 1 dX10_goOn_38 rfl rfl ?_
    obtain ⟨hi39, hm⟩ := ifn hm
    refine g_iald C (by decide) hi39 dX10_goOn_39 ?_
    refine g_icmp_ge (tgt := 73) C dX10_goOn_40 (by decide) (fun h40 => ?_) (fun h40 => ?_)
    · have hm := ift hm h40
      obtain rfl := Option.some.inj hm
      exact g_sub [0, 1, 2, 3] rfl (g_pc rfl (hx32 M (K32.2 _ rfl)))
    · have hm := ife hm h40
      refine g_aload_n C 0 dX10_goOn_43 rfl rfl ?_
      refine g_getr (k := 0) (k' := 17) C (by decide) kf_X10_47 rfl rfl dX10_goOn_44 ?_
      refine g_bipush (v := 7) C dX10_goOn_47 rfl ?_
      refine g_iload_n C 3 dX10_goOn_49 rfl rfl ?_
      refine g_imul C dX10_goOn_50 ?_
      refine g_iload C 4 dX10_goOn_51 rfl ?_
      refine g_iadd C dX10_goOn_53 ?_
      refine g_aload_n C 0 dX10_goOn_54 rfl rfl ?_
      refine g_getr (k := 0) (k' := 17) C (by decide) kf_X10_47 rfl rfl dX10_goOn_55 ?_
      refine g_bipush (v := 7) C dX10_goOn_58 rfl ?_
      refine g_iload_n C 1 dX10_goOn_60 rfl rfl ?_
      refine g_imul C dX10_goOn_61 ?_
      refine g_iload C 4 dX10_goOn_62 rfl ?_
      refine g_iadd C dX10_goOn_64 ?_
      obtain ⟨hi65, hm⟩ := ifn hm
      refine g_iald C (by decide) hi65 dX10_goOn_65 ?_
      obtain ⟨hi66, hm⟩ := ifn hm
      refine g_iast C (by decide) hi66 dX10_goOn_66 ?_
      refine g_iinc (ls' := [(4, vI (l4 + (1 : Int32))), (0, vR 10 0), (1, vI l1), (2, vI l2), (3, vI l3)]) (v := l4 + (1 : Int32)) C 4 dX10_goOn_67 rfl (iv_p1 _) (by decide) rfl ?_
      refine g_goto (tgt := 32) C dX10_goOn_70 (by decide) ?_
      obtain rfl := Option.some.inj hm
      exact g_sub [1, 2, 3, 4, 0] rfl (g_pc rfl (K32.1 (l4 + (1 : Int32)) (mI M 22 17 (((7 : Int32) * l3) + l4).toNatClampNeg (M.1 22 17 (((7 : Int32) * l1) + l4).toNatClampNeg)) rfl))
  unfold f_X10_goOn at hm
  refine g_aload_n C 0 dX10_goOn_0 rfl rfl ?_
  refine g_geti (k := 0) C (by decide) kf_X10_89 rfl dX10_goOn_1 ?_
  refine g_istore_n (ls' := [(3, vI (M.1 10 0 13)), (0, vR 10 0), (1, vI l1), (2, vI l2)]) C dX10_goOn_4 rfl (by decide) rfl ?_
  refine g_aload_n C 1 dX10_goOn_5 rfl rfl ?_
  refine g_aload_n C 1 dX10_goOn_6 rfl rfl ?_
  refine g_getr (k := 0) (k' := 14) C (by decide) kf_X10_38 rfl rfl dX10_goOn_7 ?_
  refine g_iload_n C 2 dX10_goOn_10 rfl rfl ?_
  obtain ⟨hi11, hm⟩ := ifn hm
  refine g_iald C (by decide) hi11 dX10_goOn_11 ?_
  refine g_aload_n C 1 dX10_goOn_12 rfl rfl ?_
  refine g_getr (k := 0) (k' := 4) C (by decide) kf_X10_17 rfl rfl dX10_goOn_13 ?_
  refine g_iload_n C 3 dX10_goOn_16 rfl rfl ?_
  obtain ⟨hi17, hm⟩ := ifn hm
  refine g_iald C (by decide) hi17 dX10_goOn_17 ?_
  refine g_aload_n C 1 dX10_goOn_18 rfl rfl ?_
  refine g_getr (k := 0) (k' := 16) C (by decide) kf_X10_44 rfl rfl dX10_goOn_19 ?_
  refine g_iload_n C 2 dX10_goOn_22 rfl rfl ?_
  obtain ⟨hi23, hm⟩ := ifn hm
  refine g_iald C (by decide) hi23 dX10_goOn_23 ?_
  refine g_iconst (v := 1) C dX10_goOn_24 rfl ?_
  refine g_iadd C dX10_goOn_25 ?_
  obtain ⟨r26, hr26, hm⟩ := bnd_some hm
  refine g_callVv (As := [vI (M.1 22 14 l1.toNatClampNeg), vI (M.1 22 4 l2.toNatClampNeg), vI ((M.1 22 16 l1.toNatClampNeg) + (1 : Int32))]) (rest := []) C lk_X10_92 (k_X10_putPath X.2.1 G hl hG fu (M.1 22 14 l1.toNatClampNeg) (M.1 22 4 l2.toNatClampNeg) ((M.1 22 16 l1.toNatClampNeg) + (1 : Int32)) M r26 hk0 hr26) (by decide) rfl rfl rfl (Nat.le_of_ble_eq_true rfl) ⟨Nat.le_of_ble_eq_true rfl, Nat.le_of_ble_eq_true rfl⟩ dX10_goOn_26 ?_
  refine g_iconst (v := 0) C dX10_goOn_29 rfl ?_
  refine g_istore (ls' := [(4, vI (0 : Int32)), (3, vI (M.1 10 0 13)), (0, vR 10 0), (1, vI l1), (2, vI l2)]) C dX10_goOn_30 (by decide) rfl ?_
  exact g_sub [2, 3, 4, 1, 0] rfl (g_pc rfl (J32 l1 l2 (M.1 10 0 13) (0 : Int32) r26 hm))
def f_X10_layPaths_b7 (fu : Nat)   (l1 : Int32) (M : Mem) : Option ((Int32 × Mem) ⊕ (Mem)) :=
  if (M.1 10 0 1) ≤ l1 then some (Sum.inr M) else (f_X10_putPath fu l1 l1 (0 : Int32) M).bind (fun r19 => some (Sum.inl (l1 + (1 : Int32), r19)))
def f_X10_layPaths_b35 (fu : Nat)  (l1 : Int32) (l2 : Int32) (M : Mem) : Option ((Int32 × Mem) ⊕ (Mem)) :=
  if (M.1 10 0 2) ≤ l2 then some (Sum.inr M) else if inb l2 (alen 22 3) then (f_X10_goOn fu (M.1 22 3 l2.toNatClampNeg) l2 M).bind (fun r51 => some (Sum.inl (l2 + (1 : Int32), r51))) else none
def f_X10_layPaths_j113 (fu : Nat)  (l2 : Int32) (l3 : Int32) (M : Mem) : Option ((Int32 × Mem) ⊕ ((Mem) ⊕ (Int32 × Mem))) :=
  some (Sum.inl (l3 + (1 : Int32), M))
def f_X10_layPaths_b72 (fu : Nat)  (l2 : Int32) (l3 : Int32) (M : Mem) : Option ((Int32 × Mem) ⊕ ((Mem) ⊕ (Int32 × Mem))) :=
  if (M.1 10 0 2) ≤ l3 then some (Sum.inr (Sum.inl M)) else if inb l3 (alen 22 3) then if inb l2 (alen 22 15) then if (M.1 22 3 l3.toNatClampNeg) = (M.1 22 15 l2.toNatClampNeg) then if (M.1 10 0 13) = (300 : Int32) then some (Sum.inr (Sum.inr ((0 : Int32), M))) else (f_X10_goOn fu l2 l3 M).bind (fun r110 => f_X10_layPaths_j113 fu l2 l3 r110) else f_X10_layPaths_j113 fu l2 l3 M else none else none
def f_X10_layPaths_h72 (fu : Nat)   (l2 : Int32) (l3 : Int32) (M : Mem) : Option ((Int32 × Mem) ⊕ ((Mem) ⊕ (Int32 × Mem))) :=
  (lp_run (fun s => f_X10_layPaths_b72 fu  l2 s.1 s.2) fu (l3, M)).bind (fun r72 => match r72 with
    | Sum.inl M => some (Sum.inl (l2 + (1 : Int32), M))
    | Sum.inr q72 => some (Sum.inr (Sum.inr q72)))
def f_X10_layPaths_b62 (fu : Nat)   (l2 : Int32) (M : Mem) : Option ((Int32 × Mem) ⊕ ((Mem) ⊕ (Int32 × Mem))) :=
  if (M.1 10 0 13) ≤ l2 then some (Sum.inr (Sum.inl M)) else f_X10_layPaths_h72 fu l2 (0 : Int32) M
def f_X10_layPaths_h62 (fu : Nat)   (l2 : Int32) (M : Mem) : Option (Int32 × Mem) :=
  (lp_run (fun s => f_X10_layPaths_b62 fu   s.1 s.2) fu (l2, M)).bind (fun r62 => match r62 with
    | Sum.inl M => some ((1 : Int32), M)
    | Sum.inr q62 => some q62)
def f_X10_layPaths_h35 (fu : Nat)   (l1 : Int32) (l2 : Int32) (M : Mem) : Option (Int32 × Mem) :=
  (lp_run (fun s => f_X10_layPaths_b35 fu  l1 s.1 s.2) fu (l2, M)).bind (fun M => f_X10_layPaths_h62 fu l1 M)
def f_X10_layPaths_h7 (fu : Nat)   (l1 : Int32) (M : Mem) : Option (Int32 × Mem) :=
  (lp_run (fun s => f_X10_layPaths_b7 fu   s.1 s.2) fu (l1, M)).bind (fun M => f_X10_layPaths_h35 fu (M.1 10 0 13) (0 : Int32) M)
def f_X10_layPaths (fu : Nat) (M : Mem) : Option (Int32 × Mem) :=
  f_X10_layPaths_h7 fu (0 : Int32) (mI M 10 0 13 (0 : Int32))
set_option maxHeartbeats 4000000 in
set_option maxRecDepth 100000 in
theorem k_X10_layPaths (l : Launch) (G : GE) (hl : l.stackTraces = false) (hG : GOK G) (fu : Nat)  (M : Mem) (res : Int32 × Mem) (hk0 : (10, 0) ∈ gids G) (hm : f_X10_layPaths fu  M = some res) : CT l G yX10_layPaths cX10_layPaths 4 (some .boolean) 2 [vR 10 0] M (.inl (some (vI res.1))) res.2 := by
  refine ct_of [(0, vR 10 0)] (by decide +kernel) hl hG (Nat.le_of_ble_eq_true rfl) rfl (List.forall_mem_cons.mpr ⟨Or.inl hk0, fun _ h => nomatch h⟩) (List.forall_mem_cons.mpr ⟨Or.inl hk0, fun _ h => nomatch h⟩) (fun X hX C => ?_)
  subst hX
  have Cl := C
  have J62 : ∀ (l2 : Int32) (M : Mem), f_X10_layPaths_h62 fu   l2 M = some res → GW G X 4 (QX G X (.inl (some (vI res.1))) res.2) 62 [(0, vR 10 0), (2, vI l2)] [] M := by
    intro l2 M hm
    unfold f_X10_layPaths_h62 at hm
    obtain ⟨r62, hL62, hk62⟩ := bnd_some hm
    have hx62 : ∀ (M : Mem), Sum.inl M = r62 → GW G X 4 (QX G X (.inl (some (vI res.1))) res.2) 125 [] [] M := by
      intro M he
      subst he
      have hm := hk62
      try dsimp only at hm
      refine g_iconst (v := 1) C dX10_layPaths_125 rfl ?_
      obtain rfl := Option.some.inj hm
      exact g_zret C (Or.inr rfl) dX10_layPaths_126
    refine lp_ind1 (P := (fun l2 M => GW G X 4 (QX G X (.inl (some (vI res.1))) res.2) 62 [(0, vR 10 0), (2, vI l2)] [] M)) (r := r62) ?_ fu l2 M hL62
    intro l2 M o62 hm K62
    have J72 : ∀ (l2 : Int32) (l3 : Int32) (M : Mem), f_X10_layPaths_h72 fu   l2 l3 M = some o62 → GW G X 4 (QX G X (.inl (some (vI res.1))) res.2) 72 [(0, vR 10 0), (2, vI l2), (3, vI l3)] [] M := by
      intro l2 l3 M hm
      unfold f_X10_layPaths_h72 at hm
      obtain ⟨r72, hL72, hk72⟩ := bnd_some hm
      have hx72 : ∀ (M : Mem), Sum.inl M = r72 → GW G X 4 (QX G X (.inl (some (vI res.1))) res.2) 119 [(0, vR 10 0), (2, vI l2)] [] M := by
        intro M he
        subst he
        have hm := hk72
        try dsimp only at hm
        refine g_iinc (ls' := [(2, vI (l2 + (1 : Int32))), (0, vR 10 0)]) (v := l2 + (1 : Int32)) C 1 dX10_layPaths_119 rfl (iv_p1 _) (by decide) rfl ?_
        refine g_goto (tgt := 62) C dX10_layPaths_122 (by decide) ?_
        obtain rfl := Option.some.inj hm
        exact g_sub [1, 0] rfl (g_pc rfl (K62.1 (l2 + (1 : Int32)) M rfl))
      refine lp_ind1 (P := (fun l3 M => GW G X 4 (QX G X (.inl (some (vI res.1))) res.2) 72 [(0, vR 10 0), (2, vI l2), (3, vI l3)] [] M)) (r := r72) ?_ fu l3 M hL72
      intro l3 M o72 hm K72
      have J113 : ∀ (l3 : Int32) (M : Mem), f_X10_layPaths_j113 fu  l2 l3 M = some o72 → GW G X 4 (QX G X (.inl (some (vI res.1))) res.2) 113 [(0, vR 10 0), (2, vI l2), (3, vI l3)] [] M := by
        intro l3 M hm
        unfold f_X10_layPaths_j113 at hm
        refine g_iinc (ls' := [(3, vI (l3 + (1 : Int32))), (0, vR 10 0), (2, vI l2)]) (v := l3 + (1 : Int32)) C 2 dX10_layPaths_113 rfl (iv_p1 _) (by decide) rfl ?_
        refine g_goto (tgt := 72) C dX10_layPaths_116 (by decide) ?_
        obtain rfl := Option.some.inj hm
        exact g_sub [1, 2, 0] rfl (g_pc rfl (K72.1 (l3 + (1 : Int32)) M rfl))
      unfold f_X10_layPaths_b72 at hm
      refine g_iload_n C 2 dX10_layPaths_72 rfl rfl ?_
      refine g_aload_n C 0 dX10_layPaths_73 rfl rfl ?_
      refine g_geti (k := 0) C (by decide) kf_X10_79 rfl dX10_layPaths_74 ?_
      refine g_icmp_ge (tgt := 119) C dX10_layPaths_77 (by decide) (fun h77 => ?_) (fun h77 => ?_)
      · have hm := ift hm h77
        obtain rfl := Option.some.inj hm
        exact g_sub [0, 1] rfl (g_pc rfl (hx72 M (K72.2 _ rfl)))
      · have hm := ife hm h77
        refine g_aload_n C 0 dX10_layPaths_80 rfl rfl ?_
        refine g_getr (k := 0) (k' := 3) C (by decide) kf_X10_13 rfl rfl dX10_layPaths_81 ?_
        refine g_iload_n C 2 dX10_layPaths_84 rfl rfl ?_
        obtain ⟨hi85, hm⟩ := ifn hm
        refine g_iald C (by decide) hi85 dX10_layPaths_85 ?_
        refine g_aload_n C 0 dX10_layPaths_86 rfl rfl ?_
        refine g_getr (k := 0) (k' := 15) C (by decide) kf_X10_41 rfl rfl dX10_layPaths_87 ?_
        refine g_iload_n C 1 dX10_layPaths_90 rfl rfl ?_
        obtain ⟨hi91, hm⟩ := ifn hm
        refine g_iald C (by decide) hi91 dX10_layPaths_91 ?_
        refine g_icmp_ne (tgt := 113) C dX10_layPaths_92 (by decide) (fun h92 => ?_) (fun h92 => ?_)
        · have hm := ife hm h92
          exact g_sub [0, 1, 2] rfl (g_pc rfl (J113 l3 M hm))
        · have hm := ift hm h92
          refine g_aload_n C 0 dX10_layPaths_95 rfl rfl ?_
          refine g_geti (k := 0) C (by decide) kf_X10_89 rfl dX10_layPaths_96 ?_
          refine g_sipush (v := 300) C dX10_layPaths_99 rfl ?_
          refine g_icmp_ne (tgt := 107) C dX10_layPaths_102 (by decide) (fun h102 => ?_) (fun h102 => ?_)
          · have hm := ife hm h102
            refine g_aload_n C 0 dX10_layPaths_107 rfl rfl ?_
            refine g_iload_n C 1 dX10_layPaths_108 rfl rfl ?_
            refine g_iload_n C 2 dX10_layPaths_109 rfl rfl ?_
            obtain ⟨r110, hr110, hm⟩ := bnd_some hm
            refine g_callVv (As := [vI l2, vI l3]) (rest := []) C lk_X10_96 (k_X10_goOn X.2.1 G hl hG fu l2 l3 M r110 hk0 hr110) (by decide) rfl rfl rfl (Nat.le_of_ble_eq_true rfl) ⟨Nat.le_of_ble_eq_true rfl, Nat.le_of_ble_eq_true rfl⟩ dX10_layPaths_110 ?_
            exact g_sub [0, 1, 2] rfl (g_pc rfl (J113 l3 r110 hm))
          · have hm := ift hm h102
            refine g_iconst (v := 0) C dX10_layPaths_105 rfl ?_
            obtain rfl := Option.some.inj hm
            have e72 := K72.2 _ rfl
            subst e72
            obtain rfl := Option.some.inj hk72
            have e62 := K62.2 _ rfl
            subst e62
            obtain rfl := Option.some.inj hk62
            exact g_zret C (Or.inl rfl) dX10_layPaths_106
    unfold f_X10_layPaths_b62 at hm
    refine g_iload_n C 1 dX10_layPaths_62 rfl rfl ?_
    refine g_aload_n C 0 dX10_layPaths_63 rfl rfl ?_
    refine g_geti (k := 0) C (by decide) kf_X10_89 rfl dX10_layPaths_64 ?_
    refine g_icmp_ge (tgt := 125) C dX10_layPaths_67 (by decide) (fun h67 => ?_) (fun h67 => ?_)
    · have hm := ift hm h67
      obtain rfl := Option.some.inj hm
      exact g_sub [] rfl (g_pc rfl (hx62 M (K62.2 _ rfl)))
    · have hm := ife hm h67
      refine g_iconst (v := 0) C dX10_layPaths_70 rfl ?_
      refine g_istore_n (ls' := [(3, vI (0 : Int32)), (0, vR 10 0), (2, vI l2)]) C dX10_layPaths_71 rfl (by decide) rfl ?_
      exact g_sub [1, 2, 0] rfl (g_pc rfl (J72 l2 (0 : Int32) M hm))
  have J35 : ∀ (l1 : Int32) (l2 : Int32) (M : Mem), f_X10_layPaths_h35 fu   l1 l2 M = some res → GW G X 4 (QX G X (.inl (some (vI res.1))) res.2) 35 [(0, vR 10 0), (1, vI l1), (2, vI l2)] [] M := by
    intro l1 l2 M hm
    unfold f_X10_layPaths_h35 at hm
    obtain ⟨r35, hL35, hk35⟩ := bnd_some hm
    have hx35 : ∀ (M : Mem), M = r35 → GW G X 4 (QX G X (.inl (some (vI res.1))) res.2) 60 [(0, vR 10 0), (1, vI l1)] [] M := by
      intro M he
      subst he
      have hm := hk35
      try dsimp only at hm
      refine g_iload_n C 1 dX10_layPaths_60 rfl rfl ?_
      refine g_istore_n (ls' := [(2, vI l1), (0, vR 10 0), (1, vI l1)]) C dX10_layPaths_61 rfl (by decide) rfl ?_
      exact g_sub [1, 0] rfl (g_pc rfl (J62 l1 M hm))
    refine lp_ind1 (P := (fun l2 M => GW G X 4 (QX G X (.inl (some (vI res.1))) res.2) 35 [(0, vR 10 0), (1, vI l1), (2, vI l2)] [] M)) (r := r35) ?_ fu l2 M hL35
    intro l2 M o35 hm K35
    unfold f_X10_layPaths_b35 at hm
    refine g_iload_n C 2 dX10_layPaths_35 rfl rfl ?_
    refine g_aload_n C 0 dX10_layPaths_36 rfl rfl ?_
    refine g_geti (k := 0) C (by decide) kf_X10_79 rfl dX10_layPaths_37 ?_
    refine g_icmp_ge (tgt := 60) C dX10_layPaths_40 (by decide) (fun h40 => ?_) (fun h40 => ?_)
    · have hm := ift hm h40
      obtain rfl := Option.some.inj hm
      exact g_sub [0, 1] rfl (g_pc rfl (hx35 M (K35.2 _ rfl)))
    · have hm := ife hm h40
      refine g_aload_n C 0 dX10_layPaths_43 rfl rfl ?_
      refine g_aload_n C 0 dX10_layPaths_44 rfl rfl ?_
      refine g_getr (k := 0) (k' := 3) C (by decide) kf_X10_13 rfl rfl dX10_layPaths_45 ?_
      refine g_iload_n C 2 dX10_layPaths_48 rfl rfl ?_
      obtain ⟨hi49, hm⟩ := ifn hm
      refine g_iald C (by decide) hi49 dX10_layPaths_49 ?_
      refine g_iload_n C 2 dX10_layPaths_50 rfl rfl ?_
      obtain ⟨r51, hr51, hm⟩ := bnd_some hm
      refine g_callVv (As := [vI (M.1 22 3 l2.toNatClampNeg), vI l2]) (rest := []) C lk_X10_96 (k_X10_goOn X.2.1 G hl hG fu (M.1 22 3 l2.toNatClampNeg) l2 M r51 hk0 hr51) (by decide) rfl rfl rfl (Nat.le_of_ble_eq_true rfl) ⟨Nat.le_of_ble_eq_true rfl, Nat.le_of_ble_eq_true rfl⟩ dX10_layPaths_51 ?_
      refine g_iinc (ls' := [(2, vI (l2 + (1 : Int32))), (0, vR 10 0), (1, vI l1)]) (v := l2 + (1 : Int32)) C 2 dX10_layPaths_54 rfl (iv_p1 _) (by decide) rfl ?_
      refine g_goto (tgt := 35) C dX10_layPaths_57 (by decide) ?_
      obtain rfl := Option.some.inj hm
      exact g_sub [1, 2, 0] rfl (g_pc rfl (K35.1 (l2 + (1 : Int32)) r51 rfl))
  have J7 : ∀ (l1 : Int32) (M : Mem), f_X10_layPaths_h7 fu   l1 M = some res → GW G X 4 (QX G X (.inl (some (vI res.1))) res.2) 7 [(0, vR 10 0), (1, vI l1)] [] M := by
    intro l1 M hm
    unfold f_X10_layPaths_h7 at hm
    obtain ⟨r7, hL7, hk7⟩ := bnd_some hm
    have hx7 : ∀ (M : Mem), M = r7 → GW G X 4 (QX G X (.inl (some (vI res.1))) res.2) 28 [(0, vR 10 0)] [] M := by
      intro M he
      subst he
      have hm := hk7
      try dsimp only at hm
      refine g_aload_n C 0 dX10_layPaths_28 rfl rfl ?_
      refine g_geti (k := 0) C (by decide) kf_X10_89 rfl dX10_layPaths_29 ?_
      refine g_istore_n (ls' := [(1, vI (M.1 10 0 13)), (0, vR 10 0)]) C dX10_layPaths_32 rfl (by decide) rfl ?_
      refine g_iconst (v := 0) C dX10_layPaths_33 rfl ?_
      refine g_istore_n (ls' := [(2, vI (0 : Int32)), (1, vI (M.1 10 0 13)), (0, vR 10 0)]) C dX10_layPaths_34 rfl (by decide) rfl ?_
      exact g_sub [2, 1, 0] rfl (g_pc rfl (J35 (M.1 10 0 13) (0 : Int32) M hm))
    refine lp_ind1 (P := (fun l1 M => GW G X 4 (QX G X (.inl (some (vI res.1))) res.2) 7 [(0, vR 10 0), (1, vI l1)] [] M)) (r := r7) ?_ fu l1 M hL7
    intro l1 M o7 hm K7
    unfold f_X10_layPaths_b7 at hm
    refine g_iload_n C 1 dX10_layPaths_7 rfl rfl ?_
    refine g_aload_n C 0 dX10_layPaths_8 rfl rfl ?_
    refine g_geti (k := 0) C (by decide) kf_X10_7 rfl dX10_layPaths_9 ?_
    refine g_icmp_ge (tgt := 28) C dX10_layPaths_12 (by decide) (fun h12 => ?_) (fun h12 => ?_)
    · have hm := ift hm h12
      obtain rfl := Option.some.inj hm
      exact g_sub [0] rfl (g_pc rfl (hx7 M (K7.2 _ rfl)))
    · have hm := ife hm h12
      refine g_aload_n C 0 dX10_layPaths_15 rfl rfl ?_
      refine g_iload_n C 1 dX10_layPaths_16 rfl rfl ?_
      refine g_iload_n C 1 dX10_layPaths_17 rfl rfl ?_
      refine g_iconst (v := 0) C dX10_layPaths_18 rfl ?_
      obtain ⟨r19, hr19, hm⟩ := bnd_some hm
      refine g_callVv (As := [vI l1, vI l1, vI (0 : Int32)]) (rest := []) C lk_X10_92 (k_X10_putPath X.2.1 G hl hG fu l1 l1 (0 : Int32) M r19 hk0 hr19) (by decide) rfl rfl rfl (Nat.le_of_ble_eq_true rfl) ⟨Nat.le_of_ble_eq_true rfl, Nat.le_of_ble_eq_true rfl⟩ dX10_layPaths_19 ?_
      refine g_iinc (ls' := [(1, vI (l1 + (1 : Int32))), (0, vR 10 0)]) (v := l1 + (1 : Int32)) C 1 dX10_layPaths_22 rfl (iv_p1 _) (by decide) rfl ?_
      refine g_goto (tgt := 7) C dX10_layPaths_25 (by decide) ?_
      obtain rfl := Option.some.inj hm
      exact g_sub [1, 0] rfl (g_pc rfl (K7.1 (l1 + (1 : Int32)) r19 rfl))
  unfold f_X10_layPaths at hm
  refine g_aload_n C 0 dX10_layPaths_0 rfl rfl ?_
  refine g_iconst (v := 0) C dX10_layPaths_1 rfl ?_
  refine g_puti C (by decide) kf_X10_89 rfl rfl rfl dX10_layPaths_2 ?_
  refine g_iconst (v := 0) C dX10_layPaths_5 rfl ?_
  refine g_istore_n (ls' := [(1, vI (0 : Int32)), (0, vR 10 0)]) C dX10_layPaths_6 rfl (by decide) rfl ?_
  exact g_sub [1, 0] rfl (g_pc rfl (J7 (0 : Int32) (mI M 10 0 13 (0 : Int32)) hm))
def f_X10_fresh_b17 (fu : Nat)   (l2 : Int32) (M : Mem) : Option ((Int32 × Mem) ⊕ (Mem)) :=
  if (8 : Int32) ≤ l2 then some (Sum.inr M) else if inb l2 (alen 22 6) then some (Sum.inl (l2 + (1 : Int32), (mI M 22 6 l2.toNatClampNeg (2 : Int32)))) else none
def f_X10_fresh_h17 (fu : Nat)   (l2 : Int32) (M : Mem) : Option (Mem) :=
  (lp_run (fun s => f_X10_fresh_b17 fu   s.1 s.2) fu (l2, M)).bind (fun M => (f_X10_layPaths fu  M).bind (fun r37 => some r37.2))
def f_X10_fresh (fu : Nat) (l1 : Int32) (M : Mem) : Option (Mem) :=
  f_X10_fresh_h17 fu (0 : Int32) (mI (mI (mI M 10 0 1 l1) 10 0 2 (0 : Int32)) 10 0 7 (0 : Int32))
set_option maxHeartbeats 4000000 in
set_option maxRecDepth 100000 in
theorem k_X10_fresh (l : Launch) (G : GE) (hl : l.stackTraces = false) (hG : GOK G) (fu : Nat) (l1 : Int32) (M : Mem) (res : Mem) (hk0 : (10, 0) ∈ gids G) (hm : f_X10_fresh fu l1 M = some res) : CT l G yX10_fresh cX10_fresh 3 none 3 [vR 10 0, vI l1] M (.inl none) res := by
  refine ct_of [(0, vR 10 0), (1, vI l1)] (by decide +kernel) hl hG (Nat.le_of_ble_eq_true rfl) rfl (List.forall_mem_cons.mpr ⟨Or.inl hk0, List.forall_mem_cons.mpr ⟨trivial, fun _ h => nomatch h⟩⟩) (List.forall_mem_cons.mpr ⟨Or.inl hk0, List.forall_mem_cons.mpr ⟨trivial, fun _ h => nomatch h⟩⟩) (fun X hX C => ?_)
  subst hX
  have Cl := C
  have J17 : ∀ (l2 : Int32) (M : Mem), f_X10_fresh_h17 fu   l2 M = some res → GW G X 3 (QX G X (.inl none) res) 17 [(0, vR 10 0), (2, vI l2)] [] M := by
    intro l2 M hm
    unfold f_X10_fresh_h17 at hm
    obtain ⟨r17, hL17, hk17⟩ := bnd_some hm
    have hx17 : ∀ (M : Mem), M = r17 → GW G X 3 (QX G X (.inl none) res) 36 [(0, vR 10 0)] [] M := by
      intro M he
      subst he
      have hm := hk17
      try dsimp only at hm
      refine g_aload_n C 0 dX10_fresh_36 rfl rfl ?_
      obtain ⟨r37, hr37, hm⟩ := bnd_some hm
      refine g_callVi (As := []) (rest := []) C lk_X10_85 (k_X10_layPaths X.2.1 G hl hG fu  M r37 hk0 hr37) (by decide) rfl rfl rfl (Nat.le_of_ble_eq_true rfl) ⟨Nat.le_of_ble_eq_true rfl, Nat.le_of_ble_eq_true rfl⟩ dX10_fresh_37 ?_
      refine g_pop C dX10_fresh_40 rfl ?_
      obtain rfl := Option.some.inj hm
      exact g_vret C dX10_fresh_41
    refine lp_ind1 (P := (fun l2 M => GW G X 3 (QX G X (.inl none) res) 17 [(0, vR 10 0), (2, vI l2)] [] M)) (r := r17) ?_ fu l2 M hL17
    intro l2 M o17 hm K17
    unfold f_X10_fresh_b17 at hm
    refine g_iload_n C 1 dX10_fresh_17 rfl rfl ?_
    refine g_bipush (v := 8) C dX10_fresh_18 rfl ?_
    refine g_icmp_ge (tgt := 36) C dX10_fresh_20 (by decide) (fun h20 => ?_) (fun h20 => ?_)
    · have hm := ift hm h20
      obtain rfl := Option.some.inj hm
      exact g_sub [0] rfl (g_pc rfl (hx17 M (K17.2 _ rfl)))
    · have hm := ife hm h20
      refine g_aload_n C 0 dX10_fresh_23 rfl rfl ?_
      refine g_getr (k := 0) (k' := 6) C (by decide) kf_X10_23 rfl rfl dX10_fresh_24 ?_
      refine g_iload_n C 1 dX10_fresh_27 rfl rfl ?_
      refine g_iconst (v := 2) C dX10_fresh_28 rfl ?_
      obtain ⟨hi29, hm⟩ := ifn hm
      refine g_iast C (by decide) hi29 dX10_fresh_29 ?_
      refine g_iinc (ls' := [(2, vI (l2 + (1 : Int32))), (0, vR 10 0)]) (v := l2 + (1 : Int32)) C 1 dX10_fresh_30 rfl (iv_p1 _) (by decide) rfl ?_
      refine g_goto (tgt := 17) C dX10_fresh_33 (by decide) ?_
      obtain rfl := Option.some.inj hm
      exact g_sub [1, 0] rfl (g_pc rfl (K17.1 (l2 + (1 : Int32)) (mI M 22 6 l2.toNatClampNeg (2 : Int32)) rfl))
  unfold f_X10_fresh at hm
  refine g_aload_n C 0 dX10_fresh_0 rfl rfl ?_
  refine g_iload_n C 1 dX10_fresh_1 rfl rfl ?_
  refine g_puti C (by decide) kf_X10_7 rfl rfl rfl dX10_fresh_2 ?_
  refine g_aload_n C 0 dX10_fresh_5 rfl rfl ?_
  refine g_iconst (v := 0) C dX10_fresh_6 rfl ?_
  refine g_puti C (by decide) kf_X10_79 rfl rfl rfl dX10_fresh_7 ?_
  refine g_aload_n C 0 dX10_fresh_10 rfl rfl ?_
  refine g_iconst (v := 0) C dX10_fresh_11 rfl ?_
  refine g_puti C (by decide) kf_X10_82 rfl rfl rfl dX10_fresh_12 ?_
  refine g_iconst (v := 0) C dX10_fresh_15 rfl ?_
  refine g_istore_n (ls' := [(2, vI (0 : Int32)), (0, vR 10 0), (1, vI l1)]) C dX10_fresh_16 rfl (by decide) rfl ?_
  exact g_sub [1, 0] rfl (g_pc rfl (J17 (0 : Int32) (mI (mI (mI M 10 0 1 l1) 10 0 2 (0 : Int32)) 10 0 7 (0 : Int32)) hm))
/-! The law's wrappers (methods with handlers), and calls of them. -/
section WRAP
variable {tb : Bool} {G : GE} {own : String} {cc : ByteArray} {nL : Nat} {ret : Option FieldType} {rm : Room} {X : PX} {Q : State → Prop} {pc : Nat} {ls : List (Nat × AV)} {st : List AV} {M : Mem}
/-! the law's own calls -/
def bump (X : PX) (a b : Nat) : PX := (X.1, X.2.1, X.2.2.1, X.2.2.2.1, X.2.2.2.2.1, X.2.2.2.2.2.1, X.2.2.2.2.2.2.1, X.2.2.2.2.2.2.2.1, X.2.2.2.2.2.2.2.2.1, X.2.2.2.2.2.2.2.2.2.1, a, b)
end WRAP

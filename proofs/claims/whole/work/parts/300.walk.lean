/-! models and contracts, by program (wip/whole/emit.py): X0_clear, X8_get, X8_copyFrom, X3_copyFrom, X0_become, X0_total, X8_set, X0_open, X3_set, X0_lengthen, X3_get, X0_move, X0_remove, X0_occurs, X0_removeAllWith, X0_renumber, X0_pathOf, X8_fill, X1_clear, X1_become, X1_size, X1_resize, X1_code, X1_setCode, X1_digit, X1_value, X1_valueAlong, J6_bitCount_0f7a4, X1_imageSize, X1_agree, X1_choose, X1_isCode, X2_clear, X2_become, X2_objectTotal, X2_arrowTotal, X2_hasObject, X2_hasArrow, X2_from -/
def f_X0_clear (fu : Nat) (k0 : Nat) (M : Mem) : Option (Mem) :=
  some (mI M 0 k0 0 (0 : Int32))
set_option maxHeartbeats 4000000 in
set_option maxRecDepth 100000 in
theorem k_X0_clear (l : Launch) (G : GE) (hl : l.stackTraces = false) (hG : GOK G) (fu : Nat) (k0 : Nat) (M : Mem) (res : Mem) (hk0 : (0, k0) ∈ gids G) (hm : f_X0_clear fu k0 M = some res) : CT l G yX0_clear cX0_clear 1 none 0 [vR 0 k0] M (.inl none) res := by
  refine ct_of [(0, vR 0 k0)] (by decide +kernel) hl hG (Nat.le_of_ble_eq_true rfl) rfl (List.forall_mem_cons.mpr ⟨Or.inl hk0, fun _ h => nomatch h⟩) (List.forall_mem_cons.mpr ⟨Or.inl hk0, fun _ h => nomatch h⟩) (fun X hX C => ?_)
  subst hX
  have Cl := C
  unfold f_X0_clear at hm
  refine g_aload_n C 0 dX0_clear_0 rfl rfl ?_
  refine g_iconst (v := 0) C dX0_clear_1 rfl ?_
  refine g_puti C (by decide) kf_X0_9 rfl rfl rfl dX0_clear_2 ?_
  obtain rfl := Option.some.inj hm
  exact g_vret C dX0_clear_5
def f_X8_get (fu : Nat) (k0 : Nat) (l1 : Int32) (M : Mem) : Option (Int32 × Mem) :=
  if l1 < 0 then some ((-1 : Int32), M) else if (nI (alen 20 k0)) ≤ l1 then some ((-1 : Int32), M) else if inb l1 (alen 20 k0) then some (M.1 20 k0 l1.toNatClampNeg, M) else none
set_option maxHeartbeats 4000000 in
set_option maxRecDepth 100000 in
theorem k_X8_get (l : Launch) (G : GE) (hl : l.stackTraces = false) (hG : GOK G) (fu : Nat) (k0 : Nat) (l1 : Int32) (M : Mem) (res : Int32 × Mem) (hk0 : (8, k0) ∈ gids G) (hm : f_X8_get fu k0 l1 M = some res) : CT l G yX8_get cX8_get 2 (some .int) 0 [vR 8 k0, vI l1] M (.inl (some (vI res.1))) res.2 := by
  refine ct_of [(0, vR 8 k0), (1, vI l1)] (by decide +kernel) hl hG (Nat.le_of_ble_eq_true rfl) rfl (List.forall_mem_cons.mpr ⟨Or.inl hk0, List.forall_mem_cons.mpr ⟨trivial, fun _ h => nomatch h⟩⟩) (List.forall_mem_cons.mpr ⟨Or.inl hk0, List.forall_mem_cons.mpr ⟨trivial, fun _ h => nomatch h⟩⟩) (fun X hX C => ?_)
  subst hX
  have Cl := C
  unfold f_X8_get at hm
  refine g_iload_n C 1 dX8_get_0 rfl rfl ?_
  refine g_if_lt (tgt := 22) C dX8_get_1 (by decide) (fun h1 => ?_) (fun h1 => ?_)
  · have hm := ift hm h1
    refine g_iconst (v := -1) C dX8_get_22 rfl ?_
    obtain rfl := Option.some.inj hm
    exact g_iret C dX8_get_23
  · have hm := ife hm h1
    refine g_iload_n C 1 dX8_get_4 rfl rfl ?_
    refine g_aload_n C 0 dX8_get_5 rfl rfl ?_
    refine g_getr (k := k0) (k' := k0) C (by decide) kf_X8_9 rfl rfl dX8_get_6 ?_
    refine g_alen C (by decide) dX8_get_9 ?_
    refine g_icmp_ge (tgt := 22) C dX8_get_10 (by decide) (fun h10 => ?_) (fun h10 => ?_)
    · have hm := ift hm h10
      refine g_iconst (v := -1) C dX8_get_22 rfl ?_
      obtain rfl := Option.some.inj hm
      exact g_iret C dX8_get_23
    · have hm := ife hm h10
      refine g_aload_n C 0 dX8_get_13 rfl rfl ?_
      refine g_getr (k := k0) (k' := k0) C (by decide) kf_X8_9 rfl rfl dX8_get_14 ?_
      refine g_iload_n C 1 dX8_get_17 rfl rfl ?_
      obtain ⟨hi18, hm⟩ := ifn hm
      refine g_iald C (by decide) hi18 dX8_get_18 ?_
      refine g_goto (tgt := 23) C dX8_get_19 (by decide) ?_
      obtain rfl := Option.some.inj hm
      exact g_iret C dX8_get_23
def f_X8_copyFrom_b2 (fu : Nat) (k0 : Nat) (k1 : Nat)  (l2 : Int32) (M : Mem) : Option ((Int32 × Mem) ⊕ (Mem)) :=
  if (nI (alen 20 k0)) ≤ l2 then some (Sum.inr M) else (f_X8_get fu k1 l2 M).bind (fun r18 => if inb l2 (alen 20 k0) then some (Sum.inl (l2 + (1 : Int32), (mI r18.2 20 k0 l2.toNatClampNeg r18.1))) else none)
def f_X8_copyFrom_h2 (fu : Nat) (k0 : Nat) (k1 : Nat)  (l2 : Int32) (M : Mem) : Option (Mem) :=
  (lp_run (fun s => f_X8_copyFrom_b2 fu k0 k1  s.1 s.2) fu (l2, M)).bind (fun M => some M)
def f_X8_copyFrom (fu : Nat) (k0 : Nat) (k1 : Nat) (M : Mem) : Option (Mem) :=
  f_X8_copyFrom_h2 fu k0 k1 (0 : Int32) M
set_option maxHeartbeats 4000000 in
set_option maxRecDepth 100000 in
theorem k_X8_copyFrom (l : Launch) (G : GE) (hl : l.stackTraces = false) (hG : GOK G) (fu : Nat) (k0 : Nat) (k1 : Nat) (M : Mem) (res : Mem) (hk0 : (8, k0) ∈ gids G) (hk1 : (8, k1) ∈ gids G) (hm : f_X8_copyFrom fu k0 k1 M = some res) : CT l G yX8_copyFrom cX8_copyFrom 3 none 1 [vR 8 k0, vR 8 k1] M (.inl none) res := by
  refine ct_of [(0, vR 8 k0), (1, vR 8 k1)] (by decide +kernel) hl hG (Nat.le_of_ble_eq_true rfl) rfl (List.forall_mem_cons.mpr ⟨Or.inl hk0, List.forall_mem_cons.mpr ⟨Or.inl hk1, fun _ h => nomatch h⟩⟩) (List.forall_mem_cons.mpr ⟨Or.inl hk0, List.forall_mem_cons.mpr ⟨Or.inl hk1, fun _ h => nomatch h⟩⟩) (fun X hX C => ?_)
  subst hX
  have Cl := C
  have J2 : ∀ (l2 : Int32) (M : Mem), f_X8_copyFrom_h2 fu k0 k1  l2 M = some res → GW G X 3 (QX G X (.inl none) res) 2 [(0, vR 8 k0), (1, vR 8 k1), (2, vI l2)] [] M := by
    intro l2 M hm
    unfold f_X8_copyFrom_h2 at hm
    obtain ⟨r2, hL2, hk2⟩ := bnd_some hm
    have hx2 : ∀ (M : Mem), M = r2 → GW G X 3 (QX G X (.inl none) res) 28 [] [] M := by
      intro M he
      subst he
      have hm := hk2
      try dsimp only at hm
      obtain rfl := Option.some.inj hm
      exact g_vret C dX8_copyFrom_28
    refine lp_ind1 (P := (fun l2 M => GW G X 3 (QX G X (.inl none) res) 2 [(0, vR 8 k0), (1, vR 8 k1), (2, vI l2)] [] M)) (r := r2) ?_ fu l2 M hL2
    intro l2 M o2 hm K2
    unfold f_X8_copyFrom_b2 at hm
    refine g_iload_n C 2 dX8_copyFrom_2 rfl rfl ?_
    refine g_aload_n C 0 dX8_copyFrom_3 rfl rfl ?_
    refine g_getr (k := k0) (k' := k0) C (by decide) kf_X8_9 rfl rfl dX8_copyFrom_4 ?_
    refine g_alen C (by decide) dX8_copyFrom_7 ?_
    refine g_icmp_ge (tgt := 28) C dX8_copyFrom_8 (by decide) (fun h8 => ?_) (fun h8 => ?_)
    · have hm := ift hm h8
      obtain rfl := Option.some.inj hm
      exact g_sub [] rfl (g_pc rfl (hx2 M (K2.2 _ rfl)))
    · have hm := ife hm h8
      refine g_aload_n C 0 dX8_copyFrom_11 rfl rfl ?_
      refine g_getr (k := k0) (k' := k0) C (by decide) kf_X8_9 rfl rfl dX8_copyFrom_12 ?_
      refine g_iload_n C 2 dX8_copyFrom_15 rfl rfl ?_
      refine g_aload_n C 1 dX8_copyFrom_16 rfl rfl ?_
      refine g_iload_n C 2 dX8_copyFrom_17 rfl rfl ?_
      obtain ⟨r18, hr18, hm⟩ := bnd_some hm
      refine g_callVi (As := [vI l2]) (rest := [vI l2, vR 20 k0]) C lk_X8_15 (k_X8_get X.2.1 G hl hG fu k1 l2 M r18 hk1 hr18) (by decide) rfl rfl rfl (Nat.le_of_ble_eq_true rfl) ⟨Nat.le_of_ble_eq_true rfl, Nat.le_of_ble_eq_true rfl⟩ dX8_copyFrom_18 ?_
      obtain ⟨hi21, hm⟩ := ifn hm
      refine g_iast C (by decide) hi21 dX8_copyFrom_21 ?_
      refine g_iinc (ls' := [(2, vI (l2 + (1 : Int32))), (0, vR 8 k0), (1, vR 8 k1)]) (v := l2 + (1 : Int32)) C 2 dX8_copyFrom_22 rfl (iv_p1 _) (by decide) rfl ?_
      refine g_goto (tgt := 2) C dX8_copyFrom_25 (by decide) ?_
      obtain rfl := Option.some.inj hm
      exact g_sub [1, 2, 0] rfl (g_pc rfl (K2.1 (l2 + (1 : Int32)) (mI r18.2 20 k0 l2.toNatClampNeg r18.1) rfl))
  unfold f_X8_copyFrom at hm
  refine g_iconst (v := 0) C dX8_copyFrom_0 rfl ?_
  refine g_istore_n (ls' := [(2, vI (0 : Int32)), (0, vR 8 k0), (1, vR 8 k1)]) C dX8_copyFrom_1 rfl (by decide) rfl ?_
  exact g_sub [1, 2, 0] rfl (g_pc rfl (J2 (0 : Int32) M hm))
def f_X3_copyFrom_b2 (fu : Nat) (k0 : Nat) (k1 : Nat)  (l2 : Int32) (M : Mem) : Option ((Int32 × Mem) ⊕ (Mem)) :=
  if (nI (alen 21 k0)) ≤ l2 then some (Sum.inr M) else if (nI (alen 21 k1)) ≤ l2 then some (Sum.inr M) else if inb l2 (alen 21 k1) then if inb l2 (alen 21 k0) then some (Sum.inl (l2 + (1 : Int32), (mI M 21 k0 l2.toNatClampNeg (M.1 21 k1 l2.toNatClampNeg)))) else none else none
def f_X3_copyFrom_h2 (fu : Nat) (k0 : Nat) (k1 : Nat)  (l2 : Int32) (M : Mem) : Option (Mem) :=
  (lp_run (fun s => f_X3_copyFrom_b2 fu k0 k1  s.1 s.2) fu (l2, M)).bind (fun M => some M)
def f_X3_copyFrom (fu : Nat) (k0 : Nat) (k1 : Nat) (M : Mem) : Option (Mem) :=
  f_X3_copyFrom_h2 fu k0 k1 (0 : Int32) M
set_option maxHeartbeats 4000000 in
set_option maxRecDepth 100000 in
theorem k_X3_copyFrom (l : Launch) (G : GE) (hl : l.stackTraces = false) (hG : GOK G) (fu : Nat) (k0 : Nat) (k1 : Nat) (M : Mem) (res : Mem) (hk0 : (3, k0) ∈ gids G) (hk1 : (3, k1) ∈ gids G) (hm : f_X3_copyFrom fu k0 k1 M = some res) : CT l G yX3_copyFrom cX3_copyFrom 3 none 0 [vR 3 k0, vR 3 k1] M (.inl none) res := by
  refine ct_of [(0, vR 3 k0), (1, vR 3 k1)] (by decide +kernel) hl hG (Nat.le_of_ble_eq_true rfl) rfl (List.forall_mem_cons.mpr ⟨Or.inl hk0, List.forall_mem_cons.mpr ⟨Or.inl hk1, fun _ h => nomatch h⟩⟩) (List.forall_mem_cons.mpr ⟨Or.inl hk0, List.forall_mem_cons.mpr ⟨Or.inl hk1, fun _ h => nomatch h⟩⟩) (fun X hX C => ?_)
  subst hX
  have Cl := C
  have J2 : ∀ (l2 : Int32) (M : Mem), f_X3_copyFrom_h2 fu k0 k1  l2 M = some res → GW G X 3 (QX G X (.inl none) res) 2 [(0, vR 3 k0), (1, vR 3 k1), (2, vI l2)] [] M := by
    intro l2 M hm
    unfold f_X3_copyFrom_h2 at hm
    obtain ⟨r2, hL2, hk2⟩ := bnd_some hm
    have hx2 : ∀ (M : Mem), M = r2 → GW G X 3 (QX G X (.inl none) res) 38 [] [] M := by
      intro M he
      subst he
      have hm := hk2
      try dsimp only at hm
      obtain rfl := Option.some.inj hm
      exact g_vret C dX3_copyFrom_38
    refine lp_ind1 (P := (fun l2 M => GW G X 3 (QX G X (.inl none) res) 2 [(0, vR 3 k0), (1, vR 3 k1), (2, vI l2)] [] M)) (r := r2) ?_ fu l2 M hL2
    intro l2 M o2 hm K2
    unfold f_X3_copyFrom_b2 at hm
    refine g_iload_n C 2 dX3_copyFrom_2 rfl rfl ?_
    refine g_aload_n C 0 dX3_copyFrom_3 rfl rfl ?_
    refine g_getr (k := k0) (k' := k0) C (by decide) kf_X3_18 rfl rfl dX3_copyFrom_4 ?_
    refine g_alen C (by decide) dX3_copyFrom_7 ?_
    refine g_icmp_ge (tgt := 38) C dX3_copyFrom_8 (by decide) (fun h8 => ?_) (fun h8 => ?_)
    · have hm := ift hm h8
      obtain rfl := Option.some.inj hm
      exact g_sub [] rfl (g_pc rfl (hx2 M (K2.2 _ rfl)))
    · have hm := ife hm h8
      refine g_iload_n C 2 dX3_copyFrom_11 rfl rfl ?_
      refine g_aload_n C 1 dX3_copyFrom_12 rfl rfl ?_
      refine g_getr (k := k1) (k' := k1) C (by decide) kf_X3_18 rfl rfl dX3_copyFrom_13 ?_
      refine g_alen C (by decide) dX3_copyFrom_16 ?_
      refine g_icmp_ge (tgt := 38) C dX3_copyFrom_17 (by decide) (fun h17 => ?_) (fun h17 => ?_)
      · have hm := ift hm h17
        obtain rfl := Option.some.inj hm
        exact g_sub [] rfl (g_pc rfl (hx2 M (K2.2 _ rfl)))
      · have hm := ife hm h17
        refine g_aload_n C 0 dX3_copyFrom_20 rfl rfl ?_
        refine g_getr (k := k0) (k' := k0) C (by decide) kf_X3_18 rfl rfl dX3_copyFrom_21 ?_
        refine g_iload_n C 2 dX3_copyFrom_24 rfl rfl ?_
        refine g_aload_n C 1 dX3_copyFrom_25 rfl rfl ?_
        refine g_getr (k := k1) (k' := k1) C (by decide) kf_X3_18 rfl rfl dX3_copyFrom_26 ?_
        refine g_iload_n C 2 dX3_copyFrom_29 rfl rfl ?_
        obtain ⟨hi30, hm⟩ := ifn hm
        refine g_iald C (by decide) hi30 dX3_copyFrom_30 ?_
        obtain ⟨hi31, hm⟩ := ifn hm
        refine g_iast C (by decide) hi31 dX3_copyFrom_31 ?_
        refine g_iinc (ls' := [(2, vI (l2 + (1 : Int32))), (0, vR 3 k0), (1, vR 3 k1)]) (v := l2 + (1 : Int32)) C 2 dX3_copyFrom_32 rfl (iv_p1 _) (by decide) rfl ?_
        refine g_goto (tgt := 2) C dX3_copyFrom_35 (by decide) ?_
        obtain rfl := Option.some.inj hm
        exact g_sub [1, 2, 0] rfl (g_pc rfl (K2.1 (l2 + (1 : Int32)) (mI M 21 k0 l2.toNatClampNeg (M.1 21 k1 l2.toNatClampNeg)) rfl))
  unfold f_X3_copyFrom at hm
  refine g_iconst (v := 0) C dX3_copyFrom_0 rfl ?_
  refine g_istore_n (ls' := [(2, vI (0 : Int32)), (0, vR 3 k0), (1, vR 3 k1)]) C dX3_copyFrom_1 rfl (by decide) rfl ?_
  exact g_sub [1, 2, 0] rfl (g_pc rfl (J2 (0 : Int32) M hm))
def f_X0_become (fu : Nat) (k0 : Nat) (k1 : Nat) (M : Mem) : Option (Mem) :=
  (f_X8_copyFrom fu (3 * k0 + 6) (3 * k1 + 6) (mI M 0 k0 0 (M.1 0 k1 0))).bind (fun r16 => (f_X8_copyFrom fu (3 * k0 + 7) (3 * k1 + 7) r16).bind (fun r27 => (f_X3_copyFrom fu k0 k1 r27).bind (fun r38 => some r38)))
set_option maxHeartbeats 4000000 in
set_option maxRecDepth 100000 in
theorem k_X0_become (l : Launch) (G : GE) (hl : l.stackTraces = false) (hG : GOK G) (fu : Nat) (k0 : Nat) (k1 : Nat) (M : Mem) (res : Mem) (hk0 : (0, k0) ∈ gids G) (hk1 : (0, k1) ∈ gids G) (hm : f_X0_become fu k0 k1 M = some res) : CT l G yX0_become cX0_become 2 none 2 [vR 0 k0, vR 0 k1] M (.inl none) res := by
  refine ct_of [(0, vR 0 k0), (1, vR 0 k1)] (by decide +kernel) hl hG (Nat.le_of_ble_eq_true rfl) rfl (List.forall_mem_cons.mpr ⟨Or.inl hk0, List.forall_mem_cons.mpr ⟨Or.inl hk1, fun _ h => nomatch h⟩⟩) (List.forall_mem_cons.mpr ⟨Or.inl hk0, List.forall_mem_cons.mpr ⟨Or.inl hk1, fun _ h => nomatch h⟩⟩) (fun X hX C => ?_)
  subst hX
  have Cl := C
  unfold f_X0_become at hm
  refine g_aload_n C 0 dX0_become_0 rfl rfl ?_
  refine g_aload_n C 1 dX0_become_1 rfl rfl ?_
  refine g_geti (k := k1) C (by decide) kf_X0_9 rfl dX0_become_2 ?_
  refine g_puti C (by decide) kf_X0_9 rfl rfl rfl dX0_become_5 ?_
  refine g_aload_n C 0 dX0_become_8 rfl rfl ?_
  refine g_getr (k := k0) (k' := (3 * k0 + 6)) C (by decide) kf_X0_20 rfl rfl dX0_become_9 ?_
  refine g_aload_n C 1 dX0_become_12 rfl rfl ?_
  refine g_getr (k := k1) (k' := (3 * k1 + 6)) C (by decide) kf_X0_20 rfl rfl dX0_become_13 ?_
  obtain ⟨r16, hr16, hm⟩ := bnd_some hm
  refine g_callVv (As := [vR 8 (3 * k1 + 6)]) (rest := []) C lk_X0_39 (k_X8_copyFrom X.2.1 G hl hG fu (3 * k0 + 6) (3 * k1 + 6) (mI M 0 k0 0 (M.1 0 k1 0)) r16 ((hG _ hk0).2 1 8 6 3 rfl) ((hG _ hk1).2 1 8 6 3 rfl) hr16) (by decide) rfl rfl rfl (Nat.le_of_ble_eq_true rfl) ⟨Nat.le_of_ble_eq_true rfl, Nat.le_of_ble_eq_true rfl⟩ dX0_become_16 ?_
  refine g_aload_n C 0 dX0_become_19 rfl rfl ?_
  refine g_getr (k := k0) (k' := (3 * k0 + 7)) C (by decide) kf_X0_24 rfl rfl dX0_become_20 ?_
  refine g_aload_n C 1 dX0_become_23 rfl rfl ?_
  refine g_getr (k := k1) (k' := (3 * k1 + 7)) C (by decide) kf_X0_24 rfl rfl dX0_become_24 ?_
  obtain ⟨r27, hr27, hm⟩ := bnd_some hm
  refine g_callVv (As := [vR 8 (3 * k1 + 7)]) (rest := []) C lk_X0_39 (k_X8_copyFrom X.2.1 G hl hG fu (3 * k0 + 7) (3 * k1 + 7) r16 r27 ((hG _ hk0).2 2 8 7 3 rfl) ((hG _ hk1).2 2 8 7 3 rfl) hr27) (by decide) rfl rfl rfl (Nat.le_of_ble_eq_true rfl) ⟨Nat.le_of_ble_eq_true rfl, Nat.le_of_ble_eq_true rfl⟩ dX0_become_27 ?_
  refine g_aload_n C 0 dX0_become_30 rfl rfl ?_
  refine g_getr (k := k0) (k' := k0) C (by decide) kf_X0_32 rfl rfl dX0_become_31 ?_
  refine g_aload_n C 1 dX0_become_34 rfl rfl ?_
  refine g_getr (k := k1) (k' := k1) C (by decide) kf_X0_32 rfl rfl dX0_become_35 ?_
  obtain ⟨r38, hr38, hm⟩ := bnd_some hm
  refine g_callVv (As := [vR 3 k1]) (rest := []) C lk_X0_43 (k_X3_copyFrom X.2.1 G hl hG fu k0 k1 r27 r38 ((hG _ hk0).2 3 3 0 1 rfl) ((hG _ hk1).2 3 3 0 1 rfl) hr38) (by decide) rfl rfl rfl (Nat.le_of_ble_eq_true rfl) ⟨Nat.le_of_ble_eq_true rfl, Nat.le_of_ble_eq_true rfl⟩ dX0_become_38 ?_
  obtain rfl := Option.some.inj hm
  exact g_vret C dX0_become_41
def f_X0_total (fu : Nat) (k0 : Nat) (M : Mem) : Option (Int32 × Mem) :=
  some (M.1 0 k0 0, M)
set_option maxHeartbeats 4000000 in
set_option maxRecDepth 100000 in
theorem k_X0_total (l : Launch) (G : GE) (hl : l.stackTraces = false) (hG : GOK G) (fu : Nat) (k0 : Nat) (M : Mem) (res : Int32 × Mem) (hk0 : (0, k0) ∈ gids G) (hm : f_X0_total fu k0 M = some res) : CT l G yX0_total cX0_total 1 (some .int) 0 [vR 0 k0] M (.inl (some (vI res.1))) res.2 := by
  refine ct_of [(0, vR 0 k0)] (by decide +kernel) hl hG (Nat.le_of_ble_eq_true rfl) rfl (List.forall_mem_cons.mpr ⟨Or.inl hk0, fun _ h => nomatch h⟩) (List.forall_mem_cons.mpr ⟨Or.inl hk0, fun _ h => nomatch h⟩) (fun X hX C => ?_)
  subst hX
  have Cl := C
  unfold f_X0_total at hm
  refine g_aload_n C 0 dX0_total_0 rfl rfl ?_
  refine g_geti (k := k0) C (by decide) kf_X0_9 rfl dX0_total_1 ?_
  obtain rfl := Option.some.inj hm
  exact g_iret C dX0_total_4
def f_X8_set (fu : Nat) (k0 : Nat) (l1 : Int32) (l2 : Int32) (M : Mem) : Option (Mem) :=
  if l1 < 0 then some M else if (nI (alen 20 k0)) ≤ l1 then some M else if inb l1 (alen 20 k0) then some (mI M 20 k0 l1.toNatClampNeg l2) else none
set_option maxHeartbeats 4000000 in
set_option maxRecDepth 100000 in
theorem k_X8_set (l : Launch) (G : GE) (hl : l.stackTraces = false) (hG : GOK G) (fu : Nat) (k0 : Nat) (l1 : Int32) (l2 : Int32) (M : Mem) (res : Mem) (hk0 : (8, k0) ∈ gids G) (hm : f_X8_set fu k0 l1 l2 M = some res) : CT l G yX8_set cX8_set 3 none 0 [vR 8 k0, vI l1, vI l2] M (.inl none) res := by
  refine ct_of [(0, vR 8 k0), (1, vI l1), (2, vI l2)] (by decide +kernel) hl hG (Nat.le_of_ble_eq_true rfl) rfl (List.forall_mem_cons.mpr ⟨Or.inl hk0, List.forall_mem_cons.mpr ⟨trivial, List.forall_mem_cons.mpr ⟨trivial, fun _ h => nomatch h⟩⟩⟩) (List.forall_mem_cons.mpr ⟨Or.inl hk0, List.forall_mem_cons.mpr ⟨trivial, List.forall_mem_cons.mpr ⟨trivial, fun _ h => nomatch h⟩⟩⟩) (fun X hX C => ?_)
  subst hX
  have Cl := C
  unfold f_X8_set at hm
  refine g_iload_n C 1 dX8_set_0 rfl rfl ?_
  refine g_if_lt (tgt := 20) C dX8_set_1 (by decide) (fun h1 => ?_) (fun h1 => ?_)
  · have hm := ift hm h1
    obtain rfl := Option.some.inj hm
    exact g_vret C dX8_set_20
  · have hm := ife hm h1
    refine g_iload_n C 1 dX8_set_4 rfl rfl ?_
    refine g_aload_n C 0 dX8_set_5 rfl rfl ?_
    refine g_getr (k := k0) (k' := k0) C (by decide) kf_X8_9 rfl rfl dX8_set_6 ?_
    refine g_alen C (by decide) dX8_set_9 ?_
    refine g_icmp_ge (tgt := 20) C dX8_set_10 (by decide) (fun h10 => ?_) (fun h10 => ?_)
    · have hm := ift hm h10
      obtain rfl := Option.some.inj hm
      exact g_vret C dX8_set_20
    · have hm := ife hm h10
      refine g_aload_n C 0 dX8_set_13 rfl rfl ?_
      refine g_getr (k := k0) (k' := k0) C (by decide) kf_X8_9 rfl rfl dX8_set_14 ?_
      refine g_iload_n C 1 dX8_set_17 rfl rfl ?_
      refine g_iload_n C 2 dX8_set_18 rfl rfl ?_
      obtain ⟨hi19, hm⟩ := ifn hm
      refine g_iast C (by decide) hi19 dX8_set_19 ?_
      obtain rfl := Option.some.inj hm
      exact g_vret C dX8_set_20
def f_X0_open (fu : Nat) (k0 : Nat) (l1 : Int32) (M : Mem) : Option (Int32 × Mem) :=
  (f_X8_set fu (3 * k0 + 6) (M.1 0 k0 0) l1 M).bind (fun r9 => (f_X8_set fu (3 * k0 + 7) ((2 : Int32) * (r9.1 0 k0 0)) (0 : Int32) r9).bind (fun r23 => (f_X8_set fu (3 * k0 + 7) (((2 : Int32) * (r23.1 0 k0 0)) + (1 : Int32)) (0 : Int32) r23).bind (fun r39 => some (((mI r39 0 k0 0 ((r39.1 0 k0 0) + (1 : Int32))).1 0 k0 0) - (1 : Int32), (mI r39 0 k0 0 ((r39.1 0 k0 0) + (1 : Int32)))))))
set_option maxHeartbeats 4000000 in
set_option maxRecDepth 100000 in
theorem k_X0_open (l : Launch) (G : GE) (hl : l.stackTraces = false) (hG : GOK G) (fu : Nat) (k0 : Nat) (l1 : Int32) (M : Mem) (res : Int32 × Mem) (hk0 : (0, k0) ∈ gids G) (hm : f_X0_open fu k0 l1 M = some res) : CT l G yX0_open cX0_open 2 (some .int) 1 [vR 0 k0, vI l1] M (.inl (some (vI res.1))) res.2 := by
  refine ct_of [(0, vR 0 k0), (1, vI l1)] (by decide +kernel) hl hG (Nat.le_of_ble_eq_true rfl) rfl (List.forall_mem_cons.mpr ⟨Or.inl hk0, List.forall_mem_cons.mpr ⟨trivial, fun _ h => nomatch h⟩⟩) (List.forall_mem_cons.mpr ⟨Or.inl hk0, List.forall_mem_cons.mpr ⟨trivial, fun _ h => nomatch h⟩⟩) (fun X hX C => ?_)
  subst hX
  have Cl := C
  unfold f_X0_open at hm
  refine g_aload_n C 0 dX0_open_0 rfl rfl ?_
  refine g_getr (k := k0) (k' := (3 * k0 + 6)) C (by decide) kf_X0_20 rfl rfl dX0_open_1 ?_
  refine g_aload_n C 0 dX0_open_4 rfl rfl ?_
  refine g_geti (k := k0) C (by decide) kf_X0_9 rfl dX0_open_5 ?_
  refine g_iload_n C 1 dX0_open_8 rfl rfl ?_
  obtain ⟨r9, hr9, hm⟩ := bnd_some hm
  refine g_callVv (As := [vI (M.1 0 k0 0), vI l1]) (rest := []) C lk_X0_46 (k_X8_set X.2.1 G hl hG fu (3 * k0 + 6) (M.1 0 k0 0) l1 M r9 ((hG _ hk0).2 1 8 6 3 rfl) hr9) (by decide) rfl rfl rfl (Nat.le_of_ble_eq_true rfl) ⟨Nat.le_of_ble_eq_true rfl, Nat.le_of_ble_eq_true rfl⟩ dX0_open_9 ?_
  refine g_aload_n C 0 dX0_open_12 rfl rfl ?_
  refine g_getr (k := k0) (k' := (3 * k0 + 7)) C (by decide) kf_X0_24 rfl rfl dX0_open_13 ?_
  refine g_iconst (v := 2) C dX0_open_16 rfl ?_
  refine g_aload_n C 0 dX0_open_17 rfl rfl ?_
  refine g_geti (k := k0) C (by decide) kf_X0_9 rfl dX0_open_18 ?_
  refine g_imul C dX0_open_21 ?_
  refine g_iconst (v := 0) C dX0_open_22 rfl ?_
  obtain ⟨r23, hr23, hm⟩ := bnd_some hm
  refine g_callVv (As := [vI ((2 : Int32) * (r9.1 0 k0 0)), vI (0 : Int32)]) (rest := []) C lk_X0_46 (k_X8_set X.2.1 G hl hG fu (3 * k0 + 7) ((2 : Int32) * (r9.1 0 k0 0)) (0 : Int32) r9 r23 ((hG _ hk0).2 2 8 7 3 rfl) hr23) (by decide) rfl rfl rfl (Nat.le_of_ble_eq_true rfl) ⟨Nat.le_of_ble_eq_true rfl, Nat.le_of_ble_eq_true rfl⟩ dX0_open_23 ?_
  refine g_aload_n C 0 dX0_open_26 rfl rfl ?_
  refine g_getr (k := k0) (k' := (3 * k0 + 7)) C (by decide) kf_X0_24 rfl rfl dX0_open_27 ?_
  refine g_iconst (v := 2) C dX0_open_30 rfl ?_
  refine g_aload_n C 0 dX0_open_31 rfl rfl ?_
  refine g_geti (k := k0) C (by decide) kf_X0_9 rfl dX0_open_32 ?_
  refine g_imul C dX0_open_35 ?_
  refine g_iconst (v := 1) C dX0_open_36 rfl ?_
  refine g_iadd C dX0_open_37 ?_
  refine g_iconst (v := 0) C dX0_open_38 rfl ?_
  obtain ⟨r39, hr39, hm⟩ := bnd_some hm
  refine g_callVv (As := [vI (((2 : Int32) * (r23.1 0 k0 0)) + (1 : Int32)), vI (0 : Int32)]) (rest := []) C lk_X0_46 (k_X8_set X.2.1 G hl hG fu (3 * k0 + 7) (((2 : Int32) * (r23.1 0 k0 0)) + (1 : Int32)) (0 : Int32) r23 r39 ((hG _ hk0).2 2 8 7 3 rfl) hr39) (by decide) rfl rfl rfl (Nat.le_of_ble_eq_true rfl) ⟨Nat.le_of_ble_eq_true rfl, Nat.le_of_ble_eq_true rfl⟩ dX0_open_39 ?_
  refine g_aload_n C 0 dX0_open_42 rfl rfl ?_
  refine g_dup C dX0_open_43 rfl ?_
  refine g_geti (k := k0) C (by decide) kf_X0_9 rfl dX0_open_44 ?_
  refine g_iconst (v := 1) C dX0_open_47 rfl ?_
  refine g_iadd C dX0_open_48 ?_
  refine g_puti C (by decide) kf_X0_9 rfl rfl rfl dX0_open_49 ?_
  refine g_aload_n C 0 dX0_open_52 rfl rfl ?_
  refine g_geti (k := k0) C (by decide) kf_X0_9 rfl dX0_open_53 ?_
  refine g_iconst (v := 1) C dX0_open_56 rfl ?_
  refine g_isub C dX0_open_57 ?_
  obtain rfl := Option.some.inj hm
  exact g_iret C dX0_open_58
def f_X3_set (fu : Nat) (k0 : Nat) (l1 : Int32) (l2 : Int32) (l3 : Int32) (M : Mem) : Option (Mem) :=
  if l1 < 0 then some M else if (M.1 3 k0 0) ≤ l1 then some M else if l2 < 0 then some M else if l2 < (M.1 3 k0 1) then if ((l1 * (M.1 3 k0 1)) + l2) < 0 then some M else if (nI (alen 21 k0)) ≤ ((l1 * (M.1 3 k0 1)) + l2) then some M else if inb ((l1 * (M.1 3 k0 1)) + l2) (alen 21 k0) then some (mI M 21 k0 ((l1 * (M.1 3 k0 1)) + l2).toNatClampNeg l3) else none else some M
set_option maxHeartbeats 4000000 in
set_option maxRecDepth 100000 in
theorem k_X3_set (l : Launch) (G : GE) (hl : l.stackTraces = false) (hG : GOK G) (fu : Nat) (k0 : Nat) (l1 : Int32) (l2 : Int32) (l3 : Int32) (M : Mem) (res : Mem) (hk0 : (3, k0) ∈ gids G) (hm : f_X3_set fu k0 l1 l2 l3 M = some res) : CT l G yX3_set cX3_set 5 none 0 [vR 3 k0, vI l1, vI l2, vI l3] M (.inl none) res := by
  refine ct_of [(0, vR 3 k0), (1, vI l1), (2, vI l2), (3, vI l3)] (by decide +kernel) hl hG (Nat.le_of_ble_eq_true rfl) rfl (List.forall_mem_cons.mpr ⟨Or.inl hk0, List.forall_mem_cons.mpr ⟨trivial, List.forall_mem_cons.mpr ⟨trivial, List.forall_mem_cons.mpr ⟨trivial, fun _ h => nomatch h⟩⟩⟩⟩) (List.forall_mem_cons.mpr ⟨Or.inl hk0, List.forall_mem_cons.mpr ⟨trivial, List.forall_mem_cons.mpr ⟨trivial, List.forall_mem_cons.mpr ⟨trivial, fun _ h => nomatch h⟩⟩⟩⟩) (fun X hX C => ?_)
  subst hX
  have Cl := C
  unfold f_X3_set at hm
  refine g_iload_n C 1 dX3_set_0 rfl rfl ?_
  refine g_if_lt (tgt := 24) C dX3_set_1 (by decide) (fun h1 => ?_) (fun h1 => ?_)
  · have hm := ift hm h1
    obtain rfl := Option.some.inj hm
    exact g_vret C dX3_set_24
  · have hm := ife hm h1
    refine g_iload_n C 1 dX3_set_4 rfl rfl ?_
    refine g_aload_n C 0 dX3_set_5 rfl rfl ?_
    refine g_geti (k := k0) C (by decide) kf_X3_9 rfl dX3_set_6 ?_
    refine g_icmp_ge (tgt := 24) C dX3_set_9 (by decide) (fun h9 => ?_) (fun h9 => ?_)
    · have hm := ift hm h9
      obtain rfl := Option.some.inj hm
      exact g_vret C dX3_set_24
    · have hm := ife hm h9
      refine g_iload_n C 2 dX3_set_12 rfl rfl ?_
      refine g_if_lt (tgt := 24) C dX3_set_13 (by decide) (fun h13 => ?_) (fun h13 => ?_)
      · have hm := ift hm h13
        obtain rfl := Option.some.inj hm
        exact g_vret C dX3_set_24
      · have hm := ife hm h13
        refine g_iload_n C 2 dX3_set_16 rfl rfl ?_
        refine g_aload_n C 0 dX3_set_17 rfl rfl ?_
        refine g_geti (k := k0) C (by decide) kf_X3_15 rfl dX3_set_18 ?_
        refine g_icmp_lt (tgt := 25) C dX3_set_21 (by decide) (fun h21 => ?_) (fun h21 => ?_)
        · have hm := ift hm h21
          refine g_iload_n C 1 dX3_set_25 rfl rfl ?_
          refine g_aload_n C 0 dX3_set_26 rfl rfl ?_
          refine g_geti (k := k0) C (by decide) kf_X3_15 rfl dX3_set_27 ?_
          refine g_imul C dX3_set_30 ?_
          refine g_iload_n C 2 dX3_set_31 rfl rfl ?_
          refine g_iadd C dX3_set_32 ?_
          refine g_istore (ls' := [(4, vI ((l1 * (M.1 3 k0 1)) + l2)), (0, vR 3 k0), (1, vI l1), (2, vI l2), (3, vI l3)]) C dX3_set_33 (by decide) rfl ?_
          refine g_iload C 0 dX3_set_35 rfl ?_
          refine g_if_lt (tgt := 58) C dX3_set_37 (by decide) (fun h37 => ?_) (fun h37 => ?_)
          · have hm := ift hm h37
            obtain rfl := Option.some.inj hm
            exact g_vret C dX3_set_58
          · have hm := ife hm h37
            refine g_iload C 0 dX3_set_40 rfl ?_
            refine g_aload_n C 1 dX3_set_42 rfl rfl ?_
            refine g_getr (k := k0) (k' := k0) C (by decide) kf_X3_18 rfl rfl dX3_set_43 ?_
            refine g_alen C (by decide) dX3_set_46 ?_
            refine g_icmp_ge (tgt := 58) C dX3_set_47 (by decide) (fun h47 => ?_) (fun h47 => ?_)
            · have hm := ift hm h47
              obtain rfl := Option.some.inj hm
              exact g_vret C dX3_set_58
            · have hm := ife hm h47
              refine g_aload_n C 1 dX3_set_50 rfl rfl ?_
              refine g_getr (k := k0) (k' := k0) C (by decide) kf_X3_18 rfl rfl dX3_set_51 ?_
              refine g_iload C 0 dX3_set_54 rfl ?_
              refine g_iload_n C 4 dX3_set_56 rfl rfl ?_
              obtain ⟨hi57, hm⟩ := ifn hm
              refine g_iast C (by decide) hi57 dX3_set_57 ?_
              obtain rfl := Option.some.inj hm
              exact g_vret C dX3_set_58
        · have hm := ife hm h21
          obtain rfl := Option.some.inj hm
          exact g_vret C dX3_set_24
def f_X0_lengthen (fu : Nat) (k0 : Nat) (l1 : Int32) (l2 : Int32) (M : Mem) : Option (Mem) :=
  (f_X8_get fu (3 * k0 + 7) (((2 : Int32) * ((M.1 0 k0 0) - (1 : Int32))) + l1) M).bind (fun r16 => (f_X3_set fu k0 (((2 : Int32) * ((M.1 0 k0 0) - (1 : Int32))) + l1) r16.1 l2 r16.2).bind (fun r29 => (f_X8_set fu (3 * k0 + 7) (((2 : Int32) * ((M.1 0 k0 0) - (1 : Int32))) + l1) (r16.1 + (1 : Int32)) r29).bind (fun r41 => some r41)))
set_option maxHeartbeats 4000000 in
set_option maxRecDepth 100000 in
theorem k_X0_lengthen (l : Launch) (G : GE) (hl : l.stackTraces = false) (hG : GOK G) (fu : Nat) (k0 : Nat) (l1 : Int32) (l2 : Int32) (M : Mem) (res : Mem) (hk0 : (0, k0) ∈ gids G) (hm : f_X0_lengthen fu k0 l1 l2 M = some res) : CT l G yX0_lengthen cX0_lengthen 5 none 1 [vR 0 k0, vI l1, vI l2] M (.inl none) res := by
  refine ct_of [(0, vR 0 k0), (1, vI l1), (2, vI l2)] (by decide +kernel) hl hG (Nat.le_of_ble_eq_true rfl) rfl (List.forall_mem_cons.mpr ⟨Or.inl hk0, List.forall_mem_cons.mpr ⟨trivial, List.forall_mem_cons.mpr ⟨trivial, fun _ h => nomatch h⟩⟩⟩) (List.forall_mem_cons.mpr ⟨Or.inl hk0, List.forall_mem_cons.mpr ⟨trivial, List.forall_mem_cons.mpr ⟨trivial, fun _ h => nomatch h⟩⟩⟩) (fun X hX C => ?_)
  subst hX
  have Cl := C
  unfold f_X0_lengthen at hm
  refine g_iconst (v := 2) C dX0_lengthen_0 rfl ?_
  refine g_aload_n C 0 dX0_lengthen_1 rfl rfl ?_
  refine g_geti (k := k0) C (by decide) kf_X0_9 rfl dX0_lengthen_2 ?_
  refine g_iconst (v := 1) C dX0_lengthen_5 rfl ?_
  refine g_isub C dX0_lengthen_6 ?_
  refine g_imul C dX0_lengthen_7 ?_
  refine g_iload_n C 1 dX0_lengthen_8 rfl rfl ?_
  refine g_iadd C dX0_lengthen_9 ?_
  refine g_istore_n (ls' := [(3, vI (((2 : Int32) * ((M.1 0 k0 0) - (1 : Int32))) + l1)), (0, vR 0 k0), (1, vI l1), (2, vI l2)]) C dX0_lengthen_10 rfl (by decide) rfl ?_
  refine g_aload_n C 1 dX0_lengthen_11 rfl rfl ?_
  refine g_getr (k := k0) (k' := (3 * k0 + 7)) C (by decide) kf_X0_24 rfl rfl dX0_lengthen_12 ?_
  refine g_iload_n C 0 dX0_lengthen_15 rfl rfl ?_
  obtain ⟨r16, hr16, hm⟩ := bnd_some hm
  refine g_callVi (As := [vI (((2 : Int32) * ((M.1 0 k0 0) - (1 : Int32))) + l1)]) (rest := []) C lk_X0_49 (k_X8_get X.2.1 G hl hG fu (3 * k0 + 7) (((2 : Int32) * ((M.1 0 k0 0) - (1 : Int32))) + l1) M r16 ((hG _ hk0).2 2 8 7 3 rfl) hr16) (by decide) rfl rfl rfl (Nat.le_of_ble_eq_true rfl) ⟨Nat.le_of_ble_eq_true rfl, Nat.le_of_ble_eq_true rfl⟩ dX0_lengthen_16 ?_
  refine g_istore (ls' := [(4, vI r16.1), (3, vI (((2 : Int32) * ((M.1 0 k0 0) - (1 : Int32))) + l1)), (0, vR 0 k0), (1, vI l1), (2, vI l2)]) C dX0_lengthen_19 (by decide) rfl ?_
  refine g_aload_n C 2 dX0_lengthen_21 rfl rfl ?_
  refine g_getr (k := k0) (k' := k0) C (by decide) kf_X0_32 rfl rfl dX0_lengthen_22 ?_
  refine g_iload_n C 1 dX0_lengthen_25 rfl rfl ?_
  refine g_iload C 0 dX0_lengthen_26 rfl ?_
  refine g_iload_n C 4 dX0_lengthen_28 rfl rfl ?_
  obtain ⟨r29, hr29, hm⟩ := bnd_some hm
  refine g_callVv (As := [vI (((2 : Int32) * ((M.1 0 k0 0) - (1 : Int32))) + l1), vI r16.1, vI l2]) (rest := []) C lk_X0_53 (k_X3_set X.2.1 G hl hG fu k0 (((2 : Int32) * ((M.1 0 k0 0) - (1 : Int32))) + l1) r16.1 l2 r16.2 r29 ((hG _ hk0).2 3 3 0 1 rfl) hr29) (by decide) rfl rfl rfl (Nat.le_of_ble_eq_true rfl) ⟨Nat.le_of_ble_eq_true rfl, Nat.le_of_ble_eq_true rfl⟩ dX0_lengthen_29 ?_
  refine g_aload_n C 2 dX0_lengthen_32 rfl rfl ?_
  refine g_getr (k := k0) (k' := (3 * k0 + 7)) C (by decide) kf_X0_24 rfl rfl dX0_lengthen_33 ?_
  refine g_iload_n C 1 dX0_lengthen_36 rfl rfl ?_
  refine g_iload C 0 dX0_lengthen_37 rfl ?_
  refine g_iconst (v := 1) C dX0_lengthen_39 rfl ?_
  refine g_iadd C dX0_lengthen_40 ?_
  obtain ⟨r41, hr41, hm⟩ := bnd_some hm
  refine g_callVv (As := [vI (((2 : Int32) * ((M.1 0 k0 0) - (1 : Int32))) + l1), vI (r16.1 + (1 : Int32))]) (rest := []) C lk_X0_46 (k_X8_set X.2.1 G hl hG fu (3 * k0 + 7) (((2 : Int32) * ((M.1 0 k0 0) - (1 : Int32))) + l1) (r16.1 + (1 : Int32)) r29 r41 ((hG _ hk0).2 2 8 7 3 rfl) hr41) (by decide) rfl rfl rfl (Nat.le_of_ble_eq_true rfl) ⟨Nat.le_of_ble_eq_true rfl, Nat.le_of_ble_eq_true rfl⟩ dX0_lengthen_41 ?_
  obtain rfl := Option.some.inj hm
  exact g_vret C dX0_lengthen_44
def f_X3_get (fu : Nat) (k0 : Nat) (l1 : Int32) (l2 : Int32) (M : Mem) : Option (Int32 × Mem) :=
  if l1 < 0 then some ((-1 : Int32), M) else if (M.1 3 k0 0) ≤ l1 then some ((-1 : Int32), M) else if l2 < 0 then some ((-1 : Int32), M) else if l2 < (M.1 3 k0 1) then if ((l1 * (M.1 3 k0 1)) + l2) < 0 then some ((-1 : Int32), M) else if (nI (alen 21 k0)) ≤ ((l1 * (M.1 3 k0 1)) + l2) then some ((-1 : Int32), M) else if inb ((l1 * (M.1 3 k0 1)) + l2) (alen 21 k0) then some (M.1 21 k0 ((l1 * (M.1 3 k0 1)) + l2).toNatClampNeg, M) else none else some ((-1 : Int32), M)
set_option maxHeartbeats 4000000 in
set_option maxRecDepth 100000 in
theorem k_X3_get (l : Launch) (G : GE) (hl : l.stackTraces = false) (hG : GOK G) (fu : Nat) (k0 : Nat) (l1 : Int32) (l2 : Int32) (M : Mem) (res : Int32 × Mem) (hk0 : (3, k0) ∈ gids G) (hm : f_X3_get fu k0 l1 l2 M = some res) : CT l G yX3_get cX3_get 4 (some .int) 0 [vR 3 k0, vI l1, vI l2] M (.inl (some (vI res.1))) res.2 := by
  refine ct_of [(0, vR 3 k0), (1, vI l1), (2, vI l2)] (by decide +kernel) hl hG (Nat.le_of_ble_eq_true rfl) rfl (List.forall_mem_cons.mpr ⟨Or.inl hk0, List.forall_mem_cons.mpr ⟨trivial, List.forall_mem_cons.mpr ⟨trivial, fun _ h => nomatch h⟩⟩⟩) (List.forall_mem_cons.mpr ⟨Or.inl hk0, List.forall_mem_cons.mpr ⟨trivial, List.forall_mem_cons.mpr ⟨trivial, fun _ h => nomatch h⟩⟩⟩) (fun X hX C => ?_)
  subst hX
  have Cl := C
  unfold f_X3_get at hm
  refine g_iload_n C 1 dX3_get_0 rfl rfl ?_
  refine g_if_lt (tgt := 24) C dX3_get_1 (by decide) (fun h1 => ?_) (fun h1 => ?_)
  · have hm := ift hm h1
    refine g_iconst (v := -1) C dX3_get_24 rfl ?_
    obtain rfl := Option.some.inj hm
    exact g_iret C dX3_get_25
  · have hm := ife hm h1
    refine g_iload_n C 1 dX3_get_4 rfl rfl ?_
    refine g_aload_n C 0 dX3_get_5 rfl rfl ?_
    refine g_geti (k := k0) C (by decide) kf_X3_9 rfl dX3_get_6 ?_
    refine g_icmp_ge (tgt := 24) C dX3_get_9 (by decide) (fun h9 => ?_) (fun h9 => ?_)
    · have hm := ift hm h9
      refine g_iconst (v := -1) C dX3_get_24 rfl ?_
      obtain rfl := Option.some.inj hm
      exact g_iret C dX3_get_25
    · have hm := ife hm h9
      refine g_iload_n C 2 dX3_get_12 rfl rfl ?_
      refine g_if_lt (tgt := 24) C dX3_get_13 (by decide) (fun h13 => ?_) (fun h13 => ?_)
      · have hm := ift hm h13
        refine g_iconst (v := -1) C dX3_get_24 rfl ?_
        obtain rfl := Option.some.inj hm
        exact g_iret C dX3_get_25
      · have hm := ife hm h13
        refine g_iload_n C 2 dX3_get_16 rfl rfl ?_
        refine g_aload_n C 0 dX3_get_17 rfl rfl ?_
        refine g_geti (k := k0) C (by decide) kf_X3_15 rfl dX3_get_18 ?_
        refine g_icmp_lt (tgt := 26) C dX3_get_21 (by decide) (fun h21 => ?_) (fun h21 => ?_)
        · have hm := ift hm h21
          refine g_iload_n C 1 dX3_get_26 rfl rfl ?_
          refine g_aload_n C 0 dX3_get_27 rfl rfl ?_
          refine g_geti (k := k0) C (by decide) kf_X3_15 rfl dX3_get_28 ?_
          refine g_imul C dX3_get_31 ?_
          refine g_iload_n C 2 dX3_get_32 rfl rfl ?_
          refine g_iadd C dX3_get_33 ?_
          refine g_istore_n (ls' := [(3, vI ((l1 * (M.1 3 k0 1)) + l2)), (0, vR 3 k0), (1, vI l1), (2, vI l2)]) C dX3_get_34 rfl (by decide) rfl ?_
          refine g_iload_n C 0 dX3_get_35 rfl rfl ?_
          refine g_if_lt (tgt := 57) C dX3_get_36 (by decide) (fun h36 => ?_) (fun h36 => ?_)
          · have hm := ift hm h36
            refine g_iconst (v := -1) C dX3_get_57 rfl ?_
            obtain rfl := Option.some.inj hm
            exact g_iret C dX3_get_58
          · have hm := ife hm h36
            refine g_iload_n C 0 dX3_get_39 rfl rfl ?_
            refine g_aload_n C 1 dX3_get_40 rfl rfl ?_
            refine g_getr (k := k0) (k' := k0) C (by decide) kf_X3_18 rfl rfl dX3_get_41 ?_
            refine g_alen C (by decide) dX3_get_44 ?_
            refine g_icmp_ge (tgt := 57) C dX3_get_45 (by decide) (fun h45 => ?_) (fun h45 => ?_)
            · have hm := ift hm h45
              refine g_iconst (v := -1) C dX3_get_57 rfl ?_
              obtain rfl := Option.some.inj hm
              exact g_iret C dX3_get_58
            · have hm := ife hm h45
              refine g_aload_n C 1 dX3_get_48 rfl rfl ?_
              refine g_getr (k := k0) (k' := k0) C (by decide) kf_X3_18 rfl rfl dX3_get_49 ?_
              refine g_iload_n C 0 dX3_get_52 rfl rfl ?_
              obtain ⟨hi53, hm⟩ := ifn hm
              refine g_iald C (by decide) hi53 dX3_get_53 ?_
              refine g_goto (tgt := 58) C dX3_get_54 (by decide) ?_
              obtain rfl := Option.some.inj hm
              exact g_iret C dX3_get_58
        · have hm := ife hm h21
          refine g_iconst (v := -1) C dX3_get_24 rfl ?_
          obtain rfl := Option.some.inj hm
          exact g_iret C dX3_get_25
def f_X0_move_b54 (fu : Nat) (k0 : Nat) (l1 : Int32) (l2 : Int32) (l3 : Int32) (l4 : Int32) (l5 : Int32) (M : Mem) : Option ((Int32 × Mem) ⊕ (Mem)) :=
  (f_X8_get fu (3 * k0 + 7) l4 M).bind (fun r62 => if r62.1 ≤ l5 then some (Sum.inr r62.2) else (f_X3_get fu k0 l4 l5 r62.2).bind (fun r87 => (f_X3_set fu k0 (((2 : Int32) * l2) + l3) l5 r87.1 r87.2).bind (fun r90 => some (Sum.inl (l5 + (1 : Int32), r90)))))
def f_X0_move_h54 (fu : Nat) (k0 : Nat) (l1 : Int32) (l2 : Int32) (l3 : Int32) (l4 : Int32) (l5 : Int32) (M : Mem) : Option ((Int32 × Mem) ⊕ (Mem)) :=
  (lp_run (fun s => f_X0_move_b54 fu k0 l1 l2 l3 l4 s.1 s.2) fu (l5, M)).bind (fun M => some (Sum.inl (l3 + (1 : Int32), M)))
def f_X0_move_b18 (fu : Nat) (k0 : Nat) (l1 : Int32) (l2 : Int32) (l3 : Int32) (M : Mem) : Option ((Int32 × Mem) ⊕ (Mem)) :=
  if (2 : Int32) ≤ l3 then some (Sum.inr M) else (f_X8_get fu (3 * k0 + 7) (((2 : Int32) * l1) + l3) M).bind (fun r45 => (f_X8_set fu (3 * k0 + 7) (((2 : Int32) * l2) + l3) r45.1 r45.2).bind (fun r48 => f_X0_move_h54 fu k0 l1 l2 l3 (((2 : Int32) * l1) + l3) (0 : Int32) r48))
def f_X0_move_h18 (fu : Nat) (k0 : Nat)  (l1 : Int32) (l2 : Int32) (l3 : Int32) (M : Mem) : Option (Mem) :=
  (lp_run (fun s => f_X0_move_b18 fu k0 l1 l2 s.1 s.2) fu (l3, M)).bind (fun M => some M)
def f_X0_move (fu : Nat) (k0 : Nat) (l1 : Int32) (l2 : Int32) (M : Mem) : Option (Mem) :=
  (f_X8_get fu (3 * k0 + 6) l1 M).bind (fun r10 => (f_X8_set fu (3 * k0 + 6) l2 r10.1 r10.2).bind (fun r13 => f_X0_move_h18 fu k0 l1 l2 (0 : Int32) r13))
set_option maxHeartbeats 4000000 in
set_option maxRecDepth 100000 in
theorem k_X0_move (l : Launch) (G : GE) (hl : l.stackTraces = false) (hG : GOK G) (fu : Nat) (k0 : Nat) (l1 : Int32) (l2 : Int32) (M : Mem) (res : Mem) (hk0 : (0, k0) ∈ gids G) (hm : f_X0_move fu k0 l1 l2 M = some res) : CT l G yX0_move cX0_move 6 none 1 [vR 0 k0, vI l1, vI l2] M (.inl none) res := by
  refine ct_of [(0, vR 0 k0), (1, vI l1), (2, vI l2)] (by decide +kernel) hl hG (Nat.le_of_ble_eq_true rfl) rfl (List.forall_mem_cons.mpr ⟨Or.inl hk0, List.forall_mem_cons.mpr ⟨trivial, List.forall_mem_cons.mpr ⟨trivial, fun _ h => nomatch h⟩⟩⟩) (List.forall_mem_cons.mpr ⟨Or.inl hk0, List.forall_mem_cons.mpr ⟨trivial, List.forall_mem_cons.mpr ⟨trivial, fun _ h => nomatch h⟩⟩⟩) (fun X hX C => ?_)
  subst hX
  have Cl := C
  have J18 : ∀ (l1 : Int32) (l2 : Int32) (l3 : Int32) (M : Mem), f_X0_move_h18 fu k0  l1 l2 l3 M = some res → GW G X 6 (QX G X (.inl none) res) 18 [(0, vR 0 k0), (1, vI l1), (2, vI l2), (3, vI l3)] [] M := by
    intro l1 l2 l3 M hm
    unfold f_X0_move_h18 at hm
    obtain ⟨r18, hL18, hk18⟩ := bnd_some hm
    have hx18 : ∀ (M : Mem), M = r18 → GW G X 6 (QX G X (.inl none) res) 105 [] [] M := by
      intro M he
      subst he
      have hm := hk18
      try dsimp only at hm
      obtain rfl := Option.some.inj hm
      exact g_vret C dX0_move_105
    refine lp_ind1 (P := (fun l3 M => GW G X 6 (QX G X (.inl none) res) 18 [(0, vR 0 k0), (1, vI l1), (2, vI l2), (3, vI l3)] [] M)) (r := r18) ?_ fu l3 M hL18
    intro l3 M o18 hm K18
    have J54 : ∀ (l3 : Int32) (l4 : Int32) (l5 : Int32) (M : Mem), f_X0_move_h54 fu k0 l1 l2 l3 l4 l5 M = some o18 → GW G X 6 (QX G X (.inl none) res) 54 [(0, vR 0 k0), (1, vI l1), (2, vI l2), (3, vI l3), (4, vI l4), (5, vI l5)] [] M := by
      intro l3 l4 l5 M hm
      unfold f_X0_move_h54 at hm
      obtain ⟨r54, hL54, hk54⟩ := bnd_some hm
      have hx54 : ∀ (M : Mem), M = r54 → GW G X 6 (QX G X (.inl none) res) 99 [(0, vR 0 k0), (1, vI l1), (2, vI l2), (3, vI l3)] [] M := by
        intro M he
        subst he
        have hm := hk54
        try dsimp only at hm
        refine g_iinc (ls' := [(3, vI (l3 + (1 : Int32))), (0, vR 0 k0), (1, vI l1), (2, vI l2)]) (v := l3 + (1 : Int32)) C 3 dX0_move_99 rfl (iv_p1 _) (by decide) rfl ?_
        refine g_goto (tgt := 18) C dX0_move_102 (by decide) ?_
        obtain rfl := Option.some.inj hm
        exact g_sub [1, 2, 3, 0] rfl (g_pc rfl (K18.1 (l3 + (1 : Int32)) M rfl))
      refine lp_ind1 (P := (fun l5 M => GW G X 6 (QX G X (.inl none) res) 54 [(0, vR 0 k0), (1, vI l1), (2, vI l2), (3, vI l3), (4, vI l4), (5, vI l5)] [] M)) (r := r54) ?_ fu l5 M hL54
      intro l5 M o54 hm K54
      unfold f_X0_move_b54 at hm
      refine g_iload C 5 dX0_move_54 rfl ?_
      refine g_aload_n C 0 dX0_move_56 rfl rfl ?_
      refine g_getr (k := k0) (k' := (3 * k0 + 7)) C (by decide) kf_X0_24 rfl rfl dX0_move_57 ?_
      refine g_iload C 4 dX0_move_60 rfl ?_
      obtain ⟨r62, hr62, hm⟩ := bnd_some hm
      refine g_callVi (As := [vI l4]) (rest := [vI l5]) C lk_X0_49 (k_X8_get X.2.1 G hl hG fu (3 * k0 + 7) l4 M r62 ((hG _ hk0).2 2 8 7 3 rfl) hr62) (by decide) rfl rfl rfl (Nat.le_of_ble_eq_true rfl) ⟨Nat.le_of_ble_eq_true rfl, Nat.le_of_ble_eq_true rfl⟩ dX0_move_62 ?_
      refine g_icmp_ge (tgt := 99) C dX0_move_65 (by decide) (fun h65 => ?_) (fun h65 => ?_)
      · have hm := ift hm h65
        obtain rfl := Option.some.inj hm
        exact g_sub [0, 1, 2, 3] rfl (g_pc rfl (hx54 r62.2 (K54.2 _ rfl)))
      · have hm := ife hm h65
        refine g_aload_n C 0 dX0_move_68 rfl rfl ?_
        refine g_getr (k := k0) (k' := k0) C (by decide) kf_X0_32 rfl rfl dX0_move_69 ?_
        refine g_iconst (v := 2) C dX0_move_72 rfl ?_
        refine g_iload_n C 2 dX0_move_73 rfl rfl ?_
        refine g_imul C dX0_move_74 ?_
        refine g_iload_n C 3 dX0_move_75 rfl rfl ?_
        refine g_iadd C dX0_move_76 ?_
        refine g_iload C 5 dX0_move_77 rfl ?_
        refine g_aload_n C 0 dX0_move_79 rfl rfl ?_
        refine g_getr (k := k0) (k' := k0) C (by decide) kf_X0_32 rfl rfl dX0_move_80 ?_
        refine g_iload C 4 dX0_move_83 rfl ?_
        refine g_iload C 5 dX0_move_85 rfl ?_
        obtain ⟨r87, hr87, hm⟩ := bnd_some hm
        refine g_callVi (As := [vI l4, vI l5]) (rest := [vI l5, vI (((2 : Int32) * l2) + l3), vR 3 k0]) C lk_X0_68 (k_X3_get X.2.1 G hl hG fu k0 l4 l5 r62.2 r87 ((hG _ hk0).2 3 3 0 1 rfl) hr87) (by decide) rfl rfl rfl (Nat.le_of_ble_eq_true rfl) ⟨Nat.le_of_ble_eq_true rfl, Nat.le_of_ble_eq_true rfl⟩ dX0_move_87 ?_
        obtain ⟨r90, hr90, hm⟩ := bnd_some hm
        refine g_callVv (As := [vI (((2 : Int32) * l2) + l3), vI l5, vI r87.1]) (rest := []) C lk_X0_53 (k_X3_set X.2.1 G hl hG fu k0 (((2 : Int32) * l2) + l3) l5 r87.1 r87.2 r90 ((hG _ hk0).2 3 3 0 1 rfl) hr90) (by decide) rfl rfl rfl (Nat.le_of_ble_eq_true rfl) ⟨Nat.le_of_ble_eq_true rfl, Nat.le_of_ble_eq_true rfl⟩ dX0_move_90 ?_
        refine g_iinc (ls' := [(5, vI (l5 + (1 : Int32))), (0, vR 0 k0), (1, vI l1), (2, vI l2), (3, vI l3), (4, vI l4)]) (v := l5 + (1 : Int32)) C 5 dX0_move_93 rfl (iv_p1 _) (by decide) rfl ?_
        refine g_goto (tgt := 54) C dX0_move_96 (by decide) ?_
        obtain rfl := Option.some.inj hm
        exact g_sub [1, 2, 3, 4, 5, 0] rfl (g_pc rfl (K54.1 (l5 + (1 : Int32)) r90 rfl))
    unfold f_X0_move_b18 at hm
    refine g_iload_n C 3 dX0_move_18 rfl rfl ?_
    refine g_iconst (v := 2) C dX0_move_19 rfl ?_
    refine g_icmp_ge (tgt := 105) C dX0_move_20 (by decide) (fun h20 => ?_) (fun h20 => ?_)
    · have hm := ift hm h20
      obtain rfl := Option.some.inj hm
      exact g_sub [] rfl (g_pc rfl (hx18 M (K18.2 _ rfl)))
    · have hm := ife hm h20
      refine g_iconst (v := 2) C dX0_move_23 rfl ?_
      refine g_iload_n C 1 dX0_move_24 rfl rfl ?_
      refine g_imul C dX0_move_25 ?_
      refine g_iload_n C 3 dX0_move_26 rfl rfl ?_
      refine g_iadd C dX0_move_27 ?_
      refine g_istore (ls' := [(4, vI (((2 : Int32) * l1) + l3)), (0, vR 0 k0), (1, vI l1), (2, vI l2), (3, vI l3)]) C dX0_move_28 (by decide) rfl ?_
      refine g_aload_n C 1 dX0_move_30 rfl rfl ?_
      refine g_getr (k := k0) (k' := (3 * k0 + 7)) C (by decide) kf_X0_24 rfl rfl dX0_move_31 ?_
      refine g_iconst (v := 2) C dX0_move_34 rfl ?_
      refine g_iload_n C 3 dX0_move_35 rfl rfl ?_
      refine g_imul C dX0_move_36 ?_
      refine g_iload_n C 4 dX0_move_37 rfl rfl ?_
      refine g_iadd C dX0_move_38 ?_
      refine g_aload_n C 1 dX0_move_39 rfl rfl ?_
      refine g_getr (k := k0) (k' := (3 * k0 + 7)) C (by decide) kf_X0_24 rfl rfl dX0_move_40 ?_
      refine g_iload C 0 dX0_move_43 rfl ?_
      obtain ⟨r45, hr45, hm⟩ := bnd_some hm
      refine g_callVi (As := [vI (((2 : Int32) * l1) + l3)]) (rest := [vI (((2 : Int32) * l2) + l3), vR 8 (3 * k0 + 7)]) C lk_X0_49 (k_X8_get X.2.1 G hl hG fu (3 * k0 + 7) (((2 : Int32) * l1) + l3) M r45 ((hG _ hk0).2 2 8 7 3 rfl) hr45) (by decide) rfl rfl rfl (Nat.le_of_ble_eq_true rfl) ⟨Nat.le_of_ble_eq_true rfl, Nat.le_of_ble_eq_true rfl⟩ dX0_move_45 ?_
      obtain ⟨r48, hr48, hm⟩ := bnd_some hm
      refine g_callVv (As := [vI (((2 : Int32) * l2) + l3), vI r45.1]) (rest := []) C lk_X0_46 (k_X8_set X.2.1 G hl hG fu (3 * k0 + 7) (((2 : Int32) * l2) + l3) r45.1 r45.2 r48 ((hG _ hk0).2 2 8 7 3 rfl) hr48) (by decide) rfl rfl rfl (Nat.le_of_ble_eq_true rfl) ⟨Nat.le_of_ble_eq_true rfl, Nat.le_of_ble_eq_true rfl⟩ dX0_move_48 ?_
      refine g_iconst (v := 0) C dX0_move_51 rfl ?_
      refine g_istore (ls' := [(5, vI (0 : Int32)), (4, vI (((2 : Int32) * l1) + l3)), (0, vR 0 k0), (1, vI l1), (2, vI l2), (3, vI l3)]) C dX0_move_52 (by decide) rfl ?_
      exact g_sub [2, 3, 4, 5, 1, 0] rfl (g_pc rfl (J54 l3 (((2 : Int32) * l1) + l3) (0 : Int32) r48 hm))
  unfold f_X0_move at hm
  refine g_aload_n C 0 dX0_move_0 rfl rfl ?_
  refine g_getr (k := k0) (k' := (3 * k0 + 6)) C (by decide) kf_X0_20 rfl rfl dX0_move_1 ?_
  refine g_iload_n C 2 dX0_move_4 rfl rfl ?_
  refine g_aload_n C 0 dX0_move_5 rfl rfl ?_
  refine g_getr (k := k0) (k' := (3 * k0 + 6)) C (by decide) kf_X0_20 rfl rfl dX0_move_6 ?_
  refine g_iload_n C 1 dX0_move_9 rfl rfl ?_
  obtain ⟨r10, hr10, hm⟩ := bnd_some hm
  refine g_callVi (As := [vI l1]) (rest := [vI l2, vR 8 (3 * k0 + 6)]) C lk_X0_49 (k_X8_get X.2.1 G hl hG fu (3 * k0 + 6) l1 M r10 ((hG _ hk0).2 1 8 6 3 rfl) hr10) (by decide) rfl rfl rfl (Nat.le_of_ble_eq_true rfl) ⟨Nat.le_of_ble_eq_true rfl, Nat.le_of_ble_eq_true rfl⟩ dX0_move_10 ?_
  obtain ⟨r13, hr13, hm⟩ := bnd_some hm
  refine g_callVv (As := [vI l2, vI r10.1]) (rest := []) C lk_X0_46 (k_X8_set X.2.1 G hl hG fu (3 * k0 + 6) l2 r10.1 r10.2 r13 ((hG _ hk0).2 1 8 6 3 rfl) hr13) (by decide) rfl rfl rfl (Nat.le_of_ble_eq_true rfl) ⟨Nat.le_of_ble_eq_true rfl, Nat.le_of_ble_eq_true rfl⟩ dX0_move_13 ?_
  refine g_iconst (v := 0) C dX0_move_16 rfl ?_
  refine g_istore_n (ls' := [(3, vI (0 : Int32)), (0, vR 0 k0), (1, vI l1), (2, vI l2)]) C dX0_move_17 rfl (by decide) rfl ?_
  exact g_sub [1, 2, 3, 0] rfl (g_pc rfl (J18 l1 l2 (0 : Int32) r13 hm))
def f_X0_remove_b4 (fu : Nat) (k0 : Nat)  (l2 : Int32) (M : Mem) : Option ((Int32 × Mem) ⊕ (Mem)) :=
  if (M.1 0 k0 0) ≤ l2 then some (Sum.inr M) else (f_X0_move fu k0 l2 (l2 - (1 : Int32)) M).bind (fun r17 => some (Sum.inl (l2 + (1 : Int32), r17)))
def f_X0_remove_h4 (fu : Nat) (k0 : Nat)  (l2 : Int32) (M : Mem) : Option (Mem) :=
  (lp_run (fun s => f_X0_remove_b4 fu k0  s.1 s.2) fu (l2, M)).bind (fun M => some (mI M 0 k0 0 ((M.1 0 k0 0) - (1 : Int32))))
def f_X0_remove (fu : Nat) (k0 : Nat) (l1 : Int32) (M : Mem) : Option (Mem) :=
  f_X0_remove_h4 fu k0 (l1 + (1 : Int32)) M
set_option maxHeartbeats 4000000 in
set_option maxRecDepth 100000 in
theorem k_X0_remove (l : Launch) (G : GE) (hl : l.stackTraces = false) (hG : GOK G) (fu : Nat) (k0 : Nat) (l1 : Int32) (M : Mem) (res : Mem) (hk0 : (0, k0) ∈ gids G) (hm : f_X0_remove fu k0 l1 M = some res) : CT l G yX0_remove cX0_remove 3 none 2 [vR 0 k0, vI l1] M (.inl none) res := by
  refine ct_of [(0, vR 0 k0), (1, vI l1)] (by decide +kernel) hl hG (Nat.le_of_ble_eq_true rfl) rfl (List.forall_mem_cons.mpr ⟨Or.inl hk0, List.forall_mem_cons.mpr ⟨trivial, fun _ h => nomatch h⟩⟩) (List.forall_mem_cons.mpr ⟨Or.inl hk0, List.forall_mem_cons.mpr ⟨trivial, fun _ h => nomatch h⟩⟩) (fun X hX C => ?_)
  subst hX
  have Cl := C
  have J4 : ∀ (l2 : Int32) (M : Mem), f_X0_remove_h4 fu k0  l2 M = some res → GW G X 3 (QX G X (.inl none) res) 4 [(0, vR 0 k0), (2, vI l2)] [] M := by
    intro l2 M hm
    unfold f_X0_remove_h4 at hm
    obtain ⟨r4, hL4, hk4⟩ := bnd_some hm
    have hx4 : ∀ (M : Mem), M = r4 → GW G X 3 (QX G X (.inl none) res) 26 [(0, vR 0 k0)] [] M := by
      intro M he
      subst he
      have hm := hk4
      try dsimp only at hm
      refine g_aload_n C 0 dX0_remove_26 rfl rfl ?_
      refine g_dup C dX0_remove_27 rfl ?_
      refine g_geti (k := k0) C (by decide) kf_X0_9 rfl dX0_remove_28 ?_
      refine g_iconst (v := 1) C dX0_remove_31 rfl ?_
      refine g_isub C dX0_remove_32 ?_
      refine g_puti C (by decide) kf_X0_9 rfl rfl rfl dX0_remove_33 ?_
      obtain rfl := Option.some.inj hm
      exact g_vret C dX0_remove_36
    refine lp_ind1 (P := (fun l2 M => GW G X 3 (QX G X (.inl none) res) 4 [(0, vR 0 k0), (2, vI l2)] [] M)) (r := r4) ?_ fu l2 M hL4
    intro l2 M o4 hm K4
    unfold f_X0_remove_b4 at hm
    refine g_iload_n C 1 dX0_remove_4 rfl rfl ?_
    refine g_aload_n C 0 dX0_remove_5 rfl rfl ?_
    refine g_geti (k := k0) C (by decide) kf_X0_9 rfl dX0_remove_6 ?_
    refine g_icmp_ge (tgt := 26) C dX0_remove_9 (by decide) (fun h9 => ?_) (fun h9 => ?_)
    · have hm := ift hm h9
      obtain rfl := Option.some.inj hm
      exact g_sub [0] rfl (g_pc rfl (hx4 M (K4.2 _ rfl)))
    · have hm := ife hm h9
      refine g_aload_n C 0 dX0_remove_12 rfl rfl ?_
      refine g_iload_n C 1 dX0_remove_13 rfl rfl ?_
      refine g_iload_n C 1 dX0_remove_14 rfl rfl ?_
      refine g_iconst (v := 1) C dX0_remove_15 rfl ?_
      refine g_isub C dX0_remove_16 ?_
      obtain ⟨r17, hr17, hm⟩ := bnd_some hm
      refine g_callVv (As := [vI l2, vI (l2 - (1 : Int32))]) (rest := []) C lk_X0_56 (k_X0_move X.2.1 G hl hG fu k0 l2 (l2 - (1 : Int32)) M r17 hk0 hr17) (by decide) rfl rfl rfl (Nat.le_of_ble_eq_true rfl) ⟨Nat.le_of_ble_eq_true rfl, Nat.le_of_ble_eq_true rfl⟩ dX0_remove_17 ?_
      refine g_iinc (ls' := [(2, vI (l2 + (1 : Int32))), (0, vR 0 k0)]) (v := l2 + (1 : Int32)) C 1 dX0_remove_20 rfl (iv_p1 _) (by decide) rfl ?_
      refine g_goto (tgt := 4) C dX0_remove_23 (by decide) ?_
      obtain rfl := Option.some.inj hm
      exact g_sub [1, 0] rfl (g_pc rfl (K4.1 (l2 + (1 : Int32)) r17 rfl))
  unfold f_X0_remove at hm
  refine g_iload_n C 1 dX0_remove_0 rfl rfl ?_
  refine g_iconst (v := 1) C dX0_remove_1 rfl ?_
  refine g_iadd C dX0_remove_2 ?_
  refine g_istore_n (ls' := [(2, vI (l1 + (1 : Int32))), (0, vR 0 k0), (1, vI l1)]) C dX0_remove_3 rfl (by decide) rfl ?_
  exact g_sub [1, 0] rfl (g_pc rfl (J4 (l1 + (1 : Int32)) M hm))
def f_X0_occurs_b10 (fu : Nat) (k0 : Nat) (l3 : Int32) (l4 : Int32) (l5 : Int32) (M : Mem) : Option ((Int32 × Mem) ⊕ ((Mem) ⊕ (Int32 × Mem))) :=
  (f_X8_get fu (3 * k0 + 7) l4 M).bind (fun r18 => if r18.1 ≤ l5 then some (Sum.inr (Sum.inl r18.2)) else (f_X3_get fu k0 l4 l5 r18.2).bind (fun r32 => if r32.1 = l3 then some (Sum.inr (Sum.inr ((1 : Int32), r32.2))) else some (Sum.inl (l5 + (1 : Int32), r32.2))))
def f_X0_occurs_h10 (fu : Nat) (k0 : Nat)  (l3 : Int32) (l4 : Int32) (l5 : Int32) (M : Mem) : Option (Int32 × Mem) :=
  (lp_run (fun s => f_X0_occurs_b10 fu k0 l3 l4 s.1 s.2) fu (l5, M)).bind (fun r10 => match r10 with
    | Sum.inl M => some ((0 : Int32), M)
    | Sum.inr q10 => some q10)
def f_X0_occurs (fu : Nat) (k0 : Nat) (l1 : Int32) (l2 : Int32) (l3 : Int32) (M : Mem) : Option (Int32 × Mem) :=
  f_X0_occurs_h10 fu k0 l3 (((2 : Int32) * l1) + l2) (0 : Int32) M
set_option maxHeartbeats 4000000 in
set_option maxRecDepth 100000 in
theorem k_X0_occurs (l : Launch) (G : GE) (hl : l.stackTraces = false) (hG : GOK G) (fu : Nat) (k0 : Nat) (l1 : Int32) (l2 : Int32) (l3 : Int32) (M : Mem) (res : Int32 × Mem) (hk0 : (0, k0) ∈ gids G) (hm : f_X0_occurs fu k0 l1 l2 l3 M = some res) : CT l G yX0_occurs cX0_occurs 6 (some .boolean) 1 [vR 0 k0, vI l1, vI l2, vI l3] M (.inl (some (vI res.1))) res.2 := by
  refine ct_of [(0, vR 0 k0), (1, vI l1), (2, vI l2), (3, vI l3)] (by decide +kernel) hl hG (Nat.le_of_ble_eq_true rfl) rfl (List.forall_mem_cons.mpr ⟨Or.inl hk0, List.forall_mem_cons.mpr ⟨trivial, List.forall_mem_cons.mpr ⟨trivial, List.forall_mem_cons.mpr ⟨trivial, fun _ h => nomatch h⟩⟩⟩⟩) (List.forall_mem_cons.mpr ⟨Or.inl hk0, List.forall_mem_cons.mpr ⟨trivial, List.forall_mem_cons.mpr ⟨trivial, List.forall_mem_cons.mpr ⟨trivial, fun _ h => nomatch h⟩⟩⟩⟩) (fun X hX C => ?_)
  subst hX
  have Cl := C
  have J10 : ∀ (l3 : Int32) (l4 : Int32) (l5 : Int32) (M : Mem), f_X0_occurs_h10 fu k0  l3 l4 l5 M = some res → GW G X 6 (QX G X (.inl (some (vI res.1))) res.2) 10 [(0, vR 0 k0), (3, vI l3), (4, vI l4), (5, vI l5)] [] M := by
    intro l3 l4 l5 M hm
    unfold f_X0_occurs_h10 at hm
    obtain ⟨r10, hL10, hk10⟩ := bnd_some hm
    have hx10 : ∀ (M : Mem), Sum.inl M = r10 → GW G X 6 (QX G X (.inl (some (vI res.1))) res.2) 47 [] [] M := by
      intro M he
      subst he
      have hm := hk10
      try dsimp only at hm
      refine g_iconst (v := 0) C dX0_occurs_47 rfl ?_
      obtain rfl := Option.some.inj hm
      exact g_zret C (Or.inl rfl) dX0_occurs_48
    refine lp_ind1 (P := (fun l5 M => GW G X 6 (QX G X (.inl (some (vI res.1))) res.2) 10 [(0, vR 0 k0), (3, vI l3), (4, vI l4), (5, vI l5)] [] M)) (r := r10) ?_ fu l5 M hL10
    intro l5 M o10 hm K10
    unfold f_X0_occurs_b10 at hm
    refine g_iload C 3 dX0_occurs_10 rfl ?_
    refine g_aload_n C 0 dX0_occurs_12 rfl rfl ?_
    refine g_getr (k := k0) (k' := (3 * k0 + 7)) C (by decide) kf_X0_24 rfl rfl dX0_occurs_13 ?_
    refine g_iload C 2 dX0_occurs_16 rfl ?_
    obtain ⟨r18, hr18, hm⟩ := bnd_some hm
    refine g_callVi (As := [vI l4]) (rest := [vI l5]) C lk_X0_49 (k_X8_get X.2.1 G hl hG fu (3 * k0 + 7) l4 M r18 ((hG _ hk0).2 2 8 7 3 rfl) hr18) (by decide) rfl rfl rfl (Nat.le_of_ble_eq_true rfl) ⟨Nat.le_of_ble_eq_true rfl, Nat.le_of_ble_eq_true rfl⟩ dX0_occurs_18 ?_
    refine g_icmp_ge (tgt := 47) C dX0_occurs_21 (by decide) (fun h21 => ?_) (fun h21 => ?_)
    · have hm := ift hm h21
      obtain rfl := Option.some.inj hm
      exact g_sub [] rfl (g_pc rfl (hx10 r18.2 (K10.2 _ rfl)))
    · have hm := ife hm h21
      refine g_aload_n C 0 dX0_occurs_24 rfl rfl ?_
      refine g_getr (k := k0) (k' := k0) C (by decide) kf_X0_32 rfl rfl dX0_occurs_25 ?_
      refine g_iload C 2 dX0_occurs_28 rfl ?_
      refine g_iload C 3 dX0_occurs_30 rfl ?_
      obtain ⟨r32, hr32, hm⟩ := bnd_some hm
      refine g_callVi (As := [vI l4, vI l5]) (rest := []) C lk_X0_68 (k_X3_get X.2.1 G hl hG fu k0 l4 l5 r18.2 r32 ((hG _ hk0).2 3 3 0 1 rfl) hr32) (by decide) rfl rfl rfl (Nat.le_of_ble_eq_true rfl) ⟨Nat.le_of_ble_eq_true rfl, Nat.le_of_ble_eq_true rfl⟩ dX0_occurs_32 ?_
      refine g_iload_n C 1 dX0_occurs_35 rfl rfl ?_
      refine g_icmp_ne (tgt := 41) C dX0_occurs_36 (by decide) (fun h36 => ?_) (fun h36 => ?_)
      · have hm := ife hm h36
        refine g_iinc (ls' := [(5, vI (l5 + (1 : Int32))), (0, vR 0 k0), (3, vI l3), (4, vI l4)]) (v := l5 + (1 : Int32)) C 3 dX0_occurs_41 rfl (iv_p1 _) (by decide) rfl ?_
        refine g_goto (tgt := 10) C dX0_occurs_44 (by decide) ?_
        obtain rfl := Option.some.inj hm
        exact g_sub [1, 2, 3, 0] rfl (g_pc rfl (K10.1 (l5 + (1 : Int32)) r32.2 rfl))
      · have hm := ift hm h36
        refine g_iconst (v := 1) C dX0_occurs_39 rfl ?_
        obtain rfl := Option.some.inj hm
        have e10 := K10.2 _ rfl
        subst e10
        obtain rfl := Option.some.inj hk10
        exact g_zret C (Or.inr rfl) dX0_occurs_40
  unfold f_X0_occurs at hm
  refine g_iconst (v := 2) C dX0_occurs_0 rfl ?_
  refine g_iload_n C 1 dX0_occurs_1 rfl rfl ?_
  refine g_imul C dX0_occurs_2 ?_
  refine g_iload_n C 2 dX0_occurs_3 rfl rfl ?_
  refine g_iadd C dX0_occurs_4 ?_
  refine g_istore (ls' := [(4, vI (((2 : Int32) * l1) + l2)), (0, vR 0 k0), (1, vI l1), (2, vI l2), (3, vI l3)]) C dX0_occurs_5 (by decide) rfl ?_
  refine g_iconst (v := 0) C dX0_occurs_7 rfl ?_
  refine g_istore (ls' := [(5, vI (0 : Int32)), (4, vI (((2 : Int32) * l1) + l2)), (0, vR 0 k0), (1, vI l1), (2, vI l2), (3, vI l3)]) C dX0_occurs_8 (by decide) rfl ?_
  exact g_sub [2, 5, 1, 0] rfl (g_pc rfl (J10 l3 (((2 : Int32) * l1) + l2) (0 : Int32) M hm))
def f_X0_removeAllWith_j41 (fu : Nat) (k0 : Nat) (l1 : Int32) (l2 : Int32) (l3 : Int32) (M : Mem) : Option ((Int32 × Int32 × Mem) ⊕ (Int32 × Mem)) :=
  some (Sum.inl (l2, l3 + (1 : Int32), M))
def f_X0_removeAllWith_b4 (fu : Nat) (k0 : Nat) (l1 : Int32) (l2 : Int32) (l3 : Int32) (M : Mem) : Option ((Int32 × Int32 × Mem) ⊕ (Int32 × Mem)) :=
  if (M.1 0 k0 0) ≤ l3 then some (Sum.inr (l2, M)) else (f_X0_occurs fu k0 l3 (0 : Int32) l1 M).bind (fun r16 => if r16.1 = 0 then (f_X0_occurs fu k0 l3 (1 : Int32) l1 r16.2).bind (fun r26 => if r26.1 = 0 then (f_X0_move fu k0 l3 l2 r26.2).bind (fun r35 => f_X0_removeAllWith_j41 fu k0 l1 (l2 + (1 : Int32)) l3 r35) else f_X0_removeAllWith_j41 fu k0 l1 l2 l3 r26.2) else f_X0_removeAllWith_j41 fu k0 l1 l2 l3 r16.2)
def f_X0_removeAllWith_h4 (fu : Nat) (k0 : Nat)  (l1 : Int32) (l2 : Int32) (l3 : Int32) (M : Mem) : Option (Int32 × Mem) :=
  (lp_run (fun s => f_X0_removeAllWith_b4 fu k0 l1 s.1 s.2.1 s.2.2) fu (l2, l3, M)).bind (fun r4 => match r4 with
    | (l2, M) => some ((M.1 0 k0 0) - l2, (mI M 0 k0 0 l2)))
def f_X0_removeAllWith (fu : Nat) (k0 : Nat) (l1 : Int32) (M : Mem) : Option (Int32 × Mem) :=
  f_X0_removeAllWith_h4 fu k0 l1 (0 : Int32) (0 : Int32) M
set_option maxHeartbeats 4000000 in
set_option maxRecDepth 100000 in
theorem k_X0_removeAllWith (l : Launch) (G : GE) (hl : l.stackTraces = false) (hG : GOK G) (fu : Nat) (k0 : Nat) (l1 : Int32) (M : Mem) (res : Int32 × Mem) (hk0 : (0, k0) ∈ gids G) (hm : f_X0_removeAllWith fu k0 l1 M = some res) : CT l G yX0_removeAllWith cX0_removeAllWith 4 (some .int) 2 [vR 0 k0, vI l1] M (.inl (some (vI res.1))) res.2 := by
  refine ct_of [(0, vR 0 k0), (1, vI l1)] (by decide +kernel) hl hG (Nat.le_of_ble_eq_true rfl) rfl (List.forall_mem_cons.mpr ⟨Or.inl hk0, List.forall_mem_cons.mpr ⟨trivial, fun _ h => nomatch h⟩⟩) (List.forall_mem_cons.mpr ⟨Or.inl hk0, List.forall_mem_cons.mpr ⟨trivial, fun _ h => nomatch h⟩⟩) (fun X hX C => ?_)
  subst hX
  have Cl := C
  have J4 : ∀ (l1 : Int32) (l2 : Int32) (l3 : Int32) (M : Mem), f_X0_removeAllWith_h4 fu k0  l1 l2 l3 M = some res → GW G X 4 (QX G X (.inl (some (vI res.1))) res.2) 4 [(0, vR 0 k0), (1, vI l1), (2, vI l2), (3, vI l3)] [] M := by
    intro l1 l2 l3 M hm
    unfold f_X0_removeAllWith_h4 at hm
    obtain ⟨r4, hL4, hk4⟩ := bnd_some hm
    have hx4 : ∀ (l2 : Int32) (M : Mem), (l2, M) = r4 → GW G X 4 (QX G X (.inl (some (vI res.1))) res.2) 47 [(0, vR 0 k0), (2, vI l2)] [] M := by
      intro l2 M he
      subst he
      have hm := hk4
      try dsimp only at hm
      refine g_aload_n C 0 dX0_removeAllWith_47 rfl rfl ?_
      refine g_geti (k := k0) C (by decide) kf_X0_9 rfl dX0_removeAllWith_48 ?_
      refine g_iload_n C 1 dX0_removeAllWith_51 rfl rfl ?_
      refine g_isub C dX0_removeAllWith_52 ?_
      refine g_istore_n (ls' := [(3, vI ((M.1 0 k0 0) - l2)), (0, vR 0 k0), (2, vI l2)]) C dX0_removeAllWith_53 rfl (by decide) rfl ?_
      refine g_aload_n C 1 dX0_removeAllWith_54 rfl rfl ?_
      refine g_iload_n C 2 dX0_removeAllWith_55 rfl rfl ?_
      refine g_puti C (by decide) kf_X0_9 rfl rfl rfl dX0_removeAllWith_56 ?_
      refine g_iload_n C 0 dX0_removeAllWith_59 rfl rfl ?_
      obtain rfl := Option.some.inj hm
      exact g_iret C dX0_removeAllWith_60
    refine lp_ind2 (P := (fun l2 l3 M => GW G X 4 (QX G X (.inl (some (vI res.1))) res.2) 4 [(0, vR 0 k0), (1, vI l1), (2, vI l2), (3, vI l3)] [] M)) (r := r4) ?_ fu l2 l3 M hL4
    intro l2 l3 M o4 hm K4
    have J41 : ∀ (l2 : Int32) (l3 : Int32) (M : Mem), f_X0_removeAllWith_j41 fu k0 l1 l2 l3 M = some o4 → GW G X 4 (QX G X (.inl (some (vI res.1))) res.2) 41 [(0, vR 0 k0), (1, vI l1), (2, vI l2), (3, vI l3)] [] M := by
      intro l2 l3 M hm
      unfold f_X0_removeAllWith_j41 at hm
      refine g_iinc (ls' := [(3, vI (l3 + (1 : Int32))), (0, vR 0 k0), (1, vI l1), (2, vI l2)]) (v := l3 + (1 : Int32)) C 3 dX0_removeAllWith_41 rfl (iv_p1 _) (by decide) rfl ?_
      refine g_goto (tgt := 4) C dX0_removeAllWith_44 (by decide) ?_
      obtain rfl := Option.some.inj hm
      exact g_sub [1, 2, 3, 0] rfl (g_pc rfl (K4.1 l2 (l3 + (1 : Int32)) M rfl))
    unfold f_X0_removeAllWith_b4 at hm
    refine g_iload_n C 3 dX0_removeAllWith_4 rfl rfl ?_
    refine g_aload_n C 0 dX0_removeAllWith_5 rfl rfl ?_
    refine g_geti (k := k0) C (by decide) kf_X0_9 rfl dX0_removeAllWith_6 ?_
    refine g_icmp_ge (tgt := 47) C dX0_removeAllWith_9 (by decide) (fun h9 => ?_) (fun h9 => ?_)
    · have hm := ift hm h9
      obtain rfl := Option.some.inj hm
      exact g_sub [0, 2] rfl (g_pc rfl (hx4 l2 M (K4.2 _ rfl)))
    · have hm := ife hm h9
      refine g_aload_n C 0 dX0_removeAllWith_12 rfl rfl ?_
      refine g_iload_n C 3 dX0_removeAllWith_13 rfl rfl ?_
      refine g_iconst (v := 0) C dX0_removeAllWith_14 rfl ?_
      refine g_iload_n C 1 dX0_removeAllWith_15 rfl rfl ?_
      obtain ⟨r16, hr16, hm⟩ := bnd_some hm
      refine g_callVi (As := [vI l3, vI (0 : Int32), vI l1]) (rest := []) C lk_X0_59 (k_X0_occurs X.2.1 G hl hG fu k0 l3 (0 : Int32) l1 M r16 hk0 hr16) (by decide) rfl rfl rfl (Nat.le_of_ble_eq_true rfl) ⟨Nat.le_of_ble_eq_true rfl, Nat.le_of_ble_eq_true rfl⟩ dX0_removeAllWith_16 ?_
      refine g_if_ne (tgt := 41) C dX0_removeAllWith_19 (by decide) (fun h19 => ?_) (fun h19 => ?_)
      · have hm := ife hm h19
        exact g_sub [0, 1, 2, 3] rfl (g_pc rfl (J41 l2 l3 r16.2 hm))
      · have hm := ift hm h19
        refine g_aload_n C 0 dX0_removeAllWith_22 rfl rfl ?_
        refine g_iload_n C 3 dX0_removeAllWith_23 rfl rfl ?_
        refine g_iconst (v := 1) C dX0_removeAllWith_24 rfl ?_
        refine g_iload_n C 1 dX0_removeAllWith_25 rfl rfl ?_
        obtain ⟨r26, hr26, hm⟩ := bnd_some hm
        refine g_callVi (As := [vI l3, vI (1 : Int32), vI l1]) (rest := []) C lk_X0_59 (k_X0_occurs X.2.1 G hl hG fu k0 l3 (1 : Int32) l1 r16.2 r26 hk0 hr26) (by decide) rfl rfl rfl (Nat.le_of_ble_eq_true rfl) ⟨Nat.le_of_ble_eq_true rfl, Nat.le_of_ble_eq_true rfl⟩ dX0_removeAllWith_26 ?_
        refine g_if_ne (tgt := 41) C dX0_removeAllWith_29 (by decide) (fun h29 => ?_) (fun h29 => ?_)
        · have hm := ife hm h29
          exact g_sub [0, 1, 2, 3] rfl (g_pc rfl (J41 l2 l3 r26.2 hm))
        · have hm := ift hm h29
          refine g_aload_n C 0 dX0_removeAllWith_32 rfl rfl ?_
          refine g_iload_n C 3 dX0_removeAllWith_33 rfl rfl ?_
          refine g_iload_n C 2 dX0_removeAllWith_34 rfl rfl ?_
          obtain ⟨r35, hr35, hm⟩ := bnd_some hm
          refine g_callVv (As := [vI l3, vI l2]) (rest := []) C lk_X0_56 (k_X0_move X.2.1 G hl hG fu k0 l3 l2 r26.2 r35 hk0 hr35) (by decide) rfl rfl rfl (Nat.le_of_ble_eq_true rfl) ⟨Nat.le_of_ble_eq_true rfl, Nat.le_of_ble_eq_true rfl⟩ dX0_removeAllWith_35 ?_
          refine g_iinc (ls' := [(2, vI (l2 + (1 : Int32))), (0, vR 0 k0), (1, vI l1), (3, vI l3)]) (v := l2 + (1 : Int32)) C 2 dX0_removeAllWith_38 rfl (iv_p1 _) (by decide) rfl ?_
          exact g_sub [1, 2, 0, 3] rfl (g_pc rfl (J41 (l2 + (1 : Int32)) l3 r35 hm))
  unfold f_X0_removeAllWith at hm
  refine g_iconst (v := 0) C dX0_removeAllWith_0 rfl ?_
  refine g_istore_n (ls' := [(2, vI (0 : Int32)), (0, vR 0 k0), (1, vI l1)]) C dX0_removeAllWith_1 rfl (by decide) rfl ?_
  refine g_iconst (v := 0) C dX0_removeAllWith_2 rfl ?_
  refine g_istore_n (ls' := [(3, vI (0 : Int32)), (2, vI (0 : Int32)), (0, vR 0 k0), (1, vI l1)]) C dX0_removeAllWith_3 rfl (by decide) rfl ?_
  exact g_sub [2, 3, 1, 0] rfl (g_pc rfl (J4 l1 (0 : Int32) (0 : Int32) M hm))
def f_X0_renumber_b26 (fu : Nat) (k0 : Nat) (l2 : Int32) (l3 : Int32) (l4 : Int32) (M : Mem) : Option ((Int32 × Int32 × Mem) ⊕ (Int32 × Mem)) :=
  (f_X8_get fu (3 * k0 + 7) l2 M).bind (fun r33 => if r33.1 ≤ l4 then some (Sum.inr (l3, r33.2)) else (f_X3_get fu k0 l2 l4 r33.2).bind (fun r51 => (f_X3_get fu 3 l3 r51.1 r51.2).bind (fun r54 => some (Sum.inl (r54.1, l4 + (1 : Int32), r54.2)))))
def f_X0_renumber_h26 (fu : Nat) (k0 : Nat)  (l2 : Int32) (l3 : Int32) (l4 : Int32) (M : Mem) : Option ((Int32 × Mem) ⊕ (Mem)) :=
  (lp_run (fun s => f_X0_renumber_b26 fu k0 l2 s.1 s.2.1 s.2.2) fu (l3, l4, M)).bind (fun r26 => match r26 with
    | (l3, M) => (f_X8_set fu (3 * k0 + 8) l2 l3 M).bind (fun r70 => some (Sum.inl (l2 + (1 : Int32), r70))))
def f_X0_renumber_b2 (fu : Nat) (k0 : Nat)  (l2 : Int32) (M : Mem) : Option ((Int32 × Mem) ⊕ (Mem)) :=
  if ((2 : Int32) * (M.1 0 k0 0)) ≤ l2 then some (Sum.inr M) else (f_X8_get fu (3 * k0 + 6) (l2 / (2 : Int32)) M).bind (fun r19 => f_X0_renumber_h26 fu k0 l2 r19.1 (0 : Int32) r19.2)
def f_X0_renumber_h2 (fu : Nat) (k0 : Nat)  (l2 : Int32) (M : Mem) : Option (Mem) :=
  (lp_run (fun s => f_X0_renumber_b2 fu k0  s.1 s.2) fu (l2, M)).bind (fun M => some M)
def f_X0_renumber (fu : Nat) (k0 : Nat) (M : Mem) : Option (Mem) :=
  f_X0_renumber_h2 fu k0 (0 : Int32) M
set_option maxHeartbeats 4000000 in
set_option maxRecDepth 100000 in
theorem k_X0_renumber (l : Launch) (G : GE) (hl : l.stackTraces = false) (hG : GOK G) (fu : Nat) (k0 : Nat) (M : Mem) (res : Mem) (hk0 : (0, k0) ∈ gids G) (hk1 : (6, 0) ∈ gids G) (hm : f_X0_renumber fu k0 M = some res) : CT l G yX0_renumber cX0_renumber 5 none 1 [vR 0 k0, vR 6 0] M (.inl none) res := by
  refine ct_of [(0, vR 0 k0), (1, vR 6 0)] (by decide +kernel) hl hG (Nat.le_of_ble_eq_true rfl) rfl (List.forall_mem_cons.mpr ⟨Or.inl hk0, List.forall_mem_cons.mpr ⟨Or.inl hk1, fun _ h => nomatch h⟩⟩) (List.forall_mem_cons.mpr ⟨Or.inl hk0, List.forall_mem_cons.mpr ⟨Or.inl hk1, fun _ h => nomatch h⟩⟩) (fun X hX C => ?_)
  subst hX
  have Cl := C
  have J2 : ∀ (l2 : Int32) (M : Mem), f_X0_renumber_h2 fu k0  l2 M = some res → GW G X 5 (QX G X (.inl none) res) 2 [(0, vR 0 k0), (1, vR 6 0), (2, vI l2)] [] M := by
    intro l2 M hm
    unfold f_X0_renumber_h2 at hm
    obtain ⟨r2, hL2, hk2⟩ := bnd_some hm
    have hx2 : ∀ (M : Mem), M = r2 → GW G X 5 (QX G X (.inl none) res) 79 [] [] M := by
      intro M he
      subst he
      have hm := hk2
      try dsimp only at hm
      obtain rfl := Option.some.inj hm
      exact g_vret C dX0_renumber_79
    refine lp_ind1 (P := (fun l2 M => GW G X 5 (QX G X (.inl none) res) 2 [(0, vR 0 k0), (1, vR 6 0), (2, vI l2)] [] M)) (r := r2) ?_ fu l2 M hL2
    intro l2 M o2 hm K2
    have J26 : ∀ (l2 : Int32) (l3 : Int32) (l4 : Int32) (M : Mem), f_X0_renumber_h26 fu k0  l2 l3 l4 M = some o2 → GW G X 5 (QX G X (.inl none) res) 26 [(0, vR 0 k0), (1, vR 6 0), (2, vI l2), (3, vI l3), (4, vI l4)] [] M := by
      intro l2 l3 l4 M hm
      unfold f_X0_renumber_h26 at hm
      obtain ⟨r26, hL26, hk26⟩ := bnd_some hm
      have hx26 : ∀ (l3 : Int32) (M : Mem), (l3, M) = r26 → GW G X 5 (QX G X (.inl none) res) 64 [(0, vR 0 k0), (1, vR 6 0), (2, vI l2), (3, vI l3)] [] M := by
        intro l3 M he
        subst he
        have hm := hk26
        try dsimp only at hm
        refine g_aload_n C 0 dX0_renumber_64 rfl rfl ?_
        refine g_getr (k := k0) (k' := (3 * k0 + 8)) C (by decide) kf_X0_36 rfl rfl dX0_renumber_65 ?_
        refine g_iload_n C 2 dX0_renumber_68 rfl rfl ?_
        refine g_iload_n C 3 dX0_renumber_69 rfl rfl ?_
        obtain ⟨r70, hr70, hm⟩ := bnd_some hm
        refine g_callVv (As := [vI l2, vI l3]) (rest := []) C lk_X0_46 (k_X8_set X.2.1 G hl hG fu (3 * k0 + 8) l2 l3 M r70 ((hG _ hk0).2 4 8 8 3 rfl) hr70) (by decide) rfl rfl rfl (Nat.le_of_ble_eq_true rfl) ⟨Nat.le_of_ble_eq_true rfl, Nat.le_of_ble_eq_true rfl⟩ dX0_renumber_70 ?_
        refine g_iinc (ls' := [(2, vI (l2 + (1 : Int32))), (0, vR 0 k0), (1, vR 6 0), (3, vI l3)]) (v := l2 + (1 : Int32)) C 2 dX0_renumber_73 rfl (iv_p1 _) (by decide) rfl ?_
        refine g_goto (tgt := 2) C dX0_renumber_76 (by decide) ?_
        obtain rfl := Option.some.inj hm
        exact g_sub [1, 2, 0] rfl (g_pc rfl (K2.1 (l2 + (1 : Int32)) r70 rfl))
      refine lp_ind2 (P := (fun l3 l4 M => GW G X 5 (QX G X (.inl none) res) 26 [(0, vR 0 k0), (1, vR 6 0), (2, vI l2), (3, vI l3), (4, vI l4)] [] M)) (r := r26) ?_ fu l3 l4 M hL26
      intro l3 l4 M o26 hm K26
      unfold f_X0_renumber_b26 at hm
      refine g_iload C 4 dX0_renumber_26 rfl ?_
      refine g_aload_n C 0 dX0_renumber_28 rfl rfl ?_
      refine g_getr (k := k0) (k' := (3 * k0 + 7)) C (by decide) kf_X0_24 rfl rfl dX0_renumber_29 ?_
      refine g_iload_n C 2 dX0_renumber_32 rfl rfl ?_
      obtain ⟨r33, hr33, hm⟩ := bnd_some hm
      refine g_callVi (As := [vI l2]) (rest := [vI l4]) C lk_X0_49 (k_X8_get X.2.1 G hl hG fu (3 * k0 + 7) l2 M r33 ((hG _ hk0).2 2 8 7 3 rfl) hr33) (by decide) rfl rfl rfl (Nat.le_of_ble_eq_true rfl) ⟨Nat.le_of_ble_eq_true rfl, Nat.le_of_ble_eq_true rfl⟩ dX0_renumber_33 ?_
      refine g_icmp_ge (tgt := 64) C dX0_renumber_36 (by decide) (fun h36 => ?_) (fun h36 => ?_)
      · have hm := ift hm h36
        obtain rfl := Option.some.inj hm
        exact g_sub [0, 1, 2, 3] rfl (g_pc rfl (hx26 l3 r33.2 (K26.2 _ rfl)))
      · have hm := ife hm h36
        refine g_aload_n C 1 dX0_renumber_39 rfl rfl ?_
        refine g_getrN (k := 0) (k' := 3) C (by decide) kf_X0_63 rfl rfl dX0_renumber_40 ?_
        refine g_iload_n C 3 dX0_renumber_43 rfl rfl ?_
        refine g_aload_n C 0 dX0_renumber_44 rfl rfl ?_
        refine g_getr (k := k0) (k' := k0) C (by decide) kf_X0_32 rfl rfl dX0_renumber_45 ?_
        refine g_iload_n C 2 dX0_renumber_48 rfl rfl ?_
        refine g_iload C 4 dX0_renumber_49 rfl ?_
        obtain ⟨r51, hr51, hm⟩ := bnd_some hm
        refine g_callVi (As := [vI l2, vI l4]) (rest := [vI l3, vR 3 3]) C lk_X0_68 (k_X3_get X.2.1 G hl hG fu k0 l2 l4 r33.2 r51 ((hG _ hk0).2 3 3 0 1 rfl) hr51) (by decide) rfl rfl rfl (Nat.le_of_ble_eq_true rfl) ⟨Nat.le_of_ble_eq_true rfl, Nat.le_of_ble_eq_true rfl⟩ dX0_renumber_51 ?_
        obtain ⟨r54, hr54, hm⟩ := bnd_some hm
        refine g_callVi (As := [vI l3, vI r51.1]) (rest := []) C lk_X0_68 (k_X3_get X.2.1 G hl hG fu 3 l3 r51.1 r51.2 r54 ((hG _ hk1).2 6 3 3 0 rfl) hr54) (by decide) rfl rfl rfl (Nat.le_of_ble_eq_true rfl) ⟨Nat.le_of_ble_eq_true rfl, Nat.le_of_ble_eq_true rfl⟩ dX0_renumber_54 ?_
        refine g_istore_n (ls' := [(3, vI r54.1), (0, vR 0 k0), (1, vR 6 0), (2, vI l2), (4, vI l4)]) C dX0_renumber_57 rfl (by decide) rfl ?_
        refine g_iinc (ls' := [(4, vI (l4 + (1 : Int32))), (3, vI r54.1), (0, vR 0 k0), (1, vR 6 0), (2, vI l2)]) (v := l4 + (1 : Int32)) C 4 dX0_renumber_58 rfl (iv_p1 _) (by decide) rfl ?_
        refine g_goto (tgt := 26) C dX0_renumber_61 (by decide) ?_
        obtain rfl := Option.some.inj hm
        exact g_sub [2, 3, 4, 1, 0] rfl (g_pc rfl (K26.1 r54.1 (l4 + (1 : Int32)) r54.2 rfl))
    unfold f_X0_renumber_b2 at hm
    refine g_iload_n C 2 dX0_renumber_2 rfl rfl ?_
    refine g_iconst (v := 2) C dX0_renumber_3 rfl ?_
    refine g_aload_n C 0 dX0_renumber_4 rfl rfl ?_
    refine g_geti (k := k0) C (by decide) kf_X0_9 rfl dX0_renumber_5 ?_
    refine g_imul C dX0_renumber_8 ?_
    refine g_icmp_ge (tgt := 79) C dX0_renumber_9 (by decide) (fun h9 => ?_) (fun h9 => ?_)
    · have hm := ift hm h9
      obtain rfl := Option.some.inj hm
      exact g_sub [] rfl (g_pc rfl (hx2 M (K2.2 _ rfl)))
    · have hm := ife hm h9
      refine g_aload_n C 0 dX0_renumber_12 rfl rfl ?_
      refine g_getr (k := k0) (k' := (3 * k0 + 6)) C (by decide) kf_X0_20 rfl rfl dX0_renumber_13 ?_
      refine g_iload_n C 2 dX0_renumber_16 rfl rfl ?_
      refine g_iconst (v := 2) C dX0_renumber_17 rfl ?_
      refine g_idiv C dX0_renumber_18 (by decide) ?_
      obtain ⟨r19, hr19, hm⟩ := bnd_some hm
      refine g_callVi (As := [vI (l2 / (2 : Int32))]) (rest := []) C lk_X0_49 (k_X8_get X.2.1 G hl hG fu (3 * k0 + 6) (l2 / (2 : Int32)) M r19 ((hG _ hk0).2 1 8 6 3 rfl) hr19) (by decide) rfl rfl rfl (Nat.le_of_ble_eq_true rfl) ⟨Nat.le_of_ble_eq_true rfl, Nat.le_of_ble_eq_true rfl⟩ dX0_renumber_19 ?_
      refine g_istore_n (ls' := [(3, vI r19.1), (0, vR 0 k0), (1, vR 6 0), (2, vI l2)]) C dX0_renumber_22 rfl (by decide) rfl ?_
      refine g_iconst (v := 0) C dX0_renumber_23 rfl ?_
      refine g_istore (ls' := [(4, vI (0 : Int32)), (3, vI r19.1), (0, vR 0 k0), (1, vR 6 0), (2, vI l2)]) C dX0_renumber_24 (by decide) rfl ?_
      exact g_sub [2, 3, 4, 1, 0] rfl (g_pc rfl (J26 l2 r19.1 (0 : Int32) r19.2 hm))
  unfold f_X0_renumber at hm
  refine g_iconst (v := 0) C dX0_renumber_0 rfl ?_
  refine g_istore_n (ls' := [(2, vI (0 : Int32)), (0, vR 0 k0), (1, vR 6 0)]) C dX0_renumber_1 rfl (by decide) rfl ?_
  exact g_sub [1, 2, 0] rfl (g_pc rfl (J2 (0 : Int32) M hm))
def f_X0_pathOf (fu : Nat) (k0 : Nat) (l1 : Int32) (l2 : Int32) (M : Mem) : Option (Int32 × Mem) :=
  (f_X8_get fu (3 * k0 + 8) (((2 : Int32) * l1) + l2) M).bind (fun r9 => some (r9.1, r9.2))
set_option maxHeartbeats 4000000 in
set_option maxRecDepth 100000 in
theorem k_X0_pathOf (l : Launch) (G : GE) (hl : l.stackTraces = false) (hG : GOK G) (fu : Nat) (k0 : Nat) (l1 : Int32) (l2 : Int32) (M : Mem) (res : Int32 × Mem) (hk0 : (0, k0) ∈ gids G) (hm : f_X0_pathOf fu k0 l1 l2 M = some res) : CT l G yX0_pathOf cX0_pathOf 3 (some .int) 1 [vR 0 k0, vI l1, vI l2] M (.inl (some (vI res.1))) res.2 := by
  refine ct_of [(0, vR 0 k0), (1, vI l1), (2, vI l2)] (by decide +kernel) hl hG (Nat.le_of_ble_eq_true rfl) rfl (List.forall_mem_cons.mpr ⟨Or.inl hk0, List.forall_mem_cons.mpr ⟨trivial, List.forall_mem_cons.mpr ⟨trivial, fun _ h => nomatch h⟩⟩⟩) (List.forall_mem_cons.mpr ⟨Or.inl hk0, List.forall_mem_cons.mpr ⟨trivial, List.forall_mem_cons.mpr ⟨trivial, fun _ h => nomatch h⟩⟩⟩) (fun X hX C => ?_)
  subst hX
  have Cl := C
  unfold f_X0_pathOf at hm
  refine g_aload_n C 0 dX0_pathOf_0 rfl rfl ?_
  refine g_getr (k := k0) (k' := (3 * k0 + 8)) C (by decide) kf_X0_36 rfl rfl dX0_pathOf_1 ?_
  refine g_iconst (v := 2) C dX0_pathOf_4 rfl ?_
  refine g_iload_n C 1 dX0_pathOf_5 rfl rfl ?_
  refine g_imul C dX0_pathOf_6 ?_
  refine g_iload_n C 2 dX0_pathOf_7 rfl rfl ?_
  refine g_iadd C dX0_pathOf_8 ?_
  obtain ⟨r9, hr9, hm⟩ := bnd_some hm
  refine g_callVi (As := [vI (((2 : Int32) * l1) + l2)]) (rest := []) C lk_X0_49 (k_X8_get X.2.1 G hl hG fu (3 * k0 + 8) (((2 : Int32) * l1) + l2) M r9 ((hG _ hk0).2 4 8 8 3 rfl) hr9) (by decide) rfl rfl rfl (Nat.le_of_ble_eq_true rfl) ⟨Nat.le_of_ble_eq_true rfl, Nat.le_of_ble_eq_true rfl⟩ dX0_pathOf_9 ?_
  obtain rfl := Option.some.inj hm
  exact g_iret C dX0_pathOf_12
def f_X8_fill_b2 (fu : Nat) (k0 : Nat) (l1 : Int32) (l2 : Int32) (M : Mem) : Option ((Int32 × Mem) ⊕ (Mem)) :=
  if (nI (alen 20 k0)) ≤ l2 then some (Sum.inr M) else if inb l2 (alen 20 k0) then some (Sum.inl (l2 + (1 : Int32), (mI M 20 k0 l2.toNatClampNeg l1))) else none
def f_X8_fill_h2 (fu : Nat) (k0 : Nat)  (l1 : Int32) (l2 : Int32) (M : Mem) : Option (Mem) :=
  (lp_run (fun s => f_X8_fill_b2 fu k0 l1 s.1 s.2) fu (l2, M)).bind (fun M => some M)
def f_X8_fill (fu : Nat) (k0 : Nat) (l1 : Int32) (M : Mem) : Option (Mem) :=
  f_X8_fill_h2 fu k0 l1 (0 : Int32) M
set_option maxHeartbeats 4000000 in
set_option maxRecDepth 100000 in
theorem k_X8_fill (l : Launch) (G : GE) (hl : l.stackTraces = false) (hG : GOK G) (fu : Nat) (k0 : Nat) (l1 : Int32) (M : Mem) (res : Mem) (hk0 : (8, k0) ∈ gids G) (hm : f_X8_fill fu k0 l1 M = some res) : CT l G yX8_fill cX8_fill 3 none 0 [vR 8 k0, vI l1] M (.inl none) res := by
  refine ct_of [(0, vR 8 k0), (1, vI l1)] (by decide +kernel) hl hG (Nat.le_of_ble_eq_true rfl) rfl (List.forall_mem_cons.mpr ⟨Or.inl hk0, List.forall_mem_cons.mpr ⟨trivial, fun _ h => nomatch h⟩⟩) (List.forall_mem_cons.mpr ⟨Or.inl hk0, List.forall_mem_cons.mpr ⟨trivial, fun _ h => nomatch h⟩⟩) (fun X hX C => ?_)
  subst hX
  have Cl := C
  have J2 : ∀ (l1 : Int32) (l2 : Int32) (M : Mem), f_X8_fill_h2 fu k0  l1 l2 M = some res → GW G X 3 (QX G X (.inl none) res) 2 [(0, vR 8 k0), (1, vI l1), (2, vI l2)] [] M := by
    intro l1 l2 M hm
    unfold f_X8_fill_h2 at hm
    obtain ⟨r2, hL2, hk2⟩ := bnd_some hm
    have hx2 : ∀ (M : Mem), M = r2 → GW G X 3 (QX G X (.inl none) res) 24 [] [] M := by
      intro M he
      subst he
      have hm := hk2
      try dsimp only at hm
      obtain rfl := Option.some.inj hm
      exact g_vret C dX8_fill_24
    refine lp_ind1 (P := (fun l2 M => GW G X 3 (QX G X (.inl none) res) 2 [(0, vR 8 k0), (1, vI l1), (2, vI l2)] [] M)) (r := r2) ?_ fu l2 M hL2
    intro l2 M o2 hm K2
    unfold f_X8_fill_b2 at hm
    refine g_iload_n C 2 dX8_fill_2 rfl rfl ?_
    refine g_aload_n C 0 dX8_fill_3 rfl rfl ?_
    refine g_getr (k := k0) (k' := k0) C (by decide) kf_X8_9 rfl rfl dX8_fill_4 ?_
    refine g_alen C (by decide) dX8_fill_7 ?_
    refine g_icmp_ge (tgt := 24) C dX8_fill_8 (by decide) (fun h8 => ?_) (fun h8 => ?_)
    · have hm := ift hm h8
      obtain rfl := Option.some.inj hm
      exact g_sub [] rfl (g_pc rfl (hx2 M (K2.2 _ rfl)))
    · have hm := ife hm h8
      refine g_aload_n C 0 dX8_fill_11 rfl rfl ?_
      refine g_getr (k := k0) (k' := k0) C (by decide) kf_X8_9 rfl rfl dX8_fill_12 ?_
      refine g_iload_n C 2 dX8_fill_15 rfl rfl ?_
      refine g_iload_n C 1 dX8_fill_16 rfl rfl ?_
      obtain ⟨hi17, hm⟩ := ifn hm
      refine g_iast C (by decide) hi17 dX8_fill_17 ?_
      refine g_iinc (ls' := [(2, vI (l2 + (1 : Int32))), (0, vR 8 k0), (1, vI l1)]) (v := l2 + (1 : Int32)) C 2 dX8_fill_18 rfl (iv_p1 _) (by decide) rfl ?_
      refine g_goto (tgt := 2) C dX8_fill_21 (by decide) ?_
      obtain rfl := Option.some.inj hm
      exact g_sub [1, 2, 0] rfl (g_pc rfl (K2.1 (l2 + (1 : Int32)) (mI M 20 k0 l2.toNatClampNeg l1) rfl))
  unfold f_X8_fill at hm
  refine g_iconst (v := 0) C dX8_fill_0 rfl ?_
  refine g_istore_n (ls' := [(2, vI (0 : Int32)), (0, vR 8 k0), (1, vI l1)]) C dX8_fill_1 rfl (by decide) rfl ?_
  exact g_sub [1, 2, 0] rfl (g_pc rfl (J2 l1 (0 : Int32) M hm))
def f_X1_clear (fu : Nat) (k0 : Nat) (M : Mem) : Option (Mem) :=
  (f_X8_fill fu (2 * k0 + 12) (2 : Int32) M).bind (fun r5 => some r5)
set_option maxHeartbeats 4000000 in
set_option maxRecDepth 100000 in
theorem k_X1_clear (l : Launch) (G : GE) (hl : l.stackTraces = false) (hG : GOK G) (fu : Nat) (k0 : Nat) (M : Mem) (res : Mem) (hk0 : (1, k0) ∈ gids G) (hm : f_X1_clear fu k0 M = some res) : CT l G yX1_clear cX1_clear 1 none 1 [vR 1 k0] M (.inl none) res := by
  refine ct_of [(0, vR 1 k0)] (by decide +kernel) hl hG (Nat.le_of_ble_eq_true rfl) rfl (List.forall_mem_cons.mpr ⟨Or.inl hk0, fun _ h => nomatch h⟩) (List.forall_mem_cons.mpr ⟨Or.inl hk0, fun _ h => nomatch h⟩) (fun X hX C => ?_)
  subst hX
  have Cl := C
  unfold f_X1_clear at hm
  refine g_aload_n C 0 dX1_clear_0 rfl rfl ?_
  refine g_getr (k := k0) (k' := (2 * k0 + 12)) C (by decide) kf_X1_14 rfl rfl dX1_clear_1 ?_
  refine g_iconst (v := 2) C dX1_clear_4 rfl ?_
  obtain ⟨r5, hr5, hm⟩ := bnd_some hm
  refine g_callVv (As := [vI (2 : Int32)]) (rest := []) C lk_X1_23 (k_X8_fill X.2.1 G hl hG fu (2 * k0 + 12) (2 : Int32) M r5 ((hG _ hk0).2 0 8 12 2 rfl) hr5) (by decide) rfl rfl rfl (Nat.le_of_ble_eq_true rfl) ⟨Nat.le_of_ble_eq_true rfl, Nat.le_of_ble_eq_true rfl⟩ dX1_clear_5 ?_
  obtain rfl := Option.some.inj hm
  exact g_vret C dX1_clear_8
def f_X1_become (fu : Nat) (k0 : Nat) (k1 : Nat) (M : Mem) : Option (Mem) :=
  (f_X8_copyFrom fu (2 * k0 + 12) (2 * k1 + 12) M).bind (fun r8 => (f_X8_copyFrom fu (2 * k0 + 13) (2 * k1 + 13) r8).bind (fun r19 => some r19))
set_option maxHeartbeats 4000000 in
set_option maxRecDepth 100000 in
theorem k_X1_become (l : Launch) (G : GE) (hl : l.stackTraces = false) (hG : GOK G) (fu : Nat) (k0 : Nat) (k1 : Nat) (M : Mem) (res : Mem) (hk0 : (1, k0) ∈ gids G) (hk1 : (1, k1) ∈ gids G) (hm : f_X1_become fu k0 k1 M = some res) : CT l G yX1_become cX1_become 2 none 2 [vR 1 k0, vR 1 k1] M (.inl none) res := by
  refine ct_of [(0, vR 1 k0), (1, vR 1 k1)] (by decide +kernel) hl hG (Nat.le_of_ble_eq_true rfl) rfl (List.forall_mem_cons.mpr ⟨Or.inl hk0, List.forall_mem_cons.mpr ⟨Or.inl hk1, fun _ h => nomatch h⟩⟩) (List.forall_mem_cons.mpr ⟨Or.inl hk0, List.forall_mem_cons.mpr ⟨Or.inl hk1, fun _ h => nomatch h⟩⟩) (fun X hX C => ?_)
  subst hX
  have Cl := C
  unfold f_X1_become at hm
  refine g_aload_n C 0 dX1_become_0 rfl rfl ?_
  refine g_getr (k := k0) (k' := (2 * k0 + 12)) C (by decide) kf_X1_14 rfl rfl dX1_become_1 ?_
  refine g_aload_n C 1 dX1_become_4 rfl rfl ?_
  refine g_getr (k := k1) (k' := (2 * k1 + 12)) C (by decide) kf_X1_14 rfl rfl dX1_become_5 ?_
  obtain ⟨r8, hr8, hm⟩ := bnd_some hm
  refine g_callVv (As := [vR 8 (2 * k1 + 12)]) (rest := []) C lk_X1_26 (k_X8_copyFrom X.2.1 G hl hG fu (2 * k0 + 12) (2 * k1 + 12) M r8 ((hG _ hk0).2 0 8 12 2 rfl) ((hG _ hk1).2 0 8 12 2 rfl) hr8) (by decide) rfl rfl rfl (Nat.le_of_ble_eq_true rfl) ⟨Nat.le_of_ble_eq_true rfl, Nat.le_of_ble_eq_true rfl⟩ dX1_become_8 ?_
  refine g_aload_n C 0 dX1_become_11 rfl rfl ?_
  refine g_getr (k := k0) (k' := (2 * k0 + 13)) C (by decide) kf_X1_20 rfl rfl dX1_become_12 ?_
  refine g_aload_n C 1 dX1_become_15 rfl rfl ?_
  refine g_getr (k := k1) (k' := (2 * k1 + 13)) C (by decide) kf_X1_20 rfl rfl dX1_become_16 ?_
  obtain ⟨r19, hr19, hm⟩ := bnd_some hm
  refine g_callVv (As := [vR 8 (2 * k1 + 13)]) (rest := []) C lk_X1_26 (k_X8_copyFrom X.2.1 G hl hG fu (2 * k0 + 13) (2 * k1 + 13) r8 r19 ((hG _ hk0).2 1 8 13 2 rfl) ((hG _ hk1).2 1 8 13 2 rfl) hr19) (by decide) rfl rfl rfl (Nat.le_of_ble_eq_true rfl) ⟨Nat.le_of_ble_eq_true rfl, Nat.le_of_ble_eq_true rfl⟩ dX1_become_19 ?_
  obtain rfl := Option.some.inj hm
  exact g_vret C dX1_become_22
def f_X1_size (fu : Nat) (k0 : Nat) (l1 : Int32) (M : Mem) : Option (Int32 × Mem) :=
  (f_X8_get fu (2 * k0 + 12) l1 M).bind (fun r5 => some (r5.1, r5.2))
set_option maxHeartbeats 4000000 in
set_option maxRecDepth 100000 in
theorem k_X1_size (l : Launch) (G : GE) (hl : l.stackTraces = false) (hG : GOK G) (fu : Nat) (k0 : Nat) (l1 : Int32) (M : Mem) (res : Int32 × Mem) (hk0 : (1, k0) ∈ gids G) (hm : f_X1_size fu k0 l1 M = some res) : CT l G yX1_size cX1_size 2 (some .int) 1 [vR 1 k0, vI l1] M (.inl (some (vI res.1))) res.2 := by
  refine ct_of [(0, vR 1 k0), (1, vI l1)] (by decide +kernel) hl hG (Nat.le_of_ble_eq_true rfl) rfl (List.forall_mem_cons.mpr ⟨Or.inl hk0, List.forall_mem_cons.mpr ⟨trivial, fun _ h => nomatch h⟩⟩) (List.forall_mem_cons.mpr ⟨Or.inl hk0, List.forall_mem_cons.mpr ⟨trivial, fun _ h => nomatch h⟩⟩) (fun X hX C => ?_)
  subst hX
  have Cl := C
  unfold f_X1_size at hm
  refine g_aload_n C 0 dX1_size_0 rfl rfl ?_
  refine g_getr (k := k0) (k' := (2 * k0 + 12)) C (by decide) kf_X1_14 rfl rfl dX1_size_1 ?_
  refine g_iload_n C 1 dX1_size_4 rfl rfl ?_
  obtain ⟨r5, hr5, hm⟩ := bnd_some hm
  refine g_callVi (As := [vI l1]) (rest := []) C lk_X1_30 (k_X8_get X.2.1 G hl hG fu (2 * k0 + 12) l1 M r5 ((hG _ hk0).2 0 8 12 2 rfl) hr5) (by decide) rfl rfl rfl (Nat.le_of_ble_eq_true rfl) ⟨Nat.le_of_ble_eq_true rfl, Nat.le_of_ble_eq_true rfl⟩ dX1_size_5 ?_
  obtain rfl := Option.some.inj hm
  exact g_iret C dX1_size_8
def f_X1_resize (fu : Nat) (k0 : Nat) (l1 : Int32) (l2 : Int32) (M : Mem) : Option (Mem) :=
  (f_X8_set fu (2 * k0 + 12) l1 l2 M).bind (fun r6 => some r6)
set_option maxHeartbeats 4000000 in
set_option maxRecDepth 100000 in
theorem k_X1_resize (l : Launch) (G : GE) (hl : l.stackTraces = false) (hG : GOK G) (fu : Nat) (k0 : Nat) (l1 : Int32) (l2 : Int32) (M : Mem) (res : Mem) (hk0 : (1, k0) ∈ gids G) (hm : f_X1_resize fu k0 l1 l2 M = some res) : CT l G yX1_resize cX1_resize 3 none 1 [vR 1 k0, vI l1, vI l2] M (.inl none) res := by
  refine ct_of [(0, vR 1 k0), (1, vI l1), (2, vI l2)] (by decide +kernel) hl hG (Nat.le_of_ble_eq_true rfl) rfl (List.forall_mem_cons.mpr ⟨Or.inl hk0, List.forall_mem_cons.mpr ⟨trivial, List.forall_mem_cons.mpr ⟨trivial, fun _ h => nomatch h⟩⟩⟩) (List.forall_mem_cons.mpr ⟨Or.inl hk0, List.forall_mem_cons.mpr ⟨trivial, List.forall_mem_cons.mpr ⟨trivial, fun _ h => nomatch h⟩⟩⟩) (fun X hX C => ?_)
  subst hX
  have Cl := C
  unfold f_X1_resize at hm
  refine g_aload_n C 0 dX1_resize_0 rfl rfl ?_
  refine g_getr (k := k0) (k' := (2 * k0 + 12)) C (by decide) kf_X1_14 rfl rfl dX1_resize_1 ?_
  refine g_iload_n C 1 dX1_resize_4 rfl rfl ?_
  refine g_iload_n C 2 dX1_resize_5 rfl rfl ?_
  obtain ⟨r6, hr6, hm⟩ := bnd_some hm
  refine g_callVv (As := [vI l1, vI l2]) (rest := []) C lk_X1_34 (k_X8_set X.2.1 G hl hG fu (2 * k0 + 12) l1 l2 M r6 ((hG _ hk0).2 0 8 12 2 rfl) hr6) (by decide) rfl rfl rfl (Nat.le_of_ble_eq_true rfl) ⟨Nat.le_of_ble_eq_true rfl, Nat.le_of_ble_eq_true rfl⟩ dX1_resize_6 ?_
  obtain rfl := Option.some.inj hm
  exact g_vret C dX1_resize_9
def f_X1_code (fu : Nat) (k0 : Nat) (l1 : Int32) (M : Mem) : Option (Int32 × Mem) :=
  (f_X8_get fu (2 * k0 + 13) l1 M).bind (fun r5 => some (r5.1, r5.2))
set_option maxHeartbeats 4000000 in
set_option maxRecDepth 100000 in
theorem k_X1_code (l : Launch) (G : GE) (hl : l.stackTraces = false) (hG : GOK G) (fu : Nat) (k0 : Nat) (l1 : Int32) (M : Mem) (res : Int32 × Mem) (hk0 : (1, k0) ∈ gids G) (hm : f_X1_code fu k0 l1 M = some res) : CT l G yX1_code cX1_code 2 (some .int) 1 [vR 1 k0, vI l1] M (.inl (some (vI res.1))) res.2 := by
  refine ct_of [(0, vR 1 k0), (1, vI l1)] (by decide +kernel) hl hG (Nat.le_of_ble_eq_true rfl) rfl (List.forall_mem_cons.mpr ⟨Or.inl hk0, List.forall_mem_cons.mpr ⟨trivial, fun _ h => nomatch h⟩⟩) (List.forall_mem_cons.mpr ⟨Or.inl hk0, List.forall_mem_cons.mpr ⟨trivial, fun _ h => nomatch h⟩⟩) (fun X hX C => ?_)
  subst hX
  have Cl := C
  unfold f_X1_code at hm
  refine g_aload_n C 0 dX1_code_0 rfl rfl ?_
  refine g_getr (k := k0) (k' := (2 * k0 + 13)) C (by decide) kf_X1_20 rfl rfl dX1_code_1 ?_
  refine g_iload_n C 1 dX1_code_4 rfl rfl ?_
  obtain ⟨r5, hr5, hm⟩ := bnd_some hm
  refine g_callVi (As := [vI l1]) (rest := []) C lk_X1_30 (k_X8_get X.2.1 G hl hG fu (2 * k0 + 13) l1 M r5 ((hG _ hk0).2 1 8 13 2 rfl) hr5) (by decide) rfl rfl rfl (Nat.le_of_ble_eq_true rfl) ⟨Nat.le_of_ble_eq_true rfl, Nat.le_of_ble_eq_true rfl⟩ dX1_code_5 ?_
  obtain rfl := Option.some.inj hm
  exact g_iret C dX1_code_8
def f_X1_setCode (fu : Nat) (k0 : Nat) (l1 : Int32) (l2 : Int32) (M : Mem) : Option (Mem) :=
  (f_X8_set fu (2 * k0 + 13) l1 l2 M).bind (fun r6 => some r6)
set_option maxHeartbeats 4000000 in
set_option maxRecDepth 100000 in
theorem k_X1_setCode (l : Launch) (G : GE) (hl : l.stackTraces = false) (hG : GOK G) (fu : Nat) (k0 : Nat) (l1 : Int32) (l2 : Int32) (M : Mem) (res : Mem) (hk0 : (1, k0) ∈ gids G) (hm : f_X1_setCode fu k0 l1 l2 M = some res) : CT l G yX1_setCode cX1_setCode 3 none 1 [vR 1 k0, vI l1, vI l2] M (.inl none) res := by
  refine ct_of [(0, vR 1 k0), (1, vI l1), (2, vI l2)] (by decide +kernel) hl hG (Nat.le_of_ble_eq_true rfl) rfl (List.forall_mem_cons.mpr ⟨Or.inl hk0, List.forall_mem_cons.mpr ⟨trivial, List.forall_mem_cons.mpr ⟨trivial, fun _ h => nomatch h⟩⟩⟩) (List.forall_mem_cons.mpr ⟨Or.inl hk0, List.forall_mem_cons.mpr ⟨trivial, List.forall_mem_cons.mpr ⟨trivial, fun _ h => nomatch h⟩⟩⟩) (fun X hX C => ?_)
  subst hX
  have Cl := C
  unfold f_X1_setCode at hm
  refine g_aload_n C 0 dX1_setCode_0 rfl rfl ?_
  refine g_getr (k := k0) (k' := (2 * k0 + 13)) C (by decide) kf_X1_20 rfl rfl dX1_setCode_1 ?_
  refine g_iload_n C 1 dX1_setCode_4 rfl rfl ?_
  refine g_iload_n C 2 dX1_setCode_5 rfl rfl ?_
  obtain ⟨r6, hr6, hm⟩ := bnd_some hm
  refine g_callVv (As := [vI l1, vI l2]) (rest := []) C lk_X1_34 (k_X8_set X.2.1 G hl hG fu (2 * k0 + 13) l1 l2 M r6 ((hG _ hk0).2 1 8 13 2 rfl) hr6) (by decide) rfl rfl rfl (Nat.le_of_ble_eq_true rfl) ⟨Nat.le_of_ble_eq_true rfl, Nat.le_of_ble_eq_true rfl⟩ dX1_setCode_6 ?_
  obtain rfl := Option.some.inj hm
  exact g_vret C dX1_setCode_9
def f_X1_digit (fu : Nat) (l0 : Int32) (l1 : Int32) (M : Mem) : Option (Int32 × Mem) :=
  some ((l0 >>> (((2 : Int32) * l1) &&& 31)) &&& (3 : Int32), M)
set_option maxHeartbeats 4000000 in
set_option maxRecDepth 100000 in
theorem k_X1_digit (l : Launch) (G : GE) (hl : l.stackTraces = false) (hG : GOK G) (fu : Nat) (l0 : Int32) (l1 : Int32) (M : Mem) (res : Int32 × Mem)  (hm : f_X1_digit fu l0 l1 M = some res) : CT l G yX1_digit cX1_digit 2 (some .int) 0 [vI l0, vI l1] M (.inl (some (vI res.1))) res.2 := by
  refine ct_of [(0, vI l0), (1, vI l1)] (by decide +kernel) hl hG (Nat.le_of_ble_eq_true rfl) rfl (List.forall_mem_cons.mpr ⟨trivial, List.forall_mem_cons.mpr ⟨trivial, fun _ h => nomatch h⟩⟩) (List.forall_mem_cons.mpr ⟨trivial, List.forall_mem_cons.mpr ⟨trivial, fun _ h => nomatch h⟩⟩) (fun X hX C => ?_)
  subst hX
  have Cl := C
  unfold f_X1_digit at hm
  refine g_iload_n C 0 dX1_digit_0 rfl rfl ?_
  refine g_iconst (v := 2) C dX1_digit_1 rfl ?_
  refine g_iload_n C 1 dX1_digit_2 rfl rfl ?_
  refine g_imul C dX1_digit_3 ?_
  refine g_ishr C dX1_digit_4 ?_
  refine g_iconst (v := 3) C dX1_digit_5 rfl ?_
  refine g_iand C dX1_digit_6 ?_
  obtain rfl := Option.some.inj hm
  exact g_iret C dX1_digit_7
def f_X1_value (fu : Nat) (k0 : Nat) (l1 : Int32) (l2 : Int32) (M : Mem) : Option (Int32 × Mem) :=
  (f_X8_get fu (2 * k0 + 13) l1 M).bind (fun r5 => (f_X1_digit fu r5.1 l2 r5.2).bind (fun r9 => some (r9.1, r9.2)))
set_option maxHeartbeats 4000000 in
set_option maxRecDepth 100000 in
theorem k_X1_value (l : Launch) (G : GE) (hl : l.stackTraces = false) (hG : GOK G) (fu : Nat) (k0 : Nat) (l1 : Int32) (l2 : Int32) (M : Mem) (res : Int32 × Mem) (hk0 : (1, k0) ∈ gids G) (hm : f_X1_value fu k0 l1 l2 M = some res) : CT l G yX1_value cX1_value 3 (some .int) 1 [vR 1 k0, vI l1, vI l2] M (.inl (some (vI res.1))) res.2 := by
  refine ct_of [(0, vR 1 k0), (1, vI l1), (2, vI l2)] (by decide +kernel) hl hG (Nat.le_of_ble_eq_true rfl) rfl (List.forall_mem_cons.mpr ⟨Or.inl hk0, List.forall_mem_cons.mpr ⟨trivial, List.forall_mem_cons.mpr ⟨trivial, fun _ h => nomatch h⟩⟩⟩) (List.forall_mem_cons.mpr ⟨Or.inl hk0, List.forall_mem_cons.mpr ⟨trivial, List.forall_mem_cons.mpr ⟨trivial, fun _ h => nomatch h⟩⟩⟩) (fun X hX C => ?_)
  subst hX
  have Cl := C
  unfold f_X1_value at hm
  refine g_aload_n C 0 dX1_value_0 rfl rfl ?_
  refine g_getr (k := k0) (k' := (2 * k0 + 13)) C (by decide) kf_X1_20 rfl rfl dX1_value_1 ?_
  refine g_iload_n C 1 dX1_value_4 rfl rfl ?_
  obtain ⟨r5, hr5, hm⟩ := bnd_some hm
  refine g_callVi (As := [vI l1]) (rest := []) C lk_X1_30 (k_X8_get X.2.1 G hl hG fu (2 * k0 + 13) l1 M r5 ((hG _ hk0).2 1 8 13 2 rfl) hr5) (by decide) rfl rfl rfl (Nat.le_of_ble_eq_true rfl) ⟨Nat.le_of_ble_eq_true rfl, Nat.le_of_ble_eq_true rfl⟩ dX1_value_5 ?_
  refine g_iload_n C 2 dX1_value_8 rfl rfl ?_
  obtain ⟨r9, hr9, hm⟩ := bnd_some hm
  refine g_callSi (As := [vI r5.1, vI l2]) (rest := []) C lk_X1_38 (k_X1_digit X.2.1 G hl hG fu r5.1 l2 r5.2 r9  hr9) rfl rfl (Nat.le_of_ble_eq_true rfl) ⟨Nat.le_of_ble_eq_true rfl, Nat.le_of_ble_eq_true rfl⟩ dX1_value_9 ?_
  obtain rfl := Option.some.inj hm
  exact g_iret C dX1_value_12
def f_X1_valueAlong_b6 (fu : Nat) (k0 : Nat) (l2 : Int32) (l4 : Int32) (l5 : Int32) (M : Mem) : Option ((Int32 × Int32 × Mem) ⊕ (Int32 × Mem)) :=
  (f_X8_get fu 18 l2 M).bind (fun r13 => if r13.1 ≤ l5 then some (Sum.inr (l4, r13.2)) else (f_X3_get fu 2 l2 l5 r13.2).bind (fun r30 => (f_X8_get fu (2 * k0 + 13) r30.1 r30.2).bind (fun r33 => (f_X1_digit fu r33.1 l4 r33.2).bind (fun r38 => some (Sum.inl (r38.1, l5 + (1 : Int32), r38.2))))))
def f_X1_valueAlong_h6 (fu : Nat) (k0 : Nat)  (l2 : Int32) (l4 : Int32) (l5 : Int32) (M : Mem) : Option (Int32 × Mem) :=
  (lp_run (fun s => f_X1_valueAlong_b6 fu k0 l2 s.1 s.2.1 s.2.2) fu (l4, l5, M)).bind (fun r6 => match r6 with
    | (l4, M) => some (l4, M))
def f_X1_valueAlong (fu : Nat) (k0 : Nat) (l2 : Int32) (l3 : Int32) (M : Mem) : Option (Int32 × Mem) :=
  f_X1_valueAlong_h6 fu k0 l2 l3 (0 : Int32) M
set_option maxHeartbeats 4000000 in
set_option maxRecDepth 100000 in
theorem k_X1_valueAlong (l : Launch) (G : GE) (hl : l.stackTraces = false) (hG : GOK G) (fu : Nat) (k0 : Nat) (l2 : Int32) (l3 : Int32) (M : Mem) (res : Int32 × Mem) (hk0 : (1, k0) ∈ gids G) (hk1 : (6, 0) ∈ gids G) (hm : f_X1_valueAlong fu k0 l2 l3 M = some res) : CT l G yX1_valueAlong cX1_valueAlong 6 (some .int) 1 [vR 1 k0, vR 6 0, vI l2, vI l3] M (.inl (some (vI res.1))) res.2 := by
  refine ct_of [(0, vR 1 k0), (1, vR 6 0), (2, vI l2), (3, vI l3)] (by decide +kernel) hl hG (Nat.le_of_ble_eq_true rfl) rfl (List.forall_mem_cons.mpr ⟨Or.inl hk0, List.forall_mem_cons.mpr ⟨Or.inl hk1, List.forall_mem_cons.mpr ⟨trivial, List.forall_mem_cons.mpr ⟨trivial, fun _ h => nomatch h⟩⟩⟩⟩) (List.forall_mem_cons.mpr ⟨Or.inl hk0, List.forall_mem_cons.mpr ⟨Or.inl hk1, List.forall_mem_cons.mpr ⟨trivial, List.forall_mem_cons.mpr ⟨trivial, fun _ h => nomatch h⟩⟩⟩⟩) (fun X hX C => ?_)
  subst hX
  have Cl := C
  have J6 : ∀ (l2 : Int32) (l4 : Int32) (l5 : Int32) (M : Mem), f_X1_valueAlong_h6 fu k0  l2 l4 l5 M = some res → GW G X 6 (QX G X (.inl (some (vI res.1))) res.2) 6 [(0, vR 1 k0), (1, vR 6 0), (2, vI l2), (4, vI l4), (5, vI l5)] [] M := by
    intro l2 l4 l5 M hm
    unfold f_X1_valueAlong_h6 at hm
    obtain ⟨r6, hL6, hk6⟩ := bnd_some hm
    have hx6 : ∀ (l4 : Int32) (M : Mem), (l4, M) = r6 → GW G X 6 (QX G X (.inl (some (vI res.1))) res.2) 49 [(4, vI l4)] [] M := by
      intro l4 M he
      subst he
      have hm := hk6
      try dsimp only at hm
      refine g_iload C 0 dX1_valueAlong_49 rfl ?_
      obtain rfl := Option.some.inj hm
      exact g_iret C dX1_valueAlong_51
    refine lp_ind2 (P := (fun l4 l5 M => GW G X 6 (QX G X (.inl (some (vI res.1))) res.2) 6 [(0, vR 1 k0), (1, vR 6 0), (2, vI l2), (4, vI l4), (5, vI l5)] [] M)) (r := r6) ?_ fu l4 l5 M hL6
    intro l4 l5 M o6 hm K6
    unfold f_X1_valueAlong_b6 at hm
    refine g_iload C 4 dX1_valueAlong_6 rfl ?_
    refine g_aload_n C 1 dX1_valueAlong_8 rfl rfl ?_
    refine g_getrN (k := 0) (k' := 18) C (by decide) kf_X1_42 rfl rfl dX1_valueAlong_9 ?_
    refine g_iload_n C 2 dX1_valueAlong_12 rfl rfl ?_
    obtain ⟨r13, hr13, hm⟩ := bnd_some hm
    refine g_callVi (As := [vI l2]) (rest := [vI l5]) C lk_X1_30 (k_X8_get X.2.1 G hl hG fu 18 l2 M r13 ((hG _ hk1).2 3 8 18 0 rfl) hr13) (by decide) rfl rfl rfl (Nat.le_of_ble_eq_true rfl) ⟨Nat.le_of_ble_eq_true rfl, Nat.le_of_ble_eq_true rfl⟩ dX1_valueAlong_13 ?_
    refine g_icmp_ge (tgt := 49) C dX1_valueAlong_16 (by decide) (fun h16 => ?_) (fun h16 => ?_)
    · have hm := ift hm h16
      obtain rfl := Option.some.inj hm
      exact g_sub [3] rfl (g_pc rfl (hx6 l4 r13.2 (K6.2 _ rfl)))
    · have hm := ife hm h16
      refine g_aload_n C 0 dX1_valueAlong_19 rfl rfl ?_
      refine g_getr (k := k0) (k' := (2 * k0 + 13)) C (by decide) kf_X1_20 rfl rfl dX1_valueAlong_20 ?_
      refine g_aload_n C 1 dX1_valueAlong_23 rfl rfl ?_
      refine g_getrN (k := 0) (k' := 2) C (by decide) kf_X1_47 rfl rfl dX1_valueAlong_24 ?_
      refine g_iload_n C 2 dX1_valueAlong_27 rfl rfl ?_
      refine g_iload C 4 dX1_valueAlong_28 rfl ?_
      obtain ⟨r30, hr30, hm⟩ := bnd_some hm
      refine g_callVi (As := [vI l2, vI l5]) (rest := [vR 8 (2 * k0 + 13)]) C lk_X1_51 (k_X3_get X.2.1 G hl hG fu 2 l2 l5 r13.2 r30 ((hG _ hk1).2 4 3 2 0 rfl) hr30) (by decide) rfl rfl rfl (Nat.le_of_ble_eq_true rfl) ⟨Nat.le_of_ble_eq_true rfl, Nat.le_of_ble_eq_true rfl⟩ dX1_valueAlong_30 ?_
      obtain ⟨r33, hr33, hm⟩ := bnd_some hm
      refine g_callVi (As := [vI r30.1]) (rest := []) C lk_X1_30 (k_X8_get X.2.1 G hl hG fu (2 * k0 + 13) r30.1 r30.2 r33 ((hG _ hk0).2 1 8 13 2 rfl) hr33) (by decide) rfl rfl rfl (Nat.le_of_ble_eq_true rfl) ⟨Nat.le_of_ble_eq_true rfl, Nat.le_of_ble_eq_true rfl⟩ dX1_valueAlong_33 ?_
      refine g_iload C 3 dX1_valueAlong_36 rfl ?_
      obtain ⟨r38, hr38, hm⟩ := bnd_some hm
      refine g_callSi (As := [vI r33.1, vI l4]) (rest := []) C lk_X1_38 (k_X1_digit X.2.1 G hl hG fu r33.1 l4 r33.2 r38  hr38) rfl rfl (Nat.le_of_ble_eq_true rfl) ⟨Nat.le_of_ble_eq_true rfl, Nat.le_of_ble_eq_true rfl⟩ dX1_valueAlong_38 ?_
      refine g_istore (ls' := [(4, vI r38.1), (0, vR 1 k0), (1, vR 6 0), (2, vI l2), (5, vI l5)]) C dX1_valueAlong_41 (by decide) rfl ?_
      refine g_iinc (ls' := [(5, vI (l5 + (1 : Int32))), (4, vI r38.1), (0, vR 1 k0), (1, vR 6 0), (2, vI l2)]) (v := l5 + (1 : Int32)) C 4 dX1_valueAlong_43 rfl (iv_p1 _) (by decide) rfl ?_
      refine g_goto (tgt := 6) C dX1_valueAlong_46 (by decide) ?_
      obtain rfl := Option.some.inj hm
      exact g_sub [2, 3, 4, 1, 0] rfl (g_pc rfl (K6.1 r38.1 (l5 + (1 : Int32)) r38.2 rfl))
  unfold f_X1_valueAlong at hm
  refine g_iload_n C 3 dX1_valueAlong_0 rfl rfl ?_
  refine g_istore (ls' := [(4, vI l3), (0, vR 1 k0), (1, vR 6 0), (2, vI l2), (3, vI l3)]) C dX1_valueAlong_1 (by decide) rfl ?_
  refine g_iconst (v := 0) C dX1_valueAlong_3 rfl ?_
  refine g_istore (ls' := [(5, vI (0 : Int32)), (4, vI l3), (0, vR 1 k0), (1, vR 6 0), (2, vI l2), (3, vI l3)]) C dX1_valueAlong_4 (by decide) rfl ?_
  exact g_sub [2, 3, 4, 1, 0] rfl (g_pc rfl (J6 l2 l3 (0 : Int32) M hm))
def f_J6_bitCount_0f7a4 (fu : Nat) (l0 : Int32) (M : Mem) : Option (Int32 × Mem) :=
  some ((((((((l0 - (((l0.toUInt32 >>> ((1 : Int32).toUInt32 &&& Int32.toUInt32 31)).toInt32) &&& (1431655765 : Int32))) &&& (858993459 : Int32)) + ((((l0 - (((l0.toUInt32 >>> ((1 : Int32).toUInt32 &&& Int32.toUInt32 31)).toInt32) &&& (1431655765 : Int32))).toUInt32 >>> ((2 : Int32).toUInt32 &&& Int32.toUInt32 31)).toInt32) &&& (858993459 : Int32))) + (((((l0 - (((l0.toUInt32 >>> ((1 : Int32).toUInt32 &&& Int32.toUInt32 31)).toInt32) &&& (1431655765 : Int32))) &&& (858993459 : Int32)) + ((((l0 - (((l0.toUInt32 >>> ((1 : Int32).toUInt32 &&& Int32.toUInt32 31)).toInt32) &&& (1431655765 : Int32))).toUInt32 >>> ((2 : Int32).toUInt32 &&& Int32.toUInt32 31)).toInt32) &&& (858993459 : Int32))).toUInt32 >>> ((4 : Int32).toUInt32 &&& Int32.toUInt32 31)).toInt32)) &&& (252645135 : Int32)) + (((((((l0 - (((l0.toUInt32 >>> ((1 : Int32).toUInt32 &&& Int32.toUInt32 31)).toInt32) &&& (1431655765 : Int32))) &&& (858993459 : Int32)) + ((((l0 - (((l0.toUInt32 >>> ((1 : Int32).toUInt32 &&& Int32.toUInt32 31)).toInt32) &&& (1431655765 : Int32))).toUInt32 >>> ((2 : Int32).toUInt32 &&& Int32.toUInt32 31)).toInt32) &&& (858993459 : Int32))) + (((((l0 - (((l0.toUInt32 >>> ((1 : Int32).toUInt32 &&& Int32.toUInt32 31)).toInt32) &&& (1431655765 : Int32))) &&& (858993459 : Int32)) + ((((l0 - (((l0.toUInt32 >>> ((1 : Int32).toUInt32 &&& Int32.toUInt32 31)).toInt32) &&& (1431655765 : Int32))).toUInt32 >>> ((2 : Int32).toUInt32 &&& Int32.toUInt32 31)).toInt32) &&& (858993459 : Int32))).toUInt32 >>> ((4 : Int32).toUInt32 &&& Int32.toUInt32 31)).toInt32)) &&& (252645135 : Int32)).toUInt32 >>> ((8 : Int32).toUInt32 &&& Int32.toUInt32 31)).toInt32)) + ((((((((l0 - (((l0.toUInt32 >>> ((1 : Int32).toUInt32 &&& Int32.toUInt32 31)).toInt32) &&& (1431655765 : Int32))) &&& (858993459 : Int32)) + ((((l0 - (((l0.toUInt32 >>> ((1 : Int32).toUInt32 &&& Int32.toUInt32 31)).toInt32) &&& (1431655765 : Int32))).toUInt32 >>> ((2 : Int32).toUInt32 &&& Int32.toUInt32 31)).toInt32) &&& (858993459 : Int32))) + (((((l0 - (((l0.toUInt32 >>> ((1 : Int32).toUInt32 &&& Int32.toUInt32 31)).toInt32) &&& (1431655765 : Int32))) &&& (858993459 : Int32)) + ((((l0 - (((l0.toUInt32 >>> ((1 : Int32).toUInt32 &&& Int32.toUInt32 31)).toInt32) &&& (1431655765 : Int32))).toUInt32 >>> ((2 : Int32).toUInt32 &&& Int32.toUInt32 31)).toInt32) &&& (858993459 : Int32))).toUInt32 >>> ((4 : Int32).toUInt32 &&& Int32.toUInt32 31)).toInt32)) &&& (252645135 : Int32)) + (((((((l0 - (((l0.toUInt32 >>> ((1 : Int32).toUInt32 &&& Int32.toUInt32 31)).toInt32) &&& (1431655765 : Int32))) &&& (858993459 : Int32)) + ((((l0 - (((l0.toUInt32 >>> ((1 : Int32).toUInt32 &&& Int32.toUInt32 31)).toInt32) &&& (1431655765 : Int32))).toUInt32 >>> ((2 : Int32).toUInt32 &&& Int32.toUInt32 31)).toInt32) &&& (858993459 : Int32))) + (((((l0 - (((l0.toUInt32 >>> ((1 : Int32).toUInt32 &&& Int32.toUInt32 31)).toInt32) &&& (1431655765 : Int32))) &&& (858993459 : Int32)) + ((((l0 - (((l0.toUInt32 >>> ((1 : Int32).toUInt32 &&& Int32.toUInt32 31)).toInt32) &&& (1431655765 : Int32))).toUInt32 >>> ((2 : Int32).toUInt32 &&& Int32.toUInt32 31)).toInt32) &&& (858993459 : Int32))).toUInt32 >>> ((4 : Int32).toUInt32 &&& Int32.toUInt32 31)).toInt32)) &&& (252645135 : Int32)).toUInt32 >>> ((8 : Int32).toUInt32 &&& Int32.toUInt32 31)).toInt32)).toUInt32 >>> ((16 : Int32).toUInt32 &&& Int32.toUInt32 31)).toInt32)) &&& (63 : Int32), M)
set_option maxHeartbeats 4000000 in
set_option maxRecDepth 100000 in
theorem k_J6_bitCount_0f7a4 (l : Launch) (G : GE) (hl : l.stackTraces = false) (hG : GOK G) (fu : Nat) (l0 : Int32) (M : Mem) (res : Int32 × Mem)  (hm : f_J6_bitCount_0f7a4 fu l0 M = some res) : CT l G yJ6_bitCount_0f7a4 cJ6_bitCount_0f7a4 1 (some .int) 0 [vI l0] M (.inl (some (vI res.1))) res.2 := by
  refine ct_of [(0, vI l0)] (by decide +kernel) hl hG (Nat.le_of_ble_eq_true rfl) rfl (List.forall_mem_cons.mpr ⟨trivial, fun _ h => nomatch h⟩) (List.forall_mem_cons.mpr ⟨trivial, fun _ h => nomatch h⟩) (fun X hX C => ?_)
  subst hX
  have Cl := C
  unfold f_J6_bitCount_0f7a4 at hm
  refine g_iload_n C 0 dJ6_bitCount_0f7a4_0 rfl rfl ?_
  refine g_iload_n C 0 dJ6_bitCount_0f7a4_1 rfl rfl ?_
  refine g_iconst (v := 1) C dJ6_bitCount_0f7a4_2 rfl ?_
  refine g_iushr C dJ6_bitCount_0f7a4_3 ?_
  refine g_ldcw (v := 1431655765) C kc_J6_265 dJ6_bitCount_0f7a4_4 ?_
  refine g_iand C dJ6_bitCount_0f7a4_7 ?_
  refine g_isub C dJ6_bitCount_0f7a4_8 ?_
  refine g_istore_n (ls' := [(0, vI (l0 - (((l0.toUInt32 >>> ((1 : Int32).toUInt32 &&& Int32.toUInt32 31)).toInt32) &&& (1431655765 : Int32))))]) C dJ6_bitCount_0f7a4_9 rfl (by decide) rfl ?_
  refine g_iload_n C 0 dJ6_bitCount_0f7a4_10 rfl rfl ?_
  refine g_ldcw (v := 858993459) C kc_J6_266 dJ6_bitCount_0f7a4_11 ?_
  refine g_iand C dJ6_bitCount_0f7a4_14 ?_
  refine g_iload_n C 0 dJ6_bitCount_0f7a4_15 rfl rfl ?_
  refine g_iconst (v := 2) C dJ6_bitCount_0f7a4_16 rfl ?_
  refine g_iushr C dJ6_bitCount_0f7a4_17 ?_
  refine g_ldcw (v := 858993459) C kc_J6_266 dJ6_bitCount_0f7a4_18 ?_
  refine g_iand C dJ6_bitCount_0f7a4_21 ?_
  refine g_iadd C dJ6_bitCount_0f7a4_22 ?_
  refine g_istore_n (ls' := [(0, vI (((l0 - (((l0.toUInt32 >>> ((1 : Int32).toUInt32 &&& Int32.toUInt32 31)).toInt32) &&& (1431655765 : Int32))) &&& (858993459 : Int32)) + ((((l0 - (((l0.toUInt32 >>> ((1 : Int32).toUInt32 &&& Int32.toUInt32 31)).toInt32) &&& (1431655765 : Int32))).toUInt32 >>> ((2 : Int32).toUInt32 &&& Int32.toUInt32 31)).toInt32) &&& (858993459 : Int32))))]) C dJ6_bitCount_0f7a4_23 rfl (by decide) rfl ?_
  refine g_iload_n C 0 dJ6_bitCount_0f7a4_24 rfl rfl ?_
  refine g_iload_n C 0 dJ6_bitCount_0f7a4_25 rfl rfl ?_
  refine g_iconst (v := 4) C dJ6_bitCount_0f7a4_26 rfl ?_
  refine g_iushr C dJ6_bitCount_0f7a4_27 ?_
  refine g_iadd C dJ6_bitCount_0f7a4_28 ?_
  refine g_ldcw (v := 252645135) C kc_J6_267 dJ6_bitCount_0f7a4_29 ?_
  refine g_iand C dJ6_bitCount_0f7a4_32 ?_
  refine g_istore_n (ls' := [(0, vI (((((l0 - (((l0.toUInt32 >>> ((1 : Int32).toUInt32 &&& Int32.toUInt32 31)).toInt32) &&& (1431655765 : Int32))) &&& (858993459 : Int32)) + ((((l0 - (((l0.toUInt32 >>> ((1 : Int32).toUInt32 &&& Int32.toUInt32 31)).toInt32) &&& (1431655765 : Int32))).toUInt32 >>> ((2 : Int32).toUInt32 &&& Int32.toUInt32 31)).toInt32) &&& (858993459 : Int32))) + (((((l0 - (((l0.toUInt32 >>> ((1 : Int32).toUInt32 &&& Int32.toUInt32 31)).toInt32) &&& (1431655765 : Int32))) &&& (858993459 : Int32)) + ((((l0 - (((l0.toUInt32 >>> ((1 : Int32).toUInt32 &&& Int32.toUInt32 31)).toInt32) &&& (1431655765 : Int32))).toUInt32 >>> ((2 : Int32).toUInt32 &&& Int32.toUInt32 31)).toInt32) &&& (858993459 : Int32))).toUInt32 >>> ((4 : Int32).toUInt32 &&& Int32.toUInt32 31)).toInt32)) &&& (252645135 : Int32)))]) C dJ6_bitCount_0f7a4_33 rfl (by decide) rfl ?_
  refine g_iload_n C 0 dJ6_bitCount_0f7a4_34 rfl rfl ?_
  refine g_iload_n C 0 dJ6_bitCount_0f7a4_35 rfl rfl ?_
  refine g_bipush (v := 8) C dJ6_bitCount_0f7a4_36 rfl ?_
  refine g_iushr C dJ6_bitCount_0f7a4_38 ?_
  refine g_iadd C dJ6_bitCount_0f7a4_39 ?_
  refine g_istore_n (ls' := [(0, vI ((((((l0 - (((l0.toUInt32 >>> ((1 : Int32).toUInt32 &&& Int32.toUInt32 31)).toInt32) &&& (1431655765 : Int32))) &&& (858993459 : Int32)) + ((((l0 - (((l0.toUInt32 >>> ((1 : Int32).toUInt32 &&& Int32.toUInt32 31)).toInt32) &&& (1431655765 : Int32))).toUInt32 >>> ((2 : Int32).toUInt32 &&& Int32.toUInt32 31)).toInt32) &&& (858993459 : Int32))) + (((((l0 - (((l0.toUInt32 >>> ((1 : Int32).toUInt32 &&& Int32.toUInt32 31)).toInt32) &&& (1431655765 : Int32))) &&& (858993459 : Int32)) + ((((l0 - (((l0.toUInt32 >>> ((1 : Int32).toUInt32 &&& Int32.toUInt32 31)).toInt32) &&& (1431655765 : Int32))).toUInt32 >>> ((2 : Int32).toUInt32 &&& Int32.toUInt32 31)).toInt32) &&& (858993459 : Int32))).toUInt32 >>> ((4 : Int32).toUInt32 &&& Int32.toUInt32 31)).toInt32)) &&& (252645135 : Int32)) + (((((((l0 - (((l0.toUInt32 >>> ((1 : Int32).toUInt32 &&& Int32.toUInt32 31)).toInt32) &&& (1431655765 : Int32))) &&& (858993459 : Int32)) + ((((l0 - (((l0.toUInt32 >>> ((1 : Int32).toUInt32 &&& Int32.toUInt32 31)).toInt32) &&& (1431655765 : Int32))).toUInt32 >>> ((2 : Int32).toUInt32 &&& Int32.toUInt32 31)).toInt32) &&& (858993459 : Int32))) + (((((l0 - (((l0.toUInt32 >>> ((1 : Int32).toUInt32 &&& Int32.toUInt32 31)).toInt32) &&& (1431655765 : Int32))) &&& (858993459 : Int32)) + ((((l0 - (((l0.toUInt32 >>> ((1 : Int32).toUInt32 &&& Int32.toUInt32 31)).toInt32) &&& (1431655765 : Int32))).toUInt32 >>> ((2 : Int32).toUInt32 &&& Int32.toUInt32 31)).toInt32) &&& (858993459 : Int32))).toUInt32 >>> ((4 : Int32).toUInt32 &&& Int32.toUInt32 31)).toInt32)) &&& (252645135 : Int32)).toUInt32 >>> ((8 : Int32).toUInt32 &&& Int32.toUInt32 31)).toInt32)))]) C dJ6_bitCount_0f7a4_40 rfl (by decide) rfl ?_
  refine g_iload_n C 0 dJ6_bitCount_0f7a4_41 rfl rfl ?_
  refine g_iload_n C 0 dJ6_bitCount_0f7a4_42 rfl rfl ?_
  refine g_bipush (v := 16) C dJ6_bitCount_0f7a4_43 rfl ?_
  refine g_iushr C dJ6_bitCount_0f7a4_45 ?_
  refine g_iadd C dJ6_bitCount_0f7a4_46 ?_
  refine g_istore_n (ls' := [(0, vI (((((((l0 - (((l0.toUInt32 >>> ((1 : Int32).toUInt32 &&& Int32.toUInt32 31)).toInt32) &&& (1431655765 : Int32))) &&& (858993459 : Int32)) + ((((l0 - (((l0.toUInt32 >>> ((1 : Int32).toUInt32 &&& Int32.toUInt32 31)).toInt32) &&& (1431655765 : Int32))).toUInt32 >>> ((2 : Int32).toUInt32 &&& Int32.toUInt32 31)).toInt32) &&& (858993459 : Int32))) + (((((l0 - (((l0.toUInt32 >>> ((1 : Int32).toUInt32 &&& Int32.toUInt32 31)).toInt32) &&& (1431655765 : Int32))) &&& (858993459 : Int32)) + ((((l0 - (((l0.toUInt32 >>> ((1 : Int32).toUInt32 &&& Int32.toUInt32 31)).toInt32) &&& (1431655765 : Int32))).toUInt32 >>> ((2 : Int32).toUInt32 &&& Int32.toUInt32 31)).toInt32) &&& (858993459 : Int32))).toUInt32 >>> ((4 : Int32).toUInt32 &&& Int32.toUInt32 31)).toInt32)) &&& (252645135 : Int32)) + (((((((l0 - (((l0.toUInt32 >>> ((1 : Int32).toUInt32 &&& Int32.toUInt32 31)).toInt32) &&& (1431655765 : Int32))) &&& (858993459 : Int32)) + ((((l0 - (((l0.toUInt32 >>> ((1 : Int32).toUInt32 &&& Int32.toUInt32 31)).toInt32) &&& (1431655765 : Int32))).toUInt32 >>> ((2 : Int32).toUInt32 &&& Int32.toUInt32 31)).toInt32) &&& (858993459 : Int32))) + (((((l0 - (((l0.toUInt32 >>> ((1 : Int32).toUInt32 &&& Int32.toUInt32 31)).toInt32) &&& (1431655765 : Int32))) &&& (858993459 : Int32)) + ((((l0 - (((l0.toUInt32 >>> ((1 : Int32).toUInt32 &&& Int32.toUInt32 31)).toInt32) &&& (1431655765 : Int32))).toUInt32 >>> ((2 : Int32).toUInt32 &&& Int32.toUInt32 31)).toInt32) &&& (858993459 : Int32))).toUInt32 >>> ((4 : Int32).toUInt32 &&& Int32.toUInt32 31)).toInt32)) &&& (252645135 : Int32)).toUInt32 >>> ((8 : Int32).toUInt32 &&& Int32.toUInt32 31)).toInt32)) + ((((((((l0 - (((l0.toUInt32 >>> ((1 : Int32).toUInt32 &&& Int32.toUInt32 31)).toInt32) &&& (1431655765 : Int32))) &&& (858993459 : Int32)) + ((((l0 - (((l0.toUInt32 >>> ((1 : Int32).toUInt32 &&& Int32.toUInt32 31)).toInt32) &&& (1431655765 : Int32))).toUInt32 >>> ((2 : Int32).toUInt32 &&& Int32.toUInt32 31)).toInt32) &&& (858993459 : Int32))) + (((((l0 - (((l0.toUInt32 >>> ((1 : Int32).toUInt32 &&& Int32.toUInt32 31)).toInt32) &&& (1431655765 : Int32))) &&& (858993459 : Int32)) + ((((l0 - (((l0.toUInt32 >>> ((1 : Int32).toUInt32 &&& Int32.toUInt32 31)).toInt32) &&& (1431655765 : Int32))).toUInt32 >>> ((2 : Int32).toUInt32 &&& Int32.toUInt32 31)).toInt32) &&& (858993459 : Int32))).toUInt32 >>> ((4 : Int32).toUInt32 &&& Int32.toUInt32 31)).toInt32)) &&& (252645135 : Int32)) + (((((((l0 - (((l0.toUInt32 >>> ((1 : Int32).toUInt32 &&& Int32.toUInt32 31)).toInt32) &&& (1431655765 : Int32))) &&& (858993459 : Int32)) + ((((l0 - (((l0.toUInt32 >>> ((1 : Int32).toUInt32 &&& Int32.toUInt32 31)).toInt32) &&& (1431655765 : Int32))).toUInt32 >>> ((2 : Int32).toUInt32 &&& Int32.toUInt32 31)).toInt32) &&& (858993459 : Int32))) + (((((l0 - (((l0.toUInt32 >>> ((1 : Int32).toUInt32 &&& Int32.toUInt32 31)).toInt32) &&& (1431655765 : Int32))) &&& (858993459 : Int32)) + ((((l0 - (((l0.toUInt32 >>> ((1 : Int32).toUInt32 &&& Int32.toUInt32 31)).toInt32) &&& (1431655765 : Int32))).toUInt32 >>> ((2 : Int32).toUInt32 &&& Int32.toUInt32 31)).toInt32) &&& (858993459 : Int32))).toUInt32 >>> ((4 : Int32).toUInt32 &&& Int32.toUInt32 31)).toInt32)) &&& (252645135 : Int32)).toUInt32 >>> ((8 : Int32).toUInt32 &&& Int32.toUInt32 31)).toInt32)).toUInt32 >>> ((16 : Int32).toUInt32 &&& Int32.toUInt32 31)).toInt32)))]) C dJ6_bitCount_0f7a4_47 rfl (by decide) rfl ?_
  refine g_iload_n C 0 dJ6_bitCount_0f7a4_48 rfl rfl ?_
  refine g_bipush (v := 63) C dJ6_bitCount_0f7a4_49 rfl ?_
  refine g_iand C dJ6_bitCount_0f7a4_51 ?_
  obtain rfl := Option.some.inj hm
  exact g_iret C dJ6_bitCount_0f7a4_52
def f_X1_imageSize_b5 (fu : Nat) (k0 : Nat) (l2 : Int32) (l3 : Int32) (l4 : Int32) (M : Mem) : Option ((Int32 × Int32 × Mem) ⊕ (Int32 × Mem)) :=
  (f_X8_get fu 16 l2 M).bind (fun r16 => (f_X8_get fu (2 * k0 + 12) r16.1 r16.2).bind (fun r19 => if r19.1 ≤ l4 then some (Sum.inr (l3, r19.2)) else (f_X1_valueAlong fu k0 l2 l4 r19.2).bind (fun r32 => some (Sum.inl (l3 ||| ((1 : Int32) <<< (r32.1 &&& 31)), l4 + (1 : Int32), r32.2)))))
def f_X1_imageSize_h5 (fu : Nat) (k0 : Nat)  (l2 : Int32) (l3 : Int32) (l4 : Int32) (M : Mem) : Option (Int32 × Mem) :=
  (lp_run (fun s => f_X1_imageSize_b5 fu k0 l2 s.1 s.2.1 s.2.2) fu (l3, l4, M)).bind (fun r5 => match r5 with
    | (l3, M) => (f_J6_bitCount_0f7a4 fu l3 M).bind (fun r45 => some (r45.1, r45.2)))
def f_X1_imageSize (fu : Nat) (k0 : Nat) (l2 : Int32) (M : Mem) : Option (Int32 × Mem) :=
  f_X1_imageSize_h5 fu k0 l2 (0 : Int32) (0 : Int32) M
set_option maxHeartbeats 4000000 in
set_option maxRecDepth 100000 in
theorem k_X1_imageSize (l : Launch) (G : GE) (hl : l.stackTraces = false) (hG : GOK G) (fu : Nat) (k0 : Nat) (l2 : Int32) (M : Mem) (res : Int32 × Mem) (hk0 : (1, k0) ∈ gids G) (hk1 : (6, 0) ∈ gids G) (hm : f_X1_imageSize fu k0 l2 M = some res) : CT l G yX1_imageSize cX1_imageSize 5 (some .int) 2 [vR 1 k0, vR 6 0, vI l2] M (.inl (some (vI res.1))) res.2 := by
  refine ct_of [(0, vR 1 k0), (1, vR 6 0), (2, vI l2)] (by decide +kernel) hl hG (Nat.le_of_ble_eq_true rfl) rfl (List.forall_mem_cons.mpr ⟨Or.inl hk0, List.forall_mem_cons.mpr ⟨Or.inl hk1, List.forall_mem_cons.mpr ⟨trivial, fun _ h => nomatch h⟩⟩⟩) (List.forall_mem_cons.mpr ⟨Or.inl hk0, List.forall_mem_cons.mpr ⟨Or.inl hk1, List.forall_mem_cons.mpr ⟨trivial, fun _ h => nomatch h⟩⟩⟩) (fun X hX C => ?_)
  subst hX
  have Cl := C
  have J5 : ∀ (l2 : Int32) (l3 : Int32) (l4 : Int32) (M : Mem), f_X1_imageSize_h5 fu k0  l2 l3 l4 M = some res → GW G X 5 (QX G X (.inl (some (vI res.1))) res.2) 5 [(0, vR 1 k0), (1, vR 6 0), (2, vI l2), (3, vI l3), (4, vI l4)] [] M := by
    intro l2 l3 l4 M hm
    unfold f_X1_imageSize_h5 at hm
    obtain ⟨r5, hL5, hk5⟩ := bnd_some hm
    have hx5 : ∀ (l3 : Int32) (M : Mem), (l3, M) = r5 → GW G X 5 (QX G X (.inl (some (vI res.1))) res.2) 44 [(3, vI l3)] [] M := by
      intro l3 M he
      subst he
      have hm := hk5
      try dsimp only at hm
      refine g_iload_n C 0 dX1_imageSize_44 rfl rfl ?_
      obtain ⟨r45, hr45, hm⟩ := bnd_some hm
      refine g_callSi (As := [vI l3]) (rest := []) C lk_X1_62 (k_J6_bitCount_0f7a4 X.2.1 G hl hG fu l3 M r45  hr45) rfl rfl (Nat.le_of_ble_eq_true rfl) ⟨Nat.le_of_ble_eq_true rfl, Nat.le_of_ble_eq_true rfl⟩ dX1_imageSize_45 ?_
      obtain rfl := Option.some.inj hm
      exact g_iret C dX1_imageSize_48
    refine lp_ind2 (P := (fun l3 l4 M => GW G X 5 (QX G X (.inl (some (vI res.1))) res.2) 5 [(0, vR 1 k0), (1, vR 6 0), (2, vI l2), (3, vI l3), (4, vI l4)] [] M)) (r := r5) ?_ fu l3 l4 M hL5
    intro l3 l4 M o5 hm K5
    unfold f_X1_imageSize_b5 at hm
    refine g_iload C 4 dX1_imageSize_5 rfl ?_
    refine g_aload_n C 0 dX1_imageSize_7 rfl rfl ?_
    refine g_getr (k := k0) (k' := (2 * k0 + 12)) C (by decide) kf_X1_14 rfl rfl dX1_imageSize_8 ?_
    refine g_aload_n C 1 dX1_imageSize_11 rfl rfl ?_
    refine g_getrN (k := 0) (k' := 16) C (by decide) kf_X1_55 rfl rfl dX1_imageSize_12 ?_
    refine g_iload_n C 2 dX1_imageSize_15 rfl rfl ?_
    obtain ⟨r16, hr16, hm⟩ := bnd_some hm
    refine g_callVi (As := [vI l2]) (rest := [vR 8 (2 * k0 + 12), vI l4]) C lk_X1_30 (k_X8_get X.2.1 G hl hG fu 16 l2 M r16 ((hG _ hk1).2 1 8 16 0 rfl) hr16) (by decide) rfl rfl rfl (Nat.le_of_ble_eq_true rfl) ⟨Nat.le_of_ble_eq_true rfl, Nat.le_of_ble_eq_true rfl⟩ dX1_imageSize_16 ?_
    obtain ⟨r19, hr19, hm⟩ := bnd_some hm
    refine g_callVi (As := [vI r16.1]) (rest := [vI l4]) C lk_X1_30 (k_X8_get X.2.1 G hl hG fu (2 * k0 + 12) r16.1 r16.2 r19 ((hG _ hk0).2 0 8 12 2 rfl) hr19) (by decide) rfl rfl rfl (Nat.le_of_ble_eq_true rfl) ⟨Nat.le_of_ble_eq_true rfl, Nat.le_of_ble_eq_true rfl⟩ dX1_imageSize_19 ?_
    refine g_icmp_ge (tgt := 44) C dX1_imageSize_22 (by decide) (fun h22 => ?_) (fun h22 => ?_)
    · have hm := ift hm h22
      obtain rfl := Option.some.inj hm
      exact g_sub [3] rfl (g_pc rfl (hx5 l3 r19.2 (K5.2 _ rfl)))
    · have hm := ife hm h22
      refine g_iload_n C 3 dX1_imageSize_25 rfl rfl ?_
      refine g_iconst (v := 1) C dX1_imageSize_26 rfl ?_
      refine g_aload_n C 0 dX1_imageSize_27 rfl rfl ?_
      refine g_aload_n C 1 dX1_imageSize_28 rfl rfl ?_
      refine g_iload_n C 2 dX1_imageSize_29 rfl rfl ?_
      refine g_iload C 4 dX1_imageSize_30 rfl ?_
      obtain ⟨r32, hr32, hm⟩ := bnd_some hm
      refine g_callVi (As := [vR 6 0, vI l2, vI l4]) (rest := [vI (1 : Int32), vI l3]) C lk_X1_58 (k_X1_valueAlong X.2.1 G hl hG fu k0 l2 l4 r19.2 r32 hk0 hk1 hr32) (by decide) rfl rfl rfl (Nat.le_of_ble_eq_true rfl) ⟨Nat.le_of_ble_eq_true rfl, Nat.le_of_ble_eq_true rfl⟩ dX1_imageSize_32 ?_
      refine g_ishl C dX1_imageSize_35 ?_
      refine g_ior C dX1_imageSize_36 ?_
      refine g_istore_n (ls' := [(3, vI (l3 ||| ((1 : Int32) <<< (r32.1 &&& 31)))), (0, vR 1 k0), (1, vR 6 0), (2, vI l2), (4, vI l4)]) C dX1_imageSize_37 rfl (by decide) rfl ?_
      refine g_iinc (ls' := [(4, vI (l4 + (1 : Int32))), (3, vI (l3 ||| ((1 : Int32) <<< (r32.1 &&& 31)))), (0, vR 1 k0), (1, vR 6 0), (2, vI l2)]) (v := l4 + (1 : Int32)) C 4 dX1_imageSize_38 rfl (iv_p1 _) (by decide) rfl ?_
      refine g_goto (tgt := 5) C dX1_imageSize_41 (by decide) ?_
      obtain rfl := Option.some.inj hm
      exact g_sub [2, 3, 4, 1, 0] rfl (g_pc rfl (K5.1 (l3 ||| ((1 : Int32) <<< (r32.1 &&& 31))) (l4 + (1 : Int32)) r32.2 rfl))
  unfold f_X1_imageSize at hm
  refine g_iconst (v := 0) C dX1_imageSize_0 rfl ?_
  refine g_istore_n (ls' := [(3, vI (0 : Int32)), (0, vR 1 k0), (1, vR 6 0), (2, vI l2)]) C dX1_imageSize_1 rfl (by decide) rfl ?_
  refine g_iconst (v := 0) C dX1_imageSize_2 rfl ?_
  refine g_istore (ls' := [(4, vI (0 : Int32)), (3, vI (0 : Int32)), (0, vR 1 k0), (1, vR 6 0), (2, vI l2)]) C dX1_imageSize_3 (by decide) rfl ?_
  exact g_sub [2, 3, 4, 1, 0] rfl (g_pc rfl (J5 l2 (0 : Int32) (0 : Int32) M hm))
def f_X1_agree_b3 (fu : Nat) (k0 : Nat) (l2 : Int32) (l3 : Int32) (l4 : Int32) (M : Mem) : Option ((Int32 × Mem) ⊕ ((Mem) ⊕ (Int32 × Mem))) :=
  (f_X8_get fu 16 l2 M).bind (fun r14 => (f_X8_get fu (2 * k0 + 12) r14.1 r14.2).bind (fun r17 => if r17.1 ≤ l4 then some (Sum.inr (Sum.inl r17.2)) else (f_X1_valueAlong fu k0 l2 l4 r17.2).bind (fun r28 => (f_X1_valueAlong fu k0 l3 l4 r28.2).bind (fun r36 => if r28.1 = r36.1 then some (Sum.inl (l4 + (1 : Int32), r36.2)) else some (Sum.inr (Sum.inr ((0 : Int32), r36.2)))))))
def f_X1_agree_h3 (fu : Nat) (k0 : Nat)  (l2 : Int32) (l3 : Int32) (l4 : Int32) (M : Mem) : Option (Int32 × Mem) :=
  (lp_run (fun s => f_X1_agree_b3 fu k0 l2 l3 s.1 s.2) fu (l4, M)).bind (fun r3 => match r3 with
    | Sum.inl M => some ((1 : Int32), M)
    | Sum.inr q3 => some q3)
def f_X1_agree (fu : Nat) (k0 : Nat) (l2 : Int32) (l3 : Int32) (M : Mem) : Option (Int32 × Mem) :=
  f_X1_agree_h3 fu k0 l2 l3 (0 : Int32) M
set_option maxHeartbeats 4000000 in
set_option maxRecDepth 100000 in
theorem k_X1_agree (l : Launch) (G : GE) (hl : l.stackTraces = false) (hG : GOK G) (fu : Nat) (k0 : Nat) (l2 : Int32) (l3 : Int32) (M : Mem) (res : Int32 × Mem) (hk0 : (1, k0) ∈ gids G) (hk1 : (6, 0) ∈ gids G) (hm : f_X1_agree fu k0 l2 l3 M = some res) : CT l G yX1_agree cX1_agree 5 (some .boolean) 2 [vR 1 k0, vR 6 0, vI l2, vI l3] M (.inl (some (vI res.1))) res.2 := by
  refine ct_of [(0, vR 1 k0), (1, vR 6 0), (2, vI l2), (3, vI l3)] (by decide +kernel) hl hG (Nat.le_of_ble_eq_true rfl) rfl (List.forall_mem_cons.mpr ⟨Or.inl hk0, List.forall_mem_cons.mpr ⟨Or.inl hk1, List.forall_mem_cons.mpr ⟨trivial, List.forall_mem_cons.mpr ⟨trivial, fun _ h => nomatch h⟩⟩⟩⟩) (List.forall_mem_cons.mpr ⟨Or.inl hk0, List.forall_mem_cons.mpr ⟨Or.inl hk1, List.forall_mem_cons.mpr ⟨trivial, List.forall_mem_cons.mpr ⟨trivial, fun _ h => nomatch h⟩⟩⟩⟩) (fun X hX C => ?_)
  subst hX
  have Cl := C
  have J3 : ∀ (l2 : Int32) (l3 : Int32) (l4 : Int32) (M : Mem), f_X1_agree_h3 fu k0  l2 l3 l4 M = some res → GW G X 5 (QX G X (.inl (some (vI res.1))) res.2) 3 [(0, vR 1 k0), (1, vR 6 0), (2, vI l2), (3, vI l3), (4, vI l4)] [] M := by
    intro l2 l3 l4 M hm
    unfold f_X1_agree_h3 at hm
    obtain ⟨r3, hL3, hk3⟩ := bnd_some hm
    have hx3 : ∀ (M : Mem), Sum.inl M = r3 → GW G X 5 (QX G X (.inl (some (vI res.1))) res.2) 50 [] [] M := by
      intro M he
      subst he
      have hm := hk3
      try dsimp only at hm
      refine g_iconst (v := 1) C dX1_agree_50 rfl ?_
      obtain rfl := Option.some.inj hm
      exact g_zret C (Or.inr rfl) dX1_agree_51
    refine lp_ind1 (P := (fun l4 M => GW G X 5 (QX G X (.inl (some (vI res.1))) res.2) 3 [(0, vR 1 k0), (1, vR 6 0), (2, vI l2), (3, vI l3), (4, vI l4)] [] M)) (r := r3) ?_ fu l4 M hL3
    intro l4 M o3 hm K3
    unfold f_X1_agree_b3 at hm
    refine g_iload C 4 dX1_agree_3 rfl ?_
    refine g_aload_n C 0 dX1_agree_5 rfl rfl ?_
    refine g_getr (k := k0) (k' := (2 * k0 + 12)) C (by decide) kf_X1_14 rfl rfl dX1_agree_6 ?_
    refine g_aload_n C 1 dX1_agree_9 rfl rfl ?_
    refine g_getrN (k := 0) (k' := 16) C (by decide) kf_X1_55 rfl rfl dX1_agree_10 ?_
    refine g_iload_n C 2 dX1_agree_13 rfl rfl ?_
    obtain ⟨r14, hr14, hm⟩ := bnd_some hm
    refine g_callVi (As := [vI l2]) (rest := [vR 8 (2 * k0 + 12), vI l4]) C lk_X1_30 (k_X8_get X.2.1 G hl hG fu 16 l2 M r14 ((hG _ hk1).2 1 8 16 0 rfl) hr14) (by decide) rfl rfl rfl (Nat.le_of_ble_eq_true rfl) ⟨Nat.le_of_ble_eq_true rfl, Nat.le_of_ble_eq_true rfl⟩ dX1_agree_14 ?_
    obtain ⟨r17, hr17, hm⟩ := bnd_some hm
    refine g_callVi (As := [vI r14.1]) (rest := [vI l4]) C lk_X1_30 (k_X8_get X.2.1 G hl hG fu (2 * k0 + 12) r14.1 r14.2 r17 ((hG _ hk0).2 0 8 12 2 rfl) hr17) (by decide) rfl rfl rfl (Nat.le_of_ble_eq_true rfl) ⟨Nat.le_of_ble_eq_true rfl, Nat.le_of_ble_eq_true rfl⟩ dX1_agree_17 ?_
    refine g_icmp_ge (tgt := 50) C dX1_agree_20 (by decide) (fun h20 => ?_) (fun h20 => ?_)
    · have hm := ift hm h20
      obtain rfl := Option.some.inj hm
      exact g_sub [] rfl (g_pc rfl (hx3 r17.2 (K3.2 _ rfl)))
    · have hm := ife hm h20
      refine g_aload_n C 0 dX1_agree_23 rfl rfl ?_
      refine g_aload_n C 1 dX1_agree_24 rfl rfl ?_
      refine g_iload_n C 2 dX1_agree_25 rfl rfl ?_
      refine g_iload C 4 dX1_agree_26 rfl ?_
      obtain ⟨r28, hr28, hm⟩ := bnd_some hm
      refine g_callVi (As := [vR 6 0, vI l2, vI l4]) (rest := []) C lk_X1_58 (k_X1_valueAlong X.2.1 G hl hG fu k0 l2 l4 r17.2 r28 hk0 hk1 hr28) (by decide) rfl rfl rfl (Nat.le_of_ble_eq_true rfl) ⟨Nat.le_of_ble_eq_true rfl, Nat.le_of_ble_eq_true rfl⟩ dX1_agree_28 ?_
      refine g_aload_n C 0 dX1_agree_31 rfl rfl ?_
      refine g_aload_n C 1 dX1_agree_32 rfl rfl ?_
      refine g_iload_n C 3 dX1_agree_33 rfl rfl ?_
      refine g_iload C 4 dX1_agree_34 rfl ?_
      obtain ⟨r36, hr36, hm⟩ := bnd_some hm
      refine g_callVi (As := [vR 6 0, vI l3, vI l4]) (rest := [vI r28.1]) C lk_X1_58 (k_X1_valueAlong X.2.1 G hl hG fu k0 l3 l4 r28.2 r36 hk0 hk1 hr36) (by decide) rfl rfl rfl (Nat.le_of_ble_eq_true rfl) ⟨Nat.le_of_ble_eq_true rfl, Nat.le_of_ble_eq_true rfl⟩ dX1_agree_36 ?_
      refine g_icmp_eq (tgt := 44) C dX1_agree_39 (by decide) (fun h39 => ?_) (fun h39 => ?_)
      · have hm := ift hm h39
        refine g_iinc (ls' := [(4, vI (l4 + (1 : Int32))), (0, vR 1 k0), (1, vR 6 0), (2, vI l2), (3, vI l3)]) (v := l4 + (1 : Int32)) C 4 dX1_agree_44 rfl (iv_p1 _) (by decide) rfl ?_
        refine g_goto (tgt := 3) C dX1_agree_47 (by decide) ?_
        obtain rfl := Option.some.inj hm
        exact g_sub [1, 2, 3, 4, 0] rfl (g_pc rfl (K3.1 (l4 + (1 : Int32)) r36.2 rfl))
      · have hm := ife hm h39
        refine g_iconst (v := 0) C dX1_agree_42 rfl ?_
        obtain rfl := Option.some.inj hm
        have e3 := K3.2 _ rfl
        subst e3
        obtain rfl := Option.some.inj hk3
        exact g_zret C (Or.inl rfl) dX1_agree_43
  unfold f_X1_agree at hm
  refine g_iconst (v := 0) C dX1_agree_0 rfl ?_
  refine g_istore (ls' := [(4, vI (0 : Int32)), (0, vR 1 k0), (1, vR 6 0), (2, vI l2), (3, vI l3)]) C dX1_agree_1 (by decide) rfl ?_
  exact g_sub [1, 2, 3, 4, 0] rfl (g_pc rfl (J3 l2 l3 (0 : Int32) M hm))
def f_X1_choose_b7 (fu : Nat) (k0 : Nat)  (l3 : Int32) (l4 : Int32) (M : Mem) : Option ((Int32 × Int32 × Mem) ⊕ (Mem)) :=
  if l4 < 0 then some (Sum.inr M) else (f_X8_set fu (2 * k0 + 13) l4 ((l3 &&& (1 : Int32)) ||| ((l3 &&& (2 : Int32)) <<< ((1 : Int32) &&& 31))) M).bind (fun r27 => some (Sum.inl (l3 >>> ((2 : Int32) &&& 31), l4 + (-1 : Int32), r27)))
def f_X1_choose_h7 (fu : Nat) (k0 : Nat)  (l3 : Int32) (l4 : Int32) (M : Mem) : Option (Mem) :=
  (lp_run (fun s => f_X1_choose_b7 fu k0  s.1 s.2.1 s.2.2) fu (l3, l4, M)).bind (fun M => some M)
def f_X1_choose (fu : Nat) (k0 : Nat) (l1 : Int32) (l2 : Int32) (M : Mem) : Option (Mem) :=
  f_X1_choose_h7 fu k0 l1 (l2 - (1 : Int32)) M
set_option maxHeartbeats 4000000 in
set_option maxRecDepth 100000 in
theorem k_X1_choose (l : Launch) (G : GE) (hl : l.stackTraces = false) (hG : GOK G) (fu : Nat) (k0 : Nat) (l1 : Int32) (l2 : Int32) (M : Mem) (res : Mem) (hk0 : (1, k0) ∈ gids G) (hm : f_X1_choose fu k0 l1 l2 M = some res) : CT l G yX1_choose cX1_choose 5 none 1 [vR 1 k0, vI l1, vI l2] M (.inl none) res := by
  refine ct_of [(0, vR 1 k0), (1, vI l1), (2, vI l2)] (by decide +kernel) hl hG (Nat.le_of_ble_eq_true rfl) rfl (List.forall_mem_cons.mpr ⟨Or.inl hk0, List.forall_mem_cons.mpr ⟨trivial, List.forall_mem_cons.mpr ⟨trivial, fun _ h => nomatch h⟩⟩⟩) (List.forall_mem_cons.mpr ⟨Or.inl hk0, List.forall_mem_cons.mpr ⟨trivial, List.forall_mem_cons.mpr ⟨trivial, fun _ h => nomatch h⟩⟩⟩) (fun X hX C => ?_)
  subst hX
  have Cl := C
  have J7 : ∀ (l3 : Int32) (l4 : Int32) (M : Mem), f_X1_choose_h7 fu k0  l3 l4 M = some res → GW G X 5 (QX G X (.inl none) res) 7 [(0, vR 1 k0), (3, vI l3), (4, vI l4)] [] M := by
    intro l3 l4 M hm
    unfold f_X1_choose_h7 at hm
    obtain ⟨r7, hL7, hk7⟩ := bnd_some hm
    have hx7 : ∀ (M : Mem), M = r7 → GW G X 5 (QX G X (.inl none) res) 40 [] [] M := by
      intro M he
      subst he
      have hm := hk7
      try dsimp only at hm
      obtain rfl := Option.some.inj hm
      exact g_vret C dX1_choose_40
    refine lp_ind2 (P := (fun l3 l4 M => GW G X 5 (QX G X (.inl none) res) 7 [(0, vR 1 k0), (3, vI l3), (4, vI l4)] [] M)) (r := r7) ?_ fu l3 l4 M hL7
    intro l3 l4 M o7 hm K7
    unfold f_X1_choose_b7 at hm
    refine g_iload C 2 dX1_choose_7 rfl ?_
    refine g_if_lt (tgt := 40) C dX1_choose_9 (by decide) (fun h9 => ?_) (fun h9 => ?_)
    · have hm := ift hm h9
      obtain rfl := Option.some.inj hm
      exact g_sub [] rfl (g_pc rfl (hx7 M (K7.2 _ rfl)))
    · have hm := ife hm h9
      refine g_aload_n C 0 dX1_choose_12 rfl rfl ?_
      refine g_getr (k := k0) (k' := (2 * k0 + 13)) C (by decide) kf_X1_20 rfl rfl dX1_choose_13 ?_
      refine g_iload C 2 dX1_choose_16 rfl ?_
      refine g_iload_n C 1 dX1_choose_18 rfl rfl ?_
      refine g_iconst (v := 1) C dX1_choose_19 rfl ?_
      refine g_iand C dX1_choose_20 ?_
      refine g_iload_n C 1 dX1_choose_21 rfl rfl ?_
      refine g_iconst (v := 2) C dX1_choose_22 rfl ?_
      refine g_iand C dX1_choose_23 ?_
      refine g_iconst (v := 1) C dX1_choose_24 rfl ?_
      refine g_ishl C dX1_choose_25 ?_
      refine g_ior C dX1_choose_26 ?_
      obtain ⟨r27, hr27, hm⟩ := bnd_some hm
      refine g_callVv (As := [vI l4, vI ((l3 &&& (1 : Int32)) ||| ((l3 &&& (2 : Int32)) <<< ((1 : Int32) &&& 31)))]) (rest := []) C lk_X1_34 (k_X8_set X.2.1 G hl hG fu (2 * k0 + 13) l4 ((l3 &&& (1 : Int32)) ||| ((l3 &&& (2 : Int32)) <<< ((1 : Int32) &&& 31))) M r27 ((hG _ hk0).2 1 8 13 2 rfl) hr27) (by decide) rfl rfl rfl (Nat.le_of_ble_eq_true rfl) ⟨Nat.le_of_ble_eq_true rfl, Nat.le_of_ble_eq_true rfl⟩ dX1_choose_27 ?_
      refine g_iload_n C 1 dX1_choose_30 rfl rfl ?_
      refine g_iconst (v := 2) C dX1_choose_31 rfl ?_
      refine g_ishr C dX1_choose_32 ?_
      refine g_istore_n (ls' := [(3, vI (l3 >>> ((2 : Int32) &&& 31))), (0, vR 1 k0), (4, vI l4)]) C dX1_choose_33 rfl (by decide) rfl ?_
      refine g_iinc (ls' := [(4, vI (l4 + (-1 : Int32))), (3, vI (l3 >>> ((2 : Int32) &&& 31))), (0, vR 1 k0)]) (v := l4 + (-1 : Int32)) C 2 dX1_choose_34 rfl (iv_m1 _) (by decide) rfl ?_
      refine g_goto (tgt := 7) C dX1_choose_37 (by decide) ?_
      obtain rfl := Option.some.inj hm
      exact g_sub [2, 1, 0] rfl (g_pc rfl (K7.1 (l3 >>> ((2 : Int32) &&& 31)) (l4 + (-1 : Int32)) r27 rfl))
  unfold f_X1_choose at hm
  refine g_iload_n C 1 dX1_choose_0 rfl rfl ?_
  refine g_istore_n (ls' := [(3, vI l1), (0, vR 1 k0), (1, vI l1), (2, vI l2)]) C dX1_choose_1 rfl (by decide) rfl ?_
  refine g_iload_n C 3 dX1_choose_2 rfl rfl ?_
  refine g_iconst (v := 1) C dX1_choose_3 rfl ?_
  refine g_isub C dX1_choose_4 ?_
  refine g_istore (ls' := [(4, vI (l2 - (1 : Int32))), (3, vI l1), (0, vR 1 k0), (1, vI l1), (2, vI l2)]) C dX1_choose_5 (by decide) rfl ?_
  exact g_sub [2, 1, 0] rfl (g_pc rfl (J7 l1 (l2 - (1 : Int32)) M hm))
def f_X1_isCode_b17 (fu : Nat)  (l0 : Int32) (l1 : Int32) (l2 : Int32) (l3 : Int32) (M : Mem) : Option ((Int32 × Mem) ⊕ ((Mem) ⊕ (Int32 × Mem))) :=
  if l1 ≤ l3 then some (Sum.inr (Sum.inl M)) else (f_X1_digit fu l0 l3 M).bind (fun r24 => if r24.1 < l2 then some (Sum.inl (l3 + (1 : Int32), r24.2)) else some (Sum.inr (Sum.inr ((0 : Int32), r24.2))))
def f_X1_isCode_h17 (fu : Nat)   (l0 : Int32) (l1 : Int32) (l2 : Int32) (l3 : Int32) (M : Mem) : Option (Int32 × Mem) :=
  (lp_run (fun s => f_X1_isCode_b17 fu  l0 l1 l2 s.1 s.2) fu (l3, M)).bind (fun r17 => match r17 with
    | Sum.inl M => some ((1 : Int32), M)
    | Sum.inr q17 => some q17)
def f_X1_isCode (fu : Nat) (l0 : Int32) (l1 : Int32) (l2 : Int32) (M : Mem) : Option (Int32 × Mem) :=
  if l0 < 0 then some ((0 : Int32), M) else if l0 < ((1 : Int32) <<< (((2 : Int32) * l1) &&& 31)) then f_X1_isCode_h17 fu l0 l1 l2 (0 : Int32) M else some ((0 : Int32), M)
set_option maxHeartbeats 4000000 in
set_option maxRecDepth 100000 in
theorem k_X1_isCode (l : Launch) (G : GE) (hl : l.stackTraces = false) (hG : GOK G) (fu : Nat) (l0 : Int32) (l1 : Int32) (l2 : Int32) (M : Mem) (res : Int32 × Mem)  (hm : f_X1_isCode fu l0 l1 l2 M = some res) : CT l G yX1_isCode cX1_isCode 4 (some .boolean) 1 [vI l0, vI l1, vI l2] M (.inl (some (vI res.1))) res.2 := by
  refine ct_of [(0, vI l0), (1, vI l1), (2, vI l2)] (by decide +kernel) hl hG (Nat.le_of_ble_eq_true rfl) rfl (List.forall_mem_cons.mpr ⟨trivial, List.forall_mem_cons.mpr ⟨trivial, List.forall_mem_cons.mpr ⟨trivial, fun _ h => nomatch h⟩⟩⟩) (List.forall_mem_cons.mpr ⟨trivial, List.forall_mem_cons.mpr ⟨trivial, List.forall_mem_cons.mpr ⟨trivial, fun _ h => nomatch h⟩⟩⟩) (fun X hX C => ?_)
  subst hX
  have Cl := C
  have J17 : ∀ (l0 : Int32) (l1 : Int32) (l2 : Int32) (l3 : Int32) (M : Mem), f_X1_isCode_h17 fu   l0 l1 l2 l3 M = some res → GW G X 4 (QX G X (.inl (some (vI res.1))) res.2) 17 [(0, vI l0), (1, vI l1), (2, vI l2), (3, vI l3)] [] M := by
    intro l0 l1 l2 l3 M hm
    unfold f_X1_isCode_h17 at hm
    obtain ⟨r17, hL17, hk17⟩ := bnd_some hm
    have hx17 : ∀ (M : Mem), Sum.inl M = r17 → GW G X 4 (QX G X (.inl (some (vI res.1))) res.2) 39 [] [] M := by
      intro M he
      subst he
      have hm := hk17
      try dsimp only at hm
      refine g_iconst (v := 1) C dX1_isCode_39 rfl ?_
      obtain rfl := Option.some.inj hm
      exact g_zret C (Or.inr rfl) dX1_isCode_40
    refine lp_ind1 (P := (fun l3 M => GW G X 4 (QX G X (.inl (some (vI res.1))) res.2) 17 [(0, vI l0), (1, vI l1), (2, vI l2), (3, vI l3)] [] M)) (r := r17) ?_ fu l3 M hL17
    intro l3 M o17 hm K17
    unfold f_X1_isCode_b17 at hm
    refine g_iload_n C 3 dX1_isCode_17 rfl rfl ?_
    refine g_iload_n C 1 dX1_isCode_18 rfl rfl ?_
    refine g_icmp_ge (tgt := 39) C dX1_isCode_19 (by decide) (fun h19 => ?_) (fun h19 => ?_)
    · have hm := ift hm h19
      obtain rfl := Option.some.inj hm
      exact g_sub [] rfl (g_pc rfl (hx17 M (K17.2 _ rfl)))
    · have hm := ife hm h19
      refine g_iload_n C 0 dX1_isCode_22 rfl rfl ?_
      refine g_iload_n C 3 dX1_isCode_23 rfl rfl ?_
      obtain ⟨r24, hr24, hm⟩ := bnd_some hm
      refine g_callSi (As := [vI l0, vI l3]) (rest := []) C lk_X1_38 (k_X1_digit X.2.1 G hl hG fu l0 l3 M r24  hr24) rfl rfl (Nat.le_of_ble_eq_true rfl) ⟨Nat.le_of_ble_eq_true rfl, Nat.le_of_ble_eq_true rfl⟩ dX1_isCode_24 ?_
      refine g_iload_n C 2 dX1_isCode_27 rfl rfl ?_
      refine g_icmp_lt (tgt := 33) C dX1_isCode_28 (by decide) (fun h28 => ?_) (fun h28 => ?_)
      · have hm := ift hm h28
        refine g_iinc (ls' := [(3, vI (l3 + (1 : Int32))), (0, vI l0), (1, vI l1), (2, vI l2)]) (v := l3 + (1 : Int32)) C 3 dX1_isCode_33 rfl (iv_p1 _) (by decide) rfl ?_
        refine g_goto (tgt := 17) C dX1_isCode_36 (by decide) ?_
        obtain rfl := Option.some.inj hm
        exact g_sub [1, 2, 3, 0] rfl (g_pc rfl (K17.1 (l3 + (1 : Int32)) r24.2 rfl))
      · have hm := ife hm h28
        refine g_iconst (v := 0) C dX1_isCode_31 rfl ?_
        obtain rfl := Option.some.inj hm
        have e17 := K17.2 _ rfl
        subst e17
        obtain rfl := Option.some.inj hk17
        exact g_zret C (Or.inl rfl) dX1_isCode_32
  unfold f_X1_isCode at hm
  refine g_iload_n C 0 dX1_isCode_0 rfl rfl ?_
  refine g_if_lt (tgt := 13) C dX1_isCode_1 (by decide) (fun h1 => ?_) (fun h1 => ?_)
  · have hm := ift hm h1
    refine g_iconst (v := 0) C dX1_isCode_13 rfl ?_
    obtain rfl := Option.some.inj hm
    exact g_zret C (Or.inl rfl) dX1_isCode_14
  · have hm := ife hm h1
    refine g_iload_n C 0 dX1_isCode_4 rfl rfl ?_
    refine g_iconst (v := 1) C dX1_isCode_5 rfl ?_
    refine g_iconst (v := 2) C dX1_isCode_6 rfl ?_
    refine g_iload_n C 1 dX1_isCode_7 rfl rfl ?_
    refine g_imul C dX1_isCode_8 ?_
    refine g_ishl C dX1_isCode_9 ?_
    refine g_icmp_lt (tgt := 15) C dX1_isCode_10 (by decide) (fun h10 => ?_) (fun h10 => ?_)
    · have hm := ift hm h10
      refine g_iconst (v := 0) C dX1_isCode_15 rfl ?_
      refine g_istore_n (ls' := [(3, vI (0 : Int32)), (0, vI l0), (1, vI l1), (2, vI l2)]) C dX1_isCode_16 rfl (by decide) rfl ?_
      exact g_sub [1, 2, 3, 0] rfl (g_pc rfl (J17 l0 l1 l2 (0 : Int32) M hm))
    · have hm := ife hm h10
      refine g_iconst (v := 0) C dX1_isCode_13 rfl ?_
      obtain rfl := Option.some.inj hm
      exact g_zret C (Or.inl rfl) dX1_isCode_14
def f_X2_clear (fu : Nat) (k0 : Nat) (l1 : Int32) (M : Mem) : Option (Mem) :=
  some (mI (mI M 2 k0 0 l1) 2 k0 1 (0 : Int32))
set_option maxHeartbeats 4000000 in
set_option maxRecDepth 100000 in
theorem k_X2_clear (l : Launch) (G : GE) (hl : l.stackTraces = false) (hG : GOK G) (fu : Nat) (k0 : Nat) (l1 : Int32) (M : Mem) (res : Mem) (hk0 : (2, k0) ∈ gids G) (hm : f_X2_clear fu k0 l1 M = some res) : CT l G yX2_clear cX2_clear 2 none 0 [vR 2 k0, vI l1] M (.inl none) res := by
  refine ct_of [(0, vR 2 k0), (1, vI l1)] (by decide +kernel) hl hG (Nat.le_of_ble_eq_true rfl) rfl (List.forall_mem_cons.mpr ⟨Or.inl hk0, List.forall_mem_cons.mpr ⟨trivial, fun _ h => nomatch h⟩⟩) (List.forall_mem_cons.mpr ⟨Or.inl hk0, List.forall_mem_cons.mpr ⟨trivial, fun _ h => nomatch h⟩⟩) (fun X hX C => ?_)
  subst hX
  have Cl := C
  unfold f_X2_clear at hm
  refine g_aload_n C 0 dX2_clear_0 rfl rfl ?_
  refine g_iload_n C 1 dX2_clear_1 rfl rfl ?_
  refine g_puti C (by decide) kf_X2_9 rfl rfl rfl dX2_clear_2 ?_
  refine g_aload_n C 0 dX2_clear_5 rfl rfl ?_
  refine g_iconst (v := 0) C dX2_clear_6 rfl ?_
  refine g_puti C (by decide) kf_X2_15 rfl rfl rfl dX2_clear_7 ?_
  obtain rfl := Option.some.inj hm
  exact g_vret C dX2_clear_10
def f_X2_become (fu : Nat) (k0 : Nat) (k1 : Nat) (M : Mem) : Option (Mem) :=
  (f_X8_copyFrom fu (3 * k0 + 0) (3 * k1 + 0) (mI (mI M 2 k0 0 (M.1 2 k1 0)) 2 k0 1 ((mI M 2 k0 0 (M.1 2 k1 0)).1 2 k1 1))).bind (fun r24 => (f_X8_copyFrom fu (3 * k0 + 1) (3 * k1 + 1) r24).bind (fun r35 => some r35))
set_option maxHeartbeats 4000000 in
set_option maxRecDepth 100000 in
theorem k_X2_become (l : Launch) (G : GE) (hl : l.stackTraces = false) (hG : GOK G) (fu : Nat) (k0 : Nat) (k1 : Nat) (M : Mem) (res : Mem) (hk0 : (2, k0) ∈ gids G) (hk1 : (2, k1) ∈ gids G) (hm : f_X2_become fu k0 k1 M = some res) : CT l G yX2_become cX2_become 2 none 2 [vR 2 k0, vR 2 k1] M (.inl none) res := by
  refine ct_of [(0, vR 2 k0), (1, vR 2 k1)] (by decide +kernel) hl hG (Nat.le_of_ble_eq_true rfl) rfl (List.forall_mem_cons.mpr ⟨Or.inl hk0, List.forall_mem_cons.mpr ⟨Or.inl hk1, fun _ h => nomatch h⟩⟩) (List.forall_mem_cons.mpr ⟨Or.inl hk0, List.forall_mem_cons.mpr ⟨Or.inl hk1, fun _ h => nomatch h⟩⟩) (fun X hX C => ?_)
  subst hX
  have Cl := C
  unfold f_X2_become at hm
  refine g_aload_n C 0 dX2_become_0 rfl rfl ?_
  refine g_aload_n C 1 dX2_become_1 rfl rfl ?_
  refine g_geti (k := k1) C (by decide) kf_X2_9 rfl dX2_become_2 ?_
  refine g_puti C (by decide) kf_X2_9 rfl rfl rfl dX2_become_5 ?_
  refine g_aload_n C 0 dX2_become_8 rfl rfl ?_
  refine g_aload_n C 1 dX2_become_9 rfl rfl ?_
  refine g_geti (k := k1) C (by decide) kf_X2_15 rfl dX2_become_10 ?_
  refine g_puti C (by decide) kf_X2_15 rfl rfl rfl dX2_become_13 ?_
  refine g_aload_n C 0 dX2_become_16 rfl rfl ?_
  refine g_getr (k := k0) (k' := (3 * k0 + 0)) C (by decide) kf_X2_23 rfl rfl dX2_become_17 ?_
  refine g_aload_n C 1 dX2_become_20 rfl rfl ?_
  refine g_getr (k := k1) (k' := (3 * k1 + 0)) C (by decide) kf_X2_23 rfl rfl dX2_become_21 ?_
  obtain ⟨r24, hr24, hm⟩ := bnd_some hm
  refine g_callVv (As := [vR 8 (3 * k1 + 0)]) (rest := []) C lk_X2_33 (k_X8_copyFrom X.2.1 G hl hG fu (3 * k0 + 0) (3 * k1 + 0) (mI (mI M 2 k0 0 (M.1 2 k1 0)) 2 k0 1 ((mI M 2 k0 0 (M.1 2 k1 0)).1 2 k1 1)) r24 ((hG _ hk0).2 2 8 0 3 rfl) ((hG _ hk1).2 2 8 0 3 rfl) hr24) (by decide) rfl rfl rfl (Nat.le_of_ble_eq_true rfl) ⟨Nat.le_of_ble_eq_true rfl, Nat.le_of_ble_eq_true rfl⟩ dX2_become_24 ?_
  refine g_aload_n C 0 dX2_become_27 rfl rfl ?_
  refine g_getr (k := k0) (k' := (3 * k0 + 1)) C (by decide) kf_X2_27 rfl rfl dX2_become_28 ?_
  refine g_aload_n C 1 dX2_become_31 rfl rfl ?_
  refine g_getr (k := k1) (k' := (3 * k1 + 1)) C (by decide) kf_X2_27 rfl rfl dX2_become_32 ?_
  obtain ⟨r35, hr35, hm⟩ := bnd_some hm
  refine g_callVv (As := [vR 8 (3 * k1 + 1)]) (rest := []) C lk_X2_33 (k_X8_copyFrom X.2.1 G hl hG fu (3 * k0 + 1) (3 * k1 + 1) r24 r35 ((hG _ hk0).2 3 8 1 3 rfl) ((hG _ hk1).2 3 8 1 3 rfl) hr35) (by decide) rfl rfl rfl (Nat.le_of_ble_eq_true rfl) ⟨Nat.le_of_ble_eq_true rfl, Nat.le_of_ble_eq_true rfl⟩ dX2_become_35 ?_
  obtain rfl := Option.some.inj hm
  exact g_vret C dX2_become_38
def f_X2_objectTotal (fu : Nat) (k0 : Nat) (M : Mem) : Option (Int32 × Mem) :=
  some (M.1 2 k0 0, M)
set_option maxHeartbeats 4000000 in
set_option maxRecDepth 100000 in
theorem k_X2_objectTotal (l : Launch) (G : GE) (hl : l.stackTraces = false) (hG : GOK G) (fu : Nat) (k0 : Nat) (M : Mem) (res : Int32 × Mem) (hk0 : (2, k0) ∈ gids G) (hm : f_X2_objectTotal fu k0 M = some res) : CT l G yX2_objectTotal cX2_objectTotal 1 (some .int) 0 [vR 2 k0] M (.inl (some (vI res.1))) res.2 := by
  refine ct_of [(0, vR 2 k0)] (by decide +kernel) hl hG (Nat.le_of_ble_eq_true rfl) rfl (List.forall_mem_cons.mpr ⟨Or.inl hk0, fun _ h => nomatch h⟩) (List.forall_mem_cons.mpr ⟨Or.inl hk0, fun _ h => nomatch h⟩) (fun X hX C => ?_)
  subst hX
  have Cl := C
  unfold f_X2_objectTotal at hm
  refine g_aload_n C 0 dX2_objectTotal_0 rfl rfl ?_
  refine g_geti (k := k0) C (by decide) kf_X2_9 rfl dX2_objectTotal_1 ?_
  obtain rfl := Option.some.inj hm
  exact g_iret C dX2_objectTotal_4
def f_X2_arrowTotal (fu : Nat) (k0 : Nat) (M : Mem) : Option (Int32 × Mem) :=
  some (M.1 2 k0 1, M)
set_option maxHeartbeats 4000000 in
set_option maxRecDepth 100000 in
theorem k_X2_arrowTotal (l : Launch) (G : GE) (hl : l.stackTraces = false) (hG : GOK G) (fu : Nat) (k0 : Nat) (M : Mem) (res : Int32 × Mem) (hk0 : (2, k0) ∈ gids G) (hm : f_X2_arrowTotal fu k0 M = some res) : CT l G yX2_arrowTotal cX2_arrowTotal 1 (some .int) 0 [vR 2 k0] M (.inl (some (vI res.1))) res.2 := by
  refine ct_of [(0, vR 2 k0)] (by decide +kernel) hl hG (Nat.le_of_ble_eq_true rfl) rfl (List.forall_mem_cons.mpr ⟨Or.inl hk0, fun _ h => nomatch h⟩) (List.forall_mem_cons.mpr ⟨Or.inl hk0, fun _ h => nomatch h⟩) (fun X hX C => ?_)
  subst hX
  have Cl := C
  unfold f_X2_arrowTotal at hm
  refine g_aload_n C 0 dX2_arrowTotal_0 rfl rfl ?_
  refine g_geti (k := k0) C (by decide) kf_X2_15 rfl dX2_arrowTotal_1 ?_
  obtain rfl := Option.some.inj hm
  exact g_iret C dX2_arrowTotal_4
def f_X2_hasObject (fu : Nat) (k0 : Nat) (l1 : Int32) (M : Mem) : Option (Int32 × Mem) :=
  if l1 < 0 then some ((0 : Int32), M) else if (M.1 2 k0 0) ≤ l1 then some ((0 : Int32), M) else some ((1 : Int32), M)
set_option maxHeartbeats 4000000 in
set_option maxRecDepth 100000 in
theorem k_X2_hasObject (l : Launch) (G : GE) (hl : l.stackTraces = false) (hG : GOK G) (fu : Nat) (k0 : Nat) (l1 : Int32) (M : Mem) (res : Int32 × Mem) (hk0 : (2, k0) ∈ gids G) (hm : f_X2_hasObject fu k0 l1 M = some res) : CT l G yX2_hasObject cX2_hasObject 2 (some .boolean) 0 [vR 2 k0, vI l1] M (.inl (some (vI res.1))) res.2 := by
  refine ct_of [(0, vR 2 k0), (1, vI l1)] (by decide +kernel) hl hG (Nat.le_of_ble_eq_true rfl) rfl (List.forall_mem_cons.mpr ⟨Or.inl hk0, List.forall_mem_cons.mpr ⟨trivial, fun _ h => nomatch h⟩⟩) (List.forall_mem_cons.mpr ⟨Or.inl hk0, List.forall_mem_cons.mpr ⟨trivial, fun _ h => nomatch h⟩⟩) (fun X hX C => ?_)
  subst hX
  have Cl := C
  unfold f_X2_hasObject at hm
  refine g_iload_n C 1 dX2_hasObject_0 rfl rfl ?_
  refine g_if_lt (tgt := 16) C dX2_hasObject_1 (by decide) (fun h1 => ?_) (fun h1 => ?_)
  · have hm := ift hm h1
    refine g_iconst (v := 0) C dX2_hasObject_16 rfl ?_
    obtain rfl := Option.some.inj hm
    exact g_zret C (Or.inl rfl) dX2_hasObject_17
  · have hm := ife hm h1
    refine g_iload_n C 1 dX2_hasObject_4 rfl rfl ?_
    refine g_aload_n C 0 dX2_hasObject_5 rfl rfl ?_
    refine g_geti (k := k0) C (by decide) kf_X2_9 rfl dX2_hasObject_6 ?_
    refine g_icmp_ge (tgt := 16) C dX2_hasObject_9 (by decide) (fun h9 => ?_) (fun h9 => ?_)
    · have hm := ift hm h9
      refine g_iconst (v := 0) C dX2_hasObject_16 rfl ?_
      obtain rfl := Option.some.inj hm
      exact g_zret C (Or.inl rfl) dX2_hasObject_17
    · have hm := ife hm h9
      refine g_iconst (v := 1) C dX2_hasObject_12 rfl ?_
      refine g_goto (tgt := 17) C dX2_hasObject_13 (by decide) ?_
      obtain rfl := Option.some.inj hm
      exact g_zret C (Or.inr rfl) dX2_hasObject_17
def f_X2_hasArrow (fu : Nat) (k0 : Nat) (l1 : Int32) (M : Mem) : Option (Int32 × Mem) :=
  if l1 < 0 then some ((0 : Int32), M) else if (M.1 2 k0 1) ≤ l1 then some ((0 : Int32), M) else some ((1 : Int32), M)
set_option maxHeartbeats 4000000 in
set_option maxRecDepth 100000 in
theorem k_X2_hasArrow (l : Launch) (G : GE) (hl : l.stackTraces = false) (hG : GOK G) (fu : Nat) (k0 : Nat) (l1 : Int32) (M : Mem) (res : Int32 × Mem) (hk0 : (2, k0) ∈ gids G) (hm : f_X2_hasArrow fu k0 l1 M = some res) : CT l G yX2_hasArrow cX2_hasArrow 2 (some .boolean) 0 [vR 2 k0, vI l1] M (.inl (some (vI res.1))) res.2 := by
  refine ct_of [(0, vR 2 k0), (1, vI l1)] (by decide +kernel) hl hG (Nat.le_of_ble_eq_true rfl) rfl (List.forall_mem_cons.mpr ⟨Or.inl hk0, List.forall_mem_cons.mpr ⟨trivial, fun _ h => nomatch h⟩⟩) (List.forall_mem_cons.mpr ⟨Or.inl hk0, List.forall_mem_cons.mpr ⟨trivial, fun _ h => nomatch h⟩⟩) (fun X hX C => ?_)
  subst hX
  have Cl := C
  unfold f_X2_hasArrow at hm
  refine g_iload_n C 1 dX2_hasArrow_0 rfl rfl ?_
  refine g_if_lt (tgt := 16) C dX2_hasArrow_1 (by decide) (fun h1 => ?_) (fun h1 => ?_)
  · have hm := ift hm h1
    refine g_iconst (v := 0) C dX2_hasArrow_16 rfl ?_
    obtain rfl := Option.some.inj hm
    exact g_zret C (Or.inl rfl) dX2_hasArrow_17
  · have hm := ife hm h1
    refine g_iload_n C 1 dX2_hasArrow_4 rfl rfl ?_
    refine g_aload_n C 0 dX2_hasArrow_5 rfl rfl ?_
    refine g_geti (k := k0) C (by decide) kf_X2_15 rfl dX2_hasArrow_6 ?_
    refine g_icmp_ge (tgt := 16) C dX2_hasArrow_9 (by decide) (fun h9 => ?_) (fun h9 => ?_)
    · have hm := ift hm h9
      refine g_iconst (v := 0) C dX2_hasArrow_16 rfl ?_
      obtain rfl := Option.some.inj hm
      exact g_zret C (Or.inl rfl) dX2_hasArrow_17
    · have hm := ife hm h9
      refine g_iconst (v := 1) C dX2_hasArrow_12 rfl ?_
      refine g_goto (tgt := 17) C dX2_hasArrow_13 (by decide) ?_
      obtain rfl := Option.some.inj hm
      exact g_zret C (Or.inr rfl) dX2_hasArrow_17
def f_X2_from (fu : Nat) (k0 : Nat) (l1 : Int32) (M : Mem) : Option (Int32 × Mem) :=
  (f_X2_hasArrow fu k0 l1 M).bind (fun r2 => if r2.1 = 0 then some ((-1 : Int32), r2.2) else (f_X8_get fu (3 * k0 + 0) l1 r2.2).bind (fun r13 => some (r13.1, r13.2)))
set_option maxHeartbeats 4000000 in
set_option maxRecDepth 100000 in
theorem k_X2_from (l : Launch) (G : GE) (hl : l.stackTraces = false) (hG : GOK G) (fu : Nat) (k0 : Nat) (l1 : Int32) (M : Mem) (res : Int32 × Mem) (hk0 : (2, k0) ∈ gids G) (hm : f_X2_from fu k0 l1 M = some res) : CT l G yX2_from cX2_from 2 (some .int) 1 [vR 2 k0, vI l1] M (.inl (some (vI res.1))) res.2 := by
  refine ct_of [(0, vR 2 k0), (1, vI l1)] (by decide +kernel) hl hG (Nat.le_of_ble_eq_true rfl) rfl (List.forall_mem_cons.mpr ⟨Or.inl hk0, List.forall_mem_cons.mpr ⟨trivial, fun _ h => nomatch h⟩⟩) (List.forall_mem_cons.mpr ⟨Or.inl hk0, List.forall_mem_cons.mpr ⟨trivial, fun _ h => nomatch h⟩⟩) (fun X hX C => ?_)
  subst hX
  have Cl := C
  unfold f_X2_from at hm
  refine g_aload_n C 0 dX2_from_0 rfl rfl ?_
  refine g_iload_n C 1 dX2_from_1 rfl rfl ?_
  obtain ⟨r2, hr2, hm⟩ := bnd_some hm
  refine g_callVi (As := [vI l1]) (rest := []) C lk_X2_37 (k_X2_hasArrow X.2.1 G hl hG fu k0 l1 M r2 hk0 hr2) (by decide) rfl rfl rfl (Nat.le_of_ble_eq_true rfl) ⟨Nat.le_of_ble_eq_true rfl, Nat.le_of_ble_eq_true rfl⟩ dX2_from_2 ?_
  refine g_if_eq (tgt := 19) C dX2_from_5 (by decide) (fun h5 => ?_) (fun h5 => ?_)
  · have hm := ift hm h5
    refine g_iconst (v := -1) C dX2_from_19 rfl ?_
    obtain rfl := Option.some.inj hm
    exact g_iret C dX2_from_20
  · have hm := ife hm h5
    refine g_aload_n C 0 dX2_from_8 rfl rfl ?_
    refine g_getr (k := k0) (k' := (3 * k0 + 0)) C (by decide) kf_X2_23 rfl rfl dX2_from_9 ?_
    refine g_iload_n C 1 dX2_from_12 rfl rfl ?_
    obtain ⟨r13, hr13, hm⟩ := bnd_some hm
    refine g_callVi (As := [vI l1]) (rest := []) C lk_X2_41 (k_X8_get X.2.1 G hl hG fu (3 * k0 + 0) l1 r2.2 r13 ((hG _ hk0).2 2 8 0 3 rfl) hr13) (by decide) rfl rfl rfl (Nat.le_of_ble_eq_true rfl) ⟨Nat.le_of_ble_eq_true rfl, Nat.le_of_ble_eq_true rfl⟩ dX2_from_13 ?_
    refine g_goto (tgt := 20) C dX2_from_16 (by decide) ?_
    obtain rfl := Option.some.inj hm
    exact g_iret C dX2_from_20

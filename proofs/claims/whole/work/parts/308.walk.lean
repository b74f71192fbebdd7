/-! models and contracts, by program (wip/whole/emit.py): Jxf58ca_isNaN_12338, Jxf58ca_floatToIntBits_5c35a, X10_imageShare, X10_choose, X10_separateNow, X10_separate, X10_hits, X10_isProduct, X10_isPullback, X10_isEqualizer, X10_mix, X10_mixCells, X10_mixPaths -/
def f_Jxf58ca_isNaN_12338 (fu : Nat) (l0 : UInt32) (M : Mem) : Option (Int32 × Mem) :=
  if (Op.cmpValue (FP.fcmp l0 l0) .l) = 0 then some ((0 : Int32), M) else some ((1 : Int32), M)
set_option maxHeartbeats 4000000 in
set_option maxRecDepth 100000 in
theorem k_Jxf58ca_isNaN_12338 (l : Launch) (G : GE) (hl : l.stackTraces = false) (hG : GOK G) (fu : Nat) (l0 : UInt32) (M : Mem) (res : Int32 × Mem)  (hm : f_Jxf58ca_isNaN_12338 fu l0 M = some res) : CT l G yJxf58ca_isNaN_12338 cJxf58ca_isNaN_12338 1 (some .boolean) 0 [vF l0] M (.inl (some (vI res.1))) res.2 := by
  refine ct_ofF [(0, vF l0)] (by decide +kernel) hl hG (Nat.le_of_ble_eq_true rfl) rfl (List.forall_mem_cons.mpr ⟨trivial, fun _ h => nomatch h⟩) (List.forall_mem_cons.mpr ⟨trivial, fun _ h => nomatch h⟩) (fun X hX C => ?_)
  subst hX
  have Cl := C
  unfold f_Jxf58ca_isNaN_12338 at hm
  refine g_fload_n C 0 dJxf58ca_isNaN_12338_0 rfl rfl ?_
  refine g_fload_n C 0 dJxf58ca_isNaN_12338_1 rfl rfl ?_
  refine g_fcmp C dJxf58ca_isNaN_12338_2 ?_
  refine g_if_eq (tgt := 10) C dJxf58ca_isNaN_12338_3 (by decide) (fun h3 => ?_) (fun h3 => ?_)
  · have hm := ift hm h3
    refine g_iconst (v := 0) C dJxf58ca_isNaN_12338_10 rfl ?_
    obtain rfl := Option.some.inj hm
    exact g_zret C (Or.inl rfl) dJxf58ca_isNaN_12338_11
  · have hm := ife hm h3
    refine g_iconst (v := 1) C dJxf58ca_isNaN_12338_6 rfl ?_
    refine g_goto (tgt := 11) C dJxf58ca_isNaN_12338_7 (by decide) ?_
    obtain rfl := Option.some.inj hm
    exact g_zret C (Or.inr rfl) dJxf58ca_isNaN_12338_11
def f_Jxf58ca_floatToIntBits_5c35a (fu : Nat) (l0 : UInt32) (M : Mem) : Option (Int32 × Mem) :=
  (f_Jxf58ca_isNaN_12338 fu l0 M).bind (fun r1 => if r1.1 = 0 then some (l0.toInt32, r1.2) else some ((2143289344 : Int32), r1.2))
set_option maxHeartbeats 4000000 in
set_option maxRecDepth 100000 in
theorem k_Jxf58ca_floatToIntBits_5c35a (l : Launch) (G : GE) (hl : l.stackTraces = false) (hG : GOK G) (fu : Nat) (l0 : UInt32) (M : Mem) (res : Int32 × Mem)  (hm : f_Jxf58ca_floatToIntBits_5c35a fu l0 M = some res) : CT l G yJxf58ca_floatToIntBits_5c35a cJxf58ca_floatToIntBits_5c35a 1 (some .int) 1 [vF l0] M (.inl (some (vI res.1))) res.2 := by
  refine ct_ofF [(0, vF l0)] (by decide +kernel) hl hG (Nat.le_of_ble_eq_true rfl) rfl (List.forall_mem_cons.mpr ⟨trivial, fun _ h => nomatch h⟩) (List.forall_mem_cons.mpr ⟨trivial, fun _ h => nomatch h⟩) (fun X hX C => ?_)
  subst hX
  have Cl := C
  unfold f_Jxf58ca_floatToIntBits_5c35a at hm
  refine g_fload_n C 0 dJxf58ca_floatToIntBits_5c35a_0 rfl rfl ?_
  obtain ⟨r1, hr1, hm⟩ := bnd_some hm
  refine g_callSi (As := [vF l0]) (rest := []) C lk_Jxf58ca_59 (k_Jxf58ca_isNaN_12338 X.2.1 G hl hG fu l0 M r1  hr1) rfl rfl (Nat.le_of_ble_eq_true rfl) ⟨Nat.le_of_ble_eq_true rfl, Nat.le_of_ble_eq_true rfl⟩ dJxf58ca_floatToIntBits_5c35a_1 ?_
  refine g_if_ne (tgt := 12) C dJxf58ca_floatToIntBits_5c35a_4 (by decide) (fun h4 => ?_) (fun h4 => ?_)
  · have hm := ife hm h4
    refine g_ldc (v := 2143289344) C kc_Jxf58ca_77 dJxf58ca_floatToIntBits_5c35a_12 ?_
    obtain rfl := Option.some.inj hm
    exact g_iret C dJxf58ca_floatToIntBits_5c35a_14
  · have hm := ift hm h4
    refine g_fload_n C 0 dJxf58ca_floatToIntBits_5c35a_7 rfl rfl ?_
    refine g_f2raw C kn_f2raw0 kn_f2raw1 kn_f2raw2 kn_f2raw3 (by decide) dJxf58ca_floatToIntBits_5c35a_8 ?_
    obtain rfl := Option.some.inj hm
    exact g_iret C dJxf58ca_floatToIntBits_5c35a_11
def f_X10_imageShare_j14 (fu : Nat)   (l1 : Int32) (t1 : Int32) (M : Mem) : Option (Int32 × Mem) :=
  if ((mI M 10 0 0 t1).1 10 0 0) ≤ 0 then (f_X10_image fu l1 (mI M 10 0 0 t1)).bind (fun r30 => if inb l1 (alen 22 15) then if inb (r30.2.1 22 15 l1.toNatClampNeg) (alen 22 6) then if fn32 (FP.fdiv (FP.i2f r30.1) (FP.i2f (r30.2.1 22 6 (r30.2.1 22 15 l1.toNatClampNeg).toNatClampNeg))) then (f_Jxf58ca_floatToIntBits_5c35a fu (FP.fdiv (FP.i2f r30.1) (FP.i2f (r30.2.1 22 6 (r30.2.1 22 15 l1.toNatClampNeg).toNatClampNeg))) r30.2).bind (fun r47 => some (r47.1, r47.2)) else none else none else none) else some ((0 : Int32), (mI M 10 0 0 t1))
def f_X10_imageShare (fu : Nat) (l1 : Int32) (M : Mem) : Option (Int32 × Mem) :=
  (f_X10_isPath fu l1 M).bind (fun r3 => if r3.1 = 0 then f_X10_imageShare_j14 fu l1 (1 : Int32) r3.2 else f_X10_imageShare_j14 fu l1 (0 : Int32) r3.2)
set_option maxHeartbeats 4000000 in
set_option maxRecDepth 100000 in
theorem k_X10_imageShare (l : Launch) (G : GE) (hl : l.stackTraces = false) (hG : GOK G) (fu : Nat) (l1 : Int32) (M : Mem) (res : Int32 × Mem) (hk0 : (10, 0) ∈ gids G) (hm : f_X10_imageShare fu l1 M = some res) : CT l G yX10_imageShare cX10_imageShare 2 (some .int) 3 [vR 10 0, vI l1] M (.inl (some (vI res.1))) res.2 := by
  refine ct_of [(0, vR 10 0), (1, vI l1)] (by decide +kernel) hl hG (Nat.le_of_ble_eq_true rfl) rfl (List.forall_mem_cons.mpr ⟨Or.inl hk0, List.forall_mem_cons.mpr ⟨trivial, fun _ h => nomatch h⟩⟩) (List.forall_mem_cons.mpr ⟨Or.inl hk0, List.forall_mem_cons.mpr ⟨trivial, fun _ h => nomatch h⟩⟩) (fun X hX C => ?_)
  subst hX
  have Cl := C
  have J14 : ∀ (l1 : Int32) (t1 : Int32) (M : Mem), f_X10_imageShare_j14 fu   l1 t1 M = some res → GW G X 2 (QX G X (.inl (some (vI res.1))) res.2) 14 [(0, vR 10 0), (1, vI l1)] [vI t1, vR 10 0] M := by
    intro l1 t1 M hm
    unfold f_X10_imageShare_j14 at hm
    refine g_puti C (by decide) kf_X10_72 rfl rfl rfl dX10_imageShare_14 ?_
    refine g_aload_n C 0 dX10_imageShare_17 rfl rfl ?_
    refine g_geti (k := 0) C (by decide) kf_X10_72 rfl dX10_imageShare_18 ?_
    refine g_if_le (tgt := 28) C dX10_imageShare_21 (by decide) (fun h21 => ?_) (fun h21 => ?_)
    · have hm := ift hm h21
      refine g_aload_n C 0 dX10_imageShare_28 rfl rfl ?_
      refine g_iload_n C 1 dX10_imageShare_29 rfl rfl ?_
      obtain ⟨r30, hr30, hm⟩ := bnd_some hm
      refine g_callVi (As := [vI l1]) (rest := []) C lk_X10_220 (k_X10_image X.2.1 G hl hG fu l1 (mI M 10 0 0 t1) r30 hk0 hr30) (by decide) rfl rfl rfl (Nat.le_of_ble_eq_true rfl) ⟨Nat.le_of_ble_eq_true rfl, Nat.le_of_ble_eq_true rfl⟩ dX10_imageShare_30 ?_
      refine g_i2f C dX10_imageShare_33 ?_
      refine g_aload_n C 0 dX10_imageShare_34 rfl rfl ?_
      refine g_getr (k := 0) (k' := 6) C (by decide) kf_X10_23 rfl rfl dX10_imageShare_35 ?_
      refine g_aload_n C 0 dX10_imageShare_38 rfl rfl ?_
      refine g_getr (k := 0) (k' := 15) C (by decide) kf_X10_41 rfl rfl dX10_imageShare_39 ?_
      refine g_iload_n C 1 dX10_imageShare_42 rfl rfl ?_
      obtain ⟨hi43, hm⟩ := ifn hm
      refine g_iald C (by decide) hi43 dX10_imageShare_43 ?_
      obtain ⟨hi44, hm⟩ := ifn hm
      refine g_iald C (by decide) hi44 dX10_imageShare_44 ?_
      refine g_i2f C dX10_imageShare_45 ?_
      obtain ⟨hz46, hm⟩ := ifn hm
      refine g_fdiv C dX10_imageShare_46 hz46 ?_
      obtain ⟨r47, hr47, hm⟩ := bnd_some hm
      refine g_callSi (As := [vF (FP.fdiv (FP.i2f r30.1) (FP.i2f (r30.2.1 22 6 (r30.2.1 22 15 l1.toNatClampNeg).toNatClampNeg)))]) (rest := []) C lk_X10_262 (k_Jxf58ca_floatToIntBits_5c35a X.2.1 G hl hG fu (FP.fdiv (FP.i2f r30.1) (FP.i2f (r30.2.1 22 6 (r30.2.1 22 15 l1.toNatClampNeg).toNatClampNeg))) r30.2 r47  hr47) rfl rfl (Nat.le_of_ble_eq_true rfl) ⟨Nat.le_of_ble_eq_true rfl, Nat.le_of_ble_eq_true rfl⟩ dX10_imageShare_47 ?_
      obtain rfl := Option.some.inj hm
      exact g_iret C dX10_imageShare_50
    · have hm := ife hm h21
      refine g_iconst (v := 0) C dX10_imageShare_24 rfl ?_
      refine g_goto (tgt := 50) C dX10_imageShare_25 (by decide) ?_
      obtain rfl := Option.some.inj hm
      exact g_iret C dX10_imageShare_50
  unfold f_X10_imageShare at hm
  refine g_aload_n C 0 dX10_imageShare_0 rfl rfl ?_
  refine g_aload_n C 0 dX10_imageShare_1 rfl rfl ?_
  refine g_iload_n C 1 dX10_imageShare_2 rfl rfl ?_
  obtain ⟨r3, hr3, hm⟩ := bnd_some hm
  refine g_callVi (As := [vI l1]) (rest := [vR 10 0]) C lk_X10_114 (k_X10_isPath X.2.1 G hl hG fu l1 M r3 hk0 hr3) (by decide) rfl rfl rfl (Nat.le_of_ble_eq_true rfl) ⟨Nat.le_of_ble_eq_true rfl, Nat.le_of_ble_eq_true rfl⟩ dX10_imageShare_3 ?_
  refine g_if_eq (tgt := 13) C dX10_imageShare_6 (by decide) (fun h6 => ?_) (fun h6 => ?_)
  · have hm := ift hm h6
    refine g_iconst (v := 1) C dX10_imageShare_13 rfl ?_
    exact g_sub [0, 1] rfl (g_pc rfl (J14 l1 (1 : Int32) r3.2 hm))
  · have hm := ife hm h6
    refine g_iconst (v := 0) C dX10_imageShare_9 rfl ?_
    refine g_goto (tgt := 14) C dX10_imageShare_10 (by decide) ?_
    exact g_sub [0, 1] rfl (g_pc rfl (J14 l1 (0 : Int32) r3.2 hm))
def f_X10_choose_b2 (fu : Nat)  (l1 : Int32) (l2 : Int32) (M : Mem) : Option ((Int32 × Mem) ⊕ (Mem)) :=
  if (M.1 10 0 2) ≤ l2 then some (Sum.inr M) else if inb l2 (alen 22 5) then some (Sum.inl (l2 + (1 : Int32), (mI M 22 5 l2.toNatClampNeg ((((l1 >>> (((2 : Int32) * (((M.1 10 0 2) - (1 : Int32)) - l2)) &&& 31)) &&& (3 : Int32)) &&& (1 : Int32)) + ((4 : Int32) * (((l1 >>> (((2 : Int32) * (((M.1 10 0 2) - (1 : Int32)) - l2)) &&& 31)) &&& (3 : Int32)) >>> ((1 : Int32) &&& 31))))))) else none
def f_X10_choose_h2 (fu : Nat)   (l1 : Int32) (l2 : Int32) (M : Mem) : Option (Mem) :=
  (lp_run (fun s => f_X10_choose_b2 fu  l1 s.1 s.2) fu (l2, M)).bind (fun M => some M)
def f_X10_choose (fu : Nat) (l1 : Int32) (M : Mem) : Option (Mem) :=
  f_X10_choose_h2 fu l1 (0 : Int32) M
set_option maxHeartbeats 4000000 in
set_option maxRecDepth 100000 in
theorem k_X10_choose (l : Launch) (G : GE) (hl : l.stackTraces = false) (hG : GOK G) (fu : Nat) (l1 : Int32) (M : Mem) (res : Mem) (hk0 : (10, 0) ∈ gids G) (hm : f_X10_choose fu l1 M = some res) : CT l G yX10_choose cX10_choose 4 none 0 [vR 10 0, vI l1] M (.inl none) res := by
  refine ct_of [(0, vR 10 0), (1, vI l1)] (by decide +kernel) hl hG (Nat.le_of_ble_eq_true rfl) rfl (List.forall_mem_cons.mpr ⟨Or.inl hk0, List.forall_mem_cons.mpr ⟨trivial, fun _ h => nomatch h⟩⟩) (List.forall_mem_cons.mpr ⟨Or.inl hk0, List.forall_mem_cons.mpr ⟨trivial, fun _ h => nomatch h⟩⟩) (fun X hX C => ?_)
  subst hX
  have Cl := C
  have J2 : ∀ (l1 : Int32) (l2 : Int32) (M : Mem), f_X10_choose_h2 fu   l1 l2 M = some res → GW G X 4 (QX G X (.inl none) res) 2 [(0, vR 10 0), (1, vI l1), (2, vI l2)] [] M := by
    intro l1 l2 M hm
    unfold f_X10_choose_h2 at hm
    obtain ⟨r2, hL2, hk2⟩ := bnd_some hm
    have hx2 : ∀ (M : Mem), M = r2 → GW G X 4 (QX G X (.inl none) res) 46 [] [] M := by
      intro M he
      subst he
      have hm := hk2
      try dsimp only at hm
      obtain rfl := Option.some.inj hm
      exact g_vret C dX10_choose_46
    refine lp_ind1 (P := (fun l2 M => GW G X 4 (QX G X (.inl none) res) 2 [(0, vR 10 0), (1, vI l1), (2, vI l2)] [] M)) (r := r2) ?_ fu l2 M hL2
    intro l2 M o2 hm K2
    unfold f_X10_choose_b2 at hm
    refine g_iload_n C 2 dX10_choose_2 rfl rfl ?_
    refine g_aload_n C 0 dX10_choose_3 rfl rfl ?_
    refine g_geti (k := 0) C (by decide) kf_X10_79 rfl dX10_choose_4 ?_
    refine g_icmp_ge (tgt := 46) C dX10_choose_7 (by decide) (fun h7 => ?_) (fun h7 => ?_)
    · have hm := ift hm h7
      obtain rfl := Option.some.inj hm
      exact g_sub [] rfl (g_pc rfl (hx2 M (K2.2 _ rfl)))
    · have hm := ife hm h7
      refine g_iload_n C 1 dX10_choose_10 rfl rfl ?_
      refine g_iconst (v := 2) C dX10_choose_11 rfl ?_
      refine g_aload_n C 0 dX10_choose_12 rfl rfl ?_
      refine g_geti (k := 0) C (by decide) kf_X10_79 rfl dX10_choose_13 ?_
      refine g_iconst (v := 1) C dX10_choose_16 rfl ?_
      refine g_isub C dX10_choose_17 ?_
      refine g_iload_n C 2 dX10_choose_18 rfl rfl ?_
      refine g_isub C dX10_choose_19 ?_
      refine g_imul C dX10_choose_20 ?_
      refine g_ishr C dX10_choose_21 ?_
      refine g_iconst (v := 3) C dX10_choose_22 rfl ?_
      refine g_iand C dX10_choose_23 ?_
      refine g_istore_n (ls' := [(3, vI ((l1 >>> (((2 : Int32) * (((M.1 10 0 2) - (1 : Int32)) - l2)) &&& 31)) &&& (3 : Int32))), (0, vR 10 0), (1, vI l1), (2, vI l2)]) C dX10_choose_24 rfl (by decide) rfl ?_
      refine g_aload_n C 1 dX10_choose_25 rfl rfl ?_
      refine g_getr (k := 0) (k' := 5) C (by decide) kf_X10_20 rfl rfl dX10_choose_26 ?_
      refine g_iload_n C 3 dX10_choose_29 rfl rfl ?_
      refine g_iload_n C 0 dX10_choose_30 rfl rfl ?_
      refine g_iconst (v := 1) C dX10_choose_31 rfl ?_
      refine g_iand C dX10_choose_32 ?_
      refine g_iconst (v := 4) C dX10_choose_33 rfl ?_
      refine g_iload_n C 0 dX10_choose_34 rfl rfl ?_
      refine g_iconst (v := 1) C dX10_choose_35 rfl ?_
      refine g_ishr C dX10_choose_36 ?_
      refine g_imul C dX10_choose_37 ?_
      refine g_iadd C dX10_choose_38 ?_
      obtain ⟨hi39, hm⟩ := ifn hm
      refine g_iast C (by decide) hi39 dX10_choose_39 ?_
      refine g_iinc (ls' := [(2, vI (l2 + (1 : Int32))), (3, vI ((l1 >>> (((2 : Int32) * (((M.1 10 0 2) - (1 : Int32)) - l2)) &&& 31)) &&& (3 : Int32))), (0, vR 10 0), (1, vI l1)]) (v := l2 + (1 : Int32)) C 3 dX10_choose_40 rfl (iv_p1 _) (by decide) rfl ?_
      refine g_goto (tgt := 2) C dX10_choose_43 (by decide) ?_
      obtain rfl := Option.some.inj hm
      exact g_sub [2, 3, 0] rfl (g_pc rfl (K2.1 (l2 + (1 : Int32)) (mI M 22 5 l2.toNatClampNeg ((((l1 >>> (((2 : Int32) * (((M.1 10 0 2) - (1 : Int32)) - l2)) &&& 31)) &&& (3 : Int32)) &&& (1 : Int32)) + ((4 : Int32) * (((l1 >>> (((2 : Int32) * (((M.1 10 0 2) - (1 : Int32)) - l2)) &&& 31)) &&& (3 : Int32)) >>> ((1 : Int32) &&& 31))))) rfl))
  unfold f_X10_choose at hm
  refine g_iconst (v := 0) C dX10_choose_0 rfl ?_
  refine g_istore_n (ls' := [(2, vI (0 : Int32)), (0, vR 10 0), (1, vI l1)]) C dX10_choose_1 rfl (by decide) rfl ?_
  exact g_sub [1, 2, 0] rfl (g_pc rfl (J2 l1 (0 : Int32) M hm))
def f_X10_separateNow_b2 (fu : Nat)  (l1 : Int32) (l2 : Int32) (l3 : Int32) (M : Mem) : Option ((Int32 × Mem) ⊕ (Mem)) :=
  if (8 : Int32) ≤ l3 then some (Sum.inr M) else if inb l3 (alen 22 6) then if inb l3 (alen 22 30) then if inb l3 (alen 22 6) then some (Sum.inl (l3 + (1 : Int32), (mI (mI M 22 30 l3.toNatClampNeg (M.1 22 6 l3.toNatClampNeg)) 22 6 l3.toNatClampNeg (2 : Int32)))) else none else none else none
def f_X10_separateNow_b35 (fu : Nat)  (l1 : Int32) (l2 : Int32) (l3 : Int32) (M : Mem) : Option ((Int32 × Mem) ⊕ (Mem)) :=
  if (M.1 10 0 2) ≤ l3 then some (Sum.inr M) else if inb l3 (alen 22 5) then if inb l3 (alen 22 29) then some (Sum.inl (l3 + (1 : Int32), (mI M 22 29 l3.toNatClampNeg (M.1 22 5 l3.toNatClampNeg)))) else none else none
def f_X10_separateNow_j102 (fu : Nat)  (l1 : Int32) (l2 : Int32) (l3 : Int32) (M : Mem) : Option ((Int32 × Mem) ⊕ ((Mem) ⊕ (Int32 × Mem))) :=
  some (Sum.inl (l3 + (1 : Int32), M))
def f_X10_separateNow_b63 (fu : Nat)  (l1 : Int32) (l2 : Int32) (l3 : Int32) (M : Mem) : Option ((Int32 × Mem) ⊕ ((Mem) ⊕ (Int32 × Mem))) :=
  if ((1 : Int32) <<< (((2 : Int32) * (M.1 10 0 2)) &&& 31)) ≤ l3 then some (Sum.inr (Sum.inl M)) else (f_X10_choose fu l3 M).bind (fun r77 => (f_X10_areAlike fu l1 l2 r77).bind (fun r83 => if r83.1 = 0 then (f_X10_holding fu  r83.2).bind (fun r90 => if r90.1 = (r90.2.1 10 0 7) then some (Sum.inr (Sum.inr (l3, r90.2))) else f_X10_separateNow_j102 fu l1 l2 l3 r90.2) else f_X10_separateNow_j102 fu l1 l2 l3 r83.2))
def f_X10_separateNow_b110 (fu : Nat)   (l3 : Int32) (M : Mem) : Option ((Int32 × Mem) ⊕ (Mem)) :=
  if (8 : Int32) ≤ l3 then some (Sum.inr M) else if inb l3 (alen 22 30) then if inb l3 (alen 22 6) then some (Sum.inl (l3 + (1 : Int32), (mI M 22 6 l3.toNatClampNeg (M.1 22 30 l3.toNatClampNeg)))) else none else none
def f_X10_separateNow_b136 (fu : Nat)   (l3 : Int32) (M : Mem) : Option ((Int32 × Mem) ⊕ (Mem)) :=
  if (M.1 10 0 2) ≤ l3 then some (Sum.inr M) else if inb l3 (alen 22 29) then if inb l3 (alen 22 5) then some (Sum.inl (l3 + (1 : Int32), (mI M 22 5 l3.toNatClampNeg (M.1 22 29 l3.toNatClampNeg)))) else none else none
def f_X10_separateNow_h136 (fu : Nat)   (l3 : Int32) (M : Mem) : Option (Int32 × Mem) :=
  (lp_run (fun s => f_X10_separateNow_b136 fu   s.1 s.2) fu (l3, M)).bind (fun M => some ((-1 : Int32), M))
def f_X10_separateNow_h110 (fu : Nat)   (l3 : Int32) (M : Mem) : Option (Int32 × Mem) :=
  (lp_run (fun s => f_X10_separateNow_b110 fu   s.1 s.2) fu (l3, M)).bind (fun M => f_X10_separateNow_h136 fu (0 : Int32) M)
def f_X10_separateNow_h63 (fu : Nat)   (l1 : Int32) (l2 : Int32) (l3 : Int32) (M : Mem) : Option (Int32 × Mem) :=
  (lp_run (fun s => f_X10_separateNow_b63 fu  l1 l2 s.1 s.2) fu (l3, M)).bind (fun r63 => match r63 with
    | Sum.inl M => f_X10_separateNow_h110 fu (0 : Int32) M
    | Sum.inr q63 => some q63)
def f_X10_separateNow_h35 (fu : Nat)   (l1 : Int32) (l2 : Int32) (l3 : Int32) (M : Mem) : Option (Int32 × Mem) :=
  (lp_run (fun s => f_X10_separateNow_b35 fu  l1 l2 s.1 s.2) fu (l3, M)).bind (fun M => f_X10_separateNow_h63 fu l1 l2 (0 : Int32) M)
def f_X10_separateNow_h2 (fu : Nat)   (l1 : Int32) (l2 : Int32) (l3 : Int32) (M : Mem) : Option (Int32 × Mem) :=
  (lp_run (fun s => f_X10_separateNow_b2 fu  l1 l2 s.1 s.2) fu (l3, M)).bind (fun M => f_X10_separateNow_h35 fu l1 l2 (0 : Int32) M)
def f_X10_separateNow (fu : Nat) (l1 : Int32) (l2 : Int32) (M : Mem) : Option (Int32 × Mem) :=
  f_X10_separateNow_h2 fu l1 l2 (0 : Int32) M
set_option maxHeartbeats 4000000 in
set_option maxRecDepth 100000 in
theorem k_X10_separateNow (l : Launch) (G : GE) (hl : l.stackTraces = false) (hG : GOK G) (fu : Nat) (l1 : Int32) (l2 : Int32) (M : Mem) (res : Int32 × Mem) (hk0 : (10, 0) ∈ gids G) (hm : f_X10_separateNow fu l1 l2 M = some res) : CT l G yX10_separateNow cX10_separateNow 4 (some .int) 5 [vR 10 0, vI l1, vI l2] M (.inl (some (vI res.1))) res.2 := by
  refine ct_of [(0, vR 10 0), (1, vI l1), (2, vI l2)] (by decide +kernel) hl hG (Nat.le_of_ble_eq_true rfl) rfl (List.forall_mem_cons.mpr ⟨Or.inl hk0, List.forall_mem_cons.mpr ⟨trivial, List.forall_mem_cons.mpr ⟨trivial, fun _ h => nomatch h⟩⟩⟩) (List.forall_mem_cons.mpr ⟨Or.inl hk0, List.forall_mem_cons.mpr ⟨trivial, List.forall_mem_cons.mpr ⟨trivial, fun _ h => nomatch h⟩⟩⟩) (fun X hX C => ?_)
  subst hX
  have Cl := C
  have J136 : ∀ (l3 : Int32) (M : Mem), f_X10_separateNow_h136 fu   l3 M = some res → GW G X 4 (QX G X (.inl (some (vI res.1))) res.2) 136 [(0, vR 10 0), (3, vI l3)] [] M := by
    intro l3 M hm
    unfold f_X10_separateNow_h136 at hm
    obtain ⟨r136, hL136, hk136⟩ := bnd_some hm
    have hx136 : ∀ (M : Mem), M = r136 → GW G X 4 (QX G X (.inl (some (vI res.1))) res.2) 162 [] [] M := by
      intro M he
      subst he
      have hm := hk136
      try dsimp only at hm
      refine g_iconst (v := -1) C dX10_separateNow_162 rfl ?_
      obtain rfl := Option.some.inj hm
      exact g_iret C dX10_separateNow_163
    refine lp_ind1 (P := (fun l3 M => GW G X 4 (QX G X (.inl (some (vI res.1))) res.2) 136 [(0, vR 10 0), (3, vI l3)] [] M)) (r := r136) ?_ fu l3 M hL136
    intro l3 M o136 hm K136
    unfold f_X10_separateNow_b136 at hm
    refine g_iload_n C 1 dX10_separateNow_136 rfl rfl ?_
    refine g_aload_n C 0 dX10_separateNow_137 rfl rfl ?_
    refine g_geti (k := 0) C (by decide) kf_X10_79 rfl dX10_separateNow_138 ?_
    refine g_icmp_ge (tgt := 162) C dX10_separateNow_141 (by decide) (fun h141 => ?_) (fun h141 => ?_)
    · have hm := ift hm h141
      obtain rfl := Option.some.inj hm
      exact g_sub [] rfl (g_pc rfl (hx136 M (K136.2 _ rfl)))
    · have hm := ife hm h141
      refine g_aload_n C 0 dX10_separateNow_144 rfl rfl ?_
      refine g_getr (k := 0) (k' := 5) C (by decide) kf_X10_20 rfl rfl dX10_separateNow_145 ?_
      refine g_iload_n C 1 dX10_separateNow_148 rfl rfl ?_
      refine g_aload_n C 0 dX10_separateNow_149 rfl rfl ?_
      refine g_getr (k := 0) (k' := 29) C (by decide) kf_X10_62 rfl rfl dX10_separateNow_150 ?_
      refine g_iload_n C 1 dX10_separateNow_153 rfl rfl ?_
      obtain ⟨hi154, hm⟩ := ifn hm
      refine g_iald C (by decide) hi154 dX10_separateNow_154 ?_
      obtain ⟨hi155, hm⟩ := ifn hm
      refine g_iast C (by decide) hi155 dX10_separateNow_155 ?_
      refine g_iinc (ls' := [(3, vI (l3 + (1 : Int32))), (0, vR 10 0)]) (v := l3 + (1 : Int32)) C 1 dX10_separateNow_156 rfl (iv_p1 _) (by decide) rfl ?_
      refine g_goto (tgt := 136) C dX10_separateNow_159 (by decide) ?_
      obtain rfl := Option.some.inj hm
      exact g_sub [1, 0] rfl (g_pc rfl (K136.1 (l3 + (1 : Int32)) (mI M 22 5 l3.toNatClampNeg (M.1 22 29 l3.toNatClampNeg)) rfl))
  have J110 : ∀ (l3 : Int32) (M : Mem), f_X10_separateNow_h110 fu   l3 M = some res → GW G X 4 (QX G X (.inl (some (vI res.1))) res.2) 110 [(0, vR 10 0), (3, vI l3)] [] M := by
    intro l3 M hm
    unfold f_X10_separateNow_h110 at hm
    obtain ⟨r110, hL110, hk110⟩ := bnd_some hm
    have hx110 : ∀ (M : Mem), M = r110 → GW G X 4 (QX G X (.inl (some (vI res.1))) res.2) 134 [(0, vR 10 0)] [] M := by
      intro M he
      subst he
      have hm := hk110
      try dsimp only at hm
      refine g_iconst (v := 0) C dX10_separateNow_134 rfl ?_
      refine g_istore_n (ls' := [(3, vI (0 : Int32)), (0, vR 10 0)]) C dX10_separateNow_135 rfl (by decide) rfl ?_
      exact g_sub [1, 0] rfl (g_pc rfl (J136 (0 : Int32) M hm))
    refine lp_ind1 (P := (fun l3 M => GW G X 4 (QX G X (.inl (some (vI res.1))) res.2) 110 [(0, vR 10 0), (3, vI l3)] [] M)) (r := r110) ?_ fu l3 M hL110
    intro l3 M o110 hm K110
    unfold f_X10_separateNow_b110 at hm
    refine g_iload_n C 1 dX10_separateNow_110 rfl rfl ?_
    refine g_bipush (v := 8) C dX10_separateNow_111 rfl ?_
    refine g_icmp_ge (tgt := 134) C dX10_separateNow_113 (by decide) (fun h113 => ?_) (fun h113 => ?_)
    · have hm := ift hm h113
      obtain rfl := Option.some.inj hm
      exact g_sub [0] rfl (g_pc rfl (hx110 M (K110.2 _ rfl)))
    · have hm := ife hm h113
      refine g_aload_n C 0 dX10_separateNow_116 rfl rfl ?_
      refine g_getr (k := 0) (k' := 6) C (by decide) kf_X10_23 rfl rfl dX10_separateNow_117 ?_
      refine g_iload_n C 1 dX10_separateNow_120 rfl rfl ?_
      refine g_aload_n C 0 dX10_separateNow_121 rfl rfl ?_
      refine g_getr (k := 0) (k' := 30) C (by decide) kf_X10_65 rfl rfl dX10_separateNow_122 ?_
      refine g_iload_n C 1 dX10_separateNow_125 rfl rfl ?_
      obtain ⟨hi126, hm⟩ := ifn hm
      refine g_iald C (by decide) hi126 dX10_separateNow_126 ?_
      obtain ⟨hi127, hm⟩ := ifn hm
      refine g_iast C (by decide) hi127 dX10_separateNow_127 ?_
      refine g_iinc (ls' := [(3, vI (l3 + (1 : Int32))), (0, vR 10 0)]) (v := l3 + (1 : Int32)) C 1 dX10_separateNow_128 rfl (iv_p1 _) (by decide) rfl ?_
      refine g_goto (tgt := 110) C dX10_separateNow_131 (by decide) ?_
      obtain rfl := Option.some.inj hm
      exact g_sub [1, 0] rfl (g_pc rfl (K110.1 (l3 + (1 : Int32)) (mI M 22 6 l3.toNatClampNeg (M.1 22 30 l3.toNatClampNeg)) rfl))
  have J63 : ∀ (l1 : Int32) (l2 : Int32) (l3 : Int32) (M : Mem), f_X10_separateNow_h63 fu   l1 l2 l3 M = some res → GW G X 4 (QX G X (.inl (some (vI res.1))) res.2) 63 [(0, vR 10 0), (1, vI l1), (2, vI l2), (3, vI l3)] [] M := by
    intro l1 l2 l3 M hm
    unfold f_X10_separateNow_h63 at hm
    obtain ⟨r63, hL63, hk63⟩ := bnd_some hm
    have hx63 : ∀ (M : Mem), Sum.inl M = r63 → GW G X 4 (QX G X (.inl (some (vI res.1))) res.2) 108 [(0, vR 10 0)] [] M := by
      intro M he
      subst he
      have hm := hk63
      try dsimp only at hm
      refine g_iconst (v := 0) C dX10_separateNow_108 rfl ?_
      refine g_istore_n (ls' := [(3, vI (0 : Int32)), (0, vR 10 0)]) C dX10_separateNow_109 rfl (by decide) rfl ?_
      exact g_sub [1, 0] rfl (g_pc rfl (J110 (0 : Int32) M hm))
    refine lp_ind1 (P := (fun l3 M => GW G X 4 (QX G X (.inl (some (vI res.1))) res.2) 63 [(0, vR 10 0), (1, vI l1), (2, vI l2), (3, vI l3)] [] M)) (r := r63) ?_ fu l3 M hL63
    intro l3 M o63 hm K63
    have J102 : ∀ (l3 : Int32) (M : Mem), f_X10_separateNow_j102 fu  l1 l2 l3 M = some o63 → GW G X 4 (QX G X (.inl (some (vI res.1))) res.2) 102 [(0, vR 10 0), (1, vI l1), (2, vI l2), (3, vI l3)] [] M := by
      intro l3 M hm
      unfold f_X10_separateNow_j102 at hm
      refine g_iinc (ls' := [(3, vI (l3 + (1 : Int32))), (0, vR 10 0), (1, vI l1), (2, vI l2)]) (v := l3 + (1 : Int32)) C 3 dX10_separateNow_102 rfl (iv_p1 _) (by decide) rfl ?_
      refine g_goto (tgt := 63) C dX10_separateNow_105 (by decide) ?_
      obtain rfl := Option.some.inj hm
      exact g_sub [1, 2, 3, 0] rfl (g_pc rfl (K63.1 (l3 + (1 : Int32)) M rfl))
    unfold f_X10_separateNow_b63 at hm
    refine g_iload_n C 3 dX10_separateNow_63 rfl rfl ?_
    refine g_iconst (v := 1) C dX10_separateNow_64 rfl ?_
    refine g_iconst (v := 2) C dX10_separateNow_65 rfl ?_
    refine g_aload_n C 0 dX10_separateNow_66 rfl rfl ?_
    refine g_geti (k := 0) C (by decide) kf_X10_79 rfl dX10_separateNow_67 ?_
    refine g_imul C dX10_separateNow_70 ?_
    refine g_ishl C dX10_separateNow_71 ?_
    refine g_icmp_ge (tgt := 108) C dX10_separateNow_72 (by decide) (fun h72 => ?_) (fun h72 => ?_)
    · have hm := ift hm h72
      obtain rfl := Option.some.inj hm
      exact g_sub [0] rfl (g_pc rfl (hx63 M (K63.2 _ rfl)))
    · have hm := ife hm h72
      refine g_aload_n C 0 dX10_separateNow_75 rfl rfl ?_
      refine g_iload_n C 3 dX10_separateNow_76 rfl rfl ?_
      obtain ⟨r77, hr77, hm⟩ := bnd_some hm
      refine g_callVv (As := [vI l3]) (rest := []) C lk_X10_268 (k_X10_choose X.2.1 G hl hG fu l3 M r77 hk0 hr77) (by decide) rfl rfl rfl (Nat.le_of_ble_eq_true rfl) ⟨Nat.le_of_ble_eq_true rfl, Nat.le_of_ble_eq_true rfl⟩ dX10_separateNow_77 ?_
      refine g_aload_n C 0 dX10_separateNow_80 rfl rfl ?_
      refine g_iload_n C 1 dX10_separateNow_81 rfl rfl ?_
      refine g_iload_n C 2 dX10_separateNow_82 rfl rfl ?_
      obtain ⟨r83, hr83, hm⟩ := bnd_some hm
      refine g_callVi (As := [vI l1, vI l2]) (rest := []) C lk_X10_214 (k_X10_areAlike X.2.1 G hl hG fu l1 l2 r77 r83 hk0 hr83) (by decide) rfl rfl rfl (Nat.le_of_ble_eq_true rfl) ⟨Nat.le_of_ble_eq_true rfl, Nat.le_of_ble_eq_true rfl⟩ dX10_separateNow_83 ?_
      refine g_if_ne (tgt := 102) C dX10_separateNow_86 (by decide) (fun h86 => ?_) (fun h86 => ?_)
      · have hm := ife hm h86
        exact g_sub [0, 1, 2, 3] rfl (g_pc rfl (J102 l3 r83.2 hm))
      · have hm := ift hm h86
        refine g_aload_n C 0 dX10_separateNow_89 rfl rfl ?_
        obtain ⟨r90, hr90, hm⟩ := bnd_some hm
        refine g_callVi (As := []) (rest := []) C lk_X10_246 (k_X10_holding X.2.1 G hl hG fu  r83.2 r90 hk0 hr90) (by decide) rfl rfl rfl (Nat.le_of_ble_eq_true rfl) ⟨Nat.le_of_ble_eq_true rfl, Nat.le_of_ble_eq_true rfl⟩ dX10_separateNow_90 ?_
        refine g_aload_n C 0 dX10_separateNow_93 rfl rfl ?_
        refine g_geti (k := 0) C (by decide) kf_X10_82 rfl dX10_separateNow_94 ?_
        refine g_icmp_ne (tgt := 102) C dX10_separateNow_97 (by decide) (fun h97 => ?_) (fun h97 => ?_)
        · have hm := ife hm h97
          exact g_sub [0, 1, 2, 3] rfl (g_pc rfl (J102 l3 r90.2 hm))
        · have hm := ift hm h97
          refine g_iload_n C 3 dX10_separateNow_100 rfl rfl ?_
          obtain rfl := Option.some.inj hm
          have e63 := K63.2 _ rfl
          subst e63
          obtain rfl := Option.some.inj hk63
          exact g_iret C dX10_separateNow_101
  have J35 : ∀ (l1 : Int32) (l2 : Int32) (l3 : Int32) (M : Mem), f_X10_separateNow_h35 fu   l1 l2 l3 M = some res → GW G X 4 (QX G X (.inl (some (vI res.1))) res.2) 35 [(0, vR 10 0), (1, vI l1), (2, vI l2), (3, vI l3)] [] M := by
    intro l1 l2 l3 M hm
    unfold f_X10_separateNow_h35 at hm
    obtain ⟨r35, hL35, hk35⟩ := bnd_some hm
    have hx35 : ∀ (M : Mem), M = r35 → GW G X 4 (QX G X (.inl (some (vI res.1))) res.2) 61 [(0, vR 10 0), (1, vI l1), (2, vI l2)] [] M := by
      intro M he
      subst he
      have hm := hk35
      try dsimp only at hm
      refine g_iconst (v := 0) C dX10_separateNow_61 rfl ?_
      refine g_istore_n (ls' := [(3, vI (0 : Int32)), (0, vR 10 0), (1, vI l1), (2, vI l2)]) C dX10_separateNow_62 rfl (by decide) rfl ?_
      exact g_sub [1, 2, 3, 0] rfl (g_pc rfl (J63 l1 l2 (0 : Int32) M hm))
    refine lp_ind1 (P := (fun l3 M => GW G X 4 (QX G X (.inl (some (vI res.1))) res.2) 35 [(0, vR 10 0), (1, vI l1), (2, vI l2), (3, vI l3)] [] M)) (r := r35) ?_ fu l3 M hL35
    intro l3 M o35 hm K35
    unfold f_X10_separateNow_b35 at hm
    refine g_iload_n C 3 dX10_separateNow_35 rfl rfl ?_
    refine g_aload_n C 0 dX10_separateNow_36 rfl rfl ?_
    refine g_geti (k := 0) C (by decide) kf_X10_79 rfl dX10_separateNow_37 ?_
    refine g_icmp_ge (tgt := 61) C dX10_separateNow_40 (by decide) (fun h40 => ?_) (fun h40 => ?_)
    · have hm := ift hm h40
      obtain rfl := Option.some.inj hm
      exact g_sub [0, 1, 2] rfl (g_pc rfl (hx35 M (K35.2 _ rfl)))
    · have hm := ife hm h40
      refine g_aload_n C 0 dX10_separateNow_43 rfl rfl ?_
      refine g_getr (k := 0) (k' := 29) C (by decide) kf_X10_62 rfl rfl dX10_separateNow_44 ?_
      refine g_iload_n C 3 dX10_separateNow_47 rfl rfl ?_
      refine g_aload_n C 0 dX10_separateNow_48 rfl rfl ?_
      refine g_getr (k := 0) (k' := 5) C (by decide) kf_X10_20 rfl rfl dX10_separateNow_49 ?_
      refine g_iload_n C 3 dX10_separateNow_52 rfl rfl ?_
      obtain ⟨hi53, hm⟩ := ifn hm
      refine g_iald C (by decide) hi53 dX10_separateNow_53 ?_
      obtain ⟨hi54, hm⟩ := ifn hm
      refine g_iast C (by decide) hi54 dX10_separateNow_54 ?_
      refine g_iinc (ls' := [(3, vI (l3 + (1 : Int32))), (0, vR 10 0), (1, vI l1), (2, vI l2)]) (v := l3 + (1 : Int32)) C 3 dX10_separateNow_55 rfl (iv_p1 _) (by decide) rfl ?_
      refine g_goto (tgt := 35) C dX10_separateNow_58 (by decide) ?_
      obtain rfl := Option.some.inj hm
      exact g_sub [1, 2, 3, 0] rfl (g_pc rfl (K35.1 (l3 + (1 : Int32)) (mI M 22 29 l3.toNatClampNeg (M.1 22 5 l3.toNatClampNeg)) rfl))
  have J2 : ∀ (l1 : Int32) (l2 : Int32) (l3 : Int32) (M : Mem), f_X10_separateNow_h2 fu   l1 l2 l3 M = some res → GW G X 4 (QX G X (.inl (some (vI res.1))) res.2) 2 [(0, vR 10 0), (1, vI l1), (2, vI l2), (3, vI l3)] [] M := by
    intro l1 l2 l3 M hm
    unfold f_X10_separateNow_h2 at hm
    obtain ⟨r2, hL2, hk2⟩ := bnd_some hm
    have hx2 : ∀ (M : Mem), M = r2 → GW G X 4 (QX G X (.inl (some (vI res.1))) res.2) 33 [(0, vR 10 0), (1, vI l1), (2, vI l2)] [] M := by
      intro M he
      subst he
      have hm := hk2
      try dsimp only at hm
      refine g_iconst (v := 0) C dX10_separateNow_33 rfl ?_
      refine g_istore_n (ls' := [(3, vI (0 : Int32)), (0, vR 10 0), (1, vI l1), (2, vI l2)]) C dX10_separateNow_34 rfl (by decide) rfl ?_
      exact g_sub [1, 2, 3, 0] rfl (g_pc rfl (J35 l1 l2 (0 : Int32) M hm))
    refine lp_ind1 (P := (fun l3 M => GW G X 4 (QX G X (.inl (some (vI res.1))) res.2) 2 [(0, vR 10 0), (1, vI l1), (2, vI l2), (3, vI l3)] [] M)) (r := r2) ?_ fu l3 M hL2
    intro l3 M o2 hm K2
    unfold f_X10_separateNow_b2 at hm
    refine g_iload_n C 3 dX10_separateNow_2 rfl rfl ?_
    refine g_bipush (v := 8) C dX10_separateNow_3 rfl ?_
    refine g_icmp_ge (tgt := 33) C dX10_separateNow_5 (by decide) (fun h5 => ?_) (fun h5 => ?_)
    · have hm := ift hm h5
      obtain rfl := Option.some.inj hm
      exact g_sub [0, 1, 2] rfl (g_pc rfl (hx2 M (K2.2 _ rfl)))
    · have hm := ife hm h5
      refine g_aload_n C 0 dX10_separateNow_8 rfl rfl ?_
      refine g_getr (k := 0) (k' := 30) C (by decide) kf_X10_65 rfl rfl dX10_separateNow_9 ?_
      refine g_iload_n C 3 dX10_separateNow_12 rfl rfl ?_
      refine g_aload_n C 0 dX10_separateNow_13 rfl rfl ?_
      refine g_getr (k := 0) (k' := 6) C (by decide) kf_X10_23 rfl rfl dX10_separateNow_14 ?_
      refine g_iload_n C 3 dX10_separateNow_17 rfl rfl ?_
      obtain ⟨hi18, hm⟩ := ifn hm
      refine g_iald C (by decide) hi18 dX10_separateNow_18 ?_
      obtain ⟨hi19, hm⟩ := ifn hm
      refine g_iast C (by decide) hi19 dX10_separateNow_19 ?_
      refine g_aload_n C 0 dX10_separateNow_20 rfl rfl ?_
      refine g_getr (k := 0) (k' := 6) C (by decide) kf_X10_23 rfl rfl dX10_separateNow_21 ?_
      refine g_iload_n C 3 dX10_separateNow_24 rfl rfl ?_
      refine g_iconst (v := 2) C dX10_separateNow_25 rfl ?_
      obtain ⟨hi26, hm⟩ := ifn hm
      refine g_iast C (by decide) hi26 dX10_separateNow_26 ?_
      refine g_iinc (ls' := [(3, vI (l3 + (1 : Int32))), (0, vR 10 0), (1, vI l1), (2, vI l2)]) (v := l3 + (1 : Int32)) C 3 dX10_separateNow_27 rfl (iv_p1 _) (by decide) rfl ?_
      refine g_goto (tgt := 2) C dX10_separateNow_30 (by decide) ?_
      obtain rfl := Option.some.inj hm
      exact g_sub [1, 2, 3, 0] rfl (g_pc rfl (K2.1 (l3 + (1 : Int32)) (mI (mI M 22 30 l3.toNatClampNeg (M.1 22 6 l3.toNatClampNeg)) 22 6 l3.toNatClampNeg (2 : Int32)) rfl))
  unfold f_X10_separateNow at hm
  refine g_iconst (v := 0) C dX10_separateNow_0 rfl ?_
  refine g_istore_n (ls' := [(3, vI (0 : Int32)), (0, vR 10 0), (1, vI l1), (2, vI l2)]) C dX10_separateNow_1 rfl (by decide) rfl ?_
  exact g_sub [1, 2, 3, 0] rfl (g_pc rfl (J2 l1 l2 (0 : Int32) M hm))
def f_X10_separate_j58 (fu : Nat)   (l1 : Int32) (l2 : Int32) (t1 : Int32) (M : Mem) : Option (Int32 × Mem) :=
  if ((mI M 10 0 0 t1).1 10 0 0) ≤ 0 then (f_X10_separateNow fu l1 l2 (mI M 10 0 0 t1)).bind (fun r75 => some (r75.1, r75.2)) else some ((0 : Int32), (mI M 10 0 0 t1))
def f_X10_separate_j21 (fu : Nat)   (l1 : Int32) (l2 : Int32) (t0 : Int32) (M : Mem) : Option (Int32 × Mem) :=
  if t0 = 0 then f_X10_separate_j58 fu l1 l2 (1 : Int32) M else (f_X10_areParallel fu l1 l2 M).bind (fun r34 => if r34.1 = 0 then f_X10_separate_j58 fu l1 l2 (2 : Int32) r34.2 else if (r34.2.1 10 0 2) ≤ (6 : Int32) then f_X10_separate_j58 fu l1 l2 (0 : Int32) r34.2 else f_X10_separate_j58 fu l1 l2 (3 : Int32) r34.2)
def f_X10_separate_j20 (fu : Nat)   (l1 : Int32) (l2 : Int32) (M : Mem) : Option (Int32 × Mem) :=
  f_X10_separate_j21 fu l1 l2 (0 : Int32) M
def f_X10_separate (fu : Nat) (l1 : Int32) (l2 : Int32) (M : Mem) : Option (Int32 × Mem) :=
  (f_X10_isPath fu l1 M).bind (fun r2 => if r2.1 = 0 then f_X10_separate_j20 fu l1 l2 r2.2 else (f_X10_isPath fu l2 r2.2).bind (fun r10 => if r10.1 = 0 then f_X10_separate_j20 fu l1 l2 r10.2 else f_X10_separate_j21 fu l1 l2 (1 : Int32) r10.2))
set_option maxHeartbeats 4000000 in
set_option maxRecDepth 100000 in
theorem k_X10_separate (l : Launch) (G : GE) (hl : l.stackTraces = false) (hG : GOK G) (fu : Nat) (l1 : Int32) (l2 : Int32) (M : Mem) (res : Int32 × Mem) (hk0 : (10, 0) ∈ gids G) (hm : f_X10_separate fu l1 l2 M = some res) : CT l G yX10_separate cX10_separate 4 (some .int) 6 [vR 10 0, vI l1, vI l2] M (.inl (some (vI res.1))) res.2 := by
  refine ct_of [(0, vR 10 0), (1, vI l1), (2, vI l2)] (by decide +kernel) hl hG (Nat.le_of_ble_eq_true rfl) rfl (List.forall_mem_cons.mpr ⟨Or.inl hk0, List.forall_mem_cons.mpr ⟨trivial, List.forall_mem_cons.mpr ⟨trivial, fun _ h => nomatch h⟩⟩⟩) (List.forall_mem_cons.mpr ⟨Or.inl hk0, List.forall_mem_cons.mpr ⟨trivial, List.forall_mem_cons.mpr ⟨trivial, fun _ h => nomatch h⟩⟩⟩) (fun X hX C => ?_)
  subst hX
  have Cl := C
  have J58 : ∀ (l1 : Int32) (l2 : Int32) (t1 : Int32) (M : Mem), f_X10_separate_j58 fu   l1 l2 t1 M = some res → GW G X 4 (QX G X (.inl (some (vI res.1))) res.2) 58 [(0, vR 10 0), (1, vI l1), (2, vI l2)] [vI t1, vR 10 0] M := by
    intro l1 l2 t1 M hm
    unfold f_X10_separate_j58 at hm
    refine g_puti C (by decide) kf_X10_72 rfl rfl rfl dX10_separate_58 ?_
    refine g_aload_n C 0 dX10_separate_61 rfl rfl ?_
    refine g_geti (k := 0) C (by decide) kf_X10_72 rfl dX10_separate_62 ?_
    refine g_if_le (tgt := 72) C dX10_separate_65 (by decide) (fun h65 => ?_) (fun h65 => ?_)
    · have hm := ift hm h65
      refine g_aload_n C 0 dX10_separate_72 rfl rfl ?_
      refine g_iload_n C 1 dX10_separate_73 rfl rfl ?_
      refine g_iload_n C 2 dX10_separate_74 rfl rfl ?_
      obtain ⟨r75, hr75, hm⟩ := bnd_some hm
      refine g_callVi (As := [vI l1, vI l2]) (rest := []) C lk_X10_271 (k_X10_separateNow X.2.1 G hl hG fu l1 l2 (mI M 10 0 0 t1) r75 hk0 hr75) (by decide) rfl rfl rfl (Nat.le_of_ble_eq_true rfl) ⟨Nat.le_of_ble_eq_true rfl, Nat.le_of_ble_eq_true rfl⟩ dX10_separate_75 ?_
      obtain rfl := Option.some.inj hm
      exact g_iret C dX10_separate_78
    · have hm := ife hm h65
      refine g_iconst (v := 0) C dX10_separate_68 rfl ?_
      refine g_goto (tgt := 78) C dX10_separate_69 (by decide) ?_
      obtain rfl := Option.some.inj hm
      exact g_iret C dX10_separate_78
  have J21 : ∀ (l1 : Int32) (l2 : Int32) (t0 : Int32) (M : Mem), f_X10_separate_j21 fu   l1 l2 t0 M = some res → GW G X 4 (QX G X (.inl (some (vI res.1))) res.2) 21 [(0, vR 10 0), (1, vI l1), (2, vI l2)] [vI t0] M := by
    intro l1 l2 t0 M hm
    unfold f_X10_separate_j21 at hm
    refine g_istore_n (ls' := [(3, vI t0), (0, vR 10 0), (1, vI l1), (2, vI l2)]) C dX10_separate_21 rfl (by decide) rfl ?_
    refine g_aload_n C 1 dX10_separate_22 rfl rfl ?_
    refine g_iload_n C 0 dX10_separate_23 rfl rfl ?_
    refine g_if_ne (tgt := 31) C dX10_separate_24 (by decide) (fun h24 => ?_) (fun h24 => ?_)
    · have hm := ife hm h24
      refine g_aload_n C 1 dX10_separate_31 rfl rfl ?_
      refine g_iload_n C 2 dX10_separate_32 rfl rfl ?_
      refine g_iload_n C 3 dX10_separate_33 rfl rfl ?_
      obtain ⟨r34, hr34, hm⟩ := bnd_some hm
      refine g_callVi (As := [vI l1, vI l2]) (rest := [vR 10 0]) C lk_X10_117 (k_X10_areParallel X.2.1 G hl hG fu l1 l2 M r34 hk0 hr34) (by decide) rfl rfl rfl (Nat.le_of_ble_eq_true rfl) ⟨Nat.le_of_ble_eq_true rfl, Nat.le_of_ble_eq_true rfl⟩ dX10_separate_34 ?_
      refine g_if_ne (tgt := 44) C dX10_separate_37 (by decide) (fun h37 => ?_) (fun h37 => ?_)
      · have hm := ife hm h37
        refine g_aload_n C 1 dX10_separate_44 rfl rfl ?_
        refine g_geti (k := 0) C (by decide) kf_X10_79 rfl dX10_separate_45 ?_
        refine g_bipush (v := 6) C dX10_separate_48 rfl ?_
        refine g_icmp_le (tgt := 57) C dX10_separate_50 (by decide) (fun h50 => ?_) (fun h50 => ?_)
        · have hm := ift hm h50
          refine g_iconst (v := 0) C dX10_separate_57 rfl ?_
          exact g_sub [1, 2, 3] rfl (g_pc rfl (J58 l1 l2 (0 : Int32) r34.2 hm))
        · have hm := ife hm h50
          refine g_iconst (v := 3) C dX10_separate_53 rfl ?_
          refine g_goto (tgt := 58) C dX10_separate_54 (by decide) ?_
          exact g_sub [1, 2, 3] rfl (g_pc rfl (J58 l1 l2 (3 : Int32) r34.2 hm))
      · have hm := ift hm h37
        refine g_iconst (v := 2) C dX10_separate_40 rfl ?_
        refine g_goto (tgt := 58) C dX10_separate_41 (by decide) ?_
        exact g_sub [1, 2, 3] rfl (g_pc rfl (J58 l1 l2 (2 : Int32) r34.2 hm))
    · have hm := ift hm h24
      refine g_iconst (v := 1) C dX10_separate_27 rfl ?_
      refine g_goto (tgt := 58) C dX10_separate_28 (by decide) ?_
      exact g_sub [1, 2, 3] rfl (g_pc rfl (J58 l1 l2 (1 : Int32) M hm))
  have J20 : ∀ (l1 : Int32) (l2 : Int32) (M : Mem), f_X10_separate_j20 fu   l1 l2 M = some res → GW G X 4 (QX G X (.inl (some (vI res.1))) res.2) 20 [(0, vR 10 0), (1, vI l1), (2, vI l2)] [] M := by
    intro l1 l2 M hm
    unfold f_X10_separate_j20 at hm
    refine g_iconst (v := 0) C dX10_separate_20 rfl ?_
    exact g_sub [0, 1, 2] rfl (g_pc rfl (J21 l1 l2 (0 : Int32) M hm))
  unfold f_X10_separate at hm
  refine g_aload_n C 0 dX10_separate_0 rfl rfl ?_
  refine g_iload_n C 1 dX10_separate_1 rfl rfl ?_
  obtain ⟨r2, hr2, hm⟩ := bnd_some hm
  refine g_callVi (As := [vI l1]) (rest := []) C lk_X10_114 (k_X10_isPath X.2.1 G hl hG fu l1 M r2 hk0 hr2) (by decide) rfl rfl rfl (Nat.le_of_ble_eq_true rfl) ⟨Nat.le_of_ble_eq_true rfl, Nat.le_of_ble_eq_true rfl⟩ dX10_separate_2 ?_
  refine g_if_eq (tgt := 20) C dX10_separate_5 (by decide) (fun h5 => ?_) (fun h5 => ?_)
  · have hm := ift hm h5
    exact g_sub [0, 1, 2] rfl (g_pc rfl (J20 l1 l2 r2.2 hm))
  · have hm := ife hm h5
    refine g_aload_n C 0 dX10_separate_8 rfl rfl ?_
    refine g_iload_n C 2 dX10_separate_9 rfl rfl ?_
    obtain ⟨r10, hr10, hm⟩ := bnd_some hm
    refine g_callVi (As := [vI l2]) (rest := []) C lk_X10_114 (k_X10_isPath X.2.1 G hl hG fu l2 r2.2 r10 hk0 hr10) (by decide) rfl rfl rfl (Nat.le_of_ble_eq_true rfl) ⟨Nat.le_of_ble_eq_true rfl, Nat.le_of_ble_eq_true rfl⟩ dX10_separate_10 ?_
    refine g_if_eq (tgt := 20) C dX10_separate_13 (by decide) (fun h13 => ?_) (fun h13 => ?_)
    · have hm := ift hm h13
      exact g_sub [0, 1, 2] rfl (g_pc rfl (J20 l1 l2 r10.2 hm))
    · have hm := ife hm h13
      refine g_iconst (v := 1) C dX10_separate_16 rfl ?_
      refine g_goto (tgt := 21) C dX10_separate_17 (by decide) ?_
      exact g_sub [0, 1, 2] rfl (g_pc rfl (J21 l1 l2 (1 : Int32) r10.2 hm))
def f_X10_hits_j52 (fu : Nat)  (l1 : Int32) (l2 : Int32) (l3 : Int32) (l4 : Int32) (l6 : Int32) (t0 : Int32) (t1 : Int32) (M : Mem) : Option ((Int32 × Int32 × Mem) ⊕ (Int32 × Mem)) :=
  some (Sum.inl (t0 + t1, l6 + (1 : Int32), M))
def f_X10_hits_j51 (fu : Nat)  (l1 : Int32) (l2 : Int32) (l3 : Int32) (l4 : Int32) (l6 : Int32) (t0 : Int32) (M : Mem) : Option ((Int32 × Int32 × Mem) ⊕ (Int32 × Mem)) :=
  f_X10_hits_j52 fu l1 l2 l3 l4 l6 t0 (0 : Int32) M
def f_X10_hits_b6 (fu : Nat)  (l1 : Int32) (l2 : Int32) (l3 : Int32) (l4 : Int32) (l5 : Int32) (l6 : Int32) (M : Mem) : Option ((Int32 × Int32 × Mem) ⊕ (Int32 × Mem)) :=
  if inb l1 (alen 22 3) then if inb (M.1 22 3 l1.toNatClampNeg) (alen 22 6) then if (M.1 22 6 (M.1 22 3 l1.toNatClampNeg).toNatClampNeg) ≤ l6 then some (Sum.inr (l5, M)) else (f_X10_value fu l1 l6 M).bind (fun r28 => if r28.1 = l3 then (f_X10_value fu l2 l6 r28.2).bind (fun r39 => if r39.1 = l4 then f_X10_hits_j52 fu l1 l2 l3 l4 l6 l5 (1 : Int32) r39.2 else f_X10_hits_j51 fu l1 l2 l3 l4 l6 l5 r39.2) else f_X10_hits_j51 fu l1 l2 l3 l4 l6 l5 r28.2) else none else none
def f_X10_hits_h6 (fu : Nat)   (l1 : Int32) (l2 : Int32) (l3 : Int32) (l4 : Int32) (l5 : Int32) (l6 : Int32) (M : Mem) : Option (Int32 × Mem) :=
  (lp_run (fun s => f_X10_hits_b6 fu  l1 l2 l3 l4 s.1 s.2.1 s.2.2) fu (l5, l6, M)).bind (fun r6 => match r6 with
    | (l5, M) => some (l5, M))
def f_X10_hits (fu : Nat) (l1 : Int32) (l2 : Int32) (l3 : Int32) (l4 : Int32) (M : Mem) : Option (Int32 × Mem) :=
  f_X10_hits_h6 fu l1 l2 l3 l4 (0 : Int32) (0 : Int32) M
set_option maxHeartbeats 4000000 in
set_option maxRecDepth 100000 in
theorem k_X10_hits (l : Launch) (G : GE) (hl : l.stackTraces = false) (hG : GOK G) (fu : Nat) (l1 : Int32) (l2 : Int32) (l3 : Int32) (l4 : Int32) (M : Mem) (res : Int32 × Mem) (hk0 : (10, 0) ∈ gids G) (hm : f_X10_hits fu l1 l2 l3 l4 M = some res) : CT l G yX10_hits cX10_hits 7 (some .int) 1 [vR 10 0, vI l1, vI l2, vI l3, vI l4] M (.inl (some (vI res.1))) res.2 := by
  refine ct_of [(0, vR 10 0), (1, vI l1), (2, vI l2), (3, vI l3), (4, vI l4)] (by decide +kernel) hl hG (Nat.le_of_ble_eq_true rfl) rfl (List.forall_mem_cons.mpr ⟨Or.inl hk0, List.forall_mem_cons.mpr ⟨trivial, List.forall_mem_cons.mpr ⟨trivial, List.forall_mem_cons.mpr ⟨trivial, List.forall_mem_cons.mpr ⟨trivial, fun _ h => nomatch h⟩⟩⟩⟩⟩) (List.forall_mem_cons.mpr ⟨Or.inl hk0, List.forall_mem_cons.mpr ⟨trivial, List.forall_mem_cons.mpr ⟨trivial, List.forall_mem_cons.mpr ⟨trivial, List.forall_mem_cons.mpr ⟨trivial, fun _ h => nomatch h⟩⟩⟩⟩⟩) (fun X hX C => ?_)
  subst hX
  have Cl := C
  have J6 : ∀ (l1 : Int32) (l2 : Int32) (l3 : Int32) (l4 : Int32) (l5 : Int32) (l6 : Int32) (M : Mem), f_X10_hits_h6 fu   l1 l2 l3 l4 l5 l6 M = some res → GW G X 7 (QX G X (.inl (some (vI res.1))) res.2) 6 [(0, vR 10 0), (1, vI l1), (2, vI l2), (3, vI l3), (4, vI l4), (5, vI l5), (6, vI l6)] [] M := by
    intro l1 l2 l3 l4 l5 l6 M hm
    unfold f_X10_hits_h6 at hm
    obtain ⟨r6, hL6, hk6⟩ := bnd_some hm
    have hx6 : ∀ (l5 : Int32) (M : Mem), (l5, M) = r6 → GW G X 7 (QX G X (.inl (some (vI res.1))) res.2) 61 [(5, vI l5)] [] M := by
      intro l5 M he
      subst he
      have hm := hk6
      try dsimp only at hm
      refine g_iload C 0 dX10_hits_61 rfl ?_
      obtain rfl := Option.some.inj hm
      exact g_iret C dX10_hits_63
    refine lp_ind2 (P := (fun l5 l6 M => GW G X 7 (QX G X (.inl (some (vI res.1))) res.2) 6 [(0, vR 10 0), (1, vI l1), (2, vI l2), (3, vI l3), (4, vI l4), (5, vI l5), (6, vI l6)] [] M)) (r := r6) ?_ fu l5 l6 M hL6
    intro l5 l6 M o6 hm K6
    have J52 : ∀ (l6 : Int32) (t0 : Int32) (t1 : Int32) (M : Mem), f_X10_hits_j52 fu  l1 l2 l3 l4 l6 t0 t1 M = some o6 → GW G X 7 (QX G X (.inl (some (vI res.1))) res.2) 52 [(0, vR 10 0), (1, vI l1), (2, vI l2), (3, vI l3), (4, vI l4), (6, vI l6)] [vI t1, vI t0] M := by
      intro l6 t0 t1 M hm
      unfold f_X10_hits_j52 at hm
      refine g_iadd C dX10_hits_52 ?_
      refine g_istore (ls' := [(5, vI (t0 + t1)), (0, vR 10 0), (1, vI l1), (2, vI l2), (3, vI l3), (4, vI l4), (6, vI l6)]) C dX10_hits_53 (by decide) rfl ?_
      refine g_iinc (ls' := [(6, vI (l6 + (1 : Int32))), (5, vI (t0 + t1)), (0, vR 10 0), (1, vI l1), (2, vI l2), (3, vI l3), (4, vI l4)]) (v := l6 + (1 : Int32)) C 6 dX10_hits_55 rfl (iv_p1 _) (by decide) rfl ?_
      refine g_goto (tgt := 6) C dX10_hits_58 (by decide) ?_
      obtain rfl := Option.some.inj hm
      exact g_sub [2, 3, 4, 5, 6, 1, 0] rfl (g_pc rfl (K6.1 (t0 + t1) (l6 + (1 : Int32)) M rfl))
    have J51 : ∀ (l6 : Int32) (t0 : Int32) (M : Mem), f_X10_hits_j51 fu  l1 l2 l3 l4 l6 t0 M = some o6 → GW G X 7 (QX G X (.inl (some (vI res.1))) res.2) 51 [(0, vR 10 0), (1, vI l1), (2, vI l2), (3, vI l3), (4, vI l4), (6, vI l6)] [vI t0] M := by
      intro l6 t0 M hm
      unfold f_X10_hits_j51 at hm
      refine g_iconst (v := 0) C dX10_hits_51 rfl ?_
      exact g_sub [0, 1, 2, 3, 4, 5] rfl (g_pc rfl (J52 l6 t0 (0 : Int32) M hm))
    unfold f_X10_hits_b6 at hm
    refine g_iload C 6 dX10_hits_6 rfl ?_
    refine g_aload_n C 0 dX10_hits_8 rfl rfl ?_
    refine g_getr (k := 0) (k' := 6) C (by decide) kf_X10_23 rfl rfl dX10_hits_9 ?_
    refine g_aload_n C 0 dX10_hits_12 rfl rfl ?_
    refine g_getr (k := 0) (k' := 3) C (by decide) kf_X10_13 rfl rfl dX10_hits_13 ?_
    refine g_iload_n C 1 dX10_hits_16 rfl rfl ?_
    obtain ⟨hi17, hm⟩ := ifn hm
    refine g_iald C (by decide) hi17 dX10_hits_17 ?_
    obtain ⟨hi18, hm⟩ := ifn hm
    refine g_iald C (by decide) hi18 dX10_hits_18 ?_
    refine g_icmp_ge (tgt := 61) C dX10_hits_19 (by decide) (fun h19 => ?_) (fun h19 => ?_)
    · have hm := ift hm h19
      obtain rfl := Option.some.inj hm
      exact g_sub [5] rfl (g_pc rfl (hx6 l5 M (K6.2 _ rfl)))
    · have hm := ife hm h19
      refine g_iload C 5 dX10_hits_22 rfl ?_
      refine g_aload_n C 0 dX10_hits_24 rfl rfl ?_
      refine g_iload_n C 1 dX10_hits_25 rfl rfl ?_
      refine g_iload C 6 dX10_hits_26 rfl ?_
      obtain ⟨r28, hr28, hm⟩ := bnd_some hm
      refine g_callVi (As := [vI l1, vI l6]) (rest := [vI l5]) C lk_X10_208 (k_X10_value X.2.1 G hl hG fu l1 l6 M r28 hk0 hr28) (by decide) rfl rfl rfl (Nat.le_of_ble_eq_true rfl) ⟨Nat.le_of_ble_eq_true rfl, Nat.le_of_ble_eq_true rfl⟩ dX10_hits_28 ?_
      refine g_iload_n C 3 dX10_hits_31 rfl rfl ?_
      refine g_icmp_ne (tgt := 51) C dX10_hits_32 (by decide) (fun h32 => ?_) (fun h32 => ?_)
      · have hm := ife hm h32
        exact g_sub [0, 1, 2, 3, 4, 6] rfl (g_pc rfl (J51 l6 l5 r28.2 hm))
      · have hm := ift hm h32
        refine g_aload_n C 0 dX10_hits_35 rfl rfl ?_
        refine g_iload_n C 2 dX10_hits_36 rfl rfl ?_
        refine g_iload C 6 dX10_hits_37 rfl ?_
        obtain ⟨r39, hr39, hm⟩ := bnd_some hm
        refine g_callVi (As := [vI l2, vI l6]) (rest := [vI l5]) C lk_X10_208 (k_X10_value X.2.1 G hl hG fu l2 l6 r28.2 r39 hk0 hr39) (by decide) rfl rfl rfl (Nat.le_of_ble_eq_true rfl) ⟨Nat.le_of_ble_eq_true rfl, Nat.le_of_ble_eq_true rfl⟩ dX10_hits_39 ?_
        refine g_iload C 4 dX10_hits_42 rfl ?_
        refine g_icmp_ne (tgt := 51) C dX10_hits_44 (by decide) (fun h44 => ?_) (fun h44 => ?_)
        · have hm := ife hm h44
          exact g_sub [0, 1, 2, 3, 4, 6] rfl (g_pc rfl (J51 l6 l5 r39.2 hm))
        · have hm := ift hm h44
          refine g_iconst (v := 1) C dX10_hits_47 rfl ?_
          refine g_goto (tgt := 52) C dX10_hits_48 (by decide) ?_
          exact g_sub [0, 1, 2, 3, 4, 6] rfl (g_pc rfl (J52 l6 l5 (1 : Int32) r39.2 hm))
  unfold f_X10_hits at hm
  refine g_iconst (v := 0) C dX10_hits_0 rfl ?_
  refine g_istore (ls' := [(5, vI (0 : Int32)), (0, vR 10 0), (1, vI l1), (2, vI l2), (3, vI l3), (4, vI l4)]) C dX10_hits_1 (by decide) rfl ?_
  refine g_iconst (v := 0) C dX10_hits_3 rfl ?_
  refine g_istore (ls' := [(6, vI (0 : Int32)), (5, vI (0 : Int32)), (0, vR 10 0), (1, vI l1), (2, vI l2), (3, vI l3), (4, vI l4)]) C dX10_hits_4 (by decide) rfl ?_
  exact g_sub [2, 3, 4, 5, 6, 1, 0] rfl (g_pc rfl (J6 l1 l2 l3 l4 (0 : Int32) (0 : Int32) M hm))
def f_X10_isProduct_j140 (fu : Nat)  (l1 : Int32) (l2 : Int32) (l4 : Int32) (t0 : Int32) (M : Mem) : Option ((Int32 × Int32 × Mem) ⊕ (Int32 × Mem)) :=
  some (Sum.inl (t0, l4 + (1 : Int32), M))
def f_X10_isProduct_b65 (fu : Nat)  (l1 : Int32) (l2 : Int32) (l3 : Int32) (l4 : Int32) (M : Mem) : Option ((Int32 × Int32 × Mem) ⊕ (Int32 × Mem)) :=
  if l3 = 0 then some (Sum.inr (l3, M)) else if inb l1 (alen 22 4) then if inb (M.1 22 4 l1.toNatClampNeg) (alen 22 6) then if inb l2 (alen 22 4) then if inb (M.1 22 4 l2.toNatClampNeg) (alen 22 6) then if ((M.1 22 6 (M.1 22 4 l1.toNatClampNeg).toNatClampNeg) * (M.1 22 6 (M.1 22 4 l2.toNatClampNeg).toNatClampNeg)) ≤ l4 then some (Sum.inr (l3, M)) else if inb l2 (alen 22 4) then if inb (M.1 22 4 l2.toNatClampNeg) (alen 22 6) then if ¬ (M.1 22 6 (M.1 22 4 l2.toNatClampNeg).toNatClampNeg) = 0 then if inb l2 (alen 22 4) then if inb (M.1 22 4 l2.toNatClampNeg) (alen 22 6) then if ¬ (M.1 22 6 (M.1 22 4 l2.toNatClampNeg).toNatClampNeg) = 0 then (f_X10_hits fu l1 l2 (l4 / (M.1 22 6 (M.1 22 4 l2.toNatClampNeg).toNatClampNeg)) (l4 - l4 / (M.1 22 6 (M.1 22 4 l2.toNatClampNeg).toNatClampNeg) * (M.1 22 6 (M.1 22 4 l2.toNatClampNeg).toNatClampNeg)) M).bind (fun r128 => if r128.1 = (1 : Int32) then f_X10_isProduct_j140 fu l1 l2 l4 (1 : Int32) r128.2 else f_X10_isProduct_j140 fu l1 l2 l4 (0 : Int32) r128.2) else none else none else none else none else none else none else none else none else none else none
def f_X10_isProduct_h65 (fu : Nat)   (l1 : Int32) (l2 : Int32) (l3 : Int32) (l4 : Int32) (M : Mem) : Option (Int32 × Mem) :=
  (lp_run (fun s => f_X10_isProduct_b65 fu  l1 l2 s.1 s.2.1 s.2.2) fu (l3, l4, M)).bind (fun r65 => match r65 with
    | (l3, M) => if l3 = 0 ∨ l3 = 1 then some (l3, M) else none)
def f_X10_isProduct_j61 (fu : Nat)   (l1 : Int32) (l2 : Int32) (t0 : Int32) (M : Mem) : Option (Int32 × Mem) :=
  f_X10_isProduct_h65 fu l1 l2 t0 (0 : Int32) M
def f_X10_isProduct_j46 (fu : Nat)   (l1 : Int32) (l2 : Int32) (t1 : Int32) (M : Mem) : Option (Int32 × Mem) :=
  if ((mI M 10 0 0 t1).1 10 0 0) = 0 then f_X10_isProduct_j61 fu l1 l2 (1 : Int32) (mI M 10 0 0 t1) else f_X10_isProduct_j61 fu l1 l2 (0 : Int32) (mI M 10 0 0 t1)
def f_X10_isProduct_j17 (fu : Nat)   (l1 : Int32) (l2 : Int32) (M : Mem) : Option (Int32 × Mem) :=
  f_X10_isProduct_j46 fu l1 l2 (1 : Int32) M
def f_X10_isProduct_j41 (fu : Nat)   (l1 : Int32) (l2 : Int32) (M : Mem) : Option (Int32 × Mem) :=
  f_X10_isProduct_j46 fu l1 l2 (2 : Int32) M
def f_X10_isProduct (fu : Nat) (l1 : Int32) (l2 : Int32) (M : Mem) : Option (Int32 × Mem) :=
  (f_X10_isArrow fu l1 M).bind (fun r3 => if r3.1 = 0 then f_X10_isProduct_j17 fu l1 l2 r3.2 else (f_X10_isArrow fu l2 r3.2).bind (fun r11 => if r11.1 = 0 then f_X10_isProduct_j17 fu l1 l2 r11.2 else if l1 = l2 then f_X10_isProduct_j41 fu l1 l2 r11.2 else if inb l1 (alen 22 3) then if inb l2 (alen 22 3) then if (r11.2.1 22 3 l1.toNatClampNeg) = (r11.2.1 22 3 l2.toNatClampNeg) then f_X10_isProduct_j46 fu l1 l2 (0 : Int32) r11.2 else f_X10_isProduct_j41 fu l1 l2 r11.2 else none else none))
set_option maxHeartbeats 4000000 in
set_option maxRecDepth 100000 in
theorem k_X10_isProduct (l : Launch) (G : GE) (hl : l.stackTraces = false) (hG : GOK G) (fu : Nat) (l1 : Int32) (l2 : Int32) (M : Mem) (res : Int32 × Mem) (hk0 : (10, 0) ∈ gids G) (hm : f_X10_isProduct fu l1 l2 M = some res) : CT l G yX10_isProduct cX10_isProduct 5 (some .boolean) 2 [vR 10 0, vI l1, vI l2] M (.inl (some (vI res.1))) res.2 := by
  refine ct_of [(0, vR 10 0), (1, vI l1), (2, vI l2)] (by decide +kernel) hl hG (Nat.le_of_ble_eq_true rfl) rfl (List.forall_mem_cons.mpr ⟨Or.inl hk0, List.forall_mem_cons.mpr ⟨trivial, List.forall_mem_cons.mpr ⟨trivial, fun _ h => nomatch h⟩⟩⟩) (List.forall_mem_cons.mpr ⟨Or.inl hk0, List.forall_mem_cons.mpr ⟨trivial, List.forall_mem_cons.mpr ⟨trivial, fun _ h => nomatch h⟩⟩⟩) (fun X hX C => ?_)
  subst hX
  have Cl := C
  have J65 : ∀ (l1 : Int32) (l2 : Int32) (l3 : Int32) (l4 : Int32) (M : Mem), f_X10_isProduct_h65 fu   l1 l2 l3 l4 M = some res → GW G X 5 (QX G X (.inl (some (vI res.1))) res.2) 65 [(0, vR 10 0), (1, vI l1), (2, vI l2), (3, vI l3), (4, vI l4)] [] M := by
    intro l1 l2 l3 l4 M hm
    unfold f_X10_isProduct_h65 at hm
    obtain ⟨r65, hL65, hk65⟩ := bnd_some hm
    have hx65 : ∀ (l3 : Int32) (M : Mem), (l3, M) = r65 → GW G X 5 (QX G X (.inl (some (vI res.1))) res.2) 147 [(3, vI l3)] [] M := by
      intro l3 M he
      subst he
      have hm := hk65
      try dsimp only at hm
      refine g_iload_n C 0 dX10_isProduct_147 rfl rfl ?_
      obtain ⟨hz148, hm⟩ := ifn hm
      obtain rfl := Option.some.inj hm
      exact g_zret C hz148 dX10_isProduct_148
    refine lp_ind2 (P := (fun l3 l4 M => GW G X 5 (QX G X (.inl (some (vI res.1))) res.2) 65 [(0, vR 10 0), (1, vI l1), (2, vI l2), (3, vI l3), (4, vI l4)] [] M)) (r := r65) ?_ fu l3 l4 M hL65
    intro l3 l4 M o65 hm K65
    have J140 : ∀ (l4 : Int32) (t0 : Int32) (M : Mem), f_X10_isProduct_j140 fu  l1 l2 l4 t0 M = some o65 → GW G X 5 (QX G X (.inl (some (vI res.1))) res.2) 140 [(0, vR 10 0), (1, vI l1), (2, vI l2), (4, vI l4)] [vI t0] M := by
      intro l4 t0 M hm
      unfold f_X10_isProduct_j140 at hm
      refine g_istore_n (ls' := [(3, vI t0), (0, vR 10 0), (1, vI l1), (2, vI l2), (4, vI l4)]) C dX10_isProduct_140 rfl (by decide) rfl ?_
      refine g_iinc (ls' := [(4, vI (l4 + (1 : Int32))), (3, vI t0), (0, vR 10 0), (1, vI l1), (2, vI l2)]) (v := l4 + (1 : Int32)) C 4 dX10_isProduct_141 rfl (iv_p1 _) (by decide) rfl ?_
      refine g_goto (tgt := 65) C dX10_isProduct_144 (by decide) ?_
      obtain rfl := Option.some.inj hm
      exact g_sub [2, 3, 4, 1, 0] rfl (g_pc rfl (K65.1 t0 (l4 + (1 : Int32)) M rfl))
    unfold f_X10_isProduct_b65 at hm
    refine g_iload_n C 3 dX10_isProduct_65 rfl rfl ?_
    refine g_if_eq (tgt := 147) C dX10_isProduct_66 (by decide) (fun h66 => ?_) (fun h66 => ?_)
    · have hm := ift hm h66
      obtain rfl := Option.some.inj hm
      exact g_sub [3] rfl (g_pc rfl (hx65 l3 M (K65.2 _ rfl)))
    · have hm := ife hm h66
      refine g_iload C 4 dX10_isProduct_69 rfl ?_
      refine g_aload_n C 0 dX10_isProduct_71 rfl rfl ?_
      refine g_getr (k := 0) (k' := 6) C (by decide) kf_X10_23 rfl rfl dX10_isProduct_72 ?_
      refine g_aload_n C 0 dX10_isProduct_75 rfl rfl ?_
      refine g_getr (k := 0) (k' := 4) C (by decide) kf_X10_17 rfl rfl dX10_isProduct_76 ?_
      refine g_iload_n C 1 dX10_isProduct_79 rfl rfl ?_
      obtain ⟨hi80, hm⟩ := ifn hm
      refine g_iald C (by decide) hi80 dX10_isProduct_80 ?_
      obtain ⟨hi81, hm⟩ := ifn hm
      refine g_iald C (by decide) hi81 dX10_isProduct_81 ?_
      refine g_aload_n C 0 dX10_isProduct_82 rfl rfl ?_
      refine g_getr (k := 0) (k' := 6) C (by decide) kf_X10_23 rfl rfl dX10_isProduct_83 ?_
      refine g_aload_n C 0 dX10_isProduct_86 rfl rfl ?_
      refine g_getr (k := 0) (k' := 4) C (by decide) kf_X10_17 rfl rfl dX10_isProduct_87 ?_
      refine g_iload_n C 2 dX10_isProduct_90 rfl rfl ?_
      obtain ⟨hi91, hm⟩ := ifn hm
      refine g_iald C (by decide) hi91 dX10_isProduct_91 ?_
      obtain ⟨hi92, hm⟩ := ifn hm
      refine g_iald C (by decide) hi92 dX10_isProduct_92 ?_
      refine g_imul C dX10_isProduct_93 ?_
      refine g_icmp_ge (tgt := 147) C dX10_isProduct_94 (by decide) (fun h94 => ?_) (fun h94 => ?_)
      · have hm := ift hm h94
        obtain rfl := Option.some.inj hm
        exact g_sub [3] rfl (g_pc rfl (hx65 l3 M (K65.2 _ rfl)))
      · have hm := ife hm h94
        refine g_aload_n C 0 dX10_isProduct_97 rfl rfl ?_
        refine g_iload_n C 1 dX10_isProduct_98 rfl rfl ?_
        refine g_iload_n C 2 dX10_isProduct_99 rfl rfl ?_
        refine g_iload C 4 dX10_isProduct_100 rfl ?_
        refine g_aload_n C 0 dX10_isProduct_102 rfl rfl ?_
        refine g_getr (k := 0) (k' := 6) C (by decide) kf_X10_23 rfl rfl dX10_isProduct_103 ?_
        refine g_aload_n C 0 dX10_isProduct_106 rfl rfl ?_
        refine g_getr (k := 0) (k' := 4) C (by decide) kf_X10_17 rfl rfl dX10_isProduct_107 ?_
        refine g_iload_n C 2 dX10_isProduct_110 rfl rfl ?_
        obtain ⟨hi111, hm⟩ := ifn hm
        refine g_iald C (by decide) hi111 dX10_isProduct_111 ?_
        obtain ⟨hi112, hm⟩ := ifn hm
        refine g_iald C (by decide) hi112 dX10_isProduct_112 ?_
        obtain ⟨hz113, hm⟩ := ifn hm
        refine g_idiv C dX10_isProduct_113 hz113 ?_
        refine g_iload C 4 dX10_isProduct_114 rfl ?_
        refine g_aload_n C 0 dX10_isProduct_116 rfl rfl ?_
        refine g_getr (k := 0) (k' := 6) C (by decide) kf_X10_23 rfl rfl dX10_isProduct_117 ?_
        refine g_aload_n C 0 dX10_isProduct_120 rfl rfl ?_
        refine g_getr (k := 0) (k' := 4) C (by decide) kf_X10_17 rfl rfl dX10_isProduct_121 ?_
        refine g_iload_n C 2 dX10_isProduct_124 rfl rfl ?_
        obtain ⟨hi125, hm⟩ := ifn hm
        refine g_iald C (by decide) hi125 dX10_isProduct_125 ?_
        obtain ⟨hi126, hm⟩ := ifn hm
        refine g_iald C (by decide) hi126 dX10_isProduct_126 ?_
        obtain ⟨hz127, hm⟩ := ifn hm
        refine g_irem C dX10_isProduct_127 hz127 ?_
        obtain ⟨r128, hr128, hm⟩ := bnd_some hm
        refine g_callVi (As := [vI l1, vI l2, vI (l4 / (M.1 22 6 (M.1 22 4 l2.toNatClampNeg).toNatClampNeg)), vI (l4 - l4 / (M.1 22 6 (M.1 22 4 l2.toNatClampNeg).toNatClampNeg) * (M.1 22 6 (M.1 22 4 l2.toNatClampNeg).toNatClampNeg))]) (rest := []) C lk_X10_274 (k_X10_hits X.2.1 G hl hG fu l1 l2 (l4 / (M.1 22 6 (M.1 22 4 l2.toNatClampNeg).toNatClampNeg)) (l4 - l4 / (M.1 22 6 (M.1 22 4 l2.toNatClampNeg).toNatClampNeg) * (M.1 22 6 (M.1 22 4 l2.toNatClampNeg).toNatClampNeg)) M r128 hk0 hr128) (by decide) rfl rfl rfl (Nat.le_of_ble_eq_true rfl) ⟨Nat.le_of_ble_eq_true rfl, Nat.le_of_ble_eq_true rfl⟩ dX10_isProduct_128 ?_
        refine g_iconst (v := 1) C dX10_isProduct_131 rfl ?_
        refine g_icmp_ne (tgt := 139) C dX10_isProduct_132 (by decide) (fun h132 => ?_) (fun h132 => ?_)
        · have hm := ife hm h132
          refine g_iconst (v := 0) C dX10_isProduct_139 rfl ?_
          exact g_sub [0, 1, 2, 4] rfl (g_pc rfl (J140 l4 (0 : Int32) r128.2 hm))
        · have hm := ift hm h132
          refine g_iconst (v := 1) C dX10_isProduct_135 rfl ?_
          refine g_goto (tgt := 140) C dX10_isProduct_136 (by decide) ?_
          exact g_sub [0, 1, 2, 4] rfl (g_pc rfl (J140 l4 (1 : Int32) r128.2 hm))
  have J61 : ∀ (l1 : Int32) (l2 : Int32) (t0 : Int32) (M : Mem), f_X10_isProduct_j61 fu   l1 l2 t0 M = some res → GW G X 5 (QX G X (.inl (some (vI res.1))) res.2) 61 [(0, vR 10 0), (1, vI l1), (2, vI l2)] [vI t0] M := by
    intro l1 l2 t0 M hm
    unfold f_X10_isProduct_j61 at hm
    refine g_istore_n (ls' := [(3, vI t0), (0, vR 10 0), (1, vI l1), (2, vI l2)]) C dX10_isProduct_61 rfl (by decide) rfl ?_
    refine g_iconst (v := 0) C dX10_isProduct_62 rfl ?_
    refine g_istore (ls' := [(4, vI (0 : Int32)), (3, vI t0), (0, vR 10 0), (1, vI l1), (2, vI l2)]) C dX10_isProduct_63 (by decide) rfl ?_
    exact g_sub [2, 3, 4, 1, 0] rfl (g_pc rfl (J65 l1 l2 t0 (0 : Int32) M hm))
  have J46 : ∀ (l1 : Int32) (l2 : Int32) (t1 : Int32) (M : Mem), f_X10_isProduct_j46 fu   l1 l2 t1 M = some res → GW G X 5 (QX G X (.inl (some (vI res.1))) res.2) 46 [(0, vR 10 0), (1, vI l1), (2, vI l2)] [vI t1, vR 10 0] M := by
    intro l1 l2 t1 M hm
    unfold f_X10_isProduct_j46 at hm
    refine g_puti C (by decide) kf_X10_72 rfl rfl rfl dX10_isProduct_46 ?_
    refine g_aload_n C 0 dX10_isProduct_49 rfl rfl ?_
    refine g_geti (k := 0) C (by decide) kf_X10_72 rfl dX10_isProduct_50 ?_
    refine g_if_ne (tgt := 60) C dX10_isProduct_53 (by decide) (fun h53 => ?_) (fun h53 => ?_)
    · have hm := ife hm h53
      refine g_iconst (v := 0) C dX10_isProduct_60 rfl ?_
      exact g_sub [0, 1, 2] rfl (g_pc rfl (J61 l1 l2 (0 : Int32) (mI M 10 0 0 t1) hm))
    · have hm := ift hm h53
      refine g_iconst (v := 1) C dX10_isProduct_56 rfl ?_
      refine g_goto (tgt := 61) C dX10_isProduct_57 (by decide) ?_
      exact g_sub [0, 1, 2] rfl (g_pc rfl (J61 l1 l2 (1 : Int32) (mI M 10 0 0 t1) hm))
  have J17 : ∀ (l1 : Int32) (l2 : Int32) (M : Mem), f_X10_isProduct_j17 fu   l1 l2 M = some res → GW G X 5 (QX G X (.inl (some (vI res.1))) res.2) 17 [(0, vR 10 0), (1, vI l1), (2, vI l2)] [vR 10 0] M := by
    intro l1 l2 M hm
    unfold f_X10_isProduct_j17 at hm
    refine g_iconst (v := 1) C dX10_isProduct_17 rfl ?_
    refine g_goto (tgt := 46) C dX10_isProduct_18 (by decide) ?_
    exact g_sub [0, 1, 2] rfl (g_pc rfl (J46 l1 l2 (1 : Int32) M hm))
  have J41 : ∀ (l1 : Int32) (l2 : Int32) (M : Mem), f_X10_isProduct_j41 fu   l1 l2 M = some res → GW G X 5 (QX G X (.inl (some (vI res.1))) res.2) 41 [(0, vR 10 0), (1, vI l1), (2, vI l2)] [vR 10 0] M := by
    intro l1 l2 M hm
    unfold f_X10_isProduct_j41 at hm
    refine g_iconst (v := 2) C dX10_isProduct_41 rfl ?_
    refine g_goto (tgt := 46) C dX10_isProduct_42 (by decide) ?_
    exact g_sub [0, 1, 2] rfl (g_pc rfl (J46 l1 l2 (2 : Int32) M hm))
  unfold f_X10_isProduct at hm
  refine g_aload_n C 0 dX10_isProduct_0 rfl rfl ?_
  refine g_aload_n C 0 dX10_isProduct_1 rfl rfl ?_
  refine g_iload_n C 1 dX10_isProduct_2 rfl rfl ?_
  obtain ⟨r3, hr3, hm⟩ := bnd_some hm
  refine g_callVi (As := [vI l1]) (rest := [vR 10 0]) C lk_X10_169 (k_X10_isArrow X.2.1 G hl hG fu l1 M r3 hk0 hr3) (by decide) rfl rfl rfl (Nat.le_of_ble_eq_true rfl) ⟨Nat.le_of_ble_eq_true rfl, Nat.le_of_ble_eq_true rfl⟩ dX10_isProduct_3 ?_
  refine g_if_eq (tgt := 17) C dX10_isProduct_6 (by decide) (fun h6 => ?_) (fun h6 => ?_)
  · have hm := ift hm h6
    exact g_sub [0, 1, 2] rfl (g_pc rfl (J17 l1 l2 r3.2 hm))
  · have hm := ife hm h6
    refine g_aload_n C 0 dX10_isProduct_9 rfl rfl ?_
    refine g_iload_n C 2 dX10_isProduct_10 rfl rfl ?_
    obtain ⟨r11, hr11, hm⟩ := bnd_some hm
    refine g_callVi (As := [vI l2]) (rest := [vR 10 0]) C lk_X10_169 (k_X10_isArrow X.2.1 G hl hG fu l2 r3.2 r11 hk0 hr11) (by decide) rfl rfl rfl (Nat.le_of_ble_eq_true rfl) ⟨Nat.le_of_ble_eq_true rfl, Nat.le_of_ble_eq_true rfl⟩ dX10_isProduct_11 ?_
    refine g_if_ne (tgt := 21) C dX10_isProduct_14 (by decide) (fun h14 => ?_) (fun h14 => ?_)
    · have hm := ife hm h14
      refine g_iload_n C 1 dX10_isProduct_21 rfl rfl ?_
      refine g_iload_n C 2 dX10_isProduct_22 rfl rfl ?_
      refine g_icmp_eq (tgt := 41) C dX10_isProduct_23 (by decide) (fun h23 => ?_) (fun h23 => ?_)
      · have hm := ift hm h23
        exact g_sub [0, 1, 2] rfl (g_pc rfl (J41 l1 l2 r11.2 hm))
      · have hm := ife hm h23
        refine g_aload_n C 0 dX10_isProduct_26 rfl rfl ?_
        refine g_getr (k := 0) (k' := 3) C (by decide) kf_X10_13 rfl rfl dX10_isProduct_27 ?_
        refine g_iload_n C 1 dX10_isProduct_30 rfl rfl ?_
        obtain ⟨hi31, hm⟩ := ifn hm
        refine g_iald C (by decide) hi31 dX10_isProduct_31 ?_
        refine g_aload_n C 0 dX10_isProduct_32 rfl rfl ?_
        refine g_getr (k := 0) (k' := 3) C (by decide) kf_X10_13 rfl rfl dX10_isProduct_33 ?_
        refine g_iload_n C 2 dX10_isProduct_36 rfl rfl ?_
        obtain ⟨hi37, hm⟩ := ifn hm
        refine g_iald C (by decide) hi37 dX10_isProduct_37 ?_
        refine g_icmp_eq (tgt := 45) C dX10_isProduct_38 (by decide) (fun h38 => ?_) (fun h38 => ?_)
        · have hm := ift hm h38
          refine g_iconst (v := 0) C dX10_isProduct_45 rfl ?_
          exact g_sub [0, 1, 2] rfl (g_pc rfl (J46 l1 l2 (0 : Int32) r11.2 hm))
        · have hm := ife hm h38
          exact g_sub [0, 1, 2] rfl (g_pc rfl (J41 l1 l2 r11.2 hm))
    · have hm := ift hm h14
      exact g_sub [0, 1, 2] rfl (g_pc rfl (J17 l1 l2 r11.2 hm))
def f_X10_isPullback_j208 (fu : Nat)  (l1 : Int32) (l2 : Int32) (l3 : Int32) (l4 : Int32) (l8 : Int32) (t0 : Int32) (M : Mem) : Option ((Int32 × Int32 × Mem) ⊕ (Int32 × Mem)) :=
  some (Sum.inl (t0, l8 + (1 : Int32), M))
def f_X10_isPullback_b154 (fu : Nat)  (l1 : Int32) (l2 : Int32) (l3 : Int32) (l4 : Int32) (l7 : Int32) (l8 : Int32) (M : Mem) : Option ((Int32 × Int32 × Mem) ⊕ (Int32 × Mem)) :=
  if l7 = 0 then some (Sum.inr (l7, M)) else if inb l1 (alen 22 3) then if inb (M.1 22 3 l1.toNatClampNeg) (alen 22 6) then if (M.1 22 6 (M.1 22 3 l1.toNatClampNeg).toNatClampNeg) ≤ l8 then some (Sum.inr (l7, M)) else (f_X10_value fu l1 l8 M).bind (fun r181 => (f_X10_value fu l2 r181.1 r181.2).bind (fun r184 => (f_X10_value fu l3 l8 r184.2).bind (fun r194 => (f_X10_value fu l4 r194.1 r194.2).bind (fun r197 => if r184.1 = r197.1 then f_X10_isPullback_j208 fu l1 l2 l3 l4 l8 (1 : Int32) r197.2 else f_X10_isPullback_j208 fu l1 l2 l3 l4 l8 (0 : Int32) r197.2)))) else none else none
def f_X10_isPullback_j321 (fu : Nat)  (l1 : Int32) (l2 : Int32) (l3 : Int32) (l4 : Int32) (l8 : Int32) (t0 : Int32) (M : Mem) : Option ((Int32 × Int32 × Mem) ⊕ (Int32 × Mem)) :=
  some (Sum.inl (t0, l8 + (1 : Int32), M))
def f_X10_isPullback_j316 (fu : Nat)  (l1 : Int32) (l2 : Int32) (l3 : Int32) (l4 : Int32) (l8 : Int32) (M : Mem) : Option ((Int32 × Int32 × Mem) ⊕ (Int32 × Mem)) :=
  f_X10_isPullback_j321 fu l1 l2 l3 l4 l8 (1 : Int32) M
def f_X10_isPullback_b219 (fu : Nat)  (l1 : Int32) (l2 : Int32) (l3 : Int32) (l4 : Int32) (l7 : Int32) (l8 : Int32) (M : Mem) : Option ((Int32 × Int32 × Mem) ⊕ (Int32 × Mem)) :=
  if l7 = 0 then some (Sum.inr (l7, M)) else if inb l1 (alen 22 4) then if inb (M.1 22 4 l1.toNatClampNeg) (alen 22 6) then if inb l3 (alen 22 4) then if inb (M.1 22 4 l3.toNatClampNeg) (alen 22 6) then if ((M.1 22 6 (M.1 22 4 l1.toNatClampNeg).toNatClampNeg) * (M.1 22 6 (M.1 22 4 l3.toNatClampNeg).toNatClampNeg)) ≤ l8 then some (Sum.inr (l7, M)) else if inb l3 (alen 22 4) then if inb (M.1 22 4 l3.toNatClampNeg) (alen 22 6) then if ¬ (M.1 22 6 (M.1 22 4 l3.toNatClampNeg).toNatClampNeg) = 0 then if inb l3 (alen 22 4) then if inb (M.1 22 4 l3.toNatClampNeg) (alen 22 6) then if ¬ (M.1 22 6 (M.1 22 4 l3.toNatClampNeg).toNatClampNeg) = 0 then (f_X10_value fu l2 (l8 / (M.1 22 6 (M.1 22 4 l3.toNatClampNeg).toNatClampNeg)) M).bind (fun r288 => (f_X10_value fu l4 (l8 - l8 / (M.1 22 6 (M.1 22 4 l3.toNatClampNeg).toNatClampNeg) * (M.1 22 6 (M.1 22 4 l3.toNatClampNeg).toNatClampNeg)) r288.2).bind (fun r296 => if r288.1 = r296.1 then (f_X10_hits fu l1 l3 (l8 / (M.1 22 6 (M.1 22 4 l3.toNatClampNeg).toNatClampNeg)) (l8 - l8 / (M.1 22 6 (M.1 22 4 l3.toNatClampNeg).toNatClampNeg) * (M.1 22 6 (M.1 22 4 l3.toNatClampNeg).toNatClampNeg)) r296.2).bind (fun r309 => if r309.1 = (1 : Int32) then f_X10_isPullback_j316 fu l1 l2 l3 l4 l8 r309.2 else f_X10_isPullback_j321 fu l1 l2 l3 l4 l8 (0 : Int32) r309.2) else f_X10_isPullback_j316 fu l1 l2 l3 l4 l8 r296.2)) else none else none else none else none else none else none else none else none else none else none
def f_X10_isPullback_h219 (fu : Nat)   (l1 : Int32) (l2 : Int32) (l3 : Int32) (l4 : Int32) (l7 : Int32) (l8 : Int32) (M : Mem) : Option (Int32 × Mem) :=
  (lp_run (fun s => f_X10_isPullback_b219 fu  l1 l2 l3 l4 s.1 s.2.1 s.2.2) fu (l7, l8, M)).bind (fun r219 => match r219 with
    | (l7, M) => if l7 = 0 ∨ l7 = 1 then some (l7, M) else none)
def f_X10_isPullback_j216 (fu : Nat)   (l1 : Int32) (l2 : Int32) (l3 : Int32) (l4 : Int32) (l7 : Int32) (M : Mem) : Option (Int32 × Mem) :=
  f_X10_isPullback_h219 fu l1 l2 l3 l4 l7 (0 : Int32) M
def f_X10_isPullback_h154 (fu : Nat)   (l1 : Int32) (l2 : Int32) (l3 : Int32) (l4 : Int32) (l7 : Int32) (l8 : Int32) (M : Mem) : Option (Int32 × Mem) :=
  (lp_run (fun s => f_X10_isPullback_b154 fu  l1 l2 l3 l4 s.1 s.2.1 s.2.2) fu (l7, l8, M)).bind (fun r154 => match r154 with
    | (l7, M) => f_X10_isPullback_j216 fu l1 l2 l3 l4 l7 M)
def f_X10_isPullback_j149 (fu : Nat)   (l1 : Int32) (l2 : Int32) (l3 : Int32) (l4 : Int32) (t0 : Int32) (M : Mem) : Option (Int32 × Mem) :=
  f_X10_isPullback_h154 fu l1 l2 l3 l4 t0 (0 : Int32) M
def f_X10_isPullback_j134 (fu : Nat)   (l1 : Int32) (l2 : Int32) (l3 : Int32) (l4 : Int32) (t1 : Int32) (M : Mem) : Option (Int32 × Mem) :=
  if ((mI M 10 0 0 t1).1 10 0 0) = 0 then f_X10_isPullback_j149 fu l1 l2 l3 l4 (1 : Int32) (mI M 10 0 0 t1) else f_X10_isPullback_j149 fu l1 l2 l3 l4 (0 : Int32) (mI M 10 0 0 t1)
def f_X10_isPullback_j112 (fu : Nat)   (l1 : Int32) (l2 : Int32) (l3 : Int32) (l4 : Int32) (l5 : Int32) (t0 : Int32) (M : Mem) : Option (Int32 × Mem) :=
  if l5 = 0 then f_X10_isPullback_j134 fu l1 l2 l3 l4 (1 : Int32) M else if t0 = 0 then f_X10_isPullback_j134 fu l1 l2 l3 l4 (2 : Int32) M else f_X10_isPullback_j134 fu l1 l2 l3 l4 (0 : Int32) M
def f_X10_isPullback_j111 (fu : Nat)   (l1 : Int32) (l2 : Int32) (l3 : Int32) (l4 : Int32) (l5 : Int32) (M : Mem) : Option (Int32 × Mem) :=
  f_X10_isPullback_j112 fu l1 l2 l3 l4 l5 (0 : Int32) M
def f_X10_isPullback_j38 (fu : Nat)   (l1 : Int32) (l2 : Int32) (l3 : Int32) (l4 : Int32) (t0 : Int32) (M : Mem) : Option (Int32 × Mem) :=
  if t0 = 0 then f_X10_isPullback_j111 fu l1 l2 l3 l4 t0 M else if inb l2 (alen 22 3) then if inb l1 (alen 22 4) then if (M.1 22 3 l2.toNatClampNeg) = (M.1 22 4 l1.toNatClampNeg) then if inb l3 (alen 22 3) then if inb l1 (alen 22 3) then if (M.1 22 3 l3.toNatClampNeg) = (M.1 22 3 l1.toNatClampNeg) then if inb l4 (alen 22 3) then if inb l3 (alen 22 4) then if (M.1 22 3 l4.toNatClampNeg) = (M.1 22 4 l3.toNatClampNeg) then if inb l4 (alen 22 4) then if inb l2 (alen 22 4) then if (M.1 22 4 l4.toNatClampNeg) = (M.1 22 4 l2.toNatClampNeg) then f_X10_isPullback_j112 fu l1 l2 l3 l4 t0 (1 : Int32) M else f_X10_isPullback_j111 fu l1 l2 l3 l4 t0 M else none else none else f_X10_isPullback_j111 fu l1 l2 l3 l4 t0 M else none else none else f_X10_isPullback_j111 fu l1 l2 l3 l4 t0 M else none else none else f_X10_isPullback_j111 fu l1 l2 l3 l4 t0 M else none else none
def f_X10_isPullback_j37 (fu : Nat)   (l1 : Int32) (l2 : Int32) (l3 : Int32) (l4 : Int32) (M : Mem) : Option (Int32 × Mem) :=
  f_X10_isPullback_j38 fu l1 l2 l3 l4 (0 : Int32) M
def f_X10_isPullback (fu : Nat) (l1 : Int32) (l2 : Int32) (l3 : Int32) (l4 : Int32) (M : Mem) : Option (Int32 × Mem) :=
  (f_X10_isArrow fu l1 M).bind (fun r2 => if r2.1 = 0 then f_X10_isPullback_j37 fu l1 l2 l3 l4 r2.2 else (f_X10_isArrow fu l2 r2.2).bind (fun r10 => if r10.1 = 0 then f_X10_isPullback_j37 fu l1 l2 l3 l4 r10.2 else (f_X10_isArrow fu l3 r10.2).bind (fun r18 => if r18.1 = 0 then f_X10_isPullback_j37 fu l1 l2 l3 l4 r18.2 else (f_X10_isArrow fu l4 r18.2).bind (fun r27 => if r27.1 = 0 then f_X10_isPullback_j37 fu l1 l2 l3 l4 r27.2 else f_X10_isPullback_j38 fu l1 l2 l3 l4 (1 : Int32) r27.2))))
set_option maxHeartbeats 4000000 in
set_option maxRecDepth 100000 in
theorem k_X10_isPullback (l : Launch) (G : GE) (hl : l.stackTraces = false) (hG : GOK G) (fu : Nat) (l1 : Int32) (l2 : Int32) (l3 : Int32) (l4 : Int32) (M : Mem) (res : Int32 × Mem) (hk0 : (10, 0) ∈ gids G) (hm : f_X10_isPullback fu l1 l2 l3 l4 M = some res) : CT l G yX10_isPullback cX10_isPullback 11 (some .boolean) 2 [vR 10 0, vI l1, vI l2, vI l3, vI l4] M (.inl (some (vI res.1))) res.2 := by
  refine ct_of [(0, vR 10 0), (1, vI l1), (2, vI l2), (3, vI l3), (4, vI l4)] (by decide +kernel) hl hG (Nat.le_of_ble_eq_true rfl) rfl (List.forall_mem_cons.mpr ⟨Or.inl hk0, List.forall_mem_cons.mpr ⟨trivial, List.forall_mem_cons.mpr ⟨trivial, List.forall_mem_cons.mpr ⟨trivial, List.forall_mem_cons.mpr ⟨trivial, fun _ h => nomatch h⟩⟩⟩⟩⟩) (List.forall_mem_cons.mpr ⟨Or.inl hk0, List.forall_mem_cons.mpr ⟨trivial, List.forall_mem_cons.mpr ⟨trivial, List.forall_mem_cons.mpr ⟨trivial, List.forall_mem_cons.mpr ⟨trivial, fun _ h => nomatch h⟩⟩⟩⟩⟩) (fun X hX C => ?_)
  subst hX
  have Cl := C
  have J219 : ∀ (l1 : Int32) (l2 : Int32) (l3 : Int32) (l4 : Int32) (l7 : Int32) (l8 : Int32) (M : Mem), f_X10_isPullback_h219 fu   l1 l2 l3 l4 l7 l8 M = some res → GW G X 11 (QX G X (.inl (some (vI res.1))) res.2) 219 [(0, vR 10 0), (1, vI l1), (2, vI l2), (3, vI l3), (4, vI l4), (7, vI l7), (8, vI l8)] [] M := by
    intro l1 l2 l3 l4 l7 l8 M hm
    unfold f_X10_isPullback_h219 at hm
    obtain ⟨r219, hL219, hk219⟩ := bnd_some hm
    have hx219 : ∀ (l7 : Int32) (M : Mem), (l7, M) = r219 → GW G X 11 (QX G X (.inl (some (vI res.1))) res.2) 329 [(7, vI l7)] [] M := by
      intro l7 M he
      subst he
      have hm := hk219
      try dsimp only at hm
      refine g_iload C 0 dX10_isPullback_329 rfl ?_
      obtain ⟨hz331, hm⟩ := ifn hm
      obtain rfl := Option.some.inj hm
      exact g_zret C hz331 dX10_isPullback_331
    refine lp_ind2 (P := (fun l7 l8 M => GW G X 11 (QX G X (.inl (some (vI res.1))) res.2) 219 [(0, vR 10 0), (1, vI l1), (2, vI l2), (3, vI l3), (4, vI l4), (7, vI l7), (8, vI l8)] [] M)) (r := r219) ?_ fu l7 l8 M hL219
    intro l7 l8 M o219 hm K219
    have J321 : ∀ (l8 : Int32) (t0 : Int32) (M : Mem), f_X10_isPullback_j321 fu  l1 l2 l3 l4 l8 t0 M = some o219 → GW G X 11 (QX G X (.inl (some (vI res.1))) res.2) 321 [(0, vR 10 0), (1, vI l1), (2, vI l2), (3, vI l3), (4, vI l4), (8, vI l8)] [vI t0] M := by
      intro l8 t0 M hm
      unfold f_X10_isPullback_j321 at hm
      refine g_istore (ls' := [(7, vI t0), (0, vR 10 0), (1, vI l1), (2, vI l2), (3, vI l3), (4, vI l4), (8, vI l8)]) C dX10_isPullback_321 (by decide) rfl ?_
      refine g_iinc (ls' := [(8, vI (l8 + (1 : Int32))), (7, vI t0), (0, vR 10 0), (1, vI l1), (2, vI l2), (3, vI l3), (4, vI l4)]) (v := l8 + (1 : Int32)) C 6 dX10_isPullback_323 rfl (iv_p1 _) (by decide) rfl ?_
      refine g_goto (tgt := 219) C dX10_isPullback_326 (by decide) ?_
      obtain rfl := Option.some.inj hm
      exact g_sub [2, 3, 4, 5, 6, 1, 0] rfl (g_pc rfl (K219.1 t0 (l8 + (1 : Int32)) M rfl))
    have J316 : ∀ (l8 : Int32) (M : Mem), f_X10_isPullback_j316 fu  l1 l2 l3 l4 l8 M = some o219 → GW G X 11 (QX G X (.inl (some (vI res.1))) res.2) 316 [(0, vR 10 0), (1, vI l1), (2, vI l2), (3, vI l3), (4, vI l4), (8, vI l8)] [] M := by
      intro l8 M hm
      unfold f_X10_isPullback_j316 at hm
      refine g_iconst (v := 1) C dX10_isPullback_316 rfl ?_
      refine g_goto (tgt := 321) C dX10_isPullback_317 (by decide) ?_
      exact g_sub [0, 1, 2, 3, 4, 5] rfl (g_pc rfl (J321 l8 (1 : Int32) M hm))
    unfold f_X10_isPullback_b219 at hm
    refine g_iload C 5 dX10_isPullback_219 rfl ?_
    refine g_if_eq (tgt := 329) C dX10_isPullback_221 (by decide) (fun h221 => ?_) (fun h221 => ?_)
    · have hm := ift hm h221
      obtain rfl := Option.some.inj hm
      exact g_sub [5] rfl (g_pc rfl (hx219 l7 M (K219.2 _ rfl)))
    · have hm := ife hm h221
      refine g_iload C 6 dX10_isPullback_224 rfl ?_
      refine g_aload_n C 0 dX10_isPullback_226 rfl rfl ?_
      refine g_getr (k := 0) (k' := 6) C (by decide) kf_X10_23 rfl rfl dX10_isPullback_227 ?_
      refine g_aload_n C 0 dX10_isPullback_230 rfl rfl ?_
      refine g_getr (k := 0) (k' := 4) C (by decide) kf_X10_17 rfl rfl dX10_isPullback_231 ?_
      refine g_iload_n C 1 dX10_isPullback_234 rfl rfl ?_
      obtain ⟨hi235, hm⟩ := ifn hm
      refine g_iald C (by decide) hi235 dX10_isPullback_235 ?_
      obtain ⟨hi236, hm⟩ := ifn hm
      refine g_iald C (by decide) hi236 dX10_isPullback_236 ?_
      refine g_aload_n C 0 dX10_isPullback_237 rfl rfl ?_
      refine g_getr (k := 0) (k' := 6) C (by decide) kf_X10_23 rfl rfl dX10_isPullback_238 ?_
      refine g_aload_n C 0 dX10_isPullback_241 rfl rfl ?_
      refine g_getr (k := 0) (k' := 4) C (by decide) kf_X10_17 rfl rfl dX10_isPullback_242 ?_
      refine g_iload_n C 3 dX10_isPullback_245 rfl rfl ?_
      obtain ⟨hi246, hm⟩ := ifn hm
      refine g_iald C (by decide) hi246 dX10_isPullback_246 ?_
      obtain ⟨hi247, hm⟩ := ifn hm
      refine g_iald C (by decide) hi247 dX10_isPullback_247 ?_
      refine g_imul C dX10_isPullback_248 ?_
      refine g_icmp_ge (tgt := 329) C dX10_isPullback_249 (by decide) (fun h249 => ?_) (fun h249 => ?_)
      · have hm := ift hm h249
        obtain rfl := Option.some.inj hm
        exact g_sub [5] rfl (g_pc rfl (hx219 l7 M (K219.2 _ rfl)))
      · have hm := ife hm h249
        refine g_iload C 6 dX10_isPullback_252 rfl ?_
        refine g_aload_n C 0 dX10_isPullback_254 rfl rfl ?_
        refine g_getr (k := 0) (k' := 6) C (by decide) kf_X10_23 rfl rfl dX10_isPullback_255 ?_
        refine g_aload_n C 0 dX10_isPullback_258 rfl rfl ?_
        refine g_getr (k := 0) (k' := 4) C (by decide) kf_X10_17 rfl rfl dX10_isPullback_259 ?_
        refine g_iload_n C 3 dX10_isPullback_262 rfl rfl ?_
        obtain ⟨hi263, hm⟩ := ifn hm
        refine g_iald C (by decide) hi263 dX10_isPullback_263 ?_
        obtain ⟨hi264, hm⟩ := ifn hm
        refine g_iald C (by decide) hi264 dX10_isPullback_264 ?_
        obtain ⟨hz265, hm⟩ := ifn hm
        refine g_idiv C dX10_isPullback_265 hz265 ?_
        refine g_istore (ls' := [(9, vI (l8 / (M.1 22 6 (M.1 22 4 l3.toNatClampNeg).toNatClampNeg))), (0, vR 10 0), (1, vI l1), (2, vI l2), (3, vI l3), (4, vI l4), (7, vI l7), (8, vI l8)]) C dX10_isPullback_266 (by decide) rfl ?_
        refine g_iload C 7 dX10_isPullback_268 rfl ?_
        refine g_aload_n C 1 dX10_isPullback_270 rfl rfl ?_
        refine g_getr (k := 0) (k' := 6) C (by decide) kf_X10_23 rfl rfl dX10_isPullback_271 ?_
        refine g_aload_n C 1 dX10_isPullback_274 rfl rfl ?_
        refine g_getr (k := 0) (k' := 4) C (by decide) kf_X10_17 rfl rfl dX10_isPullback_275 ?_
        refine g_iload_n C 4 dX10_isPullback_278 rfl rfl ?_
        obtain ⟨hi279, hm⟩ := ifn hm
        refine g_iald C (by decide) hi279 dX10_isPullback_279 ?_
        obtain ⟨hi280, hm⟩ := ifn hm
        refine g_iald C (by decide) hi280 dX10_isPullback_280 ?_
        obtain ⟨hz281, hm⟩ := ifn hm
        refine g_irem C dX10_isPullback_281 hz281 ?_
        refine g_istore (ls' := [(10, vI (l8 - l8 / (M.1 22 6 (M.1 22 4 l3.toNatClampNeg).toNatClampNeg) * (M.1 22 6 (M.1 22 4 l3.toNatClampNeg).toNatClampNeg))), (9, vI (l8 / (M.1 22 6 (M.1 22 4 l3.toNatClampNeg).toNatClampNeg))), (0, vR 10 0), (1, vI l1), (2, vI l2), (3, vI l3), (4, vI l4), (7, vI l7), (8, vI l8)]) C dX10_isPullback_282 (by decide) rfl ?_
        refine g_aload_n C 2 dX10_isPullback_284 rfl rfl ?_
        refine g_iload_n C 4 dX10_isPullback_285 rfl rfl ?_
        refine g_iload C 1 dX10_isPullback_286 rfl ?_
        obtain ⟨r288, hr288, hm⟩ := bnd_some hm
        refine g_callVi (As := [vI l2, vI (l8 / (M.1 22 6 (M.1 22 4 l3.toNatClampNeg).toNatClampNeg))]) (rest := []) C lk_X10_208 (k_X10_value X.2.1 G hl hG fu l2 (l8 / (M.1 22 6 (M.1 22 4 l3.toNatClampNeg).toNatClampNeg)) M r288 hk0 hr288) (by decide) rfl rfl rfl (Nat.le_of_ble_eq_true rfl) ⟨Nat.le_of_ble_eq_true rfl, Nat.le_of_ble_eq_true rfl⟩ dX10_isPullback_288 ?_
        refine g_aload_n C 2 dX10_isPullback_291 rfl rfl ?_
        refine g_iload C 6 dX10_isPullback_292 rfl ?_
        refine g_iload C 0 dX10_isPullback_294 rfl ?_
        obtain ⟨r296, hr296, hm⟩ := bnd_some hm
        refine g_callVi (As := [vI l4, vI (l8 - l8 / (M.1 22 6 (M.1 22 4 l3.toNatClampNeg).toNatClampNeg) * (M.1 22 6 (M.1 22 4 l3.toNatClampNeg).toNatClampNeg))]) (rest := [vI r288.1]) C lk_X10_208 (k_X10_value X.2.1 G hl hG fu l4 (l8 - l8 / (M.1 22 6 (M.1 22 4 l3.toNatClampNeg).toNatClampNeg) * (M.1 22 6 (M.1 22 4 l3.toNatClampNeg).toNatClampNeg)) r288.2 r296 hk0 hr296) (by decide) rfl rfl rfl (Nat.le_of_ble_eq_true rfl) ⟨Nat.le_of_ble_eq_true rfl, Nat.le_of_ble_eq_true rfl⟩ dX10_isPullback_296 ?_
        refine g_icmp_ne (tgt := 316) C dX10_isPullback_299 (by decide) (fun h299 => ?_) (fun h299 => ?_)
        · have hm := ife hm h299
          exact g_sub [2, 3, 4, 5, 6, 8] rfl (g_pc rfl (J316 l8 r296.2 hm))
        · have hm := ift hm h299
          refine g_aload_n C 2 dX10_isPullback_302 rfl rfl ?_
          refine g_iload_n C 3 dX10_isPullback_303 rfl rfl ?_
          refine g_iload_n C 5 dX10_isPullback_304 rfl rfl ?_
          refine g_iload C 1 dX10_isPullback_305 rfl ?_
          refine g_iload C 0 dX10_isPullback_307 rfl ?_
          obtain ⟨r309, hr309, hm⟩ := bnd_some hm
          refine g_callVi (As := [vI l1, vI l3, vI (l8 / (M.1 22 6 (M.1 22 4 l3.toNatClampNeg).toNatClampNeg)), vI (l8 - l8 / (M.1 22 6 (M.1 22 4 l3.toNatClampNeg).toNatClampNeg) * (M.1 22 6 (M.1 22 4 l3.toNatClampNeg).toNatClampNeg))]) (rest := []) C lk_X10_274 (k_X10_hits X.2.1 G hl hG fu l1 l3 (l8 / (M.1 22 6 (M.1 22 4 l3.toNatClampNeg).toNatClampNeg)) (l8 - l8 / (M.1 22 6 (M.1 22 4 l3.toNatClampNeg).toNatClampNeg) * (M.1 22 6 (M.1 22 4 l3.toNatClampNeg).toNatClampNeg)) r296.2 r309 hk0 hr309) (by decide) rfl rfl rfl (Nat.le_of_ble_eq_true rfl) ⟨Nat.le_of_ble_eq_true rfl, Nat.le_of_ble_eq_true rfl⟩ dX10_isPullback_309 ?_
          refine g_iconst (v := 1) C dX10_isPullback_312 rfl ?_
          refine g_icmp_ne (tgt := 320) C dX10_isPullback_313 (by decide) (fun h313 => ?_) (fun h313 => ?_)
          · have hm := ife hm h313
            refine g_iconst (v := 0) C dX10_isPullback_320 rfl ?_
            exact g_sub [2, 3, 4, 5, 6, 8] rfl (g_pc rfl (J321 l8 (0 : Int32) r309.2 hm))
          · have hm := ift hm h313
            exact g_sub [2, 3, 4, 5, 6, 8] rfl (g_pc rfl (J316 l8 r309.2 hm))
  have J216 : ∀ (l1 : Int32) (l2 : Int32) (l3 : Int32) (l4 : Int32) (l7 : Int32) (M : Mem), f_X10_isPullback_j216 fu   l1 l2 l3 l4 l7 M = some res → GW G X 11 (QX G X (.inl (some (vI res.1))) res.2) 216 [(0, vR 10 0), (1, vI l1), (2, vI l2), (3, vI l3), (4, vI l4), (7, vI l7)] [] M := by
    intro l1 l2 l3 l4 l7 M hm
    unfold f_X10_isPullback_j216 at hm
    refine g_iconst (v := 0) C dX10_isPullback_216 rfl ?_
    refine g_istore (ls' := [(8, vI (0 : Int32)), (0, vR 10 0), (1, vI l1), (2, vI l2), (3, vI l3), (4, vI l4), (7, vI l7)]) C dX10_isPullback_217 (by decide) rfl ?_
    exact g_sub [1, 2, 3, 4, 5, 6, 0] rfl (g_pc rfl (J219 l1 l2 l3 l4 l7 (0 : Int32) M hm))
  have J154 : ∀ (l1 : Int32) (l2 : Int32) (l3 : Int32) (l4 : Int32) (l7 : Int32) (l8 : Int32) (M : Mem), f_X10_isPullback_h154 fu   l1 l2 l3 l4 l7 l8 M = some res → GW G X 11 (QX G X (.inl (some (vI res.1))) res.2) 154 [(0, vR 10 0), (1, vI l1), (2, vI l2), (3, vI l3), (4, vI l4), (7, vI l7), (8, vI l8)] [] M := by
    intro l1 l2 l3 l4 l7 l8 M hm
    unfold f_X10_isPullback_h154 at hm
    obtain ⟨r154, hL154, hk154⟩ := bnd_some hm
    have hx154 : ∀ (l7 : Int32) (M : Mem), (l7, M) = r154 → GW G X 11 (QX G X (.inl (some (vI res.1))) res.2) 216 [(0, vR 10 0), (1, vI l1), (2, vI l2), (3, vI l3), (4, vI l4), (7, vI l7)] [] M := by
      intro l7 M he
      subst he
      have hm := hk154
      try dsimp only at hm
      exact g_sub [0, 1, 2, 3, 4, 5] rfl (g_pc rfl (J216 l1 l2 l3 l4 l7 M hm))
    refine lp_ind2 (P := (fun l7 l8 M => GW G X 11 (QX G X (.inl (some (vI res.1))) res.2) 154 [(0, vR 10 0), (1, vI l1), (2, vI l2), (3, vI l3), (4, vI l4), (7, vI l7), (8, vI l8)] [] M)) (r := r154) ?_ fu l7 l8 M hL154
    intro l7 l8 M o154 hm K154
    have J208 : ∀ (l8 : Int32) (t0 : Int32) (M : Mem), f_X10_isPullback_j208 fu  l1 l2 l3 l4 l8 t0 M = some o154 → GW G X 11 (QX G X (.inl (some (vI res.1))) res.2) 208 [(0, vR 10 0), (1, vI l1), (2, vI l2), (3, vI l3), (4, vI l4), (8, vI l8)] [vI t0] M := by
      intro l8 t0 M hm
      unfold f_X10_isPullback_j208 at hm
      refine g_istore (ls' := [(7, vI t0), (0, vR 10 0), (1, vI l1), (2, vI l2), (3, vI l3), (4, vI l4), (8, vI l8)]) C dX10_isPullback_208 (by decide) rfl ?_
      refine g_iinc (ls' := [(8, vI (l8 + (1 : Int32))), (7, vI t0), (0, vR 10 0), (1, vI l1), (2, vI l2), (3, vI l3), (4, vI l4)]) (v := l8 + (1 : Int32)) C 6 dX10_isPullback_210 rfl (iv_p1 _) (by decide) rfl ?_
      refine g_goto (tgt := 154) C dX10_isPullback_213 (by decide) ?_
      obtain rfl := Option.some.inj hm
      exact g_sub [2, 3, 4, 5, 6, 1, 0] rfl (g_pc rfl (K154.1 t0 (l8 + (1 : Int32)) M rfl))
    unfold f_X10_isPullback_b154 at hm
    refine g_iload C 5 dX10_isPullback_154 rfl ?_
    refine g_if_eq (tgt := 216) C dX10_isPullback_156 (by decide) (fun h156 => ?_) (fun h156 => ?_)
    · have hm := ift hm h156
      obtain rfl := Option.some.inj hm
      exact g_sub [0, 1, 2, 3, 4, 5] rfl (g_pc rfl (hx154 l7 M (K154.2 _ rfl)))
    · have hm := ife hm h156
      refine g_iload C 6 dX10_isPullback_159 rfl ?_
      refine g_aload_n C 0 dX10_isPullback_161 rfl rfl ?_
      refine g_getr (k := 0) (k' := 6) C (by decide) kf_X10_23 rfl rfl dX10_isPullback_162 ?_
      refine g_aload_n C 0 dX10_isPullback_165 rfl rfl ?_
      refine g_getr (k := 0) (k' := 3) C (by decide) kf_X10_13 rfl rfl dX10_isPullback_166 ?_
      refine g_iload_n C 1 dX10_isPullback_169 rfl rfl ?_
      obtain ⟨hi170, hm⟩ := ifn hm
      refine g_iald C (by decide) hi170 dX10_isPullback_170 ?_
      obtain ⟨hi171, hm⟩ := ifn hm
      refine g_iald C (by decide) hi171 dX10_isPullback_171 ?_
      refine g_icmp_ge (tgt := 216) C dX10_isPullback_172 (by decide) (fun h172 => ?_) (fun h172 => ?_)
      · have hm := ift hm h172
        obtain rfl := Option.some.inj hm
        exact g_sub [0, 1, 2, 3, 4, 5] rfl (g_pc rfl (hx154 l7 M (K154.2 _ rfl)))
      · have hm := ife hm h172
        refine g_aload_n C 0 dX10_isPullback_175 rfl rfl ?_
        refine g_iload_n C 2 dX10_isPullback_176 rfl rfl ?_
        refine g_aload_n C 0 dX10_isPullback_177 rfl rfl ?_
        refine g_iload_n C 1 dX10_isPullback_178 rfl rfl ?_
        refine g_iload C 6 dX10_isPullback_179 rfl ?_
        obtain ⟨r181, hr181, hm⟩ := bnd_some hm
        refine g_callVi (As := [vI l1, vI l8]) (rest := [vI l2, vR 10 0]) C lk_X10_208 (k_X10_value X.2.1 G hl hG fu l1 l8 M r181 hk0 hr181) (by decide) rfl rfl rfl (Nat.le_of_ble_eq_true rfl) ⟨Nat.le_of_ble_eq_true rfl, Nat.le_of_ble_eq_true rfl⟩ dX10_isPullback_181 ?_
        obtain ⟨r184, hr184, hm⟩ := bnd_some hm
        refine g_callVi (As := [vI l2, vI r181.1]) (rest := []) C lk_X10_208 (k_X10_value X.2.1 G hl hG fu l2 r181.1 r181.2 r184 hk0 hr184) (by decide) rfl rfl rfl (Nat.le_of_ble_eq_true rfl) ⟨Nat.le_of_ble_eq_true rfl, Nat.le_of_ble_eq_true rfl⟩ dX10_isPullback_184 ?_
        refine g_aload_n C 0 dX10_isPullback_187 rfl rfl ?_
        refine g_iload C 4 dX10_isPullback_188 rfl ?_
        refine g_aload_n C 0 dX10_isPullback_190 rfl rfl ?_
        refine g_iload_n C 3 dX10_isPullback_191 rfl rfl ?_
        refine g_iload C 6 dX10_isPullback_192 rfl ?_
        obtain ⟨r194, hr194, hm⟩ := bnd_some hm
        refine g_callVi (As := [vI l3, vI l8]) (rest := [vI l4, vR 10 0, vI r184.1]) C lk_X10_208 (k_X10_value X.2.1 G hl hG fu l3 l8 r184.2 r194 hk0 hr194) (by decide) rfl rfl rfl (Nat.le_of_ble_eq_true rfl) ⟨Nat.le_of_ble_eq_true rfl, Nat.le_of_ble_eq_true rfl⟩ dX10_isPullback_194 ?_
        obtain ⟨r197, hr197, hm⟩ := bnd_some hm
        refine g_callVi (As := [vI l4, vI r194.1]) (rest := [vI r184.1]) C lk_X10_208 (k_X10_value X.2.1 G hl hG fu l4 r194.1 r194.2 r197 hk0 hr197) (by decide) rfl rfl rfl (Nat.le_of_ble_eq_true rfl) ⟨Nat.le_of_ble_eq_true rfl, Nat.le_of_ble_eq_true rfl⟩ dX10_isPullback_197 ?_
        refine g_icmp_ne (tgt := 207) C dX10_isPullback_200 (by decide) (fun h200 => ?_) (fun h200 => ?_)
        · have hm := ife hm h200
          refine g_iconst (v := 0) C dX10_isPullback_207 rfl ?_
          exact g_sub [0, 1, 2, 3, 4, 6] rfl (g_pc rfl (J208 l8 (0 : Int32) r197.2 hm))
        · have hm := ift hm h200
          refine g_iconst (v := 1) C dX10_isPullback_203 rfl ?_
          refine g_goto (tgt := 208) C dX10_isPullback_204 (by decide) ?_
          exact g_sub [0, 1, 2, 3, 4, 6] rfl (g_pc rfl (J208 l8 (1 : Int32) r197.2 hm))
  have J149 : ∀ (l1 : Int32) (l2 : Int32) (l3 : Int32) (l4 : Int32) (t0 : Int32) (M : Mem), f_X10_isPullback_j149 fu   l1 l2 l3 l4 t0 M = some res → GW G X 11 (QX G X (.inl (some (vI res.1))) res.2) 149 [(0, vR 10 0), (1, vI l1), (2, vI l2), (3, vI l3), (4, vI l4)] [vI t0] M := by
    intro l1 l2 l3 l4 t0 M hm
    unfold f_X10_isPullback_j149 at hm
    refine g_istore (ls' := [(7, vI t0), (0, vR 10 0), (1, vI l1), (2, vI l2), (3, vI l3), (4, vI l4)]) C dX10_isPullback_149 (by decide) rfl ?_
    refine g_iconst (v := 0) C dX10_isPullback_151 rfl ?_
    refine g_istore (ls' := [(8, vI (0 : Int32)), (7, vI t0), (0, vR 10 0), (1, vI l1), (2, vI l2), (3, vI l3), (4, vI l4)]) C dX10_isPullback_152 (by decide) rfl ?_
    exact g_sub [2, 3, 4, 5, 6, 1, 0] rfl (g_pc rfl (J154 l1 l2 l3 l4 t0 (0 : Int32) M hm))
  have J134 : ∀ (l1 : Int32) (l2 : Int32) (l3 : Int32) (l4 : Int32) (t1 : Int32) (M : Mem), f_X10_isPullback_j134 fu   l1 l2 l3 l4 t1 M = some res → GW G X 11 (QX G X (.inl (some (vI res.1))) res.2) 134 [(0, vR 10 0), (1, vI l1), (2, vI l2), (3, vI l3), (4, vI l4)] [vI t1, vR 10 0] M := by
    intro l1 l2 l3 l4 t1 M hm
    unfold f_X10_isPullback_j134 at hm
    refine g_puti C (by decide) kf_X10_72 rfl rfl rfl dX10_isPullback_134 ?_
    refine g_aload_n C 0 dX10_isPullback_137 rfl rfl ?_
    refine g_geti (k := 0) C (by decide) kf_X10_72 rfl dX10_isPullback_138 ?_
    refine g_if_ne (tgt := 148) C dX10_isPullback_141 (by decide) (fun h141 => ?_) (fun h141 => ?_)
    · have hm := ife hm h141
      refine g_iconst (v := 0) C dX10_isPullback_148 rfl ?_
      exact g_sub [0, 1, 2, 3, 4] rfl (g_pc rfl (J149 l1 l2 l3 l4 (0 : Int32) (mI M 10 0 0 t1) hm))
    · have hm := ift hm h141
      refine g_iconst (v := 1) C dX10_isPullback_144 rfl ?_
      refine g_goto (tgt := 149) C dX10_isPullback_145 (by decide) ?_
      exact g_sub [0, 1, 2, 3, 4] rfl (g_pc rfl (J149 l1 l2 l3 l4 (1 : Int32) (mI M 10 0 0 t1) hm))
  have J112 : ∀ (l1 : Int32) (l2 : Int32) (l3 : Int32) (l4 : Int32) (l5 : Int32) (t0 : Int32) (M : Mem), f_X10_isPullback_j112 fu   l1 l2 l3 l4 l5 t0 M = some res → GW G X 11 (QX G X (.inl (some (vI res.1))) res.2) 112 [(0, vR 10 0), (1, vI l1), (2, vI l2), (3, vI l3), (4, vI l4), (5, vI l5)] [vI t0] M := by
    intro l1 l2 l3 l4 l5 t0 M hm
    unfold f_X10_isPullback_j112 at hm
    refine g_istore (ls' := [(6, vI t0), (0, vR 10 0), (1, vI l1), (2, vI l2), (3, vI l3), (4, vI l4), (5, vI l5)]) C dX10_isPullback_112 (by decide) rfl ?_
    refine g_aload_n C 1 dX10_isPullback_114 rfl rfl ?_
    refine g_iload C 6 dX10_isPullback_115 rfl ?_
    refine g_if_ne (tgt := 124) C dX10_isPullback_117 (by decide) (fun h117 => ?_) (fun h117 => ?_)
    · have hm := ife hm h117
      refine g_iload C 0 dX10_isPullback_124 rfl ?_
      refine g_if_eq (tgt := 133) C dX10_isPullback_126 (by decide) (fun h126 => ?_) (fun h126 => ?_)
      · have hm := ift hm h126
        refine g_iconst (v := 2) C dX10_isPullback_133 rfl ?_
        exact g_sub [1, 2, 3, 4, 5] rfl (g_pc rfl (J134 l1 l2 l3 l4 (2 : Int32) M hm))
      · have hm := ife hm h126
        refine g_iconst (v := 0) C dX10_isPullback_129 rfl ?_
        refine g_goto (tgt := 134) C dX10_isPullback_130 (by decide) ?_
        exact g_sub [1, 2, 3, 4, 5] rfl (g_pc rfl (J134 l1 l2 l3 l4 (0 : Int32) M hm))
    · have hm := ift hm h117
      refine g_iconst (v := 1) C dX10_isPullback_120 rfl ?_
      refine g_goto (tgt := 134) C dX10_isPullback_121 (by decide) ?_
      exact g_sub [1, 2, 3, 4, 5] rfl (g_pc rfl (J134 l1 l2 l3 l4 (1 : Int32) M hm))
  have J111 : ∀ (l1 : Int32) (l2 : Int32) (l3 : Int32) (l4 : Int32) (l5 : Int32) (M : Mem), f_X10_isPullback_j111 fu   l1 l2 l3 l4 l5 M = some res → GW G X 11 (QX G X (.inl (some (vI res.1))) res.2) 111 [(0, vR 10 0), (1, vI l1), (2, vI l2), (3, vI l3), (4, vI l4), (5, vI l5)] [] M := by
    intro l1 l2 l3 l4 l5 M hm
    unfold f_X10_isPullback_j111 at hm
    refine g_iconst (v := 0) C dX10_isPullback_111 rfl ?_
    exact g_sub [0, 1, 2, 3, 4, 5] rfl (g_pc rfl (J112 l1 l2 l3 l4 l5 (0 : Int32) M hm))
  have J38 : ∀ (l1 : Int32) (l2 : Int32) (l3 : Int32) (l4 : Int32) (t0 : Int32) (M : Mem), f_X10_isPullback_j38 fu   l1 l2 l3 l4 t0 M = some res → GW G X 11 (QX G X (.inl (some (vI res.1))) res.2) 38 [(0, vR 10 0), (1, vI l1), (2, vI l2), (3, vI l3), (4, vI l4)] [vI t0] M := by
    intro l1 l2 l3 l4 t0 M hm
    unfold f_X10_isPullback_j38 at hm
    refine g_istore (ls' := [(5, vI t0), (0, vR 10 0), (1, vI l1), (2, vI l2), (3, vI l3), (4, vI l4)]) C dX10_isPullback_38 (by decide) rfl ?_
    refine g_iload C 0 dX10_isPullback_40 rfl ?_
    refine g_if_eq (tgt := 111) C dX10_isPullback_42 (by decide) (fun h42 => ?_) (fun h42 => ?_)
    · have hm := ift hm h42
      exact g_sub [1, 2, 3, 4, 5, 0] rfl (g_pc rfl (J111 l1 l2 l3 l4 t0 M hm))
    · have hm := ife hm h42
      refine g_aload_n C 1 dX10_isPullback_45 rfl rfl ?_
      refine g_getr (k := 0) (k' := 3) C (by decide) kf_X10_13 rfl rfl dX10_isPullback_46 ?_
      refine g_iload_n C 3 dX10_isPullback_49 rfl rfl ?_
      obtain ⟨hi50, hm⟩ := ifn hm
      refine g_iald C (by decide) hi50 dX10_isPullback_50 ?_
      refine g_aload_n C 1 dX10_isPullback_51 rfl rfl ?_
      refine g_getr (k := 0) (k' := 4) C (by decide) kf_X10_17 rfl rfl dX10_isPullback_52 ?_
      refine g_iload_n C 2 dX10_isPullback_55 rfl rfl ?_
      obtain ⟨hi56, hm⟩ := ifn hm
      refine g_iald C (by decide) hi56 dX10_isPullback_56 ?_
      refine g_icmp_ne (tgt := 111) C dX10_isPullback_57 (by decide) (fun h57 => ?_) (fun h57 => ?_)
      · have hm := ife hm h57
        exact g_sub [1, 2, 3, 4, 5, 0] rfl (g_pc rfl (J111 l1 l2 l3 l4 t0 M hm))
      · have hm := ift hm h57
        refine g_aload_n C 1 dX10_isPullback_60 rfl rfl ?_
        refine g_getr (k := 0) (k' := 3) C (by decide) kf_X10_13 rfl rfl dX10_isPullback_61 ?_
        refine g_iload_n C 4 dX10_isPullback_64 rfl rfl ?_
        obtain ⟨hi65, hm⟩ := ifn hm
        refine g_iald C (by decide) hi65 dX10_isPullback_65 ?_
        refine g_aload_n C 1 dX10_isPullback_66 rfl rfl ?_
        refine g_getr (k := 0) (k' := 3) C (by decide) kf_X10_13 rfl rfl dX10_isPullback_67 ?_
        refine g_iload_n C 2 dX10_isPullback_70 rfl rfl ?_
        obtain ⟨hi71, hm⟩ := ifn hm
        refine g_iald C (by decide) hi71 dX10_isPullback_71 ?_
        refine g_icmp_ne (tgt := 111) C dX10_isPullback_72 (by decide) (fun h72 => ?_) (fun h72 => ?_)
        · have hm := ife hm h72
          exact g_sub [1, 2, 3, 4, 5, 0] rfl (g_pc rfl (J111 l1 l2 l3 l4 t0 M hm))
        · have hm := ift hm h72
          refine g_aload_n C 1 dX10_isPullback_75 rfl rfl ?_
          refine g_getr (k := 0) (k' := 3) C (by decide) kf_X10_13 rfl rfl dX10_isPullback_76 ?_
          refine g_iload C 5 dX10_isPullback_79 rfl ?_
          obtain ⟨hi81, hm⟩ := ifn hm
          refine g_iald C (by decide) hi81 dX10_isPullback_81 ?_
          refine g_aload_n C 1 dX10_isPullback_82 rfl rfl ?_
          refine g_getr (k := 0) (k' := 4) C (by decide) kf_X10_17 rfl rfl dX10_isPullback_83 ?_
          refine g_iload_n C 4 dX10_isPullback_86 rfl rfl ?_
          obtain ⟨hi87, hm⟩ := ifn hm
          refine g_iald C (by decide) hi87 dX10_isPullback_87 ?_
          refine g_icmp_ne (tgt := 111) C dX10_isPullback_88 (by decide) (fun h88 => ?_) (fun h88 => ?_)
          · have hm := ife hm h88
            exact g_sub [1, 2, 3, 4, 5, 0] rfl (g_pc rfl (J111 l1 l2 l3 l4 t0 M hm))
          · have hm := ift hm h88
            refine g_aload_n C 1 dX10_isPullback_91 rfl rfl ?_
            refine g_getr (k := 0) (k' := 4) C (by decide) kf_X10_17 rfl rfl dX10_isPullback_92 ?_
            refine g_iload C 5 dX10_isPullback_95 rfl ?_
            obtain ⟨hi97, hm⟩ := ifn hm
            refine g_iald C (by decide) hi97 dX10_isPullback_97 ?_
            refine g_aload_n C 1 dX10_isPullback_98 rfl rfl ?_
            refine g_getr (k := 0) (k' := 4) C (by decide) kf_X10_17 rfl rfl dX10_isPullback_99 ?_
            refine g_iload_n C 3 dX10_isPullback_102 rfl rfl ?_
            obtain ⟨hi103, hm⟩ := ifn hm
            refine g_iald C (by decide) hi103 dX10_isPullback_103 ?_
            refine g_icmp_ne (tgt := 111) C dX10_isPullback_104 (by decide) (fun h104 => ?_) (fun h104 => ?_)
            · have hm := ife hm h104
              exact g_sub [1, 2, 3, 4, 5, 0] rfl (g_pc rfl (J111 l1 l2 l3 l4 t0 M hm))
            · have hm := ift hm h104
              refine g_iconst (v := 1) C dX10_isPullback_107 rfl ?_
              refine g_goto (tgt := 112) C dX10_isPullback_108 (by decide) ?_
              exact g_sub [1, 2, 3, 4, 5, 0] rfl (g_pc rfl (J112 l1 l2 l3 l4 t0 (1 : Int32) M hm))
  have J37 : ∀ (l1 : Int32) (l2 : Int32) (l3 : Int32) (l4 : Int32) (M : Mem), f_X10_isPullback_j37 fu   l1 l2 l3 l4 M = some res → GW G X 11 (QX G X (.inl (some (vI res.1))) res.2) 37 [(0, vR 10 0), (1, vI l1), (2, vI l2), (3, vI l3), (4, vI l4)] [] M := by
    intro l1 l2 l3 l4 M hm
    unfold f_X10_isPullback_j37 at hm
    refine g_iconst (v := 0) C dX10_isPullback_37 rfl ?_
    exact g_sub [0, 1, 2, 3, 4] rfl (g_pc rfl (J38 l1 l2 l3 l4 (0 : Int32) M hm))
  unfold f_X10_isPullback at hm
  refine g_aload_n C 0 dX10_isPullback_0 rfl rfl ?_
  refine g_iload_n C 1 dX10_isPullback_1 rfl rfl ?_
  obtain ⟨r2, hr2, hm⟩ := bnd_some hm
  refine g_callVi (As := [vI l1]) (rest := []) C lk_X10_169 (k_X10_isArrow X.2.1 G hl hG fu l1 M r2 hk0 hr2) (by decide) rfl rfl rfl (Nat.le_of_ble_eq_true rfl) ⟨Nat.le_of_ble_eq_true rfl, Nat.le_of_ble_eq_true rfl⟩ dX10_isPullback_2 ?_
  refine g_if_eq (tgt := 37) C dX10_isPullback_5 (by decide) (fun h5 => ?_) (fun h5 => ?_)
  · have hm := ift hm h5
    exact g_sub [0, 1, 2, 3, 4] rfl (g_pc rfl (J37 l1 l2 l3 l4 r2.2 hm))
  · have hm := ife hm h5
    refine g_aload_n C 0 dX10_isPullback_8 rfl rfl ?_
    refine g_iload_n C 2 dX10_isPullback_9 rfl rfl ?_
    obtain ⟨r10, hr10, hm⟩ := bnd_some hm
    refine g_callVi (As := [vI l2]) (rest := []) C lk_X10_169 (k_X10_isArrow X.2.1 G hl hG fu l2 r2.2 r10 hk0 hr10) (by decide) rfl rfl rfl (Nat.le_of_ble_eq_true rfl) ⟨Nat.le_of_ble_eq_true rfl, Nat.le_of_ble_eq_true rfl⟩ dX10_isPullback_10 ?_
    refine g_if_eq (tgt := 37) C dX10_isPullback_13 (by decide) (fun h13 => ?_) (fun h13 => ?_)
    · have hm := ift hm h13
      exact g_sub [0, 1, 2, 3, 4] rfl (g_pc rfl (J37 l1 l2 l3 l4 r10.2 hm))
    · have hm := ife hm h13
      refine g_aload_n C 0 dX10_isPullback_16 rfl rfl ?_
      refine g_iload_n C 3 dX10_isPullback_17 rfl rfl ?_
      obtain ⟨r18, hr18, hm⟩ := bnd_some hm
      refine g_callVi (As := [vI l3]) (rest := []) C lk_X10_169 (k_X10_isArrow X.2.1 G hl hG fu l3 r10.2 r18 hk0 hr18) (by decide) rfl rfl rfl (Nat.le_of_ble_eq_true rfl) ⟨Nat.le_of_ble_eq_true rfl, Nat.le_of_ble_eq_true rfl⟩ dX10_isPullback_18 ?_
      refine g_if_eq (tgt := 37) C dX10_isPullback_21 (by decide) (fun h21 => ?_) (fun h21 => ?_)
      · have hm := ift hm h21
        exact g_sub [0, 1, 2, 3, 4] rfl (g_pc rfl (J37 l1 l2 l3 l4 r18.2 hm))
      · have hm := ife hm h21
        refine g_aload_n C 0 dX10_isPullback_24 rfl rfl ?_
        refine g_iload C 4 dX10_isPullback_25 rfl ?_
        obtain ⟨r27, hr27, hm⟩ := bnd_some hm
        refine g_callVi (As := [vI l4]) (rest := []) C lk_X10_169 (k_X10_isArrow X.2.1 G hl hG fu l4 r18.2 r27 hk0 hr27) (by decide) rfl rfl rfl (Nat.le_of_ble_eq_true rfl) ⟨Nat.le_of_ble_eq_true rfl, Nat.le_of_ble_eq_true rfl⟩ dX10_isPullback_27 ?_
        refine g_if_eq (tgt := 37) C dX10_isPullback_30 (by decide) (fun h30 => ?_) (fun h30 => ?_)
        · have hm := ift hm h30
          exact g_sub [0, 1, 2, 3, 4] rfl (g_pc rfl (J37 l1 l2 l3 l4 r27.2 hm))
        · have hm := ife hm h30
          refine g_iconst (v := 1) C dX10_isPullback_33 rfl ?_
          refine g_goto (tgt := 38) C dX10_isPullback_34 (by decide) ?_
          exact g_sub [0, 1, 2, 3, 4] rfl (g_pc rfl (J38 l1 l2 l3 l4 (1 : Int32) r27.2 hm))
def f_X10_isEqualizer_j181 (fu : Nat)  (l1 : Int32) (l2 : Int32) (l3 : Int32) (l7 : Int32) (t0 : Int32) (M : Mem) : Option ((Int32 × Int32 × Mem) ⊕ (Int32 × Mem)) :=
  some (Sum.inl (t0, l7 + (1 : Int32), M))
def f_X10_isEqualizer_b128 (fu : Nat)  (l1 : Int32) (l2 : Int32) (l3 : Int32) (l6 : Int32) (l7 : Int32) (M : Mem) : Option ((Int32 × Int32 × Mem) ⊕ (Int32 × Mem)) :=
  if l6 = 0 then some (Sum.inr (l6, M)) else if inb l1 (alen 22 3) then if inb (M.1 22 3 l1.toNatClampNeg) (alen 22 6) then if (M.1 22 6 (M.1 22 3 l1.toNatClampNeg).toNatClampNeg) ≤ l7 then some (Sum.inr (l6, M)) else (f_X10_value fu l1 l7 M).bind (fun r155 => (f_X10_value fu l2 r155.1 r155.2).bind (fun r158 => (f_X10_value fu l1 l7 r158.2).bind (fun r167 => (f_X10_value fu l3 r167.1 r167.2).bind (fun r170 => if r158.1 = r170.1 then f_X10_isEqualizer_j181 fu l1 l2 l3 l7 (1 : Int32) r170.2 else f_X10_isEqualizer_j181 fu l1 l2 l3 l7 (0 : Int32) r170.2)))) else none else none
def f_X10_isEqualizer_j249 (fu : Nat)  (l1 : Int32) (l2 : Int32) (l3 : Int32) (l7 : Int32) (t0 : Int32) (M : Mem) : Option ((Int32 × Int32 × Mem) ⊕ (Int32 × Mem)) :=
  some (Sum.inl (t0, l7 + (1 : Int32), M))
def f_X10_isEqualizer_j244 (fu : Nat)  (l1 : Int32) (l2 : Int32) (l3 : Int32) (l7 : Int32) (M : Mem) : Option ((Int32 × Int32 × Mem) ⊕ (Int32 × Mem)) :=
  f_X10_isEqualizer_j249 fu l1 l2 l3 l7 (1 : Int32) M
def f_X10_isEqualizer_b192 (fu : Nat)  (l1 : Int32) (l2 : Int32) (l3 : Int32) (l6 : Int32) (l7 : Int32) (M : Mem) : Option ((Int32 × Int32 × Mem) ⊕ (Int32 × Mem)) :=
  if l6 = 0 then some (Sum.inr (l6, M)) else if inb l1 (alen 22 4) then if inb (M.1 22 4 l1.toNatClampNeg) (alen 22 6) then if (M.1 22 6 (M.1 22 4 l1.toNatClampNeg).toNatClampNeg) ≤ l7 then some (Sum.inr (l6, M)) else (f_X10_value fu l2 l7 M).bind (fun r217 => (f_X10_value fu l3 l7 r217.2).bind (fun r224 => if r217.1 = r224.1 then (f_X10_hits fu l1 l1 l7 l7 r224.2).bind (fun r237 => if r237.1 = (1 : Int32) then f_X10_isEqualizer_j244 fu l1 l2 l3 l7 r237.2 else f_X10_isEqualizer_j249 fu l1 l2 l3 l7 (0 : Int32) r237.2) else f_X10_isEqualizer_j244 fu l1 l2 l3 l7 r224.2)) else none else none
def f_X10_isEqualizer_h192 (fu : Nat)   (l1 : Int32) (l2 : Int32) (l3 : Int32) (l6 : Int32) (l7 : Int32) (M : Mem) : Option (Int32 × Mem) :=
  (lp_run (fun s => f_X10_isEqualizer_b192 fu  l1 l2 l3 s.1 s.2.1 s.2.2) fu (l6, l7, M)).bind (fun r192 => match r192 with
    | (l6, M) => if l6 = 0 ∨ l6 = 1 then some (l6, M) else none)
def f_X10_isEqualizer_j189 (fu : Nat)   (l1 : Int32) (l2 : Int32) (l3 : Int32) (l6 : Int32) (M : Mem) : Option (Int32 × Mem) :=
  f_X10_isEqualizer_h192 fu l1 l2 l3 l6 (0 : Int32) M
def f_X10_isEqualizer_h128 (fu : Nat)   (l1 : Int32) (l2 : Int32) (l3 : Int32) (l6 : Int32) (l7 : Int32) (M : Mem) : Option (Int32 × Mem) :=
  (lp_run (fun s => f_X10_isEqualizer_b128 fu  l1 l2 l3 s.1 s.2.1 s.2.2) fu (l6, l7, M)).bind (fun r128 => match r128 with
    | (l6, M) => f_X10_isEqualizer_j189 fu l1 l2 l3 l6 M)
def f_X10_isEqualizer_j123 (fu : Nat)   (l1 : Int32) (l2 : Int32) (l3 : Int32) (t0 : Int32) (M : Mem) : Option (Int32 × Mem) :=
  f_X10_isEqualizer_h128 fu l1 l2 l3 t0 (0 : Int32) M
def f_X10_isEqualizer_j108 (fu : Nat)   (l1 : Int32) (l2 : Int32) (l3 : Int32) (t1 : Int32) (M : Mem) : Option (Int32 × Mem) :=
  if ((mI M 10 0 0 t1).1 10 0 0) = 0 then f_X10_isEqualizer_j123 fu l1 l2 l3 (1 : Int32) (mI M 10 0 0 t1) else f_X10_isEqualizer_j123 fu l1 l2 l3 (0 : Int32) (mI M 10 0 0 t1)
def f_X10_isEqualizer_j86 (fu : Nat)   (l1 : Int32) (l2 : Int32) (l3 : Int32) (l4 : Int32) (t0 : Int32) (M : Mem) : Option (Int32 × Mem) :=
  if l4 = 0 then f_X10_isEqualizer_j108 fu l1 l2 l3 (1 : Int32) M else if t0 = 0 then f_X10_isEqualizer_j108 fu l1 l2 l3 (2 : Int32) M else f_X10_isEqualizer_j108 fu l1 l2 l3 (0 : Int32) M
def f_X10_isEqualizer_j85 (fu : Nat)   (l1 : Int32) (l2 : Int32) (l3 : Int32) (l4 : Int32) (M : Mem) : Option (Int32 × Mem) :=
  f_X10_isEqualizer_j86 fu l1 l2 l3 l4 (0 : Int32) M
def f_X10_isEqualizer_j29 (fu : Nat)   (l1 : Int32) (l2 : Int32) (l3 : Int32) (t0 : Int32) (M : Mem) : Option (Int32 × Mem) :=
  if t0 = 0 then f_X10_isEqualizer_j85 fu l1 l2 l3 t0 M else if inb l2 (alen 22 3) then if inb l1 (alen 22 4) then if (M.1 22 3 l2.toNatClampNeg) = (M.1 22 4 l1.toNatClampNeg) then if inb l3 (alen 22 3) then if inb l2 (alen 22 3) then if (M.1 22 3 l3.toNatClampNeg) = (M.1 22 3 l2.toNatClampNeg) then if inb l3 (alen 22 4) then if inb l2 (alen 22 4) then if (M.1 22 4 l3.toNatClampNeg) = (M.1 22 4 l2.toNatClampNeg) then f_X10_isEqualizer_j86 fu l1 l2 l3 t0 (1 : Int32) M else f_X10_isEqualizer_j85 fu l1 l2 l3 t0 M else none else none else f_X10_isEqualizer_j85 fu l1 l2 l3 t0 M else none else none else f_X10_isEqualizer_j85 fu l1 l2 l3 t0 M else none else none
def f_X10_isEqualizer_j28 (fu : Nat)   (l1 : Int32) (l2 : Int32) (l3 : Int32) (M : Mem) : Option (Int32 × Mem) :=
  f_X10_isEqualizer_j29 fu l1 l2 l3 (0 : Int32) M
def f_X10_isEqualizer (fu : Nat) (l1 : Int32) (l2 : Int32) (l3 : Int32) (M : Mem) : Option (Int32 × Mem) :=
  (f_X10_isArrow fu l1 M).bind (fun r2 => if r2.1 = 0 then f_X10_isEqualizer_j28 fu l1 l2 l3 r2.2 else (f_X10_isArrow fu l2 r2.2).bind (fun r10 => if r10.1 = 0 then f_X10_isEqualizer_j28 fu l1 l2 l3 r10.2 else (f_X10_isArrow fu l3 r10.2).bind (fun r18 => if r18.1 = 0 then f_X10_isEqualizer_j28 fu l1 l2 l3 r18.2 else f_X10_isEqualizer_j29 fu l1 l2 l3 (1 : Int32) r18.2)))
set_option maxHeartbeats 4000000 in
set_option maxRecDepth 100000 in
theorem k_X10_isEqualizer (l : Launch) (G : GE) (hl : l.stackTraces = false) (hG : GOK G) (fu : Nat) (l1 : Int32) (l2 : Int32) (l3 : Int32) (M : Mem) (res : Int32 × Mem) (hk0 : (10, 0) ∈ gids G) (hm : f_X10_isEqualizer fu l1 l2 l3 M = some res) : CT l G yX10_isEqualizer cX10_isEqualizer 8 (some .boolean) 2 [vR 10 0, vI l1, vI l2, vI l3] M (.inl (some (vI res.1))) res.2 := by
  refine ct_of [(0, vR 10 0), (1, vI l1), (2, vI l2), (3, vI l3)] (by decide +kernel) hl hG (Nat.le_of_ble_eq_true rfl) rfl (List.forall_mem_cons.mpr ⟨Or.inl hk0, List.forall_mem_cons.mpr ⟨trivial, List.forall_mem_cons.mpr ⟨trivial, List.forall_mem_cons.mpr ⟨trivial, fun _ h => nomatch h⟩⟩⟩⟩) (List.forall_mem_cons.mpr ⟨Or.inl hk0, List.forall_mem_cons.mpr ⟨trivial, List.forall_mem_cons.mpr ⟨trivial, List.forall_mem_cons.mpr ⟨trivial, fun _ h => nomatch h⟩⟩⟩⟩) (fun X hX C => ?_)
  subst hX
  have Cl := C
  have J192 : ∀ (l1 : Int32) (l2 : Int32) (l3 : Int32) (l6 : Int32) (l7 : Int32) (M : Mem), f_X10_isEqualizer_h192 fu   l1 l2 l3 l6 l7 M = some res → GW G X 8 (QX G X (.inl (some (vI res.1))) res.2) 192 [(0, vR 10 0), (1, vI l1), (2, vI l2), (3, vI l3), (6, vI l6), (7, vI l7)] [] M := by
    intro l1 l2 l3 l6 l7 M hm
    unfold f_X10_isEqualizer_h192 at hm
    obtain ⟨r192, hL192, hk192⟩ := bnd_some hm
    have hx192 : ∀ (l6 : Int32) (M : Mem), (l6, M) = r192 → GW G X 8 (QX G X (.inl (some (vI res.1))) res.2) 257 [(6, vI l6)] [] M := by
      intro l6 M he
      subst he
      have hm := hk192
      try dsimp only at hm
      refine g_iload C 0 dX10_isEqualizer_257 rfl ?_
      obtain ⟨hz259, hm⟩ := ifn hm
      obtain rfl := Option.some.inj hm
      exact g_zret C hz259 dX10_isEqualizer_259
    refine lp_ind2 (P := (fun l6 l7 M => GW G X 8 (QX G X (.inl (some (vI res.1))) res.2) 192 [(0, vR 10 0), (1, vI l1), (2, vI l2), (3, vI l3), (6, vI l6), (7, vI l7)] [] M)) (r := r192) ?_ fu l6 l7 M hL192
    intro l6 l7 M o192 hm K192
    have J249 : ∀ (l7 : Int32) (t0 : Int32) (M : Mem), f_X10_isEqualizer_j249 fu  l1 l2 l3 l7 t0 M = some o192 → GW G X 8 (QX G X (.inl (some (vI res.1))) res.2) 249 [(0, vR 10 0), (1, vI l1), (2, vI l2), (3, vI l3), (7, vI l7)] [vI t0] M := by
      intro l7 t0 M hm
      unfold f_X10_isEqualizer_j249 at hm
      refine g_istore (ls' := [(6, vI t0), (0, vR 10 0), (1, vI l1), (2, vI l2), (3, vI l3), (7, vI l7)]) C dX10_isEqualizer_249 (by decide) rfl ?_
      refine g_iinc (ls' := [(7, vI (l7 + (1 : Int32))), (6, vI t0), (0, vR 10 0), (1, vI l1), (2, vI l2), (3, vI l3)]) (v := l7 + (1 : Int32)) C 5 dX10_isEqualizer_251 rfl (iv_p1 _) (by decide) rfl ?_
      refine g_goto (tgt := 192) C dX10_isEqualizer_254 (by decide) ?_
      obtain rfl := Option.some.inj hm
      exact g_sub [2, 3, 4, 5, 1, 0] rfl (g_pc rfl (K192.1 t0 (l7 + (1 : Int32)) M rfl))
    have J244 : ∀ (l7 : Int32) (M : Mem), f_X10_isEqualizer_j244 fu  l1 l2 l3 l7 M = some o192 → GW G X 8 (QX G X (.inl (some (vI res.1))) res.2) 244 [(0, vR 10 0), (1, vI l1), (2, vI l2), (3, vI l3), (7, vI l7)] [] M := by
      intro l7 M hm
      unfold f_X10_isEqualizer_j244 at hm
      refine g_iconst (v := 1) C dX10_isEqualizer_244 rfl ?_
      refine g_goto (tgt := 249) C dX10_isEqualizer_245 (by decide) ?_
      exact g_sub [0, 1, 2, 3, 4] rfl (g_pc rfl (J249 l7 (1 : Int32) M hm))
    unfold f_X10_isEqualizer_b192 at hm
    refine g_iload C 4 dX10_isEqualizer_192 rfl ?_
    refine g_if_eq (tgt := 257) C dX10_isEqualizer_194 (by decide) (fun h194 => ?_) (fun h194 => ?_)
    · have hm := ift hm h194
      obtain rfl := Option.some.inj hm
      exact g_sub [4] rfl (g_pc rfl (hx192 l6 M (K192.2 _ rfl)))
    · have hm := ife hm h194
      refine g_iload C 5 dX10_isEqualizer_197 rfl ?_
      refine g_aload_n C 0 dX10_isEqualizer_199 rfl rfl ?_
      refine g_getr (k := 0) (k' := 6) C (by decide) kf_X10_23 rfl rfl dX10_isEqualizer_200 ?_
      refine g_aload_n C 0 dX10_isEqualizer_203 rfl rfl ?_
      refine g_getr (k := 0) (k' := 4) C (by decide) kf_X10_17 rfl rfl dX10_isEqualizer_204 ?_
      refine g_iload_n C 1 dX10_isEqualizer_207 rfl rfl ?_
      obtain ⟨hi208, hm⟩ := ifn hm
      refine g_iald C (by decide) hi208 dX10_isEqualizer_208 ?_
      obtain ⟨hi209, hm⟩ := ifn hm
      refine g_iald C (by decide) hi209 dX10_isEqualizer_209 ?_
      refine g_icmp_ge (tgt := 257) C dX10_isEqualizer_210 (by decide) (fun h210 => ?_) (fun h210 => ?_)
      · have hm := ift hm h210
        obtain rfl := Option.some.inj hm
        exact g_sub [4] rfl (g_pc rfl (hx192 l6 M (K192.2 _ rfl)))
      · have hm := ife hm h210
        refine g_aload_n C 0 dX10_isEqualizer_213 rfl rfl ?_
        refine g_iload_n C 2 dX10_isEqualizer_214 rfl rfl ?_
        refine g_iload C 5 dX10_isEqualizer_215 rfl ?_
        obtain ⟨r217, hr217, hm⟩ := bnd_some hm
        refine g_callVi (As := [vI l2, vI l7]) (rest := []) C lk_X10_208 (k_X10_value X.2.1 G hl hG fu l2 l7 M r217 hk0 hr217) (by decide) rfl rfl rfl (Nat.le_of_ble_eq_true rfl) ⟨Nat.le_of_ble_eq_true rfl, Nat.le_of_ble_eq_true rfl⟩ dX10_isEqualizer_217 ?_
        refine g_aload_n C 0 dX10_isEqualizer_220 rfl rfl ?_
        refine g_iload_n C 3 dX10_isEqualizer_221 rfl rfl ?_
        refine g_iload C 5 dX10_isEqualizer_222 rfl ?_
        obtain ⟨r224, hr224, hm⟩ := bnd_some hm
        refine g_callVi (As := [vI l3, vI l7]) (rest := [vI r217.1]) C lk_X10_208 (k_X10_value X.2.1 G hl hG fu l3 l7 r217.2 r224 hk0 hr224) (by decide) rfl rfl rfl (Nat.le_of_ble_eq_true rfl) ⟨Nat.le_of_ble_eq_true rfl, Nat.le_of_ble_eq_true rfl⟩ dX10_isEqualizer_224 ?_
        refine g_icmp_ne (tgt := 244) C dX10_isEqualizer_227 (by decide) (fun h227 => ?_) (fun h227 => ?_)
        · have hm := ife hm h227
          exact g_sub [0, 1, 2, 3, 5] rfl (g_pc rfl (J244 l7 r224.2 hm))
        · have hm := ift hm h227
          refine g_aload_n C 0 dX10_isEqualizer_230 rfl rfl ?_
          refine g_iload_n C 1 dX10_isEqualizer_231 rfl rfl ?_
          refine g_iload_n C 1 dX10_isEqualizer_232 rfl rfl ?_
          refine g_iload C 5 dX10_isEqualizer_233 rfl ?_
          refine g_iload C 5 dX10_isEqualizer_235 rfl ?_
          obtain ⟨r237, hr237, hm⟩ := bnd_some hm
          refine g_callVi (As := [vI l1, vI l1, vI l7, vI l7]) (rest := []) C lk_X10_274 (k_X10_hits X.2.1 G hl hG fu l1 l1 l7 l7 r224.2 r237 hk0 hr237) (by decide) rfl rfl rfl (Nat.le_of_ble_eq_true rfl) ⟨Nat.le_of_ble_eq_true rfl, Nat.le_of_ble_eq_true rfl⟩ dX10_isEqualizer_237 ?_
          refine g_iconst (v := 1) C dX10_isEqualizer_240 rfl ?_
          refine g_icmp_ne (tgt := 248) C dX10_isEqualizer_241 (by decide) (fun h241 => ?_) (fun h241 => ?_)
          · have hm := ife hm h241
            refine g_iconst (v := 0) C dX10_isEqualizer_248 rfl ?_
            exact g_sub [0, 1, 2, 3, 5] rfl (g_pc rfl (J249 l7 (0 : Int32) r237.2 hm))
          · have hm := ift hm h241
            exact g_sub [0, 1, 2, 3, 5] rfl (g_pc rfl (J244 l7 r237.2 hm))
  have J189 : ∀ (l1 : Int32) (l2 : Int32) (l3 : Int32) (l6 : Int32) (M : Mem), f_X10_isEqualizer_j189 fu   l1 l2 l3 l6 M = some res → GW G X 8 (QX G X (.inl (some (vI res.1))) res.2) 189 [(0, vR 10 0), (1, vI l1), (2, vI l2), (3, vI l3), (6, vI l6)] [] M := by
    intro l1 l2 l3 l6 M hm
    unfold f_X10_isEqualizer_j189 at hm
    refine g_iconst (v := 0) C dX10_isEqualizer_189 rfl ?_
    refine g_istore (ls' := [(7, vI (0 : Int32)), (0, vR 10 0), (1, vI l1), (2, vI l2), (3, vI l3), (6, vI l6)]) C dX10_isEqualizer_190 (by decide) rfl ?_
    exact g_sub [1, 2, 3, 4, 5, 0] rfl (g_pc rfl (J192 l1 l2 l3 l6 (0 : Int32) M hm))
  have J128 : ∀ (l1 : Int32) (l2 : Int32) (l3 : Int32) (l6 : Int32) (l7 : Int32) (M : Mem), f_X10_isEqualizer_h128 fu   l1 l2 l3 l6 l7 M = some res → GW G X 8 (QX G X (.inl (some (vI res.1))) res.2) 128 [(0, vR 10 0), (1, vI l1), (2, vI l2), (3, vI l3), (6, vI l6), (7, vI l7)] [] M := by
    intro l1 l2 l3 l6 l7 M hm
    unfold f_X10_isEqualizer_h128 at hm
    obtain ⟨r128, hL128, hk128⟩ := bnd_some hm
    have hx128 : ∀ (l6 : Int32) (M : Mem), (l6, M) = r128 → GW G X 8 (QX G X (.inl (some (vI res.1))) res.2) 189 [(0, vR 10 0), (1, vI l1), (2, vI l2), (3, vI l3), (6, vI l6)] [] M := by
      intro l6 M he
      subst he
      have hm := hk128
      try dsimp only at hm
      exact g_sub [0, 1, 2, 3, 4] rfl (g_pc rfl (J189 l1 l2 l3 l6 M hm))
    refine lp_ind2 (P := (fun l6 l7 M => GW G X 8 (QX G X (.inl (some (vI res.1))) res.2) 128 [(0, vR 10 0), (1, vI l1), (2, vI l2), (3, vI l3), (6, vI l6), (7, vI l7)] [] M)) (r := r128) ?_ fu l6 l7 M hL128
    intro l6 l7 M o128 hm K128
    have J181 : ∀ (l7 : Int32) (t0 : Int32) (M : Mem), f_X10_isEqualizer_j181 fu  l1 l2 l3 l7 t0 M = some o128 → GW G X 8 (QX G X (.inl (some (vI res.1))) res.2) 181 [(0, vR 10 0), (1, vI l1), (2, vI l2), (3, vI l3), (7, vI l7)] [vI t0] M := by
      intro l7 t0 M hm
      unfold f_X10_isEqualizer_j181 at hm
      refine g_istore (ls' := [(6, vI t0), (0, vR 10 0), (1, vI l1), (2, vI l2), (3, vI l3), (7, vI l7)]) C dX10_isEqualizer_181 (by decide) rfl ?_
      refine g_iinc (ls' := [(7, vI (l7 + (1 : Int32))), (6, vI t0), (0, vR 10 0), (1, vI l1), (2, vI l2), (3, vI l3)]) (v := l7 + (1 : Int32)) C 5 dX10_isEqualizer_183 rfl (iv_p1 _) (by decide) rfl ?_
      refine g_goto (tgt := 128) C dX10_isEqualizer_186 (by decide) ?_
      obtain rfl := Option.some.inj hm
      exact g_sub [2, 3, 4, 5, 1, 0] rfl (g_pc rfl (K128.1 t0 (l7 + (1 : Int32)) M rfl))
    unfold f_X10_isEqualizer_b128 at hm
    refine g_iload C 4 dX10_isEqualizer_128 rfl ?_
    refine g_if_eq (tgt := 189) C dX10_isEqualizer_130 (by decide) (fun h130 => ?_) (fun h130 => ?_)
    · have hm := ift hm h130
      obtain rfl := Option.some.inj hm
      exact g_sub [0, 1, 2, 3, 4] rfl (g_pc rfl (hx128 l6 M (K128.2 _ rfl)))
    · have hm := ife hm h130
      refine g_iload C 5 dX10_isEqualizer_133 rfl ?_
      refine g_aload_n C 0 dX10_isEqualizer_135 rfl rfl ?_
      refine g_getr (k := 0) (k' := 6) C (by decide) kf_X10_23 rfl rfl dX10_isEqualizer_136 ?_
      refine g_aload_n C 0 dX10_isEqualizer_139 rfl rfl ?_
      refine g_getr (k := 0) (k' := 3) C (by decide) kf_X10_13 rfl rfl dX10_isEqualizer_140 ?_
      refine g_iload_n C 1 dX10_isEqualizer_143 rfl rfl ?_
      obtain ⟨hi144, hm⟩ := ifn hm
      refine g_iald C (by decide) hi144 dX10_isEqualizer_144 ?_
      obtain ⟨hi145, hm⟩ := ifn hm
      refine g_iald C (by decide) hi145 dX10_isEqualizer_145 ?_
      refine g_icmp_ge (tgt := 189) C dX10_isEqualizer_146 (by decide) (fun h146 => ?_) (fun h146 => ?_)
      · have hm := ift hm h146
        obtain rfl := Option.some.inj hm
        exact g_sub [0, 1, 2, 3, 4] rfl (g_pc rfl (hx128 l6 M (K128.2 _ rfl)))
      · have hm := ife hm h146
        refine g_aload_n C 0 dX10_isEqualizer_149 rfl rfl ?_
        refine g_iload_n C 2 dX10_isEqualizer_150 rfl rfl ?_
        refine g_aload_n C 0 dX10_isEqualizer_151 rfl rfl ?_
        refine g_iload_n C 1 dX10_isEqualizer_152 rfl rfl ?_
        refine g_iload C 5 dX10_isEqualizer_153 rfl ?_
        obtain ⟨r155, hr155, hm⟩ := bnd_some hm
        refine g_callVi (As := [vI l1, vI l7]) (rest := [vI l2, vR 10 0]) C lk_X10_208 (k_X10_value X.2.1 G hl hG fu l1 l7 M r155 hk0 hr155) (by decide) rfl rfl rfl (Nat.le_of_ble_eq_true rfl) ⟨Nat.le_of_ble_eq_true rfl, Nat.le_of_ble_eq_true rfl⟩ dX10_isEqualizer_155 ?_
        obtain ⟨r158, hr158, hm⟩ := bnd_some hm
        refine g_callVi (As := [vI l2, vI r155.1]) (rest := []) C lk_X10_208 (k_X10_value X.2.1 G hl hG fu l2 r155.1 r155.2 r158 hk0 hr158) (by decide) rfl rfl rfl (Nat.le_of_ble_eq_true rfl) ⟨Nat.le_of_ble_eq_true rfl, Nat.le_of_ble_eq_true rfl⟩ dX10_isEqualizer_158 ?_
        refine g_aload_n C 0 dX10_isEqualizer_161 rfl rfl ?_
        refine g_iload_n C 3 dX10_isEqualizer_162 rfl rfl ?_
        refine g_aload_n C 0 dX10_isEqualizer_163 rfl rfl ?_
        refine g_iload_n C 1 dX10_isEqualizer_164 rfl rfl ?_
        refine g_iload C 5 dX10_isEqualizer_165 rfl ?_
        obtain ⟨r167, hr167, hm⟩ := bnd_some hm
        refine g_callVi (As := [vI l1, vI l7]) (rest := [vI l3, vR 10 0, vI r158.1]) C lk_X10_208 (k_X10_value X.2.1 G hl hG fu l1 l7 r158.2 r167 hk0 hr167) (by decide) rfl rfl rfl (Nat.le_of_ble_eq_true rfl) ⟨Nat.le_of_ble_eq_true rfl, Nat.le_of_ble_eq_true rfl⟩ dX10_isEqualizer_167 ?_
        obtain ⟨r170, hr170, hm⟩ := bnd_some hm
        refine g_callVi (As := [vI l3, vI r167.1]) (rest := [vI r158.1]) C lk_X10_208 (k_X10_value X.2.1 G hl hG fu l3 r167.1 r167.2 r170 hk0 hr170) (by decide) rfl rfl rfl (Nat.le_of_ble_eq_true rfl) ⟨Nat.le_of_ble_eq_true rfl, Nat.le_of_ble_eq_true rfl⟩ dX10_isEqualizer_170 ?_
        refine g_icmp_ne (tgt := 180) C dX10_isEqualizer_173 (by decide) (fun h173 => ?_) (fun h173 => ?_)
        · have hm := ife hm h173
          refine g_iconst (v := 0) C dX10_isEqualizer_180 rfl ?_
          exact g_sub [0, 1, 2, 3, 5] rfl (g_pc rfl (J181 l7 (0 : Int32) r170.2 hm))
        · have hm := ift hm h173
          refine g_iconst (v := 1) C dX10_isEqualizer_176 rfl ?_
          refine g_goto (tgt := 181) C dX10_isEqualizer_177 (by decide) ?_
          exact g_sub [0, 1, 2, 3, 5] rfl (g_pc rfl (J181 l7 (1 : Int32) r170.2 hm))
  have J123 : ∀ (l1 : Int32) (l2 : Int32) (l3 : Int32) (t0 : Int32) (M : Mem), f_X10_isEqualizer_j123 fu   l1 l2 l3 t0 M = some res → GW G X 8 (QX G X (.inl (some (vI res.1))) res.2) 123 [(0, vR 10 0), (1, vI l1), (2, vI l2), (3, vI l3)] [vI t0] M := by
    intro l1 l2 l3 t0 M hm
    unfold f_X10_isEqualizer_j123 at hm
    refine g_istore (ls' := [(6, vI t0), (0, vR 10 0), (1, vI l1), (2, vI l2), (3, vI l3)]) C dX10_isEqualizer_123 (by decide) rfl ?_
    refine g_iconst (v := 0) C dX10_isEqualizer_125 rfl ?_
    refine g_istore (ls' := [(7, vI (0 : Int32)), (6, vI t0), (0, vR 10 0), (1, vI l1), (2, vI l2), (3, vI l3)]) C dX10_isEqualizer_126 (by decide) rfl ?_
    exact g_sub [2, 3, 4, 5, 1, 0] rfl (g_pc rfl (J128 l1 l2 l3 t0 (0 : Int32) M hm))
  have J108 : ∀ (l1 : Int32) (l2 : Int32) (l3 : Int32) (t1 : Int32) (M : Mem), f_X10_isEqualizer_j108 fu   l1 l2 l3 t1 M = some res → GW G X 8 (QX G X (.inl (some (vI res.1))) res.2) 108 [(0, vR 10 0), (1, vI l1), (2, vI l2), (3, vI l3)] [vI t1, vR 10 0] M := by
    intro l1 l2 l3 t1 M hm
    unfold f_X10_isEqualizer_j108 at hm
    refine g_puti C (by decide) kf_X10_72 rfl rfl rfl dX10_isEqualizer_108 ?_
    refine g_aload_n C 0 dX10_isEqualizer_111 rfl rfl ?_
    refine g_geti (k := 0) C (by decide) kf_X10_72 rfl dX10_isEqualizer_112 ?_
    refine g_if_ne (tgt := 122) C dX10_isEqualizer_115 (by decide) (fun h115 => ?_) (fun h115 => ?_)
    · have hm := ife hm h115
      refine g_iconst (v := 0) C dX10_isEqualizer_122 rfl ?_
      exact g_sub [0, 1, 2, 3] rfl (g_pc rfl (J123 l1 l2 l3 (0 : Int32) (mI M 10 0 0 t1) hm))
    · have hm := ift hm h115
      refine g_iconst (v := 1) C dX10_isEqualizer_118 rfl ?_
      refine g_goto (tgt := 123) C dX10_isEqualizer_119 (by decide) ?_
      exact g_sub [0, 1, 2, 3] rfl (g_pc rfl (J123 l1 l2 l3 (1 : Int32) (mI M 10 0 0 t1) hm))
  have J86 : ∀ (l1 : Int32) (l2 : Int32) (l3 : Int32) (l4 : Int32) (t0 : Int32) (M : Mem), f_X10_isEqualizer_j86 fu   l1 l2 l3 l4 t0 M = some res → GW G X 8 (QX G X (.inl (some (vI res.1))) res.2) 86 [(0, vR 10 0), (1, vI l1), (2, vI l2), (3, vI l3), (4, vI l4)] [vI t0] M := by
    intro l1 l2 l3 l4 t0 M hm
    unfold f_X10_isEqualizer_j86 at hm
    refine g_istore (ls' := [(5, vI t0), (0, vR 10 0), (1, vI l1), (2, vI l2), (3, vI l3), (4, vI l4)]) C dX10_isEqualizer_86 (by decide) rfl ?_
    refine g_aload_n C 1 dX10_isEqualizer_88 rfl rfl ?_
    refine g_iload C 5 dX10_isEqualizer_89 rfl ?_
    refine g_if_ne (tgt := 98) C dX10_isEqualizer_91 (by decide) (fun h91 => ?_) (fun h91 => ?_)
    · have hm := ife hm h91
      refine g_iload C 0 dX10_isEqualizer_98 rfl ?_
      refine g_if_eq (tgt := 107) C dX10_isEqualizer_100 (by decide) (fun h100 => ?_) (fun h100 => ?_)
      · have hm := ift hm h100
        refine g_iconst (v := 2) C dX10_isEqualizer_107 rfl ?_
        exact g_sub [1, 2, 3, 4] rfl (g_pc rfl (J108 l1 l2 l3 (2 : Int32) M hm))
      · have hm := ife hm h100
        refine g_iconst (v := 0) C dX10_isEqualizer_103 rfl ?_
        refine g_goto (tgt := 108) C dX10_isEqualizer_104 (by decide) ?_
        exact g_sub [1, 2, 3, 4] rfl (g_pc rfl (J108 l1 l2 l3 (0 : Int32) M hm))
    · have hm := ift hm h91
      refine g_iconst (v := 1) C dX10_isEqualizer_94 rfl ?_
      refine g_goto (tgt := 108) C dX10_isEqualizer_95 (by decide) ?_
      exact g_sub [1, 2, 3, 4] rfl (g_pc rfl (J108 l1 l2 l3 (1 : Int32) M hm))
  have J85 : ∀ (l1 : Int32) (l2 : Int32) (l3 : Int32) (l4 : Int32) (M : Mem), f_X10_isEqualizer_j85 fu   l1 l2 l3 l4 M = some res → GW G X 8 (QX G X (.inl (some (vI res.1))) res.2) 85 [(0, vR 10 0), (1, vI l1), (2, vI l2), (3, vI l3), (4, vI l4)] [] M := by
    intro l1 l2 l3 l4 M hm
    unfold f_X10_isEqualizer_j85 at hm
    refine g_iconst (v := 0) C dX10_isEqualizer_85 rfl ?_
    exact g_sub [0, 1, 2, 3, 4] rfl (g_pc rfl (J86 l1 l2 l3 l4 (0 : Int32) M hm))
  have J29 : ∀ (l1 : Int32) (l2 : Int32) (l3 : Int32) (t0 : Int32) (M : Mem), f_X10_isEqualizer_j29 fu   l1 l2 l3 t0 M = some res → GW G X 8 (QX G X (.inl (some (vI res.1))) res.2) 29 [(0, vR 10 0), (1, vI l1), (2, vI l2), (3, vI l3)] [vI t0] M := by
    intro l1 l2 l3 t0 M hm
    unfold f_X10_isEqualizer_j29 at hm
    refine g_istore (ls' := [(4, vI t0), (0, vR 10 0), (1, vI l1), (2, vI l2), (3, vI l3)]) C dX10_isEqualizer_29 (by decide) rfl ?_
    refine g_iload C 0 dX10_isEqualizer_31 rfl ?_
    refine g_if_eq (tgt := 85) C dX10_isEqualizer_33 (by decide) (fun h33 => ?_) (fun h33 => ?_)
    · have hm := ift hm h33
      exact g_sub [1, 2, 3, 4, 0] rfl (g_pc rfl (J85 l1 l2 l3 t0 M hm))
    · have hm := ife hm h33
      refine g_aload_n C 1 dX10_isEqualizer_36 rfl rfl ?_
      refine g_getr (k := 0) (k' := 3) C (by decide) kf_X10_13 rfl rfl dX10_isEqualizer_37 ?_
      refine g_iload_n C 3 dX10_isEqualizer_40 rfl rfl ?_
      obtain ⟨hi41, hm⟩ := ifn hm
      refine g_iald C (by decide) hi41 dX10_isEqualizer_41 ?_
      refine g_aload_n C 1 dX10_isEqualizer_42 rfl rfl ?_
      refine g_getr (k := 0) (k' := 4) C (by decide) kf_X10_17 rfl rfl dX10_isEqualizer_43 ?_
      refine g_iload_n C 2 dX10_isEqualizer_46 rfl rfl ?_
      obtain ⟨hi47, hm⟩ := ifn hm
      refine g_iald C (by decide) hi47 dX10_isEqualizer_47 ?_
      refine g_icmp_ne (tgt := 85) C dX10_isEqualizer_48 (by decide) (fun h48 => ?_) (fun h48 => ?_)
      · have hm := ife hm h48
        exact g_sub [1, 2, 3, 4, 0] rfl (g_pc rfl (J85 l1 l2 l3 t0 M hm))
      · have hm := ift hm h48
        refine g_aload_n C 1 dX10_isEqualizer_51 rfl rfl ?_
        refine g_getr (k := 0) (k' := 3) C (by decide) kf_X10_13 rfl rfl dX10_isEqualizer_52 ?_
        refine g_iload_n C 4 dX10_isEqualizer_55 rfl rfl ?_
        obtain ⟨hi56, hm⟩ := ifn hm
        refine g_iald C (by decide) hi56 dX10_isEqualizer_56 ?_
        refine g_aload_n C 1 dX10_isEqualizer_57 rfl rfl ?_
        refine g_getr (k := 0) (k' := 3) C (by decide) kf_X10_13 rfl rfl dX10_isEqualizer_58 ?_
        refine g_iload_n C 3 dX10_isEqualizer_61 rfl rfl ?_
        obtain ⟨hi62, hm⟩ := ifn hm
        refine g_iald C (by decide) hi62 dX10_isEqualizer_62 ?_
        refine g_icmp_ne (tgt := 85) C dX10_isEqualizer_63 (by decide) (fun h63 => ?_) (fun h63 => ?_)
        · have hm := ife hm h63
          exact g_sub [1, 2, 3, 4, 0] rfl (g_pc rfl (J85 l1 l2 l3 t0 M hm))
        · have hm := ift hm h63
          refine g_aload_n C 1 dX10_isEqualizer_66 rfl rfl ?_
          refine g_getr (k := 0) (k' := 4) C (by decide) kf_X10_17 rfl rfl dX10_isEqualizer_67 ?_
          refine g_iload_n C 4 dX10_isEqualizer_70 rfl rfl ?_
          obtain ⟨hi71, hm⟩ := ifn hm
          refine g_iald C (by decide) hi71 dX10_isEqualizer_71 ?_
          refine g_aload_n C 1 dX10_isEqualizer_72 rfl rfl ?_
          refine g_getr (k := 0) (k' := 4) C (by decide) kf_X10_17 rfl rfl dX10_isEqualizer_73 ?_
          refine g_iload_n C 3 dX10_isEqualizer_76 rfl rfl ?_
          obtain ⟨hi77, hm⟩ := ifn hm
          refine g_iald C (by decide) hi77 dX10_isEqualizer_77 ?_
          refine g_icmp_ne (tgt := 85) C dX10_isEqualizer_78 (by decide) (fun h78 => ?_) (fun h78 => ?_)
          · have hm := ife hm h78
            exact g_sub [1, 2, 3, 4, 0] rfl (g_pc rfl (J85 l1 l2 l3 t0 M hm))
          · have hm := ift hm h78
            refine g_iconst (v := 1) C dX10_isEqualizer_81 rfl ?_
            refine g_goto (tgt := 86) C dX10_isEqualizer_82 (by decide) ?_
            exact g_sub [1, 2, 3, 4, 0] rfl (g_pc rfl (J86 l1 l2 l3 t0 (1 : Int32) M hm))
  have J28 : ∀ (l1 : Int32) (l2 : Int32) (l3 : Int32) (M : Mem), f_X10_isEqualizer_j28 fu   l1 l2 l3 M = some res → GW G X 8 (QX G X (.inl (some (vI res.1))) res.2) 28 [(0, vR 10 0), (1, vI l1), (2, vI l2), (3, vI l3)] [] M := by
    intro l1 l2 l3 M hm
    unfold f_X10_isEqualizer_j28 at hm
    refine g_iconst (v := 0) C dX10_isEqualizer_28 rfl ?_
    exact g_sub [0, 1, 2, 3] rfl (g_pc rfl (J29 l1 l2 l3 (0 : Int32) M hm))
  unfold f_X10_isEqualizer at hm
  refine g_aload_n C 0 dX10_isEqualizer_0 rfl rfl ?_
  refine g_iload_n C 1 dX10_isEqualizer_1 rfl rfl ?_
  obtain ⟨r2, hr2, hm⟩ := bnd_some hm
  refine g_callVi (As := [vI l1]) (rest := []) C lk_X10_169 (k_X10_isArrow X.2.1 G hl hG fu l1 M r2 hk0 hr2) (by decide) rfl rfl rfl (Nat.le_of_ble_eq_true rfl) ⟨Nat.le_of_ble_eq_true rfl, Nat.le_of_ble_eq_true rfl⟩ dX10_isEqualizer_2 ?_
  refine g_if_eq (tgt := 28) C dX10_isEqualizer_5 (by decide) (fun h5 => ?_) (fun h5 => ?_)
  · have hm := ift hm h5
    exact g_sub [0, 1, 2, 3] rfl (g_pc rfl (J28 l1 l2 l3 r2.2 hm))
  · have hm := ife hm h5
    refine g_aload_n C 0 dX10_isEqualizer_8 rfl rfl ?_
    refine g_iload_n C 2 dX10_isEqualizer_9 rfl rfl ?_
    obtain ⟨r10, hr10, hm⟩ := bnd_some hm
    refine g_callVi (As := [vI l2]) (rest := []) C lk_X10_169 (k_X10_isArrow X.2.1 G hl hG fu l2 r2.2 r10 hk0 hr10) (by decide) rfl rfl rfl (Nat.le_of_ble_eq_true rfl) ⟨Nat.le_of_ble_eq_true rfl, Nat.le_of_ble_eq_true rfl⟩ dX10_isEqualizer_10 ?_
    refine g_if_eq (tgt := 28) C dX10_isEqualizer_13 (by decide) (fun h13 => ?_) (fun h13 => ?_)
    · have hm := ift hm h13
      exact g_sub [0, 1, 2, 3] rfl (g_pc rfl (J28 l1 l2 l3 r10.2 hm))
    · have hm := ife hm h13
      refine g_aload_n C 0 dX10_isEqualizer_16 rfl rfl ?_
      refine g_iload_n C 3 dX10_isEqualizer_17 rfl rfl ?_
      obtain ⟨r18, hr18, hm⟩ := bnd_some hm
      refine g_callVi (As := [vI l3]) (rest := []) C lk_X10_169 (k_X10_isArrow X.2.1 G hl hG fu l3 r10.2 r18 hk0 hr18) (by decide) rfl rfl rfl (Nat.le_of_ble_eq_true rfl) ⟨Nat.le_of_ble_eq_true rfl, Nat.le_of_ble_eq_true rfl⟩ dX10_isEqualizer_18 ?_
      refine g_if_eq (tgt := 28) C dX10_isEqualizer_21 (by decide) (fun h21 => ?_) (fun h21 => ?_)
      · have hm := ift hm h21
        exact g_sub [0, 1, 2, 3] rfl (g_pc rfl (J28 l1 l2 l3 r18.2 hm))
      · have hm := ife hm h21
        refine g_iconst (v := 1) C dX10_isEqualizer_24 rfl ?_
        refine g_goto (tgt := 29) C dX10_isEqualizer_25 (by decide) ?_
        exact g_sub [0, 1, 2, 3] rfl (g_pc rfl (J29 l1 l2 l3 (1 : Int32) r18.2 hm))
def f_X10_mix (fu : Nat) (l1 : Int64) (M : Mem) : Option (Mem) :=
  some (mL M 10 0 31 (((31 : Int64) * (M.2 10 0 31)) + l1))
set_option maxHeartbeats 4000000 in
set_option maxRecDepth 100000 in
theorem k_X10_mix (l : Launch) (G : GE) (hl : l.stackTraces = false) (hG : GOK G) (fu : Nat) (l1 : Int64) (M : Mem) (res : Mem) (hk0 : (10, 0) ∈ gids G) (hm : f_X10_mix fu l1 M = some res) : CT l G yX10_mix cX10_mix 3 none 0 [vR 10 0, vL l1] M (.inl none) res := by
  refine ct_of [(0, vR 10 0), (1, vL l1)] (by decide +kernel) hl hG (Nat.le_of_ble_eq_true rfl) rfl (List.forall_mem_cons.mpr ⟨Or.inl hk0, List.forall_mem_cons.mpr ⟨trivial, fun _ h => nomatch h⟩⟩) (List.forall_mem_cons.mpr ⟨Or.inl hk0, List.forall_mem_cons.mpr ⟨trivial, fun _ h => nomatch h⟩⟩) (fun X hX C => ?_)
  subst hX
  have Cl := C
  unfold f_X10_mix at hm
  refine g_aload_n C 0 dX10_mix_0 rfl rfl ?_
  refine g_ldc2 (v := 31) C kc_X10_278 dX10_mix_1 ?_
  refine g_aload_n C 0 dX10_mix_4 rfl rfl ?_
  refine g_getl (k := 0) C (by decide) kf_X10_280 rfl dX10_mix_5 ?_
  refine g_lmul C dX10_mix_8 ?_
  refine g_lload_n C 1 dX10_mix_9 rfl rfl ?_
  refine g_ladd C dX10_mix_10 ?_
  refine g_putl C (by decide) kf_X10_280 rfl rfl rfl dX10_mix_11 ?_
  obtain rfl := Option.some.inj hm
  exact g_vret C dX10_mix_14
def f_X10_mixCells_j44 (fu : Nat)  (l1 : Int32) (l2 : Int32) (l3 : Int32) (t1 : Int64) (M : Mem) : Option ((Int32 × Mem) ⊕ (Mem)) :=
  (f_X10_mix fu t1 M).bind (fun r44 => some (Sum.inl (l3 + (1 : Int32), r44)))
def f_X10_mixCells_b17 (fu : Nat)  (l1 : Int32) (l2 : Int32) (l3 : Int32) (M : Mem) : Option ((Int32 × Mem) ⊕ (Mem)) :=
  if (5 : Int32) ≤ l3 then some (Sum.inr M) else if l3 = (3 : Int32) then f_X10_mixCells_j44 fu l1 l2 l3 (((l1 >>> (l2 &&& 31)) &&& (1 : Int32)).toInt64) M else (f_X10_cellNow fu l2 l3 M).bind (fun r40 => f_X10_mixCells_j44 fu l1 l2 l3 r40.1.toInt64 r40.2)
def f_X10_mixCells_h17 (fu : Nat)  (l1 : Int32) (l2 : Int32) (l3 : Int32) (M : Mem) : Option ((Int32 × Mem) ⊕ (Mem)) :=
  (lp_run (fun s => f_X10_mixCells_b17 fu  l1 l2 s.1 s.2) fu (l3, M)).bind (fun M => some (Sum.inl (l2 + (1 : Int32), M)))
def f_X10_mixCells_b7 (fu : Nat)  (l1 : Int32) (l2 : Int32) (M : Mem) : Option ((Int32 × Mem) ⊕ (Mem)) :=
  if (M.1 10 0 7) ≤ l2 then some (Sum.inr M) else f_X10_mixCells_h17 fu l1 l2 (0 : Int32) M
def f_X10_mixCells_h7 (fu : Nat)   (l1 : Int32) (l2 : Int32) (M : Mem) : Option (Mem) :=
  (lp_run (fun s => f_X10_mixCells_b7 fu  l1 s.1 s.2) fu (l2, M)).bind (fun M => some M)
def f_X10_mixCells (fu : Nat) (M : Mem) : Option (Mem) :=
  (f_X10_core fu  M).bind (fun r1 => f_X10_mixCells_h7 fu r1.1 (0 : Int32) r1.2)
set_option maxHeartbeats 4000000 in
set_option maxRecDepth 100000 in
theorem k_X10_mixCells (l : Launch) (G : GE) (hl : l.stackTraces = false) (hG : GOK G) (fu : Nat)  (M : Mem) (res : Mem) (hk0 : (10, 0) ∈ gids G) (hm : f_X10_mixCells fu  M = some res) : CT l G yX10_mixCells cX10_mixCells 4 none 7 [vR 10 0] M (.inl none) res := by
  refine ct_of [(0, vR 10 0)] (by decide +kernel) hl hG (Nat.le_of_ble_eq_true rfl) rfl (List.forall_mem_cons.mpr ⟨Or.inl hk0, fun _ h => nomatch h⟩) (List.forall_mem_cons.mpr ⟨Or.inl hk0, fun _ h => nomatch h⟩) (fun X hX C => ?_)
  subst hX
  have Cl := C
  have J7 : ∀ (l1 : Int32) (l2 : Int32) (M : Mem), f_X10_mixCells_h7 fu   l1 l2 M = some res → GW G X 4 (QX G X (.inl none) res) 7 [(0, vR 10 0), (1, vI l1), (2, vI l2)] [] M := by
    intro l1 l2 M hm
    unfold f_X10_mixCells_h7 at hm
    obtain ⟨r7, hL7, hk7⟩ := bnd_some hm
    have hx7 : ∀ (M : Mem), M = r7 → GW G X 4 (QX G X (.inl none) res) 59 [] [] M := by
      intro M he
      subst he
      have hm := hk7
      try dsimp only at hm
      obtain rfl := Option.some.inj hm
      exact g_vret C dX10_mixCells_59
    refine lp_ind1 (P := (fun l2 M => GW G X 4 (QX G X (.inl none) res) 7 [(0, vR 10 0), (1, vI l1), (2, vI l2)] [] M)) (r := r7) ?_ fu l2 M hL7
    intro l2 M o7 hm K7
    have J17 : ∀ (l2 : Int32) (l3 : Int32) (M : Mem), f_X10_mixCells_h17 fu  l1 l2 l3 M = some o7 → GW G X 4 (QX G X (.inl none) res) 17 [(0, vR 10 0), (1, vI l1), (2, vI l2), (3, vI l3)] [] M := by
      intro l2 l3 M hm
      unfold f_X10_mixCells_h17 at hm
      obtain ⟨r17, hL17, hk17⟩ := bnd_some hm
      have hx17 : ∀ (M : Mem), M = r17 → GW G X 4 (QX G X (.inl none) res) 53 [(0, vR 10 0), (1, vI l1), (2, vI l2)] [] M := by
        intro M he
        subst he
        have hm := hk17
        try dsimp only at hm
        refine g_iinc (ls' := [(2, vI (l2 + (1 : Int32))), (0, vR 10 0), (1, vI l1)]) (v := l2 + (1 : Int32)) C 2 dX10_mixCells_53 rfl (iv_p1 _) (by decide) rfl ?_
        refine g_goto (tgt := 7) C dX10_mixCells_56 (by decide) ?_
        obtain rfl := Option.some.inj hm
        exact g_sub [1, 2, 0] rfl (g_pc rfl (K7.1 (l2 + (1 : Int32)) M rfl))
      refine lp_ind1 (P := (fun l3 M => GW G X 4 (QX G X (.inl none) res) 17 [(0, vR 10 0), (1, vI l1), (2, vI l2), (3, vI l3)] [] M)) (r := r17) ?_ fu l3 M hL17
      intro l3 M o17 hm K17
      have J44 : ∀ (l3 : Int32) (t1 : Int64) (M : Mem), f_X10_mixCells_j44 fu  l1 l2 l3 t1 M = some o17 → GW G X 4 (QX G X (.inl none) res) 44 [(0, vR 10 0), (1, vI l1), (2, vI l2), (3, vI l3)] [vL t1, vR 10 0] M := by
        intro l3 t1 M hm
        unfold f_X10_mixCells_j44 at hm
        obtain ⟨r44, hr44, hm⟩ := bnd_some hm
        refine g_callVv (As := [vL t1]) (rest := []) C lk_X10_284 (k_X10_mix X.2.1 G hl hG fu t1 M r44 hk0 hr44) (by decide) rfl rfl rfl (Nat.le_of_ble_eq_true rfl) ⟨Nat.le_of_ble_eq_true rfl, Nat.le_of_ble_eq_true rfl⟩ dX10_mixCells_44 ?_
        refine g_iinc (ls' := [(3, vI (l3 + (1 : Int32))), (0, vR 10 0), (1, vI l1), (2, vI l2)]) (v := l3 + (1 : Int32)) C 3 dX10_mixCells_47 rfl (iv_p1 _) (by decide) rfl ?_
        refine g_goto (tgt := 17) C dX10_mixCells_50 (by decide) ?_
        obtain rfl := Option.some.inj hm
        exact g_sub [1, 2, 3, 0] rfl (g_pc rfl (K17.1 (l3 + (1 : Int32)) r44 rfl))
      unfold f_X10_mixCells_b17 at hm
      refine g_iload_n C 3 dX10_mixCells_17 rfl rfl ?_
      refine g_iconst (v := 5) C dX10_mixCells_18 rfl ?_
      refine g_icmp_ge (tgt := 53) C dX10_mixCells_19 (by decide) (fun h19 => ?_) (fun h19 => ?_)
      · have hm := ift hm h19
        obtain rfl := Option.some.inj hm
        exact g_sub [0, 1, 2] rfl (g_pc rfl (hx17 M (K17.2 _ rfl)))
      · have hm := ife hm h19
        refine g_aload_n C 0 dX10_mixCells_22 rfl rfl ?_
        refine g_iload_n C 3 dX10_mixCells_23 rfl rfl ?_
        refine g_iconst (v := 3) C dX10_mixCells_24 rfl ?_
        refine g_icmp_ne (tgt := 37) C dX10_mixCells_25 (by decide) (fun h25 => ?_) (fun h25 => ?_)
        · have hm := ife hm h25
          refine g_aload_n C 0 dX10_mixCells_37 rfl rfl ?_
          refine g_iload_n C 2 dX10_mixCells_38 rfl rfl ?_
          refine g_iload_n C 3 dX10_mixCells_39 rfl rfl ?_
          obtain ⟨r40, hr40, hm⟩ := bnd_some hm
          refine g_callVi (As := [vI l2, vI l3]) (rest := [vR 10 0]) C lk_X10_239 (k_X10_cellNow X.2.1 G hl hG fu l2 l3 M r40 hk0 hr40) (by decide) rfl rfl rfl (Nat.le_of_ble_eq_true rfl) ⟨Nat.le_of_ble_eq_true rfl, Nat.le_of_ble_eq_true rfl⟩ dX10_mixCells_40 ?_
          refine g_i2l C dX10_mixCells_43 ?_
          exact g_sub [0, 1, 2, 3] rfl (g_pc rfl (J44 l3 r40.1.toInt64 r40.2 hm))
        · have hm := ift hm h25
          refine g_iload_n C 1 dX10_mixCells_28 rfl rfl ?_
          refine g_iload_n C 2 dX10_mixCells_29 rfl rfl ?_
          refine g_ishr C dX10_mixCells_30 ?_
          refine g_iconst (v := 1) C dX10_mixCells_31 rfl ?_
          refine g_iand C dX10_mixCells_32 ?_
          refine g_i2l C dX10_mixCells_33 ?_
          refine g_goto (tgt := 44) C dX10_mixCells_34 (by decide) ?_
          exact g_sub [0, 1, 2, 3] rfl (g_pc rfl (J44 l3 (((l1 >>> (l2 &&& 31)) &&& (1 : Int32)).toInt64) M hm))
    unfold f_X10_mixCells_b7 at hm
    refine g_iload_n C 2 dX10_mixCells_7 rfl rfl ?_
    refine g_aload_n C 0 dX10_mixCells_8 rfl rfl ?_
    refine g_geti (k := 0) C (by decide) kf_X10_82 rfl dX10_mixCells_9 ?_
    refine g_icmp_ge (tgt := 59) C dX10_mixCells_12 (by decide) (fun h12 => ?_) (fun h12 => ?_)
    · have hm := ift hm h12
      obtain rfl := Option.some.inj hm
      exact g_sub [] rfl (g_pc rfl (hx7 M (K7.2 _ rfl)))
    · have hm := ife hm h12
      refine g_iconst (v := 0) C dX10_mixCells_15 rfl ?_
      refine g_istore_n (ls' := [(3, vI (0 : Int32)), (0, vR 10 0), (1, vI l1), (2, vI l2)]) C dX10_mixCells_16 rfl (by decide) rfl ?_
      exact g_sub [1, 2, 3, 0] rfl (g_pc rfl (J17 l2 (0 : Int32) M hm))
  unfold f_X10_mixCells at hm
  refine g_aload_n C 0 dX10_mixCells_0 rfl rfl ?_
  obtain ⟨r1, hr1, hm⟩ := bnd_some hm
  refine g_callVi (As := []) (rest := []) C lk_X10_233 (k_X10_core X.2.1 G hl hG fu  M r1 hk0 hr1) (by decide) rfl rfl rfl (Nat.le_of_ble_eq_true rfl) ⟨Nat.le_of_ble_eq_true rfl, Nat.le_of_ble_eq_true rfl⟩ dX10_mixCells_1 ?_
  refine g_istore_n (ls' := [(1, vI r1.1), (0, vR 10 0)]) C dX10_mixCells_4 rfl (by decide) rfl ?_
  refine g_iconst (v := 0) C dX10_mixCells_5 rfl ?_
  refine g_istore_n (ls' := [(2, vI (0 : Int32)), (1, vI r1.1), (0, vR 10 0)]) C dX10_mixCells_6 rfl (by decide) rfl ?_
  exact g_sub [2, 1, 0] rfl (g_pc rfl (J7 r1.1 (0 : Int32) r1.2 hm))
def f_X10_mixPaths_b11 (fu : Nat)   (l1 : Int32) (M : Mem) : Option ((Int32 × Mem) ⊕ (Mem)) :=
  if (M.1 10 0 13) ≤ l1 then some (Sum.inr M) else (f_X10_pathNow fu l1 (0 : Int32) M).bind (fun r23 => (f_X10_mix fu r23.1.toInt64 r23.2).bind (fun r27 => (f_X10_pathNow fu l1 (1 : Int32) r27).bind (fun r34 => (f_X10_mix fu r34.1.toInt64 r34.2).bind (fun r38 => (f_X10_pathNow fu l1 (3 : Int32) r38).bind (fun r45 => (f_X10_mix fu r45.1.toInt64 r45.2).bind (fun r49 => (f_X10_pathNow fu l1 (5 : Int32) r49).bind (fun r56 => (f_X10_mix fu r56.1.toInt64 r56.2).bind (fun r60 => some (Sum.inl (l1 + (1 : Int32), r60))))))))))
def f_X10_mixPaths_h11 (fu : Nat)   (l1 : Int32) (M : Mem) : Option (Mem) :=
  (lp_run (fun s => f_X10_mixPaths_b11 fu   s.1 s.2) fu (l1, M)).bind (fun M => some M)
def f_X10_mixPaths (fu : Nat) (M : Mem) : Option (Mem) :=
  (f_X10_allCells fu  M).bind (fun r2 => (f_X10_layNames fu r2.1 r2.2).bind (fun r5 => f_X10_mixPaths_h11 fu (0 : Int32) r5.2))
set_option maxHeartbeats 4000000 in
set_option maxRecDepth 100000 in
theorem k_X10_mixPaths (l : Launch) (G : GE) (hl : l.stackTraces = false) (hG : GOK G) (fu : Nat)  (M : Mem) (res : Mem) (hk0 : (10, 0) ∈ gids G) (hm : f_X10_mixPaths fu  M = some res) : CT l G yX10_mixPaths cX10_mixPaths 2 none 4 [vR 10 0] M (.inl none) res := by
  refine ct_of [(0, vR 10 0)] (by decide +kernel) hl hG (Nat.le_of_ble_eq_true rfl) rfl (List.forall_mem_cons.mpr ⟨Or.inl hk0, fun _ h => nomatch h⟩) (List.forall_mem_cons.mpr ⟨Or.inl hk0, fun _ h => nomatch h⟩) (fun X hX C => ?_)
  subst hX
  have Cl := C
  have J11 : ∀ (l1 : Int32) (M : Mem), f_X10_mixPaths_h11 fu   l1 M = some res → GW G X 2 (QX G X (.inl none) res) 11 [(0, vR 10 0), (1, vI l1)] [] M := by
    intro l1 M hm
    unfold f_X10_mixPaths_h11 at hm
    obtain ⟨r11, hL11, hk11⟩ := bnd_some hm
    have hx11 : ∀ (M : Mem), M = r11 → GW G X 2 (QX G X (.inl none) res) 69 [] [] M := by
      intro M he
      subst he
      have hm := hk11
      try dsimp only at hm
      obtain rfl := Option.some.inj hm
      exact g_vret C dX10_mixPaths_69
    refine lp_ind1 (P := (fun l1 M => GW G X 2 (QX G X (.inl none) res) 11 [(0, vR 10 0), (1, vI l1)] [] M)) (r := r11) ?_ fu l1 M hL11
    intro l1 M o11 hm K11
    unfold f_X10_mixPaths_b11 at hm
    refine g_iload_n C 1 dX10_mixPaths_11 rfl rfl ?_
    refine g_aload_n C 0 dX10_mixPaths_12 rfl rfl ?_
    refine g_geti (k := 0) C (by decide) kf_X10_89 rfl dX10_mixPaths_13 ?_
    refine g_icmp_ge (tgt := 69) C dX10_mixPaths_16 (by decide) (fun h16 => ?_) (fun h16 => ?_)
    · have hm := ift hm h16
      obtain rfl := Option.some.inj hm
      exact g_sub [] rfl (g_pc rfl (hx11 M (K11.2 _ rfl)))
    · have hm := ife hm h16
      refine g_aload_n C 0 dX10_mixPaths_19 rfl rfl ?_
      refine g_aload_n C 0 dX10_mixPaths_20 rfl rfl ?_
      refine g_iload_n C 1 dX10_mixPaths_21 rfl rfl ?_
      refine g_iconst (v := 0) C dX10_mixPaths_22 rfl ?_
      obtain ⟨r23, hr23, hm⟩ := bnd_some hm
      refine g_callVi (As := [vI l1, vI (0 : Int32)]) (rest := [vR 10 0]) C lk_X10_226 (k_X10_pathNow X.2.1 G hl hG fu l1 (0 : Int32) M r23 hk0 hr23) (by decide) rfl rfl rfl (Nat.le_of_ble_eq_true rfl) ⟨Nat.le_of_ble_eq_true rfl, Nat.le_of_ble_eq_true rfl⟩ dX10_mixPaths_23 ?_
      refine g_i2l C dX10_mixPaths_26 ?_
      obtain ⟨r27, hr27, hm⟩ := bnd_some hm
      refine g_callVv (As := [vL r23.1.toInt64]) (rest := []) C lk_X10_284 (k_X10_mix X.2.1 G hl hG fu r23.1.toInt64 r23.2 r27 hk0 hr27) (by decide) rfl rfl rfl (Nat.le_of_ble_eq_true rfl) ⟨Nat.le_of_ble_eq_true rfl, Nat.le_of_ble_eq_true rfl⟩ dX10_mixPaths_27 ?_
      refine g_aload_n C 0 dX10_mixPaths_30 rfl rfl ?_
      refine g_aload_n C 0 dX10_mixPaths_31 rfl rfl ?_
      refine g_iload_n C 1 dX10_mixPaths_32 rfl rfl ?_
      refine g_iconst (v := 1) C dX10_mixPaths_33 rfl ?_
      obtain ⟨r34, hr34, hm⟩ := bnd_some hm
      refine g_callVi (As := [vI l1, vI (1 : Int32)]) (rest := [vR 10 0]) C lk_X10_226 (k_X10_pathNow X.2.1 G hl hG fu l1 (1 : Int32) r27 r34 hk0 hr34) (by decide) rfl rfl rfl (Nat.le_of_ble_eq_true rfl) ⟨Nat.le_of_ble_eq_true rfl, Nat.le_of_ble_eq_true rfl⟩ dX10_mixPaths_34 ?_
      refine g_i2l C dX10_mixPaths_37 ?_
      obtain ⟨r38, hr38, hm⟩ := bnd_some hm
      refine g_callVv (As := [vL r34.1.toInt64]) (rest := []) C lk_X10_284 (k_X10_mix X.2.1 G hl hG fu r34.1.toInt64 r34.2 r38 hk0 hr38) (by decide) rfl rfl rfl (Nat.le_of_ble_eq_true rfl) ⟨Nat.le_of_ble_eq_true rfl, Nat.le_of_ble_eq_true rfl⟩ dX10_mixPaths_38 ?_
      refine g_aload_n C 0 dX10_mixPaths_41 rfl rfl ?_
      refine g_aload_n C 0 dX10_mixPaths_42 rfl rfl ?_
      refine g_iload_n C 1 dX10_mixPaths_43 rfl rfl ?_
      refine g_iconst (v := 3) C dX10_mixPaths_44 rfl ?_
      obtain ⟨r45, hr45, hm⟩ := bnd_some hm
      refine g_callVi (As := [vI l1, vI (3 : Int32)]) (rest := [vR 10 0]) C lk_X10_226 (k_X10_pathNow X.2.1 G hl hG fu l1 (3 : Int32) r38 r45 hk0 hr45) (by decide) rfl rfl rfl (Nat.le_of_ble_eq_true rfl) ⟨Nat.le_of_ble_eq_true rfl, Nat.le_of_ble_eq_true rfl⟩ dX10_mixPaths_45 ?_
      refine g_i2l C dX10_mixPaths_48 ?_
      obtain ⟨r49, hr49, hm⟩ := bnd_some hm
      refine g_callVv (As := [vL r45.1.toInt64]) (rest := []) C lk_X10_284 (k_X10_mix X.2.1 G hl hG fu r45.1.toInt64 r45.2 r49 hk0 hr49) (by decide) rfl rfl rfl (Nat.le_of_ble_eq_true rfl) ⟨Nat.le_of_ble_eq_true rfl, Nat.le_of_ble_eq_true rfl⟩ dX10_mixPaths_49 ?_
      refine g_aload_n C 0 dX10_mixPaths_52 rfl rfl ?_
      refine g_aload_n C 0 dX10_mixPaths_53 rfl rfl ?_
      refine g_iload_n C 1 dX10_mixPaths_54 rfl rfl ?_
      refine g_iconst (v := 5) C dX10_mixPaths_55 rfl ?_
      obtain ⟨r56, hr56, hm⟩ := bnd_some hm
      refine g_callVi (As := [vI l1, vI (5 : Int32)]) (rest := [vR 10 0]) C lk_X10_226 (k_X10_pathNow X.2.1 G hl hG fu l1 (5 : Int32) r49 r56 hk0 hr56) (by decide) rfl rfl rfl (Nat.le_of_ble_eq_true rfl) ⟨Nat.le_of_ble_eq_true rfl, Nat.le_of_ble_eq_true rfl⟩ dX10_mixPaths_56 ?_
      refine g_i2l C dX10_mixPaths_59 ?_
      obtain ⟨r60, hr60, hm⟩ := bnd_some hm
      refine g_callVv (As := [vL r56.1.toInt64]) (rest := []) C lk_X10_284 (k_X10_mix X.2.1 G hl hG fu r56.1.toInt64 r56.2 r60 hk0 hr60) (by decide) rfl rfl rfl (Nat.le_of_ble_eq_true rfl) ⟨Nat.le_of_ble_eq_true rfl, Nat.le_of_ble_eq_true rfl⟩ dX10_mixPaths_60 ?_
      refine g_iinc (ls' := [(1, vI (l1 + (1 : Int32))), (0, vR 10 0)]) (v := l1 + (1 : Int32)) C 1 dX10_mixPaths_63 rfl (iv_p1 _) (by decide) rfl ?_
      refine g_goto (tgt := 11) C dX10_mixPaths_66 (by decide) ?_
      obtain rfl := Option.some.inj hm
      exact g_sub [1, 0] rfl (g_pc rfl (K11.1 (l1 + (1 : Int32)) r60 rfl))
  unfold f_X10_mixPaths at hm
  refine g_aload_n C 0 dX10_mixPaths_0 rfl rfl ?_
  refine g_aload_n C 0 dX10_mixPaths_1 rfl rfl ?_
  obtain ⟨r2, hr2, hm⟩ := bnd_some hm
  refine g_callVi (As := []) (rest := [vR 10 0]) C lk_X10_192 (k_X10_allCells X.2.1 G hl hG fu  M r2 hk0 hr2) (by decide) rfl rfl rfl (Nat.le_of_ble_eq_true rfl) ⟨Nat.le_of_ble_eq_true rfl, Nat.le_of_ble_eq_true rfl⟩ dX10_mixPaths_2 ?_
  obtain ⟨r5, hr5, hm⟩ := bnd_some hm
  refine g_callVi (As := [vI r2.1]) (rest := []) C lk_X10_223 (k_X10_layNames X.2.1 G hl hG fu r2.1 r2.2 r5 hk0 hr5) (by decide) rfl rfl rfl (Nat.le_of_ble_eq_true rfl) ⟨Nat.le_of_ble_eq_true rfl, Nat.le_of_ble_eq_true rfl⟩ dX10_mixPaths_5 ?_
  refine g_pop C dX10_mixPaths_8 rfl ?_
  refine g_iconst (v := 0) C dX10_mixPaths_9 rfl ?_
  refine g_istore_n (ls' := [(1, vI (0 : Int32)), (0, vR 10 0)]) C dX10_mixPaths_10 rfl (by decide) rfl ?_
  exact g_sub [1, 0] rfl (g_pc rfl (J11 (0 : Int32) r5.2 hm))

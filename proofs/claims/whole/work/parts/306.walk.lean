/-! models and contracts, by program (wip/whole/emit.py): X10_takes, X10_rightLength, X10_firstError, X10_load, X10_find, X10_stands, X10_stepped, X10_spread, X10_clearFar, X10_layNames, X10_allCells, X10_areEqual, X10_isRedundant, X10_core, X10_distanceOf, X10_distance, X10_nearer, X10_proof -/
def f_X10_takes_j114 (fu : Nat)   (l1 : Int32) (M : Mem) : Option (Int32 × Mem) :=
  (f_X10_takesDigit fu l1 M).bind (fun r116 => if r116.1 = 0 ∨ r116.1 = 1 then some (r116.1, r116.2) else none)
def f_X10_takes_j122 (fu : Nat)   (l1 : Int32) (M : Mem) : Option (Int32 × Mem) :=
  (f_X10_takesLetter fu l1 M).bind (fun r124 => if r124.1 = 0 ∨ r124.1 = 1 then some (r124.1, r124.2) else none)
def f_X10_takes_j73 (fu : Nat)   (l2 : Int32) (t1 : Int32) (M : Mem) : Option (Int32 × Mem) :=
  if l2 = 0 ∨ l2 = 1 then some (l2, (mI M 10 0 19 t1)) else none
def f_X10_takes_j57 (fu : Nat)   (l2 : Int32) (t1 : Int32) (M : Mem) : Option (Int32 × Mem) :=
  if l2 = 0 then f_X10_takes_j73 fu l2 ((mI M 10 0 24 t1).1 10 0 19) (mI M 10 0 24 t1) else f_X10_takes_j73 fu l2 (4 : Int32) (mI M 10 0 24 t1)
def f_X10_takes_j40 (fu : Nat)   (t0 : Int32) (M : Mem) : Option (Int32 × Mem) :=
  if t0 = 0 then f_X10_takes_j57 fu t0 (M.1 10 0 24) M else f_X10_takes_j57 fu t0 (M.1 10 0 23) M
def f_X10_takes (fu : Nat) (l1 : Int32) (M : Mem) : Option (Int32 × Mem) :=
  if l1 = (59 : Int32) then (f_X10_mayEnd fu  M).bind (fun r7 => if r7.1 = 0 then if r7.1 = 0 ∨ r7.1 = 1 then some (r7.1, r7.2) else none else (f_X10_endItem fu  r7.2).bind (fun r16 => if r7.1 = 0 ∨ r7.1 = 1 then some (r7.1, r16) else none)) else if l1 = (61 : Int32) then if (M.1 10 0 19) = (3 : Int32) then f_X10_takes_j40 fu (1 : Int32) M else f_X10_takes_j40 fu (0 : Int32) M else if (M.1 10 0 19) = (2 : Int32) then some ((0 : Int32), M) else if (M.1 10 0 19) = (1 : Int32) then f_X10_takes_j114 fu l1 M else if (M.1 10 0 19) = 0 then (f_X10_within fu l1 (48 : Int32) (57 : Int32) M).bind (fun r108 => if r108.1 = 0 then f_X10_takes_j122 fu l1 r108.2 else f_X10_takes_j114 fu l1 r108.2) else f_X10_takes_j122 fu l1 M
set_option maxHeartbeats 4000000 in
set_option maxRecDepth 100000 in
theorem k_X10_takes (l : Launch) (G : GE) (hl : l.stackTraces = false) (hG : GOK G) (fu : Nat) (l1 : Int32) (M : Mem) (res : Int32 × Mem) (hk0 : (10, 0) ∈ gids G) (hm : f_X10_takes fu l1 M = some res) : CT l G yX10_takes cX10_takes 3 (some .boolean) 2 [vR 10 0, vI l1] M (.inl (some (vI res.1))) res.2 := by
  refine ct_of [(0, vR 10 0), (1, vI l1)] (by decide +kernel) hl hG (Nat.le_of_ble_eq_true rfl) rfl (List.forall_mem_cons.mpr ⟨Or.inl hk0, List.forall_mem_cons.mpr ⟨trivial, fun _ h => nomatch h⟩⟩) (List.forall_mem_cons.mpr ⟨Or.inl hk0, List.forall_mem_cons.mpr ⟨trivial, fun _ h => nomatch h⟩⟩) (fun X hX C => ?_)
  subst hX
  have Cl := C
  have J114 : ∀ (l1 : Int32) (M : Mem), f_X10_takes_j114 fu   l1 M = some res → GW G X 3 (QX G X (.inl (some (vI res.1))) res.2) 114 [(0, vR 10 0), (1, vI l1)] [] M := by
    intro l1 M hm
    unfold f_X10_takes_j114 at hm
    refine g_aload_n C 0 dX10_takes_114 rfl rfl ?_
    refine g_iload_n C 1 dX10_takes_115 rfl rfl ?_
    obtain ⟨r116, hr116, hm⟩ := bnd_some hm
    refine g_callVi (As := [vI l1]) (rest := []) C lk_X10_156 (k_X10_takesDigit X.2.1 G hl hG fu l1 M r116 hk0 hr116) (by decide) rfl rfl rfl (Nat.le_of_ble_eq_true rfl) ⟨Nat.le_of_ble_eq_true rfl, Nat.le_of_ble_eq_true rfl⟩ dX10_takes_116 ?_
    refine g_goto (tgt := 127) C dX10_takes_119 (by decide) ?_
    obtain ⟨hz127, hm⟩ := ifn hm
    obtain rfl := Option.some.inj hm
    exact g_zret C hz127 dX10_takes_127
  have J122 : ∀ (l1 : Int32) (M : Mem), f_X10_takes_j122 fu   l1 M = some res → GW G X 3 (QX G X (.inl (some (vI res.1))) res.2) 122 [(0, vR 10 0), (1, vI l1)] [] M := by
    intro l1 M hm
    unfold f_X10_takes_j122 at hm
    refine g_aload_n C 0 dX10_takes_122 rfl rfl ?_
    refine g_iload_n C 1 dX10_takes_123 rfl rfl ?_
    obtain ⟨r124, hr124, hm⟩ := bnd_some hm
    refine g_callVi (As := [vI l1]) (rest := []) C lk_X10_159 (k_X10_takesLetter X.2.1 G hl hG fu l1 M r124 hk0 hr124) (by decide) rfl rfl rfl (Nat.le_of_ble_eq_true rfl) ⟨Nat.le_of_ble_eq_true rfl, Nat.le_of_ble_eq_true rfl⟩ dX10_takes_124 ?_
    obtain ⟨hz127, hm⟩ := ifn hm
    obtain rfl := Option.some.inj hm
    exact g_zret C hz127 dX10_takes_127
  have J73 : ∀ (l2 : Int32) (t1 : Int32) (M : Mem), f_X10_takes_j73 fu   l2 t1 M = some res → GW G X 3 (QX G X (.inl (some (vI res.1))) res.2) 73 [(2, vI l2)] [vI t1, vR 10 0] M := by
    intro l2 t1 M hm
    unfold f_X10_takes_j73 at hm
    refine g_puti C (by decide) kf_X10_129 rfl rfl rfl dX10_takes_73 ?_
    refine g_iload_n C 0 dX10_takes_76 rfl rfl ?_
    obtain ⟨hz77, hm⟩ := ifn hm
    obtain rfl := Option.some.inj hm
    exact g_zret C hz77 dX10_takes_77
  have J57 : ∀ (l2 : Int32) (t1 : Int32) (M : Mem), f_X10_takes_j57 fu   l2 t1 M = some res → GW G X 3 (QX G X (.inl (some (vI res.1))) res.2) 57 [(0, vR 10 0), (2, vI l2)] [vI t1, vR 10 0] M := by
    intro l2 t1 M hm
    unfold f_X10_takes_j57 at hm
    refine g_puti C (by decide) kf_X10_144 rfl rfl rfl dX10_takes_57 ?_
    refine g_aload_n C 0 dX10_takes_60 rfl rfl ?_
    refine g_iload_n C 1 dX10_takes_61 rfl rfl ?_
    refine g_if_eq (tgt := 69) C dX10_takes_62 (by decide) (fun h62 => ?_) (fun h62 => ?_)
    · have hm := ift hm h62
      refine g_aload_n C 0 dX10_takes_69 rfl rfl ?_
      refine g_geti (k := 0) C (by decide) kf_X10_129 rfl dX10_takes_70 ?_
      exact g_sub [1] rfl (g_pc rfl (J73 l2 ((mI M 10 0 24 t1).1 10 0 19) (mI M 10 0 24 t1) hm))
    · have hm := ife hm h62
      refine g_iconst (v := 4) C dX10_takes_65 rfl ?_
      refine g_goto (tgt := 73) C dX10_takes_66 (by decide) ?_
      exact g_sub [1] rfl (g_pc rfl (J73 l2 (4 : Int32) (mI M 10 0 24 t1) hm))
  have J40 : ∀ (t0 : Int32) (M : Mem), f_X10_takes_j40 fu   t0 M = some res → GW G X 3 (QX G X (.inl (some (vI res.1))) res.2) 40 [(0, vR 10 0)] [vI t0] M := by
    intro t0 M hm
    unfold f_X10_takes_j40 at hm
    refine g_istore_n (ls' := [(2, vI t0), (0, vR 10 0)]) C dX10_takes_40 rfl (by decide) rfl ?_
    refine g_aload_n C 1 dX10_takes_41 rfl rfl ?_
    refine g_iload_n C 0 dX10_takes_42 rfl rfl ?_
    refine g_if_eq (tgt := 53) C dX10_takes_43 (by decide) (fun h43 => ?_) (fun h43 => ?_)
    · have hm := ift hm h43
      refine g_aload_n C 1 dX10_takes_53 rfl rfl ?_
      refine g_geti (k := 0) C (by decide) kf_X10_144 rfl dX10_takes_54 ?_
      exact g_sub [1, 0] rfl (g_pc rfl (J57 t0 (M.1 10 0 24) M hm))
    · have hm := ife hm h43
      refine g_aload_n C 1 dX10_takes_46 rfl rfl ?_
      refine g_geti (k := 0) C (by decide) kf_X10_138 rfl dX10_takes_47 ?_
      refine g_goto (tgt := 57) C dX10_takes_50 (by decide) ?_
      exact g_sub [1, 0] rfl (g_pc rfl (J57 t0 (M.1 10 0 23) M hm))
  unfold f_X10_takes at hm
  refine g_iload_n C 1 dX10_takes_0 rfl rfl ?_
  refine g_bipush (v := 59) C dX10_takes_1 rfl ?_
  refine g_icmp_ne (tgt := 21) C dX10_takes_3 (by decide) (fun h3 => ?_) (fun h3 => ?_)
  · have hm := ife hm h3
    refine g_iload_n C 1 dX10_takes_21 rfl rfl ?_
    refine g_bipush (v := 61) C dX10_takes_22 rfl ?_
    refine g_icmp_ne (tgt := 78) C dX10_takes_24 (by decide) (fun h24 => ?_) (fun h24 => ?_)
    · have hm := ife hm h24
      refine g_aload_n C 0 dX10_takes_78 rfl rfl ?_
      refine g_geti (k := 0) C (by decide) kf_X10_129 rfl dX10_takes_79 ?_
      refine g_iconst (v := 2) C dX10_takes_82 rfl ?_
      refine g_icmp_ne (tgt := 88) C dX10_takes_83 (by decide) (fun h83 => ?_) (fun h83 => ?_)
      · have hm := ife hm h83
        refine g_aload_n C 0 dX10_takes_88 rfl rfl ?_
        refine g_geti (k := 0) C (by decide) kf_X10_129 rfl dX10_takes_89 ?_
        refine g_iconst (v := 1) C dX10_takes_92 rfl ?_
        refine g_icmp_eq (tgt := 114) C dX10_takes_93 (by decide) (fun h93 => ?_) (fun h93 => ?_)
        · have hm := ift hm h93
          exact g_sub [0, 1] rfl (g_pc rfl (J114 l1 M hm))
        · have hm := ife hm h93
          refine g_aload_n C 0 dX10_takes_96 rfl rfl ?_
          refine g_geti (k := 0) C (by decide) kf_X10_129 rfl dX10_takes_97 ?_
          refine g_if_ne (tgt := 122) C dX10_takes_100 (by decide) (fun h100 => ?_) (fun h100 => ?_)
          · have hm := ife hm h100
            exact g_sub [0, 1] rfl (g_pc rfl (J122 l1 M hm))
          · have hm := ift hm h100
            refine g_iload_n C 1 dX10_takes_103 rfl rfl ?_
            refine g_bipush (v := 48) C dX10_takes_104 rfl ?_
            refine g_bipush (v := 57) C dX10_takes_106 rfl ?_
            obtain ⟨r108, hr108, hm⟩ := bnd_some hm
            refine g_callSi (As := [vI l1, vI (48 : Int32), vI (57 : Int32)]) (rest := []) C lk_X10_75 (k_X10_within X.2.1 G hl hG fu l1 (48 : Int32) (57 : Int32) M r108  hr108) rfl rfl (Nat.le_of_ble_eq_true rfl) ⟨Nat.le_of_ble_eq_true rfl, Nat.le_of_ble_eq_true rfl⟩ dX10_takes_108 ?_
            refine g_if_eq (tgt := 122) C dX10_takes_111 (by decide) (fun h111 => ?_) (fun h111 => ?_)
            · have hm := ift hm h111
              exact g_sub [0, 1] rfl (g_pc rfl (J122 l1 r108.2 hm))
            · have hm := ife hm h111
              exact g_sub [0, 1] rfl (g_pc rfl (J114 l1 r108.2 hm))
      · have hm := ift hm h83
        refine g_iconst (v := 0) C dX10_takes_86 rfl ?_
        obtain rfl := Option.some.inj hm
        exact g_zret C (Or.inl rfl) dX10_takes_87
    · have hm := ift hm h24
      refine g_aload_n C 0 dX10_takes_27 rfl rfl ?_
      refine g_geti (k := 0) C (by decide) kf_X10_129 rfl dX10_takes_28 ?_
      refine g_iconst (v := 3) C dX10_takes_31 rfl ?_
      refine g_icmp_ne (tgt := 39) C dX10_takes_32 (by decide) (fun h32 => ?_) (fun h32 => ?_)
      · have hm := ife hm h32
        refine g_iconst (v := 0) C dX10_takes_39 rfl ?_
        exact g_sub [0] rfl (g_pc rfl (J40 (0 : Int32) M hm))
      · have hm := ift hm h32
        refine g_iconst (v := 1) C dX10_takes_35 rfl ?_
        refine g_goto (tgt := 40) C dX10_takes_36 (by decide) ?_
        exact g_sub [0] rfl (g_pc rfl (J40 (1 : Int32) M hm))
  · have hm := ift hm h3
    refine g_aload_n C 0 dX10_takes_6 rfl rfl ?_
    obtain ⟨r7, hr7, hm⟩ := bnd_some hm
    refine g_callVi (As := []) (rest := []) C lk_X10_150 (k_X10_mayEnd X.2.1 G hl hG fu  M r7 hk0 hr7) (by decide) rfl rfl rfl (Nat.le_of_ble_eq_true rfl) ⟨Nat.le_of_ble_eq_true rfl, Nat.le_of_ble_eq_true rfl⟩ dX10_takes_7 ?_
    refine g_istore_n (ls' := [(2, vI r7.1), (0, vR 10 0), (1, vI l1)]) C dX10_takes_10 rfl (by decide) rfl ?_
    refine g_iload_n C 0 dX10_takes_11 rfl rfl ?_
    refine g_if_eq (tgt := 19) C dX10_takes_12 (by decide) (fun h12 => ?_) (fun h12 => ?_)
    · have hm := ift hm h12
      refine g_iload_n C 0 dX10_takes_19 rfl rfl ?_
      obtain ⟨hz20, hm⟩ := ifn hm
      obtain rfl := Option.some.inj hm
      exact g_zret C hz20 dX10_takes_20
    · have hm := ife hm h12
      refine g_aload_n C 1 dX10_takes_15 rfl rfl ?_
      obtain ⟨r16, hr16, hm⟩ := bnd_some hm
      refine g_callVv (As := []) (rest := []) C lk_X10_153 (k_X10_endItem X.2.1 G hl hG fu  r7.2 r16 hk0 hr16) (by decide) rfl rfl rfl (Nat.le_of_ble_eq_true rfl) ⟨Nat.le_of_ble_eq_true rfl, Nat.le_of_ble_eq_true rfl⟩ dX10_takes_16 ?_
      refine g_iload_n C 0 dX10_takes_19 rfl rfl ?_
      obtain ⟨hz20, hm⟩ := ifn hm
      obtain rfl := Option.some.inj hm
      exact g_zret C hz20 dX10_takes_20
def f_X10_rightLength_b22 (fu : Nat)   (l1 : Int32) (M : Mem) : Option ((Int32 × Mem) ⊕ (Int32 × Mem)) :=
  if (M.1 10 0 11) ≤ l1 then some (Sum.inr (l1, M)) else if inb l1 (alen 22 12) then (f_X10_takes fu (M.1 22 12 l1.toNatClampNeg) M).bind (fun r37 => if r37.1 = 0 then some (Sum.inr (l1, r37.2)) else some (Sum.inl (l1 + (1 : Int32), r37.2))) else none
def f_X10_rightLength_h22 (fu : Nat)   (l1 : Int32) (M : Mem) : Option (Int32 × Mem) :=
  (lp_run (fun s => f_X10_rightLength_b22 fu   s.1 s.2) fu (l1, M)).bind (fun r22 => match r22 with
    | (l1, M) => some (l1, M))
def f_X10_rightLength (fu : Nat) (M : Mem) : Option (Int32 × Mem) :=
  f_X10_rightLength_h22 fu (0 : Int32) (mI (mI (mI (mI M 10 0 19 (0 : Int32)) 10 0 20 (0 : Int32)) 10 0 21 (0 : Int32)) 10 0 22 (0 : Int32))
set_option maxHeartbeats 4000000 in
set_option maxRecDepth 100000 in
theorem k_X10_rightLength (l : Launch) (G : GE) (hl : l.stackTraces = false) (hG : GOK G) (fu : Nat)  (M : Mem) (res : Int32 × Mem) (hk0 : (10, 0) ∈ gids G) (hm : f_X10_rightLength fu  M = some res) : CT l G yX10_rightLength cX10_rightLength 2 (some .int) 3 [vR 10 0] M (.inl (some (vI res.1))) res.2 := by
  refine ct_of [(0, vR 10 0)] (by decide +kernel) hl hG (Nat.le_of_ble_eq_true rfl) rfl (List.forall_mem_cons.mpr ⟨Or.inl hk0, fun _ h => nomatch h⟩) (List.forall_mem_cons.mpr ⟨Or.inl hk0, fun _ h => nomatch h⟩) (fun X hX C => ?_)
  subst hX
  have Cl := C
  have J22 : ∀ (l1 : Int32) (M : Mem), f_X10_rightLength_h22 fu   l1 M = some res → GW G X 2 (QX G X (.inl (some (vI res.1))) res.2) 22 [(0, vR 10 0), (1, vI l1)] [] M := by
    intro l1 M hm
    unfold f_X10_rightLength_h22 at hm
    obtain ⟨r22, hL22, hk22⟩ := bnd_some hm
    have hx22 : ∀ (l1 : Int32) (M : Mem), (l1, M) = r22 → GW G X 2 (QX G X (.inl (some (vI res.1))) res.2) 49 [(1, vI l1)] [] M := by
      intro l1 M he
      subst he
      have hm := hk22
      try dsimp only at hm
      refine g_iload_n C 0 dX10_rightLength_49 rfl rfl ?_
      obtain rfl := Option.some.inj hm
      exact g_iret C dX10_rightLength_50
    refine lp_ind1 (P := (fun l1 M => GW G X 2 (QX G X (.inl (some (vI res.1))) res.2) 22 [(0, vR 10 0), (1, vI l1)] [] M)) (r := r22) ?_ fu l1 M hL22
    intro l1 M o22 hm K22
    unfold f_X10_rightLength_b22 at hm
    refine g_iload_n C 1 dX10_rightLength_22 rfl rfl ?_
    refine g_aload_n C 0 dX10_rightLength_23 rfl rfl ?_
    refine g_geti (k := 0) C (by decide) kf_X10_126 rfl dX10_rightLength_24 ?_
    refine g_icmp_ge (tgt := 49) C dX10_rightLength_27 (by decide) (fun h27 => ?_) (fun h27 => ?_)
    · have hm := ift hm h27
      obtain rfl := Option.some.inj hm
      exact g_sub [1] rfl (g_pc rfl (hx22 l1 M (K22.2 _ rfl)))
    · have hm := ife hm h27
      refine g_aload_n C 0 dX10_rightLength_30 rfl rfl ?_
      refine g_aload_n C 0 dX10_rightLength_31 rfl rfl ?_
      refine g_getr (k := 0) (k' := 12) C (by decide) kf_X10_35 rfl rfl dX10_rightLength_32 ?_
      refine g_iload_n C 1 dX10_rightLength_35 rfl rfl ?_
      obtain ⟨hi36, hm⟩ := ifn hm
      refine g_iald C (by decide) hi36 dX10_rightLength_36 ?_
      obtain ⟨r37, hr37, hm⟩ := bnd_some hm
      refine g_callVi (As := [vI (M.1 22 12 l1.toNatClampNeg)]) (rest := []) C lk_X10_162 (k_X10_takes X.2.1 G hl hG fu (M.1 22 12 l1.toNatClampNeg) M r37 hk0 hr37) (by decide) rfl rfl rfl (Nat.le_of_ble_eq_true rfl) ⟨Nat.le_of_ble_eq_true rfl, Nat.le_of_ble_eq_true rfl⟩ dX10_rightLength_37 ?_
      refine g_if_eq (tgt := 49) C dX10_rightLength_40 (by decide) (fun h40 => ?_) (fun h40 => ?_)
      · have hm := ift hm h40
        obtain rfl := Option.some.inj hm
        exact g_sub [1] rfl (g_pc rfl (hx22 l1 r37.2 (K22.2 _ rfl)))
      · have hm := ife hm h40
        refine g_iinc (ls' := [(1, vI (l1 + (1 : Int32))), (0, vR 10 0)]) (v := l1 + (1 : Int32)) C 1 dX10_rightLength_43 rfl (iv_p1 _) (by decide) rfl ?_
        refine g_goto (tgt := 22) C dX10_rightLength_46 (by decide) ?_
        obtain rfl := Option.some.inj hm
        exact g_sub [1, 0] rfl (g_pc rfl (K22.1 (l1 + (1 : Int32)) r37.2 rfl))
  unfold f_X10_rightLength at hm
  refine g_aload_n C 0 dX10_rightLength_0 rfl rfl ?_
  refine g_iconst (v := 0) C dX10_rightLength_1 rfl ?_
  refine g_puti C (by decide) kf_X10_129 rfl rfl rfl dX10_rightLength_2 ?_
  refine g_aload_n C 0 dX10_rightLength_5 rfl rfl ?_
  refine g_iconst (v := 0) C dX10_rightLength_6 rfl ?_
  refine g_puti C (by decide) kf_X10_132 rfl rfl rfl dX10_rightLength_7 ?_
  refine g_aload_n C 0 dX10_rightLength_10 rfl rfl ?_
  refine g_iconst (v := 0) C dX10_rightLength_11 rfl ?_
  refine g_puti C (by decide) kf_X10_135 rfl rfl rfl dX10_rightLength_12 ?_
  refine g_aload_n C 0 dX10_rightLength_15 rfl rfl ?_
  refine g_iconst (v := 0) C dX10_rightLength_16 rfl ?_
  refine g_puti C (by decide) kf_X10_147 rfl rfl rfl dX10_rightLength_17 ?_
  refine g_iconst (v := 0) C dX10_rightLength_20 rfl ?_
  refine g_istore_n (ls' := [(1, vI (0 : Int32)), (0, vR 10 0)]) C dX10_rightLength_21 rfl (by decide) rfl ?_
  exact g_sub [1, 0] rfl (g_pc rfl (J22 (0 : Int32) (mI (mI (mI (mI M 10 0 19 (0 : Int32)) 10 0 20 (0 : Int32)) 10 0 21 (0 : Int32)) 10 0 22 (0 : Int32)) hm))
def f_X10_firstError (fu : Nat) (M : Mem) : Option (Int32 × Mem) :=
  (f_X10_rightLength fu  (mI M 10 0 0 (0 : Int32))).bind (fun r6 => some (r6.1, r6.2))
set_option maxHeartbeats 4000000 in
set_option maxRecDepth 100000 in
theorem k_X10_firstError (l : Launch) (G : GE) (hl : l.stackTraces = false) (hG : GOK G) (fu : Nat)  (M : Mem) (res : Int32 × Mem) (hk0 : (10, 0) ∈ gids G) (hm : f_X10_firstError fu  M = some res) : CT l G yX10_firstError cX10_firstError 1 (some .int) 4 [vR 10 0] M (.inl (some (vI res.1))) res.2 := by
  refine ct_of [(0, vR 10 0)] (by decide +kernel) hl hG (Nat.le_of_ble_eq_true rfl) rfl (List.forall_mem_cons.mpr ⟨Or.inl hk0, fun _ h => nomatch h⟩) (List.forall_mem_cons.mpr ⟨Or.inl hk0, fun _ h => nomatch h⟩) (fun X hX C => ?_)
  subst hX
  have Cl := C
  unfold f_X10_firstError at hm
  refine g_aload_n C 0 dX10_firstError_0 rfl rfl ?_
  refine g_iconst (v := 0) C dX10_firstError_1 rfl ?_
  refine g_puti C (by decide) kf_X10_72 rfl rfl rfl dX10_firstError_2 ?_
  refine g_aload_n C 0 dX10_firstError_5 rfl rfl ?_
  obtain ⟨r6, hr6, hm⟩ := bnd_some hm
  refine g_callVi (As := []) (rest := []) C lk_X10_165 (k_X10_rightLength X.2.1 G hl hG fu  (mI M 10 0 0 (0 : Int32)) r6 hk0 hr6) (by decide) rfl rfl rfl (Nat.le_of_ble_eq_true rfl) ⟨Nat.le_of_ble_eq_true rfl, Nat.le_of_ble_eq_true rfl⟩ dX10_firstError_6 ?_
  obtain rfl := Option.some.inj hm
  exact g_iret C dX10_firstError_9
def f_X10_load_b57 (fu : Nat)  (l2 : Int32) (l3 : Int32) (M : Mem) : Option ((Int32 × Mem) ⊕ (Mem)) :=
  if (M.1 10 0 20) ≤ l3 then some (Sum.inr M) else if inb (M.1 10 0 2) (alen 22 5) then some (Sum.inl (l3 + (1 : Int32), (mI (mI M 22 5 (M.1 10 0 2).toNatClampNeg (0 : Int32)) 10 0 2 (((mI M 22 5 (M.1 10 0 2).toNatClampNeg (0 : Int32)).1 10 0 2) + (1 : Int32))))) else none
def f_X10_load_h57 (fu : Nat)   (l2 : Int32) (l3 : Int32) (M : Mem) : Option (Int32 × Mem) :=
  (lp_run (fun s => f_X10_load_b57 fu  l2 s.1 s.2) fu (l3, M)).bind (fun M => (f_X10_layPaths fu  M).bind (fun r92 => if r92.1 = 0 then (f_X10_layPaths fu  (mI r92.2 10 0 2 l2)).bind (fun r104 => some ((0 : Int32), (mI r104.2 10 0 0 (2 : Int32)))) else some ((mI (mI r92.2 10 0 7 ((r92.2.1 10 0 7) + (r92.2.1 10 0 21))) 10 0 11 (0 : Int32)).1 10 0 22, (mI (mI r92.2 10 0 7 ((r92.2.1 10 0 7) + (r92.2.1 10 0 21))) 10 0 11 (0 : Int32)))))
def f_X10_load_j34 (fu : Nat)   (t1 : Int32) (M : Mem) : Option (Int32 × Mem) :=
  if ((mI M 10 0 0 t1).1 10 0 0) ≤ 0 then (f_X10_endItem fu  (mI M 10 0 0 t1)).bind (fun r47 => f_X10_load_h57 fu (r47.1 10 0 2) (0 : Int32) r47) else some ((0 : Int32), (mI M 10 0 0 t1))
def f_X10_load_j23 (fu : Nat)   (t0 : Int32) (M : Mem) : Option (Int32 × Mem) :=
  if t0 = 0 then f_X10_load_j34 fu (1 : Int32) M else f_X10_load_j34 fu (0 : Int32) M
def f_X10_load_j22 (fu : Nat)    (M : Mem) : Option (Int32 × Mem) :=
  f_X10_load_j23 fu (0 : Int32) M
def f_X10_load (fu : Nat) (M : Mem) : Option (Int32 × Mem) :=
  (f_X10_rightLength fu  M).bind (fun r1 => if r1.1 = (r1.2.1 10 0 11) then (f_X10_mayEnd fu  r1.2).bind (fun r12 => if r12.1 = 0 then f_X10_load_j22 fu  r12.2 else f_X10_load_j23 fu (1 : Int32) r12.2) else f_X10_load_j22 fu  r1.2)
set_option maxHeartbeats 4000000 in
set_option maxRecDepth 100000 in
theorem k_X10_load (l : Launch) (G : GE) (hl : l.stackTraces = false) (hG : GOK G) (fu : Nat)  (M : Mem) (res : Int32 × Mem) (hk0 : (10, 0) ∈ gids G) (hm : f_X10_load fu  M = some res) : CT l G yX10_load cX10_load 4 (some .int) 4 [vR 10 0] M (.inl (some (vI res.1))) res.2 := by
  refine ct_of [(0, vR 10 0)] (by decide +kernel) hl hG (Nat.le_of_ble_eq_true rfl) rfl (List.forall_mem_cons.mpr ⟨Or.inl hk0, fun _ h => nomatch h⟩) (List.forall_mem_cons.mpr ⟨Or.inl hk0, fun _ h => nomatch h⟩) (fun X hX C => ?_)
  subst hX
  have Cl := C
  have J57 : ∀ (l2 : Int32) (l3 : Int32) (M : Mem), f_X10_load_h57 fu   l2 l3 M = some res → GW G X 4 (QX G X (.inl (some (vI res.1))) res.2) 57 [(0, vR 10 0), (2, vI l2), (3, vI l3)] [] M := by
    intro l2 l3 M hm
    unfold f_X10_load_h57 at hm
    obtain ⟨r57, hL57, hk57⟩ := bnd_some hm
    have hx57 : ∀ (M : Mem), M = r57 → GW G X 4 (QX G X (.inl (some (vI res.1))) res.2) 91 [(0, vR 10 0), (2, vI l2)] [] M := by
      intro M he
      subst he
      have hm := hk57
      try dsimp only at hm
      refine g_aload_n C 0 dX10_load_91 rfl rfl ?_
      obtain ⟨r92, hr92, hm⟩ := bnd_some hm
      refine g_callVi (As := []) (rest := []) C lk_X10_85 (k_X10_layPaths X.2.1 G hl hG fu  M r92 hk0 hr92) (by decide) rfl rfl rfl (Nat.le_of_ble_eq_true rfl) ⟨Nat.le_of_ble_eq_true rfl, Nat.le_of_ble_eq_true rfl⟩ dX10_load_92 ?_
      refine g_if_ne (tgt := 115) C dX10_load_95 (by decide) (fun h95 => ?_) (fun h95 => ?_)
      · have hm := ife hm h95
        refine g_aload_n C 0 dX10_load_115 rfl rfl ?_
        refine g_dup C dX10_load_116 rfl ?_
        refine g_geti (k := 0) C (by decide) kf_X10_82 rfl dX10_load_117 ?_
        refine g_aload_n C 0 dX10_load_120 rfl rfl ?_
        refine g_geti (k := 0) C (by decide) kf_X10_135 rfl dX10_load_121 ?_
        refine g_iadd C dX10_load_124 ?_
        refine g_puti C (by decide) kf_X10_82 rfl rfl rfl dX10_load_125 ?_
        refine g_aload_n C 0 dX10_load_128 rfl rfl ?_
        refine g_iconst (v := 0) C dX10_load_129 rfl ?_
        refine g_puti C (by decide) kf_X10_126 rfl rfl rfl dX10_load_130 ?_
        refine g_aload_n C 0 dX10_load_133 rfl rfl ?_
        refine g_geti (k := 0) C (by decide) kf_X10_147 rfl dX10_load_134 ?_
        obtain rfl := Option.some.inj hm
        exact g_iret C dX10_load_137
      · have hm := ift hm h95
        refine g_aload_n C 0 dX10_load_98 rfl rfl ?_
        refine g_iload_n C 1 dX10_load_99 rfl rfl ?_
        refine g_puti C (by decide) kf_X10_79 rfl rfl rfl dX10_load_100 ?_
        refine g_aload_n C 0 dX10_load_103 rfl rfl ?_
        obtain ⟨r104, hr104, hm⟩ := bnd_some hm
        refine g_callVi (As := []) (rest := []) C lk_X10_85 (k_X10_layPaths X.2.1 G hl hG fu  (mI r92.2 10 0 2 l2) r104 hk0 hr104) (by decide) rfl rfl rfl (Nat.le_of_ble_eq_true rfl) ⟨Nat.le_of_ble_eq_true rfl, Nat.le_of_ble_eq_true rfl⟩ dX10_load_104 ?_
        refine g_pop C dX10_load_107 rfl ?_
        refine g_aload_n C 0 dX10_load_108 rfl rfl ?_
        refine g_iconst (v := 2) C dX10_load_109 rfl ?_
        refine g_puti C (by decide) kf_X10_72 rfl rfl rfl dX10_load_110 ?_
        refine g_iconst (v := 0) C dX10_load_113 rfl ?_
        obtain rfl := Option.some.inj hm
        exact g_iret C dX10_load_114
    refine lp_ind1 (P := (fun l3 M => GW G X 4 (QX G X (.inl (some (vI res.1))) res.2) 57 [(0, vR 10 0), (2, vI l2), (3, vI l3)] [] M)) (r := r57) ?_ fu l3 M hL57
    intro l3 M o57 hm K57
    unfold f_X10_load_b57 at hm
    refine g_iload_n C 2 dX10_load_57 rfl rfl ?_
    refine g_aload_n C 0 dX10_load_58 rfl rfl ?_
    refine g_geti (k := 0) C (by decide) kf_X10_132 rfl dX10_load_59 ?_
    refine g_icmp_ge (tgt := 91) C dX10_load_62 (by decide) (fun h62 => ?_) (fun h62 => ?_)
    · have hm := ift hm h62
      obtain rfl := Option.some.inj hm
      exact g_sub [0, 1] rfl (g_pc rfl (hx57 M (K57.2 _ rfl)))
    · have hm := ife hm h62
      refine g_aload_n C 0 dX10_load_65 rfl rfl ?_
      refine g_getr (k := 0) (k' := 5) C (by decide) kf_X10_20 rfl rfl dX10_load_66 ?_
      refine g_aload_n C 0 dX10_load_69 rfl rfl ?_
      refine g_geti (k := 0) C (by decide) kf_X10_79 rfl dX10_load_70 ?_
      refine g_iconst (v := 0) C dX10_load_73 rfl ?_
      obtain ⟨hi74, hm⟩ := ifn hm
      refine g_iast C (by decide) hi74 dX10_load_74 ?_
      refine g_aload_n C 0 dX10_load_75 rfl rfl ?_
      refine g_dup C dX10_load_76 rfl ?_
      refine g_geti (k := 0) C (by decide) kf_X10_79 rfl dX10_load_77 ?_
      refine g_iconst (v := 1) C dX10_load_80 rfl ?_
      refine g_iadd C dX10_load_81 ?_
      refine g_puti C (by decide) kf_X10_79 rfl rfl rfl dX10_load_82 ?_
      refine g_iinc (ls' := [(3, vI (l3 + (1 : Int32))), (0, vR 10 0), (2, vI l2)]) (v := l3 + (1 : Int32)) C 2 dX10_load_85 rfl (iv_p1 _) (by decide) rfl ?_
      refine g_goto (tgt := 57) C dX10_load_88 (by decide) ?_
      obtain rfl := Option.some.inj hm
      exact g_sub [1, 2, 0] rfl (g_pc rfl (K57.1 (l3 + (1 : Int32)) (mI (mI M 22 5 (M.1 10 0 2).toNatClampNeg (0 : Int32)) 10 0 2 (((mI M 22 5 (M.1 10 0 2).toNatClampNeg (0 : Int32)).1 10 0 2) + (1 : Int32))) rfl))
  have J34 : ∀ (t1 : Int32) (M : Mem), f_X10_load_j34 fu   t1 M = some res → GW G X 4 (QX G X (.inl (some (vI res.1))) res.2) 34 [(0, vR 10 0)] [vI t1, vR 10 0] M := by
    intro t1 M hm
    unfold f_X10_load_j34 at hm
    refine g_puti C (by decide) kf_X10_72 rfl rfl rfl dX10_load_34 ?_
    refine g_aload_n C 0 dX10_load_37 rfl rfl ?_
    refine g_geti (k := 0) C (by decide) kf_X10_72 rfl dX10_load_38 ?_
    refine g_if_le (tgt := 46) C dX10_load_41 (by decide) (fun h41 => ?_) (fun h41 => ?_)
    · have hm := ift hm h41
      refine g_aload_n C 0 dX10_load_46 rfl rfl ?_
      obtain ⟨r47, hr47, hm⟩ := bnd_some hm
      refine g_callVv (As := []) (rest := []) C lk_X10_153 (k_X10_endItem X.2.1 G hl hG fu  (mI M 10 0 0 t1) r47 hk0 hr47) (by decide) rfl rfl rfl (Nat.le_of_ble_eq_true rfl) ⟨Nat.le_of_ble_eq_true rfl, Nat.le_of_ble_eq_true rfl⟩ dX10_load_47 ?_
      refine g_aload_n C 0 dX10_load_50 rfl rfl ?_
      refine g_geti (k := 0) C (by decide) kf_X10_79 rfl dX10_load_51 ?_
      refine g_istore_n (ls' := [(2, vI (r47.1 10 0 2)), (0, vR 10 0)]) C dX10_load_54 rfl (by decide) rfl ?_
      refine g_iconst (v := 0) C dX10_load_55 rfl ?_
      refine g_istore_n (ls' := [(3, vI (0 : Int32)), (2, vI (r47.1 10 0 2)), (0, vR 10 0)]) C dX10_load_56 rfl (by decide) rfl ?_
      exact g_sub [2, 1, 0] rfl (g_pc rfl (J57 (r47.1 10 0 2) (0 : Int32) r47 hm))
    · have hm := ife hm h41
      refine g_iconst (v := 0) C dX10_load_44 rfl ?_
      obtain rfl := Option.some.inj hm
      exact g_iret C dX10_load_45
  have J23 : ∀ (t0 : Int32) (M : Mem), f_X10_load_j23 fu   t0 M = some res → GW G X 4 (QX G X (.inl (some (vI res.1))) res.2) 23 [(0, vR 10 0)] [vI t0] M := by
    intro t0 M hm
    unfold f_X10_load_j23 at hm
    refine g_istore_n (ls' := [(1, vI t0), (0, vR 10 0)]) C dX10_load_23 rfl (by decide) rfl ?_
    refine g_aload_n C 1 dX10_load_24 rfl rfl ?_
    refine g_iload_n C 0 dX10_load_25 rfl rfl ?_
    refine g_if_eq (tgt := 33) C dX10_load_26 (by decide) (fun h26 => ?_) (fun h26 => ?_)
    · have hm := ift hm h26
      refine g_iconst (v := 1) C dX10_load_33 rfl ?_
      exact g_sub [1] rfl (g_pc rfl (J34 (1 : Int32) M hm))
    · have hm := ife hm h26
      refine g_iconst (v := 0) C dX10_load_29 rfl ?_
      refine g_goto (tgt := 34) C dX10_load_30 (by decide) ?_
      exact g_sub [1] rfl (g_pc rfl (J34 (0 : Int32) M hm))
  have J22 : ∀ (M : Mem), f_X10_load_j22 fu    M = some res → GW G X 4 (QX G X (.inl (some (vI res.1))) res.2) 22 [(0, vR 10 0)] [] M := by
    intro  M hm
    unfold f_X10_load_j22 at hm
    refine g_iconst (v := 0) C dX10_load_22 rfl ?_
    exact g_sub [0] rfl (g_pc rfl (J23 (0 : Int32) M hm))
  unfold f_X10_load at hm
  refine g_aload_n C 0 dX10_load_0 rfl rfl ?_
  obtain ⟨r1, hr1, hm⟩ := bnd_some hm
  refine g_callVi (As := []) (rest := []) C lk_X10_165 (k_X10_rightLength X.2.1 G hl hG fu  M r1 hk0 hr1) (by decide) rfl rfl rfl (Nat.le_of_ble_eq_true rfl) ⟨Nat.le_of_ble_eq_true rfl, Nat.le_of_ble_eq_true rfl⟩ dX10_load_1 ?_
  refine g_aload_n C 0 dX10_load_4 rfl rfl ?_
  refine g_geti (k := 0) C (by decide) kf_X10_126 rfl dX10_load_5 ?_
  refine g_icmp_ne (tgt := 22) C dX10_load_8 (by decide) (fun h8 => ?_) (fun h8 => ?_)
  · have hm := ife hm h8
    exact g_sub [0] rfl (g_pc rfl (J22  r1.2 hm))
  · have hm := ift hm h8
    refine g_aload_n C 0 dX10_load_11 rfl rfl ?_
    obtain ⟨r12, hr12, hm⟩ := bnd_some hm
    refine g_callVi (As := []) (rest := []) C lk_X10_150 (k_X10_mayEnd X.2.1 G hl hG fu  r1.2 r12 hk0 hr12) (by decide) rfl rfl rfl (Nat.le_of_ble_eq_true rfl) ⟨Nat.le_of_ble_eq_true rfl, Nat.le_of_ble_eq_true rfl⟩ dX10_load_12 ?_
    refine g_if_eq (tgt := 22) C dX10_load_15 (by decide) (fun h15 => ?_) (fun h15 => ?_)
    · have hm := ift hm h15
      exact g_sub [0] rfl (g_pc rfl (J22  r12.2 hm))
    · have hm := ife hm h15
      refine g_iconst (v := 1) C dX10_load_18 rfl ?_
      refine g_goto (tgt := 23) C dX10_load_19 (by decide) ?_
      exact g_sub [0] rfl (g_pc rfl (J23 (1 : Int32) r12.2 hm))
def f_X10_find_j57 (fu : Nat)   (l2 : Int32) (l3 : Int32) (t1 : Int32) (t2 : Int32) (M : Mem) : Option ((Int32 × Int32 × Mem) ⊕ ((Int32 × Mem) ⊕ (Int32 × Mem))) :=
  if inb ((t1 * t2) + l3) (alen 22 18) then if (M.1 22 18 ((t1 * t2) + l3).toNatClampNeg) = (-1 : Int32) then some (Sum.inr (Sum.inr ((-1 : Int32), M))) else some (Sum.inl (M.1 22 18 ((t1 * t2) + l3).toNatClampNeg, l2 + (1 : Int32), M)) else none
def f_X10_find_b9 (fu : Nat)   (l1 : Int32) (l2 : Int32) (M : Mem) : Option ((Int32 × Int32 × Mem) ⊕ ((Int32 × Mem) ⊕ (Int32 × Mem))) :=
  if (M.1 10 0 11) ≤ l2 then some (Sum.inr (Sum.inl (l1, M))) else if inb l2 (alen 22 12) then (f_X10_isArrow fu ((M.1 22 12 l2.toNatClampNeg) - (97 : Int32)) M).bind (fun r29 => if r29.1 = 0 then some (Sum.inr (Sum.inr ((-1 : Int32), r29.2))) else if l2 = 0 then if inb ((M.1 22 12 l2.toNatClampNeg) - (97 : Int32)) (alen 22 3) then f_X10_find_j57 fu l2 ((M.1 22 12 l2.toNatClampNeg) - (97 : Int32)) (14 : Int32) (r29.2.1 22 3 ((M.1 22 12 l2.toNatClampNeg) - (97 : Int32)).toNatClampNeg) r29.2 else none else f_X10_find_j57 fu l2 ((M.1 22 12 l2.toNatClampNeg) - (97 : Int32)) (14 : Int32) l1 r29.2) else none
def f_X10_find_h9 (fu : Nat)   (l1 : Int32) (l2 : Int32) (M : Mem) : Option (Int32 × Mem) :=
  (lp_run (fun s => f_X10_find_b9 fu   s.1 s.2.1 s.2.2) fu (l1, l2, M)).bind (fun r9 => match r9 with
    | Sum.inl (l1, M) => some (l1, M)
    | Sum.inr q9 => some q9)
def f_X10_find (fu : Nat) (M : Mem) : Option (Int32 × Mem) :=
  f_X10_find_h9 fu (-1 : Int32) (0 : Int32) (mI M 10 0 0 (0 : Int32))
set_option maxHeartbeats 4000000 in
set_option maxRecDepth 100000 in
theorem k_X10_find (l : Launch) (G : GE) (hl : l.stackTraces = false) (hG : GOK G) (fu : Nat)  (M : Mem) (res : Int32 × Mem) (hk0 : (10, 0) ∈ gids G) (hm : f_X10_find fu  M = some res) : CT l G yX10_find cX10_find 4 (some .int) 2 [vR 10 0] M (.inl (some (vI res.1))) res.2 := by
  refine ct_of [(0, vR 10 0)] (by decide +kernel) hl hG (Nat.le_of_ble_eq_true rfl) rfl (List.forall_mem_cons.mpr ⟨Or.inl hk0, fun _ h => nomatch h⟩) (List.forall_mem_cons.mpr ⟨Or.inl hk0, fun _ h => nomatch h⟩) (fun X hX C => ?_)
  subst hX
  have Cl := C
  have J9 : ∀ (l1 : Int32) (l2 : Int32) (M : Mem), f_X10_find_h9 fu   l1 l2 M = some res → GW G X 4 (QX G X (.inl (some (vI res.1))) res.2) 9 [(0, vR 10 0), (1, vI l1), (2, vI l2)] [] M := by
    intro l1 l2 M hm
    unfold f_X10_find_h9 at hm
    obtain ⟨r9, hL9, hk9⟩ := bnd_some hm
    have hx9 : ∀ (l1 : Int32) (M : Mem), Sum.inl (l1, M) = r9 → GW G X 4 (QX G X (.inl (some (vI res.1))) res.2) 75 [(1, vI l1)] [] M := by
      intro l1 M he
      subst he
      have hm := hk9
      try dsimp only at hm
      refine g_iload_n C 0 dX10_find_75 rfl rfl ?_
      obtain rfl := Option.some.inj hm
      exact g_iret C dX10_find_76
    refine lp_ind2 (P := (fun l1 l2 M => GW G X 4 (QX G X (.inl (some (vI res.1))) res.2) 9 [(0, vR 10 0), (1, vI l1), (2, vI l2)] [] M)) (r := r9) ?_ fu l1 l2 M hL9
    intro l1 l2 M o9 hm K9
    have J57 : ∀ (l2 : Int32) (l3 : Int32) (t1 : Int32) (t2 : Int32) (M : Mem), f_X10_find_j57 fu   l2 l3 t1 t2 M = some o9 → GW G X 4 (QX G X (.inl (some (vI res.1))) res.2) 57 [(0, vR 10 0), (2, vI l2), (3, vI l3)] [vI t2, vI t1, vR 22 18] M := by
      intro l2 l3 t1 t2 M hm
      unfold f_X10_find_j57 at hm
      refine g_imul C dX10_find_57 ?_
      refine g_iload_n C 2 dX10_find_58 rfl rfl ?_
      refine g_iadd C dX10_find_59 ?_
      obtain ⟨hi60, hm⟩ := ifn hm
      refine g_iald C (by decide) hi60 dX10_find_60 ?_
      refine g_istore_n (ls' := [(1, vI (M.1 22 18 ((t1 * t2) + l3).toNatClampNeg)), (0, vR 10 0), (2, vI l2), (3, vI l3)]) C dX10_find_61 rfl (by decide) rfl ?_
      refine g_iload_n C 0 dX10_find_62 rfl rfl ?_
      refine g_iconst (v := -1) C dX10_find_63 rfl ?_
      refine g_icmp_ne (tgt := 69) C dX10_find_64 (by decide) (fun h64 => ?_) (fun h64 => ?_)
      · have hm := ife hm h64
        refine g_iinc (ls' := [(2, vI (l2 + (1 : Int32))), (1, vI (M.1 22 18 ((t1 * t2) + l3).toNatClampNeg)), (0, vR 10 0), (3, vI l3)]) (v := l2 + (1 : Int32)) C 2 dX10_find_69 rfl (iv_p1 _) (by decide) rfl ?_
        refine g_goto (tgt := 9) C dX10_find_72 (by decide) ?_
        obtain rfl := Option.some.inj hm
        exact g_sub [2, 1, 0] rfl (g_pc rfl (K9.1 (M.1 22 18 ((t1 * t2) + l3).toNatClampNeg) (l2 + (1 : Int32)) M rfl))
      · have hm := ift hm h64
        refine g_iconst (v := -1) C dX10_find_67 rfl ?_
        obtain rfl := Option.some.inj hm
        have e9 := K9.2 _ rfl
        subst e9
        obtain rfl := Option.some.inj hk9
        exact g_iret C dX10_find_68
    unfold f_X10_find_b9 at hm
    refine g_iload_n C 2 dX10_find_9 rfl rfl ?_
    refine g_aload_n C 0 dX10_find_10 rfl rfl ?_
    refine g_geti (k := 0) C (by decide) kf_X10_126 rfl dX10_find_11 ?_
    refine g_icmp_ge (tgt := 75) C dX10_find_14 (by decide) (fun h14 => ?_) (fun h14 => ?_)
    · have hm := ift hm h14
      obtain rfl := Option.some.inj hm
      exact g_sub [1] rfl (g_pc rfl (hx9 l1 M (K9.2 _ rfl)))
    · have hm := ife hm h14
      refine g_aload_n C 0 dX10_find_17 rfl rfl ?_
      refine g_getr (k := 0) (k' := 12) C (by decide) kf_X10_35 rfl rfl dX10_find_18 ?_
      refine g_iload_n C 2 dX10_find_21 rfl rfl ?_
      obtain ⟨hi22, hm⟩ := ifn hm
      refine g_iald C (by decide) hi22 dX10_find_22 ?_
      refine g_bipush (v := 97) C dX10_find_23 rfl ?_
      refine g_isub C dX10_find_25 ?_
      refine g_istore_n (ls' := [(3, vI ((M.1 22 12 l2.toNatClampNeg) - (97 : Int32))), (0, vR 10 0), (1, vI l1), (2, vI l2)]) C dX10_find_26 rfl (by decide) rfl ?_
      refine g_aload_n C 1 dX10_find_27 rfl rfl ?_
      refine g_iload_n C 0 dX10_find_28 rfl rfl ?_
      obtain ⟨r29, hr29, hm⟩ := bnd_some hm
      refine g_callVi (As := [vI ((M.1 22 12 l2.toNatClampNeg) - (97 : Int32))]) (rest := []) C lk_X10_169 (k_X10_isArrow X.2.1 G hl hG fu ((M.1 22 12 l2.toNatClampNeg) - (97 : Int32)) M r29 hk0 hr29) (by decide) rfl rfl rfl (Nat.le_of_ble_eq_true rfl) ⟨Nat.le_of_ble_eq_true rfl, Nat.le_of_ble_eq_true rfl⟩ dX10_find_29 ?_
      refine g_if_ne (tgt := 37) C dX10_find_32 (by decide) (fun h32 => ?_) (fun h32 => ?_)
      · have hm := ife hm h32
        refine g_aload_n C 1 dX10_find_37 rfl rfl ?_
        refine g_getr (k := 0) (k' := 18) C (by decide) kf_X10_50 rfl rfl dX10_find_38 ?_
        refine g_bipush (v := 14) C dX10_find_41 rfl ?_
        refine g_iload_n C 3 dX10_find_43 rfl rfl ?_
        refine g_if_ne (tgt := 56) C dX10_find_44 (by decide) (fun h44 => ?_) (fun h44 => ?_)
        · have hm := ife hm h44
          refine g_iload_n C 2 dX10_find_56 rfl rfl ?_
          exact g_sub [1, 3, 0] rfl (g_pc rfl (J57 l2 ((M.1 22 12 l2.toNatClampNeg) - (97 : Int32)) (14 : Int32) l1 r29.2 hm))
        · have hm := ift hm h44
          refine g_aload_n C 1 dX10_find_47 rfl rfl ?_
          refine g_getr (k := 0) (k' := 3) C (by decide) kf_X10_13 rfl rfl dX10_find_48 ?_
          refine g_iload_n C 0 dX10_find_51 rfl rfl ?_
          obtain ⟨hi52, hm⟩ := ifn hm
          refine g_iald C (by decide) hi52 dX10_find_52 ?_
          refine g_goto (tgt := 57) C dX10_find_53 (by decide) ?_
          exact g_sub [1, 3, 0] rfl (g_pc rfl (J57 l2 ((M.1 22 12 l2.toNatClampNeg) - (97 : Int32)) (14 : Int32) (r29.2.1 22 3 ((M.1 22 12 l2.toNatClampNeg) - (97 : Int32)).toNatClampNeg) r29.2 hm))
      · have hm := ift hm h32
        refine g_iconst (v := -1) C dX10_find_35 rfl ?_
        obtain rfl := Option.some.inj hm
        have e9 := K9.2 _ rfl
        subst e9
        obtain rfl := Option.some.inj hk9
        exact g_iret C dX10_find_36
  unfold f_X10_find at hm
  refine g_aload_n C 0 dX10_find_0 rfl rfl ?_
  refine g_iconst (v := 0) C dX10_find_1 rfl ?_
  refine g_puti C (by decide) kf_X10_72 rfl rfl rfl dX10_find_2 ?_
  refine g_iconst (v := -1) C dX10_find_5 rfl ?_
  refine g_istore_n (ls' := [(1, vI (-1 : Int32)), (0, vR 10 0)]) C dX10_find_6 rfl (by decide) rfl ?_
  refine g_iconst (v := 0) C dX10_find_7 rfl ?_
  refine g_istore_n (ls' := [(2, vI (0 : Int32)), (1, vI (-1 : Int32)), (0, vR 10 0)]) C dX10_find_8 rfl (by decide) rfl ?_
  exact g_sub [2, 1, 0] rfl (g_pc rfl (J9 (-1 : Int32) (0 : Int32) (mI M 10 0 0 (0 : Int32)) hm))
def f_X10_stands_j77 (fu : Nat)  (l1 : Int32) (l2 : Int32) (l3 : Int32) (l5 : Int32) (t0 : Int32) (M : Mem) : Option ((Int32 × Int32 × Mem) ⊕ (Int32 × Mem)) :=
  some (Sum.inl (t0, l5 + (1 : Int32), M))
def f_X10_stands_b27 (fu : Nat)  (l1 : Int32) (l2 : Int32) (l3 : Int32) (l4 : Int32) (l5 : Int32) (M : Mem) : Option ((Int32 × Int32 × Mem) ⊕ (Int32 × Mem)) :=
  if inb l3 (alen 22 9) then if (M.1 22 9 l3.toNatClampNeg) ≤ l5 then some (Sum.inr (l4, M)) else if l4 = 0 then some (Sum.inr (l4, M)) else if inb ((((7 : Int32) * l1) + l2) + l5) (alen 22 17) then if inb (((7 : Int32) * l3) + l5) (alen 22 10) then if (M.1 22 17 ((((7 : Int32) * l1) + l2) + l5).toNatClampNeg) = (M.1 22 10 (((7 : Int32) * l3) + l5).toNatClampNeg) then f_X10_stands_j77 fu l1 l2 l3 l5 (1 : Int32) M else f_X10_stands_j77 fu l1 l2 l3 l5 (0 : Int32) M else none else none else none
def f_X10_stands_h27 (fu : Nat)   (l1 : Int32) (l2 : Int32) (l3 : Int32) (l4 : Int32) (l5 : Int32) (M : Mem) : Option (Int32 × Mem) :=
  (lp_run (fun s => f_X10_stands_b27 fu  l1 l2 l3 s.1 s.2.1 s.2.2) fu (l4, l5, M)).bind (fun r27 => match r27 with
    | (l4, M) => if l4 = 0 ∨ l4 = 1 then some (l4, M) else none)
def f_X10_stands_j22 (fu : Nat)   (l1 : Int32) (l2 : Int32) (l3 : Int32) (t0 : Int32) (M : Mem) : Option (Int32 × Mem) :=
  f_X10_stands_h27 fu l1 l2 l3 t0 (0 : Int32) M
def f_X10_stands (fu : Nat) (l1 : Int32) (l2 : Int32) (l3 : Int32) (M : Mem) : Option (Int32 × Mem) :=
  if inb l3 (alen 22 9) then if inb l1 (alen 22 16) then if (M.1 22 16 l1.toNatClampNeg) < (l2 + (M.1 22 9 l3.toNatClampNeg)) then f_X10_stands_j22 fu l1 l2 l3 (0 : Int32) M else f_X10_stands_j22 fu l1 l2 l3 (1 : Int32) M else none else none
set_option maxHeartbeats 4000000 in
set_option maxRecDepth 100000 in
theorem k_X10_stands (l : Launch) (G : GE) (hl : l.stackTraces = false) (hG : GOK G) (fu : Nat) (l1 : Int32) (l2 : Int32) (l3 : Int32) (M : Mem) (res : Int32 × Mem) (hk0 : (10, 0) ∈ gids G) (hm : f_X10_stands fu l1 l2 l3 M = some res) : CT l G yX10_stands cX10_stands 6 (some .boolean) 0 [vR 10 0, vI l1, vI l2, vI l3] M (.inl (some (vI res.1))) res.2 := by
  refine ct_of [(0, vR 10 0), (1, vI l1), (2, vI l2), (3, vI l3)] (by decide +kernel) hl hG (Nat.le_of_ble_eq_true rfl) rfl (List.forall_mem_cons.mpr ⟨Or.inl hk0, List.forall_mem_cons.mpr ⟨trivial, List.forall_mem_cons.mpr ⟨trivial, List.forall_mem_cons.mpr ⟨trivial, fun _ h => nomatch h⟩⟩⟩⟩) (List.forall_mem_cons.mpr ⟨Or.inl hk0, List.forall_mem_cons.mpr ⟨trivial, List.forall_mem_cons.mpr ⟨trivial, List.forall_mem_cons.mpr ⟨trivial, fun _ h => nomatch h⟩⟩⟩⟩) (fun X hX C => ?_)
  subst hX
  have Cl := C
  have J27 : ∀ (l1 : Int32) (l2 : Int32) (l3 : Int32) (l4 : Int32) (l5 : Int32) (M : Mem), f_X10_stands_h27 fu   l1 l2 l3 l4 l5 M = some res → GW G X 6 (QX G X (.inl (some (vI res.1))) res.2) 27 [(0, vR 10 0), (1, vI l1), (2, vI l2), (3, vI l3), (4, vI l4), (5, vI l5)] [] M := by
    intro l1 l2 l3 l4 l5 M hm
    unfold f_X10_stands_h27 at hm
    obtain ⟨r27, hL27, hk27⟩ := bnd_some hm
    have hx27 : ∀ (l4 : Int32) (M : Mem), (l4, M) = r27 → GW G X 6 (QX G X (.inl (some (vI res.1))) res.2) 85 [(4, vI l4)] [] M := by
      intro l4 M he
      subst he
      have hm := hk27
      try dsimp only at hm
      refine g_iload C 0 dX10_stands_85 rfl ?_
      obtain ⟨hz87, hm⟩ := ifn hm
      obtain rfl := Option.some.inj hm
      exact g_zret C hz87 dX10_stands_87
    refine lp_ind2 (P := (fun l4 l5 M => GW G X 6 (QX G X (.inl (some (vI res.1))) res.2) 27 [(0, vR 10 0), (1, vI l1), (2, vI l2), (3, vI l3), (4, vI l4), (5, vI l5)] [] M)) (r := r27) ?_ fu l4 l5 M hL27
    intro l4 l5 M o27 hm K27
    have J77 : ∀ (l5 : Int32) (t0 : Int32) (M : Mem), f_X10_stands_j77 fu  l1 l2 l3 l5 t0 M = some o27 → GW G X 6 (QX G X (.inl (some (vI res.1))) res.2) 77 [(0, vR 10 0), (1, vI l1), (2, vI l2), (3, vI l3), (5, vI l5)] [vI t0] M := by
      intro l5 t0 M hm
      unfold f_X10_stands_j77 at hm
      refine g_istore (ls' := [(4, vI t0), (0, vR 10 0), (1, vI l1), (2, vI l2), (3, vI l3), (5, vI l5)]) C dX10_stands_77 (by decide) rfl ?_
      refine g_iinc (ls' := [(5, vI (l5 + (1 : Int32))), (4, vI t0), (0, vR 10 0), (1, vI l1), (2, vI l2), (3, vI l3)]) (v := l5 + (1 : Int32)) C 5 dX10_stands_79 rfl (iv_p1 _) (by decide) rfl ?_
      refine g_goto (tgt := 27) C dX10_stands_82 (by decide) ?_
      obtain rfl := Option.some.inj hm
      exact g_sub [2, 3, 4, 5, 1, 0] rfl (g_pc rfl (K27.1 t0 (l5 + (1 : Int32)) M rfl))
    unfold f_X10_stands_b27 at hm
    refine g_iload C 5 dX10_stands_27 rfl ?_
    refine g_aload_n C 0 dX10_stands_29 rfl rfl ?_
    refine g_getr (k := 0) (k' := 9) C (by decide) kf_X10_29 rfl rfl dX10_stands_30 ?_
    refine g_iload_n C 3 dX10_stands_33 rfl rfl ?_
    obtain ⟨hi34, hm⟩ := ifn hm
    refine g_iald C (by decide) hi34 dX10_stands_34 ?_
    refine g_icmp_ge (tgt := 85) C dX10_stands_35 (by decide) (fun h35 => ?_) (fun h35 => ?_)
    · have hm := ift hm h35
      obtain rfl := Option.some.inj hm
      exact g_sub [4] rfl (g_pc rfl (hx27 l4 M (K27.2 _ rfl)))
    · have hm := ife hm h35
      refine g_iload C 4 dX10_stands_38 rfl ?_
      refine g_if_eq (tgt := 85) C dX10_stands_40 (by decide) (fun h40 => ?_) (fun h40 => ?_)
      · have hm := ift hm h40
        obtain rfl := Option.some.inj hm
        exact g_sub [4] rfl (g_pc rfl (hx27 l4 M (K27.2 _ rfl)))
      · have hm := ife hm h40
        refine g_aload_n C 0 dX10_stands_43 rfl rfl ?_
        refine g_getr (k := 0) (k' := 17) C (by decide) kf_X10_47 rfl rfl dX10_stands_44 ?_
        refine g_bipush (v := 7) C dX10_stands_47 rfl ?_
        refine g_iload_n C 1 dX10_stands_49 rfl rfl ?_
        refine g_imul C dX10_stands_50 ?_
        refine g_iload_n C 2 dX10_stands_51 rfl rfl ?_
        refine g_iadd C dX10_stands_52 ?_
        refine g_iload C 5 dX10_stands_53 rfl ?_
        refine g_iadd C dX10_stands_55 ?_
        obtain ⟨hi56, hm⟩ := ifn hm
        refine g_iald C (by decide) hi56 dX10_stands_56 ?_
        refine g_aload_n C 0 dX10_stands_57 rfl rfl ?_
        refine g_getr (k := 0) (k' := 10) C (by decide) kf_X10_32 rfl rfl dX10_stands_58 ?_
        refine g_bipush (v := 7) C dX10_stands_61 rfl ?_
        refine g_iload_n C 3 dX10_stands_63 rfl rfl ?_
        refine g_imul C dX10_stands_64 ?_
        refine g_iload C 5 dX10_stands_65 rfl ?_
        refine g_iadd C dX10_stands_67 ?_
        obtain ⟨hi68, hm⟩ := ifn hm
        refine g_iald C (by decide) hi68 dX10_stands_68 ?_
        refine g_icmp_ne (tgt := 76) C dX10_stands_69 (by decide) (fun h69 => ?_) (fun h69 => ?_)
        · have hm := ife hm h69
          refine g_iconst (v := 0) C dX10_stands_76 rfl ?_
          exact g_sub [0, 1, 2, 3, 5] rfl (g_pc rfl (J77 l5 (0 : Int32) M hm))
        · have hm := ift hm h69
          refine g_iconst (v := 1) C dX10_stands_72 rfl ?_
          refine g_goto (tgt := 77) C dX10_stands_73 (by decide) ?_
          exact g_sub [0, 1, 2, 3, 5] rfl (g_pc rfl (J77 l5 (1 : Int32) M hm))
  have J22 : ∀ (l1 : Int32) (l2 : Int32) (l3 : Int32) (t0 : Int32) (M : Mem), f_X10_stands_j22 fu   l1 l2 l3 t0 M = some res → GW G X 6 (QX G X (.inl (some (vI res.1))) res.2) 22 [(0, vR 10 0), (1, vI l1), (2, vI l2), (3, vI l3)] [vI t0] M := by
    intro l1 l2 l3 t0 M hm
    unfold f_X10_stands_j22 at hm
    refine g_istore (ls' := [(4, vI t0), (0, vR 10 0), (1, vI l1), (2, vI l2), (3, vI l3)]) C dX10_stands_22 (by decide) rfl ?_
    refine g_iconst (v := 0) C dX10_stands_24 rfl ?_
    refine g_istore (ls' := [(5, vI (0 : Int32)), (4, vI t0), (0, vR 10 0), (1, vI l1), (2, vI l2), (3, vI l3)]) C dX10_stands_25 (by decide) rfl ?_
    exact g_sub [2, 3, 4, 5, 1, 0] rfl (g_pc rfl (J27 l1 l2 l3 t0 (0 : Int32) M hm))
  unfold f_X10_stands at hm
  refine g_iload_n C 2 dX10_stands_0 rfl rfl ?_
  refine g_aload_n C 0 dX10_stands_1 rfl rfl ?_
  refine g_getr (k := 0) (k' := 9) C (by decide) kf_X10_29 rfl rfl dX10_stands_2 ?_
  refine g_iload_n C 3 dX10_stands_5 rfl rfl ?_
  obtain ⟨hi6, hm⟩ := ifn hm
  refine g_iald C (by decide) hi6 dX10_stands_6 ?_
  refine g_iadd C dX10_stands_7 ?_
  refine g_aload_n C 0 dX10_stands_8 rfl rfl ?_
  refine g_getr (k := 0) (k' := 16) C (by decide) kf_X10_44 rfl rfl dX10_stands_9 ?_
  refine g_iload_n C 1 dX10_stands_12 rfl rfl ?_
  obtain ⟨hi13, hm⟩ := ifn hm
  refine g_iald C (by decide) hi13 dX10_stands_13 ?_
  refine g_icmp_gt (tgt := 21) C dX10_stands_14 (by decide) (fun h14 => ?_) (fun h14 => ?_)
  · have hm := ift hm h14
    refine g_iconst (v := 0) C dX10_stands_21 rfl ?_
    exact g_sub [0, 1, 2, 3] rfl (g_pc rfl (J22 l1 l2 l3 (0 : Int32) M hm))
  · have hm := ife hm h14
    refine g_iconst (v := 1) C dX10_stands_17 rfl ?_
    refine g_goto (tgt := 22) C dX10_stands_18 (by decide) ?_
    exact g_sub [0, 1, 2, 3] rfl (g_pc rfl (J22 l1 l2 l3 (1 : Int32) M hm))
def f_X10_stepped_b49 (fu : Nat)  (l1 : Int32) (l2 : Int32) (l3 : Int32) (l4 : Int32) (l5 : Int32) (l6 : Int32) (M : Mem) : Option ((Int32 × Int32 × Mem) ⊕ (Int32 × Mem)) :=
  if l3 ≤ l6 then some (Sum.inr (l5, M)) else if inb (((7 : Int32) * l1) + l6) (alen 22 17) then if inb (((14 : Int32) * l5) + (M.1 22 17 (((7 : Int32) * l1) + l6).toNatClampNeg)) (alen 22 18) then some (Sum.inl (M.1 22 18 (((14 : Int32) * l5) + (M.1 22 17 (((7 : Int32) * l1) + l6).toNatClampNeg)).toNatClampNeg, l6 + (1 : Int32), M)) else none else none
def f_X10_stepped_b89 (fu : Nat)  (l1 : Int32) (l2 : Int32) (l3 : Int32) (l4 : Int32) (l5 : Int32) (l6 : Int32) (M : Mem) : Option ((Int32 × Int32 × Mem) ⊕ (Int32 × Mem)) :=
  if inb l4 (alen 22 9) then if (M.1 22 9 l4.toNatClampNeg) ≤ l6 then some (Sum.inr (l5, M)) else if inb (((7 : Int32) * l4) + l6) (alen 22 10) then if inb (((14 : Int32) * l5) + (M.1 22 10 (((7 : Int32) * l4) + l6).toNatClampNeg)) (alen 22 18) then some (Sum.inl (M.1 22 18 (((14 : Int32) * l5) + (M.1 22 10 (((7 : Int32) * l4) + l6).toNatClampNeg)).toNatClampNeg, l6 + (1 : Int32), M)) else none else none else none
def f_X10_stepped_b143 (fu : Nat)  (l1 : Int32) (l5 : Int32) (l6 : Int32) (M : Mem) : Option ((Int32 × Int32 × Mem) ⊕ (Int32 × Mem)) :=
  if inb l1 (alen 22 16) then if (M.1 22 16 l1.toNatClampNeg) ≤ l6 then some (Sum.inr (l5, M)) else if inb (((7 : Int32) * l1) + l6) (alen 22 17) then if inb (((14 : Int32) * l5) + (M.1 22 17 (((7 : Int32) * l1) + l6).toNatClampNeg)) (alen 22 18) then some (Sum.inl (M.1 22 18 (((14 : Int32) * l5) + (M.1 22 17 (((7 : Int32) * l1) + l6).toNatClampNeg)).toNatClampNeg, l6 + (1 : Int32), M)) else none else none else none
def f_X10_stepped_h143 (fu : Nat)   (l1 : Int32) (l5 : Int32) (l6 : Int32) (M : Mem) : Option (Int32 × Mem) :=
  (lp_run (fun s => f_X10_stepped_b143 fu  l1 s.1 s.2.1 s.2.2) fu (l5, l6, M)).bind (fun r143 => match r143 with
    | (l5, M) => some (l5, M))
def f_X10_stepped_h89 (fu : Nat)   (l1 : Int32) (l2 : Int32) (l3 : Int32) (l4 : Int32) (l5 : Int32) (l6 : Int32) (M : Mem) : Option (Int32 × Mem) :=
  (lp_run (fun s => f_X10_stepped_b89 fu  l1 l2 l3 l4 s.1 s.2.1 s.2.2) fu (l5, l6, M)).bind (fun r89 => match r89 with
    | (l5, M) => if inb l2 (alen 22 9) then f_X10_stepped_h143 fu l1 l5 (l3 + (M.1 22 9 l2.toNatClampNeg)) M else none)
def f_X10_stepped_h49 (fu : Nat)   (l1 : Int32) (l2 : Int32) (l3 : Int32) (l4 : Int32) (l5 : Int32) (l6 : Int32) (M : Mem) : Option (Int32 × Mem) :=
  (lp_run (fun s => f_X10_stepped_b49 fu  l1 l2 l3 l4 s.1 s.2.1 s.2.2) fu (l5, l6, M)).bind (fun r49 => match r49 with
    | (l5, M) => f_X10_stepped_h89 fu l1 l2 l3 l4 l5 (0 : Int32) M)
def f_X10_stepped_j36 (fu : Nat)   (l1 : Int32) (l2 : Int32) (l3 : Int32) (t0 : Int32) (M : Mem) : Option (Int32 × Mem) :=
  if inb l1 (alen 22 14) then f_X10_stepped_h49 fu l1 l2 l3 t0 (M.1 22 14 l1.toNatClampNeg) (0 : Int32) M else none
def f_X10_stepped (fu : Nat) (l1 : Int32) (l2 : Int32) (l3 : Int32) (M : Mem) : Option (Int32 × Mem) :=
  if inb l2 (alen 22 9) then if (M.1 22 9 l2.toNatClampNeg) = 0 then some ((-1 : Int32), M) else (f_X10_stands fu l1 l3 l2 M).bind (fun r13 => if r13.1 = 0 then some ((-1 : Int32), r13.2) else if (l2 - l2 / (2 : Int32) * (2 : Int32)) = 0 then f_X10_stepped_j36 fu l1 l2 l3 (l2 + (1 : Int32)) r13.2 else f_X10_stepped_j36 fu l1 l2 l3 (l2 - (1 : Int32)) r13.2) else none
set_option maxHeartbeats 4000000 in
set_option maxRecDepth 100000 in
theorem k_X10_stepped (l : Launch) (G : GE) (hl : l.stackTraces = false) (hG : GOK G) (fu : Nat) (l1 : Int32) (l2 : Int32) (l3 : Int32) (M : Mem) (res : Int32 × Mem) (hk0 : (10, 0) ∈ gids G) (hm : f_X10_stepped fu l1 l2 l3 M = some res) : CT l G yX10_stepped cX10_stepped 7 (some .int) 1 [vR 10 0, vI l1, vI l2, vI l3] M (.inl (some (vI res.1))) res.2 := by
  refine ct_of [(0, vR 10 0), (1, vI l1), (2, vI l2), (3, vI l3)] (by decide +kernel) hl hG (Nat.le_of_ble_eq_true rfl) rfl (List.forall_mem_cons.mpr ⟨Or.inl hk0, List.forall_mem_cons.mpr ⟨trivial, List.forall_mem_cons.mpr ⟨trivial, List.forall_mem_cons.mpr ⟨trivial, fun _ h => nomatch h⟩⟩⟩⟩) (List.forall_mem_cons.mpr ⟨Or.inl hk0, List.forall_mem_cons.mpr ⟨trivial, List.forall_mem_cons.mpr ⟨trivial, List.forall_mem_cons.mpr ⟨trivial, fun _ h => nomatch h⟩⟩⟩⟩) (fun X hX C => ?_)
  subst hX
  have Cl := C
  have J143 : ∀ (l1 : Int32) (l5 : Int32) (l6 : Int32) (M : Mem), f_X10_stepped_h143 fu   l1 l5 l6 M = some res → GW G X 7 (QX G X (.inl (some (vI res.1))) res.2) 143 [(0, vR 10 0), (1, vI l1), (5, vI l5), (6, vI l6)] [] M := by
    intro l1 l5 l6 M hm
    unfold f_X10_stepped_h143 at hm
    obtain ⟨r143, hL143, hk143⟩ := bnd_some hm
    have hx143 : ∀ (l5 : Int32) (M : Mem), (l5, M) = r143 → GW G X 7 (QX G X (.inl (some (vI res.1))) res.2) 185 [(5, vI l5)] [] M := by
      intro l5 M he
      subst he
      have hm := hk143
      try dsimp only at hm
      refine g_iload C 0 dX10_stepped_185 rfl ?_
      obtain rfl := Option.some.inj hm
      exact g_iret C dX10_stepped_187
    refine lp_ind2 (P := (fun l5 l6 M => GW G X 7 (QX G X (.inl (some (vI res.1))) res.2) 143 [(0, vR 10 0), (1, vI l1), (5, vI l5), (6, vI l6)] [] M)) (r := r143) ?_ fu l5 l6 M hL143
    intro l5 l6 M o143 hm K143
    unfold f_X10_stepped_b143 at hm
    refine g_iload C 3 dX10_stepped_143 rfl ?_
    refine g_aload_n C 0 dX10_stepped_145 rfl rfl ?_
    refine g_getr (k := 0) (k' := 16) C (by decide) kf_X10_44 rfl rfl dX10_stepped_146 ?_
    refine g_iload_n C 1 dX10_stepped_149 rfl rfl ?_
    obtain ⟨hi150, hm⟩ := ifn hm
    refine g_iald C (by decide) hi150 dX10_stepped_150 ?_
    refine g_icmp_ge (tgt := 185) C dX10_stepped_151 (by decide) (fun h151 => ?_) (fun h151 => ?_)
    · have hm := ift hm h151
      obtain rfl := Option.some.inj hm
      exact g_sub [2] rfl (g_pc rfl (hx143 l5 M (K143.2 _ rfl)))
    · have hm := ife hm h151
      refine g_aload_n C 0 dX10_stepped_154 rfl rfl ?_
      refine g_getr (k := 0) (k' := 18) C (by decide) kf_X10_50 rfl rfl dX10_stepped_155 ?_
      refine g_bipush (v := 14) C dX10_stepped_158 rfl ?_
      refine g_iload C 2 dX10_stepped_160 rfl ?_
      refine g_imul C dX10_stepped_162 ?_
      refine g_aload_n C 0 dX10_stepped_163 rfl rfl ?_
      refine g_getr (k := 0) (k' := 17) C (by decide) kf_X10_47 rfl rfl dX10_stepped_164 ?_
      refine g_bipush (v := 7) C dX10_stepped_167 rfl ?_
      refine g_iload_n C 1 dX10_stepped_169 rfl rfl ?_
      refine g_imul C dX10_stepped_170 ?_
      refine g_iload C 3 dX10_stepped_171 rfl ?_
      refine g_iadd C dX10_stepped_173 ?_
      obtain ⟨hi174, hm⟩ := ifn hm
      refine g_iald C (by decide) hi174 dX10_stepped_174 ?_
      refine g_iadd C dX10_stepped_175 ?_
      obtain ⟨hi176, hm⟩ := ifn hm
      refine g_iald C (by decide) hi176 dX10_stepped_176 ?_
      refine g_istore (ls' := [(5, vI (M.1 22 18 (((14 : Int32) * l5) + (M.1 22 17 (((7 : Int32) * l1) + l6).toNatClampNeg)).toNatClampNeg)), (0, vR 10 0), (1, vI l1), (6, vI l6)]) C dX10_stepped_177 (by decide) rfl ?_
      refine g_iinc (ls' := [(6, vI (l6 + (1 : Int32))), (5, vI (M.1 22 18 (((14 : Int32) * l5) + (M.1 22 17 (((7 : Int32) * l1) + l6).toNatClampNeg)).toNatClampNeg)), (0, vR 10 0), (1, vI l1)]) (v := l6 + (1 : Int32)) C 3 dX10_stepped_179 rfl (iv_p1 _) (by decide) rfl ?_
      refine g_goto (tgt := 143) C dX10_stepped_182 (by decide) ?_
      obtain rfl := Option.some.inj hm
      exact g_sub [2, 3, 1, 0] rfl (g_pc rfl (K143.1 (M.1 22 18 (((14 : Int32) * l5) + (M.1 22 17 (((7 : Int32) * l1) + l6).toNatClampNeg)).toNatClampNeg) (l6 + (1 : Int32)) M rfl))
  have J89 : ∀ (l1 : Int32) (l2 : Int32) (l3 : Int32) (l4 : Int32) (l5 : Int32) (l6 : Int32) (M : Mem), f_X10_stepped_h89 fu   l1 l2 l3 l4 l5 l6 M = some res → GW G X 7 (QX G X (.inl (some (vI res.1))) res.2) 89 [(0, vR 10 0), (1, vI l1), (2, vI l2), (3, vI l3), (4, vI l4), (5, vI l5), (6, vI l6)] [] M := by
    intro l1 l2 l3 l4 l5 l6 M hm
    unfold f_X10_stepped_h89 at hm
    obtain ⟨r89, hL89, hk89⟩ := bnd_some hm
    have hx89 : ∀ (l5 : Int32) (M : Mem), (l5, M) = r89 → GW G X 7 (QX G X (.inl (some (vI res.1))) res.2) 133 [(0, vR 10 0), (1, vI l1), (2, vI l2), (3, vI l3), (5, vI l5)] [] M := by
      intro l5 M he
      subst he
      have hm := hk89
      try dsimp only at hm
      refine g_iload_n C 3 dX10_stepped_133 rfl rfl ?_
      refine g_aload_n C 0 dX10_stepped_134 rfl rfl ?_
      refine g_getr (k := 0) (k' := 9) C (by decide) kf_X10_29 rfl rfl dX10_stepped_135 ?_
      refine g_iload_n C 2 dX10_stepped_138 rfl rfl ?_
      obtain ⟨hi139, hm⟩ := ifn hm
      refine g_iald C (by decide) hi139 dX10_stepped_139 ?_
      refine g_iadd C dX10_stepped_140 ?_
      refine g_istore (ls' := [(6, vI (l3 + (M.1 22 9 l2.toNatClampNeg))), (0, vR 10 0), (1, vI l1), (2, vI l2), (3, vI l3), (5, vI l5)]) C dX10_stepped_141 (by decide) rfl ?_
      exact g_sub [1, 2, 5, 0] rfl (g_pc rfl (J143 l1 l5 (l3 + (M.1 22 9 l2.toNatClampNeg)) M hm))
    refine lp_ind2 (P := (fun l5 l6 M => GW G X 7 (QX G X (.inl (some (vI res.1))) res.2) 89 [(0, vR 10 0), (1, vI l1), (2, vI l2), (3, vI l3), (4, vI l4), (5, vI l5), (6, vI l6)] [] M)) (r := r89) ?_ fu l5 l6 M hL89
    intro l5 l6 M o89 hm K89
    unfold f_X10_stepped_b89 at hm
    refine g_iload C 6 dX10_stepped_89 rfl ?_
    refine g_aload_n C 0 dX10_stepped_91 rfl rfl ?_
    refine g_getr (k := 0) (k' := 9) C (by decide) kf_X10_29 rfl rfl dX10_stepped_92 ?_
    refine g_iload C 4 dX10_stepped_95 rfl ?_
    obtain ⟨hi97, hm⟩ := ifn hm
    refine g_iald C (by decide) hi97 dX10_stepped_97 ?_
    refine g_icmp_ge (tgt := 133) C dX10_stepped_98 (by decide) (fun h98 => ?_) (fun h98 => ?_)
    · have hm := ift hm h98
      obtain rfl := Option.some.inj hm
      exact g_sub [0, 1, 2, 3, 5] rfl (g_pc rfl (hx89 l5 M (K89.2 _ rfl)))
    · have hm := ife hm h98
      refine g_aload_n C 0 dX10_stepped_101 rfl rfl ?_
      refine g_getr (k := 0) (k' := 18) C (by decide) kf_X10_50 rfl rfl dX10_stepped_102 ?_
      refine g_bipush (v := 14) C dX10_stepped_105 rfl ?_
      refine g_iload C 5 dX10_stepped_107 rfl ?_
      refine g_imul C dX10_stepped_109 ?_
      refine g_aload_n C 0 dX10_stepped_110 rfl rfl ?_
      refine g_getr (k := 0) (k' := 10) C (by decide) kf_X10_32 rfl rfl dX10_stepped_111 ?_
      refine g_bipush (v := 7) C dX10_stepped_114 rfl ?_
      refine g_iload C 4 dX10_stepped_116 rfl ?_
      refine g_imul C dX10_stepped_118 ?_
      refine g_iload C 6 dX10_stepped_119 rfl ?_
      refine g_iadd C dX10_stepped_121 ?_
      obtain ⟨hi122, hm⟩ := ifn hm
      refine g_iald C (by decide) hi122 dX10_stepped_122 ?_
      refine g_iadd C dX10_stepped_123 ?_
      obtain ⟨hi124, hm⟩ := ifn hm
      refine g_iald C (by decide) hi124 dX10_stepped_124 ?_
      refine g_istore (ls' := [(5, vI (M.1 22 18 (((14 : Int32) * l5) + (M.1 22 10 (((7 : Int32) * l4) + l6).toNatClampNeg)).toNatClampNeg)), (0, vR 10 0), (1, vI l1), (2, vI l2), (3, vI l3), (4, vI l4), (6, vI l6)]) C dX10_stepped_125 (by decide) rfl ?_
      refine g_iinc (ls' := [(6, vI (l6 + (1 : Int32))), (5, vI (M.1 22 18 (((14 : Int32) * l5) + (M.1 22 10 (((7 : Int32) * l4) + l6).toNatClampNeg)).toNatClampNeg)), (0, vR 10 0), (1, vI l1), (2, vI l2), (3, vI l3), (4, vI l4)]) (v := l6 + (1 : Int32)) C 6 dX10_stepped_127 rfl (iv_p1 _) (by decide) rfl ?_
      refine g_goto (tgt := 89) C dX10_stepped_130 (by decide) ?_
      obtain rfl := Option.some.inj hm
      exact g_sub [2, 3, 4, 5, 6, 1, 0] rfl (g_pc rfl (K89.1 (M.1 22 18 (((14 : Int32) * l5) + (M.1 22 10 (((7 : Int32) * l4) + l6).toNatClampNeg)).toNatClampNeg) (l6 + (1 : Int32)) M rfl))
  have J49 : ∀ (l1 : Int32) (l2 : Int32) (l3 : Int32) (l4 : Int32) (l5 : Int32) (l6 : Int32) (M : Mem), f_X10_stepped_h49 fu   l1 l2 l3 l4 l5 l6 M = some res → GW G X 7 (QX G X (.inl (some (vI res.1))) res.2) 49 [(0, vR 10 0), (1, vI l1), (2, vI l2), (3, vI l3), (4, vI l4), (5, vI l5), (6, vI l6)] [] M := by
    intro l1 l2 l3 l4 l5 l6 M hm
    unfold f_X10_stepped_h49 at hm
    obtain ⟨r49, hL49, hk49⟩ := bnd_some hm
    have hx49 : ∀ (l5 : Int32) (M : Mem), (l5, M) = r49 → GW G X 7 (QX G X (.inl (some (vI res.1))) res.2) 86 [(0, vR 10 0), (1, vI l1), (2, vI l2), (3, vI l3), (4, vI l4), (5, vI l5)] [] M := by
      intro l5 M he
      subst he
      have hm := hk49
      try dsimp only at hm
      refine g_iconst (v := 0) C dX10_stepped_86 rfl ?_
      refine g_istore (ls' := [(6, vI (0 : Int32)), (0, vR 10 0), (1, vI l1), (2, vI l2), (3, vI l3), (4, vI l4), (5, vI l5)]) C dX10_stepped_87 (by decide) rfl ?_
      exact g_sub [1, 2, 3, 4, 5, 6, 0] rfl (g_pc rfl (J89 l1 l2 l3 l4 l5 (0 : Int32) M hm))
    refine lp_ind2 (P := (fun l5 l6 M => GW G X 7 (QX G X (.inl (some (vI res.1))) res.2) 49 [(0, vR 10 0), (1, vI l1), (2, vI l2), (3, vI l3), (4, vI l4), (5, vI l5), (6, vI l6)] [] M)) (r := r49) ?_ fu l5 l6 M hL49
    intro l5 l6 M o49 hm K49
    unfold f_X10_stepped_b49 at hm
    refine g_iload C 6 dX10_stepped_49 rfl ?_
    refine g_iload_n C 3 dX10_stepped_51 rfl rfl ?_
    refine g_icmp_ge (tgt := 86) C dX10_stepped_52 (by decide) (fun h52 => ?_) (fun h52 => ?_)
    · have hm := ift hm h52
      obtain rfl := Option.some.inj hm
      exact g_sub [0, 1, 2, 3, 4, 5] rfl (g_pc rfl (hx49 l5 M (K49.2 _ rfl)))
    · have hm := ife hm h52
      refine g_aload_n C 0 dX10_stepped_55 rfl rfl ?_
      refine g_getr (k := 0) (k' := 18) C (by decide) kf_X10_50 rfl rfl dX10_stepped_56 ?_
      refine g_bipush (v := 14) C dX10_stepped_59 rfl ?_
      refine g_iload C 5 dX10_stepped_61 rfl ?_
      refine g_imul C dX10_stepped_63 ?_
      refine g_aload_n C 0 dX10_stepped_64 rfl rfl ?_
      refine g_getr (k := 0) (k' := 17) C (by decide) kf_X10_47 rfl rfl dX10_stepped_65 ?_
      refine g_bipush (v := 7) C dX10_stepped_68 rfl ?_
      refine g_iload_n C 1 dX10_stepped_70 rfl rfl ?_
      refine g_imul C dX10_stepped_71 ?_
      refine g_iload C 6 dX10_stepped_72 rfl ?_
      refine g_iadd C dX10_stepped_74 ?_
      obtain ⟨hi75, hm⟩ := ifn hm
      refine g_iald C (by decide) hi75 dX10_stepped_75 ?_
      refine g_iadd C dX10_stepped_76 ?_
      obtain ⟨hi77, hm⟩ := ifn hm
      refine g_iald C (by decide) hi77 dX10_stepped_77 ?_
      refine g_istore (ls' := [(5, vI (M.1 22 18 (((14 : Int32) * l5) + (M.1 22 17 (((7 : Int32) * l1) + l6).toNatClampNeg)).toNatClampNeg)), (0, vR 10 0), (1, vI l1), (2, vI l2), (3, vI l3), (4, vI l4), (6, vI l6)]) C dX10_stepped_78 (by decide) rfl ?_
      refine g_iinc (ls' := [(6, vI (l6 + (1 : Int32))), (5, vI (M.1 22 18 (((14 : Int32) * l5) + (M.1 22 17 (((7 : Int32) * l1) + l6).toNatClampNeg)).toNatClampNeg)), (0, vR 10 0), (1, vI l1), (2, vI l2), (3, vI l3), (4, vI l4)]) (v := l6 + (1 : Int32)) C 6 dX10_stepped_80 rfl (iv_p1 _) (by decide) rfl ?_
      refine g_goto (tgt := 49) C dX10_stepped_83 (by decide) ?_
      obtain rfl := Option.some.inj hm
      exact g_sub [2, 3, 4, 5, 6, 1, 0] rfl (g_pc rfl (K49.1 (M.1 22 18 (((14 : Int32) * l5) + (M.1 22 17 (((7 : Int32) * l1) + l6).toNatClampNeg)).toNatClampNeg) (l6 + (1 : Int32)) M rfl))
  have J36 : ∀ (l1 : Int32) (l2 : Int32) (l3 : Int32) (t0 : Int32) (M : Mem), f_X10_stepped_j36 fu   l1 l2 l3 t0 M = some res → GW G X 7 (QX G X (.inl (some (vI res.1))) res.2) 36 [(0, vR 10 0), (1, vI l1), (2, vI l2), (3, vI l3)] [vI t0] M := by
    intro l1 l2 l3 t0 M hm
    unfold f_X10_stepped_j36 at hm
    refine g_istore (ls' := [(4, vI t0), (0, vR 10 0), (1, vI l1), (2, vI l2), (3, vI l3)]) C dX10_stepped_36 (by decide) rfl ?_
    refine g_aload_n C 1 dX10_stepped_38 rfl rfl ?_
    refine g_getr (k := 0) (k' := 14) C (by decide) kf_X10_38 rfl rfl dX10_stepped_39 ?_
    refine g_iload_n C 2 dX10_stepped_42 rfl rfl ?_
    obtain ⟨hi43, hm⟩ := ifn hm
    refine g_iald C (by decide) hi43 dX10_stepped_43 ?_
    refine g_istore (ls' := [(5, vI (M.1 22 14 l1.toNatClampNeg)), (4, vI t0), (0, vR 10 0), (1, vI l1), (2, vI l2), (3, vI l3)]) C dX10_stepped_44 (by decide) rfl ?_
    refine g_iconst (v := 0) C dX10_stepped_46 rfl ?_
    refine g_istore (ls' := [(6, vI (0 : Int32)), (5, vI (M.1 22 14 l1.toNatClampNeg)), (4, vI t0), (0, vR 10 0), (1, vI l1), (2, vI l2), (3, vI l3)]) C dX10_stepped_47 (by decide) rfl ?_
    exact g_sub [3, 4, 5, 6, 2, 1, 0] rfl (g_pc rfl (J49 l1 l2 l3 t0 (M.1 22 14 l1.toNatClampNeg) (0 : Int32) M hm))
  unfold f_X10_stepped at hm
  refine g_aload_n C 0 dX10_stepped_0 rfl rfl ?_
  refine g_getr (k := 0) (k' := 9) C (by decide) kf_X10_29 rfl rfl dX10_stepped_1 ?_
  refine g_iload_n C 2 dX10_stepped_4 rfl rfl ?_
  obtain ⟨hi5, hm⟩ := ifn hm
  refine g_iald C (by decide) hi5 dX10_stepped_5 ?_
  refine g_if_eq (tgt := 19) C dX10_stepped_6 (by decide) (fun h6 => ?_) (fun h6 => ?_)
  · have hm := ift hm h6
    refine g_iconst (v := -1) C dX10_stepped_19 rfl ?_
    obtain rfl := Option.some.inj hm
    exact g_iret C dX10_stepped_20
  · have hm := ife hm h6
    refine g_aload_n C 0 dX10_stepped_9 rfl rfl ?_
    refine g_iload_n C 1 dX10_stepped_10 rfl rfl ?_
    refine g_iload_n C 3 dX10_stepped_11 rfl rfl ?_
    refine g_iload_n C 2 dX10_stepped_12 rfl rfl ?_
    obtain ⟨r13, hr13, hm⟩ := bnd_some hm
    refine g_callVi (As := [vI l1, vI l3, vI l2]) (rest := []) C lk_X10_172 (k_X10_stands X.2.1 G hl hG fu l1 l3 l2 M r13 hk0 hr13) (by decide) rfl rfl rfl (Nat.le_of_ble_eq_true rfl) ⟨Nat.le_of_ble_eq_true rfl, Nat.le_of_ble_eq_true rfl⟩ dX10_stepped_13 ?_
    refine g_if_ne (tgt := 21) C dX10_stepped_16 (by decide) (fun h16 => ?_) (fun h16 => ?_)
    · have hm := ife hm h16
      refine g_iload_n C 2 dX10_stepped_21 rfl rfl ?_
      refine g_iconst (v := 2) C dX10_stepped_22 rfl ?_
      refine g_irem C dX10_stepped_23 (by decide) ?_
      refine g_if_ne (tgt := 33) C dX10_stepped_24 (by decide) (fun h24 => ?_) (fun h24 => ?_)
      · have hm := ife hm h24
        refine g_iload_n C 2 dX10_stepped_33 rfl rfl ?_
        refine g_iconst (v := 1) C dX10_stepped_34 rfl ?_
        refine g_isub C dX10_stepped_35 ?_
        exact g_sub [0, 1, 2, 3] rfl (g_pc rfl (J36 l1 l2 l3 (l2 - (1 : Int32)) r13.2 hm))
      · have hm := ift hm h24
        refine g_iload_n C 2 dX10_stepped_27 rfl rfl ?_
        refine g_iconst (v := 1) C dX10_stepped_28 rfl ?_
        refine g_iadd C dX10_stepped_29 ?_
        refine g_goto (tgt := 36) C dX10_stepped_30 (by decide) ?_
        exact g_sub [0, 1, 2, 3] rfl (g_pc rfl (J36 l1 l2 l3 (l2 + (1 : Int32)) r13.2 hm))
    · have hm := ift hm h16
      refine g_iconst (v := -1) C dX10_stepped_19 rfl ?_
      obtain rfl := Option.some.inj hm
      exact g_iret C dX10_stepped_20
def f_X10_spread_j146 (fu : Nat)  (l1 : Int32) (l2 : Int32) (l4 : Int32) (l5 : Int32) (l3 : Int32) (l6 : Int32) (M : Mem) : Option ((Int32 × Int32 × Mem) ⊕ (Int32 × Mem)) :=
  some (Sum.inl (l3, l6 + (1 : Int32), M))
def f_X10_spread_j92 (fu : Nat)  (l1 : Int32) (l2 : Int32) (l4 : Int32) (l5 : Int32) (l3 : Int32) (l6 : Int32) (t0 : Int32) (M : Mem) : Option ((Int32 × Int32 × Mem) ⊕ (Int32 × Mem)) :=
  if t0 = (-1 : Int32) then f_X10_spread_j146 fu l1 l2 l4 l5 l3 l6 M else if inb t0 (alen 22 25) then if (M.1 22 25 t0.toNatClampNeg) = (-1 : Int32) then if inb l5 (alen 22 25) then if inb t0 (alen 22 25) then if inb t0 (alen 22 26) then if inb l3 (alen 22 27) then f_X10_spread_j146 fu l1 l2 l4 l5 (l3 + (1 : Int32)) l6 (mI (mI (mI M 22 25 t0.toNatClampNeg ((M.1 22 25 l5.toNatClampNeg) + (1 : Int32))) 22 26 t0.toNatClampNeg l1) 22 27 l3.toNatClampNeg t0) else none else none else none else none else f_X10_spread_j146 fu l1 l2 l4 l5 l3 l6 M else none
def f_X10_spread_b44 (fu : Nat)  (l1 : Int32) (l2 : Int32) (l4 : Int32) (l5 : Int32) (l3 : Int32) (l6 : Int32) (M : Mem) : Option ((Int32 × Int32 × Mem) ⊕ (Int32 × Mem)) :=
  if ((14 : Int32) * (M.1 10 0 7)) ≤ l6 then some (Sum.inr (l3, M)) else if ((l2 >>> (((l6 / (7 : Int32)) / (2 : Int32)) &&& 31)) &&& (1 : Int32)) = (1 : Int32) then (f_X10_stepped fu l5 (l6 / (7 : Int32)) (l6 - l6 / (7 : Int32) * (7 : Int32)) M).bind (fun r85 => f_X10_spread_j92 fu l1 l2 l4 l5 l3 l6 r85.1 r85.2) else f_X10_spread_j92 fu l1 l2 l4 l5 l3 l6 (-1 : Int32) M
def f_X10_spread_h44 (fu : Nat)  (l1 : Int32) (l2 : Int32) (l3 : Int32) (l4 : Int32) (l5 : Int32) (l6 : Int32) (M : Mem) : Option ((Int32 × Int32 × Mem) ⊕ (Int32 × Mem)) :=
  (lp_run (fun s => f_X10_spread_b44 fu  l1 l2 l4 l5 s.1 s.2.1 s.2.2) fu (l3, l6, M)).bind (fun r44 => match r44 with
    | (l3, M) => some (Sum.inl (l3, l4 + (1 : Int32), M)))
def f_X10_spread_b26 (fu : Nat)  (l1 : Int32) (l2 : Int32) (l3 : Int32) (l4 : Int32) (M : Mem) : Option ((Int32 × Int32 × Mem) ⊕ (Int32 × Mem)) :=
  if l3 ≤ l4 then some (Sum.inr (l3, M)) else if inb l4 (alen 22 27) then f_X10_spread_h44 fu l1 l2 l3 l4 (M.1 22 27 l4.toNatClampNeg) (0 : Int32) M else none
def f_X10_spread_h26 (fu : Nat)   (l1 : Int32) (l2 : Int32) (l3 : Int32) (l4 : Int32) (M : Mem) : Option (Int32 × Mem) :=
  (lp_run (fun s => f_X10_spread_b26 fu  l1 l2 s.1 s.2.1 s.2.2) fu (l3, l4, M)).bind (fun r26 => match r26 with
    | (l3, M) => some (l3, M))
def f_X10_spread (fu : Nat) (l1 : Int32) (l2 : Int32) (M : Mem) : Option (Int32 × Mem) :=
  if inb (0 : Int32) (alen 22 27) then if inb l1 (alen 22 25) then if inb l1 (alen 22 26) then f_X10_spread_h26 fu l1 l2 (1 : Int32) (0 : Int32) (mI (mI (mI M 22 27 (0 : Int32).toNatClampNeg l1) 22 25 l1.toNatClampNeg (0 : Int32)) 22 26 l1.toNatClampNeg l1) else none else none else none
set_option maxHeartbeats 4000000 in
set_option maxRecDepth 100000 in
theorem k_X10_spread (l : Launch) (G : GE) (hl : l.stackTraces = false) (hG : GOK G) (fu : Nat) (l1 : Int32) (l2 : Int32) (M : Mem) (res : Int32 × Mem) (hk0 : (10, 0) ∈ gids G) (hm : f_X10_spread fu l1 l2 M = some res) : CT l G yX10_spread cX10_spread 9 (some .int) 2 [vR 10 0, vI l1, vI l2] M (.inl (some (vI res.1))) res.2 := by
  refine ct_of [(0, vR 10 0), (1, vI l1), (2, vI l2)] (by decide +kernel) hl hG (Nat.le_of_ble_eq_true rfl) rfl (List.forall_mem_cons.mpr ⟨Or.inl hk0, List.forall_mem_cons.mpr ⟨trivial, List.forall_mem_cons.mpr ⟨trivial, fun _ h => nomatch h⟩⟩⟩) (List.forall_mem_cons.mpr ⟨Or.inl hk0, List.forall_mem_cons.mpr ⟨trivial, List.forall_mem_cons.mpr ⟨trivial, fun _ h => nomatch h⟩⟩⟩) (fun X hX C => ?_)
  subst hX
  have Cl := C
  have J26 : ∀ (l1 : Int32) (l2 : Int32) (l3 : Int32) (l4 : Int32) (M : Mem), f_X10_spread_h26 fu   l1 l2 l3 l4 M = some res → GW G X 9 (QX G X (.inl (some (vI res.1))) res.2) 26 [(0, vR 10 0), (1, vI l1), (2, vI l2), (3, vI l3), (4, vI l4)] [] M := by
    intro l1 l2 l3 l4 M hm
    unfold f_X10_spread_h26 at hm
    obtain ⟨r26, hL26, hk26⟩ := bnd_some hm
    have hx26 : ∀ (l3 : Int32) (M : Mem), (l3, M) = r26 → GW G X 9 (QX G X (.inl (some (vI res.1))) res.2) 158 [(3, vI l3)] [] M := by
      intro l3 M he
      subst he
      have hm := hk26
      try dsimp only at hm
      refine g_iload_n C 0 dX10_spread_158 rfl rfl ?_
      obtain rfl := Option.some.inj hm
      exact g_iret C dX10_spread_159
    refine lp_ind2 (P := (fun l3 l4 M => GW G X 9 (QX G X (.inl (some (vI res.1))) res.2) 26 [(0, vR 10 0), (1, vI l1), (2, vI l2), (3, vI l3), (4, vI l4)] [] M)) (r := r26) ?_ fu l3 l4 M hL26
    intro l3 l4 M o26 hm K26
    have J44 : ∀ (l3 : Int32) (l4 : Int32) (l5 : Int32) (l6 : Int32) (M : Mem), f_X10_spread_h44 fu  l1 l2 l3 l4 l5 l6 M = some o26 → GW G X 9 (QX G X (.inl (some (vI res.1))) res.2) 44 [(0, vR 10 0), (1, vI l1), (2, vI l2), (3, vI l3), (4, vI l4), (5, vI l5), (6, vI l6)] [] M := by
      intro l3 l4 l5 l6 M hm
      unfold f_X10_spread_h44 at hm
      obtain ⟨r44, hL44, hk44⟩ := bnd_some hm
      have hx44 : ∀ (l3 : Int32) (M : Mem), (l3, M) = r44 → GW G X 9 (QX G X (.inl (some (vI res.1))) res.2) 152 [(0, vR 10 0), (1, vI l1), (2, vI l2), (3, vI l3), (4, vI l4)] [] M := by
        intro l3 M he
        subst he
        have hm := hk44
        try dsimp only at hm
        refine g_iinc (ls' := [(4, vI (l4 + (1 : Int32))), (0, vR 10 0), (1, vI l1), (2, vI l2), (3, vI l3)]) (v := l4 + (1 : Int32)) C 4 dX10_spread_152 rfl (iv_p1 _) (by decide) rfl ?_
        refine g_goto (tgt := 26) C dX10_spread_155 (by decide) ?_
        obtain rfl := Option.some.inj hm
        exact g_sub [1, 2, 3, 4, 0] rfl (g_pc rfl (K26.1 l3 (l4 + (1 : Int32)) M rfl))
      refine lp_ind2 (P := (fun l3 l6 M => GW G X 9 (QX G X (.inl (some (vI res.1))) res.2) 44 [(0, vR 10 0), (1, vI l1), (2, vI l2), (3, vI l3), (4, vI l4), (5, vI l5), (6, vI l6)] [] M)) (r := r44) ?_ fu l3 l6 M hL44
      intro l3 l6 M o44 hm K44
      have J146 : ∀ (l3 : Int32) (l6 : Int32) (M : Mem), f_X10_spread_j146 fu  l1 l2 l4 l5 l3 l6 M = some o44 → GW G X 9 (QX G X (.inl (some (vI res.1))) res.2) 146 [(0, vR 10 0), (1, vI l1), (2, vI l2), (3, vI l3), (4, vI l4), (5, vI l5), (6, vI l6)] [] M := by
        intro l3 l6 M hm
        unfold f_X10_spread_j146 at hm
        refine g_iinc (ls' := [(6, vI (l6 + (1 : Int32))), (0, vR 10 0), (1, vI l1), (2, vI l2), (3, vI l3), (4, vI l4), (5, vI l5)]) (v := l6 + (1 : Int32)) C 6 dX10_spread_146 rfl (iv_p1 _) (by decide) rfl ?_
        refine g_goto (tgt := 44) C dX10_spread_149 (by decide) ?_
        obtain rfl := Option.some.inj hm
        exact g_sub [1, 2, 3, 4, 5, 6, 0] rfl (g_pc rfl (K44.1 l3 (l6 + (1 : Int32)) M rfl))
      have J92 : ∀ (l3 : Int32) (l6 : Int32) (t0 : Int32) (M : Mem), f_X10_spread_j92 fu  l1 l2 l4 l5 l3 l6 t0 M = some o44 → GW G X 9 (QX G X (.inl (some (vI res.1))) res.2) 92 [(0, vR 10 0), (1, vI l1), (2, vI l2), (3, vI l3), (4, vI l4), (5, vI l5), (6, vI l6)] [vI t0] M := by
        intro l3 l6 t0 M hm
        unfold f_X10_spread_j92 at hm
        refine g_istore (ls' := [(8, vI t0), (0, vR 10 0), (1, vI l1), (2, vI l2), (3, vI l3), (4, vI l4), (5, vI l5), (6, vI l6)]) C dX10_spread_92 (by decide) rfl ?_
        refine g_iload C 0 dX10_spread_94 rfl ?_
        refine g_iconst (v := -1) C dX10_spread_96 rfl ?_
        refine g_icmp_eq (tgt := 146) C dX10_spread_97 (by decide) (fun h97 => ?_) (fun h97 => ?_)
        · have hm := ift hm h97
          exact g_sub [1, 2, 3, 4, 5, 6, 7] rfl (g_pc rfl (J146 l3 l6 M hm))
        · have hm := ife hm h97
          refine g_aload_n C 1 dX10_spread_100 rfl rfl ?_
          refine g_getr (k := 0) (k' := 25) C (by decide) kf_X10_53 rfl rfl dX10_spread_101 ?_
          refine g_iload C 0 dX10_spread_104 rfl ?_
          obtain ⟨hi106, hm⟩ := ifn hm
          refine g_iald C (by decide) hi106 dX10_spread_106 ?_
          refine g_iconst (v := -1) C dX10_spread_107 rfl ?_
          refine g_icmp_ne (tgt := 146) C dX10_spread_108 (by decide) (fun h108 => ?_) (fun h108 => ?_)
          · have hm := ife hm h108
            exact g_sub [1, 2, 3, 4, 5, 6, 7] rfl (g_pc rfl (J146 l3 l6 M hm))
          · have hm := ift hm h108
            refine g_aload_n C 1 dX10_spread_111 rfl rfl ?_
            refine g_getr (k := 0) (k' := 25) C (by decide) kf_X10_53 rfl rfl dX10_spread_112 ?_
            refine g_iload C 0 dX10_spread_115 rfl ?_
            refine g_aload_n C 1 dX10_spread_117 rfl rfl ?_
            refine g_getr (k := 0) (k' := 25) C (by decide) kf_X10_53 rfl rfl dX10_spread_118 ?_
            refine g_iload C 6 dX10_spread_121 rfl ?_
            obtain ⟨hi123, hm⟩ := ifn hm
            refine g_iald C (by decide) hi123 dX10_spread_123 ?_
            refine g_iconst (v := 1) C dX10_spread_124 rfl ?_
            refine g_iadd C dX10_spread_125 ?_
            obtain ⟨hi126, hm⟩ := ifn hm
            refine g_iast C (by decide) hi126 dX10_spread_126 ?_
            refine g_aload_n C 1 dX10_spread_127 rfl rfl ?_
            refine g_getr (k := 0) (k' := 26) C (by decide) kf_X10_56 rfl rfl dX10_spread_128 ?_
            refine g_iload C 0 dX10_spread_131 rfl ?_
            refine g_iload_n C 2 dX10_spread_133 rfl rfl ?_
            obtain ⟨hi134, hm⟩ := ifn hm
            refine g_iast C (by decide) hi134 dX10_spread_134 ?_
            refine g_aload_n C 1 dX10_spread_135 rfl rfl ?_
            refine g_getr (k := 0) (k' := 27) C (by decide) kf_X10_59 rfl rfl dX10_spread_136 ?_
            refine g_iload_n C 4 dX10_spread_139 rfl rfl ?_
            refine g_iload C 0 dX10_spread_140 rfl ?_
            obtain ⟨hi142, hm⟩ := ifn hm
            refine g_iast C (by decide) hi142 dX10_spread_142 ?_
            refine g_iinc (ls' := [(3, vI (l3 + (1 : Int32))), (8, vI t0), (0, vR 10 0), (1, vI l1), (2, vI l2), (4, vI l4), (5, vI l5), (6, vI l6)]) (v := l3 + (1 : Int32)) C 4 dX10_spread_143 rfl (iv_p1 _) (by decide) rfl ?_
            exact g_sub [2, 3, 4, 0, 5, 6, 7] rfl (g_pc rfl (J146 (l3 + (1 : Int32)) l6 (mI (mI (mI M 22 25 t0.toNatClampNeg ((M.1 22 25 l5.toNatClampNeg) + (1 : Int32))) 22 26 t0.toNatClampNeg l1) 22 27 l3.toNatClampNeg t0) hm))
      unfold f_X10_spread_b44 at hm
      refine g_iload C 6 dX10_spread_44 rfl ?_
      refine g_bipush (v := 14) C dX10_spread_46 rfl ?_
      refine g_aload_n C 0 dX10_spread_48 rfl rfl ?_
      refine g_geti (k := 0) C (by decide) kf_X10_82 rfl dX10_spread_49 ?_
      refine g_imul C dX10_spread_52 ?_
      refine g_icmp_ge (tgt := 152) C dX10_spread_53 (by decide) (fun h53 => ?_) (fun h53 => ?_)
      · have hm := ift hm h53
        obtain rfl := Option.some.inj hm
        exact g_sub [0, 1, 2, 3, 4] rfl (g_pc rfl (hx44 l3 M (K44.2 _ rfl)))
      · have hm := ife hm h53
        refine g_iload C 6 dX10_spread_56 rfl ?_
        refine g_bipush (v := 7) C dX10_spread_58 rfl ?_
        refine g_idiv C dX10_spread_60 (by decide) ?_
        refine g_istore (ls' := [(7, vI (l6 / (7 : Int32))), (0, vR 10 0), (1, vI l1), (2, vI l2), (3, vI l3), (4, vI l4), (5, vI l5), (6, vI l6)]) C dX10_spread_61 (by decide) rfl ?_
        refine g_iload_n C 3 dX10_spread_63 rfl rfl ?_
        refine g_iload C 0 dX10_spread_64 rfl ?_
        refine g_iconst (v := 2) C dX10_spread_66 rfl ?_
        refine g_idiv C dX10_spread_67 (by decide) ?_
        refine g_ishr C dX10_spread_68 ?_
        refine g_iconst (v := 1) C dX10_spread_69 rfl ?_
        refine g_iand C dX10_spread_70 ?_
        refine g_iconst (v := 1) C dX10_spread_71 rfl ?_
        refine g_icmp_ne (tgt := 91) C dX10_spread_72 (by decide) (fun h72 => ?_) (fun h72 => ?_)
        · have hm := ife hm h72
          refine g_iconst (v := -1) C dX10_spread_91 rfl ?_
          exact g_sub [1, 2, 3, 4, 5, 6, 7] rfl (g_pc rfl (J92 l3 l6 (-1 : Int32) M hm))
        · have hm := ift hm h72
          refine g_aload_n C 1 dX10_spread_75 rfl rfl ?_
          refine g_iload C 6 dX10_spread_76 rfl ?_
          refine g_iload C 0 dX10_spread_78 rfl ?_
          refine g_iload C 7 dX10_spread_80 rfl ?_
          refine g_bipush (v := 7) C dX10_spread_82 rfl ?_
          refine g_irem C dX10_spread_84 (by decide) ?_
          obtain ⟨r85, hr85, hm⟩ := bnd_some hm
          refine g_callVi (As := [vI l5, vI (l6 / (7 : Int32)), vI (l6 - l6 / (7 : Int32) * (7 : Int32))]) (rest := []) C lk_X10_175 (k_X10_stepped X.2.1 G hl hG fu l5 (l6 / (7 : Int32)) (l6 - l6 / (7 : Int32) * (7 : Int32)) M r85 hk0 hr85) (by decide) rfl rfl rfl (Nat.le_of_ble_eq_true rfl) ⟨Nat.le_of_ble_eq_true rfl, Nat.le_of_ble_eq_true rfl⟩ dX10_spread_85 ?_
          refine g_goto (tgt := 92) C dX10_spread_88 (by decide) ?_
          exact g_sub [1, 2, 3, 4, 5, 6, 7] rfl (g_pc rfl (J92 l3 l6 r85.1 r85.2 hm))
    unfold f_X10_spread_b26 at hm
    refine g_iload C 4 dX10_spread_26 rfl ?_
    refine g_iload_n C 3 dX10_spread_28 rfl rfl ?_
    refine g_icmp_ge (tgt := 158) C dX10_spread_29 (by decide) (fun h29 => ?_) (fun h29 => ?_)
    · have hm := ift hm h29
      obtain rfl := Option.some.inj hm
      exact g_sub [3] rfl (g_pc rfl (hx26 l3 M (K26.2 _ rfl)))
    · have hm := ife hm h29
      refine g_aload_n C 0 dX10_spread_32 rfl rfl ?_
      refine g_getr (k := 0) (k' := 27) C (by decide) kf_X10_59 rfl rfl dX10_spread_33 ?_
      refine g_iload C 4 dX10_spread_36 rfl ?_
      obtain ⟨hi38, hm⟩ := ifn hm
      refine g_iald C (by decide) hi38 dX10_spread_38 ?_
      refine g_istore (ls' := [(5, vI (M.1 22 27 l4.toNatClampNeg)), (0, vR 10 0), (1, vI l1), (2, vI l2), (3, vI l3), (4, vI l4)]) C dX10_spread_39 (by decide) rfl ?_
      refine g_iconst (v := 0) C dX10_spread_41 rfl ?_
      refine g_istore (ls' := [(6, vI (0 : Int32)), (5, vI (M.1 22 27 l4.toNatClampNeg)), (0, vR 10 0), (1, vI l1), (2, vI l2), (3, vI l3), (4, vI l4)]) C dX10_spread_42 (by decide) rfl ?_
      exact g_sub [2, 3, 4, 5, 6, 1, 0] rfl (g_pc rfl (J44 l3 l4 (M.1 22 27 l4.toNatClampNeg) (0 : Int32) M hm))
  unfold f_X10_spread at hm
  refine g_iconst (v := 1) C dX10_spread_0 rfl ?_
  refine g_istore_n (ls' := [(3, vI (1 : Int32)), (0, vR 10 0), (1, vI l1), (2, vI l2)]) C dX10_spread_1 rfl (by decide) rfl ?_
  refine g_aload_n C 1 dX10_spread_2 rfl rfl ?_
  refine g_getr (k := 0) (k' := 27) C (by decide) kf_X10_59 rfl rfl dX10_spread_3 ?_
  refine g_iconst (v := 0) C dX10_spread_6 rfl ?_
  refine g_iload_n C 2 dX10_spread_7 rfl rfl ?_
  obtain ⟨hi8, hm⟩ := ifn hm
  refine g_iast C (by decide) hi8 dX10_spread_8 ?_
  refine g_aload_n C 1 dX10_spread_9 rfl rfl ?_
  refine g_getr (k := 0) (k' := 25) C (by decide) kf_X10_53 rfl rfl dX10_spread_10 ?_
  refine g_iload_n C 2 dX10_spread_13 rfl rfl ?_
  refine g_iconst (v := 0) C dX10_spread_14 rfl ?_
  obtain ⟨hi15, hm⟩ := ifn hm
  refine g_iast C (by decide) hi15 dX10_spread_15 ?_
  refine g_aload_n C 1 dX10_spread_16 rfl rfl ?_
  refine g_getr (k := 0) (k' := 26) C (by decide) kf_X10_56 rfl rfl dX10_spread_17 ?_
  refine g_iload_n C 2 dX10_spread_20 rfl rfl ?_
  refine g_iload_n C 2 dX10_spread_21 rfl rfl ?_
  obtain ⟨hi22, hm⟩ := ifn hm
  refine g_iast C (by decide) hi22 dX10_spread_22 ?_
  refine g_iconst (v := 0) C dX10_spread_23 rfl ?_
  refine g_istore (ls' := [(4, vI (0 : Int32)), (3, vI (1 : Int32)), (0, vR 10 0), (1, vI l1), (2, vI l2)]) C dX10_spread_24 (by decide) rfl ?_
  exact g_sub [2, 3, 4, 1, 0] rfl (g_pc rfl (J26 l1 l2 (1 : Int32) (0 : Int32) (mI (mI (mI M 22 27 (0 : Int32).toNatClampNeg l1) 22 25 l1.toNatClampNeg (0 : Int32)) 22 26 l1.toNatClampNeg l1) hm))
def f_X10_clearFar_b2 (fu : Nat)   (l1 : Int32) (M : Mem) : Option ((Int32 × Mem) ⊕ (Mem)) :=
  if (M.1 10 0 13) ≤ l1 then some (Sum.inr M) else if inb l1 (alen 22 25) then some (Sum.inl (l1 + (1 : Int32), (mI M 22 25 l1.toNatClampNeg (-1 : Int32)))) else none
def f_X10_clearFar_h2 (fu : Nat)   (l1 : Int32) (M : Mem) : Option (Mem) :=
  (lp_run (fun s => f_X10_clearFar_b2 fu   s.1 s.2) fu (l1, M)).bind (fun M => some M)
def f_X10_clearFar (fu : Nat) (M : Mem) : Option (Mem) :=
  f_X10_clearFar_h2 fu (0 : Int32) M
set_option maxHeartbeats 4000000 in
set_option maxRecDepth 100000 in
theorem k_X10_clearFar (l : Launch) (G : GE) (hl : l.stackTraces = false) (hG : GOK G) (fu : Nat)  (M : Mem) (res : Mem) (hk0 : (10, 0) ∈ gids G) (hm : f_X10_clearFar fu  M = some res) : CT l G yX10_clearFar cX10_clearFar 2 none 0 [vR 10 0] M (.inl none) res := by
  refine ct_of [(0, vR 10 0)] (by decide +kernel) hl hG (Nat.le_of_ble_eq_true rfl) rfl (List.forall_mem_cons.mpr ⟨Or.inl hk0, fun _ h => nomatch h⟩) (List.forall_mem_cons.mpr ⟨Or.inl hk0, fun _ h => nomatch h⟩) (fun X hX C => ?_)
  subst hX
  have Cl := C
  have J2 : ∀ (l1 : Int32) (M : Mem), f_X10_clearFar_h2 fu   l1 M = some res → GW G X 2 (QX G X (.inl none) res) 2 [(0, vR 10 0), (1, vI l1)] [] M := by
    intro l1 M hm
    unfold f_X10_clearFar_h2 at hm
    obtain ⟨r2, hL2, hk2⟩ := bnd_some hm
    have hx2 : ∀ (M : Mem), M = r2 → GW G X 2 (QX G X (.inl none) res) 23 [] [] M := by
      intro M he
      subst he
      have hm := hk2
      try dsimp only at hm
      obtain rfl := Option.some.inj hm
      exact g_vret C dX10_clearFar_23
    refine lp_ind1 (P := (fun l1 M => GW G X 2 (QX G X (.inl none) res) 2 [(0, vR 10 0), (1, vI l1)] [] M)) (r := r2) ?_ fu l1 M hL2
    intro l1 M o2 hm K2
    unfold f_X10_clearFar_b2 at hm
    refine g_iload_n C 1 dX10_clearFar_2 rfl rfl ?_
    refine g_aload_n C 0 dX10_clearFar_3 rfl rfl ?_
    refine g_geti (k := 0) C (by decide) kf_X10_89 rfl dX10_clearFar_4 ?_
    refine g_icmp_ge (tgt := 23) C dX10_clearFar_7 (by decide) (fun h7 => ?_) (fun h7 => ?_)
    · have hm := ift hm h7
      obtain rfl := Option.some.inj hm
      exact g_sub [] rfl (g_pc rfl (hx2 M (K2.2 _ rfl)))
    · have hm := ife hm h7
      refine g_aload_n C 0 dX10_clearFar_10 rfl rfl ?_
      refine g_getr (k := 0) (k' := 25) C (by decide) kf_X10_53 rfl rfl dX10_clearFar_11 ?_
      refine g_iload_n C 1 dX10_clearFar_14 rfl rfl ?_
      refine g_iconst (v := -1) C dX10_clearFar_15 rfl ?_
      obtain ⟨hi16, hm⟩ := ifn hm
      refine g_iast C (by decide) hi16 dX10_clearFar_16 ?_
      refine g_iinc (ls' := [(1, vI (l1 + (1 : Int32))), (0, vR 10 0)]) (v := l1 + (1 : Int32)) C 1 dX10_clearFar_17 rfl (iv_p1 _) (by decide) rfl ?_
      refine g_goto (tgt := 2) C dX10_clearFar_20 (by decide) ?_
      obtain rfl := Option.some.inj hm
      exact g_sub [1, 0] rfl (g_pc rfl (K2.1 (l1 + (1 : Int32)) (mI M 22 25 l1.toNatClampNeg (-1 : Int32)) rfl))
  unfold f_X10_clearFar at hm
  refine g_iconst (v := 0) C dX10_clearFar_0 rfl ?_
  refine g_istore_n (ls' := [(1, vI (0 : Int32)), (0, vR 10 0)]) C dX10_clearFar_1 rfl (by decide) rfl ?_
  exact g_sub [1, 0] rfl (g_pc rfl (J2 (0 : Int32) M hm))
def f_X10_layNames_j36 (fu : Nat)  (l1 : Int32) (l2 : Int32) (l3 : Int32) (M : Mem) : Option ((Int32 × Int32 × Mem) ⊕ (Int32 × Mem)) :=
  some (Sum.inl (l2, l3 + (1 : Int32), M))
def f_X10_layNames_b8 (fu : Nat)  (l1 : Int32) (l2 : Int32) (l3 : Int32) (M : Mem) : Option ((Int32 × Int32 × Mem) ⊕ (Int32 × Mem)) :=
  if (M.1 10 0 13) ≤ l3 then some (Sum.inr (l2, M)) else if inb l3 (alen 22 25) then if (M.1 22 25 l3.toNatClampNeg) = (-1 : Int32) then (f_X10_spread fu l3 l1 M).bind (fun r29 => f_X10_layNames_j36 fu l1 (l2 + (1 : Int32)) l3 r29.2) else f_X10_layNames_j36 fu l1 l2 l3 M else none
def f_X10_layNames_h8 (fu : Nat)   (l1 : Int32) (l2 : Int32) (l3 : Int32) (M : Mem) : Option (Int32 × Mem) :=
  (lp_run (fun s => f_X10_layNames_b8 fu  l1 s.1 s.2.1 s.2.2) fu (l2, l3, M)).bind (fun r8 => match r8 with
    | (l2, M) => some (l2, M))
def f_X10_layNames (fu : Nat) (l1 : Int32) (M : Mem) : Option (Int32 × Mem) :=
  (f_X10_clearFar fu  M).bind (fun r3 => f_X10_layNames_h8 fu l1 (0 : Int32) (0 : Int32) r3)
set_option maxHeartbeats 4000000 in
set_option maxRecDepth 100000 in
theorem k_X10_layNames (l : Launch) (G : GE) (hl : l.stackTraces = false) (hG : GOK G) (fu : Nat) (l1 : Int32) (M : Mem) (res : Int32 × Mem) (hk0 : (10, 0) ∈ gids G) (hm : f_X10_layNames fu l1 M = some res) : CT l G yX10_layNames cX10_layNames 4 (some .int) 3 [vR 10 0, vI l1] M (.inl (some (vI res.1))) res.2 := by
  refine ct_of [(0, vR 10 0), (1, vI l1)] (by decide +kernel) hl hG (Nat.le_of_ble_eq_true rfl) rfl (List.forall_mem_cons.mpr ⟨Or.inl hk0, List.forall_mem_cons.mpr ⟨trivial, fun _ h => nomatch h⟩⟩) (List.forall_mem_cons.mpr ⟨Or.inl hk0, List.forall_mem_cons.mpr ⟨trivial, fun _ h => nomatch h⟩⟩) (fun X hX C => ?_)
  subst hX
  have Cl := C
  have J8 : ∀ (l1 : Int32) (l2 : Int32) (l3 : Int32) (M : Mem), f_X10_layNames_h8 fu   l1 l2 l3 M = some res → GW G X 4 (QX G X (.inl (some (vI res.1))) res.2) 8 [(0, vR 10 0), (1, vI l1), (2, vI l2), (3, vI l3)] [] M := by
    intro l1 l2 l3 M hm
    unfold f_X10_layNames_h8 at hm
    obtain ⟨r8, hL8, hk8⟩ := bnd_some hm
    have hx8 : ∀ (l2 : Int32) (M : Mem), (l2, M) = r8 → GW G X 4 (QX G X (.inl (some (vI res.1))) res.2) 42 [(2, vI l2)] [] M := by
      intro l2 M he
      subst he
      have hm := hk8
      try dsimp only at hm
      refine g_iload_n C 0 dX10_layNames_42 rfl rfl ?_
      obtain rfl := Option.some.inj hm
      exact g_iret C dX10_layNames_43
    refine lp_ind2 (P := (fun l2 l3 M => GW G X 4 (QX G X (.inl (some (vI res.1))) res.2) 8 [(0, vR 10 0), (1, vI l1), (2, vI l2), (3, vI l3)] [] M)) (r := r8) ?_ fu l2 l3 M hL8
    intro l2 l3 M o8 hm K8
    have J36 : ∀ (l2 : Int32) (l3 : Int32) (M : Mem), f_X10_layNames_j36 fu  l1 l2 l3 M = some o8 → GW G X 4 (QX G X (.inl (some (vI res.1))) res.2) 36 [(0, vR 10 0), (1, vI l1), (2, vI l2), (3, vI l3)] [] M := by
      intro l2 l3 M hm
      unfold f_X10_layNames_j36 at hm
      refine g_iinc (ls' := [(3, vI (l3 + (1 : Int32))), (0, vR 10 0), (1, vI l1), (2, vI l2)]) (v := l3 + (1 : Int32)) C 3 dX10_layNames_36 rfl (iv_p1 _) (by decide) rfl ?_
      refine g_goto (tgt := 8) C dX10_layNames_39 (by decide) ?_
      obtain rfl := Option.some.inj hm
      exact g_sub [1, 2, 3, 0] rfl (g_pc rfl (K8.1 l2 (l3 + (1 : Int32)) M rfl))
    unfold f_X10_layNames_b8 at hm
    refine g_iload_n C 3 dX10_layNames_8 rfl rfl ?_
    refine g_aload_n C 0 dX10_layNames_9 rfl rfl ?_
    refine g_geti (k := 0) C (by decide) kf_X10_89 rfl dX10_layNames_10 ?_
    refine g_icmp_ge (tgt := 42) C dX10_layNames_13 (by decide) (fun h13 => ?_) (fun h13 => ?_)
    · have hm := ift hm h13
      obtain rfl := Option.some.inj hm
      exact g_sub [2] rfl (g_pc rfl (hx8 l2 M (K8.2 _ rfl)))
    · have hm := ife hm h13
      refine g_aload_n C 0 dX10_layNames_16 rfl rfl ?_
      refine g_getr (k := 0) (k' := 25) C (by decide) kf_X10_53 rfl rfl dX10_layNames_17 ?_
      refine g_iload_n C 3 dX10_layNames_20 rfl rfl ?_
      obtain ⟨hi21, hm⟩ := ifn hm
      refine g_iald C (by decide) hi21 dX10_layNames_21 ?_
      refine g_iconst (v := -1) C dX10_layNames_22 rfl ?_
      refine g_icmp_ne (tgt := 36) C dX10_layNames_23 (by decide) (fun h23 => ?_) (fun h23 => ?_)
      · have hm := ife hm h23
        exact g_sub [0, 1, 2, 3] rfl (g_pc rfl (J36 l2 l3 M hm))
      · have hm := ift hm h23
        refine g_aload_n C 0 dX10_layNames_26 rfl rfl ?_
        refine g_iload_n C 3 dX10_layNames_27 rfl rfl ?_
        refine g_iload_n C 1 dX10_layNames_28 rfl rfl ?_
        obtain ⟨r29, hr29, hm⟩ := bnd_some hm
        refine g_callVi (As := [vI l3, vI l1]) (rest := []) C lk_X10_182 (k_X10_spread X.2.1 G hl hG fu l3 l1 M r29 hk0 hr29) (by decide) rfl rfl rfl (Nat.le_of_ble_eq_true rfl) ⟨Nat.le_of_ble_eq_true rfl, Nat.le_of_ble_eq_true rfl⟩ dX10_layNames_29 ?_
        refine g_pop C dX10_layNames_32 rfl ?_
        refine g_iinc (ls' := [(2, vI (l2 + (1 : Int32))), (0, vR 10 0), (1, vI l1), (3, vI l3)]) (v := l2 + (1 : Int32)) C 2 dX10_layNames_33 rfl (iv_p1 _) (by decide) rfl ?_
        exact g_sub [1, 2, 0, 3] rfl (g_pc rfl (J36 (l2 + (1 : Int32)) l3 r29.2 hm))
  unfold f_X10_layNames at hm
  refine g_iconst (v := 0) C dX10_layNames_0 rfl ?_
  refine g_istore_n (ls' := [(2, vI (0 : Int32)), (0, vR 10 0), (1, vI l1)]) C dX10_layNames_1 rfl (by decide) rfl ?_
  refine g_aload_n C 1 dX10_layNames_2 rfl rfl ?_
  obtain ⟨r3, hr3, hm⟩ := bnd_some hm
  refine g_callVv (As := []) (rest := []) C lk_X10_179 (k_X10_clearFar X.2.1 G hl hG fu  M r3 hk0 hr3) (by decide) rfl rfl rfl (Nat.le_of_ble_eq_true rfl) ⟨Nat.le_of_ble_eq_true rfl, Nat.le_of_ble_eq_true rfl⟩ dX10_layNames_3 ?_
  refine g_iconst (v := 0) C dX10_layNames_6 rfl ?_
  refine g_istore_n (ls' := [(3, vI (0 : Int32)), (2, vI (0 : Int32)), (0, vR 10 0), (1, vI l1)]) C dX10_layNames_7 rfl (by decide) rfl ?_
  exact g_sub [2, 3, 1, 0] rfl (g_pc rfl (J8 l1 (0 : Int32) (0 : Int32) r3 hm))
def f_X10_allCells (fu : Nat) (M : Mem) : Option (Int32 × Mem) :=
  some (((1 : Int32) <<< ((M.1 10 0 7) &&& 31)) - (1 : Int32), M)
set_option maxHeartbeats 4000000 in
set_option maxRecDepth 100000 in
theorem k_X10_allCells (l : Launch) (G : GE) (hl : l.stackTraces = false) (hG : GOK G) (fu : Nat)  (M : Mem) (res : Int32 × Mem) (hk0 : (10, 0) ∈ gids G) (hm : f_X10_allCells fu  M = some res) : CT l G yX10_allCells cX10_allCells 1 (some .int) 0 [vR 10 0] M (.inl (some (vI res.1))) res.2 := by
  refine ct_of [(0, vR 10 0)] (by decide +kernel) hl hG (Nat.le_of_ble_eq_true rfl) rfl (List.forall_mem_cons.mpr ⟨Or.inl hk0, fun _ h => nomatch h⟩) (List.forall_mem_cons.mpr ⟨Or.inl hk0, fun _ h => nomatch h⟩) (fun X hX C => ?_)
  subst hX
  have Cl := C
  unfold f_X10_allCells at hm
  refine g_iconst (v := 1) C dX10_allCells_0 rfl ?_
  refine g_aload_n C 0 dX10_allCells_1 rfl rfl ?_
  refine g_geti (k := 0) C (by decide) kf_X10_82 rfl dX10_allCells_2 ?_
  refine g_ishl C dX10_allCells_5 ?_
  refine g_iconst (v := 1) C dX10_allCells_6 rfl ?_
  refine g_isub C dX10_allCells_7 ?_
  obtain rfl := Option.some.inj hm
  exact g_iret C dX10_allCells_8
def f_X10_areEqual (fu : Nat) (l1 : Int32) (l2 : Int32) (l3 : Int32) (M : Mem) : Option (Int32 × Mem) :=
  (f_X10_clearFar fu  M).bind (fun r1 => (f_X10_spread fu l1 l3 r1).bind (fun r7 => if inb l2 (alen 22 25) then if (r7.2.1 22 25 l2.toNatClampNeg) = (-1 : Int32) then some ((0 : Int32), r7.2) else some ((1 : Int32), r7.2) else none))
set_option maxHeartbeats 4000000 in
set_option maxRecDepth 100000 in
theorem k_X10_areEqual (l : Launch) (G : GE) (hl : l.stackTraces = false) (hG : GOK G) (fu : Nat) (l1 : Int32) (l2 : Int32) (l3 : Int32) (M : Mem) (res : Int32 × Mem) (hk0 : (10, 0) ∈ gids G) (hm : f_X10_areEqual fu l1 l2 l3 M = some res) : CT l G yX10_areEqual cX10_areEqual 4 (some .boolean) 3 [vR 10 0, vI l1, vI l2, vI l3] M (.inl (some (vI res.1))) res.2 := by
  refine ct_of [(0, vR 10 0), (1, vI l1), (2, vI l2), (3, vI l3)] (by decide +kernel) hl hG (Nat.le_of_ble_eq_true rfl) rfl (List.forall_mem_cons.mpr ⟨Or.inl hk0, List.forall_mem_cons.mpr ⟨trivial, List.forall_mem_cons.mpr ⟨trivial, List.forall_mem_cons.mpr ⟨trivial, fun _ h => nomatch h⟩⟩⟩⟩) (List.forall_mem_cons.mpr ⟨Or.inl hk0, List.forall_mem_cons.mpr ⟨trivial, List.forall_mem_cons.mpr ⟨trivial, List.forall_mem_cons.mpr ⟨trivial, fun _ h => nomatch h⟩⟩⟩⟩) (fun X hX C => ?_)
  subst hX
  have Cl := C
  unfold f_X10_areEqual at hm
  refine g_aload_n C 0 dX10_areEqual_0 rfl rfl ?_
  obtain ⟨r1, hr1, hm⟩ := bnd_some hm
  refine g_callVv (As := []) (rest := []) C lk_X10_179 (k_X10_clearFar X.2.1 G hl hG fu  M r1 hk0 hr1) (by decide) rfl rfl rfl (Nat.le_of_ble_eq_true rfl) ⟨Nat.le_of_ble_eq_true rfl, Nat.le_of_ble_eq_true rfl⟩ dX10_areEqual_1 ?_
  refine g_aload_n C 0 dX10_areEqual_4 rfl rfl ?_
  refine g_iload_n C 1 dX10_areEqual_5 rfl rfl ?_
  refine g_iload_n C 3 dX10_areEqual_6 rfl rfl ?_
  obtain ⟨r7, hr7, hm⟩ := bnd_some hm
  refine g_callVi (As := [vI l1, vI l3]) (rest := []) C lk_X10_182 (k_X10_spread X.2.1 G hl hG fu l1 l3 r1 r7 hk0 hr7) (by decide) rfl rfl rfl (Nat.le_of_ble_eq_true rfl) ⟨Nat.le_of_ble_eq_true rfl, Nat.le_of_ble_eq_true rfl⟩ dX10_areEqual_7 ?_
  refine g_pop C dX10_areEqual_10 rfl ?_
  refine g_aload_n C 0 dX10_areEqual_11 rfl rfl ?_
  refine g_getr (k := 0) (k' := 25) C (by decide) kf_X10_53 rfl rfl dX10_areEqual_12 ?_
  refine g_iload_n C 2 dX10_areEqual_15 rfl rfl ?_
  obtain ⟨hi16, hm⟩ := ifn hm
  refine g_iald C (by decide) hi16 dX10_areEqual_16 ?_
  refine g_iconst (v := -1) C dX10_areEqual_17 rfl ?_
  refine g_icmp_eq (tgt := 25) C dX10_areEqual_18 (by decide) (fun h18 => ?_) (fun h18 => ?_)
  · have hm := ift hm h18
    refine g_iconst (v := 0) C dX10_areEqual_25 rfl ?_
    obtain rfl := Option.some.inj hm
    exact g_zret C (Or.inl rfl) dX10_areEqual_26
  · have hm := ife hm h18
    refine g_iconst (v := 1) C dX10_areEqual_21 rfl ?_
    refine g_goto (tgt := 26) C dX10_areEqual_22 (by decide) ?_
    obtain rfl := Option.some.inj hm
    exact g_zret C (Or.inr rfl) dX10_areEqual_26
def f_X10_isRedundant (fu : Nat) (l1 : Int32) (l2 : Int32) (M : Mem) : Option (Int32 × Mem) :=
  (f_X10_sideOf fu l1 (0 : Int32) M).bind (fun r4 => (f_X10_sideOf fu l1 (1 : Int32) r4.2).bind (fun r10 => (f_X10_areEqual fu r4.1 r10.1 (l2 &&& (((1 : Int32) <<< (l1 &&& 31)) ^^^ (-1 : Int32))) r10.2).bind (fun r20 => if r20.1 = 0 ∨ r20.1 = 1 then some (r20.1, r20.2) else none)))
set_option maxHeartbeats 4000000 in
set_option maxRecDepth 100000 in
theorem k_X10_isRedundant (l : Launch) (G : GE) (hl : l.stackTraces = false) (hG : GOK G) (fu : Nat) (l1 : Int32) (l2 : Int32) (M : Mem) (res : Int32 × Mem) (hk0 : (10, 0) ∈ gids G) (hm : f_X10_isRedundant fu l1 l2 M = some res) : CT l G yX10_isRedundant cX10_isRedundant 3 (some .boolean) 4 [vR 10 0, vI l1, vI l2] M (.inl (some (vI res.1))) res.2 := by
  refine ct_of [(0, vR 10 0), (1, vI l1), (2, vI l2)] (by decide +kernel) hl hG (Nat.le_of_ble_eq_true rfl) rfl (List.forall_mem_cons.mpr ⟨Or.inl hk0, List.forall_mem_cons.mpr ⟨trivial, List.forall_mem_cons.mpr ⟨trivial, fun _ h => nomatch h⟩⟩⟩) (List.forall_mem_cons.mpr ⟨Or.inl hk0, List.forall_mem_cons.mpr ⟨trivial, List.forall_mem_cons.mpr ⟨trivial, fun _ h => nomatch h⟩⟩⟩) (fun X hX C => ?_)
  subst hX
  have Cl := C
  unfold f_X10_isRedundant at hm
  refine g_aload_n C 0 dX10_isRedundant_0 rfl rfl ?_
  refine g_aload_n C 0 dX10_isRedundant_1 rfl rfl ?_
  refine g_iload_n C 1 dX10_isRedundant_2 rfl rfl ?_
  refine g_iconst (v := 0) C dX10_isRedundant_3 rfl ?_
  obtain ⟨r4, hr4, hm⟩ := bnd_some hm
  refine g_callVi (As := [vI l1, vI (0 : Int32)]) (rest := [vR 10 0]) C lk_X10_186 (k_X10_sideOf X.2.1 G hl hG fu l1 (0 : Int32) M r4 hk0 hr4) (by decide) rfl rfl rfl (Nat.le_of_ble_eq_true rfl) ⟨Nat.le_of_ble_eq_true rfl, Nat.le_of_ble_eq_true rfl⟩ dX10_isRedundant_4 ?_
  refine g_aload_n C 0 dX10_isRedundant_7 rfl rfl ?_
  refine g_iload_n C 1 dX10_isRedundant_8 rfl rfl ?_
  refine g_iconst (v := 1) C dX10_isRedundant_9 rfl ?_
  obtain ⟨r10, hr10, hm⟩ := bnd_some hm
  refine g_callVi (As := [vI l1, vI (1 : Int32)]) (rest := [vI r4.1, vR 10 0]) C lk_X10_186 (k_X10_sideOf X.2.1 G hl hG fu l1 (1 : Int32) r4.2 r10 hk0 hr10) (by decide) rfl rfl rfl (Nat.le_of_ble_eq_true rfl) ⟨Nat.le_of_ble_eq_true rfl, Nat.le_of_ble_eq_true rfl⟩ dX10_isRedundant_10 ?_
  refine g_iload_n C 2 dX10_isRedundant_13 rfl rfl ?_
  refine g_iconst (v := 1) C dX10_isRedundant_14 rfl ?_
  refine g_iload_n C 1 dX10_isRedundant_15 rfl rfl ?_
  refine g_ishl C dX10_isRedundant_16 ?_
  refine g_iconst (v := -1) C dX10_isRedundant_17 rfl ?_
  refine g_ixor C dX10_isRedundant_18 ?_
  refine g_iand C dX10_isRedundant_19 ?_
  obtain ⟨r20, hr20, hm⟩ := bnd_some hm
  refine g_callVi (As := [vI r4.1, vI r10.1, vI (l2 &&& (((1 : Int32) <<< (l1 &&& 31)) ^^^ (-1 : Int32)))]) (rest := []) C lk_X10_189 (k_X10_areEqual X.2.1 G hl hG fu r4.1 r10.1 (l2 &&& (((1 : Int32) <<< (l1 &&& 31)) ^^^ (-1 : Int32))) r10.2 r20 hk0 hr20) (by decide) rfl rfl rfl (Nat.le_of_ble_eq_true rfl) ⟨Nat.le_of_ble_eq_true rfl, Nat.le_of_ble_eq_true rfl⟩ dX10_isRedundant_20 ?_
  obtain ⟨hz23, hm⟩ := ifn hm
  obtain rfl := Option.some.inj hm
  exact g_zret C hz23 dX10_isRedundant_23
def f_X10_core_j36 (fu : Nat)   (l2 : Int32) (t0 : Int32) (M : Mem) : Option ((Int32 × Int32 × Mem) ⊕ (Int32 × Mem)) :=
  some (Sum.inl (t0, l2 + (-1 : Int32), M))
def f_X10_core_b12 (fu : Nat)   (l1 : Int32) (l2 : Int32) (M : Mem) : Option ((Int32 × Int32 × Mem) ⊕ (Int32 × Mem)) :=
  if l2 < 0 then some (Sum.inr (l1, M)) else (f_X10_isRedundant fu l2 l1 M).bind (fun r19 => if r19.1 = 0 then f_X10_core_j36 fu l2 l1 r19.2 else f_X10_core_j36 fu l2 (l1 &&& (((1 : Int32) <<< (l2 &&& 31)) ^^^ (-1 : Int32))) r19.2)
def f_X10_core_h12 (fu : Nat)   (l1 : Int32) (l2 : Int32) (M : Mem) : Option (Int32 × Mem) :=
  (lp_run (fun s => f_X10_core_b12 fu   s.1 s.2.1 s.2.2) fu (l1, l2, M)).bind (fun r12 => match r12 with
    | (l1, M) => some (l1, M))
def f_X10_core (fu : Nat) (M : Mem) : Option (Int32 × Mem) :=
  (f_X10_allCells fu  M).bind (fun r1 => f_X10_core_h12 fu r1.1 ((r1.2.1 10 0 7) - (1 : Int32)) r1.2)
set_option maxHeartbeats 4000000 in
set_option maxRecDepth 100000 in
theorem k_X10_core (l : Launch) (G : GE) (hl : l.stackTraces = false) (hG : GOK G) (fu : Nat)  (M : Mem) (res : Int32 × Mem) (hk0 : (10, 0) ∈ gids G) (hm : f_X10_core fu  M = some res) : CT l G yX10_core cX10_core 3 (some .int) 5 [vR 10 0] M (.inl (some (vI res.1))) res.2 := by
  refine ct_of [(0, vR 10 0)] (by decide +kernel) hl hG (Nat.le_of_ble_eq_true rfl) rfl (List.forall_mem_cons.mpr ⟨Or.inl hk0, fun _ h => nomatch h⟩) (List.forall_mem_cons.mpr ⟨Or.inl hk0, fun _ h => nomatch h⟩) (fun X hX C => ?_)
  subst hX
  have Cl := C
  have J12 : ∀ (l1 : Int32) (l2 : Int32) (M : Mem), f_X10_core_h12 fu   l1 l2 M = some res → GW G X 3 (QX G X (.inl (some (vI res.1))) res.2) 12 [(0, vR 10 0), (1, vI l1), (2, vI l2)] [] M := by
    intro l1 l2 M hm
    unfold f_X10_core_h12 at hm
    obtain ⟨r12, hL12, hk12⟩ := bnd_some hm
    have hx12 : ∀ (l1 : Int32) (M : Mem), (l1, M) = r12 → GW G X 3 (QX G X (.inl (some (vI res.1))) res.2) 43 [(1, vI l1)] [] M := by
      intro l1 M he
      subst he
      have hm := hk12
      try dsimp only at hm
      refine g_iload_n C 0 dX10_core_43 rfl rfl ?_
      obtain rfl := Option.some.inj hm
      exact g_iret C dX10_core_44
    refine lp_ind2 (P := (fun l1 l2 M => GW G X 3 (QX G X (.inl (some (vI res.1))) res.2) 12 [(0, vR 10 0), (1, vI l1), (2, vI l2)] [] M)) (r := r12) ?_ fu l1 l2 M hL12
    intro l1 l2 M o12 hm K12
    have J36 : ∀ (l2 : Int32) (t0 : Int32) (M : Mem), f_X10_core_j36 fu   l2 t0 M = some o12 → GW G X 3 (QX G X (.inl (some (vI res.1))) res.2) 36 [(0, vR 10 0), (2, vI l2)] [vI t0] M := by
      intro l2 t0 M hm
      unfold f_X10_core_j36 at hm
      refine g_istore_n (ls' := [(1, vI t0), (0, vR 10 0), (2, vI l2)]) C dX10_core_36 rfl (by decide) rfl ?_
      refine g_iinc (ls' := [(2, vI (l2 + (-1 : Int32))), (1, vI t0), (0, vR 10 0)]) (v := l2 + (-1 : Int32)) C 2 dX10_core_37 rfl (iv_m1 _) (by decide) rfl ?_
      refine g_goto (tgt := 12) C dX10_core_40 (by decide) ?_
      obtain rfl := Option.some.inj hm
      exact g_sub [2, 1, 0] rfl (g_pc rfl (K12.1 t0 (l2 + (-1 : Int32)) M rfl))
    unfold f_X10_core_b12 at hm
    refine g_iload_n C 2 dX10_core_12 rfl rfl ?_
    refine g_if_lt (tgt := 43) C dX10_core_13 (by decide) (fun h13 => ?_) (fun h13 => ?_)
    · have hm := ift hm h13
      obtain rfl := Option.some.inj hm
      exact g_sub [1] rfl (g_pc rfl (hx12 l1 M (K12.2 _ rfl)))
    · have hm := ife hm h13
      refine g_aload_n C 0 dX10_core_16 rfl rfl ?_
      refine g_iload_n C 2 dX10_core_17 rfl rfl ?_
      refine g_iload_n C 1 dX10_core_18 rfl rfl ?_
      obtain ⟨r19, hr19, hm⟩ := bnd_some hm
      refine g_callVi (As := [vI l2, vI l1]) (rest := []) C lk_X10_195 (k_X10_isRedundant X.2.1 G hl hG fu l2 l1 M r19 hk0 hr19) (by decide) rfl rfl rfl (Nat.le_of_ble_eq_true rfl) ⟨Nat.le_of_ble_eq_true rfl, Nat.le_of_ble_eq_true rfl⟩ dX10_core_19 ?_
      refine g_if_eq (tgt := 35) C dX10_core_22 (by decide) (fun h22 => ?_) (fun h22 => ?_)
      · have hm := ift hm h22
        refine g_iload_n C 1 dX10_core_35 rfl rfl ?_
        exact g_sub [0, 2] rfl (g_pc rfl (J36 l2 l1 r19.2 hm))
      · have hm := ife hm h22
        refine g_iload_n C 1 dX10_core_25 rfl rfl ?_
        refine g_iconst (v := 1) C dX10_core_26 rfl ?_
        refine g_iload_n C 2 dX10_core_27 rfl rfl ?_
        refine g_ishl C dX10_core_28 ?_
        refine g_iconst (v := -1) C dX10_core_29 rfl ?_
        refine g_ixor C dX10_core_30 ?_
        refine g_iand C dX10_core_31 ?_
        refine g_goto (tgt := 36) C dX10_core_32 (by decide) ?_
        exact g_sub [0, 2] rfl (g_pc rfl (J36 l2 (l1 &&& (((1 : Int32) <<< (l2 &&& 31)) ^^^ (-1 : Int32))) r19.2 hm))
  unfold f_X10_core at hm
  refine g_aload_n C 0 dX10_core_0 rfl rfl ?_
  obtain ⟨r1, hr1, hm⟩ := bnd_some hm
  refine g_callVi (As := []) (rest := []) C lk_X10_192 (k_X10_allCells X.2.1 G hl hG fu  M r1 hk0 hr1) (by decide) rfl rfl rfl (Nat.le_of_ble_eq_true rfl) ⟨Nat.le_of_ble_eq_true rfl, Nat.le_of_ble_eq_true rfl⟩ dX10_core_1 ?_
  refine g_istore_n (ls' := [(1, vI r1.1), (0, vR 10 0)]) C dX10_core_4 rfl (by decide) rfl ?_
  refine g_aload_n C 1 dX10_core_5 rfl rfl ?_
  refine g_geti (k := 0) C (by decide) kf_X10_82 rfl dX10_core_6 ?_
  refine g_iconst (v := 1) C dX10_core_9 rfl ?_
  refine g_isub C dX10_core_10 ?_
  refine g_istore_n (ls' := [(2, vI ((r1.2.1 10 0 7) - (1 : Int32))), (1, vI r1.1), (0, vR 10 0)]) C dX10_core_11 rfl (by decide) rfl ?_
  exact g_sub [2, 1, 0] rfl (g_pc rfl (J12 r1.1 ((r1.2.1 10 0 7) - (1 : Int32)) r1.2 hm))
def f_X10_distanceOf (fu : Nat) (l1 : Int32) (l2 : Int32) (M : Mem) : Option (Int32 × Mem) :=
  (f_X10_clearFar fu  M).bind (fun r1 => (f_X10_allCells fu  r1).bind (fun r7 => (f_X10_spread fu l2 r7.1 r7.2).bind (fun r10 => if inb l1 (alen 22 25) then some (r10.2.1 22 25 l1.toNatClampNeg, r10.2) else none)))
set_option maxHeartbeats 4000000 in
set_option maxRecDepth 100000 in
theorem k_X10_distanceOf (l : Launch) (G : GE) (hl : l.stackTraces = false) (hG : GOK G) (fu : Nat) (l1 : Int32) (l2 : Int32) (M : Mem) (res : Int32 × Mem) (hk0 : (10, 0) ∈ gids G) (hm : f_X10_distanceOf fu l1 l2 M = some res) : CT l G yX10_distanceOf cX10_distanceOf 3 (some .int) 3 [vR 10 0, vI l1, vI l2] M (.inl (some (vI res.1))) res.2 := by
  refine ct_of [(0, vR 10 0), (1, vI l1), (2, vI l2)] (by decide +kernel) hl hG (Nat.le_of_ble_eq_true rfl) rfl (List.forall_mem_cons.mpr ⟨Or.inl hk0, List.forall_mem_cons.mpr ⟨trivial, List.forall_mem_cons.mpr ⟨trivial, fun _ h => nomatch h⟩⟩⟩) (List.forall_mem_cons.mpr ⟨Or.inl hk0, List.forall_mem_cons.mpr ⟨trivial, List.forall_mem_cons.mpr ⟨trivial, fun _ h => nomatch h⟩⟩⟩) (fun X hX C => ?_)
  subst hX
  have Cl := C
  unfold f_X10_distanceOf at hm
  refine g_aload_n C 0 dX10_distanceOf_0 rfl rfl ?_
  obtain ⟨r1, hr1, hm⟩ := bnd_some hm
  refine g_callVv (As := []) (rest := []) C lk_X10_179 (k_X10_clearFar X.2.1 G hl hG fu  M r1 hk0 hr1) (by decide) rfl rfl rfl (Nat.le_of_ble_eq_true rfl) ⟨Nat.le_of_ble_eq_true rfl, Nat.le_of_ble_eq_true rfl⟩ dX10_distanceOf_1 ?_
  refine g_aload_n C 0 dX10_distanceOf_4 rfl rfl ?_
  refine g_iload_n C 2 dX10_distanceOf_5 rfl rfl ?_
  refine g_aload_n C 0 dX10_distanceOf_6 rfl rfl ?_
  obtain ⟨r7, hr7, hm⟩ := bnd_some hm
  refine g_callVi (As := []) (rest := [vI l2, vR 10 0]) C lk_X10_192 (k_X10_allCells X.2.1 G hl hG fu  r1 r7 hk0 hr7) (by decide) rfl rfl rfl (Nat.le_of_ble_eq_true rfl) ⟨Nat.le_of_ble_eq_true rfl, Nat.le_of_ble_eq_true rfl⟩ dX10_distanceOf_7 ?_
  obtain ⟨r10, hr10, hm⟩ := bnd_some hm
  refine g_callVi (As := [vI l2, vI r7.1]) (rest := []) C lk_X10_182 (k_X10_spread X.2.1 G hl hG fu l2 r7.1 r7.2 r10 hk0 hr10) (by decide) rfl rfl rfl (Nat.le_of_ble_eq_true rfl) ⟨Nat.le_of_ble_eq_true rfl, Nat.le_of_ble_eq_true rfl⟩ dX10_distanceOf_10 ?_
  refine g_pop C dX10_distanceOf_13 rfl ?_
  refine g_aload_n C 0 dX10_distanceOf_14 rfl rfl ?_
  refine g_getr (k := 0) (k' := 25) C (by decide) kf_X10_53 rfl rfl dX10_distanceOf_15 ?_
  refine g_iload_n C 1 dX10_distanceOf_18 rfl rfl ?_
  obtain ⟨hi19, hm⟩ := ifn hm
  refine g_iald C (by decide) hi19 dX10_distanceOf_19 ?_
  obtain rfl := Option.some.inj hm
  exact g_iret C dX10_distanceOf_20
def f_X10_distance_j22 (fu : Nat)   (l1 : Int32) (l2 : Int32) (t1 : Int32) (M : Mem) : Option (Int32 × Mem) :=
  if ((mI M 10 0 0 t1).1 10 0 0) ≤ 0 then (f_X10_distanceOf fu l1 l2 (mI M 10 0 0 t1)).bind (fun r39 => some (r39.1, r39.2)) else some ((0 : Int32), (mI M 10 0 0 t1))
def f_X10_distance_j21 (fu : Nat)   (l1 : Int32) (l2 : Int32) (M : Mem) : Option (Int32 × Mem) :=
  f_X10_distance_j22 fu l1 l2 (1 : Int32) M
def f_X10_distance (fu : Nat) (l1 : Int32) (l2 : Int32) (M : Mem) : Option (Int32 × Mem) :=
  (f_X10_isPath fu l1 M).bind (fun r3 => if r3.1 = 0 then f_X10_distance_j21 fu l1 l2 r3.2 else (f_X10_isPath fu l2 r3.2).bind (fun r11 => if r11.1 = 0 then f_X10_distance_j21 fu l1 l2 r11.2 else f_X10_distance_j22 fu l1 l2 (0 : Int32) r11.2))
set_option maxHeartbeats 4000000 in
set_option maxRecDepth 100000 in
theorem k_X10_distance (l : Launch) (G : GE) (hl : l.stackTraces = false) (hG : GOK G) (fu : Nat) (l1 : Int32) (l2 : Int32) (M : Mem) (res : Int32 × Mem) (hk0 : (10, 0) ∈ gids G) (hm : f_X10_distance fu l1 l2 M = some res) : CT l G yX10_distance cX10_distance 3 (some .int) 4 [vR 10 0, vI l1, vI l2] M (.inl (some (vI res.1))) res.2 := by
  refine ct_of [(0, vR 10 0), (1, vI l1), (2, vI l2)] (by decide +kernel) hl hG (Nat.le_of_ble_eq_true rfl) rfl (List.forall_mem_cons.mpr ⟨Or.inl hk0, List.forall_mem_cons.mpr ⟨trivial, List.forall_mem_cons.mpr ⟨trivial, fun _ h => nomatch h⟩⟩⟩) (List.forall_mem_cons.mpr ⟨Or.inl hk0, List.forall_mem_cons.mpr ⟨trivial, List.forall_mem_cons.mpr ⟨trivial, fun _ h => nomatch h⟩⟩⟩) (fun X hX C => ?_)
  subst hX
  have Cl := C
  have J22 : ∀ (l1 : Int32) (l2 : Int32) (t1 : Int32) (M : Mem), f_X10_distance_j22 fu   l1 l2 t1 M = some res → GW G X 3 (QX G X (.inl (some (vI res.1))) res.2) 22 [(0, vR 10 0), (1, vI l1), (2, vI l2)] [vI t1, vR 10 0] M := by
    intro l1 l2 t1 M hm
    unfold f_X10_distance_j22 at hm
    refine g_puti C (by decide) kf_X10_72 rfl rfl rfl dX10_distance_22 ?_
    refine g_aload_n C 0 dX10_distance_25 rfl rfl ?_
    refine g_geti (k := 0) C (by decide) kf_X10_72 rfl dX10_distance_26 ?_
    refine g_if_le (tgt := 36) C dX10_distance_29 (by decide) (fun h29 => ?_) (fun h29 => ?_)
    · have hm := ift hm h29
      refine g_aload_n C 0 dX10_distance_36 rfl rfl ?_
      refine g_iload_n C 1 dX10_distance_37 rfl rfl ?_
      refine g_iload_n C 2 dX10_distance_38 rfl rfl ?_
      obtain ⟨r39, hr39, hm⟩ := bnd_some hm
      refine g_callVi (As := [vI l1, vI l2]) (rest := []) C lk_X10_198 (k_X10_distanceOf X.2.1 G hl hG fu l1 l2 (mI M 10 0 0 t1) r39 hk0 hr39) (by decide) rfl rfl rfl (Nat.le_of_ble_eq_true rfl) ⟨Nat.le_of_ble_eq_true rfl, Nat.le_of_ble_eq_true rfl⟩ dX10_distance_39 ?_
      obtain rfl := Option.some.inj hm
      exact g_iret C dX10_distance_42
    · have hm := ife hm h29
      refine g_iconst (v := 0) C dX10_distance_32 rfl ?_
      refine g_goto (tgt := 42) C dX10_distance_33 (by decide) ?_
      obtain rfl := Option.some.inj hm
      exact g_iret C dX10_distance_42
  have J21 : ∀ (l1 : Int32) (l2 : Int32) (M : Mem), f_X10_distance_j21 fu   l1 l2 M = some res → GW G X 3 (QX G X (.inl (some (vI res.1))) res.2) 21 [(0, vR 10 0), (1, vI l1), (2, vI l2)] [vR 10 0] M := by
    intro l1 l2 M hm
    unfold f_X10_distance_j21 at hm
    refine g_iconst (v := 1) C dX10_distance_21 rfl ?_
    exact g_sub [0, 1, 2] rfl (g_pc rfl (J22 l1 l2 (1 : Int32) M hm))
  unfold f_X10_distance at hm
  refine g_aload_n C 0 dX10_distance_0 rfl rfl ?_
  refine g_aload_n C 0 dX10_distance_1 rfl rfl ?_
  refine g_iload_n C 1 dX10_distance_2 rfl rfl ?_
  obtain ⟨r3, hr3, hm⟩ := bnd_some hm
  refine g_callVi (As := [vI l1]) (rest := [vR 10 0]) C lk_X10_114 (k_X10_isPath X.2.1 G hl hG fu l1 M r3 hk0 hr3) (by decide) rfl rfl rfl (Nat.le_of_ble_eq_true rfl) ⟨Nat.le_of_ble_eq_true rfl, Nat.le_of_ble_eq_true rfl⟩ dX10_distance_3 ?_
  refine g_if_eq (tgt := 21) C dX10_distance_6 (by decide) (fun h6 => ?_) (fun h6 => ?_)
  · have hm := ift hm h6
    exact g_sub [0, 1, 2] rfl (g_pc rfl (J21 l1 l2 r3.2 hm))
  · have hm := ife hm h6
    refine g_aload_n C 0 dX10_distance_9 rfl rfl ?_
    refine g_iload_n C 2 dX10_distance_10 rfl rfl ?_
    obtain ⟨r11, hr11, hm⟩ := bnd_some hm
    refine g_callVi (As := [vI l2]) (rest := [vR 10 0]) C lk_X10_114 (k_X10_isPath X.2.1 G hl hG fu l2 r3.2 r11 hk0 hr11) (by decide) rfl rfl rfl (Nat.le_of_ble_eq_true rfl) ⟨Nat.le_of_ble_eq_true rfl, Nat.le_of_ble_eq_true rfl⟩ dX10_distance_11 ?_
    refine g_if_eq (tgt := 21) C dX10_distance_14 (by decide) (fun h14 => ?_) (fun h14 => ?_)
    · have hm := ift hm h14
      exact g_sub [0, 1, 2] rfl (g_pc rfl (J21 l1 l2 r11.2 hm))
    · have hm := ife hm h14
      refine g_iconst (v := 0) C dX10_distance_17 rfl ?_
      refine g_goto (tgt := 22) C dX10_distance_18 (by decide) ?_
      exact g_sub [0, 1, 2] rfl (g_pc rfl (J22 l1 l2 (0 : Int32) r11.2 hm))
def f_X10_nearer_j101 (fu : Nat)  (l1 : Int32) (l2 : Int32) (l3 : Int32) (t1 : Int32) (M : Mem) : Option ((Int32 × Int32 × Mem) ⊕ (Int32 × Mem)) :=
  some (Sum.inl (l2, l3 + (1 : Int32), (mI M 10 0 28 t1)))
def f_X10_nearer_j83 (fu : Nat)  (l1 : Int32) (l3 : Int32) (l5 : Int32) (t0 : Int32) (M : Mem) : Option ((Int32 × Int32 × Mem) ⊕ (Int32 × Mem)) :=
  if l5 = 0 then f_X10_nearer_j101 fu l1 t0 l3 (M.1 10 0 28) M else f_X10_nearer_j101 fu l1 t0 l3 (l3 / (14 : Int32)) M
def f_X10_nearer_j70 (fu : Nat)  (l1 : Int32) (l2 : Int32) (l3 : Int32) (l4 : Int32) (t0 : Int32) (M : Mem) : Option ((Int32 × Int32 × Mem) ⊕ (Int32 × Mem)) :=
  if t0 = 0 then f_X10_nearer_j83 fu l1 l3 t0 l2 M else f_X10_nearer_j83 fu l1 l3 t0 l4 M
def f_X10_nearer_j69 (fu : Nat)  (l1 : Int32) (l2 : Int32) (l3 : Int32) (l4 : Int32) (M : Mem) : Option ((Int32 × Int32 × Mem) ⊕ (Int32 × Mem)) :=
  f_X10_nearer_j70 fu l1 l2 l3 l4 (0 : Int32) M
def f_X10_nearer_j65 (fu : Nat)  (l1 : Int32) (l2 : Int32) (l3 : Int32) (l4 : Int32) (M : Mem) : Option ((Int32 × Int32 × Mem) ⊕ (Int32 × Mem)) :=
  f_X10_nearer_j70 fu l1 l2 l3 l4 (1 : Int32) M
def f_X10_nearer_b4 (fu : Nat)  (l1 : Int32) (l2 : Int32) (l3 : Int32) (M : Mem) : Option ((Int32 × Int32 × Mem) ⊕ (Int32 × Mem)) :=
  if ((14 : Int32) * (M.1 10 0 7)) ≤ l3 then some (Sum.inr (l2, M)) else (f_X10_stepped fu l1 (l3 / (7 : Int32)) (l3 - l3 / (7 : Int32) * (7 : Int32)) M).bind (fun r25 => if r25.1 = (-1 : Int32) then f_X10_nearer_j69 fu l1 l2 l3 r25.1 r25.2 else if inb r25.1 (alen 22 25) then if inb l1 (alen 22 25) then if (r25.2.1 22 25 r25.1.toNatClampNeg) = ((r25.2.1 22 25 l1.toNatClampNeg) - (1 : Int32)) then if l2 = (-1 : Int32) then f_X10_nearer_j65 fu l1 l2 l3 r25.1 r25.2 else if l2 ≤ r25.1 then f_X10_nearer_j69 fu l1 l2 l3 r25.1 r25.2 else f_X10_nearer_j65 fu l1 l2 l3 r25.1 r25.2 else f_X10_nearer_j69 fu l1 l2 l3 r25.1 r25.2 else none else none)
def f_X10_nearer_h4 (fu : Nat)   (l1 : Int32) (l2 : Int32) (l3 : Int32) (M : Mem) : Option (Int32 × Mem) :=
  (lp_run (fun s => f_X10_nearer_b4 fu  l1 s.1 s.2.1 s.2.2) fu (l2, l3, M)).bind (fun r4 => match r4 with
    | (l2, M) => some (l2, M))
def f_X10_nearer (fu : Nat) (l1 : Int32) (M : Mem) : Option (Int32 × Mem) :=
  f_X10_nearer_h4 fu l1 (-1 : Int32) (0 : Int32) M
set_option maxHeartbeats 4000000 in
set_option maxRecDepth 100000 in
theorem k_X10_nearer (l : Launch) (G : GE) (hl : l.stackTraces = false) (hG : GOK G) (fu : Nat) (l1 : Int32) (M : Mem) (res : Int32 × Mem) (hk0 : (10, 0) ∈ gids G) (hm : f_X10_nearer fu l1 M = some res) : CT l G yX10_nearer cX10_nearer 6 (some .int) 2 [vR 10 0, vI l1] M (.inl (some (vI res.1))) res.2 := by
  refine ct_of [(0, vR 10 0), (1, vI l1)] (by decide +kernel) hl hG (Nat.le_of_ble_eq_true rfl) rfl (List.forall_mem_cons.mpr ⟨Or.inl hk0, List.forall_mem_cons.mpr ⟨trivial, fun _ h => nomatch h⟩⟩) (List.forall_mem_cons.mpr ⟨Or.inl hk0, List.forall_mem_cons.mpr ⟨trivial, fun _ h => nomatch h⟩⟩) (fun X hX C => ?_)
  subst hX
  have Cl := C
  have J4 : ∀ (l1 : Int32) (l2 : Int32) (l3 : Int32) (M : Mem), f_X10_nearer_h4 fu   l1 l2 l3 M = some res → GW G X 6 (QX G X (.inl (some (vI res.1))) res.2) 4 [(0, vR 10 0), (1, vI l1), (2, vI l2), (3, vI l3)] [] M := by
    intro l1 l2 l3 M hm
    unfold f_X10_nearer_h4 at hm
    obtain ⟨r4, hL4, hk4⟩ := bnd_some hm
    have hx4 : ∀ (l2 : Int32) (M : Mem), (l2, M) = r4 → GW G X 6 (QX G X (.inl (some (vI res.1))) res.2) 110 [(2, vI l2)] [] M := by
      intro l2 M he
      subst he
      have hm := hk4
      try dsimp only at hm
      refine g_iload_n C 0 dX10_nearer_110 rfl rfl ?_
      obtain rfl := Option.some.inj hm
      exact g_iret C dX10_nearer_111
    refine lp_ind2 (P := (fun l2 l3 M => GW G X 6 (QX G X (.inl (some (vI res.1))) res.2) 4 [(0, vR 10 0), (1, vI l1), (2, vI l2), (3, vI l3)] [] M)) (r := r4) ?_ fu l2 l3 M hL4
    intro l2 l3 M o4 hm K4
    have J101 : ∀ (l2 : Int32) (l3 : Int32) (t1 : Int32) (M : Mem), f_X10_nearer_j101 fu  l1 l2 l3 t1 M = some o4 → GW G X 6 (QX G X (.inl (some (vI res.1))) res.2) 101 [(0, vR 10 0), (1, vI l1), (2, vI l2), (3, vI l3)] [vI t1, vR 10 0] M := by
      intro l2 l3 t1 M hm
      unfold f_X10_nearer_j101 at hm
      refine g_puti C (by decide) kf_X10_201 rfl rfl rfl dX10_nearer_101 ?_
      refine g_iinc (ls' := [(3, vI (l3 + (1 : Int32))), (0, vR 10 0), (1, vI l1), (2, vI l2)]) (v := l3 + (1 : Int32)) C 3 dX10_nearer_104 rfl (iv_p1 _) (by decide) rfl ?_
      refine g_goto (tgt := 4) C dX10_nearer_107 (by decide) ?_
      obtain rfl := Option.some.inj hm
      exact g_sub [1, 2, 3, 0] rfl (g_pc rfl (K4.1 l2 (l3 + (1 : Int32)) (mI M 10 0 28 t1) rfl))
    have J83 : ∀ (l3 : Int32) (l5 : Int32) (t0 : Int32) (M : Mem), f_X10_nearer_j83 fu  l1 l3 l5 t0 M = some o4 → GW G X 6 (QX G X (.inl (some (vI res.1))) res.2) 83 [(0, vR 10 0), (1, vI l1), (3, vI l3), (5, vI l5)] [vI t0] M := by
      intro l3 l5 t0 M hm
      unfold f_X10_nearer_j83 at hm
      refine g_istore_n (ls' := [(2, vI t0), (0, vR 10 0), (1, vI l1), (3, vI l3), (5, vI l5)]) C dX10_nearer_83 rfl (by decide) rfl ?_
      refine g_aload_n C 1 dX10_nearer_84 rfl rfl ?_
      refine g_iload C 4 dX10_nearer_85 rfl ?_
      refine g_if_eq (tgt := 97) C dX10_nearer_87 (by decide) (fun h87 => ?_) (fun h87 => ?_)
      · have hm := ift hm h87
        refine g_aload_n C 1 dX10_nearer_97 rfl rfl ?_
        refine g_geti (k := 0) C (by decide) kf_X10_201 rfl dX10_nearer_98 ?_
        exact g_sub [1, 2, 0, 3] rfl (g_pc rfl (J101 t0 l3 (M.1 10 0 28) M hm))
      · have hm := ife hm h87
        refine g_iload_n C 3 dX10_nearer_90 rfl rfl ?_
        refine g_bipush (v := 14) C dX10_nearer_91 rfl ?_
        refine g_idiv C dX10_nearer_93 (by decide) ?_
        refine g_goto (tgt := 101) C dX10_nearer_94 (by decide) ?_
        exact g_sub [1, 2, 0, 3] rfl (g_pc rfl (J101 t0 l3 (l3 / (14 : Int32)) M hm))
    have J70 : ∀ (l2 : Int32) (l3 : Int32) (l4 : Int32) (t0 : Int32) (M : Mem), f_X10_nearer_j70 fu  l1 l2 l3 l4 t0 M = some o4 → GW G X 6 (QX G X (.inl (some (vI res.1))) res.2) 70 [(0, vR 10 0), (1, vI l1), (2, vI l2), (3, vI l3), (4, vI l4)] [vI t0] M := by
      intro l2 l3 l4 t0 M hm
      unfold f_X10_nearer_j70 at hm
      refine g_istore (ls' := [(5, vI t0), (0, vR 10 0), (1, vI l1), (2, vI l2), (3, vI l3), (4, vI l4)]) C dX10_nearer_70 (by decide) rfl ?_
      refine g_iload C 0 dX10_nearer_72 rfl ?_
      refine g_if_eq (tgt := 82) C dX10_nearer_74 (by decide) (fun h74 => ?_) (fun h74 => ?_)
      · have hm := ift hm h74
        refine g_iload_n C 3 dX10_nearer_82 rfl rfl ?_
        exact g_sub [1, 2, 4, 0] rfl (g_pc rfl (J83 l3 t0 l2 M hm))
      · have hm := ife hm h74
        refine g_iload C 5 dX10_nearer_77 rfl ?_
        refine g_goto (tgt := 83) C dX10_nearer_79 (by decide) ?_
        exact g_sub [1, 2, 4, 0] rfl (g_pc rfl (J83 l3 t0 l4 M hm))
    have J69 : ∀ (l2 : Int32) (l3 : Int32) (l4 : Int32) (M : Mem), f_X10_nearer_j69 fu  l1 l2 l3 l4 M = some o4 → GW G X 6 (QX G X (.inl (some (vI res.1))) res.2) 69 [(0, vR 10 0), (1, vI l1), (2, vI l2), (3, vI l3), (4, vI l4)] [] M := by
      intro l2 l3 l4 M hm
      unfold f_X10_nearer_j69 at hm
      refine g_iconst (v := 0) C dX10_nearer_69 rfl ?_
      exact g_sub [0, 1, 2, 3, 4] rfl (g_pc rfl (J70 l2 l3 l4 (0 : Int32) M hm))
    have J65 : ∀ (l2 : Int32) (l3 : Int32) (l4 : Int32) (M : Mem), f_X10_nearer_j65 fu  l1 l2 l3 l4 M = some o4 → GW G X 6 (QX G X (.inl (some (vI res.1))) res.2) 65 [(0, vR 10 0), (1, vI l1), (2, vI l2), (3, vI l3), (4, vI l4)] [] M := by
      intro l2 l3 l4 M hm
      unfold f_X10_nearer_j65 at hm
      refine g_iconst (v := 1) C dX10_nearer_65 rfl ?_
      refine g_goto (tgt := 70) C dX10_nearer_66 (by decide) ?_
      exact g_sub [0, 1, 2, 3, 4] rfl (g_pc rfl (J70 l2 l3 l4 (1 : Int32) M hm))
    unfold f_X10_nearer_b4 at hm
    refine g_iload_n C 3 dX10_nearer_4 rfl rfl ?_
    refine g_bipush (v := 14) C dX10_nearer_5 rfl ?_
    refine g_aload_n C 0 dX10_nearer_7 rfl rfl ?_
    refine g_geti (k := 0) C (by decide) kf_X10_82 rfl dX10_nearer_8 ?_
    refine g_imul C dX10_nearer_11 ?_
    refine g_icmp_ge (tgt := 110) C dX10_nearer_12 (by decide) (fun h12 => ?_) (fun h12 => ?_)
    · have hm := ift hm h12
      obtain rfl := Option.some.inj hm
      exact g_sub [2] rfl (g_pc rfl (hx4 l2 M (K4.2 _ rfl)))
    · have hm := ife hm h12
      refine g_aload_n C 0 dX10_nearer_15 rfl rfl ?_
      refine g_iload_n C 1 dX10_nearer_16 rfl rfl ?_
      refine g_iload_n C 3 dX10_nearer_17 rfl rfl ?_
      refine g_bipush (v := 7) C dX10_nearer_18 rfl ?_
      refine g_idiv C dX10_nearer_20 (by decide) ?_
      refine g_iload_n C 3 dX10_nearer_21 rfl rfl ?_
      refine g_bipush (v := 7) C dX10_nearer_22 rfl ?_
      refine g_irem C dX10_nearer_24 (by decide) ?_
      obtain ⟨r25, hr25, hm⟩ := bnd_some hm
      refine g_callVi (As := [vI l1, vI (l3 / (7 : Int32)), vI (l3 - l3 / (7 : Int32) * (7 : Int32))]) (rest := []) C lk_X10_175 (k_X10_stepped X.2.1 G hl hG fu l1 (l3 / (7 : Int32)) (l3 - l3 / (7 : Int32) * (7 : Int32)) M r25 hk0 hr25) (by decide) rfl rfl rfl (Nat.le_of_ble_eq_true rfl) ⟨Nat.le_of_ble_eq_true rfl, Nat.le_of_ble_eq_true rfl⟩ dX10_nearer_25 ?_
      refine g_istore (ls' := [(4, vI r25.1), (0, vR 10 0), (1, vI l1), (2, vI l2), (3, vI l3)]) C dX10_nearer_28 (by decide) rfl ?_
      refine g_iload C 0 dX10_nearer_30 rfl ?_
      refine g_iconst (v := -1) C dX10_nearer_32 rfl ?_
      refine g_icmp_eq (tgt := 69) C dX10_nearer_33 (by decide) (fun h33 => ?_) (fun h33 => ?_)
      · have hm := ift hm h33
        exact g_sub [1, 2, 3, 4, 0] rfl (g_pc rfl (J69 l2 l3 r25.1 r25.2 hm))
      · have hm := ife hm h33
        refine g_aload_n C 1 dX10_nearer_36 rfl rfl ?_
        refine g_getr (k := 0) (k' := 25) C (by decide) kf_X10_53 rfl rfl dX10_nearer_37 ?_
        refine g_iload C 0 dX10_nearer_40 rfl ?_
        obtain ⟨hi42, hm⟩ := ifn hm
        refine g_iald C (by decide) hi42 dX10_nearer_42 ?_
        refine g_aload_n C 1 dX10_nearer_43 rfl rfl ?_
        refine g_getr (k := 0) (k' := 25) C (by decide) kf_X10_53 rfl rfl dX10_nearer_44 ?_
        refine g_iload_n C 2 dX10_nearer_47 rfl rfl ?_
        obtain ⟨hi48, hm⟩ := ifn hm
        refine g_iald C (by decide) hi48 dX10_nearer_48 ?_
        refine g_iconst (v := 1) C dX10_nearer_49 rfl ?_
        refine g_isub C dX10_nearer_50 ?_
        refine g_icmp_ne (tgt := 69) C dX10_nearer_51 (by decide) (fun h51 => ?_) (fun h51 => ?_)
        · have hm := ife hm h51
          exact g_sub [1, 2, 3, 4, 0] rfl (g_pc rfl (J69 l2 l3 r25.1 r25.2 hm))
        · have hm := ift hm h51
          refine g_iload_n C 3 dX10_nearer_54 rfl rfl ?_
          refine g_iconst (v := -1) C dX10_nearer_55 rfl ?_
          refine g_icmp_eq (tgt := 65) C dX10_nearer_56 (by decide) (fun h56 => ?_) (fun h56 => ?_)
          · have hm := ift hm h56
            exact g_sub [1, 2, 3, 4, 0] rfl (g_pc rfl (J65 l2 l3 r25.1 r25.2 hm))
          · have hm := ife hm h56
            refine g_iload C 0 dX10_nearer_59 rfl ?_
            refine g_iload_n C 3 dX10_nearer_61 rfl rfl ?_
            refine g_icmp_ge (tgt := 69) C dX10_nearer_62 (by decide) (fun h62 => ?_) (fun h62 => ?_)
            · have hm := ift hm h62
              exact g_sub [1, 2, 3, 4, 0] rfl (g_pc rfl (J69 l2 l3 r25.1 r25.2 hm))
            · have hm := ife hm h62
              exact g_sub [1, 2, 3, 4, 0] rfl (g_pc rfl (J65 l2 l3 r25.1 r25.2 hm))
  unfold f_X10_nearer at hm
  refine g_iconst (v := -1) C dX10_nearer_0 rfl ?_
  refine g_istore_n (ls' := [(2, vI (-1 : Int32)), (0, vR 10 0), (1, vI l1)]) C dX10_nearer_1 rfl (by decide) rfl ?_
  refine g_iconst (v := 0) C dX10_nearer_2 rfl ?_
  refine g_istore_n (ls' := [(3, vI (0 : Int32)), (2, vI (-1 : Int32)), (0, vR 10 0), (1, vI l1)]) C dX10_nearer_3 rfl (by decide) rfl ?_
  exact g_sub [2, 3, 1, 0] rfl (g_pc rfl (J4 l1 (-1 : Int32) (0 : Int32) M hm))
def f_X10_proof_b86 (fu : Nat)  (l3 : Int32) (l4 : Int32) (l6 : Int32) (l7 : Int32) (M : Mem) : Option ((Int32 × Int32 × Mem) ⊕ (Int32 × Mem)) :=
  if l3 < l7 then some (Sum.inr (l6, M)) else (f_X10_nearer fu l6 M).bind (fun r95 => some (Sum.inl (r95.1, l7 + (1 : Int32), r95.2)))
def f_X10_proof_h86 (fu : Nat)   (l3 : Int32) (l4 : Int32) (l6 : Int32) (l7 : Int32) (M : Mem) : Option (Int32 × Mem) :=
  (lp_run (fun s => f_X10_proof_b86 fu  l3 l4 s.1 s.2.1 s.2.2) fu (l6, l7, M)).bind (fun r86 => match r86 with
    | (l6, M) => if l4 = 0 then some (l6, M) else some (M.1 10 0 28, M))
def f_X10_proof_j68 (fu : Nat)   (l1 : Int32) (l3 : Int32) (l4 : Int32) (t1 : Int32) (M : Mem) : Option (Int32 × Mem) :=
  if ((mI M 10 0 0 t1).1 10 0 0) ≤ 0 then f_X10_proof_h86 fu l3 l4 l1 (0 : Int32) (mI M 10 0 0 t1) else some ((0 : Int32), (mI M 10 0 0 t1))
def f_X10_proof_j21 (fu : Nat)   (l1 : Int32) (l2 : Int32) (l3 : Int32) (l4 : Int32) (t0 : Int32) (M : Mem) : Option (Int32 × Mem) :=
  if t0 = 0 then f_X10_proof_j68 fu l1 l3 l4 (1 : Int32) M else (f_X10_within fu l4 (0 : Int32) (1 : Int32) M).bind (fun r37 => if r37.1 = 0 then f_X10_proof_j68 fu l1 l3 l4 (2 : Int32) r37.2 else (f_X10_distanceOf fu l1 l2 r37.2).bind (fun r52 => (f_X10_within fu l3 (0 : Int32) (r52.1 - (1 : Int32)) r52.2).bind (fun r57 => if r57.1 = 0 then f_X10_proof_j68 fu l1 l3 l4 (3 : Int32) r57.2 else f_X10_proof_j68 fu l1 l3 l4 (0 : Int32) r57.2)))
def f_X10_proof_j20 (fu : Nat)   (l1 : Int32) (l2 : Int32) (l3 : Int32) (l4 : Int32) (M : Mem) : Option (Int32 × Mem) :=
  f_X10_proof_j21 fu l1 l2 l3 l4 (0 : Int32) M
def f_X10_proof (fu : Nat) (l1 : Int32) (l2 : Int32) (l3 : Int32) (l4 : Int32) (M : Mem) : Option (Int32 × Mem) :=
  (f_X10_isPath fu l1 M).bind (fun r2 => if r2.1 = 0 then f_X10_proof_j20 fu l1 l2 l3 l4 r2.2 else (f_X10_isPath fu l2 r2.2).bind (fun r10 => if r10.1 = 0 then f_X10_proof_j20 fu l1 l2 l3 l4 r10.2 else f_X10_proof_j21 fu l1 l2 l3 l4 (1 : Int32) r10.2))
set_option maxHeartbeats 4000000 in
set_option maxRecDepth 100000 in
theorem k_X10_proof (l : Launch) (G : GE) (hl : l.stackTraces = false) (hG : GOK G) (fu : Nat) (l1 : Int32) (l2 : Int32) (l3 : Int32) (l4 : Int32) (M : Mem) (res : Int32 × Mem) (hk0 : (10, 0) ∈ gids G) (hm : f_X10_proof fu l1 l2 l3 l4 M = some res) : CT l G yX10_proof cX10_proof 8 (some .int) 4 [vR 10 0, vI l1, vI l2, vI l3, vI l4] M (.inl (some (vI res.1))) res.2 := by
  refine ct_of [(0, vR 10 0), (1, vI l1), (2, vI l2), (3, vI l3), (4, vI l4)] (by decide +kernel) hl hG (Nat.le_of_ble_eq_true rfl) rfl (List.forall_mem_cons.mpr ⟨Or.inl hk0, List.forall_mem_cons.mpr ⟨trivial, List.forall_mem_cons.mpr ⟨trivial, List.forall_mem_cons.mpr ⟨trivial, List.forall_mem_cons.mpr ⟨trivial, fun _ h => nomatch h⟩⟩⟩⟩⟩) (List.forall_mem_cons.mpr ⟨Or.inl hk0, List.forall_mem_cons.mpr ⟨trivial, List.forall_mem_cons.mpr ⟨trivial, List.forall_mem_cons.mpr ⟨trivial, List.forall_mem_cons.mpr ⟨trivial, fun _ h => nomatch h⟩⟩⟩⟩⟩) (fun X hX C => ?_)
  subst hX
  have Cl := C
  have J86 : ∀ (l3 : Int32) (l4 : Int32) (l6 : Int32) (l7 : Int32) (M : Mem), f_X10_proof_h86 fu   l3 l4 l6 l7 M = some res → GW G X 8 (QX G X (.inl (some (vI res.1))) res.2) 86 [(0, vR 10 0), (3, vI l3), (4, vI l4), (6, vI l6), (7, vI l7)] [] M := by
    intro l3 l4 l6 l7 M hm
    unfold f_X10_proof_h86 at hm
    obtain ⟨r86, hL86, hk86⟩ := bnd_some hm
    have hx86 : ∀ (l6 : Int32) (M : Mem), (l6, M) = r86 → GW G X 8 (QX G X (.inl (some (vI res.1))) res.2) 106 [(0, vR 10 0), (4, vI l4), (6, vI l6)] [] M := by
      intro l6 M he
      subst he
      have hm := hk86
      try dsimp only at hm
      refine g_iload C 1 dX10_proof_106 rfl ?_
      refine g_if_ne (tgt := 116) C dX10_proof_108 (by decide) (fun h108 => ?_) (fun h108 => ?_)
      · have hm := ife hm h108
        refine g_aload_n C 0 dX10_proof_116 rfl rfl ?_
        refine g_geti (k := 0) C (by decide) kf_X10_201 rfl dX10_proof_117 ?_
        obtain rfl := Option.some.inj hm
        exact g_iret C dX10_proof_120
      · have hm := ift hm h108
        refine g_iload C 2 dX10_proof_111 rfl ?_
        refine g_goto (tgt := 120) C dX10_proof_113 (by decide) ?_
        obtain rfl := Option.some.inj hm
        exact g_iret C dX10_proof_120
    refine lp_ind2 (P := (fun l6 l7 M => GW G X 8 (QX G X (.inl (some (vI res.1))) res.2) 86 [(0, vR 10 0), (3, vI l3), (4, vI l4), (6, vI l6), (7, vI l7)] [] M)) (r := r86) ?_ fu l6 l7 M hL86
    intro l6 l7 M o86 hm K86
    unfold f_X10_proof_b86 at hm
    refine g_iload C 4 dX10_proof_86 rfl ?_
    refine g_iload_n C 1 dX10_proof_88 rfl rfl ?_
    refine g_icmp_gt (tgt := 106) C dX10_proof_89 (by decide) (fun h89 => ?_) (fun h89 => ?_)
    · have hm := ift hm h89
      obtain rfl := Option.some.inj hm
      exact g_sub [0, 2, 3] rfl (g_pc rfl (hx86 l6 M (K86.2 _ rfl)))
    · have hm := ife hm h89
      refine g_aload_n C 0 dX10_proof_92 rfl rfl ?_
      refine g_iload C 3 dX10_proof_93 rfl ?_
      obtain ⟨r95, hr95, hm⟩ := bnd_some hm
      refine g_callVi (As := [vI l6]) (rest := []) C lk_X10_204 (k_X10_nearer X.2.1 G hl hG fu l6 M r95 hk0 hr95) (by decide) rfl rfl rfl (Nat.le_of_ble_eq_true rfl) ⟨Nat.le_of_ble_eq_true rfl, Nat.le_of_ble_eq_true rfl⟩ dX10_proof_95 ?_
      refine g_istore (ls' := [(6, vI r95.1), (0, vR 10 0), (3, vI l3), (4, vI l4), (7, vI l7)]) C dX10_proof_98 (by decide) rfl ?_
      refine g_iinc (ls' := [(7, vI (l7 + (1 : Int32))), (6, vI r95.1), (0, vR 10 0), (3, vI l3), (4, vI l4)]) (v := l7 + (1 : Int32)) C 4 dX10_proof_100 rfl (iv_p1 _) (by decide) rfl ?_
      refine g_goto (tgt := 86) C dX10_proof_103 (by decide) ?_
      obtain rfl := Option.some.inj hm
      exact g_sub [2, 3, 4, 1, 0] rfl (g_pc rfl (K86.1 r95.1 (l7 + (1 : Int32)) r95.2 rfl))
  have J68 : ∀ (l1 : Int32) (l3 : Int32) (l4 : Int32) (t1 : Int32) (M : Mem), f_X10_proof_j68 fu   l1 l3 l4 t1 M = some res → GW G X 8 (QX G X (.inl (some (vI res.1))) res.2) 68 [(0, vR 10 0), (1, vI l1), (3, vI l3), (4, vI l4)] [vI t1, vR 10 0] M := by
    intro l1 l3 l4 t1 M hm
    unfold f_X10_proof_j68 at hm
    refine g_puti C (by decide) kf_X10_72 rfl rfl rfl dX10_proof_68 ?_
    refine g_aload_n C 0 dX10_proof_71 rfl rfl ?_
    refine g_geti (k := 0) C (by decide) kf_X10_72 rfl dX10_proof_72 ?_
    refine g_if_le (tgt := 80) C dX10_proof_75 (by decide) (fun h75 => ?_) (fun h75 => ?_)
    · have hm := ift hm h75
      refine g_iload_n C 1 dX10_proof_80 rfl rfl ?_
      refine g_istore (ls' := [(6, vI l1), (0, vR 10 0), (1, vI l1), (3, vI l3), (4, vI l4)]) C dX10_proof_81 (by decide) rfl ?_
      refine g_iconst (v := 0) C dX10_proof_83 rfl ?_
      refine g_istore (ls' := [(7, vI (0 : Int32)), (6, vI l1), (0, vR 10 0), (1, vI l1), (3, vI l3), (4, vI l4)]) C dX10_proof_84 (by decide) rfl ?_
      exact g_sub [2, 4, 5, 1, 0] rfl (g_pc rfl (J86 l3 l4 l1 (0 : Int32) (mI M 10 0 0 t1) hm))
    · have hm := ife hm h75
      refine g_iconst (v := 0) C dX10_proof_78 rfl ?_
      obtain rfl := Option.some.inj hm
      exact g_iret C dX10_proof_79
  have J21 : ∀ (l1 : Int32) (l2 : Int32) (l3 : Int32) (l4 : Int32) (t0 : Int32) (M : Mem), f_X10_proof_j21 fu   l1 l2 l3 l4 t0 M = some res → GW G X 8 (QX G X (.inl (some (vI res.1))) res.2) 21 [(0, vR 10 0), (1, vI l1), (2, vI l2), (3, vI l3), (4, vI l4)] [vI t0] M := by
    intro l1 l2 l3 l4 t0 M hm
    unfold f_X10_proof_j21 at hm
    refine g_istore (ls' := [(5, vI t0), (0, vR 10 0), (1, vI l1), (2, vI l2), (3, vI l3), (4, vI l4)]) C dX10_proof_21 (by decide) rfl ?_
    refine g_aload_n C 1 dX10_proof_23 rfl rfl ?_
    refine g_iload C 0 dX10_proof_24 rfl ?_
    refine g_if_ne (tgt := 33) C dX10_proof_26 (by decide) (fun h26 => ?_) (fun h26 => ?_)
    · have hm := ife hm h26
      refine g_iload C 5 dX10_proof_33 rfl ?_
      refine g_iconst (v := 0) C dX10_proof_35 rfl ?_
      refine g_iconst (v := 1) C dX10_proof_36 rfl ?_
      obtain ⟨r37, hr37, hm⟩ := bnd_some hm
      refine g_callSi (As := [vI l4, vI (0 : Int32), vI (1 : Int32)]) (rest := [vR 10 0]) C lk_X10_75 (k_X10_within X.2.1 G hl hG fu l4 (0 : Int32) (1 : Int32) M r37  hr37) rfl rfl (Nat.le_of_ble_eq_true rfl) ⟨Nat.le_of_ble_eq_true rfl, Nat.le_of_ble_eq_true rfl⟩ dX10_proof_37 ?_
      refine g_if_ne (tgt := 47) C dX10_proof_40 (by decide) (fun h40 => ?_) (fun h40 => ?_)
      · have hm := ife hm h40
        refine g_iload_n C 4 dX10_proof_47 rfl rfl ?_
        refine g_iconst (v := 0) C dX10_proof_48 rfl ?_
        refine g_aload_n C 1 dX10_proof_49 rfl rfl ?_
        refine g_iload_n C 2 dX10_proof_50 rfl rfl ?_
        refine g_iload_n C 3 dX10_proof_51 rfl rfl ?_
        obtain ⟨r52, hr52, hm⟩ := bnd_some hm
        refine g_callVi (As := [vI l1, vI l2]) (rest := [vI (0 : Int32), vI l3, vR 10 0]) C lk_X10_198 (k_X10_distanceOf X.2.1 G hl hG fu l1 l2 r37.2 r52 hk0 hr52) (by decide) rfl rfl rfl (Nat.le_of_ble_eq_true rfl) ⟨Nat.le_of_ble_eq_true rfl, Nat.le_of_ble_eq_true rfl⟩ dX10_proof_52 ?_
        refine g_iconst (v := 1) C dX10_proof_55 rfl ?_
        refine g_isub C dX10_proof_56 ?_
        obtain ⟨r57, hr57, hm⟩ := bnd_some hm
        refine g_callSi (As := [vI l3, vI (0 : Int32), vI (r52.1 - (1 : Int32))]) (rest := [vR 10 0]) C lk_X10_75 (k_X10_within X.2.1 G hl hG fu l3 (0 : Int32) (r52.1 - (1 : Int32)) r52.2 r57  hr57) rfl rfl (Nat.le_of_ble_eq_true rfl) ⟨Nat.le_of_ble_eq_true rfl, Nat.le_of_ble_eq_true rfl⟩ dX10_proof_57 ?_
        refine g_if_eq (tgt := 67) C dX10_proof_60 (by decide) (fun h60 => ?_) (fun h60 => ?_)
        · have hm := ift hm h60
          refine g_iconst (v := 3) C dX10_proof_67 rfl ?_
          exact g_sub [1, 2, 4, 5] rfl (g_pc rfl (J68 l1 l3 l4 (3 : Int32) r57.2 hm))
        · have hm := ife hm h60
          refine g_iconst (v := 0) C dX10_proof_63 rfl ?_
          refine g_goto (tgt := 68) C dX10_proof_64 (by decide) ?_
          exact g_sub [1, 2, 4, 5] rfl (g_pc rfl (J68 l1 l3 l4 (0 : Int32) r57.2 hm))
      · have hm := ift hm h40
        refine g_iconst (v := 2) C dX10_proof_43 rfl ?_
        refine g_goto (tgt := 68) C dX10_proof_44 (by decide) ?_
        exact g_sub [1, 2, 4, 5] rfl (g_pc rfl (J68 l1 l3 l4 (2 : Int32) r37.2 hm))
    · have hm := ift hm h26
      refine g_iconst (v := 1) C dX10_proof_29 rfl ?_
      refine g_goto (tgt := 68) C dX10_proof_30 (by decide) ?_
      exact g_sub [1, 2, 4, 5] rfl (g_pc rfl (J68 l1 l3 l4 (1 : Int32) M hm))
  have J20 : ∀ (l1 : Int32) (l2 : Int32) (l3 : Int32) (l4 : Int32) (M : Mem), f_X10_proof_j20 fu   l1 l2 l3 l4 M = some res → GW G X 8 (QX G X (.inl (some (vI res.1))) res.2) 20 [(0, vR 10 0), (1, vI l1), (2, vI l2), (3, vI l3), (4, vI l4)] [] M := by
    intro l1 l2 l3 l4 M hm
    unfold f_X10_proof_j20 at hm
    refine g_iconst (v := 0) C dX10_proof_20 rfl ?_
    exact g_sub [0, 1, 2, 3, 4] rfl (g_pc rfl (J21 l1 l2 l3 l4 (0 : Int32) M hm))
  unfold f_X10_proof at hm
  refine g_aload_n C 0 dX10_proof_0 rfl rfl ?_
  refine g_iload_n C 1 dX10_proof_1 rfl rfl ?_
  obtain ⟨r2, hr2, hm⟩ := bnd_some hm
  refine g_callVi (As := [vI l1]) (rest := []) C lk_X10_114 (k_X10_isPath X.2.1 G hl hG fu l1 M r2 hk0 hr2) (by decide) rfl rfl rfl (Nat.le_of_ble_eq_true rfl) ⟨Nat.le_of_ble_eq_true rfl, Nat.le_of_ble_eq_true rfl⟩ dX10_proof_2 ?_
  refine g_if_eq (tgt := 20) C dX10_proof_5 (by decide) (fun h5 => ?_) (fun h5 => ?_)
  · have hm := ift hm h5
    exact g_sub [0, 1, 2, 3, 4] rfl (g_pc rfl (J20 l1 l2 l3 l4 r2.2 hm))
  · have hm := ife hm h5
    refine g_aload_n C 0 dX10_proof_8 rfl rfl ?_
    refine g_iload_n C 2 dX10_proof_9 rfl rfl ?_
    obtain ⟨r10, hr10, hm⟩ := bnd_some hm
    refine g_callVi (As := [vI l2]) (rest := []) C lk_X10_114 (k_X10_isPath X.2.1 G hl hG fu l2 r2.2 r10 hk0 hr10) (by decide) rfl rfl rfl (Nat.le_of_ble_eq_true rfl) ⟨Nat.le_of_ble_eq_true rfl, Nat.le_of_ble_eq_true rfl⟩ dX10_proof_10 ?_
    refine g_if_eq (tgt := 20) C dX10_proof_13 (by decide) (fun h13 => ?_) (fun h13 => ?_)
    · have hm := ift hm h13
      exact g_sub [0, 1, 2, 3, 4] rfl (g_pc rfl (J20 l1 l2 l3 l4 r10.2 hm))
    · have hm := ife hm h13
      refine g_iconst (v := 1) C dX10_proof_16 rfl ?_
      refine g_goto (tgt := 21) C dX10_proof_17 (by decide) ?_
      exact g_sub [0, 1, 2, 3, 4] rfl (g_pc rfl (J21 l1 l2 l3 l4 (1 : Int32) r10.2 hm))

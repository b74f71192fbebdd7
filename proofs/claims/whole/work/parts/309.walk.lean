/-! models and contracts, by program (wip/whole/emit.py): Jxe99ae_isNaN_b9ae7, Jxe99ae_doubleToLongBits_ccdee, X10_digest -/
def f_Jxe99ae_isNaN_b9ae7 (fu : Nat) (l0 : UInt64) (M : Mem) : Option (Int32 × Mem) :=
  if (Op.cmpValue (FP.dcmp l0 l0) .l) = 0 then some ((0 : Int32), M) else some ((1 : Int32), M)
set_option maxHeartbeats 4000000 in
set_option maxRecDepth 100000 in
theorem k_Jxe99ae_isNaN_b9ae7 (l : Launch) (G : GE) (hl : l.stackTraces = false) (hG : GOK G) (fu : Nat) (l0 : UInt64) (M : Mem) (res : Int32 × Mem)  (hm : f_Jxe99ae_isNaN_b9ae7 fu l0 M = some res) : CT l G yJxe99ae_isNaN_b9ae7 cJxe99ae_isNaN_b9ae7 2 (some .boolean) 0 [vD l0] M (.inl (some (vI res.1))) res.2 := by
  refine ct_of [(0, vD l0)] (by decide +kernel) hl hG (Nat.le_of_ble_eq_true rfl) rfl (List.forall_mem_cons.mpr ⟨trivial, fun _ h => nomatch h⟩) (List.forall_mem_cons.mpr ⟨trivial, fun _ h => nomatch h⟩) (fun X hX C => ?_)
  subst hX
  have Cl := C
  unfold f_Jxe99ae_isNaN_b9ae7 at hm
  refine g_dload_n C 0 dJxe99ae_isNaN_b9ae7_0 rfl rfl ?_
  refine g_dload_n C 0 dJxe99ae_isNaN_b9ae7_1 rfl rfl ?_
  refine g_dcmp C dJxe99ae_isNaN_b9ae7_2 ?_
  refine g_if_eq (tgt := 10) C dJxe99ae_isNaN_b9ae7_3 (by decide) (fun h3 => ?_) (fun h3 => ?_)
  · have hm := ift hm h3
    refine g_iconst (v := 0) C dJxe99ae_isNaN_b9ae7_10 rfl ?_
    obtain rfl := Option.some.inj hm
    exact g_zret C (Or.inl rfl) dJxe99ae_isNaN_b9ae7_11
  · have hm := ife hm h3
    refine g_iconst (v := 1) C dJxe99ae_isNaN_b9ae7_6 rfl ?_
    refine g_goto (tgt := 11) C dJxe99ae_isNaN_b9ae7_7 (by decide) ?_
    obtain rfl := Option.some.inj hm
    exact g_zret C (Or.inr rfl) dJxe99ae_isNaN_b9ae7_11
def f_Jxe99ae_doubleToLongBits_ccdee (fu : Nat) (l0 : UInt64) (M : Mem) : Option (Int64 × Mem) :=
  (f_Jxe99ae_isNaN_b9ae7 fu l0 M).bind (fun r1 => if r1.1 = 0 then some (l0.toInt64, r1.2) else some ((9221120237041090560 : Int64), r1.2))
set_option maxHeartbeats 4000000 in
set_option maxRecDepth 100000 in
theorem k_Jxe99ae_doubleToLongBits_ccdee (l : Launch) (G : GE) (hl : l.stackTraces = false) (hG : GOK G) (fu : Nat) (l0 : UInt64) (M : Mem) (res : Int64 × Mem)  (hm : f_Jxe99ae_doubleToLongBits_ccdee fu l0 M = some res) : CT l G yJxe99ae_doubleToLongBits_ccdee cJxe99ae_doubleToLongBits_ccdee 2 (some .long) 1 [vD l0] M (.inl (some (vL res.1))) res.2 := by
  refine ct_of [(0, vD l0)] (by decide +kernel) hl hG (Nat.le_of_ble_eq_true rfl) rfl (List.forall_mem_cons.mpr ⟨trivial, fun _ h => nomatch h⟩) (List.forall_mem_cons.mpr ⟨trivial, fun _ h => nomatch h⟩) (fun X hX C => ?_)
  subst hX
  have Cl := C
  unfold f_Jxe99ae_doubleToLongBits_ccdee at hm
  refine g_dload_n C 0 dJxe99ae_doubleToLongBits_ccdee_0 rfl rfl ?_
  obtain ⟨r1, hr1, hm⟩ := bnd_some hm
  refine g_callSi (As := [vD l0]) (rest := []) C lk_Jxe99ae_122 (k_Jxe99ae_isNaN_b9ae7 X.2.1 G hl hG fu l0 M r1  hr1) rfl rfl (Nat.le_of_ble_eq_true rfl) ⟨Nat.le_of_ble_eq_true rfl, Nat.le_of_ble_eq_true rfl⟩ dJxe99ae_doubleToLongBits_ccdee_1 ?_
  refine g_if_ne (tgt := 12) C dJxe99ae_doubleToLongBits_ccdee_4 (by decide) (fun h4 => ?_) (fun h4 => ?_)
  · have hm := ife hm h4
    refine g_ldc2 (v := 9221120237041090560) C kc_Jxe99ae_137 dJxe99ae_doubleToLongBits_ccdee_12 ?_
    obtain rfl := Option.some.inj hm
    exact g_lret C dJxe99ae_doubleToLongBits_ccdee_15
  · have hm := ift hm h4
    refine g_dload_n C 0 dJxe99ae_doubleToLongBits_ccdee_7 rfl rfl ?_
    refine g_d2raw C kn_d2raw0 kn_d2raw1 kn_d2raw2 kn_d2raw3 (by decide) dJxe99ae_doubleToLongBits_ccdee_8 ?_
    obtain rfl := Option.some.inj hm
    exact g_lret C dJxe99ae_doubleToLongBits_ccdee_11
def f_X10_digest_b14 (fu : Nat)   (l1 : Int32) (M : Mem) : Option ((Int32 × Mem) ⊕ (Mem)) :=
  if (8 : Int32) ≤ l1 then some (Sum.inr M) else (f_X10_number fu l1 M).bind (fun r23 => (f_X10_mix fu r23.1.toInt64 r23.2).bind (fun r27 => some (Sum.inl (l1 + (1 : Int32), r27))))
def f_X10_digest_b38 (fu : Nat)   (l1 : Int32) (M : Mem) : Option ((Int32 × Mem) ⊕ (Mem)) :=
  if (M.1 10 0 1) ≤ l1 then some (Sum.inr M) else if inb l1 (alen 22 6) then (f_X10_mix fu ((M.1 22 6 l1.toNatClampNeg).toInt64) M).bind (fun r54 => some (Sum.inl (l1 + (1 : Int32), r54))) else none
def f_X10_digest_b65 (fu : Nat)   (l1 : Int32) (M : Mem) : Option ((Int32 × Mem) ⊕ (Mem)) :=
  if (M.1 10 0 2) ≤ l1 then some (Sum.inr M) else if inb l1 (alen 22 3) then (f_X10_mix fu ((M.1 22 3 l1.toNatClampNeg).toInt64) M).bind (fun r81 => if inb l1 (alen 22 4) then (f_X10_mix fu ((r81.1 22 4 l1.toNatClampNeg).toInt64) r81).bind (fun r92 => if inb l1 (alen 22 5) then (f_X10_mix fu ((r92.1 22 5 l1.toNatClampNeg).toInt64) r92).bind (fun r103 => some (Sum.inl (l1 + (1 : Int32), r103))) else none) else none) else none
def f_X10_digest_b142 (fu : Nat)   (l1 : Int32) (M : Mem) : Option ((Int32 × Mem) ⊕ (Mem)) :=
  if (M.1 10 0 11) ≤ l1 then some (Sum.inr M) else if inb l1 (alen 22 12) then (f_X10_mix fu ((M.1 22 12 l1.toNatClampNeg).toInt64) M).bind (fun r158 => some (Sum.inl (l1 + (1 : Int32), r158))) else none
def f_X10_digest_h142 (fu : Nat)   (l1 : Int32) (M : Mem) : Option (Int64 × Mem) :=
  (lp_run (fun s => f_X10_digest_b142 fu   s.1 s.2) fu (l1, M)).bind (fun M => some (M.2 10 0 31, M))
def f_X10_digest_h65 (fu : Nat)   (l1 : Int32) (M : Mem) : Option (Int64 × Mem) :=
  (lp_run (fun s => f_X10_digest_b65 fu   s.1 s.2) fu (l1, M)).bind (fun M => (f_X10_mixCells fu  M).bind (fun r113 => (f_X10_mixPaths fu  r113).bind (fun r117 => (f_X10_commutingNow fu  r117).bind (fun r122 => (f_Jxe99ae_doubleToLongBits_ccdee fu r122.1 r122.2).bind (fun r125 => (f_X10_mix fu r125.1 r125.2).bind (fun r128 => (f_X10_mix fu ((r128.1 10 0 11).toInt64) r128).bind (fun r137 => f_X10_digest_h142 fu (0 : Int32) r137)))))))
def f_X10_digest_h38 (fu : Nat)   (l1 : Int32) (M : Mem) : Option (Int64 × Mem) :=
  (lp_run (fun s => f_X10_digest_b38 fu   s.1 s.2) fu (l1, M)).bind (fun M => f_X10_digest_h65 fu (0 : Int32) M)
def f_X10_digest_h14 (fu : Nat)   (l1 : Int32) (M : Mem) : Option (Int64 × Mem) :=
  (lp_run (fun s => f_X10_digest_b14 fu   s.1 s.2) fu (l1, M)).bind (fun M => f_X10_digest_h38 fu (0 : Int32) M)
def f_X10_digest (fu : Nat) (M : Mem) : Option (Int64 × Mem) :=
  f_X10_digest_h14 fu (0 : Int32) (mL (mI M 10 0 0 (0 : Int32)) 10 0 31 (1987 : Int64))
set_option maxHeartbeats 4000000 in
set_option maxRecDepth 100000 in
theorem k_X10_digest (l : Launch) (G : GE) (hl : l.stackTraces = false) (hG : GOK G) (fu : Nat)  (M : Mem) (res : Int64 × Mem) (hk0 : (10, 0) ∈ gids G) (hm : f_X10_digest fu  M = some res) : CT l G yX10_digest cX10_digest 2 (some .long) 8 [vR 10 0] M (.inl (some (vL res.1))) res.2 := by
  refine ct_of [(0, vR 10 0)] (by decide +kernel) hl hG (Nat.le_of_ble_eq_true rfl) rfl (List.forall_mem_cons.mpr ⟨Or.inl hk0, fun _ h => nomatch h⟩) (List.forall_mem_cons.mpr ⟨Or.inl hk0, fun _ h => nomatch h⟩) (fun X hX C => ?_)
  subst hX
  have Cl := C
  have J142 : ∀ (l1 : Int32) (M : Mem), f_X10_digest_h142 fu   l1 M = some res → GW G X 2 (QX G X (.inl (some (vL res.1))) res.2) 142 [(0, vR 10 0), (1, vI l1)] [] M := by
    intro l1 M hm
    unfold f_X10_digest_h142 at hm
    obtain ⟨r142, hL142, hk142⟩ := bnd_some hm
    have hx142 : ∀ (M : Mem), M = r142 → GW G X 2 (QX G X (.inl (some (vL res.1))) res.2) 167 [(0, vR 10 0)] [] M := by
      intro M he
      subst he
      have hm := hk142
      try dsimp only at hm
      refine g_aload_n C 0 dX10_digest_167 rfl rfl ?_
      refine g_getl (k := 0) C (by decide) kf_X10_280 rfl dX10_digest_168 ?_
      obtain rfl := Option.some.inj hm
      exact g_lret C dX10_digest_171
    refine lp_ind1 (P := (fun l1 M => GW G X 2 (QX G X (.inl (some (vL res.1))) res.2) 142 [(0, vR 10 0), (1, vI l1)] [] M)) (r := r142) ?_ fu l1 M hL142
    intro l1 M o142 hm K142
    unfold f_X10_digest_b142 at hm
    refine g_iload_n C 1 dX10_digest_142 rfl rfl ?_
    refine g_aload_n C 0 dX10_digest_143 rfl rfl ?_
    refine g_geti (k := 0) C (by decide) kf_X10_126 rfl dX10_digest_144 ?_
    refine g_icmp_ge (tgt := 167) C dX10_digest_147 (by decide) (fun h147 => ?_) (fun h147 => ?_)
    · have hm := ift hm h147
      obtain rfl := Option.some.inj hm
      exact g_sub [0] rfl (g_pc rfl (hx142 M (K142.2 _ rfl)))
    · have hm := ife hm h147
      refine g_aload_n C 0 dX10_digest_150 rfl rfl ?_
      refine g_aload_n C 0 dX10_digest_151 rfl rfl ?_
      refine g_getr (k := 0) (k' := 12) C (by decide) kf_X10_35 rfl rfl dX10_digest_152 ?_
      refine g_iload_n C 1 dX10_digest_155 rfl rfl ?_
      obtain ⟨hi156, hm⟩ := ifn hm
      refine g_iald C (by decide) hi156 dX10_digest_156 ?_
      refine g_i2l C dX10_digest_157 ?_
      obtain ⟨r158, hr158, hm⟩ := bnd_some hm
      refine g_callVv (As := [vL ((M.1 22 12 l1.toNatClampNeg).toInt64)]) (rest := []) C lk_X10_284 (k_X10_mix X.2.1 G hl hG fu ((M.1 22 12 l1.toNatClampNeg).toInt64) M r158 hk0 hr158) (by decide) rfl rfl rfl (Nat.le_of_ble_eq_true rfl) ⟨Nat.le_of_ble_eq_true rfl, Nat.le_of_ble_eq_true rfl⟩ dX10_digest_158 ?_
      refine g_iinc (ls' := [(1, vI (l1 + (1 : Int32))), (0, vR 10 0)]) (v := l1 + (1 : Int32)) C 1 dX10_digest_161 rfl (iv_p1 _) (by decide) rfl ?_
      refine g_goto (tgt := 142) C dX10_digest_164 (by decide) ?_
      obtain rfl := Option.some.inj hm
      exact g_sub [1, 0] rfl (g_pc rfl (K142.1 (l1 + (1 : Int32)) r158 rfl))
  have J65 : ∀ (l1 : Int32) (M : Mem), f_X10_digest_h65 fu   l1 M = some res → GW G X 2 (QX G X (.inl (some (vL res.1))) res.2) 65 [(0, vR 10 0), (1, vI l1)] [] M := by
    intro l1 M hm
    unfold f_X10_digest_h65 at hm
    obtain ⟨r65, hL65, hk65⟩ := bnd_some hm
    have hx65 : ∀ (M : Mem), M = r65 → GW G X 2 (QX G X (.inl (some (vL res.1))) res.2) 112 [(0, vR 10 0)] [] M := by
      intro M he
      subst he
      have hm := hk65
      try dsimp only at hm
      refine g_aload_n C 0 dX10_digest_112 rfl rfl ?_
      obtain ⟨r113, hr113, hm⟩ := bnd_some hm
      refine g_callVv (As := []) (rest := []) C lk_X10_290 (k_X10_mixCells X.2.1 G hl hG fu  M r113 hk0 hr113) (by decide) rfl rfl rfl (Nat.le_of_ble_eq_true rfl) ⟨Nat.le_of_ble_eq_true rfl, Nat.le_of_ble_eq_true rfl⟩ dX10_digest_113 ?_
      refine g_aload_n C 0 dX10_digest_116 rfl rfl ?_
      obtain ⟨r117, hr117, hm⟩ := bnd_some hm
      refine g_callVv (As := []) (rest := []) C lk_X10_293 (k_X10_mixPaths X.2.1 G hl hG fu  r113 r117 hk0 hr117) (by decide) rfl rfl rfl (Nat.le_of_ble_eq_true rfl) ⟨Nat.le_of_ble_eq_true rfl, Nat.le_of_ble_eq_true rfl⟩ dX10_digest_117 ?_
      refine g_aload_n C 0 dX10_digest_120 rfl rfl ?_
      refine g_aload_n C 0 dX10_digest_121 rfl rfl ?_
      obtain ⟨r122, hr122, hm⟩ := bnd_some hm
      refine g_callVd (As := []) (rest := [vR 10 0]) C lk_X10_255 (k_X10_commutingNow X.2.1 G hl hG fu  r117 r122 hk0 hr122) (by decide) rfl rfl rfl (Nat.le_of_ble_eq_true rfl) ⟨Nat.le_of_ble_eq_true rfl, Nat.le_of_ble_eq_true rfl⟩ dX10_digest_122 ?_
      obtain ⟨r125, hr125, hm⟩ := bnd_some hm
      refine g_callSl (As := [vD r122.1]) (rest := [vR 10 0]) C lk_X10_296 (k_Jxe99ae_doubleToLongBits_ccdee X.2.1 G hl hG fu r122.1 r122.2 r125  hr125) rfl rfl (Nat.le_of_ble_eq_true rfl) ⟨Nat.le_of_ble_eq_true rfl, Nat.le_of_ble_eq_true rfl⟩ dX10_digest_125 ?_
      obtain ⟨r128, hr128, hm⟩ := bnd_some hm
      refine g_callVv (As := [vL r125.1]) (rest := []) C lk_X10_284 (k_X10_mix X.2.1 G hl hG fu r125.1 r125.2 r128 hk0 hr128) (by decide) rfl rfl rfl (Nat.le_of_ble_eq_true rfl) ⟨Nat.le_of_ble_eq_true rfl, Nat.le_of_ble_eq_true rfl⟩ dX10_digest_128 ?_
      refine g_aload_n C 0 dX10_digest_131 rfl rfl ?_
      refine g_aload_n C 0 dX10_digest_132 rfl rfl ?_
      refine g_geti (k := 0) C (by decide) kf_X10_126 rfl dX10_digest_133 ?_
      refine g_i2l C dX10_digest_136 ?_
      obtain ⟨r137, hr137, hm⟩ := bnd_some hm
      refine g_callVv (As := [vL ((r128.1 10 0 11).toInt64)]) (rest := []) C lk_X10_284 (k_X10_mix X.2.1 G hl hG fu ((r128.1 10 0 11).toInt64) r128 r137 hk0 hr137) (by decide) rfl rfl rfl (Nat.le_of_ble_eq_true rfl) ⟨Nat.le_of_ble_eq_true rfl, Nat.le_of_ble_eq_true rfl⟩ dX10_digest_137 ?_
      refine g_iconst (v := 0) C dX10_digest_140 rfl ?_
      refine g_istore_n (ls' := [(1, vI (0 : Int32)), (0, vR 10 0)]) C dX10_digest_141 rfl (by decide) rfl ?_
      exact g_sub [1, 0] rfl (g_pc rfl (J142 (0 : Int32) r137 hm))
    refine lp_ind1 (P := (fun l1 M => GW G X 2 (QX G X (.inl (some (vL res.1))) res.2) 65 [(0, vR 10 0), (1, vI l1)] [] M)) (r := r65) ?_ fu l1 M hL65
    intro l1 M o65 hm K65
    unfold f_X10_digest_b65 at hm
    refine g_iload_n C 1 dX10_digest_65 rfl rfl ?_
    refine g_aload_n C 0 dX10_digest_66 rfl rfl ?_
    refine g_geti (k := 0) C (by decide) kf_X10_79 rfl dX10_digest_67 ?_
    refine g_icmp_ge (tgt := 112) C dX10_digest_70 (by decide) (fun h70 => ?_) (fun h70 => ?_)
    · have hm := ift hm h70
      obtain rfl := Option.some.inj hm
      exact g_sub [0] rfl (g_pc rfl (hx65 M (K65.2 _ rfl)))
    · have hm := ife hm h70
      refine g_aload_n C 0 dX10_digest_73 rfl rfl ?_
      refine g_aload_n C 0 dX10_digest_74 rfl rfl ?_
      refine g_getr (k := 0) (k' := 3) C (by decide) kf_X10_13 rfl rfl dX10_digest_75 ?_
      refine g_iload_n C 1 dX10_digest_78 rfl rfl ?_
      obtain ⟨hi79, hm⟩ := ifn hm
      refine g_iald C (by decide) hi79 dX10_digest_79 ?_
      refine g_i2l C dX10_digest_80 ?_
      obtain ⟨r81, hr81, hm⟩ := bnd_some hm
      refine g_callVv (As := [vL ((M.1 22 3 l1.toNatClampNeg).toInt64)]) (rest := []) C lk_X10_284 (k_X10_mix X.2.1 G hl hG fu ((M.1 22 3 l1.toNatClampNeg).toInt64) M r81 hk0 hr81) (by decide) rfl rfl rfl (Nat.le_of_ble_eq_true rfl) ⟨Nat.le_of_ble_eq_true rfl, Nat.le_of_ble_eq_true rfl⟩ dX10_digest_81 ?_
      refine g_aload_n C 0 dX10_digest_84 rfl rfl ?_
      refine g_aload_n C 0 dX10_digest_85 rfl rfl ?_
      refine g_getr (k := 0) (k' := 4) C (by decide) kf_X10_17 rfl rfl dX10_digest_86 ?_
      refine g_iload_n C 1 dX10_digest_89 rfl rfl ?_
      obtain ⟨hi90, hm⟩ := ifn hm
      refine g_iald C (by decide) hi90 dX10_digest_90 ?_
      refine g_i2l C dX10_digest_91 ?_
      obtain ⟨r92, hr92, hm⟩ := bnd_some hm
      refine g_callVv (As := [vL ((r81.1 22 4 l1.toNatClampNeg).toInt64)]) (rest := []) C lk_X10_284 (k_X10_mix X.2.1 G hl hG fu ((r81.1 22 4 l1.toNatClampNeg).toInt64) r81 r92 hk0 hr92) (by decide) rfl rfl rfl (Nat.le_of_ble_eq_true rfl) ⟨Nat.le_of_ble_eq_true rfl, Nat.le_of_ble_eq_true rfl⟩ dX10_digest_92 ?_
      refine g_aload_n C 0 dX10_digest_95 rfl rfl ?_
      refine g_aload_n C 0 dX10_digest_96 rfl rfl ?_
      refine g_getr (k := 0) (k' := 5) C (by decide) kf_X10_20 rfl rfl dX10_digest_97 ?_
      refine g_iload_n C 1 dX10_digest_100 rfl rfl ?_
      obtain ⟨hi101, hm⟩ := ifn hm
      refine g_iald C (by decide) hi101 dX10_digest_101 ?_
      refine g_i2l C dX10_digest_102 ?_
      obtain ⟨r103, hr103, hm⟩ := bnd_some hm
      refine g_callVv (As := [vL ((r92.1 22 5 l1.toNatClampNeg).toInt64)]) (rest := []) C lk_X10_284 (k_X10_mix X.2.1 G hl hG fu ((r92.1 22 5 l1.toNatClampNeg).toInt64) r92 r103 hk0 hr103) (by decide) rfl rfl rfl (Nat.le_of_ble_eq_true rfl) ⟨Nat.le_of_ble_eq_true rfl, Nat.le_of_ble_eq_true rfl⟩ dX10_digest_103 ?_
      refine g_iinc (ls' := [(1, vI (l1 + (1 : Int32))), (0, vR 10 0)]) (v := l1 + (1 : Int32)) C 1 dX10_digest_106 rfl (iv_p1 _) (by decide) rfl ?_
      refine g_goto (tgt := 65) C dX10_digest_109 (by decide) ?_
      obtain rfl := Option.some.inj hm
      exact g_sub [1, 0] rfl (g_pc rfl (K65.1 (l1 + (1 : Int32)) r103 rfl))
  have J38 : ∀ (l1 : Int32) (M : Mem), f_X10_digest_h38 fu   l1 M = some res → GW G X 2 (QX G X (.inl (some (vL res.1))) res.2) 38 [(0, vR 10 0), (1, vI l1)] [] M := by
    intro l1 M hm
    unfold f_X10_digest_h38 at hm
    obtain ⟨r38, hL38, hk38⟩ := bnd_some hm
    have hx38 : ∀ (M : Mem), M = r38 → GW G X 2 (QX G X (.inl (some (vL res.1))) res.2) 63 [(0, vR 10 0)] [] M := by
      intro M he
      subst he
      have hm := hk38
      try dsimp only at hm
      refine g_iconst (v := 0) C dX10_digest_63 rfl ?_
      refine g_istore_n (ls' := [(1, vI (0 : Int32)), (0, vR 10 0)]) C dX10_digest_64 rfl (by decide) rfl ?_
      exact g_sub [1, 0] rfl (g_pc rfl (J65 (0 : Int32) M hm))
    refine lp_ind1 (P := (fun l1 M => GW G X 2 (QX G X (.inl (some (vL res.1))) res.2) 38 [(0, vR 10 0), (1, vI l1)] [] M)) (r := r38) ?_ fu l1 M hL38
    intro l1 M o38 hm K38
    unfold f_X10_digest_b38 at hm
    refine g_iload_n C 1 dX10_digest_38 rfl rfl ?_
    refine g_aload_n C 0 dX10_digest_39 rfl rfl ?_
    refine g_geti (k := 0) C (by decide) kf_X10_7 rfl dX10_digest_40 ?_
    refine g_icmp_ge (tgt := 63) C dX10_digest_43 (by decide) (fun h43 => ?_) (fun h43 => ?_)
    · have hm := ift hm h43
      obtain rfl := Option.some.inj hm
      exact g_sub [0] rfl (g_pc rfl (hx38 M (K38.2 _ rfl)))
    · have hm := ife hm h43
      refine g_aload_n C 0 dX10_digest_46 rfl rfl ?_
      refine g_aload_n C 0 dX10_digest_47 rfl rfl ?_
      refine g_getr (k := 0) (k' := 6) C (by decide) kf_X10_23 rfl rfl dX10_digest_48 ?_
      refine g_iload_n C 1 dX10_digest_51 rfl rfl ?_
      obtain ⟨hi52, hm⟩ := ifn hm
      refine g_iald C (by decide) hi52 dX10_digest_52 ?_
      refine g_i2l C dX10_digest_53 ?_
      obtain ⟨r54, hr54, hm⟩ := bnd_some hm
      refine g_callVv (As := [vL ((M.1 22 6 l1.toNatClampNeg).toInt64)]) (rest := []) C lk_X10_284 (k_X10_mix X.2.1 G hl hG fu ((M.1 22 6 l1.toNatClampNeg).toInt64) M r54 hk0 hr54) (by decide) rfl rfl rfl (Nat.le_of_ble_eq_true rfl) ⟨Nat.le_of_ble_eq_true rfl, Nat.le_of_ble_eq_true rfl⟩ dX10_digest_54 ?_
      refine g_iinc (ls' := [(1, vI (l1 + (1 : Int32))), (0, vR 10 0)]) (v := l1 + (1 : Int32)) C 1 dX10_digest_57 rfl (iv_p1 _) (by decide) rfl ?_
      refine g_goto (tgt := 38) C dX10_digest_60 (by decide) ?_
      obtain rfl := Option.some.inj hm
      exact g_sub [1, 0] rfl (g_pc rfl (K38.1 (l1 + (1 : Int32)) r54 rfl))
  have J14 : ∀ (l1 : Int32) (M : Mem), f_X10_digest_h14 fu   l1 M = some res → GW G X 2 (QX G X (.inl (some (vL res.1))) res.2) 14 [(0, vR 10 0), (1, vI l1)] [] M := by
    intro l1 M hm
    unfold f_X10_digest_h14 at hm
    obtain ⟨r14, hL14, hk14⟩ := bnd_some hm
    have hx14 : ∀ (M : Mem), M = r14 → GW G X 2 (QX G X (.inl (some (vL res.1))) res.2) 36 [(0, vR 10 0)] [] M := by
      intro M he
      subst he
      have hm := hk14
      try dsimp only at hm
      refine g_iconst (v := 0) C dX10_digest_36 rfl ?_
      refine g_istore_n (ls' := [(1, vI (0 : Int32)), (0, vR 10 0)]) C dX10_digest_37 rfl (by decide) rfl ?_
      exact g_sub [1, 0] rfl (g_pc rfl (J38 (0 : Int32) M hm))
    refine lp_ind1 (P := (fun l1 M => GW G X 2 (QX G X (.inl (some (vL res.1))) res.2) 14 [(0, vR 10 0), (1, vI l1)] [] M)) (r := r14) ?_ fu l1 M hL14
    intro l1 M o14 hm K14
    unfold f_X10_digest_b14 at hm
    refine g_iload_n C 1 dX10_digest_14 rfl rfl ?_
    refine g_bipush (v := 8) C dX10_digest_15 rfl ?_
    refine g_icmp_ge (tgt := 36) C dX10_digest_17 (by decide) (fun h17 => ?_) (fun h17 => ?_)
    · have hm := ift hm h17
      obtain rfl := Option.some.inj hm
      exact g_sub [0] rfl (g_pc rfl (hx14 M (K14.2 _ rfl)))
    · have hm := ife hm h17
      refine g_aload_n C 0 dX10_digest_20 rfl rfl ?_
      refine g_aload_n C 0 dX10_digest_21 rfl rfl ?_
      refine g_iload_n C 1 dX10_digest_22 rfl rfl ?_
      obtain ⟨r23, hr23, hm⟩ := bnd_some hm
      refine g_callVi (As := [vI l1]) (rest := [vR 10 0]) C lk_X10_252 (k_X10_number X.2.1 G hl hG fu l1 M r23 hk0 hr23) (by decide) rfl rfl rfl (Nat.le_of_ble_eq_true rfl) ⟨Nat.le_of_ble_eq_true rfl, Nat.le_of_ble_eq_true rfl⟩ dX10_digest_23 ?_
      refine g_i2l C dX10_digest_26 ?_
      obtain ⟨r27, hr27, hm⟩ := bnd_some hm
      refine g_callVv (As := [vL r23.1.toInt64]) (rest := []) C lk_X10_284 (k_X10_mix X.2.1 G hl hG fu r23.1.toInt64 r23.2 r27 hk0 hr27) (by decide) rfl rfl rfl (Nat.le_of_ble_eq_true rfl) ⟨Nat.le_of_ble_eq_true rfl, Nat.le_of_ble_eq_true rfl⟩ dX10_digest_27 ?_
      refine g_iinc (ls' := [(1, vI (l1 + (1 : Int32))), (0, vR 10 0)]) (v := l1 + (1 : Int32)) C 1 dX10_digest_30 rfl (iv_p1 _) (by decide) rfl ?_
      refine g_goto (tgt := 14) C dX10_digest_33 (by decide) ?_
      obtain rfl := Option.some.inj hm
      exact g_sub [1, 0] rfl (g_pc rfl (K14.1 (l1 + (1 : Int32)) r27 rfl))
  unfold f_X10_digest at hm
  refine g_aload_n C 0 dX10_digest_0 rfl rfl ?_
  refine g_iconst (v := 0) C dX10_digest_1 rfl ?_
  refine g_puti C (by decide) kf_X10_72 rfl rfl rfl dX10_digest_2 ?_
  refine g_aload_n C 0 dX10_digest_5 rfl rfl ?_
  refine g_ldc2 (v := 1987) C kc_X10_288 dX10_digest_6 ?_
  refine g_putl C (by decide) kf_X10_280 rfl rfl rfl dX10_digest_9 ?_
  refine g_iconst (v := 0) C dX10_digest_12 rfl ?_
  refine g_istore_n (ls' := [(1, vI (0 : Int32)), (0, vR 10 0)]) C dX10_digest_13 rfl (by decide) rfl ?_
  exact g_sub [1, 0] rfl (g_pc rfl (J14 (0 : Int32) (mL (mI M 10 0 0 (0 : Int32)) 10 0 31 (1987 : Int64)) hm))

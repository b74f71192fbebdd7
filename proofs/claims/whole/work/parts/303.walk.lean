/-! models and contracts, by program (wip/whole/emit.py): X9_find, X9_path, X9_arrowOf, X9_pathsFromTo, X9_between, X9_stepsTo, X9_distance, X9_proof, X9_holds, X9_cell, X9_pairsWithAtMost, X9_holdingCells, X9_count, X9_commuting, X9_setSize, X9_requireArrow, X9_setFunction, X9_apply, X9_floatBits, X9_imageShare, X9_allHold, X9_separate -/
def f_X9_find_b18 (fu : Nat)   (l1 : Int32) (l2 : Int32) (M : Mem) : Option ((Int32 × Int32 × Mem) ⊕ (Int32 × Mem)) :=
  (f_X4_length fu  M).bind (fun r23 => if r23.1 ≤ l2 then some (Sum.inr (l1, r23.2)) else (f_X4_arrowAt fu l2 r23.2).bind (fun r42 => (f_X3_get fu 3 l1 r42.1 r42.2).bind (fun r45 => some (Sum.inl (r45.1, l2 + (1 : Int32), r45.2)))))
def f_X9_find_h18 (fu : Nat)   (l1 : Int32) (l2 : Int32) (M : Mem) : Option (Int32 × Mem) :=
  (lp_run (fun s => f_X9_find_b18 fu   s.1 s.2.1 s.2.2) fu (l1, l2, M)).bind (fun r18 => match r18 with
    | (l1, M) => some (l1, M))
def f_X9_find (fu : Nat) (M : Mem) : Option (Int32 × Mem) :=
  (f_X4_arrowAt fu (0 : Int32) M).bind (fun r9 => (f_X2_from fu 0 r9.1 r9.2).bind (fun r12 => f_X9_find_h18 fu r12.1 (0 : Int32) r12.2))
set_option maxHeartbeats 4000000 in
set_option maxRecDepth 100000 in
theorem k_X9_find (l : Launch) (G : GE) (hl : l.stackTraces = false) (hG : GOK G) (fu : Nat)  (M : Mem) (res : Int32 × Mem) (hk0 : (9, 0) ∈ gids G) (hm : f_X9_find fu  M = some res) : CT l G yX9_find cX9_find 3 (some .int) 3 [vR 9 0] M (.inl (some (vI res.1))) res.2 := by
  refine ct_of [(0, vR 9 0)] (by decide +kernel) hl hG (Nat.le_of_ble_eq_true rfl) rfl (List.forall_mem_cons.mpr ⟨Or.inl hk0, fun _ h => nomatch h⟩) (List.forall_mem_cons.mpr ⟨Or.inl hk0, fun _ h => nomatch h⟩) (fun X hX C => ?_)
  subst hX
  have Cl := C
  have J18 : ∀ (l1 : Int32) (l2 : Int32) (M : Mem), f_X9_find_h18 fu   l1 l2 M = some res → GW G X 3 (QX G X (.inl (some (vI res.1))) res.2) 18 [(0, vR 9 0), (1, vI l1), (2, vI l2)] [] M := by
    intro l1 l2 M hm
    unfold f_X9_find_h18 at hm
    obtain ⟨r18, hL18, hk18⟩ := bnd_some hm
    have hx18 : ∀ (l1 : Int32) (M : Mem), (l1, M) = r18 → GW G X 3 (QX G X (.inl (some (vI res.1))) res.2) 55 [(1, vI l1)] [] M := by
      intro l1 M he
      subst he
      have hm := hk18
      try dsimp only at hm
      refine g_iload_n C 0 dX9_find_55 rfl rfl ?_
      obtain rfl := Option.some.inj hm
      exact g_iret C dX9_find_56
    refine lp_ind2 (P := (fun l1 l2 M => GW G X 3 (QX G X (.inl (some (vI res.1))) res.2) 18 [(0, vR 9 0), (1, vI l1), (2, vI l2)] [] M)) (r := r18) ?_ fu l1 l2 M hL18
    intro l1 l2 M o18 hm K18
    unfold f_X9_find_b18 at hm
    refine g_iload_n C 2 dX9_find_18 rfl rfl ?_
    refine g_aload_n C 0 dX9_find_19 rfl rfl ?_
    refine g_getr (k := 0) (k' := 0) C (by decide) kf_X9_50 rfl rfl dX9_find_20 ?_
    obtain ⟨r23, hr23, hm⟩ := bnd_some hm
    refine g_callVi (As := []) (rest := [vI l2]) C lk_X9_154 (k_X4_length X.2.1 G hl hG fu  M r23 ((hG _ hk0).2 6 4 0 0 rfl) hr23) (by decide) rfl rfl rfl (Nat.le_of_ble_eq_true rfl) ⟨Nat.le_of_ble_eq_true rfl, Nat.le_of_ble_eq_true rfl⟩ dX9_find_23 ?_
    refine g_icmp_ge (tgt := 55) C dX9_find_26 (by decide) (fun h26 => ?_) (fun h26 => ?_)
    · have hm := ift hm h26
      obtain rfl := Option.some.inj hm
      exact g_sub [1] rfl (g_pc rfl (hx18 l1 r23.2 (K18.2 _ rfl)))
    · have hm := ife hm h26
      refine g_aload_n C 0 dX9_find_29 rfl rfl ?_
      refine g_getr (k := 0) (k' := 0) C (by decide) kf_X9_26 rfl rfl dX9_find_30 ?_
      refine g_getrN (k := 0) (k' := 3) C (by decide) kf_X9_194 rfl rfl dX9_find_33 ?_
      refine g_iload_n C 1 dX9_find_36 rfl rfl ?_
      refine g_aload_n C 0 dX9_find_37 rfl rfl ?_
      refine g_getr (k := 0) (k' := 0) C (by decide) kf_X9_50 rfl rfl dX9_find_38 ?_
      refine g_iload_n C 2 dX9_find_41 rfl rfl ?_
      obtain ⟨r42, hr42, hm⟩ := bnd_some hm
      refine g_callVi (As := [vI l2]) (rest := [vI l1, vR 3 3]) C lk_X9_188 (k_X4_arrowAt X.2.1 G hl hG fu l2 r23.2 r42 ((hG _ hk0).2 6 4 0 0 rfl) hr42) (by decide) rfl rfl rfl (Nat.le_of_ble_eq_true rfl) ⟨Nat.le_of_ble_eq_true rfl, Nat.le_of_ble_eq_true rfl⟩ dX9_find_42 ?_
      obtain ⟨r45, hr45, hm⟩ := bnd_some hm
      refine g_callVi (As := [vI l1, vI r42.1]) (rest := []) C lk_X9_198 (k_X3_get X.2.1 G hl hG fu 3 l1 r42.1 r42.2 r45 ((hG _ ((hG _ hk0).2 2 6 0 0 rfl)).2 6 3 3 0 rfl) hr45) (by decide) rfl rfl rfl (Nat.le_of_ble_eq_true rfl) ⟨Nat.le_of_ble_eq_true rfl, Nat.le_of_ble_eq_true rfl⟩ dX9_find_45 ?_
      refine g_istore_n (ls' := [(1, vI r45.1), (0, vR 9 0), (2, vI l2)]) C dX9_find_48 rfl (by decide) rfl ?_
      refine g_iinc (ls' := [(2, vI (l2 + (1 : Int32))), (1, vI r45.1), (0, vR 9 0)]) (v := l2 + (1 : Int32)) C 2 dX9_find_49 rfl (iv_p1 _) (by decide) rfl ?_
      refine g_goto (tgt := 18) C dX9_find_52 (by decide) ?_
      obtain rfl := Option.some.inj hm
      exact g_sub [2, 1, 0] rfl (g_pc rfl (K18.1 r45.1 (l2 + (1 : Int32)) r45.2 rfl))
  unfold f_X9_find at hm
  refine g_aload_n C 0 dX9_find_0 rfl rfl ?_
  refine g_getr (k := 0) (k' := 0) C (by decide) kf_X9_12 rfl rfl dX9_find_1 ?_
  refine g_aload_n C 0 dX9_find_4 rfl rfl ?_
  refine g_getr (k := 0) (k' := 0) C (by decide) kf_X9_50 rfl rfl dX9_find_5 ?_
  refine g_iconst (v := 0) C dX9_find_8 rfl ?_
  obtain ⟨r9, hr9, hm⟩ := bnd_some hm
  refine g_callVi (As := [vI (0 : Int32)]) (rest := [vR 2 0]) C lk_X9_188 (k_X4_arrowAt X.2.1 G hl hG fu (0 : Int32) M r9 ((hG _ hk0).2 6 4 0 0 rfl) hr9) (by decide) rfl rfl rfl (Nat.le_of_ble_eq_true rfl) ⟨Nat.le_of_ble_eq_true rfl, Nat.le_of_ble_eq_true rfl⟩ dX9_find_9 ?_
  obtain ⟨r12, hr12, hm⟩ := bnd_some hm
  refine g_callVi (As := [vI r9.1]) (rest := []) C lk_X9_191 (k_X2_from X.2.1 G hl hG fu 0 r9.1 r9.2 r12 ((hG _ hk0).2 0 2 0 0 rfl) hr12) (by decide) rfl rfl rfl (Nat.le_of_ble_eq_true rfl) ⟨Nat.le_of_ble_eq_true rfl, Nat.le_of_ble_eq_true rfl⟩ dX9_find_12 ?_
  refine g_istore_n (ls' := [(1, vI r12.1), (0, vR 9 0)]) C dX9_find_15 rfl (by decide) rfl ?_
  refine g_iconst (v := 0) C dX9_find_16 rfl ?_
  refine g_istore_n (ls' := [(2, vI (0 : Int32)), (1, vI r12.1), (0, vR 9 0)]) C dX9_find_17 rfl (by decide) rfl ?_
  exact g_sub [2, 1, 0] rfl (g_pc rfl (J18 r12.1 (0 : Int32) r12.2 hm))
def f_X9_path (fu : Nat) (l1 : Int32) (l2 : Int32) (M : Mem) : Option ((Int32 ⊕ Nat) × Mem) :=
  (f_X9_requirePath fu l1 M).bind (fun r2 => match r2 with
    | (Sum.inl x2, n2) => if l2 = (0 : Int32) then (f_X8_get fu 16 l1 n2).bind (fun r56 => some (Sum.inl r56.1, r56.2)) else if l2 = (1 : Int32) then (f_X8_get fu 17 l1 n2).bind (fun r68 => some (Sum.inl r68.1, r68.2)) else if l2 = (2 : Int32) then (f_X8_get fu 18 l1 n2).bind (fun r80 => some (Sum.inl r80.1, r80.2)) else if l2 = (3 : Int32) then (f_X5_refresh fu 0 n2).bind (fun r96 => (f_X5_className fu l1 r96).bind (fun r104 => some (Sum.inl r104.1, r104.2))) else if l2 = (4 : Int32) then (f_X5_refresh fu 0 n2).bind (fun r120 => (f_X5_classSize fu l1 r120).bind (fun r128 => some (Sum.inl r128.1, r128.2))) else if l2 = (5 : Int32) then (f_X1_imageSize fu 0 l1 n2).bind (fun r141 => some (Sum.inl r141.1, r141.2)) else if l2 = (6 : Int32) then (f_X1_imageSize fu 0 l1 n2).bind (fun r154 => (f_X8_get fu 16 l1 r154.2).bind (fun r169 => (f_X1_size fu 0 r169.1 r169.2).bind (fun r172 => if r154.1 = r172.1 then some (Sum.inl (1 : Int32), r172.2) else some (Sum.inl (0 : Int32), r172.2)))) else some (Sum.inr 1, n2)
    | (Sum.inr z2, n2) => some (Sum.inr z2, n2))
set_option maxHeartbeats 4000000 in
set_option maxRecDepth 100000 in
theorem k_X9_path (l : Launch) (G : GE) (hl : l.stackTraces = false) (hG : GOK G) (fu : Nat) (l1 : Int32) (l2 : Int32) (M : Mem) (res : (Int32 ⊕ Nat) × Mem) (hk0 : (9, 0) ∈ gids G) (hm : f_X9_path fu l1 l2 M = some res) : CT l G yX9_path cX9_path 3 (some .int) 7 [vR 9 0, vI l1, vI l2] M (oI res.1) res.2 := by
  refine ct_of [(0, vR 9 0), (1, vI l1), (2, vI l2)] (by decide +kernel) hl hG (Nat.le_of_ble_eq_true rfl) rfl (List.forall_mem_cons.mpr ⟨Or.inl hk0, List.forall_mem_cons.mpr ⟨trivial, List.forall_mem_cons.mpr ⟨trivial, fun _ h => nomatch h⟩⟩⟩) (List.forall_mem_cons.mpr ⟨Or.inl hk0, List.forall_mem_cons.mpr ⟨trivial, List.forall_mem_cons.mpr ⟨trivial, fun _ h => nomatch h⟩⟩⟩) (fun X hX C => ?_)
  subst hX
  have Cl := C
  unfold f_X9_path at hm
  refine g_aload_n C 0 dX9_path_0 rfl rfl ?_
  refine g_iload_n C 1 dX9_path_1 rfl rfl ?_
  obtain ⟨⟨x2 | z2, n2⟩, hr2, hm⟩ := bnd_some hm
  · refine g_callVv (As := [vI l1]) (rest := []) C lk_X9_202 (k_X9_requirePath X.2.1 G hl hG fu l1 M (Sum.inl x2, n2) hk0 hr2) (by decide) rfl rfl rfl (Nat.le_of_ble_eq_true rfl) ⟨Nat.le_of_ble_eq_true rfl, Nat.le_of_ble_eq_true rfl⟩ dX9_path_2 ?_
    refine g_iload_n C 2 dX9_path_5 rfl rfl ?_
    by_cases h6_0 : l2 = (0 : Int32)
    · have hm := ift hm h6_0
      refine g_tabIn (off := 42) (tgt := 48) C dX9_path_6 (by rw [h6_0]; decide) (by rw [h6_0]; decide) (by rw [h6_0]; rfl) (by decide) ?_
      refine g_aload_n C 0 dX9_path_48 rfl rfl ?_
      refine g_getr (k := 0) (k' := 0) C (by decide) kf_X9_26 rfl rfl dX9_path_49 ?_
      refine g_getrN (k := 0) (k' := 16) C (by decide) kf_X9_128 rfl rfl dX9_path_52 ?_
      refine g_iload_n C 1 dX9_path_55 rfl rfl ?_
      obtain ⟨r56, hr56, hm⟩ := bnd_some hm
      refine g_callVi (As := [vI l1]) (rest := []) C lk_X9_132 (k_X8_get X.2.1 G hl hG fu 16 l1 n2 r56 ((hG _ ((hG _ hk0).2 2 6 0 0 rfl)).2 1 8 16 0 rfl) hr56) (by decide) rfl rfl rfl (Nat.le_of_ble_eq_true rfl) ⟨Nat.le_of_ble_eq_true rfl, Nat.le_of_ble_eq_true rfl⟩ dX9_path_56 ?_
      obtain rfl := Option.some.inj hm
      exact g_iret C dX9_path_59
    have hm := ife hm h6_0
    by_cases h6_1 : l2 = (1 : Int32)
    · have hm := ift hm h6_1
      refine g_tabIn (off := 54) (tgt := 60) C dX9_path_6 (by rw [h6_1]; decide) (by rw [h6_1]; decide) (by rw [h6_1]; rfl) (by decide) ?_
      refine g_aload_n C 0 dX9_path_60 rfl rfl ?_
      refine g_getr (k := 0) (k' := 0) C (by decide) kf_X9_26 rfl rfl dX9_path_61 ?_
      refine g_getrN (k := 0) (k' := 17) C (by decide) kf_X9_205 rfl rfl dX9_path_64 ?_
      refine g_iload_n C 1 dX9_path_67 rfl rfl ?_
      obtain ⟨r68, hr68, hm⟩ := bnd_some hm
      refine g_callVi (As := [vI l1]) (rest := []) C lk_X9_132 (k_X8_get X.2.1 G hl hG fu 17 l1 n2 r68 ((hG _ ((hG _ hk0).2 2 6 0 0 rfl)).2 2 8 17 0 rfl) hr68) (by decide) rfl rfl rfl (Nat.le_of_ble_eq_true rfl) ⟨Nat.le_of_ble_eq_true rfl, Nat.le_of_ble_eq_true rfl⟩ dX9_path_68 ?_
      obtain rfl := Option.some.inj hm
      exact g_iret C dX9_path_71
    have hm := ife hm h6_1
    by_cases h6_2 : l2 = (2 : Int32)
    · have hm := ift hm h6_2
      refine g_tabIn (off := 66) (tgt := 72) C dX9_path_6 (by rw [h6_2]; decide) (by rw [h6_2]; decide) (by rw [h6_2]; rfl) (by decide) ?_
      refine g_aload_n C 0 dX9_path_72 rfl rfl ?_
      refine g_getr (k := 0) (k' := 0) C (by decide) kf_X9_26 rfl rfl dX9_path_73 ?_
      refine g_getrN (k := 0) (k' := 18) C (by decide) kf_X9_208 rfl rfl dX9_path_76 ?_
      refine g_iload_n C 1 dX9_path_79 rfl rfl ?_
      obtain ⟨r80, hr80, hm⟩ := bnd_some hm
      refine g_callVi (As := [vI l1]) (rest := []) C lk_X9_132 (k_X8_get X.2.1 G hl hG fu 18 l1 n2 r80 ((hG _ ((hG _ hk0).2 2 6 0 0 rfl)).2 3 8 18 0 rfl) hr80) (by decide) rfl rfl rfl (Nat.le_of_ble_eq_true rfl) ⟨Nat.le_of_ble_eq_true rfl, Nat.le_of_ble_eq_true rfl⟩ dX9_path_80 ?_
      obtain rfl := Option.some.inj hm
      exact g_iret C dX9_path_83
    have hm := ife hm h6_2
    by_cases h6_3 : l2 = (3 : Int32)
    · have hm := ift hm h6_3
      refine g_tabIn (off := 78) (tgt := 84) C dX9_path_6 (by rw [h6_3]; decide) (by rw [h6_3]; decide) (by rw [h6_3]; rfl) (by decide) ?_
      refine g_aload_n C 0 dX9_path_84 rfl rfl ?_
      refine g_getr (k := 0) (k' := 0) C (by decide) kf_X9_33 rfl rfl dX9_path_85 ?_
      refine g_aload_n C 0 dX9_path_88 rfl rfl ?_
      refine g_getr (k := 0) (k' := 0) C (by decide) kf_X9_26 rfl rfl dX9_path_89 ?_
      refine g_aload_n C 0 dX9_path_92 rfl rfl ?_
      refine g_getr (k := 0) (k' := 0) C (by decide) kf_X9_19 rfl rfl dX9_path_93 ?_
      obtain ⟨r96, hr96, hm⟩ := bnd_some hm
      refine g_callVv (As := [vR 6 0, vR 0 0]) (rest := []) C lk_X9_210 (k_X5_refresh X.2.1 G hl hG fu 0 n2 r96 ((hG _ hk0).2 3 5 0 0 rfl) ((hG _ hk0).2 2 6 0 0 rfl) ((hG _ hk0).2 1 0 0 0 rfl) hr96) (by decide) rfl rfl rfl (Nat.le_of_ble_eq_true rfl) ⟨Nat.le_of_ble_eq_true rfl, Nat.le_of_ble_eq_true rfl⟩ dX9_path_96 ?_
      refine g_aload_n C 0 dX9_path_99 rfl rfl ?_
      refine g_getr (k := 0) (k' := 0) C (by decide) kf_X9_33 rfl rfl dX9_path_100 ?_
      refine g_iload_n C 1 dX9_path_103 rfl rfl ?_
      obtain ⟨r104, hr104, hm⟩ := bnd_some hm
      refine g_callVi (As := [vI l1]) (rest := []) C lk_X9_214 (k_X5_className X.2.1 G hl hG fu l1 r96 r104 ((hG _ hk0).2 3 5 0 0 rfl) hr104) (by decide) rfl rfl rfl (Nat.le_of_ble_eq_true rfl) ⟨Nat.le_of_ble_eq_true rfl, Nat.le_of_ble_eq_true rfl⟩ dX9_path_104 ?_
      obtain rfl := Option.some.inj hm
      exact g_iret C dX9_path_107
    have hm := ife hm h6_3
    by_cases h6_4 : l2 = (4 : Int32)
    · have hm := ift hm h6_4
      refine g_tabIn (off := 102) (tgt := 108) C dX9_path_6 (by rw [h6_4]; decide) (by rw [h6_4]; decide) (by rw [h6_4]; rfl) (by decide) ?_
      refine g_aload_n C 0 dX9_path_108 rfl rfl ?_
      refine g_getr (k := 0) (k' := 0) C (by decide) kf_X9_33 rfl rfl dX9_path_109 ?_
      refine g_aload_n C 0 dX9_path_112 rfl rfl ?_
      refine g_getr (k := 0) (k' := 0) C (by decide) kf_X9_26 rfl rfl dX9_path_113 ?_
      refine g_aload_n C 0 dX9_path_116 rfl rfl ?_
      refine g_getr (k := 0) (k' := 0) C (by decide) kf_X9_19 rfl rfl dX9_path_117 ?_
      obtain ⟨r120, hr120, hm⟩ := bnd_some hm
      refine g_callVv (As := [vR 6 0, vR 0 0]) (rest := []) C lk_X9_210 (k_X5_refresh X.2.1 G hl hG fu 0 n2 r120 ((hG _ hk0).2 3 5 0 0 rfl) ((hG _ hk0).2 2 6 0 0 rfl) ((hG _ hk0).2 1 0 0 0 rfl) hr120) (by decide) rfl rfl rfl (Nat.le_of_ble_eq_true rfl) ⟨Nat.le_of_ble_eq_true rfl, Nat.le_of_ble_eq_true rfl⟩ dX9_path_120 ?_
      refine g_aload_n C 0 dX9_path_123 rfl rfl ?_
      refine g_getr (k := 0) (k' := 0) C (by decide) kf_X9_33 rfl rfl dX9_path_124 ?_
      refine g_iload_n C 1 dX9_path_127 rfl rfl ?_
      obtain ⟨r128, hr128, hm⟩ := bnd_some hm
      refine g_callVi (As := [vI l1]) (rest := []) C lk_X9_217 (k_X5_classSize X.2.1 G hl hG fu l1 r120 r128 ((hG _ hk0).2 3 5 0 0 rfl) hr128) (by decide) rfl rfl rfl (Nat.le_of_ble_eq_true rfl) ⟨Nat.le_of_ble_eq_true rfl, Nat.le_of_ble_eq_true rfl⟩ dX9_path_128 ?_
      obtain rfl := Option.some.inj hm
      exact g_iret C dX9_path_131
    have hm := ife hm h6_4
    by_cases h6_5 : l2 = (5 : Int32)
    · have hm := ift hm h6_5
      refine g_tabIn (off := 126) (tgt := 132) C dX9_path_6 (by rw [h6_5]; decide) (by rw [h6_5]; decide) (by rw [h6_5]; rfl) (by decide) ?_
      refine g_aload_n C 0 dX9_path_132 rfl rfl ?_
      refine g_getr (k := 0) (k' := 0) C (by decide) kf_X9_40 rfl rfl dX9_path_133 ?_
      refine g_aload_n C 0 dX9_path_136 rfl rfl ?_
      refine g_getr (k := 0) (k' := 0) C (by decide) kf_X9_26 rfl rfl dX9_path_137 ?_
      refine g_iload_n C 1 dX9_path_140 rfl rfl ?_
      obtain ⟨r141, hr141, hm⟩ := bnd_some hm
      refine g_callVi (As := [vR 6 0, vI l1]) (rest := []) C lk_X9_220 (k_X1_imageSize X.2.1 G hl hG fu 0 l1 n2 r141 ((hG _ hk0).2 4 1 0 0 rfl) ((hG _ hk0).2 2 6 0 0 rfl) hr141) (by decide) rfl rfl rfl (Nat.le_of_ble_eq_true rfl) ⟨Nat.le_of_ble_eq_true rfl, Nat.le_of_ble_eq_true rfl⟩ dX9_path_141 ?_
      obtain rfl := Option.some.inj hm
      exact g_iret C dX9_path_144
    have hm := ife hm h6_5
    by_cases h6_6 : l2 = (6 : Int32)
    · have hm := ift hm h6_6
      refine g_tabIn (off := 139) (tgt := 145) C dX9_path_6 (by rw [h6_6]; decide) (by rw [h6_6]; decide) (by rw [h6_6]; rfl) (by decide) ?_
      refine g_aload_n C 0 dX9_path_145 rfl rfl ?_
      refine g_getr (k := 0) (k' := 0) C (by decide) kf_X9_40 rfl rfl dX9_path_146 ?_
      refine g_aload_n C 0 dX9_path_149 rfl rfl ?_
      refine g_getr (k := 0) (k' := 0) C (by decide) kf_X9_26 rfl rfl dX9_path_150 ?_
      refine g_iload_n C 1 dX9_path_153 rfl rfl ?_
      obtain ⟨r154, hr154, hm⟩ := bnd_some hm
      refine g_callVi (As := [vR 6 0, vI l1]) (rest := []) C lk_X9_220 (k_X1_imageSize X.2.1 G hl hG fu 0 l1 n2 r154 ((hG _ hk0).2 4 1 0 0 rfl) ((hG _ hk0).2 2 6 0 0 rfl) hr154) (by decide) rfl rfl rfl (Nat.le_of_ble_eq_true rfl) ⟨Nat.le_of_ble_eq_true rfl, Nat.le_of_ble_eq_true rfl⟩ dX9_path_154 ?_
      refine g_aload_n C 0 dX9_path_157 rfl rfl ?_
      refine g_getr (k := 0) (k' := 0) C (by decide) kf_X9_40 rfl rfl dX9_path_158 ?_
      refine g_aload_n C 0 dX9_path_161 rfl rfl ?_
      refine g_getr (k := 0) (k' := 0) C (by decide) kf_X9_26 rfl rfl dX9_path_162 ?_
      refine g_getrN (k := 0) (k' := 16) C (by decide) kf_X9_128 rfl rfl dX9_path_165 ?_
      refine g_iload_n C 1 dX9_path_168 rfl rfl ?_
      obtain ⟨r169, hr169, hm⟩ := bnd_some hm
      refine g_callVi (As := [vI l1]) (rest := [vR 1 0, vI r154.1]) C lk_X9_132 (k_X8_get X.2.1 G hl hG fu 16 l1 r154.2 r169 ((hG _ ((hG _ hk0).2 2 6 0 0 rfl)).2 1 8 16 0 rfl) hr169) (by decide) rfl rfl rfl (Nat.le_of_ble_eq_true rfl) ⟨Nat.le_of_ble_eq_true rfl, Nat.le_of_ble_eq_true rfl⟩ dX9_path_169 ?_
      obtain ⟨r172, hr172, hm⟩ := bnd_some hm
      refine g_callVi (As := [vI r169.1]) (rest := [vI r154.1]) C lk_X9_224 (k_X1_size X.2.1 G hl hG fu 0 r169.1 r169.2 r172 ((hG _ hk0).2 4 1 0 0 rfl) hr172) (by decide) rfl rfl rfl (Nat.le_of_ble_eq_true rfl) ⟨Nat.le_of_ble_eq_true rfl, Nat.le_of_ble_eq_true rfl⟩ dX9_path_172 ?_
      refine g_icmp_ne (tgt := 182) C dX9_path_175 (by decide) (fun h175 => ?_) (fun h175 => ?_)
      · have hm := ife hm h175
        refine g_iconst (v := 0) C dX9_path_182 rfl ?_
        obtain rfl := Option.some.inj hm
        exact g_iret C dX9_path_183
      · have hm := ift hm h175
        refine g_iconst (v := 1) C dX9_path_178 rfl ?_
        refine g_goto (tgt := 183) C dX9_path_179 (by decide) ?_
        obtain rfl := Option.some.inj hm
        exact g_iret C dX9_path_183
    have hm := ife hm h6_6
    refine g_tabOut (tgt := 184) C dX9_path_6 (tab_out 7 (by decide) (by intro j hj; rcases Nat.lt_succ_iff_lt_or_eq.mp hj with hj | rfl; rotate_left; exact h6_6; rcases Nat.lt_succ_iff_lt_or_eq.mp hj with hj | rfl; rotate_left; exact h6_5; rcases Nat.lt_succ_iff_lt_or_eq.mp hj with hj | rfl; rotate_left; exact h6_4; rcases Nat.lt_succ_iff_lt_or_eq.mp hj with hj | rfl; rotate_left; exact h6_3; rcases Nat.lt_succ_iff_lt_or_eq.mp hj with hj | rfl; rotate_left; exact h6_2; rcases Nat.lt_succ_iff_lt_or_eq.mp hj with hj | rfl; rotate_left; exact h6_1; rcases Nat.lt_succ_iff_lt_or_eq.mp hj with hj | rfl; rotate_left; exact h6_0; exact absurd hj (Nat.not_lt_zero _))) (by decide) ?_
    obtain rfl := Option.some.inj hm
    exact g_throw (o := .inl none) (E := "java/lang/IllegalArgumentException") (d := 7) C tk_X9_70_74 (by decide +kernel : ("ArrowDiagrams", 227, "what is not 0 to 6") ∈ strs) (by decide) rfl dX9_path_184 dX9_path_187 dX9_path_188 dX9_path_190 dX9_path_193
  · skip
    obtain rfl := Option.some.inj hm
    exact g_callVx (E := exN z2) (As := [vI l1]) (rest := []) C lk_X9_202 (k_X9_requirePath X.2.1 G hl hG fu l1 M (Sum.inr z2, n2) hk0 hr2) (by decide) rfl rfl rfl (Nat.le_of_ble_eq_true rfl) ⟨Nat.le_of_ble_eq_true rfl, Nat.le_of_ble_eq_true rfl⟩ dX9_path_2
def f_X9_arrowOf (fu : Nat) (l1 : Int32) (l2 : Int32) (M : Mem) : Option ((Int32 ⊕ Nat) × Mem) :=
  (f_X9_requirePath fu l1 M).bind (fun r2 => match r2 with
    | (Sum.inl x2, n2) => if l2 < 0 then some (Sum.inr 0, n2) else (f_X8_get fu 18 l1 n2).bind (fun r18 => if l2 < r18.1 then (f_X3_get fu 2 l1 l2 r18.2).bind (fun r43 => some (Sum.inl r43.1, r43.2)) else some (Sum.inr 0, r18.2))
    | (Sum.inr z2, n2) => some (Sum.inr z2, n2))
set_option maxHeartbeats 4000000 in
set_option maxRecDepth 100000 in
theorem k_X9_arrowOf (l : Launch) (G : GE) (hl : l.stackTraces = false) (hG : GOK G) (fu : Nat) (l1 : Int32) (l2 : Int32) (M : Mem) (res : (Int32 ⊕ Nat) × Mem) (hk0 : (9, 0) ∈ gids G) (hm : f_X9_arrowOf fu l1 l2 M = some res) : CT l G yX9_arrowOf cX9_arrowOf 3 (some .int) 7 [vR 9 0, vI l1, vI l2] M (oI res.1) res.2 := by
  refine ct_of [(0, vR 9 0), (1, vI l1), (2, vI l2)] (by decide +kernel) hl hG (Nat.le_of_ble_eq_true rfl) rfl (List.forall_mem_cons.mpr ⟨Or.inl hk0, List.forall_mem_cons.mpr ⟨trivial, List.forall_mem_cons.mpr ⟨trivial, fun _ h => nomatch h⟩⟩⟩) (List.forall_mem_cons.mpr ⟨Or.inl hk0, List.forall_mem_cons.mpr ⟨trivial, List.forall_mem_cons.mpr ⟨trivial, fun _ h => nomatch h⟩⟩⟩) (fun X hX C => ?_)
  subst hX
  have Cl := C
  unfold f_X9_arrowOf at hm
  refine g_aload_n C 0 dX9_arrowOf_0 rfl rfl ?_
  refine g_iload_n C 1 dX9_arrowOf_1 rfl rfl ?_
  obtain ⟨⟨x2 | z2, n2⟩, hr2, hm⟩ := bnd_some hm
  · refine g_callVv (As := [vI l1]) (rest := []) C lk_X9_202 (k_X9_requirePath X.2.1 G hl hG fu l1 M (Sum.inl x2, n2) hk0 hr2) (by decide) rfl rfl rfl (Nat.le_of_ble_eq_true rfl) ⟨Nat.le_of_ble_eq_true rfl, Nat.le_of_ble_eq_true rfl⟩ dX9_arrowOf_2 ?_
    refine g_iload_n C 2 dX9_arrowOf_5 rfl rfl ?_
    refine g_if_lt (tgt := 24) C dX9_arrowOf_6 (by decide) (fun h6 => ?_) (fun h6 => ?_)
    · have hm := ift hm h6
      obtain rfl := Option.some.inj hm
      exact g_throw (o := .inl none) (E := "java/lang/IndexOutOfBoundsException") (d := 7) C tk_X9_229_233 (by decide +kernel : ("ArrowDiagrams", 231, "there is no such arrow") ∈ strs) (by decide) rfl dX9_arrowOf_24 dX9_arrowOf_27 dX9_arrowOf_28 dX9_arrowOf_30 dX9_arrowOf_33
    · have hm := ife hm h6
      refine g_iload_n C 2 dX9_arrowOf_9 rfl rfl ?_
      refine g_aload_n C 0 dX9_arrowOf_10 rfl rfl ?_
      refine g_getr (k := 0) (k' := 0) C (by decide) kf_X9_26 rfl rfl dX9_arrowOf_11 ?_
      refine g_getrN (k := 0) (k' := 18) C (by decide) kf_X9_208 rfl rfl dX9_arrowOf_14 ?_
      refine g_iload_n C 1 dX9_arrowOf_17 rfl rfl ?_
      obtain ⟨r18, hr18, hm⟩ := bnd_some hm
      refine g_callVi (As := [vI l1]) (rest := [vI l2]) C lk_X9_132 (k_X8_get X.2.1 G hl hG fu 18 l1 n2 r18 ((hG _ ((hG _ hk0).2 2 6 0 0 rfl)).2 3 8 18 0 rfl) hr18) (by decide) rfl rfl rfl (Nat.le_of_ble_eq_true rfl) ⟨Nat.le_of_ble_eq_true rfl, Nat.le_of_ble_eq_true rfl⟩ dX9_arrowOf_18 ?_
      refine g_icmp_lt (tgt := 34) C dX9_arrowOf_21 (by decide) (fun h21 => ?_) (fun h21 => ?_)
      · have hm := ift hm h21
        refine g_aload_n C 0 dX9_arrowOf_34 rfl rfl ?_
        refine g_getr (k := 0) (k' := 0) C (by decide) kf_X9_26 rfl rfl dX9_arrowOf_35 ?_
        refine g_getrN (k := 0) (k' := 2) C (by decide) kf_X9_234 rfl rfl dX9_arrowOf_38 ?_
        refine g_iload_n C 1 dX9_arrowOf_41 rfl rfl ?_
        refine g_iload_n C 2 dX9_arrowOf_42 rfl rfl ?_
        obtain ⟨r43, hr43, hm⟩ := bnd_some hm
        refine g_callVi (As := [vI l1, vI l2]) (rest := []) C lk_X9_198 (k_X3_get X.2.1 G hl hG fu 2 l1 l2 r18.2 r43 ((hG _ ((hG _ hk0).2 2 6 0 0 rfl)).2 4 3 2 0 rfl) hr43) (by decide) rfl rfl rfl (Nat.le_of_ble_eq_true rfl) ⟨Nat.le_of_ble_eq_true rfl, Nat.le_of_ble_eq_true rfl⟩ dX9_arrowOf_43 ?_
        obtain rfl := Option.some.inj hm
        exact g_iret C dX9_arrowOf_46
      · have hm := ife hm h21
        obtain rfl := Option.some.inj hm
        exact g_throw (o := .inl none) (E := "java/lang/IndexOutOfBoundsException") (d := 7) C tk_X9_229_233 (by decide +kernel : ("ArrowDiagrams", 231, "there is no such arrow") ∈ strs) (by decide) rfl dX9_arrowOf_24 dX9_arrowOf_27 dX9_arrowOf_28 dX9_arrowOf_30 dX9_arrowOf_33
  · skip
    obtain rfl := Option.some.inj hm
    exact g_callVx (E := exN z2) (As := [vI l1]) (rest := []) C lk_X9_202 (k_X9_requirePath X.2.1 G hl hG fu l1 M (Sum.inr z2, n2) hk0 hr2) (by decide) rfl rfl rfl (Nat.le_of_ble_eq_true rfl) ⟨Nat.le_of_ble_eq_true rfl, Nat.le_of_ble_eq_true rfl⟩ dX9_arrowOf_2
def f_X9_pathsFromTo_j34 (fu : Nat)  (l1 : Int32) (l2 : Int32) (l3 : Int32) (l4 : Int32) (M : Mem) : Option ((Int32 × Int32 × Mem) ⊕ (Int32 × Mem)) :=
  some (Sum.inl (l3, l4 + (1 : Int32), M))
def f_X9_pathsFromTo_b5 (fu : Nat)  (l1 : Int32) (l2 : Int32) (l3 : Int32) (l4 : Int32) (M : Mem) : Option ((Int32 × Int32 × Mem) ⊕ (Int32 × Mem)) :=
  (f_X6_total fu  M).bind (fun r11 => if r11.1 ≤ l4 then some (Sum.inr (l3, r11.2)) else (f_X6_leads fu l4 l1 l2 r11.2).bind (fun r25 => if r25.1 = 0 then f_X9_pathsFromTo_j34 fu l1 l2 l3 l4 r25.2 else f_X9_pathsFromTo_j34 fu l1 l2 (l3 + (1 : Int32)) l4 r25.2))
def f_X9_pathsFromTo_h5 (fu : Nat)   (l1 : Int32) (l2 : Int32) (l3 : Int32) (l4 : Int32) (M : Mem) : Option (Int32 × Mem) :=
  (lp_run (fun s => f_X9_pathsFromTo_b5 fu  l1 l2 s.1 s.2.1 s.2.2) fu (l3, l4, M)).bind (fun r5 => match r5 with
    | (l3, M) => some (l3, M))
def f_X9_pathsFromTo (fu : Nat) (l1 : Int32) (l2 : Int32) (M : Mem) : Option (Int32 × Mem) :=
  f_X9_pathsFromTo_h5 fu l1 l2 (0 : Int32) (0 : Int32) M
set_option maxHeartbeats 4000000 in
set_option maxRecDepth 100000 in
theorem k_X9_pathsFromTo (l : Launch) (G : GE) (hl : l.stackTraces = false) (hG : GOK G) (fu : Nat) (l1 : Int32) (l2 : Int32) (M : Mem) (res : Int32 × Mem) (hk0 : (9, 0) ∈ gids G) (hm : f_X9_pathsFromTo fu l1 l2 M = some res) : CT l G yX9_pathsFromTo cX9_pathsFromTo 5 (some .int) 2 [vR 9 0, vI l1, vI l2] M (.inl (some (vI res.1))) res.2 := by
  refine ct_of [(0, vR 9 0), (1, vI l1), (2, vI l2)] (by decide +kernel) hl hG (Nat.le_of_ble_eq_true rfl) rfl (List.forall_mem_cons.mpr ⟨Or.inl hk0, List.forall_mem_cons.mpr ⟨trivial, List.forall_mem_cons.mpr ⟨trivial, fun _ h => nomatch h⟩⟩⟩) (List.forall_mem_cons.mpr ⟨Or.inl hk0, List.forall_mem_cons.mpr ⟨trivial, List.forall_mem_cons.mpr ⟨trivial, fun _ h => nomatch h⟩⟩⟩) (fun X hX C => ?_)
  subst hX
  have Cl := C
  have J5 : ∀ (l1 : Int32) (l2 : Int32) (l3 : Int32) (l4 : Int32) (M : Mem), f_X9_pathsFromTo_h5 fu   l1 l2 l3 l4 M = some res → GW G X 5 (QX G X (.inl (some (vI res.1))) res.2) 5 [(0, vR 9 0), (1, vI l1), (2, vI l2), (3, vI l3), (4, vI l4)] [] M := by
    intro l1 l2 l3 l4 M hm
    unfold f_X9_pathsFromTo_h5 at hm
    obtain ⟨r5, hL5, hk5⟩ := bnd_some hm
    have hx5 : ∀ (l3 : Int32) (M : Mem), (l3, M) = r5 → GW G X 5 (QX G X (.inl (some (vI res.1))) res.2) 40 [(3, vI l3)] [] M := by
      intro l3 M he
      subst he
      have hm := hk5
      try dsimp only at hm
      refine g_iload_n C 0 dX9_pathsFromTo_40 rfl rfl ?_
      obtain rfl := Option.some.inj hm
      exact g_iret C dX9_pathsFromTo_41
    refine lp_ind2 (P := (fun l3 l4 M => GW G X 5 (QX G X (.inl (some (vI res.1))) res.2) 5 [(0, vR 9 0), (1, vI l1), (2, vI l2), (3, vI l3), (4, vI l4)] [] M)) (r := r5) ?_ fu l3 l4 M hL5
    intro l3 l4 M o5 hm K5
    have J34 : ∀ (l3 : Int32) (l4 : Int32) (M : Mem), f_X9_pathsFromTo_j34 fu  l1 l2 l3 l4 M = some o5 → GW G X 5 (QX G X (.inl (some (vI res.1))) res.2) 34 [(0, vR 9 0), (1, vI l1), (2, vI l2), (3, vI l3), (4, vI l4)] [] M := by
      intro l3 l4 M hm
      unfold f_X9_pathsFromTo_j34 at hm
      refine g_iinc (ls' := [(4, vI (l4 + (1 : Int32))), (0, vR 9 0), (1, vI l1), (2, vI l2), (3, vI l3)]) (v := l4 + (1 : Int32)) C 4 dX9_pathsFromTo_34 rfl (iv_p1 _) (by decide) rfl ?_
      refine g_goto (tgt := 5) C dX9_pathsFromTo_37 (by decide) ?_
      obtain rfl := Option.some.inj hm
      exact g_sub [1, 2, 3, 4, 0] rfl (g_pc rfl (K5.1 l3 (l4 + (1 : Int32)) M rfl))
    unfold f_X9_pathsFromTo_b5 at hm
    refine g_iload C 4 dX9_pathsFromTo_5 rfl ?_
    refine g_aload_n C 0 dX9_pathsFromTo_7 rfl rfl ?_
    refine g_getr (k := 0) (k' := 0) C (by decide) kf_X9_26 rfl rfl dX9_pathsFromTo_8 ?_
    obtain ⟨r11, hr11, hm⟩ := bnd_some hm
    refine g_callVi (As := []) (rest := [vI l4]) C lk_X9_276 (k_X6_total X.2.1 G hl hG fu  M r11 ((hG _ hk0).2 2 6 0 0 rfl) hr11) (by decide) rfl rfl rfl (Nat.le_of_ble_eq_true rfl) ⟨Nat.le_of_ble_eq_true rfl, Nat.le_of_ble_eq_true rfl⟩ dX9_pathsFromTo_11 ?_
    refine g_icmp_ge (tgt := 40) C dX9_pathsFromTo_14 (by decide) (fun h14 => ?_) (fun h14 => ?_)
    · have hm := ift hm h14
      obtain rfl := Option.some.inj hm
      exact g_sub [3] rfl (g_pc rfl (hx5 l3 r11.2 (K5.2 _ rfl)))
    · have hm := ife hm h14
      refine g_aload_n C 0 dX9_pathsFromTo_17 rfl rfl ?_
      refine g_getr (k := 0) (k' := 0) C (by decide) kf_X9_26 rfl rfl dX9_pathsFromTo_18 ?_
      refine g_iload C 4 dX9_pathsFromTo_21 rfl ?_
      refine g_iload_n C 1 dX9_pathsFromTo_23 rfl rfl ?_
      refine g_iload_n C 2 dX9_pathsFromTo_24 rfl rfl ?_
      obtain ⟨r25, hr25, hm⟩ := bnd_some hm
      refine g_callVi (As := [vI l4, vI l1, vI l2]) (rest := []) C lk_X9_413 (k_X6_leads X.2.1 G hl hG fu l4 l1 l2 r11.2 r25 ((hG _ hk0).2 2 6 0 0 rfl) hr25) (by decide) rfl rfl rfl (Nat.le_of_ble_eq_true rfl) ⟨Nat.le_of_ble_eq_true rfl, Nat.le_of_ble_eq_true rfl⟩ dX9_pathsFromTo_25 ?_
      refine g_if_eq (tgt := 34) C dX9_pathsFromTo_28 (by decide) (fun h28 => ?_) (fun h28 => ?_)
      · have hm := ift hm h28
        exact g_sub [0, 1, 2, 3, 4] rfl (g_pc rfl (J34 l3 l4 r25.2 hm))
      · have hm := ife hm h28
        refine g_iinc (ls' := [(3, vI (l3 + (1 : Int32))), (0, vR 9 0), (1, vI l1), (2, vI l2), (4, vI l4)]) (v := l3 + (1 : Int32)) C 3 dX9_pathsFromTo_31 rfl (iv_p1 _) (by decide) rfl ?_
        exact g_sub [1, 2, 3, 0, 4] rfl (g_pc rfl (J34 (l3 + (1 : Int32)) l4 r25.2 hm))
  unfold f_X9_pathsFromTo at hm
  refine g_iconst (v := 0) C dX9_pathsFromTo_0 rfl ?_
  refine g_istore_n (ls' := [(3, vI (0 : Int32)), (0, vR 9 0), (1, vI l1), (2, vI l2)]) C dX9_pathsFromTo_1 rfl (by decide) rfl ?_
  refine g_iconst (v := 0) C dX9_pathsFromTo_2 rfl ?_
  refine g_istore (ls' := [(4, vI (0 : Int32)), (3, vI (0 : Int32)), (0, vR 9 0), (1, vI l1), (2, vI l2)]) C dX9_pathsFromTo_3 (by decide) rfl ?_
  exact g_sub [2, 3, 4, 1, 0] rfl (g_pc rfl (J5 l1 l2 (0 : Int32) (0 : Int32) M hm))
def f_X9_between (fu : Nat) (l1 : Int32) (l2 : Int32) (l3 : Int32) (M : Mem) : Option ((Int32 ⊕ Nat) × Mem) :=
  (f_X9_requireObject fu l1 M).bind (fun r2 => match r2 with
    | (Sum.inl x2, n2) => (f_X9_requireObject fu l2 n2).bind (fun r7 => match r7 with
    | (Sum.inl x7, n7) => if l3 = 0 then (f_X9_pathsFromTo fu l1 l2 n7).bind (fun r17 => some (Sum.inl r17.1, r17.2)) else (f_X5_refresh fu 0 n7).bind (fun r33 => (f_X5_classesBetween fu l1 l2 r33).bind (fun r42 => some (Sum.inl r42.1, r42.2)))
    | (Sum.inr z7, n7) => some (Sum.inr z7, n7))
    | (Sum.inr z2, n2) => some (Sum.inr z2, n2))
set_option maxHeartbeats 4000000 in
set_option maxRecDepth 100000 in
theorem k_X9_between (l : Launch) (G : GE) (hl : l.stackTraces = false) (hG : GOK G) (fu : Nat) (l1 : Int32) (l2 : Int32) (l3 : Int32) (M : Mem) (res : (Int32 ⊕ Nat) × Mem) (hk0 : (9, 0) ∈ gids G) (hm : f_X9_between fu l1 l2 l3 M = some res) : CT l G yX9_between cX9_between 4 (some .int) 7 [vR 9 0, vI l1, vI l2, vI l3] M (oI res.1) res.2 := by
  refine ct_of [(0, vR 9 0), (1, vI l1), (2, vI l2), (3, vI l3)] (by decide +kernel) hl hG (Nat.le_of_ble_eq_true rfl) rfl (List.forall_mem_cons.mpr ⟨Or.inl hk0, List.forall_mem_cons.mpr ⟨trivial, List.forall_mem_cons.mpr ⟨trivial, List.forall_mem_cons.mpr ⟨trivial, fun _ h => nomatch h⟩⟩⟩⟩) (List.forall_mem_cons.mpr ⟨Or.inl hk0, List.forall_mem_cons.mpr ⟨trivial, List.forall_mem_cons.mpr ⟨trivial, List.forall_mem_cons.mpr ⟨trivial, fun _ h => nomatch h⟩⟩⟩⟩) (fun X hX C => ?_)
  subst hX
  have Cl := C
  unfold f_X9_between at hm
  refine g_aload_n C 0 dX9_between_0 rfl rfl ?_
  refine g_iload_n C 1 dX9_between_1 rfl rfl ?_
  obtain ⟨⟨x2 | z2, n2⟩, hr2, hm⟩ := bnd_some hm
  · refine g_callVv (As := [vI l1]) (rest := []) C lk_X9_82 (k_X9_requireObject X.2.1 G hl hG fu l1 M (Sum.inl x2, n2) hk0 hr2) (by decide) rfl rfl rfl (Nat.le_of_ble_eq_true rfl) ⟨Nat.le_of_ble_eq_true rfl, Nat.le_of_ble_eq_true rfl⟩ dX9_between_2 ?_
    refine g_aload_n C 0 dX9_between_5 rfl rfl ?_
    refine g_iload_n C 2 dX9_between_6 rfl rfl ?_
    obtain ⟨⟨x7 | z7, n7⟩, hr7, hm⟩ := bnd_some hm
    · refine g_callVv (As := [vI l2]) (rest := []) C lk_X9_82 (k_X9_requireObject X.2.1 G hl hG fu l2 n2 (Sum.inl x7, n7) hk0 hr7) (by decide) rfl rfl rfl (Nat.le_of_ble_eq_true rfl) ⟨Nat.le_of_ble_eq_true rfl, Nat.le_of_ble_eq_true rfl⟩ dX9_between_7 ?_
      refine g_iload_n C 3 dX9_between_10 rfl rfl ?_
      refine g_if_ne (tgt := 21) C dX9_between_11 (by decide) (fun h11 => ?_) (fun h11 => ?_)
      · have hm := ife hm h11
        refine g_aload_n C 0 dX9_between_21 rfl rfl ?_
        refine g_getr (k := 0) (k' := 0) C (by decide) kf_X9_33 rfl rfl dX9_between_22 ?_
        refine g_aload_n C 0 dX9_between_25 rfl rfl ?_
        refine g_getr (k := 0) (k' := 0) C (by decide) kf_X9_26 rfl rfl dX9_between_26 ?_
        refine g_aload_n C 0 dX9_between_29 rfl rfl ?_
        refine g_getr (k := 0) (k' := 0) C (by decide) kf_X9_19 rfl rfl dX9_between_30 ?_
        obtain ⟨r33, hr33, hm⟩ := bnd_some hm
        refine g_callVv (As := [vR 6 0, vR 0 0]) (rest := []) C lk_X9_210 (k_X5_refresh X.2.1 G hl hG fu 0 n7 r33 ((hG _ hk0).2 3 5 0 0 rfl) ((hG _ hk0).2 2 6 0 0 rfl) ((hG _ hk0).2 1 0 0 0 rfl) hr33) (by decide) rfl rfl rfl (Nat.le_of_ble_eq_true rfl) ⟨Nat.le_of_ble_eq_true rfl, Nat.le_of_ble_eq_true rfl⟩ dX9_between_33 ?_
        refine g_aload_n C 0 dX9_between_36 rfl rfl ?_
        refine g_getr (k := 0) (k' := 0) C (by decide) kf_X9_33 rfl rfl dX9_between_37 ?_
        refine g_iload_n C 1 dX9_between_40 rfl rfl ?_
        refine g_iload_n C 2 dX9_between_41 rfl rfl ?_
        obtain ⟨r42, hr42, hm⟩ := bnd_some hm
        refine g_callVi (As := [vI l1, vI l2]) (rest := []) C lk_X9_240 (k_X5_classesBetween X.2.1 G hl hG fu l1 l2 r33 r42 ((hG _ hk0).2 3 5 0 0 rfl) hr42) (by decide) rfl rfl rfl (Nat.le_of_ble_eq_true rfl) ⟨Nat.le_of_ble_eq_true rfl, Nat.le_of_ble_eq_true rfl⟩ dX9_between_42 ?_
        obtain rfl := Option.some.inj hm
        exact g_iret C dX9_between_45
      · have hm := ift hm h11
        refine g_aload_n C 0 dX9_between_14 rfl rfl ?_
        refine g_iload_n C 1 dX9_between_15 rfl rfl ?_
        refine g_iload_n C 2 dX9_between_16 rfl rfl ?_
        obtain ⟨r17, hr17, hm⟩ := bnd_some hm
        refine g_callVi (As := [vI l1, vI l2]) (rest := []) C lk_X9_237 (k_X9_pathsFromTo X.2.1 G hl hG fu l1 l2 n7 r17 hk0 hr17) (by decide) rfl rfl rfl (Nat.le_of_ble_eq_true rfl) ⟨Nat.le_of_ble_eq_true rfl, Nat.le_of_ble_eq_true rfl⟩ dX9_between_17 ?_
        obtain rfl := Option.some.inj hm
        exact g_iret C dX9_between_20
    · skip
      obtain rfl := Option.some.inj hm
      exact g_callVx (E := exN z7) (As := [vI l2]) (rest := []) C lk_X9_82 (k_X9_requireObject X.2.1 G hl hG fu l2 n2 (Sum.inr z7, n7) hk0 hr7) (by decide) rfl rfl rfl (Nat.le_of_ble_eq_true rfl) ⟨Nat.le_of_ble_eq_true rfl, Nat.le_of_ble_eq_true rfl⟩ dX9_between_7
  · skip
    obtain rfl := Option.some.inj hm
    exact g_callVx (E := exN z2) (As := [vI l1]) (rest := []) C lk_X9_82 (k_X9_requireObject X.2.1 G hl hG fu l1 M (Sum.inr z2, n2) hk0 hr2) (by decide) rfl rfl rfl (Nat.le_of_ble_eq_true rfl) ⟨Nat.le_of_ble_eq_true rfl, Nat.le_of_ble_eq_true rfl⟩ dX9_between_2
def f_X9_stepsTo (fu : Nat) (l1 : Int32) (l2 : Int32) (M : Mem) : Option (Int32 × Mem) :=
  (f_X5_refresh fu 0 M).bind (fun r12 => (f_X5_spread fu l1 (1023 : Int32) r12).bind (fun r23 => (f_X5_stepsFrom fu l2 r23).bind (fun r31 => some (r31.1, r31.2))))
set_option maxHeartbeats 4000000 in
set_option maxRecDepth 100000 in
theorem k_X9_stepsTo (l : Launch) (G : GE) (hl : l.stackTraces = false) (hG : GOK G) (fu : Nat) (l1 : Int32) (l2 : Int32) (M : Mem) (res : Int32 × Mem) (hk0 : (9, 0) ∈ gids G) (hm : f_X9_stepsTo fu l1 l2 M = some res) : CT l G yX9_stepsTo cX9_stepsTo 3 (some .int) 5 [vR 9 0, vI l1, vI l2] M (.inl (some (vI res.1))) res.2 := by
  refine ct_of [(0, vR 9 0), (1, vI l1), (2, vI l2)] (by decide +kernel) hl hG (Nat.le_of_ble_eq_true rfl) rfl (List.forall_mem_cons.mpr ⟨Or.inl hk0, List.forall_mem_cons.mpr ⟨trivial, List.forall_mem_cons.mpr ⟨trivial, fun _ h => nomatch h⟩⟩⟩) (List.forall_mem_cons.mpr ⟨Or.inl hk0, List.forall_mem_cons.mpr ⟨trivial, List.forall_mem_cons.mpr ⟨trivial, fun _ h => nomatch h⟩⟩⟩) (fun X hX C => ?_)
  subst hX
  have Cl := C
  unfold f_X9_stepsTo at hm
  refine g_aload_n C 0 dX9_stepsTo_0 rfl rfl ?_
  refine g_getr (k := 0) (k' := 0) C (by decide) kf_X9_33 rfl rfl dX9_stepsTo_1 ?_
  refine g_aload_n C 0 dX9_stepsTo_4 rfl rfl ?_
  refine g_getr (k := 0) (k' := 0) C (by decide) kf_X9_26 rfl rfl dX9_stepsTo_5 ?_
  refine g_aload_n C 0 dX9_stepsTo_8 rfl rfl ?_
  refine g_getr (k := 0) (k' := 0) C (by decide) kf_X9_19 rfl rfl dX9_stepsTo_9 ?_
  obtain ⟨r12, hr12, hm⟩ := bnd_some hm
  refine g_callVv (As := [vR 6 0, vR 0 0]) (rest := []) C lk_X9_210 (k_X5_refresh X.2.1 G hl hG fu 0 M r12 ((hG _ hk0).2 3 5 0 0 rfl) ((hG _ hk0).2 2 6 0 0 rfl) ((hG _ hk0).2 1 0 0 0 rfl) hr12) (by decide) rfl rfl rfl (Nat.le_of_ble_eq_true rfl) ⟨Nat.le_of_ble_eq_true rfl, Nat.le_of_ble_eq_true rfl⟩ dX9_stepsTo_12 ?_
  refine g_aload_n C 0 dX9_stepsTo_15 rfl rfl ?_
  refine g_getr (k := 0) (k' := 0) C (by decide) kf_X9_33 rfl rfl dX9_stepsTo_16 ?_
  refine g_iload_n C 1 dX9_stepsTo_19 rfl rfl ?_
  refine g_sipush (v := 1023) C dX9_stepsTo_20 rfl ?_
  obtain ⟨r23, hr23, hm⟩ := bnd_some hm
  refine g_callVv (As := [vI l1, vI (1023 : Int32)]) (rest := []) C lk_X9_416 (k_X5_spread X.2.1 G hl hG fu l1 (1023 : Int32) r12 r23 ((hG _ hk0).2 3 5 0 0 rfl) hr23) (by decide) rfl rfl rfl (Nat.le_of_ble_eq_true rfl) ⟨Nat.le_of_ble_eq_true rfl, Nat.le_of_ble_eq_true rfl⟩ dX9_stepsTo_23 ?_
  refine g_aload_n C 0 dX9_stepsTo_26 rfl rfl ?_
  refine g_getr (k := 0) (k' := 0) C (by decide) kf_X9_33 rfl rfl dX9_stepsTo_27 ?_
  refine g_iload_n C 2 dX9_stepsTo_30 rfl rfl ?_
  obtain ⟨r31, hr31, hm⟩ := bnd_some hm
  refine g_callVi (As := [vI l2]) (rest := []) C lk_X9_419 (k_X5_stepsFrom X.2.1 G hl hG fu l2 r23 r31 ((hG _ hk0).2 3 5 0 0 rfl) hr31) (by decide) rfl rfl rfl (Nat.le_of_ble_eq_true rfl) ⟨Nat.le_of_ble_eq_true rfl, Nat.le_of_ble_eq_true rfl⟩ dX9_stepsTo_31 ?_
  obtain rfl := Option.some.inj hm
  exact g_iret C dX9_stepsTo_34
def f_X9_distance (fu : Nat) (l1 : Int32) (l2 : Int32) (M : Mem) : Option ((Int32 ⊕ Nat) × Mem) :=
  (f_X9_requirePath fu l1 M).bind (fun r2 => match r2 with
    | (Sum.inl x2, n2) => (f_X9_requirePath fu l2 n2).bind (fun r7 => match r7 with
    | (Sum.inl x7, n7) => (f_X9_stepsTo fu l2 l1 n7).bind (fun r13 => some (Sum.inl r13.1, r13.2))
    | (Sum.inr z7, n7) => some (Sum.inr z7, n7))
    | (Sum.inr z2, n2) => some (Sum.inr z2, n2))
set_option maxHeartbeats 4000000 in
set_option maxRecDepth 100000 in
theorem k_X9_distance (l : Launch) (G : GE) (hl : l.stackTraces = false) (hG : GOK G) (fu : Nat) (l1 : Int32) (l2 : Int32) (M : Mem) (res : (Int32 ⊕ Nat) × Mem) (hk0 : (9, 0) ∈ gids G) (hm : f_X9_distance fu l1 l2 M = some res) : CT l G yX9_distance cX9_distance 3 (some .int) 7 [vR 9 0, vI l1, vI l2] M (oI res.1) res.2 := by
  refine ct_of [(0, vR 9 0), (1, vI l1), (2, vI l2)] (by decide +kernel) hl hG (Nat.le_of_ble_eq_true rfl) rfl (List.forall_mem_cons.mpr ⟨Or.inl hk0, List.forall_mem_cons.mpr ⟨trivial, List.forall_mem_cons.mpr ⟨trivial, fun _ h => nomatch h⟩⟩⟩) (List.forall_mem_cons.mpr ⟨Or.inl hk0, List.forall_mem_cons.mpr ⟨trivial, List.forall_mem_cons.mpr ⟨trivial, fun _ h => nomatch h⟩⟩⟩) (fun X hX C => ?_)
  subst hX
  have Cl := C
  unfold f_X9_distance at hm
  refine g_aload_n C 0 dX9_distance_0 rfl rfl ?_
  refine g_iload_n C 1 dX9_distance_1 rfl rfl ?_
  obtain ⟨⟨x2 | z2, n2⟩, hr2, hm⟩ := bnd_some hm
  · refine g_callVv (As := [vI l1]) (rest := []) C lk_X9_202 (k_X9_requirePath X.2.1 G hl hG fu l1 M (Sum.inl x2, n2) hk0 hr2) (by decide) rfl rfl rfl (Nat.le_of_ble_eq_true rfl) ⟨Nat.le_of_ble_eq_true rfl, Nat.le_of_ble_eq_true rfl⟩ dX9_distance_2 ?_
    refine g_aload_n C 0 dX9_distance_5 rfl rfl ?_
    refine g_iload_n C 2 dX9_distance_6 rfl rfl ?_
    obtain ⟨⟨x7 | z7, n7⟩, hr7, hm⟩ := bnd_some hm
    · refine g_callVv (As := [vI l2]) (rest := []) C lk_X9_202 (k_X9_requirePath X.2.1 G hl hG fu l2 n2 (Sum.inl x7, n7) hk0 hr7) (by decide) rfl rfl rfl (Nat.le_of_ble_eq_true rfl) ⟨Nat.le_of_ble_eq_true rfl, Nat.le_of_ble_eq_true rfl⟩ dX9_distance_7 ?_
      refine g_aload_n C 0 dX9_distance_10 rfl rfl ?_
      refine g_iload_n C 2 dX9_distance_11 rfl rfl ?_
      refine g_iload_n C 1 dX9_distance_12 rfl rfl ?_
      obtain ⟨r13, hr13, hm⟩ := bnd_some hm
      refine g_callVi (As := [vI l2, vI l1]) (rest := []) C lk_X9_243 (k_X9_stepsTo X.2.1 G hl hG fu l2 l1 n7 r13 hk0 hr13) (by decide) rfl rfl rfl (Nat.le_of_ble_eq_true rfl) ⟨Nat.le_of_ble_eq_true rfl, Nat.le_of_ble_eq_true rfl⟩ dX9_distance_13 ?_
      obtain rfl := Option.some.inj hm
      exact g_iret C dX9_distance_16
    · skip
      obtain rfl := Option.some.inj hm
      exact g_callVx (E := exN z7) (As := [vI l2]) (rest := []) C lk_X9_202 (k_X9_requirePath X.2.1 G hl hG fu l2 n2 (Sum.inr z7, n7) hk0 hr7) (by decide) rfl rfl rfl (Nat.le_of_ble_eq_true rfl) ⟨Nat.le_of_ble_eq_true rfl, Nat.le_of_ble_eq_true rfl⟩ dX9_distance_7
  · skip
    obtain rfl := Option.some.inj hm
    exact g_callVx (E := exN z2) (As := [vI l1]) (rest := []) C lk_X9_202 (k_X9_requirePath X.2.1 G hl hG fu l1 M (Sum.inr z2, n2) hk0 hr2) (by decide) rfl rfl rfl (Nat.le_of_ble_eq_true rfl) ⟨Nat.le_of_ble_eq_true rfl, Nat.le_of_ble_eq_true rfl⟩ dX9_distance_2
def f_X9_proof_b61 (fu : Nat)  (l3 : Int32) (l4 : Int32) (l5 : Int32) (l6 : Int32) (M : Mem) : Option ((Int32 × Int32 × Mem) ⊕ (Int32 × Mem)) :=
  if l3 ≤ l6 then some (Sum.inr (l5, M)) else (f_X5_nextInProof fu l5 M).bind (fun r73 => some (Sum.inl (r73.1, l6 + (1 : Int32), r73.2)))
def f_X9_proof_h61 (fu : Nat)   (l3 : Int32) (l4 : Int32) (l5 : Int32) (l6 : Int32) (M : Mem) : Option ((Int32 ⊕ Nat) × Mem) :=
  (lp_run (fun s => f_X9_proof_b61 fu  l3 l4 s.1 s.2.1 s.2.2) fu (l5, l6, M)).bind (fun r61 => match r61 with
    | (l5, M) => (f_X5_nextInProof fu l5 M).bind (fun r90 => if l4 = 0 then some (Sum.inl r90.1, r90.2) else (f_X5_cellOfStep fu l5 r90.1 r90.2).bind (fun r113 => some (Sum.inl r113.1, r113.2))))
def f_X9_proof_j31 (fu : Nat)   (l1 : Int32) (l2 : Int32) (l3 : Int32) (l4 : Int32) (M : Mem) : Option ((Int32 ⊕ Nat) × Mem) :=
  if l3 < 0 then some (Sum.inr 2, M) else (f_X9_stepsTo fu l2 l1 M).bind (fun r39 => if l3 < r39.1 then f_X9_proof_h61 fu l3 l4 l1 (0 : Int32) r39.2 else some (Sum.inr 2, r39.2))
def f_X9_proof (fu : Nat) (l1 : Int32) (l2 : Int32) (l3 : Int32) (l4 : Int32) (M : Mem) : Option ((Int32 ⊕ Nat) × Mem) :=
  (f_X9_requirePath fu l1 M).bind (fun r2 => match r2 with
    | (Sum.inl x2, n2) => (f_X9_requirePath fu l2 n2).bind (fun r7 => match r7 with
    | (Sum.inl x7, n7) => if l4 = 0 then f_X9_proof_j31 fu l1 l2 l3 l4 n7 else if l4 = (1 : Int32) then f_X9_proof_j31 fu l1 l2 l3 l4 n7 else some (Sum.inr 1, n7)
    | (Sum.inr z7, n7) => some (Sum.inr z7, n7))
    | (Sum.inr z2, n2) => some (Sum.inr z2, n2))
set_option maxHeartbeats 4000000 in
set_option maxRecDepth 100000 in
theorem k_X9_proof (l : Launch) (G : GE) (hl : l.stackTraces = false) (hG : GOK G) (fu : Nat) (l1 : Int32) (l2 : Int32) (l3 : Int32) (l4 : Int32) (M : Mem) (res : (Int32 ⊕ Nat) × Mem) (hk0 : (9, 0) ∈ gids G) (hm : f_X9_proof fu l1 l2 l3 l4 M = some res) : CT l G yX9_proof cX9_proof 7 (some .int) 7 [vR 9 0, vI l1, vI l2, vI l3, vI l4] M (oI res.1) res.2 := by
  refine ct_of [(0, vR 9 0), (1, vI l1), (2, vI l2), (3, vI l3), (4, vI l4)] (by decide +kernel) hl hG (Nat.le_of_ble_eq_true rfl) rfl (List.forall_mem_cons.mpr ⟨Or.inl hk0, List.forall_mem_cons.mpr ⟨trivial, List.forall_mem_cons.mpr ⟨trivial, List.forall_mem_cons.mpr ⟨trivial, List.forall_mem_cons.mpr ⟨trivial, fun _ h => nomatch h⟩⟩⟩⟩⟩) (List.forall_mem_cons.mpr ⟨Or.inl hk0, List.forall_mem_cons.mpr ⟨trivial, List.forall_mem_cons.mpr ⟨trivial, List.forall_mem_cons.mpr ⟨trivial, List.forall_mem_cons.mpr ⟨trivial, fun _ h => nomatch h⟩⟩⟩⟩⟩) (fun X hX C => ?_)
  subst hX
  have Cl := C
  have J61 : ∀ (l3 : Int32) (l4 : Int32) (l5 : Int32) (l6 : Int32) (M : Mem), f_X9_proof_h61 fu   l3 l4 l5 l6 M = some res → GW G X 7 (QX G X (oI res.1) res.2) 61 [(0, vR 9 0), (3, vI l3), (4, vI l4), (5, vI l5), (6, vI l6)] [] M := by
    intro l3 l4 l5 l6 M hm
    unfold f_X9_proof_h61 at hm
    obtain ⟨r61, hL61, hk61⟩ := bnd_some hm
    have hx61 : ∀ (l5 : Int32) (M : Mem), (l5, M) = r61 → GW G X 7 (QX G X (oI res.1) res.2) 84 [(0, vR 9 0), (4, vI l4), (5, vI l5)] [] M := by
      intro l5 M he
      subst he
      have hm := hk61
      try dsimp only at hm
      refine g_aload_n C 0 dX9_proof_84 rfl rfl ?_
      refine g_getr (k := 0) (k' := 0) C (by decide) kf_X9_33 rfl rfl dX9_proof_85 ?_
      refine g_iload C 2 dX9_proof_88 rfl ?_
      obtain ⟨r90, hr90, hm⟩ := bnd_some hm
      refine g_callVi (As := [vI l5]) (rest := []) C lk_X9_250 (k_X5_nextInProof X.2.1 G hl hG fu l5 M r90 ((hG _ hk0).2 3 5 0 0 rfl) hr90) (by decide) rfl rfl rfl (Nat.le_of_ble_eq_true rfl) ⟨Nat.le_of_ble_eq_true rfl, Nat.le_of_ble_eq_true rfl⟩ dX9_proof_90 ?_
      refine g_istore (ls' := [(6, vI r90.1), (0, vR 9 0), (4, vI l4), (5, vI l5)]) C dX9_proof_93 (by decide) rfl ?_
      refine g_iload C 2 dX9_proof_95 rfl ?_
      refine g_if_ne (tgt := 105) C dX9_proof_97 (by decide) (fun h97 => ?_) (fun h97 => ?_)
      · have hm := ife hm h97
        refine g_aload_n C 1 dX9_proof_105 rfl rfl ?_
        refine g_getr (k := 0) (k' := 0) C (by decide) kf_X9_33 rfl rfl dX9_proof_106 ?_
        refine g_iload C 3 dX9_proof_109 rfl ?_
        refine g_iload C 0 dX9_proof_111 rfl ?_
        obtain ⟨r113, hr113, hm⟩ := bnd_some hm
        refine g_callVi (As := [vI l5, vI r90.1]) (rest := []) C lk_X9_253 (k_X5_cellOfStep X.2.1 G hl hG fu l5 r90.1 r90.2 r113 ((hG _ hk0).2 3 5 0 0 rfl) hr113) (by decide) rfl rfl rfl (Nat.le_of_ble_eq_true rfl) ⟨Nat.le_of_ble_eq_true rfl, Nat.le_of_ble_eq_true rfl⟩ dX9_proof_113 ?_
        obtain rfl := Option.some.inj hm
        exact g_iret C dX9_proof_116
      · have hm := ift hm h97
        refine g_iload C 0 dX9_proof_100 rfl ?_
        refine g_goto (tgt := 116) C dX9_proof_102 (by decide) ?_
        obtain rfl := Option.some.inj hm
        exact g_iret C dX9_proof_116
    refine lp_ind2 (P := (fun l5 l6 M => GW G X 7 (QX G X (oI res.1) res.2) 61 [(0, vR 9 0), (3, vI l3), (4, vI l4), (5, vI l5), (6, vI l6)] [] M)) (r := r61) ?_ fu l5 l6 M hL61
    intro l5 l6 M o61 hm K61
    unfold f_X9_proof_b61 at hm
    refine g_iload C 4 dX9_proof_61 rfl ?_
    refine g_iload_n C 1 dX9_proof_63 rfl rfl ?_
    refine g_icmp_ge (tgt := 84) C dX9_proof_64 (by decide) (fun h64 => ?_) (fun h64 => ?_)
    · have hm := ift hm h64
      obtain rfl := Option.some.inj hm
      exact g_sub [0, 2, 3] rfl (g_pc rfl (hx61 l5 M (K61.2 _ rfl)))
    · have hm := ife hm h64
      refine g_aload_n C 0 dX9_proof_67 rfl rfl ?_
      refine g_getr (k := 0) (k' := 0) C (by decide) kf_X9_33 rfl rfl dX9_proof_68 ?_
      refine g_iload C 3 dX9_proof_71 rfl ?_
      obtain ⟨r73, hr73, hm⟩ := bnd_some hm
      refine g_callVi (As := [vI l5]) (rest := []) C lk_X9_250 (k_X5_nextInProof X.2.1 G hl hG fu l5 M r73 ((hG _ hk0).2 3 5 0 0 rfl) hr73) (by decide) rfl rfl rfl (Nat.le_of_ble_eq_true rfl) ⟨Nat.le_of_ble_eq_true rfl, Nat.le_of_ble_eq_true rfl⟩ dX9_proof_73 ?_
      refine g_istore (ls' := [(5, vI r73.1), (0, vR 9 0), (3, vI l3), (4, vI l4), (6, vI l6)]) C dX9_proof_76 (by decide) rfl ?_
      refine g_iinc (ls' := [(6, vI (l6 + (1 : Int32))), (5, vI r73.1), (0, vR 9 0), (3, vI l3), (4, vI l4)]) (v := l6 + (1 : Int32)) C 4 dX9_proof_78 rfl (iv_p1 _) (by decide) rfl ?_
      refine g_goto (tgt := 61) C dX9_proof_81 (by decide) ?_
      obtain rfl := Option.some.inj hm
      exact g_sub [2, 3, 4, 1, 0] rfl (g_pc rfl (K61.1 r73.1 (l6 + (1 : Int32)) r73.2 rfl))
  have J31 : ∀ (l1 : Int32) (l2 : Int32) (l3 : Int32) (l4 : Int32) (M : Mem), f_X9_proof_j31 fu   l1 l2 l3 l4 M = some res → GW G X 7 (QX G X (oI res.1) res.2) 31 [(0, vR 9 0), (1, vI l1), (2, vI l2), (3, vI l3), (4, vI l4)] [] M := by
    intro l1 l2 l3 l4 M hm
    unfold f_X9_proof_j31 at hm
    refine g_iload_n C 3 dX9_proof_31 rfl rfl ?_
    refine g_if_lt (tgt := 45) C dX9_proof_32 (by decide) (fun h32 => ?_) (fun h32 => ?_)
    · have hm := ift hm h32
      obtain rfl := Option.some.inj hm
      exact g_throw (o := .inl none) (E := "java/lang/IllegalStateException") (d := 7) C tk_X9_90_94 (by decide +kernel : ("ArrowDiagrams", 248, "the proof has no such step") ∈ strs) (by decide) rfl dX9_proof_45 dX9_proof_48 dX9_proof_49 dX9_proof_51 dX9_proof_54
    · have hm := ife hm h32
      refine g_iload_n C 3 dX9_proof_35 rfl rfl ?_
      refine g_aload_n C 0 dX9_proof_36 rfl rfl ?_
      refine g_iload_n C 2 dX9_proof_37 rfl rfl ?_
      refine g_iload_n C 1 dX9_proof_38 rfl rfl ?_
      obtain ⟨r39, hr39, hm⟩ := bnd_some hm
      refine g_callVi (As := [vI l2, vI l1]) (rest := [vI l3]) C lk_X9_243 (k_X9_stepsTo X.2.1 G hl hG fu l2 l1 M r39 hk0 hr39) (by decide) rfl rfl rfl (Nat.le_of_ble_eq_true rfl) ⟨Nat.le_of_ble_eq_true rfl, Nat.le_of_ble_eq_true rfl⟩ dX9_proof_39 ?_
      refine g_icmp_lt (tgt := 55) C dX9_proof_42 (by decide) (fun h42 => ?_) (fun h42 => ?_)
      · have hm := ift hm h42
        refine g_iload_n C 1 dX9_proof_55 rfl rfl ?_
        refine g_istore (ls' := [(5, vI l1), (0, vR 9 0), (1, vI l1), (2, vI l2), (3, vI l3), (4, vI l4)]) C dX9_proof_56 (by decide) rfl ?_
        refine g_iconst (v := 0) C dX9_proof_58 rfl ?_
        refine g_istore (ls' := [(6, vI (0 : Int32)), (5, vI l1), (0, vR 9 0), (1, vI l1), (2, vI l2), (3, vI l3), (4, vI l4)]) C dX9_proof_59 (by decide) rfl ?_
        exact g_sub [2, 5, 6, 1, 0] rfl (g_pc rfl (J61 l3 l4 l1 (0 : Int32) r39.2 hm))
      · have hm := ife hm h42
        obtain rfl := Option.some.inj hm
        exact g_throw (o := .inl none) (E := "java/lang/IllegalStateException") (d := 7) C tk_X9_90_94 (by decide +kernel : ("ArrowDiagrams", 248, "the proof has no such step") ∈ strs) (by decide) rfl dX9_proof_45 dX9_proof_48 dX9_proof_49 dX9_proof_51 dX9_proof_54
  unfold f_X9_proof at hm
  refine g_aload_n C 0 dX9_proof_0 rfl rfl ?_
  refine g_iload_n C 1 dX9_proof_1 rfl rfl ?_
  obtain ⟨⟨x2 | z2, n2⟩, hr2, hm⟩ := bnd_some hm
  · refine g_callVv (As := [vI l1]) (rest := []) C lk_X9_202 (k_X9_requirePath X.2.1 G hl hG fu l1 M (Sum.inl x2, n2) hk0 hr2) (by decide) rfl rfl rfl (Nat.le_of_ble_eq_true rfl) ⟨Nat.le_of_ble_eq_true rfl, Nat.le_of_ble_eq_true rfl⟩ dX9_proof_2 ?_
    refine g_aload_n C 0 dX9_proof_5 rfl rfl ?_
    refine g_iload_n C 2 dX9_proof_6 rfl rfl ?_
    obtain ⟨⟨x7 | z7, n7⟩, hr7, hm⟩ := bnd_some hm
    · refine g_callVv (As := [vI l2]) (rest := []) C lk_X9_202 (k_X9_requirePath X.2.1 G hl hG fu l2 n2 (Sum.inl x7, n7) hk0 hr7) (by decide) rfl rfl rfl (Nat.le_of_ble_eq_true rfl) ⟨Nat.le_of_ble_eq_true rfl, Nat.le_of_ble_eq_true rfl⟩ dX9_proof_7 ?_
      refine g_iload C 4 dX9_proof_10 rfl ?_
      refine g_if_eq (tgt := 31) C dX9_proof_12 (by decide) (fun h12 => ?_) (fun h12 => ?_)
      · have hm := ift hm h12
        exact g_sub [0, 1, 2, 3, 4] rfl (g_pc rfl (J31 l1 l2 l3 l4 n7 hm))
      · have hm := ife hm h12
        refine g_iload C 4 dX9_proof_15 rfl ?_
        refine g_iconst (v := 1) C dX9_proof_17 rfl ?_
        refine g_icmp_eq (tgt := 31) C dX9_proof_18 (by decide) (fun h18 => ?_) (fun h18 => ?_)
        · have hm := ift hm h18
          exact g_sub [0, 1, 2, 3, 4] rfl (g_pc rfl (J31 l1 l2 l3 l4 n7 hm))
        · have hm := ife hm h18
          obtain rfl := Option.some.inj hm
          exact g_throw (o := .inl none) (E := "java/lang/IllegalArgumentException") (d := 7) C tk_X9_70_74 (by decide +kernel : ("ArrowDiagrams", 246, "what is not 0 or 1") ∈ strs) (by decide) rfl dX9_proof_21 dX9_proof_24 dX9_proof_25 dX9_proof_27 dX9_proof_30
    · skip
      obtain rfl := Option.some.inj hm
      exact g_callVx (E := exN z7) (As := [vI l2]) (rest := []) C lk_X9_202 (k_X9_requirePath X.2.1 G hl hG fu l2 n2 (Sum.inr z7, n7) hk0 hr7) (by decide) rfl rfl rfl (Nat.le_of_ble_eq_true rfl) ⟨Nat.le_of_ble_eq_true rfl, Nat.le_of_ble_eq_true rfl⟩ dX9_proof_7
  · skip
    obtain rfl := Option.some.inj hm
    exact g_callVx (E := exN z2) (As := [vI l1]) (rest := []) C lk_X9_202 (k_X9_requirePath X.2.1 G hl hG fu l1 M (Sum.inr z2, n2) hk0 hr2) (by decide) rfl rfl rfl (Nat.le_of_ble_eq_true rfl) ⟨Nat.le_of_ble_eq_true rfl, Nat.le_of_ble_eq_true rfl⟩ dX9_proof_2
def f_X9_holds (fu : Nat) (k1 : Nat) (l2 : Int32) (M : Mem) : Option (Int32 × Mem) :=
  (f_X0_pathOf fu 0 l2 (0 : Int32) M).bind (fun r11 => (f_X0_pathOf fu 0 l2 (1 : Int32) r11.2).bind (fun r20 => (f_X1_agree fu k1 r11.1 r20.1 r20.2).bind (fun r23 => if r23.1 = 0 ∨ r23.1 = 1 then some (r23.1, r23.2) else none)))
set_option maxHeartbeats 4000000 in
set_option maxRecDepth 100000 in
theorem k_X9_holds (l : Launch) (G : GE) (hl : l.stackTraces = false) (hG : GOK G) (fu : Nat) (k1 : Nat) (l2 : Int32) (M : Mem) (res : Int32 × Mem) (hk0 : (9, 0) ∈ gids G) (hk1 : (1, k1) ∈ gids G) (hm : f_X9_holds fu k1 l2 M = some res) : CT l G yX9_holds cX9_holds 3 (some .boolean) 3 [vR 9 0, vR 1 k1, vI l2] M (.inl (some (vI res.1))) res.2 := by
  refine ct_of [(0, vR 9 0), (1, vR 1 k1), (2, vI l2)] (by decide +kernel) hl hG (Nat.le_of_ble_eq_true rfl) rfl (List.forall_mem_cons.mpr ⟨Or.inl hk0, List.forall_mem_cons.mpr ⟨Or.inl hk1, List.forall_mem_cons.mpr ⟨trivial, fun _ h => nomatch h⟩⟩⟩) (List.forall_mem_cons.mpr ⟨Or.inl hk0, List.forall_mem_cons.mpr ⟨Or.inl hk1, List.forall_mem_cons.mpr ⟨trivial, fun _ h => nomatch h⟩⟩⟩) (fun X hX C => ?_)
  subst hX
  have Cl := C
  unfold f_X9_holds at hm
  refine g_aload_n C 1 dX9_holds_0 rfl rfl ?_
  refine g_aload_n C 0 dX9_holds_1 rfl rfl ?_
  refine g_getr (k := 0) (k' := 0) C (by decide) kf_X9_26 rfl rfl dX9_holds_2 ?_
  refine g_aload_n C 0 dX9_holds_5 rfl rfl ?_
  refine g_getr (k := 0) (k' := 0) C (by decide) kf_X9_19 rfl rfl dX9_holds_6 ?_
  refine g_iload_n C 2 dX9_holds_9 rfl rfl ?_
  refine g_iconst (v := 0) C dX9_holds_10 rfl ?_
  obtain ⟨r11, hr11, hm⟩ := bnd_some hm
  refine g_callVi (As := [vI l2, vI (0 : Int32)]) (rest := [vR 6 0, vR 1 k1]) C lk_X9_256 (k_X0_pathOf X.2.1 G hl hG fu 0 l2 (0 : Int32) M r11 ((hG _ hk0).2 1 0 0 0 rfl) hr11) (by decide) rfl rfl rfl (Nat.le_of_ble_eq_true rfl) ⟨Nat.le_of_ble_eq_true rfl, Nat.le_of_ble_eq_true rfl⟩ dX9_holds_11 ?_
  refine g_aload_n C 0 dX9_holds_14 rfl rfl ?_
  refine g_getr (k := 0) (k' := 0) C (by decide) kf_X9_19 rfl rfl dX9_holds_15 ?_
  refine g_iload_n C 2 dX9_holds_18 rfl rfl ?_
  refine g_iconst (v := 1) C dX9_holds_19 rfl ?_
  obtain ⟨r20, hr20, hm⟩ := bnd_some hm
  refine g_callVi (As := [vI l2, vI (1 : Int32)]) (rest := [vI r11.1, vR 6 0, vR 1 k1]) C lk_X9_256 (k_X0_pathOf X.2.1 G hl hG fu 0 l2 (1 : Int32) r11.2 r20 ((hG _ hk0).2 1 0 0 0 rfl) hr20) (by decide) rfl rfl rfl (Nat.le_of_ble_eq_true rfl) ⟨Nat.le_of_ble_eq_true rfl, Nat.le_of_ble_eq_true rfl⟩ dX9_holds_20 ?_
  obtain ⟨r23, hr23, hm⟩ := bnd_some hm
  refine g_callVi (As := [vR 6 0, vI r11.1, vI r20.1]) (rest := []) C lk_X9_326 (k_X1_agree X.2.1 G hl hG fu k1 r11.1 r20.1 r20.2 r23 hk1 ((hG _ hk0).2 2 6 0 0 rfl) hr23) (by decide) rfl rfl rfl (Nat.le_of_ble_eq_true rfl) ⟨Nat.le_of_ble_eq_true rfl, Nat.le_of_ble_eq_true rfl⟩ dX9_holds_23 ?_
  obtain ⟨hz26, hm⟩ := ifn hm
  obtain rfl := Option.some.inj hm
  exact g_zret C hz26 dX9_holds_26
def f_X9_cell (fu : Nat) (l1 : Int32) (l2 : Int32) (M : Mem) : Option ((Int32 ⊕ Nat) × Mem) :=
  (f_X9_requireCell fu l1 M).bind (fun r2 => match r2 with
    | (Sum.inl x2, n2) => if l2 = (0 : Int32) then (f_X0_pathOf fu 0 l1 (0 : Int32) n2).bind (fun r46 => some (Sum.inl r46.1, r46.2)) else if l2 = (1 : Int32) then (f_X0_pathOf fu 0 l1 (1 : Int32) n2).bind (fun r56 => some (Sum.inl r56.1, r56.2)) else if l2 = (2 : Int32) then (f_X5_refresh fu 0 n2).bind (fun r72 => (f_X5_isRedundant fu 0 l1 r72).bind (fun r84 => if r84.1 = 0 then some (Sum.inl (0 : Int32), r84.2) else some (Sum.inl (1 : Int32), r84.2))) else if l2 = (3 : Int32) then (f_X5_refresh fu 0 n2).bind (fun r108 => (f_X5_refreshCore fu 0 r108).bind (fun r119 => (f_X5_isInCore fu l1 r119).bind (fun r127 => if r127.1 = 0 then some (Sum.inl (0 : Int32), r127.2) else some (Sum.inl (1 : Int32), r127.2)))) else if l2 = (4 : Int32) then (f_X9_holds fu 0 l1 n2).bind (fun r145 => if r145.1 = 0 then some (Sum.inl (0 : Int32), r145.2) else some (Sum.inl (1 : Int32), r145.2)) else some (Sum.inr 1, n2)
    | (Sum.inr z2, n2) => some (Sum.inr z2, n2))
set_option maxHeartbeats 4000000 in
set_option maxRecDepth 100000 in
theorem k_X9_cell (l : Launch) (G : GE) (hl : l.stackTraces = false) (hG : GOK G) (fu : Nat) (l1 : Int32) (l2 : Int32) (M : Mem) (res : (Int32 ⊕ Nat) × Mem) (hk0 : (9, 0) ∈ gids G) (hm : f_X9_cell fu l1 l2 M = some res) : CT l G yX9_cell cX9_cell 3 (some .int) 7 [vR 9 0, vI l1, vI l2] M (oI res.1) res.2 := by
  refine ct_of [(0, vR 9 0), (1, vI l1), (2, vI l2)] (by decide +kernel) hl hG (Nat.le_of_ble_eq_true rfl) rfl (List.forall_mem_cons.mpr ⟨Or.inl hk0, List.forall_mem_cons.mpr ⟨trivial, List.forall_mem_cons.mpr ⟨trivial, fun _ h => nomatch h⟩⟩⟩) (List.forall_mem_cons.mpr ⟨Or.inl hk0, List.forall_mem_cons.mpr ⟨trivial, List.forall_mem_cons.mpr ⟨trivial, fun _ h => nomatch h⟩⟩⟩) (fun X hX C => ?_)
  subst hX
  have Cl := C
  unfold f_X9_cell at hm
  refine g_aload_n C 0 dX9_cell_0 rfl rfl ?_
  refine g_iload_n C 1 dX9_cell_1 rfl rfl ?_
  obtain ⟨⟨x2 | z2, n2⟩, hr2, hm⟩ := bnd_some hm
  · refine g_callVv (As := [vI l1]) (rest := []) C lk_X9_146 (k_X9_requireCell X.2.1 G hl hG fu l1 M (Sum.inl x2, n2) hk0 hr2) (by decide) rfl rfl rfl (Nat.le_of_ble_eq_true rfl) ⟨Nat.le_of_ble_eq_true rfl, Nat.le_of_ble_eq_true rfl⟩ dX9_cell_2 ?_
    refine g_iload_n C 2 dX9_cell_5 rfl rfl ?_
    by_cases h6_0 : l2 = (0 : Int32)
    · have hm := ift hm h6_0
      refine g_tabIn (off := 34) (tgt := 40) C dX9_cell_6 (by rw [h6_0]; decide) (by rw [h6_0]; decide) (by rw [h6_0]; rfl) (by decide) ?_
      refine g_aload_n C 0 dX9_cell_40 rfl rfl ?_
      refine g_getr (k := 0) (k' := 0) C (by decide) kf_X9_19 rfl rfl dX9_cell_41 ?_
      refine g_iload_n C 1 dX9_cell_44 rfl rfl ?_
      refine g_iconst (v := 0) C dX9_cell_45 rfl ?_
      obtain ⟨r46, hr46, hm⟩ := bnd_some hm
      refine g_callVi (As := [vI l1, vI (0 : Int32)]) (rest := []) C lk_X9_256 (k_X0_pathOf X.2.1 G hl hG fu 0 l1 (0 : Int32) n2 r46 ((hG _ hk0).2 1 0 0 0 rfl) hr46) (by decide) rfl rfl rfl (Nat.le_of_ble_eq_true rfl) ⟨Nat.le_of_ble_eq_true rfl, Nat.le_of_ble_eq_true rfl⟩ dX9_cell_46 ?_
      obtain rfl := Option.some.inj hm
      exact g_iret C dX9_cell_49
    have hm := ife hm h6_0
    by_cases h6_1 : l2 = (1 : Int32)
    · have hm := ift hm h6_1
      refine g_tabIn (off := 44) (tgt := 50) C dX9_cell_6 (by rw [h6_1]; decide) (by rw [h6_1]; decide) (by rw [h6_1]; rfl) (by decide) ?_
      refine g_aload_n C 0 dX9_cell_50 rfl rfl ?_
      refine g_getr (k := 0) (k' := 0) C (by decide) kf_X9_19 rfl rfl dX9_cell_51 ?_
      refine g_iload_n C 1 dX9_cell_54 rfl rfl ?_
      refine g_iconst (v := 1) C dX9_cell_55 rfl ?_
      obtain ⟨r56, hr56, hm⟩ := bnd_some hm
      refine g_callVi (As := [vI l1, vI (1 : Int32)]) (rest := []) C lk_X9_256 (k_X0_pathOf X.2.1 G hl hG fu 0 l1 (1 : Int32) n2 r56 ((hG _ hk0).2 1 0 0 0 rfl) hr56) (by decide) rfl rfl rfl (Nat.le_of_ble_eq_true rfl) ⟨Nat.le_of_ble_eq_true rfl, Nat.le_of_ble_eq_true rfl⟩ dX9_cell_56 ?_
      obtain rfl := Option.some.inj hm
      exact g_iret C dX9_cell_59
    have hm := ife hm h6_1
    by_cases h6_2 : l2 = (2 : Int32)
    · have hm := ift hm h6_2
      refine g_tabIn (off := 54) (tgt := 60) C dX9_cell_6 (by rw [h6_2]; decide) (by rw [h6_2]; decide) (by rw [h6_2]; rfl) (by decide) ?_
      refine g_aload_n C 0 dX9_cell_60 rfl rfl ?_
      refine g_getr (k := 0) (k' := 0) C (by decide) kf_X9_33 rfl rfl dX9_cell_61 ?_
      refine g_aload_n C 0 dX9_cell_64 rfl rfl ?_
      refine g_getr (k := 0) (k' := 0) C (by decide) kf_X9_26 rfl rfl dX9_cell_65 ?_
      refine g_aload_n C 0 dX9_cell_68 rfl rfl ?_
      refine g_getr (k := 0) (k' := 0) C (by decide) kf_X9_19 rfl rfl dX9_cell_69 ?_
      obtain ⟨r72, hr72, hm⟩ := bnd_some hm
      refine g_callVv (As := [vR 6 0, vR 0 0]) (rest := []) C lk_X9_210 (k_X5_refresh X.2.1 G hl hG fu 0 n2 r72 ((hG _ hk0).2 3 5 0 0 rfl) ((hG _ hk0).2 2 6 0 0 rfl) ((hG _ hk0).2 1 0 0 0 rfl) hr72) (by decide) rfl rfl rfl (Nat.le_of_ble_eq_true rfl) ⟨Nat.le_of_ble_eq_true rfl, Nat.le_of_ble_eq_true rfl⟩ dX9_cell_72 ?_
      refine g_aload_n C 0 dX9_cell_75 rfl rfl ?_
      refine g_getr (k := 0) (k' := 0) C (by decide) kf_X9_33 rfl rfl dX9_cell_76 ?_
      refine g_aload_n C 0 dX9_cell_79 rfl rfl ?_
      refine g_getr (k := 0) (k' := 0) C (by decide) kf_X9_19 rfl rfl dX9_cell_80 ?_
      refine g_iload_n C 1 dX9_cell_83 rfl rfl ?_
      obtain ⟨r84, hr84, hm⟩ := bnd_some hm
      refine g_callVi (As := [vR 0 0, vI l1]) (rest := []) C lk_X9_259 (k_X5_isRedundant X.2.1 G hl hG fu 0 l1 r72 r84 ((hG _ hk0).2 3 5 0 0 rfl) ((hG _ hk0).2 1 0 0 0 rfl) hr84) (by decide) rfl rfl rfl (Nat.le_of_ble_eq_true rfl) ⟨Nat.le_of_ble_eq_true rfl, Nat.le_of_ble_eq_true rfl⟩ dX9_cell_84 ?_
      refine g_if_eq (tgt := 94) C dX9_cell_87 (by decide) (fun h87 => ?_) (fun h87 => ?_)
      · have hm := ift hm h87
        refine g_iconst (v := 0) C dX9_cell_94 rfl ?_
        obtain rfl := Option.some.inj hm
        exact g_iret C dX9_cell_95
      · have hm := ife hm h87
        refine g_iconst (v := 1) C dX9_cell_90 rfl ?_
        refine g_goto (tgt := 95) C dX9_cell_91 (by decide) ?_
        obtain rfl := Option.some.inj hm
        exact g_iret C dX9_cell_95
    have hm := ife hm h6_2
    by_cases h6_3 : l2 = (3 : Int32)
    · have hm := ift hm h6_3
      refine g_tabIn (off := 90) (tgt := 96) C dX9_cell_6 (by rw [h6_3]; decide) (by rw [h6_3]; decide) (by rw [h6_3]; rfl) (by decide) ?_
      refine g_aload_n C 0 dX9_cell_96 rfl rfl ?_
      refine g_getr (k := 0) (k' := 0) C (by decide) kf_X9_33 rfl rfl dX9_cell_97 ?_
      refine g_aload_n C 0 dX9_cell_100 rfl rfl ?_
      refine g_getr (k := 0) (k' := 0) C (by decide) kf_X9_26 rfl rfl dX9_cell_101 ?_
      refine g_aload_n C 0 dX9_cell_104 rfl rfl ?_
      refine g_getr (k := 0) (k' := 0) C (by decide) kf_X9_19 rfl rfl dX9_cell_105 ?_
      obtain ⟨r108, hr108, hm⟩ := bnd_some hm
      refine g_callVv (As := [vR 6 0, vR 0 0]) (rest := []) C lk_X9_210 (k_X5_refresh X.2.1 G hl hG fu 0 n2 r108 ((hG _ hk0).2 3 5 0 0 rfl) ((hG _ hk0).2 2 6 0 0 rfl) ((hG _ hk0).2 1 0 0 0 rfl) hr108) (by decide) rfl rfl rfl (Nat.le_of_ble_eq_true rfl) ⟨Nat.le_of_ble_eq_true rfl, Nat.le_of_ble_eq_true rfl⟩ dX9_cell_108 ?_
      refine g_aload_n C 0 dX9_cell_111 rfl rfl ?_
      refine g_getr (k := 0) (k' := 0) C (by decide) kf_X9_33 rfl rfl dX9_cell_112 ?_
      refine g_aload_n C 0 dX9_cell_115 rfl rfl ?_
      refine g_getr (k := 0) (k' := 0) C (by decide) kf_X9_19 rfl rfl dX9_cell_116 ?_
      obtain ⟨r119, hr119, hm⟩ := bnd_some hm
      refine g_callVv (As := [vR 0 0]) (rest := []) C lk_X9_263 (k_X5_refreshCore X.2.1 G hl hG fu 0 r108 r119 ((hG _ hk0).2 3 5 0 0 rfl) ((hG _ hk0).2 1 0 0 0 rfl) hr119) (by decide) rfl rfl rfl (Nat.le_of_ble_eq_true rfl) ⟨Nat.le_of_ble_eq_true rfl, Nat.le_of_ble_eq_true rfl⟩ dX9_cell_119 ?_
      refine g_aload_n C 0 dX9_cell_122 rfl rfl ?_
      refine g_getr (k := 0) (k' := 0) C (by decide) kf_X9_33 rfl rfl dX9_cell_123 ?_
      refine g_iload_n C 1 dX9_cell_126 rfl rfl ?_
      obtain ⟨r127, hr127, hm⟩ := bnd_some hm
      refine g_callVi (As := [vI l1]) (rest := []) C lk_X9_266 (k_X5_isInCore X.2.1 G hl hG fu l1 r119 r127 ((hG _ hk0).2 3 5 0 0 rfl) hr127) (by decide) rfl rfl rfl (Nat.le_of_ble_eq_true rfl) ⟨Nat.le_of_ble_eq_true rfl, Nat.le_of_ble_eq_true rfl⟩ dX9_cell_127 ?_
      refine g_if_eq (tgt := 137) C dX9_cell_130 (by decide) (fun h130 => ?_) (fun h130 => ?_)
      · have hm := ift hm h130
        refine g_iconst (v := 0) C dX9_cell_137 rfl ?_
        obtain rfl := Option.some.inj hm
        exact g_iret C dX9_cell_138
      · have hm := ife hm h130
        refine g_iconst (v := 1) C dX9_cell_133 rfl ?_
        refine g_goto (tgt := 138) C dX9_cell_134 (by decide) ?_
        obtain rfl := Option.some.inj hm
        exact g_iret C dX9_cell_138
    have hm := ife hm h6_3
    by_cases h6_4 : l2 = (4 : Int32)
    · have hm := ift hm h6_4
      refine g_tabIn (off := 133) (tgt := 139) C dX9_cell_6 (by rw [h6_4]; decide) (by rw [h6_4]; decide) (by rw [h6_4]; rfl) (by decide) ?_
      refine g_aload_n C 0 dX9_cell_139 rfl rfl ?_
      refine g_aload_n C 0 dX9_cell_140 rfl rfl ?_
      refine g_getr (k := 0) (k' := 0) C (by decide) kf_X9_40 rfl rfl dX9_cell_141 ?_
      refine g_iload_n C 1 dX9_cell_144 rfl rfl ?_
      obtain ⟨r145, hr145, hm⟩ := bnd_some hm
      refine g_callVi (As := [vR 1 0, vI l1]) (rest := []) C lk_X9_270 (k_X9_holds X.2.1 G hl hG fu 0 l1 n2 r145 hk0 ((hG _ hk0).2 4 1 0 0 rfl) hr145) (by decide) rfl rfl rfl (Nat.le_of_ble_eq_true rfl) ⟨Nat.le_of_ble_eq_true rfl, Nat.le_of_ble_eq_true rfl⟩ dX9_cell_145 ?_
      refine g_if_eq (tgt := 155) C dX9_cell_148 (by decide) (fun h148 => ?_) (fun h148 => ?_)
      · have hm := ift hm h148
        refine g_iconst (v := 0) C dX9_cell_155 rfl ?_
        obtain rfl := Option.some.inj hm
        exact g_iret C dX9_cell_156
      · have hm := ife hm h148
        refine g_iconst (v := 1) C dX9_cell_151 rfl ?_
        refine g_goto (tgt := 156) C dX9_cell_152 (by decide) ?_
        obtain rfl := Option.some.inj hm
        exact g_iret C dX9_cell_156
    have hm := ife hm h6_4
    refine g_tabOut (tgt := 157) C dX9_cell_6 (tab_out 5 (by decide) (by intro j hj; rcases Nat.lt_succ_iff_lt_or_eq.mp hj with hj | rfl; rotate_left; exact h6_4; rcases Nat.lt_succ_iff_lt_or_eq.mp hj with hj | rfl; rotate_left; exact h6_3; rcases Nat.lt_succ_iff_lt_or_eq.mp hj with hj | rfl; rotate_left; exact h6_2; rcases Nat.lt_succ_iff_lt_or_eq.mp hj with hj | rfl; rotate_left; exact h6_1; rcases Nat.lt_succ_iff_lt_or_eq.mp hj with hj | rfl; rotate_left; exact h6_0; exact absurd hj (Nat.not_lt_zero _))) (by decide) ?_
    obtain rfl := Option.some.inj hm
    exact g_throwW (o := .inl none) (E := "java/lang/IllegalArgumentException") (d := 7) C tk_X9_70_74 (by decide +kernel : ("ArrowDiagrams", 274, "what is not 0 to 4") ∈ strs) (by decide) rfl dX9_cell_157 dX9_cell_160 dX9_cell_161 dX9_cell_164 dX9_cell_167
  · skip
    obtain rfl := Option.some.inj hm
    exact g_callVx (E := exN z2) (As := [vI l1]) (rest := []) C lk_X9_146 (k_X9_requireCell X.2.1 G hl hG fu l1 M (Sum.inr z2, n2) hk0 hr2) (by decide) rfl rfl rfl (Nat.le_of_ble_eq_true rfl) ⟨Nat.le_of_ble_eq_true rfl, Nat.le_of_ble_eq_true rfl⟩ dX9_cell_2
def f_X9_pairsWithAtMost_j58 (fu : Nat)  (l1 : Int32) (l3 : Int32) (l2 : Int32) (l4 : Int32) (M : Mem) : Option ((Int32 × Int32 × Mem) ⊕ (Int32 × Mem)) :=
  some (Sum.inl (l2, l4 + (1 : Int32), M))
def f_X9_pairsWithAtMost_b20 (fu : Nat)  (l1 : Int32) (l3 : Int32) (l2 : Int32) (l4 : Int32) (M : Mem) : Option ((Int32 × Int32 × Mem) ⊕ (Int32 × Mem)) :=
  (f_X2_objectTotal fu 0 M).bind (fun r26 => if r26.1 ≤ l4 then some (Sum.inr (l2, r26.2)) else (f_X5_classesBetween fu l3 l4 r26.2).bind (fun r39 => if r39.1 ≤ 0 then f_X9_pairsWithAtMost_j58 fu l1 l3 l2 l4 r39.2 else if l1 < r39.1 then f_X9_pairsWithAtMost_j58 fu l1 l3 l2 l4 r39.2 else f_X9_pairsWithAtMost_j58 fu l1 l3 (l2 + (1 : Int32)) l4 r39.2))
def f_X9_pairsWithAtMost_h20 (fu : Nat)  (l1 : Int32) (l2 : Int32) (l3 : Int32) (l4 : Int32) (M : Mem) : Option ((Int32 × Int32 × Mem) ⊕ (Int32 × Mem)) :=
  (lp_run (fun s => f_X9_pairsWithAtMost_b20 fu  l1 l3 s.1 s.2.1 s.2.2) fu (l2, l4, M)).bind (fun r20 => match r20 with
    | (l2, M) => some (Sum.inl (l2, l3 + (1 : Int32), M)))
def f_X9_pairsWithAtMost_b4 (fu : Nat)  (l1 : Int32) (l2 : Int32) (l3 : Int32) (M : Mem) : Option ((Int32 × Int32 × Mem) ⊕ (Int32 × Mem)) :=
  (f_X2_objectTotal fu 0 M).bind (fun r9 => if r9.1 ≤ l3 then some (Sum.inr (l2, r9.2)) else f_X9_pairsWithAtMost_h20 fu l1 l2 l3 (l3 + (1 : Int32)) r9.2)
def f_X9_pairsWithAtMost_h4 (fu : Nat)   (l1 : Int32) (l2 : Int32) (l3 : Int32) (M : Mem) : Option (Int32 × Mem) :=
  (lp_run (fun s => f_X9_pairsWithAtMost_b4 fu  l1 s.1 s.2.1 s.2.2) fu (l2, l3, M)).bind (fun r4 => match r4 with
    | (l2, M) => some (l2, M))
def f_X9_pairsWithAtMost (fu : Nat) (l1 : Int32) (M : Mem) : Option (Int32 × Mem) :=
  f_X9_pairsWithAtMost_h4 fu l1 (0 : Int32) (0 : Int32) M
set_option maxHeartbeats 4000000 in
set_option maxRecDepth 100000 in
theorem k_X9_pairsWithAtMost (l : Launch) (G : GE) (hl : l.stackTraces = false) (hG : GOK G) (fu : Nat) (l1 : Int32) (M : Mem) (res : Int32 × Mem) (hk0 : (9, 0) ∈ gids G) (hm : f_X9_pairsWithAtMost fu l1 M = some res) : CT l G yX9_pairsWithAtMost cX9_pairsWithAtMost 6 (some .int) 2 [vR 9 0, vI l1] M (.inl (some (vI res.1))) res.2 := by
  refine ct_of [(0, vR 9 0), (1, vI l1)] (by decide +kernel) hl hG (Nat.le_of_ble_eq_true rfl) rfl (List.forall_mem_cons.mpr ⟨Or.inl hk0, List.forall_mem_cons.mpr ⟨trivial, fun _ h => nomatch h⟩⟩) (List.forall_mem_cons.mpr ⟨Or.inl hk0, List.forall_mem_cons.mpr ⟨trivial, fun _ h => nomatch h⟩⟩) (fun X hX C => ?_)
  subst hX
  have Cl := C
  have J4 : ∀ (l1 : Int32) (l2 : Int32) (l3 : Int32) (M : Mem), f_X9_pairsWithAtMost_h4 fu   l1 l2 l3 M = some res → GW G X 6 (QX G X (.inl (some (vI res.1))) res.2) 4 [(0, vR 9 0), (1, vI l1), (2, vI l2), (3, vI l3)] [] M := by
    intro l1 l2 l3 M hm
    unfold f_X9_pairsWithAtMost_h4 at hm
    obtain ⟨r4, hL4, hk4⟩ := bnd_some hm
    have hx4 : ∀ (l2 : Int32) (M : Mem), (l2, M) = r4 → GW G X 6 (QX G X (.inl (some (vI res.1))) res.2) 70 [(2, vI l2)] [] M := by
      intro l2 M he
      subst he
      have hm := hk4
      try dsimp only at hm
      refine g_iload_n C 0 dX9_pairsWithAtMost_70 rfl rfl ?_
      obtain rfl := Option.some.inj hm
      exact g_iret C dX9_pairsWithAtMost_71
    refine lp_ind2 (P := (fun l2 l3 M => GW G X 6 (QX G X (.inl (some (vI res.1))) res.2) 4 [(0, vR 9 0), (1, vI l1), (2, vI l2), (3, vI l3)] [] M)) (r := r4) ?_ fu l2 l3 M hL4
    intro l2 l3 M o4 hm K4
    have J20 : ∀ (l2 : Int32) (l3 : Int32) (l4 : Int32) (M : Mem), f_X9_pairsWithAtMost_h20 fu  l1 l2 l3 l4 M = some o4 → GW G X 6 (QX G X (.inl (some (vI res.1))) res.2) 20 [(0, vR 9 0), (1, vI l1), (2, vI l2), (3, vI l3), (4, vI l4)] [] M := by
      intro l2 l3 l4 M hm
      unfold f_X9_pairsWithAtMost_h20 at hm
      obtain ⟨r20, hL20, hk20⟩ := bnd_some hm
      have hx20 : ∀ (l2 : Int32) (M : Mem), (l2, M) = r20 → GW G X 6 (QX G X (.inl (some (vI res.1))) res.2) 64 [(0, vR 9 0), (1, vI l1), (2, vI l2), (3, vI l3)] [] M := by
        intro l2 M he
        subst he
        have hm := hk20
        try dsimp only at hm
        refine g_iinc (ls' := [(3, vI (l3 + (1 : Int32))), (0, vR 9 0), (1, vI l1), (2, vI l2)]) (v := l3 + (1 : Int32)) C 3 dX9_pairsWithAtMost_64 rfl (iv_p1 _) (by decide) rfl ?_
        refine g_goto (tgt := 4) C dX9_pairsWithAtMost_67 (by decide) ?_
        obtain rfl := Option.some.inj hm
        exact g_sub [1, 2, 3, 0] rfl (g_pc rfl (K4.1 l2 (l3 + (1 : Int32)) M rfl))
      refine lp_ind2 (P := (fun l2 l4 M => GW G X 6 (QX G X (.inl (some (vI res.1))) res.2) 20 [(0, vR 9 0), (1, vI l1), (2, vI l2), (3, vI l3), (4, vI l4)] [] M)) (r := r20) ?_ fu l2 l4 M hL20
      intro l2 l4 M o20 hm K20
      have J58 : ∀ (l2 : Int32) (l4 : Int32) (M : Mem), f_X9_pairsWithAtMost_j58 fu  l1 l3 l2 l4 M = some o20 → GW G X 6 (QX G X (.inl (some (vI res.1))) res.2) 58 [(0, vR 9 0), (1, vI l1), (2, vI l2), (3, vI l3), (4, vI l4)] [] M := by
        intro l2 l4 M hm
        unfold f_X9_pairsWithAtMost_j58 at hm
        refine g_iinc (ls' := [(4, vI (l4 + (1 : Int32))), (0, vR 9 0), (1, vI l1), (2, vI l2), (3, vI l3)]) (v := l4 + (1 : Int32)) C 4 dX9_pairsWithAtMost_58 rfl (iv_p1 _) (by decide) rfl ?_
        refine g_goto (tgt := 20) C dX9_pairsWithAtMost_61 (by decide) ?_
        obtain rfl := Option.some.inj hm
        exact g_sub [1, 2, 3, 4, 0] rfl (g_pc rfl (K20.1 l2 (l4 + (1 : Int32)) M rfl))
      unfold f_X9_pairsWithAtMost_b20 at hm
      refine g_iload C 4 dX9_pairsWithAtMost_20 rfl ?_
      refine g_aload_n C 0 dX9_pairsWithAtMost_22 rfl rfl ?_
      refine g_getr (k := 0) (k' := 0) C (by decide) kf_X9_12 rfl rfl dX9_pairsWithAtMost_23 ?_
      obtain ⟨r26, hr26, hm⟩ := bnd_some hm
      refine g_callVi (As := []) (rest := [vI l4]) C lk_X9_77 (k_X2_objectTotal X.2.1 G hl hG fu 0 M r26 ((hG _ hk0).2 0 2 0 0 rfl) hr26) (by decide) rfl rfl rfl (Nat.le_of_ble_eq_true rfl) ⟨Nat.le_of_ble_eq_true rfl, Nat.le_of_ble_eq_true rfl⟩ dX9_pairsWithAtMost_26 ?_
      refine g_icmp_ge (tgt := 64) C dX9_pairsWithAtMost_29 (by decide) (fun h29 => ?_) (fun h29 => ?_)
      · have hm := ift hm h29
        obtain rfl := Option.some.inj hm
        exact g_sub [0, 1, 2, 3] rfl (g_pc rfl (hx20 l2 r26.2 (K20.2 _ rfl)))
      · have hm := ife hm h29
        refine g_aload_n C 0 dX9_pairsWithAtMost_32 rfl rfl ?_
        refine g_getr (k := 0) (k' := 0) C (by decide) kf_X9_33 rfl rfl dX9_pairsWithAtMost_33 ?_
        refine g_iload_n C 3 dX9_pairsWithAtMost_36 rfl rfl ?_
        refine g_iload C 4 dX9_pairsWithAtMost_37 rfl ?_
        obtain ⟨r39, hr39, hm⟩ := bnd_some hm
        refine g_callVi (As := [vI l3, vI l4]) (rest := []) C lk_X9_240 (k_X5_classesBetween X.2.1 G hl hG fu l3 l4 r26.2 r39 ((hG _ hk0).2 3 5 0 0 rfl) hr39) (by decide) rfl rfl rfl (Nat.le_of_ble_eq_true rfl) ⟨Nat.le_of_ble_eq_true rfl, Nat.le_of_ble_eq_true rfl⟩ dX9_pairsWithAtMost_39 ?_
        refine g_istore (ls' := [(5, vI r39.1), (0, vR 9 0), (1, vI l1), (2, vI l2), (3, vI l3), (4, vI l4)]) C dX9_pairsWithAtMost_42 (by decide) rfl ?_
        refine g_iload C 0 dX9_pairsWithAtMost_44 rfl ?_
        refine g_if_le (tgt := 58) C dX9_pairsWithAtMost_46 (by decide) (fun h46 => ?_) (fun h46 => ?_)
        · have hm := ift hm h46
          exact g_sub [1, 2, 3, 4, 5] rfl (g_pc rfl (J58 l2 l4 r39.2 hm))
        · have hm := ife hm h46
          refine g_iload C 0 dX9_pairsWithAtMost_49 rfl ?_
          refine g_iload_n C 2 dX9_pairsWithAtMost_51 rfl rfl ?_
          refine g_icmp_gt (tgt := 58) C dX9_pairsWithAtMost_52 (by decide) (fun h52 => ?_) (fun h52 => ?_)
          · have hm := ift hm h52
            exact g_sub [1, 2, 3, 4, 5] rfl (g_pc rfl (J58 l2 l4 r39.2 hm))
          · have hm := ife hm h52
            refine g_iinc (ls' := [(2, vI (l2 + (1 : Int32))), (5, vI r39.1), (0, vR 9 0), (1, vI l1), (3, vI l3), (4, vI l4)]) (v := l2 + (1 : Int32)) C 3 dX9_pairsWithAtMost_55 rfl (iv_p1 _) (by decide) rfl ?_
            exact g_sub [2, 3, 0, 4, 5] rfl (g_pc rfl (J58 (l2 + (1 : Int32)) l4 r39.2 hm))
    unfold f_X9_pairsWithAtMost_b4 at hm
    refine g_iload_n C 3 dX9_pairsWithAtMost_4 rfl rfl ?_
    refine g_aload_n C 0 dX9_pairsWithAtMost_5 rfl rfl ?_
    refine g_getr (k := 0) (k' := 0) C (by decide) kf_X9_12 rfl rfl dX9_pairsWithAtMost_6 ?_
    obtain ⟨r9, hr9, hm⟩ := bnd_some hm
    refine g_callVi (As := []) (rest := [vI l3]) C lk_X9_77 (k_X2_objectTotal X.2.1 G hl hG fu 0 M r9 ((hG _ hk0).2 0 2 0 0 rfl) hr9) (by decide) rfl rfl rfl (Nat.le_of_ble_eq_true rfl) ⟨Nat.le_of_ble_eq_true rfl, Nat.le_of_ble_eq_true rfl⟩ dX9_pairsWithAtMost_9 ?_
    refine g_icmp_ge (tgt := 70) C dX9_pairsWithAtMost_12 (by decide) (fun h12 => ?_) (fun h12 => ?_)
    · have hm := ift hm h12
      obtain rfl := Option.some.inj hm
      exact g_sub [2] rfl (g_pc rfl (hx4 l2 r9.2 (K4.2 _ rfl)))
    · have hm := ife hm h12
      refine g_iload_n C 3 dX9_pairsWithAtMost_15 rfl rfl ?_
      refine g_iconst (v := 1) C dX9_pairsWithAtMost_16 rfl ?_
      refine g_iadd C dX9_pairsWithAtMost_17 ?_
      refine g_istore (ls' := [(4, vI (l3 + (1 : Int32))), (0, vR 9 0), (1, vI l1), (2, vI l2), (3, vI l3)]) C dX9_pairsWithAtMost_18 (by decide) rfl ?_
      exact g_sub [1, 2, 3, 4, 0] rfl (g_pc rfl (J20 l2 l3 (l3 + (1 : Int32)) r9.2 hm))
  unfold f_X9_pairsWithAtMost at hm
  refine g_iconst (v := 0) C dX9_pairsWithAtMost_0 rfl ?_
  refine g_istore_n (ls' := [(2, vI (0 : Int32)), (0, vR 9 0), (1, vI l1)]) C dX9_pairsWithAtMost_1 rfl (by decide) rfl ?_
  refine g_iconst (v := 0) C dX9_pairsWithAtMost_2 rfl ?_
  refine g_istore_n (ls' := [(3, vI (0 : Int32)), (2, vI (0 : Int32)), (0, vR 9 0), (1, vI l1)]) C dX9_pairsWithAtMost_3 rfl (by decide) rfl ?_
  exact g_sub [2, 3, 1, 0] rfl (g_pc rfl (J4 l1 (0 : Int32) (0 : Int32) M hm))
def f_X9_holdingCells_j30 (fu : Nat)   (l1 : Int32) (l2 : Int32) (M : Mem) : Option ((Int32 × Int32 × Mem) ⊕ (Int32 × Mem)) :=
  some (Sum.inl (l1, l2 + (1 : Int32), M))
def f_X9_holdingCells_b4 (fu : Nat)   (l1 : Int32) (l2 : Int32) (M : Mem) : Option ((Int32 × Int32 × Mem) ⊕ (Int32 × Mem)) :=
  (f_X0_total fu 0 M).bind (fun r9 => if r9.1 ≤ l2 then some (Sum.inr (l1, r9.2)) else (f_X9_holds fu 0 l2 r9.2).bind (fun r21 => if r21.1 = 0 then f_X9_holdingCells_j30 fu l1 l2 r21.2 else f_X9_holdingCells_j30 fu (l1 + (1 : Int32)) l2 r21.2))
def f_X9_holdingCells_h4 (fu : Nat)   (l1 : Int32) (l2 : Int32) (M : Mem) : Option (Int32 × Mem) :=
  (lp_run (fun s => f_X9_holdingCells_b4 fu   s.1 s.2.1 s.2.2) fu (l1, l2, M)).bind (fun r4 => match r4 with
    | (l1, M) => some (l1, M))
def f_X9_holdingCells (fu : Nat) (M : Mem) : Option (Int32 × Mem) :=
  f_X9_holdingCells_h4 fu (0 : Int32) (0 : Int32) M
set_option maxHeartbeats 4000000 in
set_option maxRecDepth 100000 in
theorem k_X9_holdingCells (l : Launch) (G : GE) (hl : l.stackTraces = false) (hG : GOK G) (fu : Nat)  (M : Mem) (res : Int32 × Mem) (hk0 : (9, 0) ∈ gids G) (hm : f_X9_holdingCells fu  M = some res) : CT l G yX9_holdingCells cX9_holdingCells 3 (some .int) 4 [vR 9 0] M (.inl (some (vI res.1))) res.2 := by
  refine ct_of [(0, vR 9 0)] (by decide +kernel) hl hG (Nat.le_of_ble_eq_true rfl) rfl (List.forall_mem_cons.mpr ⟨Or.inl hk0, fun _ h => nomatch h⟩) (List.forall_mem_cons.mpr ⟨Or.inl hk0, fun _ h => nomatch h⟩) (fun X hX C => ?_)
  subst hX
  have Cl := C
  have J4 : ∀ (l1 : Int32) (l2 : Int32) (M : Mem), f_X9_holdingCells_h4 fu   l1 l2 M = some res → GW G X 3 (QX G X (.inl (some (vI res.1))) res.2) 4 [(0, vR 9 0), (1, vI l1), (2, vI l2)] [] M := by
    intro l1 l2 M hm
    unfold f_X9_holdingCells_h4 at hm
    obtain ⟨r4, hL4, hk4⟩ := bnd_some hm
    have hx4 : ∀ (l1 : Int32) (M : Mem), (l1, M) = r4 → GW G X 3 (QX G X (.inl (some (vI res.1))) res.2) 36 [(1, vI l1)] [] M := by
      intro l1 M he
      subst he
      have hm := hk4
      try dsimp only at hm
      refine g_iload_n C 0 dX9_holdingCells_36 rfl rfl ?_
      obtain rfl := Option.some.inj hm
      exact g_iret C dX9_holdingCells_37
    refine lp_ind2 (P := (fun l1 l2 M => GW G X 3 (QX G X (.inl (some (vI res.1))) res.2) 4 [(0, vR 9 0), (1, vI l1), (2, vI l2)] [] M)) (r := r4) ?_ fu l1 l2 M hL4
    intro l1 l2 M o4 hm K4
    have J30 : ∀ (l1 : Int32) (l2 : Int32) (M : Mem), f_X9_holdingCells_j30 fu   l1 l2 M = some o4 → GW G X 3 (QX G X (.inl (some (vI res.1))) res.2) 30 [(0, vR 9 0), (1, vI l1), (2, vI l2)] [] M := by
      intro l1 l2 M hm
      unfold f_X9_holdingCells_j30 at hm
      refine g_iinc (ls' := [(2, vI (l2 + (1 : Int32))), (0, vR 9 0), (1, vI l1)]) (v := l2 + (1 : Int32)) C 2 dX9_holdingCells_30 rfl (iv_p1 _) (by decide) rfl ?_
      refine g_goto (tgt := 4) C dX9_holdingCells_33 (by decide) ?_
      obtain rfl := Option.some.inj hm
      exact g_sub [1, 2, 0] rfl (g_pc rfl (K4.1 l1 (l2 + (1 : Int32)) M rfl))
    unfold f_X9_holdingCells_b4 at hm
    refine g_iload_n C 2 dX9_holdingCells_4 rfl rfl ?_
    refine g_aload_n C 0 dX9_holdingCells_5 rfl rfl ?_
    refine g_getr (k := 0) (k' := 0) C (by decide) kf_X9_19 rfl rfl dX9_holdingCells_6 ?_
    obtain ⟨r9, hr9, hm⟩ := bnd_some hm
    refine g_callVi (As := []) (rest := [vI l2]) C lk_X9_123 (k_X0_total X.2.1 G hl hG fu 0 M r9 ((hG _ hk0).2 1 0 0 0 rfl) hr9) (by decide) rfl rfl rfl (Nat.le_of_ble_eq_true rfl) ⟨Nat.le_of_ble_eq_true rfl, Nat.le_of_ble_eq_true rfl⟩ dX9_holdingCells_9 ?_
    refine g_icmp_ge (tgt := 36) C dX9_holdingCells_12 (by decide) (fun h12 => ?_) (fun h12 => ?_)
    · have hm := ift hm h12
      obtain rfl := Option.some.inj hm
      exact g_sub [1] rfl (g_pc rfl (hx4 l1 r9.2 (K4.2 _ rfl)))
    · have hm := ife hm h12
      refine g_aload_n C 0 dX9_holdingCells_15 rfl rfl ?_
      refine g_aload_n C 0 dX9_holdingCells_16 rfl rfl ?_
      refine g_getr (k := 0) (k' := 0) C (by decide) kf_X9_40 rfl rfl dX9_holdingCells_17 ?_
      refine g_iload_n C 2 dX9_holdingCells_20 rfl rfl ?_
      obtain ⟨r21, hr21, hm⟩ := bnd_some hm
      refine g_callVi (As := [vR 1 0, vI l2]) (rest := []) C lk_X9_270 (k_X9_holds X.2.1 G hl hG fu 0 l2 r9.2 r21 hk0 ((hG _ hk0).2 4 1 0 0 rfl) hr21) (by decide) rfl rfl rfl (Nat.le_of_ble_eq_true rfl) ⟨Nat.le_of_ble_eq_true rfl, Nat.le_of_ble_eq_true rfl⟩ dX9_holdingCells_21 ?_
      refine g_if_eq (tgt := 30) C dX9_holdingCells_24 (by decide) (fun h24 => ?_) (fun h24 => ?_)
      · have hm := ift hm h24
        exact g_sub [0, 1, 2] rfl (g_pc rfl (J30 l1 l2 r21.2 hm))
      · have hm := ife hm h24
        refine g_iinc (ls' := [(1, vI (l1 + (1 : Int32))), (0, vR 9 0), (2, vI l2)]) (v := l1 + (1 : Int32)) C 1 dX9_holdingCells_27 rfl (iv_p1 _) (by decide) rfl ?_
        exact g_sub [1, 0, 2] rfl (g_pc rfl (J30 (l1 + (1 : Int32)) l2 r21.2 hm))
  unfold f_X9_holdingCells at hm
  refine g_iconst (v := 0) C dX9_holdingCells_0 rfl ?_
  refine g_istore_n (ls' := [(1, vI (0 : Int32)), (0, vR 9 0)]) C dX9_holdingCells_1 rfl (by decide) rfl ?_
  refine g_iconst (v := 0) C dX9_holdingCells_2 rfl ?_
  refine g_istore_n (ls' := [(2, vI (0 : Int32)), (1, vI (0 : Int32)), (0, vR 9 0)]) C dX9_holdingCells_3 rfl (by decide) rfl ?_
  exact g_sub [2, 1, 0] rfl (g_pc rfl (J4 (0 : Int32) (0 : Int32) M hm))
def f_X9_count (fu : Nat) (l1 : Int32) (M : Mem) : Option ((Int32 ⊕ Nat) × Mem) :=
  if l1 = (0 : Int32) then (f_X2_objectTotal fu 0 M).bind (fun r52 => some (Sum.inl r52.1, r52.2)) else if l1 = (1 : Int32) then (f_X2_arrowTotal fu 0 M).bind (fun r60 => some (Sum.inl r60.1, r60.2)) else if l1 = (2 : Int32) then (f_X0_total fu 0 M).bind (fun r68 => some (Sum.inl r68.1, r68.2)) else if l1 = (3 : Int32) then (f_X6_total fu  M).bind (fun r76 => some (Sum.inl r76.1, r76.2)) else if l1 = (4 : Int32) then (f_X5_refresh fu 0 M).bind (fun r92 => (f_X5_classTotal fu  r92).bind (fun r99 => some (Sum.inl r99.1, r99.2))) else if l1 = (5 : Int32) then (f_X5_refresh fu 0 M).bind (fun r115 => (f_X9_pairsWithAtMost fu (1 : Int32) r115).bind (fun r120 => some (Sum.inl r120.1, r120.2))) else if l1 = (6 : Int32) then (f_X9_holdingCells fu  M).bind (fun r125 => some (Sum.inl r125.1, r125.2)) else if l1 = (7 : Int32) then (f_X5_refresh fu 0 M).bind (fun r141 => (f_X5_refreshCore fu 0 r141).bind (fun r152 => (f_X5_coreSize fu  r152).bind (fun r159 => some (Sum.inl r159.1, r159.2)))) else some (Sum.inr 1, M)
set_option maxHeartbeats 4000000 in
set_option maxRecDepth 100000 in
theorem k_X9_count (l : Launch) (G : GE) (hl : l.stackTraces = false) (hG : GOK G) (fu : Nat) (l1 : Int32) (M : Mem) (res : (Int32 ⊕ Nat) × Mem) (hk0 : (9, 0) ∈ gids G) (hm : f_X9_count fu l1 M = some res) : CT l G yX9_count cX9_count 2 (some .int) 6 [vR 9 0, vI l1] M (oI res.1) res.2 := by
  refine ct_of [(0, vR 9 0), (1, vI l1)] (by decide +kernel) hl hG (Nat.le_of_ble_eq_true rfl) rfl (List.forall_mem_cons.mpr ⟨Or.inl hk0, List.forall_mem_cons.mpr ⟨trivial, fun _ h => nomatch h⟩⟩) (List.forall_mem_cons.mpr ⟨Or.inl hk0, List.forall_mem_cons.mpr ⟨trivial, fun _ h => nomatch h⟩⟩) (fun X hX C => ?_)
  subst hX
  have Cl := C
  unfold f_X9_count at hm
  refine g_iload_n C 1 dX9_count_0 rfl rfl ?_
  by_cases h1_0 : l1 = (0 : Int32)
  · have hm := ift hm h1_0
    refine g_tabIn (off := 47) (tgt := 48) C dX9_count_1 (by rw [h1_0]; decide) (by rw [h1_0]; decide) (by rw [h1_0]; rfl) (by decide) ?_
    refine g_aload_n C 0 dX9_count_48 rfl rfl ?_
    refine g_getr (k := 0) (k' := 0) C (by decide) kf_X9_12 rfl rfl dX9_count_49 ?_
    obtain ⟨r52, hr52, hm⟩ := bnd_some hm
    refine g_callVi (As := []) (rest := []) C lk_X9_77 (k_X2_objectTotal X.2.1 G hl hG fu 0 M r52 ((hG _ hk0).2 0 2 0 0 rfl) hr52) (by decide) rfl rfl rfl (Nat.le_of_ble_eq_true rfl) ⟨Nat.le_of_ble_eq_true rfl, Nat.le_of_ble_eq_true rfl⟩ dX9_count_52 ?_
    obtain rfl := Option.some.inj hm
    exact g_iret C dX9_count_55
  have hm := ife hm h1_0
  by_cases h1_1 : l1 = (1 : Int32)
  · have hm := ift hm h1_1
    refine g_tabIn (off := 55) (tgt := 56) C dX9_count_1 (by rw [h1_1]; decide) (by rw [h1_1]; decide) (by rw [h1_1]; rfl) (by decide) ?_
    refine g_aload_n C 0 dX9_count_56 rfl rfl ?_
    refine g_getr (k := 0) (k' := 0) C (by decide) kf_X9_12 rfl rfl dX9_count_57 ?_
    obtain ⟨r60, hr60, hm⟩ := bnd_some hm
    refine g_callVi (As := []) (rest := []) C lk_X9_87 (k_X2_arrowTotal X.2.1 G hl hG fu 0 M r60 ((hG _ hk0).2 0 2 0 0 rfl) hr60) (by decide) rfl rfl rfl (Nat.le_of_ble_eq_true rfl) ⟨Nat.le_of_ble_eq_true rfl, Nat.le_of_ble_eq_true rfl⟩ dX9_count_60 ?_
    obtain rfl := Option.some.inj hm
    exact g_iret C dX9_count_63
  have hm := ife hm h1_1
  by_cases h1_2 : l1 = (2 : Int32)
  · have hm := ift hm h1_2
    refine g_tabIn (off := 63) (tgt := 64) C dX9_count_1 (by rw [h1_2]; decide) (by rw [h1_2]; decide) (by rw [h1_2]; rfl) (by decide) ?_
    refine g_aload_n C 0 dX9_count_64 rfl rfl ?_
    refine g_getr (k := 0) (k' := 0) C (by decide) kf_X9_19 rfl rfl dX9_count_65 ?_
    obtain ⟨r68, hr68, hm⟩ := bnd_some hm
    refine g_callVi (As := []) (rest := []) C lk_X9_123 (k_X0_total X.2.1 G hl hG fu 0 M r68 ((hG _ hk0).2 1 0 0 0 rfl) hr68) (by decide) rfl rfl rfl (Nat.le_of_ble_eq_true rfl) ⟨Nat.le_of_ble_eq_true rfl, Nat.le_of_ble_eq_true rfl⟩ dX9_count_68 ?_
    obtain rfl := Option.some.inj hm
    exact g_iret C dX9_count_71
  have hm := ife hm h1_2
  by_cases h1_3 : l1 = (3 : Int32)
  · have hm := ift hm h1_3
    refine g_tabIn (off := 71) (tgt := 72) C dX9_count_1 (by rw [h1_3]; decide) (by rw [h1_3]; decide) (by rw [h1_3]; rfl) (by decide) ?_
    refine g_aload_n C 0 dX9_count_72 rfl rfl ?_
    refine g_getr (k := 0) (k' := 0) C (by decide) kf_X9_26 rfl rfl dX9_count_73 ?_
    obtain ⟨r76, hr76, hm⟩ := bnd_some hm
    refine g_callVi (As := []) (rest := []) C lk_X9_276 (k_X6_total X.2.1 G hl hG fu  M r76 ((hG _ hk0).2 2 6 0 0 rfl) hr76) (by decide) rfl rfl rfl (Nat.le_of_ble_eq_true rfl) ⟨Nat.le_of_ble_eq_true rfl, Nat.le_of_ble_eq_true rfl⟩ dX9_count_76 ?_
    obtain rfl := Option.some.inj hm
    exact g_iret C dX9_count_79
  have hm := ife hm h1_3
  by_cases h1_4 : l1 = (4 : Int32)
  · have hm := ift hm h1_4
    refine g_tabIn (off := 79) (tgt := 80) C dX9_count_1 (by rw [h1_4]; decide) (by rw [h1_4]; decide) (by rw [h1_4]; rfl) (by decide) ?_
    refine g_aload_n C 0 dX9_count_80 rfl rfl ?_
    refine g_getr (k := 0) (k' := 0) C (by decide) kf_X9_33 rfl rfl dX9_count_81 ?_
    refine g_aload_n C 0 dX9_count_84 rfl rfl ?_
    refine g_getr (k := 0) (k' := 0) C (by decide) kf_X9_26 rfl rfl dX9_count_85 ?_
    refine g_aload_n C 0 dX9_count_88 rfl rfl ?_
    refine g_getr (k := 0) (k' := 0) C (by decide) kf_X9_19 rfl rfl dX9_count_89 ?_
    obtain ⟨r92, hr92, hm⟩ := bnd_some hm
    refine g_callVv (As := [vR 6 0, vR 0 0]) (rest := []) C lk_X9_210 (k_X5_refresh X.2.1 G hl hG fu 0 M r92 ((hG _ hk0).2 3 5 0 0 rfl) ((hG _ hk0).2 2 6 0 0 rfl) ((hG _ hk0).2 1 0 0 0 rfl) hr92) (by decide) rfl rfl rfl (Nat.le_of_ble_eq_true rfl) ⟨Nat.le_of_ble_eq_true rfl, Nat.le_of_ble_eq_true rfl⟩ dX9_count_92 ?_
    refine g_aload_n C 0 dX9_count_95 rfl rfl ?_
    refine g_getr (k := 0) (k' := 0) C (by decide) kf_X9_33 rfl rfl dX9_count_96 ?_
    obtain ⟨r99, hr99, hm⟩ := bnd_some hm
    refine g_callVi (As := []) (rest := []) C lk_X9_277 (k_X5_classTotal X.2.1 G hl hG fu  r92 r99 ((hG _ hk0).2 3 5 0 0 rfl) hr99) (by decide) rfl rfl rfl (Nat.le_of_ble_eq_true rfl) ⟨Nat.le_of_ble_eq_true rfl, Nat.le_of_ble_eq_true rfl⟩ dX9_count_99 ?_
    obtain rfl := Option.some.inj hm
    exact g_iret C dX9_count_102
  have hm := ife hm h1_4
  by_cases h1_5 : l1 = (5 : Int32)
  · have hm := ift hm h1_5
    refine g_tabIn (off := 102) (tgt := 103) C dX9_count_1 (by rw [h1_5]; decide) (by rw [h1_5]; decide) (by rw [h1_5]; rfl) (by decide) ?_
    refine g_aload_n C 0 dX9_count_103 rfl rfl ?_
    refine g_getr (k := 0) (k' := 0) C (by decide) kf_X9_33 rfl rfl dX9_count_104 ?_
    refine g_aload_n C 0 dX9_count_107 rfl rfl ?_
    refine g_getr (k := 0) (k' := 0) C (by decide) kf_X9_26 rfl rfl dX9_count_108 ?_
    refine g_aload_n C 0 dX9_count_111 rfl rfl ?_
    refine g_getr (k := 0) (k' := 0) C (by decide) kf_X9_19 rfl rfl dX9_count_112 ?_
    obtain ⟨r115, hr115, hm⟩ := bnd_some hm
    refine g_callVv (As := [vR 6 0, vR 0 0]) (rest := []) C lk_X9_210 (k_X5_refresh X.2.1 G hl hG fu 0 M r115 ((hG _ hk0).2 3 5 0 0 rfl) ((hG _ hk0).2 2 6 0 0 rfl) ((hG _ hk0).2 1 0 0 0 rfl) hr115) (by decide) rfl rfl rfl (Nat.le_of_ble_eq_true rfl) ⟨Nat.le_of_ble_eq_true rfl, Nat.le_of_ble_eq_true rfl⟩ dX9_count_115 ?_
    refine g_aload_n C 0 dX9_count_118 rfl rfl ?_
    refine g_iconst (v := 1) C dX9_count_119 rfl ?_
    obtain ⟨r120, hr120, hm⟩ := bnd_some hm
    refine g_callVi (As := [vI (1 : Int32)]) (rest := []) C lk_X9_280 (k_X9_pairsWithAtMost X.2.1 G hl hG fu (1 : Int32) r115 r120 hk0 hr120) (by decide) rfl rfl rfl (Nat.le_of_ble_eq_true rfl) ⟨Nat.le_of_ble_eq_true rfl, Nat.le_of_ble_eq_true rfl⟩ dX9_count_120 ?_
    obtain rfl := Option.some.inj hm
    exact g_iret C dX9_count_123
  have hm := ife hm h1_5
  by_cases h1_6 : l1 = (6 : Int32)
  · have hm := ift hm h1_6
    refine g_tabIn (off := 123) (tgt := 124) C dX9_count_1 (by rw [h1_6]; decide) (by rw [h1_6]; decide) (by rw [h1_6]; rfl) (by decide) ?_
    refine g_aload_n C 0 dX9_count_124 rfl rfl ?_
    obtain ⟨r125, hr125, hm⟩ := bnd_some hm
    refine g_callVi (As := []) (rest := []) C lk_X9_283 (k_X9_holdingCells X.2.1 G hl hG fu  M r125 hk0 hr125) (by decide) rfl rfl rfl (Nat.le_of_ble_eq_true rfl) ⟨Nat.le_of_ble_eq_true rfl, Nat.le_of_ble_eq_true rfl⟩ dX9_count_125 ?_
    obtain rfl := Option.some.inj hm
    exact g_iret C dX9_count_128
  have hm := ife hm h1_6
  by_cases h1_7 : l1 = (7 : Int32)
  · have hm := ift hm h1_7
    refine g_tabIn (off := 128) (tgt := 129) C dX9_count_1 (by rw [h1_7]; decide) (by rw [h1_7]; decide) (by rw [h1_7]; rfl) (by decide) ?_
    refine g_aload_n C 0 dX9_count_129 rfl rfl ?_
    refine g_getr (k := 0) (k' := 0) C (by decide) kf_X9_33 rfl rfl dX9_count_130 ?_
    refine g_aload_n C 0 dX9_count_133 rfl rfl ?_
    refine g_getr (k := 0) (k' := 0) C (by decide) kf_X9_26 rfl rfl dX9_count_134 ?_
    refine g_aload_n C 0 dX9_count_137 rfl rfl ?_
    refine g_getr (k := 0) (k' := 0) C (by decide) kf_X9_19 rfl rfl dX9_count_138 ?_
    obtain ⟨r141, hr141, hm⟩ := bnd_some hm
    refine g_callVv (As := [vR 6 0, vR 0 0]) (rest := []) C lk_X9_210 (k_X5_refresh X.2.1 G hl hG fu 0 M r141 ((hG _ hk0).2 3 5 0 0 rfl) ((hG _ hk0).2 2 6 0 0 rfl) ((hG _ hk0).2 1 0 0 0 rfl) hr141) (by decide) rfl rfl rfl (Nat.le_of_ble_eq_true rfl) ⟨Nat.le_of_ble_eq_true rfl, Nat.le_of_ble_eq_true rfl⟩ dX9_count_141 ?_
    refine g_aload_n C 0 dX9_count_144 rfl rfl ?_
    refine g_getr (k := 0) (k' := 0) C (by decide) kf_X9_33 rfl rfl dX9_count_145 ?_
    refine g_aload_n C 0 dX9_count_148 rfl rfl ?_
    refine g_getr (k := 0) (k' := 0) C (by decide) kf_X9_19 rfl rfl dX9_count_149 ?_
    obtain ⟨r152, hr152, hm⟩ := bnd_some hm
    refine g_callVv (As := [vR 0 0]) (rest := []) C lk_X9_263 (k_X5_refreshCore X.2.1 G hl hG fu 0 r141 r152 ((hG _ hk0).2 3 5 0 0 rfl) ((hG _ hk0).2 1 0 0 0 rfl) hr152) (by decide) rfl rfl rfl (Nat.le_of_ble_eq_true rfl) ⟨Nat.le_of_ble_eq_true rfl, Nat.le_of_ble_eq_true rfl⟩ dX9_count_152 ?_
    refine g_aload_n C 0 dX9_count_155 rfl rfl ?_
    refine g_getr (k := 0) (k' := 0) C (by decide) kf_X9_33 rfl rfl dX9_count_156 ?_
    obtain ⟨r159, hr159, hm⟩ := bnd_some hm
    refine g_callVi (As := []) (rest := []) C lk_X9_286 (k_X5_coreSize X.2.1 G hl hG fu  r152 r159 ((hG _ hk0).2 3 5 0 0 rfl) hr159) (by decide) rfl rfl rfl (Nat.le_of_ble_eq_true rfl) ⟨Nat.le_of_ble_eq_true rfl, Nat.le_of_ble_eq_true rfl⟩ dX9_count_159 ?_
    obtain rfl := Option.some.inj hm
    exact g_iret C dX9_count_162
  have hm := ife hm h1_7
  refine g_tabOut (tgt := 163) C dX9_count_1 (tab_out 8 (by decide) (by intro j hj; rcases Nat.lt_succ_iff_lt_or_eq.mp hj with hj | rfl; rotate_left; exact h1_7; rcases Nat.lt_succ_iff_lt_or_eq.mp hj with hj | rfl; rotate_left; exact h1_6; rcases Nat.lt_succ_iff_lt_or_eq.mp hj with hj | rfl; rotate_left; exact h1_5; rcases Nat.lt_succ_iff_lt_or_eq.mp hj with hj | rfl; rotate_left; exact h1_4; rcases Nat.lt_succ_iff_lt_or_eq.mp hj with hj | rfl; rotate_left; exact h1_3; rcases Nat.lt_succ_iff_lt_or_eq.mp hj with hj | rfl; rotate_left; exact h1_2; rcases Nat.lt_succ_iff_lt_or_eq.mp hj with hj | rfl; rotate_left; exact h1_1; rcases Nat.lt_succ_iff_lt_or_eq.mp hj with hj | rfl; rotate_left; exact h1_0; exact absurd hj (Nat.not_lt_zero _))) (by decide) ?_
  obtain rfl := Option.some.inj hm
  exact g_throwW (o := .inl none) (E := "java/lang/IllegalArgumentException") (d := 6) C tk_X9_70_74 (by decide +kernel : ("ArrowDiagrams", 289, "what is not 0 to 7") ∈ strs) (by decide) rfl dX9_count_163 dX9_count_166 dX9_count_167 dX9_count_170 dX9_count_173
def f_X9_commuting (fu : Nat) (M : Mem) : Option (UInt64 × Mem) :=
  (f_X5_refresh fu 0 M).bind (fun r12 => (f_X9_pairsWithAtMost fu (300 : Int32) r12).bind (fun r19 => if r19.1 ≤ 0 then some (FP.dconst1, r19.2) else (f_X9_pairsWithAtMost fu (1 : Int32) r19.2).bind (fun r29 => if fn64 (FP.ddiv (FP.i2d r29.1) (FP.i2d r19.1)) then some (FP.ddiv (FP.i2d r29.1) (FP.i2d r19.1), r29.2) else none)))
set_option maxHeartbeats 4000000 in
set_option maxRecDepth 100000 in
theorem k_X9_commuting (l : Launch) (G : GE) (hl : l.stackTraces = false) (hG : GOK G) (fu : Nat)  (M : Mem) (res : UInt64 × Mem) (hk0 : (9, 0) ∈ gids G) (hm : f_X9_commuting fu  M = some res) : CT l G yX9_commuting cX9_commuting 2 (some .double) 5 [vR 9 0] M (.inl (some (vD res.1))) res.2 := by
  refine ct_of [(0, vR 9 0)] (by decide +kernel) hl hG (Nat.le_of_ble_eq_true rfl) rfl (List.forall_mem_cons.mpr ⟨Or.inl hk0, fun _ h => nomatch h⟩) (List.forall_mem_cons.mpr ⟨Or.inl hk0, fun _ h => nomatch h⟩) (fun X hX C => ?_)
  subst hX
  have Cl := C
  unfold f_X9_commuting at hm
  refine g_aload_n C 0 dX9_commuting_0 rfl rfl ?_
  refine g_getr (k := 0) (k' := 0) C (by decide) kf_X9_33 rfl rfl dX9_commuting_1 ?_
  refine g_aload_n C 0 dX9_commuting_4 rfl rfl ?_
  refine g_getr (k := 0) (k' := 0) C (by decide) kf_X9_26 rfl rfl dX9_commuting_5 ?_
  refine g_aload_n C 0 dX9_commuting_8 rfl rfl ?_
  refine g_getr (k := 0) (k' := 0) C (by decide) kf_X9_19 rfl rfl dX9_commuting_9 ?_
  obtain ⟨r12, hr12, hm⟩ := bnd_some hm
  refine g_callVv (As := [vR 6 0, vR 0 0]) (rest := []) C lk_X9_210 (k_X5_refresh X.2.1 G hl hG fu 0 M r12 ((hG _ hk0).2 3 5 0 0 rfl) ((hG _ hk0).2 2 6 0 0 rfl) ((hG _ hk0).2 1 0 0 0 rfl) hr12) (by decide) rfl rfl rfl (Nat.le_of_ble_eq_true rfl) ⟨Nat.le_of_ble_eq_true rfl, Nat.le_of_ble_eq_true rfl⟩ dX9_commuting_12 ?_
  refine g_aload_n C 0 dX9_commuting_15 rfl rfl ?_
  refine g_sipush (v := 300) C dX9_commuting_16 rfl ?_
  obtain ⟨r19, hr19, hm⟩ := bnd_some hm
  refine g_callVi (As := [vI (300 : Int32)]) (rest := []) C lk_X9_280 (k_X9_pairsWithAtMost X.2.1 G hl hG fu (300 : Int32) r12 r19 hk0 hr19) (by decide) rfl rfl rfl (Nat.le_of_ble_eq_true rfl) ⟨Nat.le_of_ble_eq_true rfl, Nat.le_of_ble_eq_true rfl⟩ dX9_commuting_19 ?_
  refine g_istore_n (ls' := [(1, vI r19.1), (0, vR 9 0)]) C dX9_commuting_22 rfl (by decide) rfl ?_
  refine g_iload_n C 0 dX9_commuting_23 rfl rfl ?_
  refine g_if_le (tgt := 39) C dX9_commuting_24 (by decide) (fun h24 => ?_) (fun h24 => ?_)
  · have hm := ift hm h24
    refine g_dconst1 C dX9_commuting_39 ?_
    obtain rfl := Option.some.inj hm
    exact g_dret C dX9_commuting_40
  · have hm := ife hm h24
    refine g_aload_n C 1 dX9_commuting_27 rfl rfl ?_
    refine g_iconst (v := 1) C dX9_commuting_28 rfl ?_
    obtain ⟨r29, hr29, hm⟩ := bnd_some hm
    refine g_callVi (As := [vI (1 : Int32)]) (rest := []) C lk_X9_280 (k_X9_pairsWithAtMost X.2.1 G hl hG fu (1 : Int32) r19.2 r29 hk0 hr29) (by decide) rfl rfl rfl (Nat.le_of_ble_eq_true rfl) ⟨Nat.le_of_ble_eq_true rfl, Nat.le_of_ble_eq_true rfl⟩ dX9_commuting_29 ?_
    refine g_i2d C dX9_commuting_32 ?_
    refine g_iload_n C 0 dX9_commuting_33 rfl rfl ?_
    refine g_i2d C dX9_commuting_34 ?_
    obtain ⟨hz35, hm⟩ := ifn hm
    refine g_ddiv C dX9_commuting_35 hz35 ?_
    refine g_goto (tgt := 40) C dX9_commuting_36 (by decide) ?_
    obtain rfl := Option.some.inj hm
    exact g_dret C dX9_commuting_40
def f_X9_setSize_j95 (fu : Nat)  (l1 : Int32) (l3 : Int32) (l4 : Int32) (M : Mem) : Option ((Int32 × Mem) ⊕ (Mem)) :=
  some (Sum.inl (l4 + (1 : Int32), M))
def f_X9_setSize_j85 (fu : Nat)  (l1 : Int32) (l3 : Int32) (l4 : Int32) (M : Mem) : Option ((Int32 × Mem) ⊕ (Mem)) :=
  (f_X1_setCode fu 0 l4 (0 : Int32) M).bind (fun r92 => f_X9_setSize_j95 fu l1 l3 l4 r92)
def f_X9_setSize_b47 (fu : Nat)  (l1 : Int32) (l3 : Int32) (l4 : Int32) (M : Mem) : Option ((Int32 × Mem) ⊕ (Mem)) :=
  (f_X2_arrowTotal fu 0 M).bind (fun r53 => if r53.1 ≤ l4 then some (Sum.inr r53.2) else (f_X2_from fu 0 l4 r53.2).bind (fun r65 => if r65.1 = l1 then f_X9_setSize_j85 fu l1 l3 l4 r65.2 else (f_X2_to fu 0 l4 r65.2).bind (fun r78 => if r78.1 = l1 then f_X9_setSize_j85 fu l1 l3 l4 r78.2 else f_X9_setSize_j95 fu l1 l3 l4 r78.2)))
def f_X9_setSize_h47 (fu : Nat)   (l1 : Int32) (l3 : Int32) (l4 : Int32) (M : Mem) : Option ((Int32 ⊕ Nat) × Mem) :=
  (lp_run (fun s => f_X9_setSize_b47 fu  l1 l3 s.1 s.2) fu (l4, M)).bind (fun M => some (Sum.inl l3, M))
def f_X9_setSize (fu : Nat) (l1 : Int32) (l2 : Int32) (M : Mem) : Option ((Int32 ⊕ Nat) × Mem) :=
  (f_X9_requireObject fu l1 M).bind (fun r2 => match r2 with
    | (Sum.inl x2, n2) => if l2 < (1 : Int32) then some (Sum.inr 1, n2) else if l2 ≤ (4 : Int32) then (f_X1_size fu 0 l1 n2).bind (fun r31 => (f_X1_resize fu 0 l1 l2 r31.2).bind (fun r41 => f_X9_setSize_h47 fu l1 r31.1 (0 : Int32) r41)) else some (Sum.inr 1, n2)
    | (Sum.inr z2, n2) => some (Sum.inr z2, n2))
set_option maxHeartbeats 4000000 in
set_option maxRecDepth 100000 in
theorem k_X9_setSize (l : Launch) (G : GE) (hl : l.stackTraces = false) (hG : GOK G) (fu : Nat) (l1 : Int32) (l2 : Int32) (M : Mem) (res : (Int32 ⊕ Nat) × Mem) (hk0 : (9, 0) ∈ gids G) (hm : f_X9_setSize fu l1 l2 M = some res) : CT l G yX9_setSize cX9_setSize 5 (some .int) 7 [vR 9 0, vI l1, vI l2] M (oI res.1) res.2 := by
  refine ct_of [(0, vR 9 0), (1, vI l1), (2, vI l2)] (by decide +kernel) hl hG (Nat.le_of_ble_eq_true rfl) rfl (List.forall_mem_cons.mpr ⟨Or.inl hk0, List.forall_mem_cons.mpr ⟨trivial, List.forall_mem_cons.mpr ⟨trivial, fun _ h => nomatch h⟩⟩⟩) (List.forall_mem_cons.mpr ⟨Or.inl hk0, List.forall_mem_cons.mpr ⟨trivial, List.forall_mem_cons.mpr ⟨trivial, fun _ h => nomatch h⟩⟩⟩) (fun X hX C => ?_)
  subst hX
  have Cl := C
  have J47 : ∀ (l1 : Int32) (l3 : Int32) (l4 : Int32) (M : Mem), f_X9_setSize_h47 fu   l1 l3 l4 M = some res → GW G X 5 (QX G X (oI res.1) res.2) 47 [(0, vR 9 0), (1, vI l1), (3, vI l3), (4, vI l4)] [] M := by
    intro l1 l3 l4 M hm
    unfold f_X9_setSize_h47 at hm
    obtain ⟨r47, hL47, hk47⟩ := bnd_some hm
    have hx47 : ∀ (M : Mem), M = r47 → GW G X 5 (QX G X (oI res.1) res.2) 101 [(3, vI l3)] [] M := by
      intro M he
      subst he
      have hm := hk47
      try dsimp only at hm
      refine g_iload_n C 0 dX9_setSize_101 rfl rfl ?_
      obtain rfl := Option.some.inj hm
      exact g_iret C dX9_setSize_102
    refine lp_ind1 (P := (fun l4 M => GW G X 5 (QX G X (oI res.1) res.2) 47 [(0, vR 9 0), (1, vI l1), (3, vI l3), (4, vI l4)] [] M)) (r := r47) ?_ fu l4 M hL47
    intro l4 M o47 hm K47
    have J95 : ∀ (l4 : Int32) (M : Mem), f_X9_setSize_j95 fu  l1 l3 l4 M = some o47 → GW G X 5 (QX G X (oI res.1) res.2) 95 [(0, vR 9 0), (1, vI l1), (3, vI l3), (4, vI l4)] [] M := by
      intro l4 M hm
      unfold f_X9_setSize_j95 at hm
      refine g_iinc (ls' := [(4, vI (l4 + (1 : Int32))), (0, vR 9 0), (1, vI l1), (3, vI l3)]) (v := l4 + (1 : Int32)) C 3 dX9_setSize_95 rfl (iv_p1 _) (by decide) rfl ?_
      refine g_goto (tgt := 47) C dX9_setSize_98 (by decide) ?_
      obtain rfl := Option.some.inj hm
      exact g_sub [1, 2, 3, 0] rfl (g_pc rfl (K47.1 (l4 + (1 : Int32)) M rfl))
    have J85 : ∀ (l4 : Int32) (M : Mem), f_X9_setSize_j85 fu  l1 l3 l4 M = some o47 → GW G X 5 (QX G X (oI res.1) res.2) 85 [(0, vR 9 0), (1, vI l1), (3, vI l3), (4, vI l4)] [] M := by
      intro l4 M hm
      unfold f_X9_setSize_j85 at hm
      refine g_aload_n C 0 dX9_setSize_85 rfl rfl ?_
      refine g_getr (k := 0) (k' := 0) C (by decide) kf_X9_40 rfl rfl dX9_setSize_86 ?_
      refine g_iload C 3 dX9_setSize_89 rfl ?_
      refine g_iconst (v := 0) C dX9_setSize_91 rfl ?_
      obtain ⟨r92, hr92, hm⟩ := bnd_some hm
      refine g_callVv (As := [vI l4, vI (0 : Int32)]) (rest := []) C lk_X9_107 (k_X1_setCode X.2.1 G hl hG fu 0 l4 (0 : Int32) M r92 ((hG _ hk0).2 4 1 0 0 rfl) hr92) (by decide) rfl rfl rfl (Nat.le_of_ble_eq_true rfl) ⟨Nat.le_of_ble_eq_true rfl, Nat.le_of_ble_eq_true rfl⟩ dX9_setSize_92 ?_
      exact g_sub [0, 1, 2, 3] rfl (g_pc rfl (J95 l4 r92 hm))
    unfold f_X9_setSize_b47 at hm
    refine g_iload C 3 dX9_setSize_47 rfl ?_
    refine g_aload_n C 0 dX9_setSize_49 rfl rfl ?_
    refine g_getr (k := 0) (k' := 0) C (by decide) kf_X9_12 rfl rfl dX9_setSize_50 ?_
    obtain ⟨r53, hr53, hm⟩ := bnd_some hm
    refine g_callVi (As := []) (rest := [vI l4]) C lk_X9_87 (k_X2_arrowTotal X.2.1 G hl hG fu 0 M r53 ((hG _ hk0).2 0 2 0 0 rfl) hr53) (by decide) rfl rfl rfl (Nat.le_of_ble_eq_true rfl) ⟨Nat.le_of_ble_eq_true rfl, Nat.le_of_ble_eq_true rfl⟩ dX9_setSize_53 ?_
    refine g_icmp_ge (tgt := 101) C dX9_setSize_56 (by decide) (fun h56 => ?_) (fun h56 => ?_)
    · have hm := ift hm h56
      obtain rfl := Option.some.inj hm
      exact g_sub [2] rfl (g_pc rfl (hx47 r53.2 (K47.2 _ rfl)))
    · have hm := ife hm h56
      refine g_aload_n C 0 dX9_setSize_59 rfl rfl ?_
      refine g_getr (k := 0) (k' := 0) C (by decide) kf_X9_12 rfl rfl dX9_setSize_60 ?_
      refine g_iload C 3 dX9_setSize_63 rfl ?_
      obtain ⟨r65, hr65, hm⟩ := bnd_some hm
      refine g_callVi (As := [vI l4]) (rest := []) C lk_X9_191 (k_X2_from X.2.1 G hl hG fu 0 l4 r53.2 r65 ((hG _ hk0).2 0 2 0 0 rfl) hr65) (by decide) rfl rfl rfl (Nat.le_of_ble_eq_true rfl) ⟨Nat.le_of_ble_eq_true rfl, Nat.le_of_ble_eq_true rfl⟩ dX9_setSize_65 ?_
      refine g_iload_n C 1 dX9_setSize_68 rfl rfl ?_
      refine g_icmp_eq (tgt := 85) C dX9_setSize_69 (by decide) (fun h69 => ?_) (fun h69 => ?_)
      · have hm := ift hm h69
        exact g_sub [0, 1, 2, 3] rfl (g_pc rfl (J85 l4 r65.2 hm))
      · have hm := ife hm h69
        refine g_aload_n C 0 dX9_setSize_72 rfl rfl ?_
        refine g_getr (k := 0) (k' := 0) C (by decide) kf_X9_12 rfl rfl dX9_setSize_73 ?_
        refine g_iload C 3 dX9_setSize_76 rfl ?_
        obtain ⟨r78, hr78, hm⟩ := bnd_some hm
        refine g_callVi (As := [vI l4]) (rest := []) C lk_X9_296 (k_X2_to X.2.1 G hl hG fu 0 l4 r65.2 r78 ((hG _ hk0).2 0 2 0 0 rfl) hr78) (by decide) rfl rfl rfl (Nat.le_of_ble_eq_true rfl) ⟨Nat.le_of_ble_eq_true rfl, Nat.le_of_ble_eq_true rfl⟩ dX9_setSize_78 ?_
        refine g_iload_n C 1 dX9_setSize_81 rfl rfl ?_
        refine g_icmp_ne (tgt := 95) C dX9_setSize_82 (by decide) (fun h82 => ?_) (fun h82 => ?_)
        · have hm := ife hm h82
          exact g_sub [0, 1, 2, 3] rfl (g_pc rfl (J95 l4 r78.2 hm))
        · have hm := ift hm h82
          exact g_sub [0, 1, 2, 3] rfl (g_pc rfl (J85 l4 r78.2 hm))
  unfold f_X9_setSize at hm
  refine g_aload_n C 0 dX9_setSize_0 rfl rfl ?_
  refine g_iload_n C 1 dX9_setSize_1 rfl rfl ?_
  obtain ⟨⟨x2 | z2, n2⟩, hr2, hm⟩ := bnd_some hm
  · refine g_callVv (As := [vI l1]) (rest := []) C lk_X9_82 (k_X9_requireObject X.2.1 G hl hG fu l1 M (Sum.inl x2, n2) hk0 hr2) (by decide) rfl rfl rfl (Nat.le_of_ble_eq_true rfl) ⟨Nat.le_of_ble_eq_true rfl, Nat.le_of_ble_eq_true rfl⟩ dX9_setSize_2 ?_
    refine g_iload_n C 2 dX9_setSize_5 rfl rfl ?_
    refine g_iconst (v := 1) C dX9_setSize_6 rfl ?_
    refine g_icmp_lt (tgt := 15) C dX9_setSize_7 (by decide) (fun h7 => ?_) (fun h7 => ?_)
    · have hm := ift hm h7
      obtain rfl := Option.some.inj hm
      exact g_throwW (o := .inl none) (E := "java/lang/IllegalArgumentException") (d := 7) C tk_X9_70_74 (by decide +kernel : ("ArrowDiagrams", 291, "size is out of range") ∈ strs) (by decide) rfl dX9_setSize_15 dX9_setSize_18 dX9_setSize_19 dX9_setSize_22 dX9_setSize_25
    · have hm := ife hm h7
      refine g_iload_n C 2 dX9_setSize_10 rfl rfl ?_
      refine g_iconst (v := 4) C dX9_setSize_11 rfl ?_
      refine g_icmp_le (tgt := 26) C dX9_setSize_12 (by decide) (fun h12 => ?_) (fun h12 => ?_)
      · have hm := ift hm h12
        refine g_aload_n C 0 dX9_setSize_26 rfl rfl ?_
        refine g_getr (k := 0) (k' := 0) C (by decide) kf_X9_40 rfl rfl dX9_setSize_27 ?_
        refine g_iload_n C 1 dX9_setSize_30 rfl rfl ?_
        obtain ⟨r31, hr31, hm⟩ := bnd_some hm
        refine g_callVi (As := [vI l1]) (rest := []) C lk_X9_224 (k_X1_size X.2.1 G hl hG fu 0 l1 n2 r31 ((hG _ hk0).2 4 1 0 0 rfl) hr31) (by decide) rfl rfl rfl (Nat.le_of_ble_eq_true rfl) ⟨Nat.le_of_ble_eq_true rfl, Nat.le_of_ble_eq_true rfl⟩ dX9_setSize_31 ?_
        refine g_istore_n (ls' := [(3, vI r31.1), (0, vR 9 0), (1, vI l1), (2, vI l2)]) C dX9_setSize_34 rfl (by decide) rfl ?_
        refine g_aload_n C 1 dX9_setSize_35 rfl rfl ?_
        refine g_getr (k := 0) (k' := 0) C (by decide) kf_X9_40 rfl rfl dX9_setSize_36 ?_
        refine g_iload_n C 2 dX9_setSize_39 rfl rfl ?_
        refine g_iload_n C 3 dX9_setSize_40 rfl rfl ?_
        obtain ⟨r41, hr41, hm⟩ := bnd_some hm
        refine g_callVv (As := [vI l1, vI l2]) (rest := []) C lk_X9_293 (k_X1_resize X.2.1 G hl hG fu 0 l1 l2 r31.2 r41 ((hG _ hk0).2 4 1 0 0 rfl) hr41) (by decide) rfl rfl rfl (Nat.le_of_ble_eq_true rfl) ⟨Nat.le_of_ble_eq_true rfl, Nat.le_of_ble_eq_true rfl⟩ dX9_setSize_41 ?_
        refine g_iconst (v := 0) C dX9_setSize_44 rfl ?_
        refine g_istore (ls' := [(4, vI (0 : Int32)), (3, vI r31.1), (0, vR 9 0), (1, vI l1), (2, vI l2)]) C dX9_setSize_45 (by decide) rfl ?_
        exact g_sub [2, 3, 1, 0] rfl (g_pc rfl (J47 l1 r31.1 (0 : Int32) r41 hm))
      · have hm := ife hm h12
        obtain rfl := Option.some.inj hm
        exact g_throwW (o := .inl none) (E := "java/lang/IllegalArgumentException") (d := 7) C tk_X9_70_74 (by decide +kernel : ("ArrowDiagrams", 291, "size is out of range") ∈ strs) (by decide) rfl dX9_setSize_15 dX9_setSize_18 dX9_setSize_19 dX9_setSize_22 dX9_setSize_25
  · skip
    obtain rfl := Option.some.inj hm
    exact g_callVx (E := exN z2) (As := [vI l1]) (rest := []) C lk_X9_82 (k_X9_requireObject X.2.1 G hl hG fu l1 M (Sum.inr z2, n2) hk0 hr2) (by decide) rfl rfl rfl (Nat.le_of_ble_eq_true rfl) ⟨Nat.le_of_ble_eq_true rfl, Nat.le_of_ble_eq_true rfl⟩ dX9_setSize_2
def f_X9_requireArrow (fu : Nat) (l1 : Int32) (M : Mem) : Option ((Unit ⊕ Nat) × Mem) :=
  (f_X2_hasArrow fu 0 l1 M).bind (fun r5 => if r5.1 = 0 then some (Sum.inr 0, r5.2) else some (Sum.inl (), r5.2))
set_option maxHeartbeats 4000000 in
set_option maxRecDepth 100000 in
theorem k_X9_requireArrow (l : Launch) (G : GE) (hl : l.stackTraces = false) (hG : GOK G) (fu : Nat) (l1 : Int32) (M : Mem) (res : (Unit ⊕ Nat) × Mem) (hk0 : (9, 0) ∈ gids G) (hm : f_X9_requireArrow fu l1 M = some res) : CT l G yX9_requireArrow cX9_requireArrow 2 none 6 [vR 9 0, vI l1] M (oU res.1) res.2 := by
  refine ct_of [(0, vR 9 0), (1, vI l1)] (by decide +kernel) hl hG (Nat.le_of_ble_eq_true rfl) rfl (List.forall_mem_cons.mpr ⟨Or.inl hk0, List.forall_mem_cons.mpr ⟨trivial, fun _ h => nomatch h⟩⟩) (List.forall_mem_cons.mpr ⟨Or.inl hk0, List.forall_mem_cons.mpr ⟨trivial, fun _ h => nomatch h⟩⟩) (fun X hX C => ?_)
  subst hX
  have Cl := C
  unfold f_X9_requireArrow at hm
  refine g_aload_n C 0 dX9_requireArrow_0 rfl rfl ?_
  refine g_getr (k := 0) (k' := 0) C (by decide) kf_X9_12 rfl rfl dX9_requireArrow_1 ?_
  refine g_iload_n C 1 dX9_requireArrow_4 rfl rfl ?_
  obtain ⟨r5, hr5, hm⟩ := bnd_some hm
  refine g_callVi (As := [vI l1]) (rest := []) C lk_X9_399 (k_X2_hasArrow X.2.1 G hl hG fu 0 l1 M r5 ((hG _ hk0).2 0 2 0 0 rfl) hr5) (by decide) rfl rfl rfl (Nat.le_of_ble_eq_true rfl) ⟨Nat.le_of_ble_eq_true rfl, Nat.le_of_ble_eq_true rfl⟩ dX9_requireArrow_5 ?_
  refine g_if_ne (tgt := 22) C dX9_requireArrow_8 (by decide) (fun h8 => ?_) (fun h8 => ?_)
  · have hm := ife hm h8
    obtain rfl := Option.some.inj hm
    exact g_vret C dX9_requireArrow_22
  · have hm := ift hm h8
    obtain rfl := Option.some.inj hm
    exact g_throwW (o := .inl none) (E := "java/lang/IndexOutOfBoundsException") (d := 6) C tk_X9_229_233 (by decide +kernel : ("ArrowDiagrams", 402, "the arrow does not exist") ∈ strs) (by decide) rfl dX9_requireArrow_11 dX9_requireArrow_14 dX9_requireArrow_15 dX9_requireArrow_18 dX9_requireArrow_21
def f_X9_setFunction (fu : Nat) (l1 : Int32) (l2 : Int32) (M : Mem) : Option ((Int32 ⊕ Nat) × Mem) :=
  (f_X9_requireArrow fu l1 M).bind (fun r2 => match r2 with
    | (Sum.inl x2, n2) => (f_X2_from fu 0 l1 n2).bind (fun r15 => (f_X1_size fu 0 r15.1 r15.2).bind (fun r18 => (f_X2_to fu 0 l1 r18.2).bind (fun r30 => (f_X1_size fu 0 r30.1 r30.2).bind (fun r33 => (f_X1_isCode fu l2 r18.1 r33.1 r33.2).bind (fun r36 => if r36.1 = 0 then some (Sum.inr 1, r36.2) else (f_X1_code fu 0 l1 r36.2).bind (fun r58 => (f_X1_setCode fu 0 l1 l2 r58.2).bind (fun r68 => some (Sum.inl r58.1, r68))))))))
    | (Sum.inr z2, n2) => some (Sum.inr z2, n2))
set_option maxHeartbeats 4000000 in
set_option maxRecDepth 100000 in
theorem k_X9_setFunction (l : Launch) (G : GE) (hl : l.stackTraces = false) (hG : GOK G) (fu : Nat) (l1 : Int32) (l2 : Int32) (M : Mem) (res : (Int32 ⊕ Nat) × Mem) (hk0 : (9, 0) ∈ gids G) (hm : f_X9_setFunction fu l1 l2 M = some res) : CT l G yX9_setFunction cX9_setFunction 4 (some .int) 7 [vR 9 0, vI l1, vI l2] M (oI res.1) res.2 := by
  refine ct_of [(0, vR 9 0), (1, vI l1), (2, vI l2)] (by decide +kernel) hl hG (Nat.le_of_ble_eq_true rfl) rfl (List.forall_mem_cons.mpr ⟨Or.inl hk0, List.forall_mem_cons.mpr ⟨trivial, List.forall_mem_cons.mpr ⟨trivial, fun _ h => nomatch h⟩⟩⟩) (List.forall_mem_cons.mpr ⟨Or.inl hk0, List.forall_mem_cons.mpr ⟨trivial, List.forall_mem_cons.mpr ⟨trivial, fun _ h => nomatch h⟩⟩⟩) (fun X hX C => ?_)
  subst hX
  have Cl := C
  unfold f_X9_setFunction at hm
  refine g_aload_n C 0 dX9_setFunction_0 rfl rfl ?_
  refine g_iload_n C 1 dX9_setFunction_1 rfl rfl ?_
  obtain ⟨⟨x2 | z2, n2⟩, hr2, hm⟩ := bnd_some hm
  · refine g_callVv (As := [vI l1]) (rest := []) C lk_X9_299 (k_X9_requireArrow X.2.1 G hl hG fu l1 M (Sum.inl x2, n2) hk0 hr2) (by decide) rfl rfl rfl (Nat.le_of_ble_eq_true rfl) ⟨Nat.le_of_ble_eq_true rfl, Nat.le_of_ble_eq_true rfl⟩ dX9_setFunction_2 ?_
    refine g_iload_n C 2 dX9_setFunction_5 rfl rfl ?_
    refine g_aload_n C 0 dX9_setFunction_6 rfl rfl ?_
    refine g_getr (k := 0) (k' := 0) C (by decide) kf_X9_40 rfl rfl dX9_setFunction_7 ?_
    refine g_aload_n C 0 dX9_setFunction_10 rfl rfl ?_
    refine g_getr (k := 0) (k' := 0) C (by decide) kf_X9_12 rfl rfl dX9_setFunction_11 ?_
    refine g_iload_n C 1 dX9_setFunction_14 rfl rfl ?_
    obtain ⟨r15, hr15, hm⟩ := bnd_some hm
    refine g_callVi (As := [vI l1]) (rest := [vR 1 0, vI l2]) C lk_X9_191 (k_X2_from X.2.1 G hl hG fu 0 l1 n2 r15 ((hG _ hk0).2 0 2 0 0 rfl) hr15) (by decide) rfl rfl rfl (Nat.le_of_ble_eq_true rfl) ⟨Nat.le_of_ble_eq_true rfl, Nat.le_of_ble_eq_true rfl⟩ dX9_setFunction_15 ?_
    obtain ⟨r18, hr18, hm⟩ := bnd_some hm
    refine g_callVi (As := [vI r15.1]) (rest := [vI l2]) C lk_X9_224 (k_X1_size X.2.1 G hl hG fu 0 r15.1 r15.2 r18 ((hG _ hk0).2 4 1 0 0 rfl) hr18) (by decide) rfl rfl rfl (Nat.le_of_ble_eq_true rfl) ⟨Nat.le_of_ble_eq_true rfl, Nat.le_of_ble_eq_true rfl⟩ dX9_setFunction_18 ?_
    refine g_aload_n C 0 dX9_setFunction_21 rfl rfl ?_
    refine g_getr (k := 0) (k' := 0) C (by decide) kf_X9_40 rfl rfl dX9_setFunction_22 ?_
    refine g_aload_n C 0 dX9_setFunction_25 rfl rfl ?_
    refine g_getr (k := 0) (k' := 0) C (by decide) kf_X9_12 rfl rfl dX9_setFunction_26 ?_
    refine g_iload_n C 1 dX9_setFunction_29 rfl rfl ?_
    obtain ⟨r30, hr30, hm⟩ := bnd_some hm
    refine g_callVi (As := [vI l1]) (rest := [vR 1 0, vI r18.1, vI l2]) C lk_X9_296 (k_X2_to X.2.1 G hl hG fu 0 l1 r18.2 r30 ((hG _ hk0).2 0 2 0 0 rfl) hr30) (by decide) rfl rfl rfl (Nat.le_of_ble_eq_true rfl) ⟨Nat.le_of_ble_eq_true rfl, Nat.le_of_ble_eq_true rfl⟩ dX9_setFunction_30 ?_
    obtain ⟨r33, hr33, hm⟩ := bnd_some hm
    refine g_callVi (As := [vI r30.1]) (rest := [vI r18.1, vI l2]) C lk_X9_224 (k_X1_size X.2.1 G hl hG fu 0 r30.1 r30.2 r33 ((hG _ hk0).2 4 1 0 0 rfl) hr33) (by decide) rfl rfl rfl (Nat.le_of_ble_eq_true rfl) ⟨Nat.le_of_ble_eq_true rfl, Nat.le_of_ble_eq_true rfl⟩ dX9_setFunction_33 ?_
    obtain ⟨r36, hr36, hm⟩ := bnd_some hm
    refine g_callSi (As := [vI l2, vI r18.1, vI r33.1]) (rest := []) C lk_X9_302 (k_X1_isCode X.2.1 G hl hG fu l2 r18.1 r33.1 r33.2 r36  hr36) rfl rfl (Nat.le_of_ble_eq_true rfl) ⟨Nat.le_of_ble_eq_true rfl, Nat.le_of_ble_eq_true rfl⟩ dX9_setFunction_36 ?_
    refine g_if_ne (tgt := 53) C dX9_setFunction_39 (by decide) (fun h39 => ?_) (fun h39 => ?_)
    · have hm := ife hm h39
      refine g_aload_n C 0 dX9_setFunction_53 rfl rfl ?_
      refine g_getr (k := 0) (k' := 0) C (by decide) kf_X9_40 rfl rfl dX9_setFunction_54 ?_
      refine g_iload_n C 1 dX9_setFunction_57 rfl rfl ?_
      obtain ⟨r58, hr58, hm⟩ := bnd_some hm
      refine g_callVi (As := [vI l1]) (rest := []) C lk_X9_308 (k_X1_code X.2.1 G hl hG fu 0 l1 r36.2 r58 ((hG _ hk0).2 4 1 0 0 rfl) hr58) (by decide) rfl rfl rfl (Nat.le_of_ble_eq_true rfl) ⟨Nat.le_of_ble_eq_true rfl, Nat.le_of_ble_eq_true rfl⟩ dX9_setFunction_58 ?_
      refine g_istore_n (ls' := [(3, vI r58.1), (0, vR 9 0), (1, vI l1), (2, vI l2)]) C dX9_setFunction_61 rfl (by decide) rfl ?_
      refine g_aload_n C 1 dX9_setFunction_62 rfl rfl ?_
      refine g_getr (k := 0) (k' := 0) C (by decide) kf_X9_40 rfl rfl dX9_setFunction_63 ?_
      refine g_iload_n C 2 dX9_setFunction_66 rfl rfl ?_
      refine g_iload_n C 3 dX9_setFunction_67 rfl rfl ?_
      obtain ⟨r68, hr68, hm⟩ := bnd_some hm
      refine g_callVv (As := [vI l1, vI l2]) (rest := []) C lk_X9_107 (k_X1_setCode X.2.1 G hl hG fu 0 l1 l2 r58.2 r68 ((hG _ hk0).2 4 1 0 0 rfl) hr68) (by decide) rfl rfl rfl (Nat.le_of_ble_eq_true rfl) ⟨Nat.le_of_ble_eq_true rfl, Nat.le_of_ble_eq_true rfl⟩ dX9_setFunction_68 ?_
      refine g_iload_n C 0 dX9_setFunction_71 rfl rfl ?_
      obtain rfl := Option.some.inj hm
      exact g_iret C dX9_setFunction_72
    · have hm := ift hm h39
      obtain rfl := Option.some.inj hm
      exact g_throwW (o := .inl none) (E := "java/lang/IllegalArgumentException") (d := 7) C tk_X9_70_74 (by decide +kernel : ("ArrowDiagrams", 306, "code is the code of no such function") ∈ strs) (by decide) rfl dX9_setFunction_42 dX9_setFunction_45 dX9_setFunction_46 dX9_setFunction_49 dX9_setFunction_52
  · skip
    obtain rfl := Option.some.inj hm
    exact g_callVx (E := exN z2) (As := [vI l1]) (rest := []) C lk_X9_299 (k_X9_requireArrow X.2.1 G hl hG fu l1 M (Sum.inr z2, n2) hk0 hr2) (by decide) rfl rfl rfl (Nat.le_of_ble_eq_true rfl) ⟨Nat.le_of_ble_eq_true rfl, Nat.le_of_ble_eq_true rfl⟩ dX9_setFunction_2
def f_X9_apply (fu : Nat) (l1 : Int32) (l2 : Int32) (M : Mem) : Option ((Int32 ⊕ Nat) × Mem) :=
  (f_X9_requirePath fu l1 M).bind (fun r2 => match r2 with
    | (Sum.inl x2, n2) => if l2 < 0 then some (Sum.inr 1, n2) else (f_X8_get fu 16 l1 n2).bind (fun r22 => (f_X1_size fu 0 r22.1 r22.2).bind (fun r25 => if l2 < r25.1 then (f_X1_valueAlong fu 0 l1 l2 r25.2).bind (fun r52 => some (Sum.inl r52.1, r52.2)) else some (Sum.inr 1, r25.2)))
    | (Sum.inr z2, n2) => some (Sum.inr z2, n2))
set_option maxHeartbeats 4000000 in
set_option maxRecDepth 100000 in
theorem k_X9_apply (l : Launch) (G : GE) (hl : l.stackTraces = false) (hG : GOK G) (fu : Nat) (l1 : Int32) (l2 : Int32) (M : Mem) (res : (Int32 ⊕ Nat) × Mem) (hk0 : (9, 0) ∈ gids G) (hm : f_X9_apply fu l1 l2 M = some res) : CT l G yX9_apply cX9_apply 3 (some .int) 7 [vR 9 0, vI l1, vI l2] M (oI res.1) res.2 := by
  refine ct_of [(0, vR 9 0), (1, vI l1), (2, vI l2)] (by decide +kernel) hl hG (Nat.le_of_ble_eq_true rfl) rfl (List.forall_mem_cons.mpr ⟨Or.inl hk0, List.forall_mem_cons.mpr ⟨trivial, List.forall_mem_cons.mpr ⟨trivial, fun _ h => nomatch h⟩⟩⟩) (List.forall_mem_cons.mpr ⟨Or.inl hk0, List.forall_mem_cons.mpr ⟨trivial, List.forall_mem_cons.mpr ⟨trivial, fun _ h => nomatch h⟩⟩⟩) (fun X hX C => ?_)
  subst hX
  have Cl := C
  unfold f_X9_apply at hm
  refine g_aload_n C 0 dX9_apply_0 rfl rfl ?_
  refine g_iload_n C 1 dX9_apply_1 rfl rfl ?_
  obtain ⟨⟨x2 | z2, n2⟩, hr2, hm⟩ := bnd_some hm
  · refine g_callVv (As := [vI l1]) (rest := []) C lk_X9_202 (k_X9_requirePath X.2.1 G hl hG fu l1 M (Sum.inl x2, n2) hk0 hr2) (by decide) rfl rfl rfl (Nat.le_of_ble_eq_true rfl) ⟨Nat.le_of_ble_eq_true rfl, Nat.le_of_ble_eq_true rfl⟩ dX9_apply_2 ?_
    refine g_iload_n C 2 dX9_apply_5 rfl rfl ?_
    refine g_if_lt (tgt := 31) C dX9_apply_6 (by decide) (fun h6 => ?_) (fun h6 => ?_)
    · have hm := ift hm h6
      obtain rfl := Option.some.inj hm
      exact g_throwW (o := .inl none) (E := "java/lang/IllegalArgumentException") (d := 7) C tk_X9_70_74 (by decide +kernel : ("ArrowDiagrams", 311, "there is no such element") ∈ strs) (by decide) rfl dX9_apply_31 dX9_apply_34 dX9_apply_35 dX9_apply_38 dX9_apply_41
    · have hm := ife hm h6
      refine g_iload_n C 2 dX9_apply_9 rfl rfl ?_
      refine g_aload_n C 0 dX9_apply_10 rfl rfl ?_
      refine g_getr (k := 0) (k' := 0) C (by decide) kf_X9_40 rfl rfl dX9_apply_11 ?_
      refine g_aload_n C 0 dX9_apply_14 rfl rfl ?_
      refine g_getr (k := 0) (k' := 0) C (by decide) kf_X9_26 rfl rfl dX9_apply_15 ?_
      refine g_getrN (k := 0) (k' := 16) C (by decide) kf_X9_128 rfl rfl dX9_apply_18 ?_
      refine g_iload_n C 1 dX9_apply_21 rfl rfl ?_
      obtain ⟨r22, hr22, hm⟩ := bnd_some hm
      refine g_callVi (As := [vI l1]) (rest := [vR 1 0, vI l2]) C lk_X9_132 (k_X8_get X.2.1 G hl hG fu 16 l1 n2 r22 ((hG _ ((hG _ hk0).2 2 6 0 0 rfl)).2 1 8 16 0 rfl) hr22) (by decide) rfl rfl rfl (Nat.le_of_ble_eq_true rfl) ⟨Nat.le_of_ble_eq_true rfl, Nat.le_of_ble_eq_true rfl⟩ dX9_apply_22 ?_
      obtain ⟨r25, hr25, hm⟩ := bnd_some hm
      refine g_callVi (As := [vI r22.1]) (rest := [vI l2]) C lk_X9_224 (k_X1_size X.2.1 G hl hG fu 0 r22.1 r22.2 r25 ((hG _ hk0).2 4 1 0 0 rfl) hr25) (by decide) rfl rfl rfl (Nat.le_of_ble_eq_true rfl) ⟨Nat.le_of_ble_eq_true rfl, Nat.le_of_ble_eq_true rfl⟩ dX9_apply_25 ?_
      refine g_icmp_lt (tgt := 42) C dX9_apply_28 (by decide) (fun h28 => ?_) (fun h28 => ?_)
      · have hm := ift hm h28
        refine g_aload_n C 0 dX9_apply_42 rfl rfl ?_
        refine g_getr (k := 0) (k' := 0) C (by decide) kf_X9_40 rfl rfl dX9_apply_43 ?_
        refine g_aload_n C 0 dX9_apply_46 rfl rfl ?_
        refine g_getr (k := 0) (k' := 0) C (by decide) kf_X9_26 rfl rfl dX9_apply_47 ?_
        refine g_iload_n C 1 dX9_apply_50 rfl rfl ?_
        refine g_iload_n C 2 dX9_apply_51 rfl rfl ?_
        obtain ⟨r52, hr52, hm⟩ := bnd_some hm
        refine g_callVi (As := [vR 6 0, vI l1, vI l2]) (rest := []) C lk_X9_313 (k_X1_valueAlong X.2.1 G hl hG fu 0 l1 l2 r25.2 r52 ((hG _ hk0).2 4 1 0 0 rfl) ((hG _ hk0).2 2 6 0 0 rfl) hr52) (by decide) rfl rfl rfl (Nat.le_of_ble_eq_true rfl) ⟨Nat.le_of_ble_eq_true rfl, Nat.le_of_ble_eq_true rfl⟩ dX9_apply_52 ?_
        obtain rfl := Option.some.inj hm
        exact g_iret C dX9_apply_55
      · have hm := ife hm h28
        obtain rfl := Option.some.inj hm
        exact g_throwW (o := .inl none) (E := "java/lang/IllegalArgumentException") (d := 7) C tk_X9_70_74 (by decide +kernel : ("ArrowDiagrams", 311, "there is no such element") ∈ strs) (by decide) rfl dX9_apply_31 dX9_apply_34 dX9_apply_35 dX9_apply_38 dX9_apply_41
  · skip
    obtain rfl := Option.some.inj hm
    exact g_callVx (E := exN z2) (As := [vI l1]) (rest := []) C lk_X9_202 (k_X9_requirePath X.2.1 G hl hG fu l1 M (Sum.inr z2, n2) hk0 hr2) (by decide) rfl rfl rfl (Nat.le_of_ble_eq_true rfl) ⟨Nat.le_of_ble_eq_true rfl, Nat.le_of_ble_eq_true rfl⟩ dX9_apply_2
def f_X9_floatBits_b13 (fu : Nat)   (l1 : UInt32) (l2 : Int32) (M : Mem) : Option ((UInt32 × Int32 × Mem) ⊕ (UInt32 × Int32 × Mem)) :=
  if 0 ≤ (Op.cmpValue (FP.fcmp l1 FP.fconst1) .g) then some (Sum.inr (l1, l2, M)) else if l2 ≤ (1 : Int32) then some (Sum.inr (l1, l2, M)) else if fn32 (FP.fmul l1 FP.fconst2) then some (Sum.inl (FP.fmul l1 FP.fconst2, l2 + (-1 : Int32), M)) else none
def f_X9_floatBits_j34 (fu : Nat)   (l1 : UInt32) (l2 : Int32) (M : Mem) : Option (Int32 × Mem) :=
  if fn32 (FP.fsub l1 FP.fconst1) then if fn32 (FP.fmul (FP.fsub l1 FP.fconst1) (1258291200 : UInt32)) then some ((l2 <<< ((23 : Int32) &&& 31)) ||| (FP.f2i (FP.fmul (FP.fsub l1 FP.fconst1) (1258291200 : UInt32))), M) else none else none
def f_X9_floatBits_h13 (fu : Nat)   (l1 : UInt32) (l2 : Int32) (M : Mem) : Option (Int32 × Mem) :=
  (lp_run (fun s => f_X9_floatBits_b13 fu   s.1 s.2.1 s.2.2) fu (l1, l2, M)).bind (fun r13 => match r13 with
    | (l1, l2, M) => f_X9_floatBits_j34 fu l1 l2 M)
def f_X9_floatBits (fu : Nat) (l0 : UInt32) (M : Mem) : Option (Int32 × Mem) :=
  if 0 < (Op.cmpValue (FP.fcmp l0 FP.fconst0) .l) then f_X9_floatBits_h13 fu l0 (127 : Int32) M else some ((0 : Int32), M)
set_option maxHeartbeats 4000000 in
set_option maxRecDepth 100000 in
theorem k_X9_floatBits (l : Launch) (G : GE) (hl : l.stackTraces = false) (hG : GOK G) (fu : Nat) (l0 : UInt32) (M : Mem) (res : Int32 × Mem)  (hm : f_X9_floatBits fu l0 M = some res) : CT l G yX9_floatBits cX9_floatBits 3 (some .int) 0 [vF l0] M (.inl (some (vI res.1))) res.2 := by
  refine ct_of [(0, vF l0)] (by decide +kernel) hl hG (Nat.le_of_ble_eq_true rfl) rfl (List.forall_mem_cons.mpr ⟨trivial, fun _ h => nomatch h⟩) (List.forall_mem_cons.mpr ⟨trivial, fun _ h => nomatch h⟩) (fun X hX C => ?_)
  subst hX
  have Cl := C
  have J34 : ∀ (l1 : UInt32) (l2 : Int32) (M : Mem), f_X9_floatBits_j34 fu   l1 l2 M = some res → GW G X 3 (QX G X (.inl (some (vI res.1))) res.2) 34 [(1, vF l1), (2, vI l2)] [] M := by
    intro l1 l2 M hm
    unfold f_X9_floatBits_j34 at hm
    refine g_iload_n C 1 dX9_floatBits_34 rfl rfl ?_
    refine g_bipush (v := 23) C dX9_floatBits_35 rfl ?_
    refine g_ishl C dX9_floatBits_37 ?_
    refine g_fload_n C 0 dX9_floatBits_38 rfl rfl ?_
    refine g_fconst1 C dX9_floatBits_39 ?_
    obtain ⟨hz40, hm⟩ := ifn hm
    refine g_fsub C dX9_floatBits_40 hz40 ?_
    refine g_ldcwf (v := 1258291200) C kc_X9_425 dX9_floatBits_41 ?_
    obtain ⟨hz44, hm⟩ := ifn hm
    refine g_fmul C dX9_floatBits_44 hz44 ?_
    refine g_f2i C dX9_floatBits_45 ?_
    refine g_ior C dX9_floatBits_46 ?_
    obtain rfl := Option.some.inj hm
    exact g_iret C dX9_floatBits_47
  have J13 : ∀ (l1 : UInt32) (l2 : Int32) (M : Mem), f_X9_floatBits_h13 fu   l1 l2 M = some res → GW G X 3 (QX G X (.inl (some (vI res.1))) res.2) 13 [(1, vF l1), (2, vI l2)] [] M := by
    intro l1 l2 M hm
    unfold f_X9_floatBits_h13 at hm
    obtain ⟨r13, hL13, hk13⟩ := bnd_some hm
    have hx13 : ∀ (l1 : UInt32) (l2 : Int32) (M : Mem), (l1, l2, M) = r13 → GW G X 3 (QX G X (.inl (some (vI res.1))) res.2) 34 [(1, vF l1), (2, vI l2)] [] M := by
      intro l1 l2 M he
      subst he
      have hm := hk13
      try dsimp only at hm
      exact g_sub [0, 1] rfl (g_pc rfl (J34 l1 l2 M hm))
    refine lp_ind2 (P := (fun l1 l2 M => GW G X 3 (QX G X (.inl (some (vI res.1))) res.2) 13 [(1, vF l1), (2, vI l2)] [] M)) (r := r13) ?_ fu l1 l2 M hL13
    intro l1 l2 M o13 hm K13
    unfold f_X9_floatBits_b13 at hm
    refine g_fload_n C 0 dX9_floatBits_13 rfl rfl ?_
    refine g_fconst1 C dX9_floatBits_14 ?_
    refine g_fcmp C dX9_floatBits_15 ?_
    refine g_if_ge (tgt := 34) C dX9_floatBits_16 (by decide) (fun h16 => ?_) (fun h16 => ?_)
    · have hm := ift hm h16
      obtain rfl := Option.some.inj hm
      exact g_sub [0, 1] rfl (g_pc rfl (hx13 l1 l2 M (K13.2 _ rfl)))
    · have hm := ife hm h16
      refine g_iload_n C 1 dX9_floatBits_19 rfl rfl ?_
      refine g_iconst (v := 1) C dX9_floatBits_20 rfl ?_
      refine g_icmp_le (tgt := 34) C dX9_floatBits_21 (by decide) (fun h21 => ?_) (fun h21 => ?_)
      · have hm := ift hm h21
        obtain rfl := Option.some.inj hm
        exact g_sub [0, 1] rfl (g_pc rfl (hx13 l1 l2 M (K13.2 _ rfl)))
      · have hm := ife hm h21
        refine g_fload_n C 0 dX9_floatBits_24 rfl rfl ?_
        refine g_fconst2 C dX9_floatBits_25 ?_
        obtain ⟨hz26, hm⟩ := ifn hm
        refine g_fmul C dX9_floatBits_26 hz26 ?_
        refine g_fstore_n (ls' := [(1, vF (FP.fmul l1 FP.fconst2)), (2, vI l2)]) C dX9_floatBits_27 rfl (by decide) rfl ?_
        refine g_iinc (ls' := [(2, vI (l2 + (-1 : Int32))), (1, vF (FP.fmul l1 FP.fconst2))]) (v := l2 + (-1 : Int32)) C 1 dX9_floatBits_28 rfl (iv_m1 _) (by decide) rfl ?_
        refine g_goto (tgt := 13) C dX9_floatBits_31 (by decide) ?_
        obtain rfl := Option.some.inj hm
        exact g_sub [1, 0] rfl (g_pc rfl (K13.1 (FP.fmul l1 FP.fconst2) (l2 + (-1 : Int32)) M rfl))
  unfold f_X9_floatBits at hm
  refine g_fload_n C 0 dX9_floatBits_0 rfl rfl ?_
  refine g_fconst0 C dX9_floatBits_1 ?_
  refine g_fcmp C dX9_floatBits_2 ?_
  refine g_if_gt (tgt := 8) C dX9_floatBits_3 (by decide) (fun h3 => ?_) (fun h3 => ?_)
  · have hm := ift hm h3
    refine g_fload_n C 0 dX9_floatBits_8 rfl rfl ?_
    refine g_fstore_n (ls' := [(1, vF l0), (0, vF l0)]) C dX9_floatBits_9 rfl (by decide) rfl ?_
    refine g_bipush (v := 127) C dX9_floatBits_10 rfl ?_
    refine g_istore_n (ls' := [(2, vI (127 : Int32)), (1, vF l0), (0, vF l0)]) C dX9_floatBits_12 rfl (by decide) rfl ?_
    exact g_sub [1, 0] rfl (g_pc rfl (J13 l0 (127 : Int32) M hm))
  · have hm := ife hm h3
    refine g_iconst (v := 0) C dX9_floatBits_6 rfl ?_
    obtain rfl := Option.some.inj hm
    exact g_iret C dX9_floatBits_7
def f_X9_imageShare (fu : Nat) (l1 : Int32) (M : Mem) : Option ((Int32 ⊕ Nat) × Mem) :=
  (f_X9_requirePath fu l1 M).bind (fun r2 => match r2 with
    | (Sum.inl x2, n2) => (f_X8_get fu 17 l1 n2).bind (fun r17 => (f_X1_size fu 0 r17.1 r17.2).bind (fun r20 => if r20.1 ≤ 0 then some (Sum.inl (0 : Int32), r20.2) else (f_X1_imageSize fu 0 l1 r20.2).bind (fun r37 => if fn32 (FP.fdiv (FP.i2f r37.1) (FP.i2f r20.1)) then (f_X9_floatBits fu (FP.fdiv (FP.i2f r37.1) (FP.i2f r20.1)) r37.2).bind (fun r44 => some (Sum.inl r44.1, r44.2)) else none)))
    | (Sum.inr z2, n2) => some (Sum.inr z2, n2))
set_option maxHeartbeats 4000000 in
set_option maxRecDepth 100000 in
theorem k_X9_imageShare (l : Launch) (G : GE) (hl : l.stackTraces = false) (hG : GOK G) (fu : Nat) (l1 : Int32) (M : Mem) (res : (Int32 ⊕ Nat) × Mem) (hk0 : (9, 0) ∈ gids G) (hm : f_X9_imageShare fu l1 M = some res) : CT l G yX9_imageShare cX9_imageShare 3 (some .int) 7 [vR 9 0, vI l1] M (oI res.1) res.2 := by
  refine ct_of [(0, vR 9 0), (1, vI l1)] (by decide +kernel) hl hG (Nat.le_of_ble_eq_true rfl) rfl (List.forall_mem_cons.mpr ⟨Or.inl hk0, List.forall_mem_cons.mpr ⟨trivial, fun _ h => nomatch h⟩⟩) (List.forall_mem_cons.mpr ⟨Or.inl hk0, List.forall_mem_cons.mpr ⟨trivial, fun _ h => nomatch h⟩⟩) (fun X hX C => ?_)
  subst hX
  have Cl := C
  unfold f_X9_imageShare at hm
  refine g_aload_n C 0 dX9_imageShare_0 rfl rfl ?_
  refine g_iload_n C 1 dX9_imageShare_1 rfl rfl ?_
  obtain ⟨⟨x2 | z2, n2⟩, hr2, hm⟩ := bnd_some hm
  · refine g_callVv (As := [vI l1]) (rest := []) C lk_X9_202 (k_X9_requirePath X.2.1 G hl hG fu l1 M (Sum.inl x2, n2) hk0 hr2) (by decide) rfl rfl rfl (Nat.le_of_ble_eq_true rfl) ⟨Nat.le_of_ble_eq_true rfl, Nat.le_of_ble_eq_true rfl⟩ dX9_imageShare_2 ?_
    refine g_aload_n C 0 dX9_imageShare_5 rfl rfl ?_
    refine g_getr (k := 0) (k' := 0) C (by decide) kf_X9_40 rfl rfl dX9_imageShare_6 ?_
    refine g_aload_n C 0 dX9_imageShare_9 rfl rfl ?_
    refine g_getr (k := 0) (k' := 0) C (by decide) kf_X9_26 rfl rfl dX9_imageShare_10 ?_
    refine g_getrN (k := 0) (k' := 17) C (by decide) kf_X9_205 rfl rfl dX9_imageShare_13 ?_
    refine g_iload_n C 1 dX9_imageShare_16 rfl rfl ?_
    obtain ⟨r17, hr17, hm⟩ := bnd_some hm
    refine g_callVi (As := [vI l1]) (rest := [vR 1 0]) C lk_X9_132 (k_X8_get X.2.1 G hl hG fu 17 l1 n2 r17 ((hG _ ((hG _ hk0).2 2 6 0 0 rfl)).2 2 8 17 0 rfl) hr17) (by decide) rfl rfl rfl (Nat.le_of_ble_eq_true rfl) ⟨Nat.le_of_ble_eq_true rfl, Nat.le_of_ble_eq_true rfl⟩ dX9_imageShare_17 ?_
    obtain ⟨r20, hr20, hm⟩ := bnd_some hm
    refine g_callVi (As := [vI r17.1]) (rest := []) C lk_X9_224 (k_X1_size X.2.1 G hl hG fu 0 r17.1 r17.2 r20 ((hG _ hk0).2 4 1 0 0 rfl) hr20) (by decide) rfl rfl rfl (Nat.le_of_ble_eq_true rfl) ⟨Nat.le_of_ble_eq_true rfl, Nat.le_of_ble_eq_true rfl⟩ dX9_imageShare_20 ?_
    refine g_istore_n (ls' := [(2, vI r20.1), (0, vR 9 0), (1, vI l1)]) C dX9_imageShare_23 rfl (by decide) rfl ?_
    refine g_iload_n C 0 dX9_imageShare_24 rfl rfl ?_
    refine g_if_le (tgt := 50) C dX9_imageShare_25 (by decide) (fun h25 => ?_) (fun h25 => ?_)
    · have hm := ift hm h25
      refine g_iconst (v := 0) C dX9_imageShare_50 rfl ?_
      obtain rfl := Option.some.inj hm
      exact g_iret C dX9_imageShare_51
    · have hm := ife hm h25
      refine g_aload_n C 1 dX9_imageShare_28 rfl rfl ?_
      refine g_getr (k := 0) (k' := 0) C (by decide) kf_X9_40 rfl rfl dX9_imageShare_29 ?_
      refine g_aload_n C 1 dX9_imageShare_32 rfl rfl ?_
      refine g_getr (k := 0) (k' := 0) C (by decide) kf_X9_26 rfl rfl dX9_imageShare_33 ?_
      refine g_iload_n C 2 dX9_imageShare_36 rfl rfl ?_
      obtain ⟨r37, hr37, hm⟩ := bnd_some hm
      refine g_callVi (As := [vR 6 0, vI l1]) (rest := []) C lk_X9_220 (k_X1_imageSize X.2.1 G hl hG fu 0 l1 r20.2 r37 ((hG _ hk0).2 4 1 0 0 rfl) ((hG _ hk0).2 2 6 0 0 rfl) hr37) (by decide) rfl rfl rfl (Nat.le_of_ble_eq_true rfl) ⟨Nat.le_of_ble_eq_true rfl, Nat.le_of_ble_eq_true rfl⟩ dX9_imageShare_37 ?_
      refine g_i2f C dX9_imageShare_40 ?_
      refine g_iload_n C 0 dX9_imageShare_41 rfl rfl ?_
      refine g_i2f C dX9_imageShare_42 ?_
      obtain ⟨hz43, hm⟩ := ifn hm
      refine g_fdiv C dX9_imageShare_43 hz43 ?_
      obtain ⟨r44, hr44, hm⟩ := bnd_some hm
      refine g_callSi (As := [vF (FP.fdiv (FP.i2f r37.1) (FP.i2f r20.1))]) (rest := []) C lk_X9_317 (k_X9_floatBits X.2.1 G hl hG fu (FP.fdiv (FP.i2f r37.1) (FP.i2f r20.1)) r37.2 r44  hr44) rfl rfl (Nat.le_of_ble_eq_true rfl) ⟨Nat.le_of_ble_eq_true rfl, Nat.le_of_ble_eq_true rfl⟩ dX9_imageShare_44 ?_
      refine g_goto (tgt := 51) C dX9_imageShare_47 (by decide) ?_
      obtain rfl := Option.some.inj hm
      exact g_iret C dX9_imageShare_51
  · skip
    obtain rfl := Option.some.inj hm
    exact g_callVx (E := exN z2) (As := [vI l1]) (rest := []) C lk_X9_202 (k_X9_requirePath X.2.1 G hl hG fu l1 M (Sum.inr z2, n2) hk0 hr2) (by decide) rfl rfl rfl (Nat.le_of_ble_eq_true rfl) ⟨Nat.le_of_ble_eq_true rfl, Nat.le_of_ble_eq_true rfl⟩ dX9_imageShare_2
def f_X9_allHold_b2 (fu : Nat) (k1 : Nat)  (l2 : Int32) (M : Mem) : Option ((Int32 × Mem) ⊕ ((Mem) ⊕ (Int32 × Mem))) :=
  (f_X0_total fu 0 M).bind (fun r7 => if r7.1 ≤ l2 then some (Sum.inr (Sum.inl r7.2)) else (f_X9_holds fu k1 l2 r7.2).bind (fun r16 => if r16.1 = 0 then some (Sum.inr (Sum.inr ((0 : Int32), r16.2))) else some (Sum.inl (l2 + (1 : Int32), r16.2))))
def f_X9_allHold_h2 (fu : Nat) (k1 : Nat)  (l2 : Int32) (M : Mem) : Option (Int32 × Mem) :=
  (lp_run (fun s => f_X9_allHold_b2 fu k1  s.1 s.2) fu (l2, M)).bind (fun r2 => match r2 with
    | Sum.inl M => some ((1 : Int32), M)
    | Sum.inr q2 => some q2)
def f_X9_allHold (fu : Nat) (k1 : Nat) (M : Mem) : Option (Int32 × Mem) :=
  f_X9_allHold_h2 fu k1 (0 : Int32) M
set_option maxHeartbeats 4000000 in
set_option maxRecDepth 100000 in
theorem k_X9_allHold (l : Launch) (G : GE) (hl : l.stackTraces = false) (hG : GOK G) (fu : Nat) (k1 : Nat) (M : Mem) (res : Int32 × Mem) (hk0 : (9, 0) ∈ gids G) (hk1 : (1, k1) ∈ gids G) (hm : f_X9_allHold fu k1 M = some res) : CT l G yX9_allHold cX9_allHold 3 (some .boolean) 4 [vR 9 0, vR 1 k1] M (.inl (some (vI res.1))) res.2 := by
  refine ct_of [(0, vR 9 0), (1, vR 1 k1)] (by decide +kernel) hl hG (Nat.le_of_ble_eq_true rfl) rfl (List.forall_mem_cons.mpr ⟨Or.inl hk0, List.forall_mem_cons.mpr ⟨Or.inl hk1, fun _ h => nomatch h⟩⟩) (List.forall_mem_cons.mpr ⟨Or.inl hk0, List.forall_mem_cons.mpr ⟨Or.inl hk1, fun _ h => nomatch h⟩⟩) (fun X hX C => ?_)
  subst hX
  have Cl := C
  have J2 : ∀ (l2 : Int32) (M : Mem), f_X9_allHold_h2 fu k1  l2 M = some res → GW G X 3 (QX G X (.inl (some (vI res.1))) res.2) 2 [(0, vR 9 0), (1, vR 1 k1), (2, vI l2)] [] M := by
    intro l2 M hm
    unfold f_X9_allHold_h2 at hm
    obtain ⟨r2, hL2, hk2⟩ := bnd_some hm
    have hx2 : ∀ (M : Mem), Sum.inl M = r2 → GW G X 3 (QX G X (.inl (some (vI res.1))) res.2) 30 [] [] M := by
      intro M he
      subst he
      have hm := hk2
      try dsimp only at hm
      refine g_iconst (v := 1) C dX9_allHold_30 rfl ?_
      obtain rfl := Option.some.inj hm
      exact g_zret C (Or.inr rfl) dX9_allHold_31
    refine lp_ind1 (P := (fun l2 M => GW G X 3 (QX G X (.inl (some (vI res.1))) res.2) 2 [(0, vR 9 0), (1, vR 1 k1), (2, vI l2)] [] M)) (r := r2) ?_ fu l2 M hL2
    intro l2 M o2 hm K2
    unfold f_X9_allHold_b2 at hm
    refine g_iload_n C 2 dX9_allHold_2 rfl rfl ?_
    refine g_aload_n C 0 dX9_allHold_3 rfl rfl ?_
    refine g_getr (k := 0) (k' := 0) C (by decide) kf_X9_19 rfl rfl dX9_allHold_4 ?_
    obtain ⟨r7, hr7, hm⟩ := bnd_some hm
    refine g_callVi (As := []) (rest := [vI l2]) C lk_X9_123 (k_X0_total X.2.1 G hl hG fu 0 M r7 ((hG _ hk0).2 1 0 0 0 rfl) hr7) (by decide) rfl rfl rfl (Nat.le_of_ble_eq_true rfl) ⟨Nat.le_of_ble_eq_true rfl, Nat.le_of_ble_eq_true rfl⟩ dX9_allHold_7 ?_
    refine g_icmp_ge (tgt := 30) C dX9_allHold_10 (by decide) (fun h10 => ?_) (fun h10 => ?_)
    · have hm := ift hm h10
      obtain rfl := Option.some.inj hm
      exact g_sub [] rfl (g_pc rfl (hx2 r7.2 (K2.2 _ rfl)))
    · have hm := ife hm h10
      refine g_aload_n C 0 dX9_allHold_13 rfl rfl ?_
      refine g_aload_n C 1 dX9_allHold_14 rfl rfl ?_
      refine g_iload_n C 2 dX9_allHold_15 rfl rfl ?_
      obtain ⟨r16, hr16, hm⟩ := bnd_some hm
      refine g_callVi (As := [vR 1 k1, vI l2]) (rest := []) C lk_X9_270 (k_X9_holds X.2.1 G hl hG fu k1 l2 r7.2 r16 hk0 hk1 hr16) (by decide) rfl rfl rfl (Nat.le_of_ble_eq_true rfl) ⟨Nat.le_of_ble_eq_true rfl, Nat.le_of_ble_eq_true rfl⟩ dX9_allHold_16 ?_
      refine g_if_ne (tgt := 24) C dX9_allHold_19 (by decide) (fun h19 => ?_) (fun h19 => ?_)
      · have hm := ife hm h19
        refine g_iinc (ls' := [(2, vI (l2 + (1 : Int32))), (0, vR 9 0), (1, vR 1 k1)]) (v := l2 + (1 : Int32)) C 2 dX9_allHold_24 rfl (iv_p1 _) (by decide) rfl ?_
        refine g_goto (tgt := 2) C dX9_allHold_27 (by decide) ?_
        obtain rfl := Option.some.inj hm
        exact g_sub [1, 2, 0] rfl (g_pc rfl (K2.1 (l2 + (1 : Int32)) r16.2 rfl))
      · have hm := ift hm h19
        refine g_iconst (v := 0) C dX9_allHold_22 rfl ?_
        obtain rfl := Option.some.inj hm
        have e2 := K2.2 _ rfl
        subst e2
        obtain rfl := Option.some.inj hk2
        exact g_zret C (Or.inl rfl) dX9_allHold_23
  unfold f_X9_allHold at hm
  refine g_iconst (v := 0) C dX9_allHold_0 rfl ?_
  refine g_istore_n (ls' := [(2, vI (0 : Int32)), (0, vR 9 0), (1, vR 1 k1)]) C dX9_allHold_1 rfl (by decide) rfl ?_
  exact g_sub [1, 2, 0] rfl (g_pc rfl (J2 (0 : Int32) M hm))
def f_X9_separate_j150 (fu : Nat)  (l1 : Int32) (l2 : Int32) (l3 : Int32) (l4 : Int32) (M : Mem) : Option ((Int32 × Mem) ⊕ ((Mem) ⊕ ((Int32 ⊕ Nat) × Mem))) :=
  some (Sum.inl (l4 + (1 : Int32), M))
def f_X9_separate_b87 (fu : Nat)  (l1 : Int32) (l2 : Int32) (l3 : Int32) (l4 : Int32) (M : Mem) : Option ((Int32 × Mem) ⊕ ((Mem) ⊕ ((Int32 ⊕ Nat) × Mem))) :=
  if l3 ≤ l4 then some (Sum.inr (Sum.inl M)) else (f_X2_arrowTotal fu 0 M).bind (fun r103 => (f_X1_choose fu 1 l4 r103.1 r103.2).bind (fun r106 => (f_X1_agree fu 1 l1 l2 r106).bind (fun r119 => if r119.1 = 0 then (f_X9_allHold fu 1 r119.2).bind (fun r130 => if r130.1 = 0 then f_X9_separate_j150 fu l1 l2 l3 l4 r130.2 else (f_X1_become fu 0 1 r130.2).bind (fun r144 => some (Sum.inr (Sum.inr (Sum.inl l4, r144))))) else f_X9_separate_j150 fu l1 l2 l3 l4 r119.2)))
def f_X9_separate_h87 (fu : Nat)   (l1 : Int32) (l2 : Int32) (l3 : Int32) (l4 : Int32) (M : Mem) : Option ((Int32 ⊕ Nat) × Mem) :=
  (lp_run (fun s => f_X9_separate_b87 fu  l1 l2 l3 s.1 s.2) fu (l4, M)).bind (fun r87 => match r87 with
    | Sum.inl M => some (Sum.inl (-1 : Int32), M)
    | Sum.inr q87 => some q87)
def f_X9_separate (fu : Nat) (l1 : Int32) (l2 : Int32) (M : Mem) : Option ((Int32 ⊕ Nat) × Mem) :=
  (f_X9_requireParallel fu l1 l2 M).bind (fun r3 => match r3 with
    | (Sum.inl x3, n3) => (f_X2_arrowTotal fu 0 n3).bind (fun r10 => if r10.1 ≤ (6 : Int32) then (f_X5_refresh fu 0 r10.2).bind (fun r41 => (f_X5_className fu l1 r41).bind (fun r49 => (f_X5_className fu l2 r49.2).bind (fun r57 => if r49.1 = r57.1 then some (Sum.inl (-1 : Int32), r57.2) else (f_X1_clear fu 1 r57.2).bind (fun r69 => (f_X2_arrowTotal fu 0 r69).bind (fun r78 => f_X9_separate_h87 fu l1 l2 ((1 : Int32) <<< (((2 : Int32) * r78.1) &&& 31)) (0 : Int32) r78.2))))) else some (Sum.inr 2, r10.2))
    | (Sum.inr z3, n3) => some (Sum.inr z3, n3))
set_option maxHeartbeats 4000000 in
set_option maxRecDepth 100000 in
theorem k_X9_separate (l : Launch) (G : GE) (hl : l.stackTraces = false) (hG : GOK G) (fu : Nat) (l1 : Int32) (l2 : Int32) (M : Mem) (res : (Int32 ⊕ Nat) × Mem) (hk0 : (9, 0) ∈ gids G) (hm : f_X9_separate fu l1 l2 M = some res) : CT l G yX9_separate cX9_separate 5 (some .int) 8 [vR 9 0, vI l1, vI l2] M (oI res.1) res.2 := by
  refine ct_of [(0, vR 9 0), (1, vI l1), (2, vI l2)] (by decide +kernel) hl hG (Nat.le_of_ble_eq_true rfl) rfl (List.forall_mem_cons.mpr ⟨Or.inl hk0, List.forall_mem_cons.mpr ⟨trivial, List.forall_mem_cons.mpr ⟨trivial, fun _ h => nomatch h⟩⟩⟩) (List.forall_mem_cons.mpr ⟨Or.inl hk0, List.forall_mem_cons.mpr ⟨trivial, List.forall_mem_cons.mpr ⟨trivial, fun _ h => nomatch h⟩⟩⟩) (fun X hX C => ?_)
  subst hX
  have Cl := C
  have J87 : ∀ (l1 : Int32) (l2 : Int32) (l3 : Int32) (l4 : Int32) (M : Mem), f_X9_separate_h87 fu   l1 l2 l3 l4 M = some res → GW G X 5 (QX G X (oI res.1) res.2) 87 [(0, vR 9 0), (1, vI l1), (2, vI l2), (3, vI l3), (4, vI l4)] [] M := by
    intro l1 l2 l3 l4 M hm
    unfold f_X9_separate_h87 at hm
    obtain ⟨r87, hL87, hk87⟩ := bnd_some hm
    have hx87 : ∀ (M : Mem), Sum.inl M = r87 → GW G X 5 (QX G X (oI res.1) res.2) 156 [] [] M := by
      intro M he
      subst he
      have hm := hk87
      try dsimp only at hm
      refine g_iconst (v := -1) C dX9_separate_156 rfl ?_
      obtain rfl := Option.some.inj hm
      exact g_iret C dX9_separate_157
    refine lp_ind1 (P := (fun l4 M => GW G X 5 (QX G X (oI res.1) res.2) 87 [(0, vR 9 0), (1, vI l1), (2, vI l2), (3, vI l3), (4, vI l4)] [] M)) (r := r87) ?_ fu l4 M hL87
    intro l4 M o87 hm K87
    have J150 : ∀ (l4 : Int32) (M : Mem), f_X9_separate_j150 fu  l1 l2 l3 l4 M = some o87 → GW G X 5 (QX G X (oI res.1) res.2) 150 [(0, vR 9 0), (1, vI l1), (2, vI l2), (3, vI l3), (4, vI l4)] [] M := by
      intro l4 M hm
      unfold f_X9_separate_j150 at hm
      refine g_iinc (ls' := [(4, vI (l4 + (1 : Int32))), (0, vR 9 0), (1, vI l1), (2, vI l2), (3, vI l3)]) (v := l4 + (1 : Int32)) C 4 dX9_separate_150 rfl (iv_p1 _) (by decide) rfl ?_
      refine g_goto (tgt := 87) C dX9_separate_153 (by decide) ?_
      obtain rfl := Option.some.inj hm
      exact g_sub [1, 2, 3, 4, 0] rfl (g_pc rfl (K87.1 (l4 + (1 : Int32)) M rfl))
    unfold f_X9_separate_b87 at hm
    refine g_iload C 4 dX9_separate_87 rfl ?_
    refine g_iload_n C 3 dX9_separate_89 rfl rfl ?_
    refine g_icmp_ge (tgt := 156) C dX9_separate_90 (by decide) (fun h90 => ?_) (fun h90 => ?_)
    · have hm := ift hm h90
      obtain rfl := Option.some.inj hm
      exact g_sub [] rfl (g_pc rfl (hx87 M (K87.2 _ rfl)))
    · have hm := ife hm h90
      refine g_aload_n C 0 dX9_separate_93 rfl rfl ?_
      refine g_getr (k := 0) (k' := 1) C (by decide) kf_X9_44 rfl rfl dX9_separate_94 ?_
      refine g_iload C 4 dX9_separate_97 rfl ?_
      refine g_aload_n C 0 dX9_separate_99 rfl rfl ?_
      refine g_getr (k := 0) (k' := 0) C (by decide) kf_X9_12 rfl rfl dX9_separate_100 ?_
      obtain ⟨r103, hr103, hm⟩ := bnd_some hm
      refine g_callVi (As := []) (rest := [vI l4, vR 1 1]) C lk_X9_87 (k_X2_arrowTotal X.2.1 G hl hG fu 0 M r103 ((hG _ hk0).2 0 2 0 0 rfl) hr103) (by decide) rfl rfl rfl (Nat.le_of_ble_eq_true rfl) ⟨Nat.le_of_ble_eq_true rfl, Nat.le_of_ble_eq_true rfl⟩ dX9_separate_103 ?_
      obtain ⟨r106, hr106, hm⟩ := bnd_some hm
      refine g_callVv (As := [vI l4, vI r103.1]) (rest := []) C lk_X9_323 (k_X1_choose X.2.1 G hl hG fu 1 l4 r103.1 r103.2 r106 ((hG _ hk0).2 5 1 1 0 rfl) hr106) (by decide) rfl rfl rfl (Nat.le_of_ble_eq_true rfl) ⟨Nat.le_of_ble_eq_true rfl, Nat.le_of_ble_eq_true rfl⟩ dX9_separate_106 ?_
      refine g_aload_n C 0 dX9_separate_109 rfl rfl ?_
      refine g_getr (k := 0) (k' := 1) C (by decide) kf_X9_44 rfl rfl dX9_separate_110 ?_
      refine g_aload_n C 0 dX9_separate_113 rfl rfl ?_
      refine g_getr (k := 0) (k' := 0) C (by decide) kf_X9_26 rfl rfl dX9_separate_114 ?_
      refine g_iload_n C 1 dX9_separate_117 rfl rfl ?_
      refine g_iload_n C 2 dX9_separate_118 rfl rfl ?_
      obtain ⟨r119, hr119, hm⟩ := bnd_some hm
      refine g_callVi (As := [vR 6 0, vI l1, vI l2]) (rest := []) C lk_X9_326 (k_X1_agree X.2.1 G hl hG fu 1 l1 l2 r106 r119 ((hG _ hk0).2 5 1 1 0 rfl) ((hG _ hk0).2 2 6 0 0 rfl) hr119) (by decide) rfl rfl rfl (Nat.le_of_ble_eq_true rfl) ⟨Nat.le_of_ble_eq_true rfl, Nat.le_of_ble_eq_true rfl⟩ dX9_separate_119 ?_
      refine g_if_ne (tgt := 150) C dX9_separate_122 (by decide) (fun h122 => ?_) (fun h122 => ?_)
      · have hm := ife hm h122
        exact g_sub [0, 1, 2, 3, 4] rfl (g_pc rfl (J150 l4 r119.2 hm))
      · have hm := ift hm h122
        refine g_aload_n C 0 dX9_separate_125 rfl rfl ?_
        refine g_aload_n C 0 dX9_separate_126 rfl rfl ?_
        refine g_getr (k := 0) (k' := 1) C (by decide) kf_X9_44 rfl rfl dX9_separate_127 ?_
        obtain ⟨r130, hr130, hm⟩ := bnd_some hm
        refine g_callVi (As := [vR 1 1]) (rest := []) C lk_X9_330 (k_X9_allHold X.2.1 G hl hG fu 1 r119.2 r130 hk0 ((hG _ hk0).2 5 1 1 0 rfl) hr130) (by decide) rfl rfl rfl (Nat.le_of_ble_eq_true rfl) ⟨Nat.le_of_ble_eq_true rfl, Nat.le_of_ble_eq_true rfl⟩ dX9_separate_130 ?_
        refine g_if_eq (tgt := 150) C dX9_separate_133 (by decide) (fun h133 => ?_) (fun h133 => ?_)
        · have hm := ift hm h133
          exact g_sub [0, 1, 2, 3, 4] rfl (g_pc rfl (J150 l4 r130.2 hm))
        · have hm := ife hm h133
          refine g_aload_n C 0 dX9_separate_136 rfl rfl ?_
          refine g_getr (k := 0) (k' := 0) C (by decide) kf_X9_40 rfl rfl dX9_separate_137 ?_
          refine g_aload_n C 0 dX9_separate_140 rfl rfl ?_
          refine g_getr (k := 0) (k' := 1) C (by decide) kf_X9_44 rfl rfl dX9_separate_141 ?_
          obtain ⟨r144, hr144, hm⟩ := bnd_some hm
          refine g_callVv (As := [vR 1 1]) (rest := []) C lk_X9_334 (k_X1_become X.2.1 G hl hG fu 0 1 r130.2 r144 ((hG _ hk0).2 4 1 0 0 rfl) ((hG _ hk0).2 5 1 1 0 rfl) hr144) (by decide) rfl rfl rfl (Nat.le_of_ble_eq_true rfl) ⟨Nat.le_of_ble_eq_true rfl, Nat.le_of_ble_eq_true rfl⟩ dX9_separate_144 ?_
          refine g_iload C 4 dX9_separate_147 rfl ?_
          obtain rfl := Option.some.inj hm
          have e87 := K87.2 _ rfl
          subst e87
          obtain rfl := Option.some.inj hk87
          exact g_iret C dX9_separate_149
  unfold f_X9_separate at hm
  refine g_aload_n C 0 dX9_separate_0 rfl rfl ?_
  refine g_iload_n C 1 dX9_separate_1 rfl rfl ?_
  refine g_iload_n C 2 dX9_separate_2 rfl rfl ?_
  obtain ⟨⟨x3 | z3, n3⟩, hr3, hm⟩ := bnd_some hm
  · refine g_callVv (As := [vI l1, vI l2]) (rest := []) C lk_X9_120 (k_X9_requireParallel X.2.1 G hl hG fu l1 l2 M (Sum.inl x3, n3) hk0 hr3) (by decide) rfl rfl rfl (Nat.le_of_ble_eq_true rfl) ⟨Nat.le_of_ble_eq_true rfl, Nat.le_of_ble_eq_true rfl⟩ dX9_separate_3 ?_
    refine g_aload_n C 0 dX9_separate_6 rfl rfl ?_
    refine g_getr (k := 0) (k' := 0) C (by decide) kf_X9_12 rfl rfl dX9_separate_7 ?_
    obtain ⟨r10, hr10, hm⟩ := bnd_some hm
    refine g_callVi (As := []) (rest := []) C lk_X9_87 (k_X2_arrowTotal X.2.1 G hl hG fu 0 n3 r10 ((hG _ hk0).2 0 2 0 0 rfl) hr10) (by decide) rfl rfl rfl (Nat.le_of_ble_eq_true rfl) ⟨Nat.le_of_ble_eq_true rfl, Nat.le_of_ble_eq_true rfl⟩ dX9_separate_10 ?_
    refine g_bipush (v := 6) C dX9_separate_13 rfl ?_
    refine g_icmp_le (tgt := 29) C dX9_separate_15 (by decide) (fun h15 => ?_) (fun h15 => ?_)
    · have hm := ift hm h15
      refine g_aload_n C 0 dX9_separate_29 rfl rfl ?_
      refine g_getr (k := 0) (k' := 0) C (by decide) kf_X9_33 rfl rfl dX9_separate_30 ?_
      refine g_aload_n C 0 dX9_separate_33 rfl rfl ?_
      refine g_getr (k := 0) (k' := 0) C (by decide) kf_X9_26 rfl rfl dX9_separate_34 ?_
      refine g_aload_n C 0 dX9_separate_37 rfl rfl ?_
      refine g_getr (k := 0) (k' := 0) C (by decide) kf_X9_19 rfl rfl dX9_separate_38 ?_
      obtain ⟨r41, hr41, hm⟩ := bnd_some hm
      refine g_callVv (As := [vR 6 0, vR 0 0]) (rest := []) C lk_X9_210 (k_X5_refresh X.2.1 G hl hG fu 0 r10.2 r41 ((hG _ hk0).2 3 5 0 0 rfl) ((hG _ hk0).2 2 6 0 0 rfl) ((hG _ hk0).2 1 0 0 0 rfl) hr41) (by decide) rfl rfl rfl (Nat.le_of_ble_eq_true rfl) ⟨Nat.le_of_ble_eq_true rfl, Nat.le_of_ble_eq_true rfl⟩ dX9_separate_41 ?_
      refine g_aload_n C 0 dX9_separate_44 rfl rfl ?_
      refine g_getr (k := 0) (k' := 0) C (by decide) kf_X9_33 rfl rfl dX9_separate_45 ?_
      refine g_iload_n C 1 dX9_separate_48 rfl rfl ?_
      obtain ⟨r49, hr49, hm⟩ := bnd_some hm
      refine g_callVi (As := [vI l1]) (rest := []) C lk_X9_214 (k_X5_className X.2.1 G hl hG fu l1 r41 r49 ((hG _ hk0).2 3 5 0 0 rfl) hr49) (by decide) rfl rfl rfl (Nat.le_of_ble_eq_true rfl) ⟨Nat.le_of_ble_eq_true rfl, Nat.le_of_ble_eq_true rfl⟩ dX9_separate_49 ?_
      refine g_aload_n C 0 dX9_separate_52 rfl rfl ?_
      refine g_getr (k := 0) (k' := 0) C (by decide) kf_X9_33 rfl rfl dX9_separate_53 ?_
      refine g_iload_n C 2 dX9_separate_56 rfl rfl ?_
      obtain ⟨r57, hr57, hm⟩ := bnd_some hm
      refine g_callVi (As := [vI l2]) (rest := [vI r49.1]) C lk_X9_214 (k_X5_className X.2.1 G hl hG fu l2 r49.2 r57 ((hG _ hk0).2 3 5 0 0 rfl) hr57) (by decide) rfl rfl rfl (Nat.le_of_ble_eq_true rfl) ⟨Nat.le_of_ble_eq_true rfl, Nat.le_of_ble_eq_true rfl⟩ dX9_separate_57 ?_
      refine g_icmp_ne (tgt := 65) C dX9_separate_60 (by decide) (fun h60 => ?_) (fun h60 => ?_)
      · have hm := ife hm h60
        refine g_aload_n C 0 dX9_separate_65 rfl rfl ?_
        refine g_getr (k := 0) (k' := 1) C (by decide) kf_X9_44 rfl rfl dX9_separate_66 ?_
        obtain ⟨r69, hr69, hm⟩ := bnd_some hm
        refine g_callVv (As := []) (rest := []) C lk_X9_65 (k_X1_clear X.2.1 G hl hG fu 1 r57.2 r69 ((hG _ hk0).2 5 1 1 0 rfl) hr69) (by decide) rfl rfl rfl (Nat.le_of_ble_eq_true rfl) ⟨Nat.le_of_ble_eq_true rfl, Nat.le_of_ble_eq_true rfl⟩ dX9_separate_69 ?_
        refine g_iconst (v := 1) C dX9_separate_72 rfl ?_
        refine g_iconst (v := 2) C dX9_separate_73 rfl ?_
        refine g_aload_n C 0 dX9_separate_74 rfl rfl ?_
        refine g_getr (k := 0) (k' := 0) C (by decide) kf_X9_12 rfl rfl dX9_separate_75 ?_
        obtain ⟨r78, hr78, hm⟩ := bnd_some hm
        refine g_callVi (As := []) (rest := [vI (2 : Int32), vI (1 : Int32)]) C lk_X9_87 (k_X2_arrowTotal X.2.1 G hl hG fu 0 r69 r78 ((hG _ hk0).2 0 2 0 0 rfl) hr78) (by decide) rfl rfl rfl (Nat.le_of_ble_eq_true rfl) ⟨Nat.le_of_ble_eq_true rfl, Nat.le_of_ble_eq_true rfl⟩ dX9_separate_78 ?_
        refine g_imul C dX9_separate_81 ?_
        refine g_ishl C dX9_separate_82 ?_
        refine g_istore_n (ls' := [(3, vI ((1 : Int32) <<< (((2 : Int32) * r78.1) &&& 31))), (0, vR 9 0), (1, vI l1), (2, vI l2)]) C dX9_separate_83 rfl (by decide) rfl ?_
        refine g_iconst (v := 0) C dX9_separate_84 rfl ?_
        refine g_istore (ls' := [(4, vI (0 : Int32)), (3, vI ((1 : Int32) <<< (((2 : Int32) * r78.1) &&& 31))), (0, vR 9 0), (1, vI l1), (2, vI l2)]) C dX9_separate_85 (by decide) rfl ?_
        exact g_sub [2, 3, 4, 1, 0] rfl (g_pc rfl (J87 l1 l2 ((1 : Int32) <<< (((2 : Int32) * r78.1) &&& 31)) (0 : Int32) r78.2 hm))
      · have hm := ift hm h60
        refine g_iconst (v := -1) C dX9_separate_63 rfl ?_
        obtain rfl := Option.some.inj hm
        exact g_iret C dX9_separate_64
    · have hm := ife hm h15
      obtain rfl := Option.some.inj hm
      exact g_throwW (o := .inl none) (E := "java/lang/IllegalStateException") (d := 8) C tk_X9_90_94 (by decide +kernel : ("ArrowDiagrams", 321, "there are more than 6 arrows") ∈ strs) (by decide) rfl dX9_separate_18 dX9_separate_21 dX9_separate_22 dX9_separate_25 dX9_separate_28
  · skip
    obtain rfl := Option.some.inj hm
    exact g_callVx (E := exN z3) (As := [vI l1, vI l2]) (rest := []) C lk_X9_120 (k_X9_requireParallel X.2.1 G hl hG fu l1 l2 M (Sum.inr z3, n3) hk0 hr3) (by decide) rfl rfl rfl (Nat.le_of_ble_eq_true rfl) ⟨Nat.le_of_ble_eq_true rfl, Nat.le_of_ble_eq_true rfl⟩ dX9_separate_3

/-! models and contracts, by program (wip/whole/emit.py): X9_sizeAtEnd, X9_sizeAtStart, X9_sources, X9_isProduct, X9_isSquare, X9_sameBehind, X9_isPullback, X9_isEqualizer, X9_doubleBits, X9_digest, X10_putPath, X10_goOn, X10_layPaths, X10_fresh -/
def f_X9_sizeAtEnd (fu : Nat) (l1 : Int32) (M : Mem) : Option (Int32 × Mem) :=
  (f_X2_to fu 0 l1 M).bind (fun r9 => (f_X1_size fu 0 r9.1 r9.2).bind (fun r12 => some (r12.1, r12.2)))
set_option maxHeartbeats 4000000 in
set_option maxRecDepth 100000 in
theorem k_X9_sizeAtEnd (l : Launch) (G : GE) (hl : l.stackTraces = false) (hG : GOK G) (fu : Nat) (l1 : Int32) (M : Mem) (res : Int32 × Mem) (hk0 : (9, 0) ∈ gids G) (hm : f_X9_sizeAtEnd fu l1 M = some res) : CT l G yX9_sizeAtEnd cX9_sizeAtEnd 2 (some .int) 2 [vR 9 0, vI l1] M (.inl (some (vI res.1))) res.2 := by
  refine ct_of [(0, vR 9 0), (1, vI l1)] (by decide +kernel) hl hG (Nat.le_of_ble_eq_true rfl) rfl (List.forall_mem_cons.mpr ⟨Or.inl hk0, List.forall_mem_cons.mpr ⟨trivial, fun _ h => nomatch h⟩⟩) (List.forall_mem_cons.mpr ⟨Or.inl hk0, List.forall_mem_cons.mpr ⟨trivial, fun _ h => nomatch h⟩⟩) (fun X hX C => ?_)
  subst hX
  have Cl := C
  unfold f_X9_sizeAtEnd at hm
  refine g_aload_n C 0 dX9_sizeAtEnd_0 rfl rfl ?_
  refine g_getr (k := 0) (k' := 0) C (by decide) kf_X9_40 rfl rfl dX9_sizeAtEnd_1 ?_
  refine g_aload_n C 0 dX9_sizeAtEnd_4 rfl rfl ?_
  refine g_getr (k := 0) (k' := 0) C (by decide) kf_X9_12 rfl rfl dX9_sizeAtEnd_5 ?_
  refine g_iload_n C 1 dX9_sizeAtEnd_8 rfl rfl ?_
  obtain ⟨r9, hr9, hm⟩ := bnd_some hm
  refine g_callVi (As := [vI l1]) (rest := [vR 1 0]) C lk_X9_296 (k_X2_to X.2.1 G hl hG fu 0 l1 M r9 ((hG _ hk0).2 0 2 0 0 rfl) hr9) (by decide) rfl rfl rfl (Nat.le_of_ble_eq_true rfl) ⟨Nat.le_of_ble_eq_true rfl, Nat.le_of_ble_eq_true rfl⟩ dX9_sizeAtEnd_9 ?_
  obtain ⟨r12, hr12, hm⟩ := bnd_some hm
  refine g_callVi (As := [vI r9.1]) (rest := []) C lk_X9_224 (k_X1_size X.2.1 G hl hG fu 0 r9.1 r9.2 r12 ((hG _ hk0).2 4 1 0 0 rfl) hr12) (by decide) rfl rfl rfl (Nat.le_of_ble_eq_true rfl) ⟨Nat.le_of_ble_eq_true rfl, Nat.le_of_ble_eq_true rfl⟩ dX9_sizeAtEnd_12 ?_
  obtain rfl := Option.some.inj hm
  exact g_iret C dX9_sizeAtEnd_15
def f_X9_sizeAtStart (fu : Nat) (l1 : Int32) (M : Mem) : Option (Int32 × Mem) :=
  (f_X2_from fu 0 l1 M).bind (fun r9 => (f_X1_size fu 0 r9.1 r9.2).bind (fun r12 => some (r12.1, r12.2)))
set_option maxHeartbeats 4000000 in
set_option maxRecDepth 100000 in
theorem k_X9_sizeAtStart (l : Launch) (G : GE) (hl : l.stackTraces = false) (hG : GOK G) (fu : Nat) (l1 : Int32) (M : Mem) (res : Int32 × Mem) (hk0 : (9, 0) ∈ gids G) (hm : f_X9_sizeAtStart fu l1 M = some res) : CT l G yX9_sizeAtStart cX9_sizeAtStart 2 (some .int) 2 [vR 9 0, vI l1] M (.inl (some (vI res.1))) res.2 := by
  refine ct_of [(0, vR 9 0), (1, vI l1)] (by decide +kernel) hl hG (Nat.le_of_ble_eq_true rfl) rfl (List.forall_mem_cons.mpr ⟨Or.inl hk0, List.forall_mem_cons.mpr ⟨trivial, fun _ h => nomatch h⟩⟩) (List.forall_mem_cons.mpr ⟨Or.inl hk0, List.forall_mem_cons.mpr ⟨trivial, fun _ h => nomatch h⟩⟩) (fun X hX C => ?_)
  subst hX
  have Cl := C
  unfold f_X9_sizeAtStart at hm
  refine g_aload_n C 0 dX9_sizeAtStart_0 rfl rfl ?_
  refine g_getr (k := 0) (k' := 0) C (by decide) kf_X9_40 rfl rfl dX9_sizeAtStart_1 ?_
  refine g_aload_n C 0 dX9_sizeAtStart_4 rfl rfl ?_
  refine g_getr (k := 0) (k' := 0) C (by decide) kf_X9_12 rfl rfl dX9_sizeAtStart_5 ?_
  refine g_iload_n C 1 dX9_sizeAtStart_8 rfl rfl ?_
  obtain ⟨r9, hr9, hm⟩ := bnd_some hm
  refine g_callVi (As := [vI l1]) (rest := [vR 1 0]) C lk_X9_191 (k_X2_from X.2.1 G hl hG fu 0 l1 M r9 ((hG _ hk0).2 0 2 0 0 rfl) hr9) (by decide) rfl rfl rfl (Nat.le_of_ble_eq_true rfl) ⟨Nat.le_of_ble_eq_true rfl, Nat.le_of_ble_eq_true rfl⟩ dX9_sizeAtStart_9 ?_
  obtain ⟨r12, hr12, hm⟩ := bnd_some hm
  refine g_callVi (As := [vI r9.1]) (rest := []) C lk_X9_224 (k_X1_size X.2.1 G hl hG fu 0 r9.1 r9.2 r12 ((hG _ hk0).2 4 1 0 0 rfl) hr12) (by decide) rfl rfl rfl (Nat.le_of_ble_eq_true rfl) ⟨Nat.le_of_ble_eq_true rfl, Nat.le_of_ble_eq_true rfl⟩ dX9_sizeAtStart_12 ?_
  obtain rfl := Option.some.inj hm
  exact g_iret C dX9_sizeAtStart_15
def f_X9_sources_j48 (fu : Nat)  (l1 : Int32) (l2 : Int32) (l3 : Int32) (l4 : Int32) (l5 : Int32) (l6 : Int32) (M : Mem) : Option ((Int32 × Int32 × Mem) ⊕ (Int32 × Mem)) :=
  some (Sum.inl (l5, l6 + (1 : Int32), M))
def f_X9_sources_b6 (fu : Nat)  (l1 : Int32) (l2 : Int32) (l3 : Int32) (l4 : Int32) (l5 : Int32) (l6 : Int32) (M : Mem) : Option ((Int32 × Int32 × Mem) ⊕ (Int32 × Mem)) :=
  (f_X9_sizeAtStart fu l1 M).bind (fun r10 => if r10.1 ≤ l6 then some (Sum.inr (l5, r10.2)) else (f_X1_value fu 0 l1 l6 r10.2).bind (fun r23 => if r23.1 = l2 then (f_X1_value fu 0 l3 l6 r23.2).bind (fun r37 => if r37.1 = l4 then f_X9_sources_j48 fu l1 l2 l3 l4 (l5 + (1 : Int32)) l6 r37.2 else f_X9_sources_j48 fu l1 l2 l3 l4 l5 l6 r37.2) else f_X9_sources_j48 fu l1 l2 l3 l4 l5 l6 r23.2))
def f_X9_sources_h6 (fu : Nat)   (l1 : Int32) (l2 : Int32) (l3 : Int32) (l4 : Int32) (l5 : Int32) (l6 : Int32) (M : Mem) : Option (Int32 × Mem) :=
  (lp_run (fun s => f_X9_sources_b6 fu  l1 l2 l3 l4 s.1 s.2.1 s.2.2) fu (l5, l6, M)).bind (fun r6 => match r6 with
    | (l5, M) => some (l5, M))
def f_X9_sources (fu : Nat) (l1 : Int32) (l2 : Int32) (l3 : Int32) (l4 : Int32) (M : Mem) : Option (Int32 × Mem) :=
  f_X9_sources_h6 fu l1 l2 l3 l4 (0 : Int32) (0 : Int32) M
set_option maxHeartbeats 4000000 in
set_option maxRecDepth 100000 in
theorem k_X9_sources (l : Launch) (G : GE) (hl : l.stackTraces = false) (hG : GOK G) (fu : Nat) (l1 : Int32) (l2 : Int32) (l3 : Int32) (l4 : Int32) (M : Mem) (res : Int32 × Mem) (hk0 : (9, 0) ∈ gids G) (hm : f_X9_sources fu l1 l2 l3 l4 M = some res) : CT l G yX9_sources cX9_sources 7 (some .int) 3 [vR 9 0, vI l1, vI l2, vI l3, vI l4] M (.inl (some (vI res.1))) res.2 := by
  refine ct_of [(0, vR 9 0), (1, vI l1), (2, vI l2), (3, vI l3), (4, vI l4)] (by decide +kernel) hl hG (Nat.le_of_ble_eq_true rfl) rfl (List.forall_mem_cons.mpr ⟨Or.inl hk0, List.forall_mem_cons.mpr ⟨trivial, List.forall_mem_cons.mpr ⟨trivial, List.forall_mem_cons.mpr ⟨trivial, List.forall_mem_cons.mpr ⟨trivial, fun _ h => nomatch h⟩⟩⟩⟩⟩) (List.forall_mem_cons.mpr ⟨Or.inl hk0, List.forall_mem_cons.mpr ⟨trivial, List.forall_mem_cons.mpr ⟨trivial, List.forall_mem_cons.mpr ⟨trivial, List.forall_mem_cons.mpr ⟨trivial, fun _ h => nomatch h⟩⟩⟩⟩⟩) (fun X hX C => ?_)
  subst hX
  have Cl := C
  have J6 : ∀ (l1 : Int32) (l2 : Int32) (l3 : Int32) (l4 : Int32) (l5 : Int32) (l6 : Int32) (M : Mem), f_X9_sources_h6 fu   l1 l2 l3 l4 l5 l6 M = some res → GW G X 7 (QX G X (.inl (some (vI res.1))) res.2) 6 [(0, vR 9 0), (1, vI l1), (2, vI l2), (3, vI l3), (4, vI l4), (5, vI l5), (6, vI l6)] [] M := by
    intro l1 l2 l3 l4 l5 l6 M hm
    unfold f_X9_sources_h6 at hm
    obtain ⟨r6, hL6, hk6⟩ := bnd_some hm
    have hx6 : ∀ (l5 : Int32) (M : Mem), (l5, M) = r6 → GW G X 7 (QX G X (.inl (some (vI res.1))) res.2) 54 [(5, vI l5)] [] M := by
      intro l5 M he
      subst he
      have hm := hk6
      try dsimp only at hm
      refine g_iload C 0 dX9_sources_54 rfl ?_
      obtain rfl := Option.some.inj hm
      exact g_iret C dX9_sources_56
    refine lp_ind2 (P := (fun l5 l6 M => GW G X 7 (QX G X (.inl (some (vI res.1))) res.2) 6 [(0, vR 9 0), (1, vI l1), (2, vI l2), (3, vI l3), (4, vI l4), (5, vI l5), (6, vI l6)] [] M)) (r := r6) ?_ fu l5 l6 M hL6
    intro l5 l6 M o6 hm K6
    have J48 : ∀ (l5 : Int32) (l6 : Int32) (M : Mem), f_X9_sources_j48 fu  l1 l2 l3 l4 l5 l6 M = some o6 → GW G X 7 (QX G X (.inl (some (vI res.1))) res.2) 48 [(0, vR 9 0), (1, vI l1), (2, vI l2), (3, vI l3), (4, vI l4), (5, vI l5), (6, vI l6)] [] M := by
      intro l5 l6 M hm
      unfold f_X9_sources_j48 at hm
      refine g_iinc (ls' := [(6, vI (l6 + (1 : Int32))), (0, vR 9 0), (1, vI l1), (2, vI l2), (3, vI l3), (4, vI l4), (5, vI l5)]) (v := l6 + (1 : Int32)) C 6 dX9_sources_48 rfl (iv_p1 _) (by decide) rfl ?_
      refine g_goto (tgt := 6) C dX9_sources_51 (by decide) ?_
      obtain rfl := Option.some.inj hm
      exact g_sub [1, 2, 3, 4, 5, 6, 0] rfl (g_pc rfl (K6.1 l5 (l6 + (1 : Int32)) M rfl))
    unfold f_X9_sources_b6 at hm
    refine g_iload C 6 dX9_sources_6 rfl ?_
    refine g_aload_n C 0 dX9_sources_8 rfl rfl ?_
    refine g_iload_n C 1 dX9_sources_9 rfl rfl ?_
    obtain ⟨r10, hr10, hm⟩ := bnd_some hm
    refine g_callVi (As := [vI l1]) (rest := [vI l6]) C lk_X9_422 (k_X9_sizeAtStart X.2.1 G hl hG fu l1 M r10 hk0 hr10) (by decide) rfl rfl rfl (Nat.le_of_ble_eq_true rfl) ⟨Nat.le_of_ble_eq_true rfl, Nat.le_of_ble_eq_true rfl⟩ dX9_sources_10 ?_
    refine g_icmp_ge (tgt := 54) C dX9_sources_13 (by decide) (fun h13 => ?_) (fun h13 => ?_)
    · have hm := ift hm h13
      obtain rfl := Option.some.inj hm
      exact g_sub [5] rfl (g_pc rfl (hx6 l5 r10.2 (K6.2 _ rfl)))
    · have hm := ife hm h13
      refine g_aload_n C 0 dX9_sources_16 rfl rfl ?_
      refine g_getr (k := 0) (k' := 0) C (by decide) kf_X9_40 rfl rfl dX9_sources_17 ?_
      refine g_iload_n C 1 dX9_sources_20 rfl rfl ?_
      refine g_iload C 6 dX9_sources_21 rfl ?_
      obtain ⟨r23, hr23, hm⟩ := bnd_some hm
      refine g_callVi (As := [vI l1, vI l6]) (rest := []) C lk_X9_355 (k_X1_value X.2.1 G hl hG fu 0 l1 l6 r10.2 r23 ((hG _ hk0).2 4 1 0 0 rfl) hr23) (by decide) rfl rfl rfl (Nat.le_of_ble_eq_true rfl) ⟨Nat.le_of_ble_eq_true rfl, Nat.le_of_ble_eq_true rfl⟩ dX9_sources_23 ?_
      refine g_iload_n C 2 dX9_sources_26 rfl rfl ?_
      refine g_icmp_ne (tgt := 48) C dX9_sources_27 (by decide) (fun h27 => ?_) (fun h27 => ?_)
      · have hm := ife hm h27
        exact g_sub [0, 1, 2, 3, 4, 5, 6] rfl (g_pc rfl (J48 l5 l6 r23.2 hm))
      · have hm := ift hm h27
        refine g_aload_n C 0 dX9_sources_30 rfl rfl ?_
        refine g_getr (k := 0) (k' := 0) C (by decide) kf_X9_40 rfl rfl dX9_sources_31 ?_
        refine g_iload_n C 3 dX9_sources_34 rfl rfl ?_
        refine g_iload C 6 dX9_sources_35 rfl ?_
        obtain ⟨r37, hr37, hm⟩ := bnd_some hm
        refine g_callVi (As := [vI l3, vI l6]) (rest := []) C lk_X9_355 (k_X1_value X.2.1 G hl hG fu 0 l3 l6 r23.2 r37 ((hG _ hk0).2 4 1 0 0 rfl) hr37) (by decide) rfl rfl rfl (Nat.le_of_ble_eq_true rfl) ⟨Nat.le_of_ble_eq_true rfl, Nat.le_of_ble_eq_true rfl⟩ dX9_sources_37 ?_
        refine g_iload C 4 dX9_sources_40 rfl ?_
        refine g_icmp_ne (tgt := 48) C dX9_sources_42 (by decide) (fun h42 => ?_) (fun h42 => ?_)
        · have hm := ife hm h42
          exact g_sub [0, 1, 2, 3, 4, 5, 6] rfl (g_pc rfl (J48 l5 l6 r37.2 hm))
        · have hm := ift hm h42
          refine g_iinc (ls' := [(5, vI (l5 + (1 : Int32))), (0, vR 9 0), (1, vI l1), (2, vI l2), (3, vI l3), (4, vI l4), (6, vI l6)]) (v := l5 + (1 : Int32)) C 5 dX9_sources_45 rfl (iv_p1 _) (by decide) rfl ?_
          exact g_sub [1, 2, 3, 4, 5, 0, 6] rfl (g_pc rfl (J48 (l5 + (1 : Int32)) l6 r37.2 hm))
  unfold f_X9_sources at hm
  refine g_iconst (v := 0) C dX9_sources_0 rfl ?_
  refine g_istore (ls' := [(5, vI (0 : Int32)), (0, vR 9 0), (1, vI l1), (2, vI l2), (3, vI l3), (4, vI l4)]) C dX9_sources_1 (by decide) rfl ?_
  refine g_iconst (v := 0) C dX9_sources_3 rfl ?_
  refine g_istore (ls' := [(6, vI (0 : Int32)), (5, vI (0 : Int32)), (0, vR 9 0), (1, vI l1), (2, vI l2), (3, vI l3), (4, vI l4)]) C dX9_sources_4 (by decide) rfl ?_
  exact g_sub [2, 3, 4, 5, 6, 1, 0] rfl (g_pc rfl (J6 l1 l2 l3 l4 (0 : Int32) (0 : Int32) M hm))
def f_X9_isProduct_b59 (fu : Nat)  (l1 : Int32) (l2 : Int32) (l3 : Int32) (l4 : Int32) (M : Mem) : Option ((Int32 × Mem) ⊕ ((Mem) ⊕ ((Int32 ⊕ Nat) × Mem))) :=
  (f_X9_sizeAtEnd fu l2 M).bind (fun r63 => if r63.1 ≤ l4 then some (Sum.inr (Sum.inl r63.2)) else (f_X9_sources fu l1 l3 l2 l4 r63.2).bind (fun r75 => if r75.1 = (1 : Int32) then some (Sum.inl (l4 + (1 : Int32), r75.2)) else some (Sum.inr (Sum.inr (Sum.inl (0 : Int32), r75.2)))))
def f_X9_isProduct_h59 (fu : Nat)  (l1 : Int32) (l2 : Int32) (l3 : Int32) (l4 : Int32) (M : Mem) : Option ((Int32 × Mem) ⊕ ((Mem) ⊕ ((Int32 ⊕ Nat) × Mem))) :=
  (lp_run (fun s => f_X9_isProduct_b59 fu  l1 l2 l3 s.1 s.2) fu (l4, M)).bind (fun r59 => match r59 with
    | Sum.inl M => some (Sum.inl (l3 + (1 : Int32), M))
    | Sum.inr q59 => some (Sum.inr (Sum.inr q59)))
def f_X9_isProduct_b47 (fu : Nat)  (l1 : Int32) (l2 : Int32) (l3 : Int32) (M : Mem) : Option ((Int32 × Mem) ⊕ ((Mem) ⊕ ((Int32 ⊕ Nat) × Mem))) :=
  (f_X9_sizeAtEnd fu l1 M).bind (fun r50 => if r50.1 ≤ l3 then some (Sum.inr (Sum.inl r50.2)) else f_X9_isProduct_h59 fu l1 l2 l3 (0 : Int32) r50.2)
def f_X9_isProduct_h47 (fu : Nat)   (l1 : Int32) (l2 : Int32) (l3 : Int32) (M : Mem) : Option ((Int32 ⊕ Nat) × Mem) :=
  (lp_run (fun s => f_X9_isProduct_b47 fu  l1 l2 s.1 s.2) fu (l3, M)).bind (fun r47 => match r47 with
    | Sum.inl M => some (Sum.inl (1 : Int32), M)
    | Sum.inr q47 => some q47)
def f_X9_isProduct (fu : Nat) (l1 : Int32) (l2 : Int32) (M : Mem) : Option ((Int32 ⊕ Nat) × Mem) :=
  (f_X9_requireArrow fu l1 M).bind (fun r2 => match r2 with
    | (Sum.inl x2, n2) => (f_X9_requireArrow fu l2 n2).bind (fun r7 => match r7 with
    | (Sum.inl x7, n7) => if l1 = l2 then some (Sum.inr 1, n7) else (f_X2_from fu 0 l1 n7).bind (fun r20 => (f_X2_from fu 0 l2 r20.2).bind (fun r28 => if r20.1 = r28.1 then f_X9_isProduct_h47 fu l1 l2 (0 : Int32) r28.2 else some (Sum.inr 1, r28.2)))
    | (Sum.inr z7, n7) => some (Sum.inr z7, n7))
    | (Sum.inr z2, n2) => some (Sum.inr z2, n2))
set_option maxHeartbeats 4000000 in
set_option maxRecDepth 100000 in
theorem k_X9_isProduct (l : Launch) (G : GE) (hl : l.stackTraces = false) (hG : GOK G) (fu : Nat) (l1 : Int32) (l2 : Int32) (M : Mem) (res : (Int32 ⊕ Nat) × Mem) (hk0 : (9, 0) ∈ gids G) (hm : f_X9_isProduct fu l1 l2 M = some res) : CT l G yX9_isProduct cX9_isProduct 5 (some .boolean) 7 [vR 9 0, vI l1, vI l2] M (oI res.1) res.2 := by
  refine ct_of [(0, vR 9 0), (1, vI l1), (2, vI l2)] (by decide +kernel) hl hG (Nat.le_of_ble_eq_true rfl) rfl (List.forall_mem_cons.mpr ⟨Or.inl hk0, List.forall_mem_cons.mpr ⟨trivial, List.forall_mem_cons.mpr ⟨trivial, fun _ h => nomatch h⟩⟩⟩) (List.forall_mem_cons.mpr ⟨Or.inl hk0, List.forall_mem_cons.mpr ⟨trivial, List.forall_mem_cons.mpr ⟨trivial, fun _ h => nomatch h⟩⟩⟩) (fun X hX C => ?_)
  subst hX
  have Cl := C
  have J47 : ∀ (l1 : Int32) (l2 : Int32) (l3 : Int32) (M : Mem), f_X9_isProduct_h47 fu   l1 l2 l3 M = some res → GW G X 5 (QX G X (oI res.1) res.2) 47 [(0, vR 9 0), (1, vI l1), (2, vI l2), (3, vI l3)] [] M := by
    intro l1 l2 l3 M hm
    unfold f_X9_isProduct_h47 at hm
    obtain ⟨r47, hL47, hk47⟩ := bnd_some hm
    have hx47 : ∀ (M : Mem), Sum.inl M = r47 → GW G X 5 (QX G X (oI res.1) res.2) 96 [] [] M := by
      intro M he
      subst he
      have hm := hk47
      try dsimp only at hm
      refine g_iconst (v := 1) C dX9_isProduct_96 rfl ?_
      obtain rfl := Option.some.inj hm
      exact g_zret C (Or.inr rfl) dX9_isProduct_97
    refine lp_ind1 (P := (fun l3 M => GW G X 5 (QX G X (oI res.1) res.2) 47 [(0, vR 9 0), (1, vI l1), (2, vI l2), (3, vI l3)] [] M)) (r := r47) ?_ fu l3 M hL47
    intro l3 M o47 hm K47
    have J59 : ∀ (l3 : Int32) (l4 : Int32) (M : Mem), f_X9_isProduct_h59 fu  l1 l2 l3 l4 M = some o47 → GW G X 5 (QX G X (oI res.1) res.2) 59 [(0, vR 9 0), (1, vI l1), (2, vI l2), (3, vI l3), (4, vI l4)] [] M := by
      intro l3 l4 M hm
      unfold f_X9_isProduct_h59 at hm
      obtain ⟨r59, hL59, hk59⟩ := bnd_some hm
      have hx59 : ∀ (M : Mem), Sum.inl M = r59 → GW G X 5 (QX G X (oI res.1) res.2) 90 [(0, vR 9 0), (1, vI l1), (2, vI l2), (3, vI l3)] [] M := by
        intro M he
        subst he
        have hm := hk59
        try dsimp only at hm
        refine g_iinc (ls' := [(3, vI (l3 + (1 : Int32))), (0, vR 9 0), (1, vI l1), (2, vI l2)]) (v := l3 + (1 : Int32)) C 3 dX9_isProduct_90 rfl (iv_p1 _) (by decide) rfl ?_
        refine g_goto (tgt := 47) C dX9_isProduct_93 (by decide) ?_
        obtain rfl := Option.some.inj hm
        exact g_sub [1, 2, 3, 0] rfl (g_pc rfl (K47.1 (l3 + (1 : Int32)) M rfl))
      refine lp_ind1 (P := (fun l4 M => GW G X 5 (QX G X (oI res.1) res.2) 59 [(0, vR 9 0), (1, vI l1), (2, vI l2), (3, vI l3), (4, vI l4)] [] M)) (r := r59) ?_ fu l4 M hL59
      intro l4 M o59 hm K59
      unfold f_X9_isProduct_b59 at hm
      refine g_iload C 4 dX9_isProduct_59 rfl ?_
      refine g_aload_n C 0 dX9_isProduct_61 rfl rfl ?_
      refine g_iload_n C 2 dX9_isProduct_62 rfl rfl ?_
      obtain ⟨r63, hr63, hm⟩ := bnd_some hm
      refine g_callVi (As := [vI l2]) (rest := [vI l4]) C lk_X9_339 (k_X9_sizeAtEnd X.2.1 G hl hG fu l2 M r63 hk0 hr63) (by decide) rfl rfl rfl (Nat.le_of_ble_eq_true rfl) ⟨Nat.le_of_ble_eq_true rfl, Nat.le_of_ble_eq_true rfl⟩ dX9_isProduct_63 ?_
      refine g_icmp_ge (tgt := 90) C dX9_isProduct_66 (by decide) (fun h66 => ?_) (fun h66 => ?_)
      · have hm := ift hm h66
        obtain rfl := Option.some.inj hm
        exact g_sub [0, 1, 2, 3] rfl (g_pc rfl (hx59 r63.2 (K59.2 _ rfl)))
      · have hm := ife hm h66
        refine g_aload_n C 0 dX9_isProduct_69 rfl rfl ?_
        refine g_iload_n C 1 dX9_isProduct_70 rfl rfl ?_
        refine g_iload_n C 3 dX9_isProduct_71 rfl rfl ?_
        refine g_iload_n C 2 dX9_isProduct_72 rfl rfl ?_
        refine g_iload C 4 dX9_isProduct_73 rfl ?_
        obtain ⟨r75, hr75, hm⟩ := bnd_some hm
        refine g_callVi (As := [vI l1, vI l3, vI l2, vI l4]) (rest := []) C lk_X9_342 (k_X9_sources X.2.1 G hl hG fu l1 l3 l2 l4 r63.2 r75 hk0 hr75) (by decide) rfl rfl rfl (Nat.le_of_ble_eq_true rfl) ⟨Nat.le_of_ble_eq_true rfl, Nat.le_of_ble_eq_true rfl⟩ dX9_isProduct_75 ?_
        refine g_iconst (v := 1) C dX9_isProduct_78 rfl ?_
        refine g_icmp_eq (tgt := 84) C dX9_isProduct_79 (by decide) (fun h79 => ?_) (fun h79 => ?_)
        · have hm := ift hm h79
          refine g_iinc (ls' := [(4, vI (l4 + (1 : Int32))), (0, vR 9 0), (1, vI l1), (2, vI l2), (3, vI l3)]) (v := l4 + (1 : Int32)) C 4 dX9_isProduct_84 rfl (iv_p1 _) (by decide) rfl ?_
          refine g_goto (tgt := 59) C dX9_isProduct_87 (by decide) ?_
          obtain rfl := Option.some.inj hm
          exact g_sub [1, 2, 3, 4, 0] rfl (g_pc rfl (K59.1 (l4 + (1 : Int32)) r75.2 rfl))
        · have hm := ife hm h79
          refine g_iconst (v := 0) C dX9_isProduct_82 rfl ?_
          obtain rfl := Option.some.inj hm
          have e59 := K59.2 _ rfl
          subst e59
          obtain rfl := Option.some.inj hk59
          have e47 := K47.2 _ rfl
          subst e47
          obtain rfl := Option.some.inj hk47
          exact g_zret C (Or.inl rfl) dX9_isProduct_83
    unfold f_X9_isProduct_b47 at hm
    refine g_iload_n C 3 dX9_isProduct_47 rfl rfl ?_
    refine g_aload_n C 0 dX9_isProduct_48 rfl rfl ?_
    refine g_iload_n C 1 dX9_isProduct_49 rfl rfl ?_
    obtain ⟨r50, hr50, hm⟩ := bnd_some hm
    refine g_callVi (As := [vI l1]) (rest := [vI l3]) C lk_X9_339 (k_X9_sizeAtEnd X.2.1 G hl hG fu l1 M r50 hk0 hr50) (by decide) rfl rfl rfl (Nat.le_of_ble_eq_true rfl) ⟨Nat.le_of_ble_eq_true rfl, Nat.le_of_ble_eq_true rfl⟩ dX9_isProduct_50 ?_
    refine g_icmp_ge (tgt := 96) C dX9_isProduct_53 (by decide) (fun h53 => ?_) (fun h53 => ?_)
    · have hm := ift hm h53
      obtain rfl := Option.some.inj hm
      exact g_sub [] rfl (g_pc rfl (hx47 r50.2 (K47.2 _ rfl)))
    · have hm := ife hm h53
      refine g_iconst (v := 0) C dX9_isProduct_56 rfl ?_
      refine g_istore (ls' := [(4, vI (0 : Int32)), (0, vR 9 0), (1, vI l1), (2, vI l2), (3, vI l3)]) C dX9_isProduct_57 (by decide) rfl ?_
      exact g_sub [1, 2, 3, 4, 0] rfl (g_pc rfl (J59 l3 (0 : Int32) r50.2 hm))
  unfold f_X9_isProduct at hm
  refine g_aload_n C 0 dX9_isProduct_0 rfl rfl ?_
  refine g_iload_n C 1 dX9_isProduct_1 rfl rfl ?_
  obtain ⟨⟨x2 | z2, n2⟩, hr2, hm⟩ := bnd_some hm
  · refine g_callVv (As := [vI l1]) (rest := []) C lk_X9_299 (k_X9_requireArrow X.2.1 G hl hG fu l1 M (Sum.inl x2, n2) hk0 hr2) (by decide) rfl rfl rfl (Nat.le_of_ble_eq_true rfl) ⟨Nat.le_of_ble_eq_true rfl, Nat.le_of_ble_eq_true rfl⟩ dX9_isProduct_2 ?_
    refine g_aload_n C 0 dX9_isProduct_5 rfl rfl ?_
    refine g_iload_n C 2 dX9_isProduct_6 rfl rfl ?_
    obtain ⟨⟨x7 | z7, n7⟩, hr7, hm⟩ := bnd_some hm
    · refine g_callVv (As := [vI l2]) (rest := []) C lk_X9_299 (k_X9_requireArrow X.2.1 G hl hG fu l2 n2 (Sum.inl x7, n7) hk0 hr7) (by decide) rfl rfl rfl (Nat.le_of_ble_eq_true rfl) ⟨Nat.le_of_ble_eq_true rfl, Nat.le_of_ble_eq_true rfl⟩ dX9_isProduct_7 ?_
      refine g_iload_n C 1 dX9_isProduct_10 rfl rfl ?_
      refine g_iload_n C 2 dX9_isProduct_11 rfl rfl ?_
      refine g_icmp_eq (tgt := 34) C dX9_isProduct_12 (by decide) (fun h12 => ?_) (fun h12 => ?_)
      · have hm := ift hm h12
        obtain rfl := Option.some.inj hm
        exact g_throwW (o := .inl none) (E := "java/lang/IllegalArgumentException") (d := 7) C tk_X9_70_74 (by decide +kernel : ("ArrowDiagrams", 337, "they are not two arrows from the same object") ∈ strs) (by decide) rfl dX9_isProduct_34 dX9_isProduct_37 dX9_isProduct_38 dX9_isProduct_41 dX9_isProduct_44
      · have hm := ife hm h12
        refine g_aload_n C 0 dX9_isProduct_15 rfl rfl ?_
        refine g_getr (k := 0) (k' := 0) C (by decide) kf_X9_12 rfl rfl dX9_isProduct_16 ?_
        refine g_iload_n C 1 dX9_isProduct_19 rfl rfl ?_
        obtain ⟨r20, hr20, hm⟩ := bnd_some hm
        refine g_callVi (As := [vI l1]) (rest := []) C lk_X9_191 (k_X2_from X.2.1 G hl hG fu 0 l1 n7 r20 ((hG _ hk0).2 0 2 0 0 rfl) hr20) (by decide) rfl rfl rfl (Nat.le_of_ble_eq_true rfl) ⟨Nat.le_of_ble_eq_true rfl, Nat.le_of_ble_eq_true rfl⟩ dX9_isProduct_20 ?_
        refine g_aload_n C 0 dX9_isProduct_23 rfl rfl ?_
        refine g_getr (k := 0) (k' := 0) C (by decide) kf_X9_12 rfl rfl dX9_isProduct_24 ?_
        refine g_iload_n C 2 dX9_isProduct_27 rfl rfl ?_
        obtain ⟨r28, hr28, hm⟩ := bnd_some hm
        refine g_callVi (As := [vI l2]) (rest := [vI r20.1]) C lk_X9_191 (k_X2_from X.2.1 G hl hG fu 0 l2 r20.2 r28 ((hG _ hk0).2 0 2 0 0 rfl) hr28) (by decide) rfl rfl rfl (Nat.le_of_ble_eq_true rfl) ⟨Nat.le_of_ble_eq_true rfl, Nat.le_of_ble_eq_true rfl⟩ dX9_isProduct_28 ?_
        refine g_icmp_eq (tgt := 45) C dX9_isProduct_31 (by decide) (fun h31 => ?_) (fun h31 => ?_)
        · have hm := ift hm h31
          refine g_iconst (v := 0) C dX9_isProduct_45 rfl ?_
          refine g_istore_n (ls' := [(3, vI (0 : Int32)), (0, vR 9 0), (1, vI l1), (2, vI l2)]) C dX9_isProduct_46 rfl (by decide) rfl ?_
          exact g_sub [1, 2, 3, 0] rfl (g_pc rfl (J47 l1 l2 (0 : Int32) r28.2 hm))
        · have hm := ife hm h31
          obtain rfl := Option.some.inj hm
          exact g_throwW (o := .inl none) (E := "java/lang/IllegalArgumentException") (d := 7) C tk_X9_70_74 (by decide +kernel : ("ArrowDiagrams", 337, "they are not two arrows from the same object") ∈ strs) (by decide) rfl dX9_isProduct_34 dX9_isProduct_37 dX9_isProduct_38 dX9_isProduct_41 dX9_isProduct_44
    · skip
      obtain rfl := Option.some.inj hm
      exact g_callVx (E := exN z7) (As := [vI l2]) (rest := []) C lk_X9_299 (k_X9_requireArrow X.2.1 G hl hG fu l2 n2 (Sum.inr z7, n7) hk0 hr7) (by decide) rfl rfl rfl (Nat.le_of_ble_eq_true rfl) ⟨Nat.le_of_ble_eq_true rfl, Nat.le_of_ble_eq_true rfl⟩ dX9_isProduct_7
  · skip
    obtain rfl := Option.some.inj hm
    exact g_callVx (E := exN z2) (As := [vI l1]) (rest := []) C lk_X9_299 (k_X9_requireArrow X.2.1 G hl hG fu l1 M (Sum.inr z2, n2) hk0 hr2) (by decide) rfl rfl rfl (Nat.le_of_ble_eq_true rfl) ⟨Nat.le_of_ble_eq_true rfl, Nat.le_of_ble_eq_true rfl⟩ dX9_isProduct_2
def f_X9_isSquare (fu : Nat) (l1 : Int32) (l2 : Int32) (l3 : Int32) (l4 : Int32) (M : Mem) : Option (Int32 × Mem) :=
  (f_X2_from fu 0 l2 M).bind (fun r5 => (f_X2_to fu 0 l1 r5.2).bind (fun r13 => if r5.1 = r13.1 then (f_X2_from fu 0 l3 r13.2).bind (fun r24 => (f_X2_from fu 0 l1 r24.2).bind (fun r32 => if r24.1 = r32.1 then (f_X2_from fu 0 l4 r32.2).bind (fun r44 => (f_X2_to fu 0 l3 r44.2).bind (fun r52 => if r44.1 = r52.1 then (f_X2_to fu 0 l4 r52.2).bind (fun r64 => (f_X2_to fu 0 l2 r64.2).bind (fun r72 => if r64.1 = r72.1 then some ((1 : Int32), r72.2) else some ((0 : Int32), r72.2))) else some ((0 : Int32), r52.2))) else some ((0 : Int32), r32.2))) else some ((0 : Int32), r13.2)))
set_option maxHeartbeats 4000000 in
set_option maxRecDepth 100000 in
theorem k_X9_isSquare (l : Launch) (G : GE) (hl : l.stackTraces = false) (hG : GOK G) (fu : Nat) (l1 : Int32) (l2 : Int32) (l3 : Int32) (l4 : Int32) (M : Mem) (res : Int32 × Mem) (hk0 : (9, 0) ∈ gids G) (hm : f_X9_isSquare fu l1 l2 l3 l4 M = some res) : CT l G yX9_isSquare cX9_isSquare 5 (some .boolean) 2 [vR 9 0, vI l1, vI l2, vI l3, vI l4] M (.inl (some (vI res.1))) res.2 := by
  refine ct_of [(0, vR 9 0), (1, vI l1), (2, vI l2), (3, vI l3), (4, vI l4)] (by decide +kernel) hl hG (Nat.le_of_ble_eq_true rfl) rfl (List.forall_mem_cons.mpr ⟨Or.inl hk0, List.forall_mem_cons.mpr ⟨trivial, List.forall_mem_cons.mpr ⟨trivial, List.forall_mem_cons.mpr ⟨trivial, List.forall_mem_cons.mpr ⟨trivial, fun _ h => nomatch h⟩⟩⟩⟩⟩) (List.forall_mem_cons.mpr ⟨Or.inl hk0, List.forall_mem_cons.mpr ⟨trivial, List.forall_mem_cons.mpr ⟨trivial, List.forall_mem_cons.mpr ⟨trivial, List.forall_mem_cons.mpr ⟨trivial, fun _ h => nomatch h⟩⟩⟩⟩⟩) (fun X hX C => ?_)
  subst hX
  have Cl := C
  unfold f_X9_isSquare at hm
  refine g_aload_n C 0 dX9_isSquare_0 rfl rfl ?_
  refine g_getr (k := 0) (k' := 0) C (by decide) kf_X9_12 rfl rfl dX9_isSquare_1 ?_
  refine g_iload_n C 2 dX9_isSquare_4 rfl rfl ?_
  obtain ⟨r5, hr5, hm⟩ := bnd_some hm
  refine g_callVi (As := [vI l2]) (rest := []) C lk_X9_191 (k_X2_from X.2.1 G hl hG fu 0 l2 M r5 ((hG _ hk0).2 0 2 0 0 rfl) hr5) (by decide) rfl rfl rfl (Nat.le_of_ble_eq_true rfl) ⟨Nat.le_of_ble_eq_true rfl, Nat.le_of_ble_eq_true rfl⟩ dX9_isSquare_5 ?_
  refine g_aload_n C 0 dX9_isSquare_8 rfl rfl ?_
  refine g_getr (k := 0) (k' := 0) C (by decide) kf_X9_12 rfl rfl dX9_isSquare_9 ?_
  refine g_iload_n C 1 dX9_isSquare_12 rfl rfl ?_
  obtain ⟨r13, hr13, hm⟩ := bnd_some hm
  refine g_callVi (As := [vI l1]) (rest := [vI r5.1]) C lk_X9_296 (k_X2_to X.2.1 G hl hG fu 0 l1 r5.2 r13 ((hG _ hk0).2 0 2 0 0 rfl) hr13) (by decide) rfl rfl rfl (Nat.le_of_ble_eq_true rfl) ⟨Nat.le_of_ble_eq_true rfl, Nat.le_of_ble_eq_true rfl⟩ dX9_isSquare_13 ?_
  refine g_icmp_ne (tgt := 82) C dX9_isSquare_16 (by decide) (fun h16 => ?_) (fun h16 => ?_)
  · have hm := ife hm h16
    refine g_iconst (v := 0) C dX9_isSquare_82 rfl ?_
    obtain rfl := Option.some.inj hm
    exact g_zret C (Or.inl rfl) dX9_isSquare_83
  · have hm := ift hm h16
    refine g_aload_n C 0 dX9_isSquare_19 rfl rfl ?_
    refine g_getr (k := 0) (k' := 0) C (by decide) kf_X9_12 rfl rfl dX9_isSquare_20 ?_
    refine g_iload_n C 3 dX9_isSquare_23 rfl rfl ?_
    obtain ⟨r24, hr24, hm⟩ := bnd_some hm
    refine g_callVi (As := [vI l3]) (rest := []) C lk_X9_191 (k_X2_from X.2.1 G hl hG fu 0 l3 r13.2 r24 ((hG _ hk0).2 0 2 0 0 rfl) hr24) (by decide) rfl rfl rfl (Nat.le_of_ble_eq_true rfl) ⟨Nat.le_of_ble_eq_true rfl, Nat.le_of_ble_eq_true rfl⟩ dX9_isSquare_24 ?_
    refine g_aload_n C 0 dX9_isSquare_27 rfl rfl ?_
    refine g_getr (k := 0) (k' := 0) C (by decide) kf_X9_12 rfl rfl dX9_isSquare_28 ?_
    refine g_iload_n C 1 dX9_isSquare_31 rfl rfl ?_
    obtain ⟨r32, hr32, hm⟩ := bnd_some hm
    refine g_callVi (As := [vI l1]) (rest := [vI r24.1]) C lk_X9_191 (k_X2_from X.2.1 G hl hG fu 0 l1 r24.2 r32 ((hG _ hk0).2 0 2 0 0 rfl) hr32) (by decide) rfl rfl rfl (Nat.le_of_ble_eq_true rfl) ⟨Nat.le_of_ble_eq_true rfl, Nat.le_of_ble_eq_true rfl⟩ dX9_isSquare_32 ?_
    refine g_icmp_ne (tgt := 82) C dX9_isSquare_35 (by decide) (fun h35 => ?_) (fun h35 => ?_)
    · have hm := ife hm h35
      refine g_iconst (v := 0) C dX9_isSquare_82 rfl ?_
      obtain rfl := Option.some.inj hm
      exact g_zret C (Or.inl rfl) dX9_isSquare_83
    · have hm := ift hm h35
      refine g_aload_n C 0 dX9_isSquare_38 rfl rfl ?_
      refine g_getr (k := 0) (k' := 0) C (by decide) kf_X9_12 rfl rfl dX9_isSquare_39 ?_
      refine g_iload C 4 dX9_isSquare_42 rfl ?_
      obtain ⟨r44, hr44, hm⟩ := bnd_some hm
      refine g_callVi (As := [vI l4]) (rest := []) C lk_X9_191 (k_X2_from X.2.1 G hl hG fu 0 l4 r32.2 r44 ((hG _ hk0).2 0 2 0 0 rfl) hr44) (by decide) rfl rfl rfl (Nat.le_of_ble_eq_true rfl) ⟨Nat.le_of_ble_eq_true rfl, Nat.le_of_ble_eq_true rfl⟩ dX9_isSquare_44 ?_
      refine g_aload_n C 0 dX9_isSquare_47 rfl rfl ?_
      refine g_getr (k := 0) (k' := 0) C (by decide) kf_X9_12 rfl rfl dX9_isSquare_48 ?_
      refine g_iload_n C 3 dX9_isSquare_51 rfl rfl ?_
      obtain ⟨r52, hr52, hm⟩ := bnd_some hm
      refine g_callVi (As := [vI l3]) (rest := [vI r44.1]) C lk_X9_296 (k_X2_to X.2.1 G hl hG fu 0 l3 r44.2 r52 ((hG _ hk0).2 0 2 0 0 rfl) hr52) (by decide) rfl rfl rfl (Nat.le_of_ble_eq_true rfl) ⟨Nat.le_of_ble_eq_true rfl, Nat.le_of_ble_eq_true rfl⟩ dX9_isSquare_52 ?_
      refine g_icmp_ne (tgt := 82) C dX9_isSquare_55 (by decide) (fun h55 => ?_) (fun h55 => ?_)
      · have hm := ife hm h55
        refine g_iconst (v := 0) C dX9_isSquare_82 rfl ?_
        obtain rfl := Option.some.inj hm
        exact g_zret C (Or.inl rfl) dX9_isSquare_83
      · have hm := ift hm h55
        refine g_aload_n C 0 dX9_isSquare_58 rfl rfl ?_
        refine g_getr (k := 0) (k' := 0) C (by decide) kf_X9_12 rfl rfl dX9_isSquare_59 ?_
        refine g_iload C 4 dX9_isSquare_62 rfl ?_
        obtain ⟨r64, hr64, hm⟩ := bnd_some hm
        refine g_callVi (As := [vI l4]) (rest := []) C lk_X9_296 (k_X2_to X.2.1 G hl hG fu 0 l4 r52.2 r64 ((hG _ hk0).2 0 2 0 0 rfl) hr64) (by decide) rfl rfl rfl (Nat.le_of_ble_eq_true rfl) ⟨Nat.le_of_ble_eq_true rfl, Nat.le_of_ble_eq_true rfl⟩ dX9_isSquare_64 ?_
        refine g_aload_n C 0 dX9_isSquare_67 rfl rfl ?_
        refine g_getr (k := 0) (k' := 0) C (by decide) kf_X9_12 rfl rfl dX9_isSquare_68 ?_
        refine g_iload_n C 2 dX9_isSquare_71 rfl rfl ?_
        obtain ⟨r72, hr72, hm⟩ := bnd_some hm
        refine g_callVi (As := [vI l2]) (rest := [vI r64.1]) C lk_X9_296 (k_X2_to X.2.1 G hl hG fu 0 l2 r64.2 r72 ((hG _ hk0).2 0 2 0 0 rfl) hr72) (by decide) rfl rfl rfl (Nat.le_of_ble_eq_true rfl) ⟨Nat.le_of_ble_eq_true rfl, Nat.le_of_ble_eq_true rfl⟩ dX9_isSquare_72 ?_
        refine g_icmp_ne (tgt := 82) C dX9_isSquare_75 (by decide) (fun h75 => ?_) (fun h75 => ?_)
        · have hm := ife hm h75
          refine g_iconst (v := 0) C dX9_isSquare_82 rfl ?_
          obtain rfl := Option.some.inj hm
          exact g_zret C (Or.inl rfl) dX9_isSquare_83
        · have hm := ift hm h75
          refine g_iconst (v := 1) C dX9_isSquare_78 rfl ?_
          refine g_goto (tgt := 83) C dX9_isSquare_79 (by decide) ?_
          obtain rfl := Option.some.inj hm
          exact g_zret C (Or.inr rfl) dX9_isSquare_83
def f_X9_sameBehind_b3 (fu : Nat)  (l1 : Int32) (l2 : Int32) (l3 : Int32) (l4 : Int32) (l5 : Int32) (M : Mem) : Option ((Int32 × Mem) ⊕ ((Mem) ⊕ (Int32 × Mem))) :=
  (f_X9_sizeAtStart fu l1 M).bind (fun r7 => if r7.1 ≤ l5 then some (Sum.inr (Sum.inl r7.2)) else (f_X1_value fu 0 l1 l5 r7.2).bind (fun r20 => (f_X1_value fu 0 l3 l5 r20.2).bind (fun r32 => (f_X1_value fu 0 l2 r20.1 r32.2).bind (fun r44 => (f_X1_value fu 0 l4 r32.1 r44.2).bind (fun r55 => if r44.1 = r55.1 then some (Sum.inl (l5 + (1 : Int32), r55.2)) else some (Sum.inr (Sum.inr ((0 : Int32), r55.2))))))))
def f_X9_sameBehind_h3 (fu : Nat)   (l1 : Int32) (l2 : Int32) (l3 : Int32) (l4 : Int32) (l5 : Int32) (M : Mem) : Option (Int32 × Mem) :=
  (lp_run (fun s => f_X9_sameBehind_b3 fu  l1 l2 l3 l4 s.1 s.2) fu (l5, M)).bind (fun r3 => match r3 with
    | Sum.inl M => some ((1 : Int32), M)
    | Sum.inr q3 => some q3)
def f_X9_sameBehind (fu : Nat) (l1 : Int32) (l2 : Int32) (l3 : Int32) (l4 : Int32) (M : Mem) : Option (Int32 × Mem) :=
  f_X9_sameBehind_h3 fu l1 l2 l3 l4 (0 : Int32) M
set_option maxHeartbeats 4000000 in
set_option maxRecDepth 100000 in
theorem k_X9_sameBehind (l : Launch) (G : GE) (hl : l.stackTraces = false) (hG : GOK G) (fu : Nat) (l1 : Int32) (l2 : Int32) (l3 : Int32) (l4 : Int32) (M : Mem) (res : Int32 × Mem) (hk0 : (9, 0) ∈ gids G) (hm : f_X9_sameBehind fu l1 l2 l3 l4 M = some res) : CT l G yX9_sameBehind cX9_sameBehind 8 (some .boolean) 3 [vR 9 0, vI l1, vI l2, vI l3, vI l4] M (.inl (some (vI res.1))) res.2 := by
  refine ct_of [(0, vR 9 0), (1, vI l1), (2, vI l2), (3, vI l3), (4, vI l4)] (by decide +kernel) hl hG (Nat.le_of_ble_eq_true rfl) rfl (List.forall_mem_cons.mpr ⟨Or.inl hk0, List.forall_mem_cons.mpr ⟨trivial, List.forall_mem_cons.mpr ⟨trivial, List.forall_mem_cons.mpr ⟨trivial, List.forall_mem_cons.mpr ⟨trivial, fun _ h => nomatch h⟩⟩⟩⟩⟩) (List.forall_mem_cons.mpr ⟨Or.inl hk0, List.forall_mem_cons.mpr ⟨trivial, List.forall_mem_cons.mpr ⟨trivial, List.forall_mem_cons.mpr ⟨trivial, List.forall_mem_cons.mpr ⟨trivial, fun _ h => nomatch h⟩⟩⟩⟩⟩) (fun X hX C => ?_)
  subst hX
  have Cl := C
  have J3 : ∀ (l1 : Int32) (l2 : Int32) (l3 : Int32) (l4 : Int32) (l5 : Int32) (M : Mem), f_X9_sameBehind_h3 fu   l1 l2 l3 l4 l5 M = some res → GW G X 8 (QX G X (.inl (some (vI res.1))) res.2) 3 [(0, vR 9 0), (1, vI l1), (2, vI l2), (3, vI l3), (4, vI l4), (5, vI l5)] [] M := by
    intro l1 l2 l3 l4 l5 M hm
    unfold f_X9_sameBehind_h3 at hm
    obtain ⟨r3, hL3, hk3⟩ := bnd_some hm
    have hx3 : ∀ (M : Mem), Sum.inl M = r3 → GW G X 8 (QX G X (.inl (some (vI res.1))) res.2) 69 [] [] M := by
      intro M he
      subst he
      have hm := hk3
      try dsimp only at hm
      refine g_iconst (v := 1) C dX9_sameBehind_69 rfl ?_
      obtain rfl := Option.some.inj hm
      exact g_zret C (Or.inr rfl) dX9_sameBehind_70
    refine lp_ind1 (P := (fun l5 M => GW G X 8 (QX G X (.inl (some (vI res.1))) res.2) 3 [(0, vR 9 0), (1, vI l1), (2, vI l2), (3, vI l3), (4, vI l4), (5, vI l5)] [] M)) (r := r3) ?_ fu l5 M hL3
    intro l5 M o3 hm K3
    unfold f_X9_sameBehind_b3 at hm
    refine g_iload C 5 dX9_sameBehind_3 rfl ?_
    refine g_aload_n C 0 dX9_sameBehind_5 rfl rfl ?_
    refine g_iload_n C 1 dX9_sameBehind_6 rfl rfl ?_
    obtain ⟨r7, hr7, hm⟩ := bnd_some hm
    refine g_callVi (As := [vI l1]) (rest := [vI l5]) C lk_X9_422 (k_X9_sizeAtStart X.2.1 G hl hG fu l1 M r7 hk0 hr7) (by decide) rfl rfl rfl (Nat.le_of_ble_eq_true rfl) ⟨Nat.le_of_ble_eq_true rfl, Nat.le_of_ble_eq_true rfl⟩ dX9_sameBehind_7 ?_
    refine g_icmp_ge (tgt := 69) C dX9_sameBehind_10 (by decide) (fun h10 => ?_) (fun h10 => ?_)
    · have hm := ift hm h10
      obtain rfl := Option.some.inj hm
      exact g_sub [] rfl (g_pc rfl (hx3 r7.2 (K3.2 _ rfl)))
    · have hm := ife hm h10
      refine g_aload_n C 0 dX9_sameBehind_13 rfl rfl ?_
      refine g_getr (k := 0) (k' := 0) C (by decide) kf_X9_40 rfl rfl dX9_sameBehind_14 ?_
      refine g_iload_n C 1 dX9_sameBehind_17 rfl rfl ?_
      refine g_iload C 5 dX9_sameBehind_18 rfl ?_
      obtain ⟨r20, hr20, hm⟩ := bnd_some hm
      refine g_callVi (As := [vI l1, vI l5]) (rest := []) C lk_X9_355 (k_X1_value X.2.1 G hl hG fu 0 l1 l5 r7.2 r20 ((hG _ hk0).2 4 1 0 0 rfl) hr20) (by decide) rfl rfl rfl (Nat.le_of_ble_eq_true rfl) ⟨Nat.le_of_ble_eq_true rfl, Nat.le_of_ble_eq_true rfl⟩ dX9_sameBehind_20 ?_
      refine g_istore (ls' := [(6, vI r20.1), (0, vR 9 0), (1, vI l1), (2, vI l2), (3, vI l3), (4, vI l4), (5, vI l5)]) C dX9_sameBehind_23 (by decide) rfl ?_
      refine g_aload_n C 1 dX9_sameBehind_25 rfl rfl ?_
      refine g_getr (k := 0) (k' := 0) C (by decide) kf_X9_40 rfl rfl dX9_sameBehind_26 ?_
      refine g_iload_n C 4 dX9_sameBehind_29 rfl rfl ?_
      refine g_iload C 6 dX9_sameBehind_30 rfl ?_
      obtain ⟨r32, hr32, hm⟩ := bnd_some hm
      refine g_callVi (As := [vI l3, vI l5]) (rest := []) C lk_X9_355 (k_X1_value X.2.1 G hl hG fu 0 l3 l5 r20.2 r32 ((hG _ hk0).2 4 1 0 0 rfl) hr32) (by decide) rfl rfl rfl (Nat.le_of_ble_eq_true rfl) ⟨Nat.le_of_ble_eq_true rfl, Nat.le_of_ble_eq_true rfl⟩ dX9_sameBehind_32 ?_
      refine g_istore (ls' := [(7, vI r32.1), (6, vI r20.1), (0, vR 9 0), (1, vI l1), (2, vI l2), (3, vI l3), (4, vI l4), (5, vI l5)]) C dX9_sameBehind_35 (by decide) rfl ?_
      refine g_aload_n C 2 dX9_sameBehind_37 rfl rfl ?_
      refine g_getr (k := 0) (k' := 0) C (by decide) kf_X9_40 rfl rfl dX9_sameBehind_38 ?_
      refine g_iload_n C 4 dX9_sameBehind_41 rfl rfl ?_
      refine g_iload C 1 dX9_sameBehind_42 rfl ?_
      obtain ⟨r44, hr44, hm⟩ := bnd_some hm
      refine g_callVi (As := [vI l2, vI r20.1]) (rest := []) C lk_X9_355 (k_X1_value X.2.1 G hl hG fu 0 l2 r20.1 r32.2 r44 ((hG _ hk0).2 4 1 0 0 rfl) hr44) (by decide) rfl rfl rfl (Nat.le_of_ble_eq_true rfl) ⟨Nat.le_of_ble_eq_true rfl, Nat.le_of_ble_eq_true rfl⟩ dX9_sameBehind_44 ?_
      refine g_aload_n C 2 dX9_sameBehind_47 rfl rfl ?_
      refine g_getr (k := 0) (k' := 0) C (by decide) kf_X9_40 rfl rfl dX9_sameBehind_48 ?_
      refine g_iload C 6 dX9_sameBehind_51 rfl ?_
      refine g_iload C 0 dX9_sameBehind_53 rfl ?_
      obtain ⟨r55, hr55, hm⟩ := bnd_some hm
      refine g_callVi (As := [vI l4, vI r32.1]) (rest := [vI r44.1]) C lk_X9_355 (k_X1_value X.2.1 G hl hG fu 0 l4 r32.1 r44.2 r55 ((hG _ hk0).2 4 1 0 0 rfl) hr55) (by decide) rfl rfl rfl (Nat.le_of_ble_eq_true rfl) ⟨Nat.le_of_ble_eq_true rfl, Nat.le_of_ble_eq_true rfl⟩ dX9_sameBehind_55 ?_
      refine g_icmp_eq (tgt := 63) C dX9_sameBehind_58 (by decide) (fun h58 => ?_) (fun h58 => ?_)
      · have hm := ift hm h58
        refine g_iinc (ls' := [(5, vI (l5 + (1 : Int32))), (7, vI r32.1), (6, vI r20.1), (0, vR 9 0), (1, vI l1), (2, vI l2), (3, vI l3), (4, vI l4)]) (v := l5 + (1 : Int32)) C 7 dX9_sameBehind_63 rfl (iv_p1 _) (by decide) rfl ?_
        refine g_goto (tgt := 3) C dX9_sameBehind_66 (by decide) ?_
        obtain rfl := Option.some.inj hm
        exact g_sub [3, 4, 5, 6, 7, 0] rfl (g_pc rfl (K3.1 (l5 + (1 : Int32)) r55.2 rfl))
      · have hm := ife hm h58
        refine g_iconst (v := 0) C dX9_sameBehind_61 rfl ?_
        obtain rfl := Option.some.inj hm
        have e3 := K3.2 _ rfl
        subst e3
        obtain rfl := Option.some.inj hk3
        exact g_zret C (Or.inl rfl) dX9_sameBehind_62
  unfold f_X9_sameBehind at hm
  refine g_iconst (v := 0) C dX9_sameBehind_0 rfl ?_
  refine g_istore (ls' := [(5, vI (0 : Int32)), (0, vR 9 0), (1, vI l1), (2, vI l2), (3, vI l3), (4, vI l4)]) C dX9_sameBehind_1 (by decide) rfl ?_
  exact g_sub [1, 2, 3, 4, 5, 0] rfl (g_pc rfl (J3 l1 l2 l3 l4 (0 : Int32) M hm))
def f_X9_isPullback_j124 (fu : Nat)  (l1 : Int32) (l2 : Int32) (l3 : Int32) (l4 : Int32) (l5 : Int32) (l6 : Int32) (M : Mem) : Option ((Int32 × Mem) ⊕ ((Mem) ⊕ ((Int32 ⊕ Nat) × Mem))) :=
  some (Sum.inl (l6 + (1 : Int32), M))
def f_X9_isPullback_b74 (fu : Nat)  (l1 : Int32) (l2 : Int32) (l3 : Int32) (l4 : Int32) (l5 : Int32) (l6 : Int32) (M : Mem) : Option ((Int32 × Mem) ⊕ ((Mem) ⊕ ((Int32 ⊕ Nat) × Mem))) :=
  (f_X9_sizeAtEnd fu l3 M).bind (fun r78 => if r78.1 ≤ l6 then some (Sum.inr (Sum.inl r78.2)) else (f_X1_value fu 0 l2 l5 r78.2).bind (fun r91 => (f_X1_value fu 0 l4 l6 r91.2).bind (fun r102 => if r91.1 = r102.1 then (f_X9_sources fu l1 l5 l3 l6 r102.2).bind (fun r115 => if r115.1 = (1 : Int32) then f_X9_isPullback_j124 fu l1 l2 l3 l4 l5 l6 r115.2 else some (Sum.inr (Sum.inr (Sum.inl (0 : Int32), r115.2)))) else f_X9_isPullback_j124 fu l1 l2 l3 l4 l5 l6 r102.2)))
def f_X9_isPullback_h74 (fu : Nat)  (l1 : Int32) (l2 : Int32) (l3 : Int32) (l4 : Int32) (l5 : Int32) (l6 : Int32) (M : Mem) : Option ((Int32 × Mem) ⊕ ((Mem) ⊕ ((Int32 ⊕ Nat) × Mem))) :=
  (lp_run (fun s => f_X9_isPullback_b74 fu  l1 l2 l3 l4 l5 s.1 s.2) fu (l6, M)).bind (fun r74 => match r74 with
    | Sum.inl M => some (Sum.inl (l5 + (1 : Int32), M))
    | Sum.inr q74 => some (Sum.inr (Sum.inr q74)))
def f_X9_isPullback_b61 (fu : Nat)  (l1 : Int32) (l2 : Int32) (l3 : Int32) (l4 : Int32) (l5 : Int32) (M : Mem) : Option ((Int32 × Mem) ⊕ ((Mem) ⊕ ((Int32 ⊕ Nat) × Mem))) :=
  (f_X9_sizeAtEnd fu l1 M).bind (fun r65 => if r65.1 ≤ l5 then some (Sum.inr (Sum.inl r65.2)) else f_X9_isPullback_h74 fu l1 l2 l3 l4 l5 (0 : Int32) r65.2)
def f_X9_isPullback_h61 (fu : Nat)   (l1 : Int32) (l2 : Int32) (l3 : Int32) (l4 : Int32) (l5 : Int32) (M : Mem) : Option ((Int32 ⊕ Nat) × Mem) :=
  (lp_run (fun s => f_X9_isPullback_b61 fu  l1 l2 l3 l4 s.1 s.2) fu (l5, M)).bind (fun r61 => match r61 with
    | Sum.inl M => some (Sum.inl (1 : Int32), M)
    | Sum.inr q61 => some q61)
def f_X9_isPullback (fu : Nat) (l1 : Int32) (l2 : Int32) (l3 : Int32) (l4 : Int32) (M : Mem) : Option ((Int32 ⊕ Nat) × Mem) :=
  (f_X9_requireArrow fu l1 M).bind (fun r2 => match r2 with
    | (Sum.inl x2, n2) => (f_X9_requireArrow fu l2 n2).bind (fun r7 => match r7 with
    | (Sum.inl x7, n7) => (f_X9_requireArrow fu l3 n7).bind (fun r12 => match r12 with
    | (Sum.inl x12, n12) => (f_X9_requireArrow fu l4 n12).bind (fun r18 => match r18 with
    | (Sum.inl x18, n18) => (f_X9_isSquare fu l1 l2 l3 l4 n18).bind (fun r27 => if r27.1 = 0 then some (Sum.inr 1, r27.2) else (f_X9_sameBehind fu l1 l2 l3 l4 r27.2).bind (fun r50 => if r50.1 = 0 then some (Sum.inl (0 : Int32), r50.2) else f_X9_isPullback_h61 fu l1 l2 l3 l4 (0 : Int32) r50.2))
    | (Sum.inr z18, n18) => some (Sum.inr z18, n18))
    | (Sum.inr z12, n12) => some (Sum.inr z12, n12))
    | (Sum.inr z7, n7) => some (Sum.inr z7, n7))
    | (Sum.inr z2, n2) => some (Sum.inr z2, n2))
set_option maxHeartbeats 4000000 in
set_option maxRecDepth 100000 in
theorem k_X9_isPullback (l : Launch) (G : GE) (hl : l.stackTraces = false) (hG : GOK G) (fu : Nat) (l1 : Int32) (l2 : Int32) (l3 : Int32) (l4 : Int32) (M : Mem) (res : (Int32 ⊕ Nat) × Mem) (hk0 : (9, 0) ∈ gids G) (hm : f_X9_isPullback fu l1 l2 l3 l4 M = some res) : CT l G yX9_isPullback cX9_isPullback 7 (some .boolean) 7 [vR 9 0, vI l1, vI l2, vI l3, vI l4] M (oI res.1) res.2 := by
  refine ct_of [(0, vR 9 0), (1, vI l1), (2, vI l2), (3, vI l3), (4, vI l4)] (by decide +kernel) hl hG (Nat.le_of_ble_eq_true rfl) rfl (List.forall_mem_cons.mpr ⟨Or.inl hk0, List.forall_mem_cons.mpr ⟨trivial, List.forall_mem_cons.mpr ⟨trivial, List.forall_mem_cons.mpr ⟨trivial, List.forall_mem_cons.mpr ⟨trivial, fun _ h => nomatch h⟩⟩⟩⟩⟩) (List.forall_mem_cons.mpr ⟨Or.inl hk0, List.forall_mem_cons.mpr ⟨trivial, List.forall_mem_cons.mpr ⟨trivial, List.forall_mem_cons.mpr ⟨trivial, List.forall_mem_cons.mpr ⟨trivial, fun _ h => nomatch h⟩⟩⟩⟩⟩) (fun X hX C => ?_)
  subst hX
  have Cl := C
  have J61 : ∀ (l1 : Int32) (l2 : Int32) (l3 : Int32) (l4 : Int32) (l5 : Int32) (M : Mem), f_X9_isPullback_h61 fu   l1 l2 l3 l4 l5 M = some res → GW G X 7 (QX G X (oI res.1) res.2) 61 [(0, vR 9 0), (1, vI l1), (2, vI l2), (3, vI l3), (4, vI l4), (5, vI l5)] [] M := by
    intro l1 l2 l3 l4 l5 M hm
    unfold f_X9_isPullback_h61 at hm
    obtain ⟨r61, hL61, hk61⟩ := bnd_some hm
    have hx61 : ∀ (M : Mem), Sum.inl M = r61 → GW G X 7 (QX G X (oI res.1) res.2) 136 [] [] M := by
      intro M he
      subst he
      have hm := hk61
      try dsimp only at hm
      refine g_iconst (v := 1) C dX9_isPullback_136 rfl ?_
      obtain rfl := Option.some.inj hm
      exact g_zret C (Or.inr rfl) dX9_isPullback_137
    refine lp_ind1 (P := (fun l5 M => GW G X 7 (QX G X (oI res.1) res.2) 61 [(0, vR 9 0), (1, vI l1), (2, vI l2), (3, vI l3), (4, vI l4), (5, vI l5)] [] M)) (r := r61) ?_ fu l5 M hL61
    intro l5 M o61 hm K61
    have J74 : ∀ (l5 : Int32) (l6 : Int32) (M : Mem), f_X9_isPullback_h74 fu  l1 l2 l3 l4 l5 l6 M = some o61 → GW G X 7 (QX G X (oI res.1) res.2) 74 [(0, vR 9 0), (1, vI l1), (2, vI l2), (3, vI l3), (4, vI l4), (5, vI l5), (6, vI l6)] [] M := by
      intro l5 l6 M hm
      unfold f_X9_isPullback_h74 at hm
      obtain ⟨r74, hL74, hk74⟩ := bnd_some hm
      have hx74 : ∀ (M : Mem), Sum.inl M = r74 → GW G X 7 (QX G X (oI res.1) res.2) 130 [(0, vR 9 0), (1, vI l1), (2, vI l2), (3, vI l3), (4, vI l4), (5, vI l5)] [] M := by
        intro M he
        subst he
        have hm := hk74
        try dsimp only at hm
        refine g_iinc (ls' := [(5, vI (l5 + (1 : Int32))), (0, vR 9 0), (1, vI l1), (2, vI l2), (3, vI l3), (4, vI l4)]) (v := l5 + (1 : Int32)) C 5 dX9_isPullback_130 rfl (iv_p1 _) (by decide) rfl ?_
        refine g_goto (tgt := 61) C dX9_isPullback_133 (by decide) ?_
        obtain rfl := Option.some.inj hm
        exact g_sub [1, 2, 3, 4, 5, 0] rfl (g_pc rfl (K61.1 (l5 + (1 : Int32)) M rfl))
      refine lp_ind1 (P := (fun l6 M => GW G X 7 (QX G X (oI res.1) res.2) 74 [(0, vR 9 0), (1, vI l1), (2, vI l2), (3, vI l3), (4, vI l4), (5, vI l5), (6, vI l6)] [] M)) (r := r74) ?_ fu l6 M hL74
      intro l6 M o74 hm K74
      have J124 : ∀ (l6 : Int32) (M : Mem), f_X9_isPullback_j124 fu  l1 l2 l3 l4 l5 l6 M = some o74 → GW G X 7 (QX G X (oI res.1) res.2) 124 [(0, vR 9 0), (1, vI l1), (2, vI l2), (3, vI l3), (4, vI l4), (5, vI l5), (6, vI l6)] [] M := by
        intro l6 M hm
        unfold f_X9_isPullback_j124 at hm
        refine g_iinc (ls' := [(6, vI (l6 + (1 : Int32))), (0, vR 9 0), (1, vI l1), (2, vI l2), (3, vI l3), (4, vI l4), (5, vI l5)]) (v := l6 + (1 : Int32)) C 6 dX9_isPullback_124 rfl (iv_p1 _) (by decide) rfl ?_
        refine g_goto (tgt := 74) C dX9_isPullback_127 (by decide) ?_
        obtain rfl := Option.some.inj hm
        exact g_sub [1, 2, 3, 4, 5, 6, 0] rfl (g_pc rfl (K74.1 (l6 + (1 : Int32)) M rfl))
      unfold f_X9_isPullback_b74 at hm
      refine g_iload C 6 dX9_isPullback_74 rfl ?_
      refine g_aload_n C 0 dX9_isPullback_76 rfl rfl ?_
      refine g_iload_n C 3 dX9_isPullback_77 rfl rfl ?_
      obtain ⟨r78, hr78, hm⟩ := bnd_some hm
      refine g_callVi (As := [vI l3]) (rest := [vI l6]) C lk_X9_339 (k_X9_sizeAtEnd X.2.1 G hl hG fu l3 M r78 hk0 hr78) (by decide) rfl rfl rfl (Nat.le_of_ble_eq_true rfl) ⟨Nat.le_of_ble_eq_true rfl, Nat.le_of_ble_eq_true rfl⟩ dX9_isPullback_78 ?_
      refine g_icmp_ge (tgt := 130) C dX9_isPullback_81 (by decide) (fun h81 => ?_) (fun h81 => ?_)
      · have hm := ift hm h81
        obtain rfl := Option.some.inj hm
        exact g_sub [0, 1, 2, 3, 4, 5] rfl (g_pc rfl (hx74 r78.2 (K74.2 _ rfl)))
      · have hm := ife hm h81
        refine g_aload_n C 0 dX9_isPullback_84 rfl rfl ?_
        refine g_getr (k := 0) (k' := 0) C (by decide) kf_X9_40 rfl rfl dX9_isPullback_85 ?_
        refine g_iload_n C 2 dX9_isPullback_88 rfl rfl ?_
        refine g_iload C 5 dX9_isPullback_89 rfl ?_
        obtain ⟨r91, hr91, hm⟩ := bnd_some hm
        refine g_callVi (As := [vI l2, vI l5]) (rest := []) C lk_X9_355 (k_X1_value X.2.1 G hl hG fu 0 l2 l5 r78.2 r91 ((hG _ hk0).2 4 1 0 0 rfl) hr91) (by decide) rfl rfl rfl (Nat.le_of_ble_eq_true rfl) ⟨Nat.le_of_ble_eq_true rfl, Nat.le_of_ble_eq_true rfl⟩ dX9_isPullback_91 ?_
        refine g_aload_n C 0 dX9_isPullback_94 rfl rfl ?_
        refine g_getr (k := 0) (k' := 0) C (by decide) kf_X9_40 rfl rfl dX9_isPullback_95 ?_
        refine g_iload C 4 dX9_isPullback_98 rfl ?_
        refine g_iload C 6 dX9_isPullback_100 rfl ?_
        obtain ⟨r102, hr102, hm⟩ := bnd_some hm
        refine g_callVi (As := [vI l4, vI l6]) (rest := [vI r91.1]) C lk_X9_355 (k_X1_value X.2.1 G hl hG fu 0 l4 l6 r91.2 r102 ((hG _ hk0).2 4 1 0 0 rfl) hr102) (by decide) rfl rfl rfl (Nat.le_of_ble_eq_true rfl) ⟨Nat.le_of_ble_eq_true rfl, Nat.le_of_ble_eq_true rfl⟩ dX9_isPullback_102 ?_
        refine g_icmp_ne (tgt := 124) C dX9_isPullback_105 (by decide) (fun h105 => ?_) (fun h105 => ?_)
        · have hm := ife hm h105
          exact g_sub [0, 1, 2, 3, 4, 5, 6] rfl (g_pc rfl (J124 l6 r102.2 hm))
        · have hm := ift hm h105
          refine g_aload_n C 0 dX9_isPullback_108 rfl rfl ?_
          refine g_iload_n C 1 dX9_isPullback_109 rfl rfl ?_
          refine g_iload C 5 dX9_isPullback_110 rfl ?_
          refine g_iload_n C 3 dX9_isPullback_112 rfl rfl ?_
          refine g_iload C 6 dX9_isPullback_113 rfl ?_
          obtain ⟨r115, hr115, hm⟩ := bnd_some hm
          refine g_callVi (As := [vI l1, vI l5, vI l3, vI l6]) (rest := []) C lk_X9_342 (k_X9_sources X.2.1 G hl hG fu l1 l5 l3 l6 r102.2 r115 hk0 hr115) (by decide) rfl rfl rfl (Nat.le_of_ble_eq_true rfl) ⟨Nat.le_of_ble_eq_true rfl, Nat.le_of_ble_eq_true rfl⟩ dX9_isPullback_115 ?_
          refine g_iconst (v := 1) C dX9_isPullback_118 rfl ?_
          refine g_icmp_eq (tgt := 124) C dX9_isPullback_119 (by decide) (fun h119 => ?_) (fun h119 => ?_)
          · have hm := ift hm h119
            exact g_sub [0, 1, 2, 3, 4, 5, 6] rfl (g_pc rfl (J124 l6 r115.2 hm))
          · have hm := ife hm h119
            refine g_iconst (v := 0) C dX9_isPullback_122 rfl ?_
            obtain rfl := Option.some.inj hm
            have e74 := K74.2 _ rfl
            subst e74
            obtain rfl := Option.some.inj hk74
            have e61 := K61.2 _ rfl
            subst e61
            obtain rfl := Option.some.inj hk61
            exact g_zret C (Or.inl rfl) dX9_isPullback_123
    unfold f_X9_isPullback_b61 at hm
    refine g_iload C 5 dX9_isPullback_61 rfl ?_
    refine g_aload_n C 0 dX9_isPullback_63 rfl rfl ?_
    refine g_iload_n C 1 dX9_isPullback_64 rfl rfl ?_
    obtain ⟨r65, hr65, hm⟩ := bnd_some hm
    refine g_callVi (As := [vI l1]) (rest := [vI l5]) C lk_X9_339 (k_X9_sizeAtEnd X.2.1 G hl hG fu l1 M r65 hk0 hr65) (by decide) rfl rfl rfl (Nat.le_of_ble_eq_true rfl) ⟨Nat.le_of_ble_eq_true rfl, Nat.le_of_ble_eq_true rfl⟩ dX9_isPullback_65 ?_
    refine g_icmp_ge (tgt := 136) C dX9_isPullback_68 (by decide) (fun h68 => ?_) (fun h68 => ?_)
    · have hm := ift hm h68
      obtain rfl := Option.some.inj hm
      exact g_sub [] rfl (g_pc rfl (hx61 r65.2 (K61.2 _ rfl)))
    · have hm := ife hm h68
      refine g_iconst (v := 0) C dX9_isPullback_71 rfl ?_
      refine g_istore (ls' := [(6, vI (0 : Int32)), (0, vR 9 0), (1, vI l1), (2, vI l2), (3, vI l3), (4, vI l4), (5, vI l5)]) C dX9_isPullback_72 (by decide) rfl ?_
      exact g_sub [1, 2, 3, 4, 5, 6, 0] rfl (g_pc rfl (J74 l5 (0 : Int32) r65.2 hm))
  unfold f_X9_isPullback at hm
  refine g_aload_n C 0 dX9_isPullback_0 rfl rfl ?_
  refine g_iload_n C 1 dX9_isPullback_1 rfl rfl ?_
  obtain ⟨⟨x2 | z2, n2⟩, hr2, hm⟩ := bnd_some hm
  · refine g_callVv (As := [vI l1]) (rest := []) C lk_X9_299 (k_X9_requireArrow X.2.1 G hl hG fu l1 M (Sum.inl x2, n2) hk0 hr2) (by decide) rfl rfl rfl (Nat.le_of_ble_eq_true rfl) ⟨Nat.le_of_ble_eq_true rfl, Nat.le_of_ble_eq_true rfl⟩ dX9_isPullback_2 ?_
    refine g_aload_n C 0 dX9_isPullback_5 rfl rfl ?_
    refine g_iload_n C 2 dX9_isPullback_6 rfl rfl ?_
    obtain ⟨⟨x7 | z7, n7⟩, hr7, hm⟩ := bnd_some hm
    · refine g_callVv (As := [vI l2]) (rest := []) C lk_X9_299 (k_X9_requireArrow X.2.1 G hl hG fu l2 n2 (Sum.inl x7, n7) hk0 hr7) (by decide) rfl rfl rfl (Nat.le_of_ble_eq_true rfl) ⟨Nat.le_of_ble_eq_true rfl, Nat.le_of_ble_eq_true rfl⟩ dX9_isPullback_7 ?_
      refine g_aload_n C 0 dX9_isPullback_10 rfl rfl ?_
      refine g_iload_n C 3 dX9_isPullback_11 rfl rfl ?_
      obtain ⟨⟨x12 | z12, n12⟩, hr12, hm⟩ := bnd_some hm
      · refine g_callVv (As := [vI l3]) (rest := []) C lk_X9_299 (k_X9_requireArrow X.2.1 G hl hG fu l3 n7 (Sum.inl x12, n12) hk0 hr12) (by decide) rfl rfl rfl (Nat.le_of_ble_eq_true rfl) ⟨Nat.le_of_ble_eq_true rfl, Nat.le_of_ble_eq_true rfl⟩ dX9_isPullback_12 ?_
        refine g_aload_n C 0 dX9_isPullback_15 rfl rfl ?_
        refine g_iload C 4 dX9_isPullback_16 rfl ?_
        obtain ⟨⟨x18 | z18, n18⟩, hr18, hm⟩ := bnd_some hm
        · refine g_callVv (As := [vI l4]) (rest := []) C lk_X9_299 (k_X9_requireArrow X.2.1 G hl hG fu l4 n12 (Sum.inl x18, n18) hk0 hr18) (by decide) rfl rfl rfl (Nat.le_of_ble_eq_true rfl) ⟨Nat.le_of_ble_eq_true rfl, Nat.le_of_ble_eq_true rfl⟩ dX9_isPullback_18 ?_
          refine g_aload_n C 0 dX9_isPullback_21 rfl rfl ?_
          refine g_iload_n C 1 dX9_isPullback_22 rfl rfl ?_
          refine g_iload_n C 2 dX9_isPullback_23 rfl rfl ?_
          refine g_iload_n C 3 dX9_isPullback_24 rfl rfl ?_
          refine g_iload C 4 dX9_isPullback_25 rfl ?_
          obtain ⟨r27, hr27, hm⟩ := bnd_some hm
          refine g_callVi (As := [vI l1, vI l2, vI l3, vI l4]) (rest := []) C lk_X9_346 (k_X9_isSquare X.2.1 G hl hG fu l1 l2 l3 l4 n18 r27 hk0 hr27) (by decide) rfl rfl rfl (Nat.le_of_ble_eq_true rfl) ⟨Nat.le_of_ble_eq_true rfl, Nat.le_of_ble_eq_true rfl⟩ dX9_isPullback_27 ?_
          refine g_if_ne (tgt := 44) C dX9_isPullback_30 (by decide) (fun h30 => ?_) (fun h30 => ?_)
          · have hm := ife hm h30
            refine g_aload_n C 0 dX9_isPullback_44 rfl rfl ?_
            refine g_iload_n C 1 dX9_isPullback_45 rfl rfl ?_
            refine g_iload_n C 2 dX9_isPullback_46 rfl rfl ?_
            refine g_iload_n C 3 dX9_isPullback_47 rfl rfl ?_
            refine g_iload C 4 dX9_isPullback_48 rfl ?_
            obtain ⟨r50, hr50, hm⟩ := bnd_some hm
            refine g_callVi (As := [vI l1, vI l2, vI l3, vI l4]) (rest := []) C lk_X9_352 (k_X9_sameBehind X.2.1 G hl hG fu l1 l2 l3 l4 r27.2 r50 hk0 hr50) (by decide) rfl rfl rfl (Nat.le_of_ble_eq_true rfl) ⟨Nat.le_of_ble_eq_true rfl, Nat.le_of_ble_eq_true rfl⟩ dX9_isPullback_50 ?_
            refine g_if_ne (tgt := 58) C dX9_isPullback_53 (by decide) (fun h53 => ?_) (fun h53 => ?_)
            · have hm := ife hm h53
              refine g_iconst (v := 0) C dX9_isPullback_58 rfl ?_
              refine g_istore (ls' := [(5, vI (0 : Int32)), (0, vR 9 0), (1, vI l1), (2, vI l2), (3, vI l3), (4, vI l4)]) C dX9_isPullback_59 (by decide) rfl ?_
              exact g_sub [1, 2, 3, 4, 5, 0] rfl (g_pc rfl (J61 l1 l2 l3 l4 (0 : Int32) r50.2 hm))
            · have hm := ift hm h53
              refine g_iconst (v := 0) C dX9_isPullback_56 rfl ?_
              obtain rfl := Option.some.inj hm
              exact g_zret C (Or.inl rfl) dX9_isPullback_57
          · have hm := ift hm h30
            obtain rfl := Option.some.inj hm
            exact g_throwW (o := .inl none) (E := "java/lang/IllegalArgumentException") (d := 7) C tk_X9_70_74 (by decide +kernel : ("ArrowDiagrams", 350, "they do not make such a square") ∈ strs) (by decide) rfl dX9_isPullback_33 dX9_isPullback_36 dX9_isPullback_37 dX9_isPullback_40 dX9_isPullback_43
        · skip
          obtain rfl := Option.some.inj hm
          exact g_callVx (E := exN z18) (As := [vI l4]) (rest := []) C lk_X9_299 (k_X9_requireArrow X.2.1 G hl hG fu l4 n12 (Sum.inr z18, n18) hk0 hr18) (by decide) rfl rfl rfl (Nat.le_of_ble_eq_true rfl) ⟨Nat.le_of_ble_eq_true rfl, Nat.le_of_ble_eq_true rfl⟩ dX9_isPullback_18
      · skip
        obtain rfl := Option.some.inj hm
        exact g_callVx (E := exN z12) (As := [vI l3]) (rest := []) C lk_X9_299 (k_X9_requireArrow X.2.1 G hl hG fu l3 n7 (Sum.inr z12, n12) hk0 hr12) (by decide) rfl rfl rfl (Nat.le_of_ble_eq_true rfl) ⟨Nat.le_of_ble_eq_true rfl, Nat.le_of_ble_eq_true rfl⟩ dX9_isPullback_12
    · skip
      obtain rfl := Option.some.inj hm
      exact g_callVx (E := exN z7) (As := [vI l2]) (rest := []) C lk_X9_299 (k_X9_requireArrow X.2.1 G hl hG fu l2 n2 (Sum.inr z7, n7) hk0 hr7) (by decide) rfl rfl rfl (Nat.le_of_ble_eq_true rfl) ⟨Nat.le_of_ble_eq_true rfl, Nat.le_of_ble_eq_true rfl⟩ dX9_isPullback_7
  · skip
    obtain rfl := Option.some.inj hm
    exact g_callVx (E := exN z2) (As := [vI l1]) (rest := []) C lk_X9_299 (k_X9_requireArrow X.2.1 G hl hG fu l1 M (Sum.inr z2, n2) hk0 hr2) (by decide) rfl rfl rfl (Nat.le_of_ble_eq_true rfl) ⟨Nat.le_of_ble_eq_true rfl, Nat.le_of_ble_eq_true rfl⟩ dX9_isPullback_2
def f_X9_isEqualizer_j102 (fu : Nat)  (l1 : Int32) (l2 : Int32) (l3 : Int32) (l4 : Int32) (M : Mem) : Option ((Int32 × Mem) ⊕ ((Mem) ⊕ ((Int32 ⊕ Nat) × Mem))) :=
  some (Sum.inl (l4 + (1 : Int32), M))
def f_X9_isEqualizer_b53 (fu : Nat)  (l1 : Int32) (l2 : Int32) (l3 : Int32) (l4 : Int32) (M : Mem) : Option ((Int32 × Mem) ⊕ ((Mem) ⊕ ((Int32 ⊕ Nat) × Mem))) :=
  (f_X9_sizeAtEnd fu l1 M).bind (fun r57 => if r57.1 ≤ l4 then some (Sum.inr (Sum.inl r57.2)) else (f_X1_value fu 0 l2 l4 r57.2).bind (fun r70 => (f_X1_value fu 0 l3 l4 r70.2).bind (fun r80 => if r70.1 = r80.1 then (f_X9_sources fu l1 l4 l1 l4 r80.2).bind (fun r93 => if r93.1 = (1 : Int32) then f_X9_isEqualizer_j102 fu l1 l2 l3 l4 r93.2 else some (Sum.inr (Sum.inr (Sum.inl (0 : Int32), r93.2)))) else f_X9_isEqualizer_j102 fu l1 l2 l3 l4 r80.2)))
def f_X9_isEqualizer_h53 (fu : Nat)   (l1 : Int32) (l2 : Int32) (l3 : Int32) (l4 : Int32) (M : Mem) : Option ((Int32 ⊕ Nat) × Mem) :=
  (lp_run (fun s => f_X9_isEqualizer_b53 fu  l1 l2 l3 s.1 s.2) fu (l4, M)).bind (fun r53 => match r53 with
    | Sum.inl M => some (Sum.inl (1 : Int32), M)
    | Sum.inr q53 => some q53)
def f_X9_isEqualizer (fu : Nat) (l1 : Int32) (l2 : Int32) (l3 : Int32) (M : Mem) : Option ((Int32 ⊕ Nat) × Mem) :=
  (f_X9_requireArrow fu l1 M).bind (fun r2 => match r2 with
    | (Sum.inl x2, n2) => (f_X9_requireArrow fu l2 n2).bind (fun r7 => match r7 with
    | (Sum.inl x7, n7) => (f_X9_requireArrow fu l3 n7).bind (fun r12 => match r12 with
    | (Sum.inl x12, n12) => (f_X9_isSquare fu l1 l2 l1 l3 n12).bind (fun r20 => if r20.1 = 0 then some (Sum.inr 1, r20.2) else (f_X9_sameBehind fu l1 l2 l1 l3 r20.2).bind (fun r42 => if r42.1 = 0 then some (Sum.inl (0 : Int32), r42.2) else f_X9_isEqualizer_h53 fu l1 l2 l3 (0 : Int32) r42.2))
    | (Sum.inr z12, n12) => some (Sum.inr z12, n12))
    | (Sum.inr z7, n7) => some (Sum.inr z7, n7))
    | (Sum.inr z2, n2) => some (Sum.inr z2, n2))
set_option maxHeartbeats 4000000 in
set_option maxRecDepth 100000 in
theorem k_X9_isEqualizer (l : Launch) (G : GE) (hl : l.stackTraces = false) (hG : GOK G) (fu : Nat) (l1 : Int32) (l2 : Int32) (l3 : Int32) (M : Mem) (res : (Int32 ⊕ Nat) × Mem) (hk0 : (9, 0) ∈ gids G) (hm : f_X9_isEqualizer fu l1 l2 l3 M = some res) : CT l G yX9_isEqualizer cX9_isEqualizer 5 (some .boolean) 7 [vR 9 0, vI l1, vI l2, vI l3] M (oI res.1) res.2 := by
  refine ct_of [(0, vR 9 0), (1, vI l1), (2, vI l2), (3, vI l3)] (by decide +kernel) hl hG (Nat.le_of_ble_eq_true rfl) rfl (List.forall_mem_cons.mpr ⟨Or.inl hk0, List.forall_mem_cons.mpr ⟨trivial, List.forall_mem_cons.mpr ⟨trivial, List.forall_mem_cons.mpr ⟨trivial, fun _ h => nomatch h⟩⟩⟩⟩) (List.forall_mem_cons.mpr ⟨Or.inl hk0, List.forall_mem_cons.mpr ⟨trivial, List.forall_mem_cons.mpr ⟨trivial, List.forall_mem_cons.mpr ⟨trivial, fun _ h => nomatch h⟩⟩⟩⟩) (fun X hX C => ?_)
  subst hX
  have Cl := C
  have J53 : ∀ (l1 : Int32) (l2 : Int32) (l3 : Int32) (l4 : Int32) (M : Mem), f_X9_isEqualizer_h53 fu   l1 l2 l3 l4 M = some res → GW G X 5 (QX G X (oI res.1) res.2) 53 [(0, vR 9 0), (1, vI l1), (2, vI l2), (3, vI l3), (4, vI l4)] [] M := by
    intro l1 l2 l3 l4 M hm
    unfold f_X9_isEqualizer_h53 at hm
    obtain ⟨r53, hL53, hk53⟩ := bnd_some hm
    have hx53 : ∀ (M : Mem), Sum.inl M = r53 → GW G X 5 (QX G X (oI res.1) res.2) 108 [] [] M := by
      intro M he
      subst he
      have hm := hk53
      try dsimp only at hm
      refine g_iconst (v := 1) C dX9_isEqualizer_108 rfl ?_
      obtain rfl := Option.some.inj hm
      exact g_zret C (Or.inr rfl) dX9_isEqualizer_109
    refine lp_ind1 (P := (fun l4 M => GW G X 5 (QX G X (oI res.1) res.2) 53 [(0, vR 9 0), (1, vI l1), (2, vI l2), (3, vI l3), (4, vI l4)] [] M)) (r := r53) ?_ fu l4 M hL53
    intro l4 M o53 hm K53
    have J102 : ∀ (l4 : Int32) (M : Mem), f_X9_isEqualizer_j102 fu  l1 l2 l3 l4 M = some o53 → GW G X 5 (QX G X (oI res.1) res.2) 102 [(0, vR 9 0), (1, vI l1), (2, vI l2), (3, vI l3), (4, vI l4)] [] M := by
      intro l4 M hm
      unfold f_X9_isEqualizer_j102 at hm
      refine g_iinc (ls' := [(4, vI (l4 + (1 : Int32))), (0, vR 9 0), (1, vI l1), (2, vI l2), (3, vI l3)]) (v := l4 + (1 : Int32)) C 4 dX9_isEqualizer_102 rfl (iv_p1 _) (by decide) rfl ?_
      refine g_goto (tgt := 53) C dX9_isEqualizer_105 (by decide) ?_
      obtain rfl := Option.some.inj hm
      exact g_sub [1, 2, 3, 4, 0] rfl (g_pc rfl (K53.1 (l4 + (1 : Int32)) M rfl))
    unfold f_X9_isEqualizer_b53 at hm
    refine g_iload C 4 dX9_isEqualizer_53 rfl ?_
    refine g_aload_n C 0 dX9_isEqualizer_55 rfl rfl ?_
    refine g_iload_n C 1 dX9_isEqualizer_56 rfl rfl ?_
    obtain ⟨r57, hr57, hm⟩ := bnd_some hm
    refine g_callVi (As := [vI l1]) (rest := [vI l4]) C lk_X9_339 (k_X9_sizeAtEnd X.2.1 G hl hG fu l1 M r57 hk0 hr57) (by decide) rfl rfl rfl (Nat.le_of_ble_eq_true rfl) ⟨Nat.le_of_ble_eq_true rfl, Nat.le_of_ble_eq_true rfl⟩ dX9_isEqualizer_57 ?_
    refine g_icmp_ge (tgt := 108) C dX9_isEqualizer_60 (by decide) (fun h60 => ?_) (fun h60 => ?_)
    · have hm := ift hm h60
      obtain rfl := Option.some.inj hm
      exact g_sub [] rfl (g_pc rfl (hx53 r57.2 (K53.2 _ rfl)))
    · have hm := ife hm h60
      refine g_aload_n C 0 dX9_isEqualizer_63 rfl rfl ?_
      refine g_getr (k := 0) (k' := 0) C (by decide) kf_X9_40 rfl rfl dX9_isEqualizer_64 ?_
      refine g_iload_n C 2 dX9_isEqualizer_67 rfl rfl ?_
      refine g_iload C 4 dX9_isEqualizer_68 rfl ?_
      obtain ⟨r70, hr70, hm⟩ := bnd_some hm
      refine g_callVi (As := [vI l2, vI l4]) (rest := []) C lk_X9_355 (k_X1_value X.2.1 G hl hG fu 0 l2 l4 r57.2 r70 ((hG _ hk0).2 4 1 0 0 rfl) hr70) (by decide) rfl rfl rfl (Nat.le_of_ble_eq_true rfl) ⟨Nat.le_of_ble_eq_true rfl, Nat.le_of_ble_eq_true rfl⟩ dX9_isEqualizer_70 ?_
      refine g_aload_n C 0 dX9_isEqualizer_73 rfl rfl ?_
      refine g_getr (k := 0) (k' := 0) C (by decide) kf_X9_40 rfl rfl dX9_isEqualizer_74 ?_
      refine g_iload_n C 3 dX9_isEqualizer_77 rfl rfl ?_
      refine g_iload C 4 dX9_isEqualizer_78 rfl ?_
      obtain ⟨r80, hr80, hm⟩ := bnd_some hm
      refine g_callVi (As := [vI l3, vI l4]) (rest := [vI r70.1]) C lk_X9_355 (k_X1_value X.2.1 G hl hG fu 0 l3 l4 r70.2 r80 ((hG _ hk0).2 4 1 0 0 rfl) hr80) (by decide) rfl rfl rfl (Nat.le_of_ble_eq_true rfl) ⟨Nat.le_of_ble_eq_true rfl, Nat.le_of_ble_eq_true rfl⟩ dX9_isEqualizer_80 ?_
      refine g_icmp_ne (tgt := 102) C dX9_isEqualizer_83 (by decide) (fun h83 => ?_) (fun h83 => ?_)
      · have hm := ife hm h83
        exact g_sub [0, 1, 2, 3, 4] rfl (g_pc rfl (J102 l4 r80.2 hm))
      · have hm := ift hm h83
        refine g_aload_n C 0 dX9_isEqualizer_86 rfl rfl ?_
        refine g_iload_n C 1 dX9_isEqualizer_87 rfl rfl ?_
        refine g_iload C 4 dX9_isEqualizer_88 rfl ?_
        refine g_iload_n C 1 dX9_isEqualizer_90 rfl rfl ?_
        refine g_iload C 4 dX9_isEqualizer_91 rfl ?_
        obtain ⟨r93, hr93, hm⟩ := bnd_some hm
        refine g_callVi (As := [vI l1, vI l4, vI l1, vI l4]) (rest := []) C lk_X9_342 (k_X9_sources X.2.1 G hl hG fu l1 l4 l1 l4 r80.2 r93 hk0 hr93) (by decide) rfl rfl rfl (Nat.le_of_ble_eq_true rfl) ⟨Nat.le_of_ble_eq_true rfl, Nat.le_of_ble_eq_true rfl⟩ dX9_isEqualizer_93 ?_
        refine g_iconst (v := 1) C dX9_isEqualizer_96 rfl ?_
        refine g_icmp_eq (tgt := 102) C dX9_isEqualizer_97 (by decide) (fun h97 => ?_) (fun h97 => ?_)
        · have hm := ift hm h97
          exact g_sub [0, 1, 2, 3, 4] rfl (g_pc rfl (J102 l4 r93.2 hm))
        · have hm := ife hm h97
          refine g_iconst (v := 0) C dX9_isEqualizer_100 rfl ?_
          obtain rfl := Option.some.inj hm
          have e53 := K53.2 _ rfl
          subst e53
          obtain rfl := Option.some.inj hk53
          exact g_zret C (Or.inl rfl) dX9_isEqualizer_101
  unfold f_X9_isEqualizer at hm
  refine g_aload_n C 0 dX9_isEqualizer_0 rfl rfl ?_
  refine g_iload_n C 1 dX9_isEqualizer_1 rfl rfl ?_
  obtain ⟨⟨x2 | z2, n2⟩, hr2, hm⟩ := bnd_some hm
  · refine g_callVv (As := [vI l1]) (rest := []) C lk_X9_299 (k_X9_requireArrow X.2.1 G hl hG fu l1 M (Sum.inl x2, n2) hk0 hr2) (by decide) rfl rfl rfl (Nat.le_of_ble_eq_true rfl) ⟨Nat.le_of_ble_eq_true rfl, Nat.le_of_ble_eq_true rfl⟩ dX9_isEqualizer_2 ?_
    refine g_aload_n C 0 dX9_isEqualizer_5 rfl rfl ?_
    refine g_iload_n C 2 dX9_isEqualizer_6 rfl rfl ?_
    obtain ⟨⟨x7 | z7, n7⟩, hr7, hm⟩ := bnd_some hm
    · refine g_callVv (As := [vI l2]) (rest := []) C lk_X9_299 (k_X9_requireArrow X.2.1 G hl hG fu l2 n2 (Sum.inl x7, n7) hk0 hr7) (by decide) rfl rfl rfl (Nat.le_of_ble_eq_true rfl) ⟨Nat.le_of_ble_eq_true rfl, Nat.le_of_ble_eq_true rfl⟩ dX9_isEqualizer_7 ?_
      refine g_aload_n C 0 dX9_isEqualizer_10 rfl rfl ?_
      refine g_iload_n C 3 dX9_isEqualizer_11 rfl rfl ?_
      obtain ⟨⟨x12 | z12, n12⟩, hr12, hm⟩ := bnd_some hm
      · refine g_callVv (As := [vI l3]) (rest := []) C lk_X9_299 (k_X9_requireArrow X.2.1 G hl hG fu l3 n7 (Sum.inl x12, n12) hk0 hr12) (by decide) rfl rfl rfl (Nat.le_of_ble_eq_true rfl) ⟨Nat.le_of_ble_eq_true rfl, Nat.le_of_ble_eq_true rfl⟩ dX9_isEqualizer_12 ?_
        refine g_aload_n C 0 dX9_isEqualizer_15 rfl rfl ?_
        refine g_iload_n C 1 dX9_isEqualizer_16 rfl rfl ?_
        refine g_iload_n C 2 dX9_isEqualizer_17 rfl rfl ?_
        refine g_iload_n C 1 dX9_isEqualizer_18 rfl rfl ?_
        refine g_iload_n C 3 dX9_isEqualizer_19 rfl rfl ?_
        obtain ⟨r20, hr20, hm⟩ := bnd_some hm
        refine g_callVi (As := [vI l1, vI l2, vI l1, vI l3]) (rest := []) C lk_X9_346 (k_X9_isSquare X.2.1 G hl hG fu l1 l2 l1 l3 n12 r20 hk0 hr20) (by decide) rfl rfl rfl (Nat.le_of_ble_eq_true rfl) ⟨Nat.le_of_ble_eq_true rfl, Nat.le_of_ble_eq_true rfl⟩ dX9_isEqualizer_20 ?_
        refine g_if_ne (tgt := 37) C dX9_isEqualizer_23 (by decide) (fun h23 => ?_) (fun h23 => ?_)
        · have hm := ife hm h23
          refine g_aload_n C 0 dX9_isEqualizer_37 rfl rfl ?_
          refine g_iload_n C 1 dX9_isEqualizer_38 rfl rfl ?_
          refine g_iload_n C 2 dX9_isEqualizer_39 rfl rfl ?_
          refine g_iload_n C 1 dX9_isEqualizer_40 rfl rfl ?_
          refine g_iload_n C 3 dX9_isEqualizer_41 rfl rfl ?_
          obtain ⟨r42, hr42, hm⟩ := bnd_some hm
          refine g_callVi (As := [vI l1, vI l2, vI l1, vI l3]) (rest := []) C lk_X9_352 (k_X9_sameBehind X.2.1 G hl hG fu l1 l2 l1 l3 r20.2 r42 hk0 hr42) (by decide) rfl rfl rfl (Nat.le_of_ble_eq_true rfl) ⟨Nat.le_of_ble_eq_true rfl, Nat.le_of_ble_eq_true rfl⟩ dX9_isEqualizer_42 ?_
          refine g_if_ne (tgt := 50) C dX9_isEqualizer_45 (by decide) (fun h45 => ?_) (fun h45 => ?_)
          · have hm := ife hm h45
            refine g_iconst (v := 0) C dX9_isEqualizer_50 rfl ?_
            refine g_istore (ls' := [(4, vI (0 : Int32)), (0, vR 9 0), (1, vI l1), (2, vI l2), (3, vI l3)]) C dX9_isEqualizer_51 (by decide) rfl ?_
            exact g_sub [1, 2, 3, 4, 0] rfl (g_pc rfl (J53 l1 l2 l3 (0 : Int32) r42.2 hm))
          · have hm := ift hm h45
            refine g_iconst (v := 0) C dX9_isEqualizer_48 rfl ?_
            obtain rfl := Option.some.inj hm
            exact g_zret C (Or.inl rfl) dX9_isEqualizer_49
        · have hm := ift hm h23
          obtain rfl := Option.some.inj hm
          exact g_throwW (o := .inl none) (E := "java/lang/IllegalArgumentException") (d := 7) C tk_X9_70_74 (by decide +kernel : ("ArrowDiagrams", 358, "they do not lead like that") ∈ strs) (by decide) rfl dX9_isEqualizer_26 dX9_isEqualizer_29 dX9_isEqualizer_30 dX9_isEqualizer_33 dX9_isEqualizer_36
      · skip
        obtain rfl := Option.some.inj hm
        exact g_callVx (E := exN z12) (As := [vI l3]) (rest := []) C lk_X9_299 (k_X9_requireArrow X.2.1 G hl hG fu l3 n7 (Sum.inr z12, n12) hk0 hr12) (by decide) rfl rfl rfl (Nat.le_of_ble_eq_true rfl) ⟨Nat.le_of_ble_eq_true rfl, Nat.le_of_ble_eq_true rfl⟩ dX9_isEqualizer_12
    · skip
      obtain rfl := Option.some.inj hm
      exact g_callVx (E := exN z7) (As := [vI l2]) (rest := []) C lk_X9_299 (k_X9_requireArrow X.2.1 G hl hG fu l2 n2 (Sum.inr z7, n7) hk0 hr7) (by decide) rfl rfl rfl (Nat.le_of_ble_eq_true rfl) ⟨Nat.le_of_ble_eq_true rfl, Nat.le_of_ble_eq_true rfl⟩ dX9_isEqualizer_7
  · skip
    obtain rfl := Option.some.inj hm
    exact g_callVx (E := exN z2) (As := [vI l1]) (rest := []) C lk_X9_299 (k_X9_requireArrow X.2.1 G hl hG fu l1 M (Sum.inr z2, n2) hk0 hr2) (by decide) rfl rfl rfl (Nat.le_of_ble_eq_true rfl) ⟨Nat.le_of_ble_eq_true rfl, Nat.le_of_ble_eq_true rfl⟩ dX9_isEqualizer_2
def f_X9_doubleBits_b15 (fu : Nat)   (l2 : UInt64) (l4 : Int64) (M : Mem) : Option ((UInt64 × Int64 × Mem) ⊕ (UInt64 × Int64 × Mem)) :=
  if 0 ≤ (Op.cmpValue (FP.dcmp l2 FP.dconst1) .g) then some (Sum.inr (l2, l4, M)) else if (lg_cmp l4 (1 : Int64)) ≤ 0 then some (Sum.inr (l2, l4, M)) else if fn64 (FP.dmul l2 (4611686018427387904 : UInt64)) then some (Sum.inl (FP.dmul l2 (4611686018427387904 : UInt64), l4 - (1 : Int64), M)) else none
def f_X9_doubleBits_j43 (fu : Nat)   (l2 : UInt64) (l4 : Int64) (M : Mem) : Option (Int64 × Mem) :=
  if fn64 (FP.dsub l2 FP.dconst1) then if fn64 (FP.dmul (FP.dsub l2 FP.dconst1) (4841369599423283200 : UInt64)) then some ((l4 <<< ((52 : Int32).toInt64 &&& 63)) ||| (FP.d2l (FP.dmul (FP.dsub l2 FP.dconst1) (4841369599423283200 : UInt64))), M) else none else none
def f_X9_doubleBits_h15 (fu : Nat)   (l2 : UInt64) (l4 : Int64) (M : Mem) : Option (Int64 × Mem) :=
  (lp_run (fun s => f_X9_doubleBits_b15 fu   s.1 s.2.1 s.2.2) fu (l2, l4, M)).bind (fun r15 => match r15 with
    | (l2, l4, M) => f_X9_doubleBits_j43 fu l2 l4 M)
def f_X9_doubleBits (fu : Nat) (l0 : UInt64) (M : Mem) : Option (Int64 × Mem) :=
  if 0 < (Op.cmpValue (FP.dcmp l0 FP.dconst0) .l) then f_X9_doubleBits_h15 fu l0 (1023 : Int64) M else some ((0 : Int64), M)
set_option maxHeartbeats 4000000 in
set_option maxRecDepth 100000 in
theorem k_X9_doubleBits (l : Launch) (G : GE) (hl : l.stackTraces = false) (hG : GOK G) (fu : Nat) (l0 : UInt64) (M : Mem) (res : Int64 × Mem)  (hm : f_X9_doubleBits fu l0 M = some res) : CT l G yX9_doubleBits cX9_doubleBits 6 (some .long) 0 [vD l0] M (.inl (some (vL res.1))) res.2 := by
  refine ct_of [(0, vD l0)] (by decide +kernel) hl hG (Nat.le_of_ble_eq_true rfl) rfl (List.forall_mem_cons.mpr ⟨trivial, fun _ h => nomatch h⟩) (List.forall_mem_cons.mpr ⟨trivial, fun _ h => nomatch h⟩) (fun X hX C => ?_)
  subst hX
  have Cl := C
  have J43 : ∀ (l2 : UInt64) (l4 : Int64) (M : Mem), f_X9_doubleBits_j43 fu   l2 l4 M = some res → GW G X 6 (QX G X (.inl (some (vL res.1))) res.2) 43 [(2, vD l2), (4, vL l4)] [] M := by
    intro l2 l4 M hm
    unfold f_X9_doubleBits_j43 at hm
    refine g_lload C 1 dX9_doubleBits_43 rfl ?_
    refine g_bipush (v := 52) C dX9_doubleBits_45 rfl ?_
    refine g_lshl C dX9_doubleBits_47 ?_
    refine g_dload_n C 0 dX9_doubleBits_48 rfl rfl ?_
    refine g_dconst1 C dX9_doubleBits_49 ?_
    obtain ⟨hz50, hm⟩ := ifn hm
    refine g_dsub C dX9_doubleBits_50 hz50 ?_
    refine g_ldc2d (v := 4841369599423283200) C kc_X9_430 dX9_doubleBits_51 ?_
    obtain ⟨hz54, hm⟩ := ifn hm
    refine g_dmul C dX9_doubleBits_54 hz54 ?_
    refine g_d2l C dX9_doubleBits_55 ?_
    refine g_lor C dX9_doubleBits_56 ?_
    obtain rfl := Option.some.inj hm
    exact g_lret C dX9_doubleBits_57
  have J15 : ∀ (l2 : UInt64) (l4 : Int64) (M : Mem), f_X9_doubleBits_h15 fu   l2 l4 M = some res → GW G X 6 (QX G X (.inl (some (vL res.1))) res.2) 15 [(2, vD l2), (4, vL l4)] [] M := by
    intro l2 l4 M hm
    unfold f_X9_doubleBits_h15 at hm
    obtain ⟨r15, hL15, hk15⟩ := bnd_some hm
    have hx15 : ∀ (l2 : UInt64) (l4 : Int64) (M : Mem), (l2, l4, M) = r15 → GW G X 6 (QX G X (.inl (some (vL res.1))) res.2) 43 [(2, vD l2), (4, vL l4)] [] M := by
      intro l2 l4 M he
      subst he
      have hm := hk15
      try dsimp only at hm
      exact g_sub [0, 1] rfl (g_pc rfl (J43 l2 l4 M hm))
    refine lp_ind2 (P := (fun l2 l4 M => GW G X 6 (QX G X (.inl (some (vL res.1))) res.2) 15 [(2, vD l2), (4, vL l4)] [] M)) (r := r15) ?_ fu l2 l4 M hL15
    intro l2 l4 M o15 hm K15
    unfold f_X9_doubleBits_b15 at hm
    refine g_dload_n C 0 dX9_doubleBits_15 rfl rfl ?_
    refine g_dconst1 C dX9_doubleBits_16 ?_
    refine g_dcmp C dX9_doubleBits_17 ?_
    refine g_if_ge (tgt := 43) C dX9_doubleBits_18 (by decide) (fun h18 => ?_) (fun h18 => ?_)
    · have hm := ift hm h18
      obtain rfl := Option.some.inj hm
      exact g_sub [0, 1] rfl (g_pc rfl (hx15 l2 l4 M (K15.2 _ rfl)))
    · have hm := ife hm h18
      refine g_lload C 1 dX9_doubleBits_21 rfl ?_
      refine g_lconst (v := 1) C dX9_doubleBits_23 rfl ?_
      refine g_lcmp C dX9_doubleBits_24 ?_
      refine g_if_le (tgt := 43) C dX9_doubleBits_25 (by decide) (fun h25 => ?_) (fun h25 => ?_)
      · have hm := ift hm h25
        obtain rfl := Option.some.inj hm
        exact g_sub [0, 1] rfl (g_pc rfl (hx15 l2 l4 M (K15.2 _ rfl)))
      · have hm := ife hm h25
        refine g_dload_n C 0 dX9_doubleBits_28 rfl rfl ?_
        refine g_ldc2d (v := 4611686018427387904) C kc_X9_428 dX9_doubleBits_29 ?_
        obtain ⟨hz32, hm⟩ := ifn hm
        refine g_dmul C dX9_doubleBits_32 hz32 ?_
        refine g_dstore_n (ls' := [(2, vD (FP.dmul l2 (4611686018427387904 : UInt64))), (4, vL l4)]) C dX9_doubleBits_33 rfl (by decide) rfl ?_
        refine g_lload C 1 dX9_doubleBits_34 rfl ?_
        refine g_lconst (v := 1) C dX9_doubleBits_36 rfl ?_
        refine g_lsub C dX9_doubleBits_37 ?_
        refine g_lstore (ls' := [(4, vL (l4 - (1 : Int64))), (2, vD (FP.dmul l2 (4611686018427387904 : UInt64)))]) C dX9_doubleBits_38 (by decide) rfl ?_
        refine g_goto (tgt := 15) C dX9_doubleBits_40 (by decide) ?_
        obtain rfl := Option.some.inj hm
        exact g_sub [1, 0] rfl (g_pc rfl (K15.1 (FP.dmul l2 (4611686018427387904 : UInt64)) (l4 - (1 : Int64)) M rfl))
  unfold f_X9_doubleBits at hm
  refine g_dload_n C 0 dX9_doubleBits_0 rfl rfl ?_
  refine g_dconst0 C dX9_doubleBits_1 ?_
  refine g_dcmp C dX9_doubleBits_2 ?_
  refine g_if_gt (tgt := 8) C dX9_doubleBits_3 (by decide) (fun h3 => ?_) (fun h3 => ?_)
  · have hm := ift hm h3
    refine g_dload_n C 0 dX9_doubleBits_8 rfl rfl ?_
    refine g_dstore_n (ls' := [(2, vD l0), (0, vD l0)]) C dX9_doubleBits_9 rfl (by decide) rfl ?_
    refine g_ldc2 (v := 1023) C kc_X9_426 dX9_doubleBits_10 ?_
    refine g_lstore (ls' := [(4, vL (1023 : Int64)), (2, vD l0), (0, vD l0)]) C dX9_doubleBits_13 (by decide) rfl ?_
    exact g_sub [1, 0] rfl (g_pc rfl (J15 l0 (1023 : Int64) M hm))
  · have hm := ife hm h3
    refine g_lconst (v := 0) C dX9_doubleBits_6 rfl ?_
    obtain rfl := Option.some.inj hm
    exact g_lret C dX9_doubleBits_7
def f_X9_digest_b6 (fu : Nat)   (l1 : Int64) (l3 : Int32) (M : Mem) : Option ((Int64 × Int32 × Mem) ⊕ ((Int64 × Mem) ⊕ ((Int64 ⊕ Nat) × Mem))) :=
  if (7 : Int32) < l3 then some (Sum.inr (Sum.inl (l1, M))) else (f_X9_count fu l3 M).bind (fun r19 => match r19 with
    | (Sum.inl x19, n19) => some (Sum.inl (((31 : Int64) * l1) + x19.toInt64, l3 + (1 : Int32), n19))
    | (Sum.inr z19, n19) => some (Sum.inr (Sum.inr (Sum.inr z19, n19))))
def f_X9_digest_b33 (fu : Nat)   (l1 : Int64) (l3 : Int32) (M : Mem) : Option ((Int64 × Int32 × Mem) ⊕ (Int64 × Mem)) :=
  (f_X2_objectTotal fu 0 M).bind (fun r38 => if r38.1 ≤ l3 then some (Sum.inr (l1, r38.2)) else (f_X1_size fu 0 l3 r38.2).bind (fun r54 => some (Sum.inl (((31 : Int64) * l1) + r54.1.toInt64, l3 + (1 : Int32), r54.2))))
def f_X9_digest_b68 (fu : Nat)   (l1 : Int64) (l3 : Int32) (M : Mem) : Option ((Int64 × Int32 × Mem) ⊕ (Int64 × Mem)) :=
  (f_X2_arrowTotal fu 0 M).bind (fun r73 => if r73.1 ≤ l3 then some (Sum.inr (l1, r73.2)) else (f_X2_from fu 0 l3 r73.2).bind (fun r89 => (f_X2_to fu 0 l3 r89.2).bind (fun r105 => (f_X1_code fu 0 l3 r105.2).bind (fun r121 => some (Sum.inl (((31 : Int64) * (((31 : Int64) * (((31 : Int64) * l1) + r89.1.toInt64)) + r105.1.toInt64)) + r121.1.toInt64, l3 + (1 : Int32), r121.2))))))
def f_X9_digest_b149 (fu : Nat)  (l3 : Int32) (l1 : Int64) (l4 : Int32) (M : Mem) : Option ((Int64 × Int32 × Mem) ⊕ ((Int64 × Mem) ⊕ ((Int64 ⊕ Nat) × Mem))) :=
  if (4 : Int32) < l4 then some (Sum.inr (Sum.inl (l1, M))) else (f_X9_cell fu l3 l4 M).bind (fun r164 => match r164 with
    | (Sum.inl x164, n164) => some (Sum.inl (((31 : Int64) * l1) + x164.toInt64, l4 + (1 : Int32), n164))
    | (Sum.inr z164, n164) => some (Sum.inr (Sum.inr (Sum.inr z164, n164))))
def f_X9_digest_h149 (fu : Nat)   (l1 : Int64) (l3 : Int32) (l4 : Int32) (M : Mem) : Option ((Int64 × Int32 × Mem) ⊕ ((Int64 × Mem) ⊕ ((Int64 ⊕ Nat) × Mem))) :=
  (lp_run (fun s => f_X9_digest_b149 fu  l3 s.1 s.2.1 s.2.2) fu (l1, l4, M)).bind (fun r149 => match r149 with
    | Sum.inl (l1, M) => some (Sum.inl (l1, l3 + (1 : Int32), M))
    | Sum.inr q149 => some (Sum.inr (Sum.inr q149)))
def f_X9_digest_b135 (fu : Nat)   (l1 : Int64) (l3 : Int32) (M : Mem) : Option ((Int64 × Int32 × Mem) ⊕ ((Int64 × Mem) ⊕ ((Int64 ⊕ Nat) × Mem))) :=
  (f_X0_total fu 0 M).bind (fun r140 => if r140.1 ≤ l3 then some (Sum.inr (Sum.inl (l1, r140.2))) else f_X9_digest_h149 fu l1 l3 (0 : Int32) r140.2)
def f_X9_digest_b184 (fu : Nat)   (l1 : Int64) (l3 : Int32) (M : Mem) : Option ((Int64 × Int32 × Mem) ⊕ ((Int64 × Mem) ⊕ ((Int64 ⊕ Nat) × Mem))) :=
  (f_X6_total fu  M).bind (fun r189 => if r189.1 ≤ l3 then some (Sum.inr (Sum.inl (l1, r189.2))) else (f_X9_path fu l3 (0 : Int32) r189.2).bind (fun r203 => match r203 with
    | (Sum.inl x203, n203) => (f_X9_path fu l3 (1 : Int32) n203).bind (fun r217 => match r217 with
    | (Sum.inl x217, n217) => (f_X9_path fu l3 (3 : Int32) n217).bind (fun r231 => match r231 with
    | (Sum.inl x231, n231) => (f_X9_path fu l3 (5 : Int32) n231).bind (fun r245 => match r245 with
    | (Sum.inl x245, n245) => some (Sum.inl (((31 : Int64) * (((31 : Int64) * (((31 : Int64) * (((31 : Int64) * l1) + x203.toInt64)) + x217.toInt64)) + x231.toInt64)) + x245.toInt64, l3 + (1 : Int32), n245))
    | (Sum.inr z245, n245) => some (Sum.inr (Sum.inr (Sum.inr z245, n245))))
    | (Sum.inr z231, n231) => some (Sum.inr (Sum.inr (Sum.inr z231, n231))))
    | (Sum.inr z217, n217) => some (Sum.inr (Sum.inr (Sum.inr z217, n217))))
    | (Sum.inr z203, n203) => some (Sum.inr (Sum.inr (Sum.inr z203, n203)))))
def f_X9_digest_b288 (fu : Nat)   (l1 : Int64) (l3 : Int32) (M : Mem) : Option ((Int64 × Int32 × Mem) ⊕ (Int64 × Mem)) :=
  (f_X4_length fu  M).bind (fun r293 => if r293.1 ≤ l3 then some (Sum.inr (l1, r293.2)) else (f_X4_codeAt fu l3 r293.2).bind (fun r309 => some (Sum.inl (((31 : Int64) * l1) + r309.1.toInt64, l3 + (1 : Int32), r309.2))))
def f_X9_digest_h288 (fu : Nat)   (l1 : Int64) (l3 : Int32) (M : Mem) : Option ((Int64 ⊕ Nat) × Mem) :=
  (lp_run (fun s => f_X9_digest_b288 fu   s.1 s.2.1 s.2.2) fu (l1, l3, M)).bind (fun r288 => match r288 with
    | (l1, M) => some (Sum.inl l1, M))
def f_X9_digest_h184 (fu : Nat)   (l1 : Int64) (l3 : Int32) (M : Mem) : Option ((Int64 ⊕ Nat) × Mem) :=
  (lp_run (fun s => f_X9_digest_b184 fu   s.1 s.2.1 s.2.2) fu (l1, l3, M)).bind (fun r184 => match r184 with
    | Sum.inl (l1, M) => (f_X9_commuting fu  M).bind (fun r263 => (f_X9_doubleBits fu r263.1 r263.2).bind (fun r266 => (f_X4_length fu  r266.2).bind (fun r280 => f_X9_digest_h288 fu (((31 : Int64) * (((31 : Int64) * l1) + r266.1)) + r280.1.toInt64) (0 : Int32) r280.2)))
    | Sum.inr q184 => some q184)
def f_X9_digest_h135 (fu : Nat)   (l1 : Int64) (l3 : Int32) (M : Mem) : Option ((Int64 ⊕ Nat) × Mem) :=
  (lp_run (fun s => f_X9_digest_b135 fu   s.1 s.2.1 s.2.2) fu (l1, l3, M)).bind (fun r135 => match r135 with
    | Sum.inl (l1, M) => f_X9_digest_h184 fu l1 (0 : Int32) M
    | Sum.inr q135 => some q135)
def f_X9_digest_h68 (fu : Nat)   (l1 : Int64) (l3 : Int32) (M : Mem) : Option ((Int64 ⊕ Nat) × Mem) :=
  (lp_run (fun s => f_X9_digest_b68 fu   s.1 s.2.1 s.2.2) fu (l1, l3, M)).bind (fun r68 => match r68 with
    | (l1, M) => f_X9_digest_h135 fu l1 (0 : Int32) M)
def f_X9_digest_h33 (fu : Nat)   (l1 : Int64) (l3 : Int32) (M : Mem) : Option ((Int64 ⊕ Nat) × Mem) :=
  (lp_run (fun s => f_X9_digest_b33 fu   s.1 s.2.1 s.2.2) fu (l1, l3, M)).bind (fun r33 => match r33 with
    | (l1, M) => f_X9_digest_h68 fu l1 (0 : Int32) M)
def f_X9_digest_h6 (fu : Nat)   (l1 : Int64) (l3 : Int32) (M : Mem) : Option ((Int64 ⊕ Nat) × Mem) :=
  (lp_run (fun s => f_X9_digest_b6 fu   s.1 s.2.1 s.2.2) fu (l1, l3, M)).bind (fun r6 => match r6 with
    | Sum.inl (l1, M) => f_X9_digest_h33 fu l1 (0 : Int32) M
    | Sum.inr q6 => some q6)
def f_X9_digest (fu : Nat) (M : Mem) : Option ((Int64 ⊕ Nat) × Mem) :=
  f_X9_digest_h6 fu (1987 : Int64) (0 : Int32) M
set_option maxHeartbeats 4000000 in
set_option maxRecDepth 100000 in
theorem k_X9_digest (l : Launch) (G : GE) (hl : l.stackTraces = false) (hG : GOK G) (fu : Nat)  (M : Mem) (res : (Int64 ⊕ Nat) × Mem) (hk0 : (9, 0) ∈ gids G) (hm : f_X9_digest fu  M = some res) : CT l G yX9_digest cX9_digest 5 (some .long) 8 [vR 9 0] M (oL res.1) res.2 := by
  refine ct_of [(0, vR 9 0)] (by decide +kernel) hl hG (Nat.le_of_ble_eq_true rfl) rfl (List.forall_mem_cons.mpr ⟨Or.inl hk0, fun _ h => nomatch h⟩) (List.forall_mem_cons.mpr ⟨Or.inl hk0, fun _ h => nomatch h⟩) (fun X hX C => ?_)
  subst hX
  have Cl := C
  have J288 : ∀ (l1 : Int64) (l3 : Int32) (M : Mem), f_X9_digest_h288 fu   l1 l3 M = some res → GW G X 5 (QX G X (oL res.1) res.2) 288 [(0, vR 9 0), (1, vL l1), (3, vI l3)] [] M := by
    intro l1 l3 M hm
    unfold f_X9_digest_h288 at hm
    obtain ⟨r288, hL288, hk288⟩ := bnd_some hm
    have hx288 : ∀ (l1 : Int64) (M : Mem), (l1, M) = r288 → GW G X 5 (QX G X (oL res.1) res.2) 321 [(1, vL l1)] [] M := by
      intro l1 M he
      subst he
      have hm := hk288
      try dsimp only at hm
      refine g_lload_n C 0 dX9_digest_321 rfl rfl ?_
      obtain rfl := Option.some.inj hm
      exact g_lret C dX9_digest_322
    refine lp_ind2 (P := (fun l1 l3 M => GW G X 5 (QX G X (oL res.1) res.2) 288 [(0, vR 9 0), (1, vL l1), (3, vI l3)] [] M)) (r := r288) ?_ fu l1 l3 M hL288
    intro l1 l3 M o288 hm K288
    unfold f_X9_digest_b288 at hm
    refine g_iload_n C 2 dX9_digest_288 rfl rfl ?_
    refine g_aload_n C 0 dX9_digest_289 rfl rfl ?_
    refine g_getr (k := 0) (k' := 0) C (by decide) kf_X9_50 rfl rfl dX9_digest_290 ?_
    obtain ⟨r293, hr293, hm⟩ := bnd_some hm
    refine g_callVi (As := []) (rest := [vI l3]) C lk_X9_154 (k_X4_length X.2.1 G hl hG fu  M r293 ((hG _ hk0).2 6 4 0 0 rfl) hr293) (by decide) rfl rfl rfl (Nat.le_of_ble_eq_true rfl) ⟨Nat.le_of_ble_eq_true rfl, Nat.le_of_ble_eq_true rfl⟩ dX9_digest_293 ?_
    refine g_icmp_ge (tgt := 321) C dX9_digest_296 (by decide) (fun h296 => ?_) (fun h296 => ?_)
    · have hm := ift hm h296
      obtain rfl := Option.some.inj hm
      exact g_sub [1] rfl (g_pc rfl (hx288 l1 r293.2 (K288.2 _ rfl)))
    · have hm := ife hm h296
      refine g_ldc2 (v := 31) C kc_X9_362 dX9_digest_299 ?_
      refine g_lload_n C 1 dX9_digest_302 rfl rfl ?_
      refine g_lmul C dX9_digest_303 ?_
      refine g_aload_n C 0 dX9_digest_304 rfl rfl ?_
      refine g_getr (k := 0) (k' := 0) C (by decide) kf_X9_50 rfl rfl dX9_digest_305 ?_
      refine g_iload_n C 2 dX9_digest_308 rfl rfl ?_
      obtain ⟨r309, hr309, hm⟩ := bnd_some hm
      refine g_callVi (As := [vI l3]) (rest := [vL ((31 : Int64) * l1)]) C lk_X9_381 (k_X4_codeAt X.2.1 G hl hG fu l3 r293.2 r309 ((hG _ hk0).2 6 4 0 0 rfl) hr309) (by decide) rfl rfl rfl (Nat.le_of_ble_eq_true rfl) ⟨Nat.le_of_ble_eq_true rfl, Nat.le_of_ble_eq_true rfl⟩ dX9_digest_309 ?_
      refine g_i2l C dX9_digest_312 ?_
      refine g_ladd C dX9_digest_313 ?_
      refine g_lstore_n (ls' := [(1, vL (((31 : Int64) * l1) + r309.1.toInt64)), (0, vR 9 0), (3, vI l3)]) C dX9_digest_314 rfl (by decide) rfl ?_
      refine g_iinc (ls' := [(3, vI (l3 + (1 : Int32))), (1, vL (((31 : Int64) * l1) + r309.1.toInt64)), (0, vR 9 0)]) (v := l3 + (1 : Int32)) C 2 dX9_digest_315 rfl (iv_p1 _) (by decide) rfl ?_
      refine g_goto (tgt := 288) C dX9_digest_318 (by decide) ?_
      obtain rfl := Option.some.inj hm
      exact g_sub [2, 1, 0] rfl (g_pc rfl (K288.1 (((31 : Int64) * l1) + r309.1.toInt64) (l3 + (1 : Int32)) r309.2 rfl))
  have J184 : ∀ (l1 : Int64) (l3 : Int32) (M : Mem), f_X9_digest_h184 fu   l1 l3 M = some res → GW G X 5 (QX G X (oL res.1) res.2) 184 [(0, vR 9 0), (1, vL l1), (3, vI l3)] [] M := by
    intro l1 l3 M hm
    unfold f_X9_digest_h184 at hm
    obtain ⟨r184, hL184, hk184⟩ := bnd_some hm
    have hx184 : ∀ (l1 : Int64) (M : Mem), Sum.inl (l1, M) = r184 → GW G X 5 (QX G X (oL res.1) res.2) 257 [(0, vR 9 0), (1, vL l1)] [] M := by
      intro l1 M he
      subst he
      have hm := hk184
      try dsimp only at hm
      refine g_ldc2 (v := 31) C kc_X9_362 dX9_digest_257 ?_
      refine g_lload_n C 1 dX9_digest_260 rfl rfl ?_
      refine g_lmul C dX9_digest_261 ?_
      refine g_aload_n C 0 dX9_digest_262 rfl rfl ?_
      obtain ⟨r263, hr263, hm⟩ := bnd_some hm
      refine g_callVd (As := []) (rest := [vL ((31 : Int64) * l1)]) C lk_X9_373 (k_X9_commuting X.2.1 G hl hG fu  M r263 hk0 hr263) (by decide) rfl rfl rfl (Nat.le_of_ble_eq_true rfl) ⟨Nat.le_of_ble_eq_true rfl, Nat.le_of_ble_eq_true rfl⟩ dX9_digest_263 ?_
      obtain ⟨r266, hr266, hm⟩ := bnd_some hm
      refine g_callSl (As := [vD r263.1]) (rest := [vL ((31 : Int64) * l1)]) C lk_X9_377 (k_X9_doubleBits X.2.1 G hl hG fu r263.1 r263.2 r266  hr266) rfl rfl (Nat.le_of_ble_eq_true rfl) ⟨Nat.le_of_ble_eq_true rfl, Nat.le_of_ble_eq_true rfl⟩ dX9_digest_266 ?_
      refine g_ladd C dX9_digest_269 ?_
      refine g_lstore_n (ls' := [(1, vL (((31 : Int64) * l1) + r266.1)), (0, vR 9 0)]) C dX9_digest_270 rfl (by decide) rfl ?_
      refine g_ldc2 (v := 31) C kc_X9_362 dX9_digest_271 ?_
      refine g_lload_n C 0 dX9_digest_274 rfl rfl ?_
      refine g_lmul C dX9_digest_275 ?_
      refine g_aload_n C 1 dX9_digest_276 rfl rfl ?_
      refine g_getr (k := 0) (k' := 0) C (by decide) kf_X9_50 rfl rfl dX9_digest_277 ?_
      obtain ⟨r280, hr280, hm⟩ := bnd_some hm
      refine g_callVi (As := []) (rest := [vL ((31 : Int64) * (((31 : Int64) * l1) + r266.1))]) C lk_X9_154 (k_X4_length X.2.1 G hl hG fu  r266.2 r280 ((hG _ hk0).2 6 4 0 0 rfl) hr280) (by decide) rfl rfl rfl (Nat.le_of_ble_eq_true rfl) ⟨Nat.le_of_ble_eq_true rfl, Nat.le_of_ble_eq_true rfl⟩ dX9_digest_280 ?_
      refine g_i2l C dX9_digest_283 ?_
      refine g_ladd C dX9_digest_284 ?_
      refine g_lstore_n (ls' := [(1, vL (((31 : Int64) * (((31 : Int64) * l1) + r266.1)) + r280.1.toInt64)), (0, vR 9 0)]) C dX9_digest_285 rfl (by decide) rfl ?_
      refine g_iconst (v := 0) C dX9_digest_286 rfl ?_
      refine g_istore_n (ls' := [(3, vI (0 : Int32)), (1, vL (((31 : Int64) * (((31 : Int64) * l1) + r266.1)) + r280.1.toInt64)), (0, vR 9 0)]) C dX9_digest_287 rfl (by decide) rfl ?_
      exact g_sub [2, 1, 0] rfl (g_pc rfl (J288 (((31 : Int64) * (((31 : Int64) * l1) + r266.1)) + r280.1.toInt64) (0 : Int32) r280.2 hm))
    refine lp_ind2 (P := (fun l1 l3 M => GW G X 5 (QX G X (oL res.1) res.2) 184 [(0, vR 9 0), (1, vL l1), (3, vI l3)] [] M)) (r := r184) ?_ fu l1 l3 M hL184
    intro l1 l3 M o184 hm K184
    unfold f_X9_digest_b184 at hm
    refine g_iload_n C 2 dX9_digest_184 rfl rfl ?_
    refine g_aload_n C 0 dX9_digest_185 rfl rfl ?_
    refine g_getr (k := 0) (k' := 0) C (by decide) kf_X9_26 rfl rfl dX9_digest_186 ?_
    obtain ⟨r189, hr189, hm⟩ := bnd_some hm
    refine g_callVi (As := []) (rest := [vI l3]) C lk_X9_276 (k_X6_total X.2.1 G hl hG fu  M r189 ((hG _ hk0).2 2 6 0 0 rfl) hr189) (by decide) rfl rfl rfl (Nat.le_of_ble_eq_true rfl) ⟨Nat.le_of_ble_eq_true rfl, Nat.le_of_ble_eq_true rfl⟩ dX9_digest_189 ?_
    refine g_icmp_ge (tgt := 257) C dX9_digest_192 (by decide) (fun h192 => ?_) (fun h192 => ?_)
    · have hm := ift hm h192
      obtain rfl := Option.some.inj hm
      exact g_sub [0, 1] rfl (g_pc rfl (hx184 l1 r189.2 (K184.2 _ rfl)))
    · have hm := ife hm h192
      refine g_ldc2 (v := 31) C kc_X9_362 dX9_digest_195 ?_
      refine g_lload_n C 1 dX9_digest_198 rfl rfl ?_
      refine g_lmul C dX9_digest_199 ?_
      refine g_aload_n C 0 dX9_digest_200 rfl rfl ?_
      refine g_iload_n C 2 dX9_digest_201 rfl rfl ?_
      refine g_iconst (v := 0) C dX9_digest_202 rfl ?_
      obtain ⟨⟨x203 | z203, n203⟩, hr203, hm⟩ := bnd_some hm
      · refine g_callVi (As := [vI l3, vI (0 : Int32)]) (rest := [vL ((31 : Int64) * l1)]) C lk_X9_370 (k_X9_path X.2.1 G hl hG fu l3 (0 : Int32) r189.2 (Sum.inl x203, n203) hk0 hr203) (by decide) rfl rfl rfl (Nat.le_of_ble_eq_true rfl) ⟨Nat.le_of_ble_eq_true rfl, Nat.le_of_ble_eq_true rfl⟩ dX9_digest_203 ?_
        refine g_i2l C dX9_digest_206 ?_
        refine g_ladd C dX9_digest_207 ?_
        refine g_lstore_n (ls' := [(1, vL (((31 : Int64) * l1) + x203.toInt64)), (0, vR 9 0), (3, vI l3)]) C dX9_digest_208 rfl (by decide) rfl ?_
        refine g_ldc2 (v := 31) C kc_X9_362 dX9_digest_209 ?_
        refine g_lload_n C 0 dX9_digest_212 rfl rfl ?_
        refine g_lmul C dX9_digest_213 ?_
        refine g_aload_n C 1 dX9_digest_214 rfl rfl ?_
        refine g_iload_n C 2 dX9_digest_215 rfl rfl ?_
        refine g_iconst (v := 1) C dX9_digest_216 rfl ?_
        obtain ⟨⟨x217 | z217, n217⟩, hr217, hm⟩ := bnd_some hm
        · refine g_callVi (As := [vI l3, vI (1 : Int32)]) (rest := [vL ((31 : Int64) * (((31 : Int64) * l1) + x203.toInt64))]) C lk_X9_370 (k_X9_path X.2.1 G hl hG fu l3 (1 : Int32) n203 (Sum.inl x217, n217) hk0 hr217) (by decide) rfl rfl rfl (Nat.le_of_ble_eq_true rfl) ⟨Nat.le_of_ble_eq_true rfl, Nat.le_of_ble_eq_true rfl⟩ dX9_digest_217 ?_
          refine g_i2l C dX9_digest_220 ?_
          refine g_ladd C dX9_digest_221 ?_
          refine g_lstore_n (ls' := [(1, vL (((31 : Int64) * (((31 : Int64) * l1) + x203.toInt64)) + x217.toInt64)), (0, vR 9 0), (3, vI l3)]) C dX9_digest_222 rfl (by decide) rfl ?_
          refine g_ldc2 (v := 31) C kc_X9_362 dX9_digest_223 ?_
          refine g_lload_n C 0 dX9_digest_226 rfl rfl ?_
          refine g_lmul C dX9_digest_227 ?_
          refine g_aload_n C 1 dX9_digest_228 rfl rfl ?_
          refine g_iload_n C 2 dX9_digest_229 rfl rfl ?_
          refine g_iconst (v := 3) C dX9_digest_230 rfl ?_
          obtain ⟨⟨x231 | z231, n231⟩, hr231, hm⟩ := bnd_some hm
          · refine g_callVi (As := [vI l3, vI (3 : Int32)]) (rest := [vL ((31 : Int64) * (((31 : Int64) * (((31 : Int64) * l1) + x203.toInt64)) + x217.toInt64))]) C lk_X9_370 (k_X9_path X.2.1 G hl hG fu l3 (3 : Int32) n217 (Sum.inl x231, n231) hk0 hr231) (by decide) rfl rfl rfl (Nat.le_of_ble_eq_true rfl) ⟨Nat.le_of_ble_eq_true rfl, Nat.le_of_ble_eq_true rfl⟩ dX9_digest_231 ?_
            refine g_i2l C dX9_digest_234 ?_
            refine g_ladd C dX9_digest_235 ?_
            refine g_lstore_n (ls' := [(1, vL (((31 : Int64) * (((31 : Int64) * (((31 : Int64) * l1) + x203.toInt64)) + x217.toInt64)) + x231.toInt64)), (0, vR 9 0), (3, vI l3)]) C dX9_digest_236 rfl (by decide) rfl ?_
            refine g_ldc2 (v := 31) C kc_X9_362 dX9_digest_237 ?_
            refine g_lload_n C 0 dX9_digest_240 rfl rfl ?_
            refine g_lmul C dX9_digest_241 ?_
            refine g_aload_n C 1 dX9_digest_242 rfl rfl ?_
            refine g_iload_n C 2 dX9_digest_243 rfl rfl ?_
            refine g_iconst (v := 5) C dX9_digest_244 rfl ?_
            obtain ⟨⟨x245 | z245, n245⟩, hr245, hm⟩ := bnd_some hm
            · refine g_callVi (As := [vI l3, vI (5 : Int32)]) (rest := [vL ((31 : Int64) * (((31 : Int64) * (((31 : Int64) * (((31 : Int64) * l1) + x203.toInt64)) + x217.toInt64)) + x231.toInt64))]) C lk_X9_370 (k_X9_path X.2.1 G hl hG fu l3 (5 : Int32) n231 (Sum.inl x245, n245) hk0 hr245) (by decide) rfl rfl rfl (Nat.le_of_ble_eq_true rfl) ⟨Nat.le_of_ble_eq_true rfl, Nat.le_of_ble_eq_true rfl⟩ dX9_digest_245 ?_
              refine g_i2l C dX9_digest_248 ?_
              refine g_ladd C dX9_digest_249 ?_
              refine g_lstore_n (ls' := [(1, vL (((31 : Int64) * (((31 : Int64) * (((31 : Int64) * (((31 : Int64) * l1) + x203.toInt64)) + x217.toInt64)) + x231.toInt64)) + x245.toInt64)), (0, vR 9 0), (3, vI l3)]) C dX9_digest_250 rfl (by decide) rfl ?_
              refine g_iinc (ls' := [(3, vI (l3 + (1 : Int32))), (1, vL (((31 : Int64) * (((31 : Int64) * (((31 : Int64) * (((31 : Int64) * l1) + x203.toInt64)) + x217.toInt64)) + x231.toInt64)) + x245.toInt64)), (0, vR 9 0)]) (v := l3 + (1 : Int32)) C 2 dX9_digest_251 rfl (iv_p1 _) (by decide) rfl ?_
              refine g_goto (tgt := 184) C dX9_digest_254 (by decide) ?_
              obtain rfl := Option.some.inj hm
              exact g_sub [2, 1, 0] rfl (g_pc rfl (K184.1 (((31 : Int64) * (((31 : Int64) * (((31 : Int64) * (((31 : Int64) * l1) + x203.toInt64)) + x217.toInt64)) + x231.toInt64)) + x245.toInt64) (l3 + (1 : Int32)) n245 rfl))
            · skip
              obtain rfl := Option.some.inj hm
              have e184 := K184.2 _ rfl
              subst e184
              obtain rfl := Option.some.inj hk184
              exact g_callVx (E := exN z245) (As := [vI l3, vI (5 : Int32)]) (rest := [vL ((31 : Int64) * (((31 : Int64) * (((31 : Int64) * (((31 : Int64) * l1) + x203.toInt64)) + x217.toInt64)) + x231.toInt64))]) C lk_X9_370 (k_X9_path X.2.1 G hl hG fu l3 (5 : Int32) n231 (Sum.inr z245, n245) hk0 hr245) (by decide) rfl rfl rfl (Nat.le_of_ble_eq_true rfl) ⟨Nat.le_of_ble_eq_true rfl, Nat.le_of_ble_eq_true rfl⟩ dX9_digest_245
          · skip
            obtain rfl := Option.some.inj hm
            have e184 := K184.2 _ rfl
            subst e184
            obtain rfl := Option.some.inj hk184
            exact g_callVx (E := exN z231) (As := [vI l3, vI (3 : Int32)]) (rest := [vL ((31 : Int64) * (((31 : Int64) * (((31 : Int64) * l1) + x203.toInt64)) + x217.toInt64))]) C lk_X9_370 (k_X9_path X.2.1 G hl hG fu l3 (3 : Int32) n217 (Sum.inr z231, n231) hk0 hr231) (by decide) rfl rfl rfl (Nat.le_of_ble_eq_true rfl) ⟨Nat.le_of_ble_eq_true rfl, Nat.le_of_ble_eq_true rfl⟩ dX9_digest_231
        · skip
          obtain rfl := Option.some.inj hm
          have e184 := K184.2 _ rfl
          subst e184
          obtain rfl := Option.some.inj hk184
          exact g_callVx (E := exN z217) (As := [vI l3, vI (1 : Int32)]) (rest := [vL ((31 : Int64) * (((31 : Int64) * l1) + x203.toInt64))]) C lk_X9_370 (k_X9_path X.2.1 G hl hG fu l3 (1 : Int32) n203 (Sum.inr z217, n217) hk0 hr217) (by decide) rfl rfl rfl (Nat.le_of_ble_eq_true rfl) ⟨Nat.le_of_ble_eq_true rfl, Nat.le_of_ble_eq_true rfl⟩ dX9_digest_217
      · skip
        obtain rfl := Option.some.inj hm
        have e184 := K184.2 _ rfl
        subst e184
        obtain rfl := Option.some.inj hk184
        exact g_callVx (E := exN z203) (As := [vI l3, vI (0 : Int32)]) (rest := [vL ((31 : Int64) * l1)]) C lk_X9_370 (k_X9_path X.2.1 G hl hG fu l3 (0 : Int32) r189.2 (Sum.inr z203, n203) hk0 hr203) (by decide) rfl rfl rfl (Nat.le_of_ble_eq_true rfl) ⟨Nat.le_of_ble_eq_true rfl, Nat.le_of_ble_eq_true rfl⟩ dX9_digest_203
  have J135 : ∀ (l1 : Int64) (l3 : Int32) (M : Mem), f_X9_digest_h135 fu   l1 l3 M = some res → GW G X 5 (QX G X (oL res.1) res.2) 135 [(0, vR 9 0), (1, vL l1), (3, vI l3)] [] M := by
    intro l1 l3 M hm
    unfold f_X9_digest_h135 at hm
    obtain ⟨r135, hL135, hk135⟩ := bnd_some hm
    have hx135 : ∀ (l1 : Int64) (M : Mem), Sum.inl (l1, M) = r135 → GW G X 5 (QX G X (oL res.1) res.2) 182 [(0, vR 9 0), (1, vL l1)] [] M := by
      intro l1 M he
      subst he
      have hm := hk135
      try dsimp only at hm
      refine g_iconst (v := 0) C dX9_digest_182 rfl ?_
      refine g_istore_n (ls' := [(3, vI (0 : Int32)), (0, vR 9 0), (1, vL l1)]) C dX9_digest_183 rfl (by decide) rfl ?_
      exact g_sub [1, 2, 0] rfl (g_pc rfl (J184 l1 (0 : Int32) M hm))
    refine lp_ind2 (P := (fun l1 l3 M => GW G X 5 (QX G X (oL res.1) res.2) 135 [(0, vR 9 0), (1, vL l1), (3, vI l3)] [] M)) (r := r135) ?_ fu l1 l3 M hL135
    intro l1 l3 M o135 hm K135
    have J149 : ∀ (l1 : Int64) (l3 : Int32) (l4 : Int32) (M : Mem), f_X9_digest_h149 fu   l1 l3 l4 M = some o135 → GW G X 5 (QX G X (oL res.1) res.2) 149 [(0, vR 9 0), (1, vL l1), (3, vI l3), (4, vI l4)] [] M := by
      intro l1 l3 l4 M hm
      unfold f_X9_digest_h149 at hm
      obtain ⟨r149, hL149, hk149⟩ := bnd_some hm
      have hx149 : ∀ (l1 : Int64) (M : Mem), Sum.inl (l1, M) = r149 → GW G X 5 (QX G X (oL res.1) res.2) 176 [(0, vR 9 0), (1, vL l1), (3, vI l3)] [] M := by
        intro l1 M he
        subst he
        have hm := hk149
        try dsimp only at hm
        refine g_iinc (ls' := [(3, vI (l3 + (1 : Int32))), (0, vR 9 0), (1, vL l1)]) (v := l3 + (1 : Int32)) C 2 dX9_digest_176 rfl (iv_p1 _) (by decide) rfl ?_
        refine g_goto (tgt := 135) C dX9_digest_179 (by decide) ?_
        obtain rfl := Option.some.inj hm
        exact g_sub [1, 2, 0] rfl (g_pc rfl (K135.1 l1 (l3 + (1 : Int32)) M rfl))
      refine lp_ind2 (P := (fun l1 l4 M => GW G X 5 (QX G X (oL res.1) res.2) 149 [(0, vR 9 0), (1, vL l1), (3, vI l3), (4, vI l4)] [] M)) (r := r149) ?_ fu l1 l4 M hL149
      intro l1 l4 M o149 hm K149
      unfold f_X9_digest_b149 at hm
      refine g_iload C 3 dX9_digest_149 rfl ?_
      refine g_iconst (v := 4) C dX9_digest_151 rfl ?_
      refine g_icmp_gt (tgt := 176) C dX9_digest_152 (by decide) (fun h152 => ?_) (fun h152 => ?_)
      · have hm := ift hm h152
        obtain rfl := Option.some.inj hm
        exact g_sub [0, 1, 2] rfl (g_pc rfl (hx149 l1 M (K149.2 _ rfl)))
      · have hm := ife hm h152
        refine g_ldc2 (v := 31) C kc_X9_362 dX9_digest_155 ?_
        refine g_lload_n C 1 dX9_digest_158 rfl rfl ?_
        refine g_lmul C dX9_digest_159 ?_
        refine g_aload_n C 0 dX9_digest_160 rfl rfl ?_
        refine g_iload_n C 2 dX9_digest_161 rfl rfl ?_
        refine g_iload C 3 dX9_digest_162 rfl ?_
        obtain ⟨⟨x164 | z164, n164⟩, hr164, hm⟩ := bnd_some hm
        · refine g_callVi (As := [vI l3, vI l4]) (rest := [vL ((31 : Int64) * l1)]) C lk_X9_367 (k_X9_cell X.2.1 G hl hG fu l3 l4 M (Sum.inl x164, n164) hk0 hr164) (by decide) rfl rfl rfl (Nat.le_of_ble_eq_true rfl) ⟨Nat.le_of_ble_eq_true rfl, Nat.le_of_ble_eq_true rfl⟩ dX9_digest_164 ?_
          refine g_i2l C dX9_digest_167 ?_
          refine g_ladd C dX9_digest_168 ?_
          refine g_lstore_n (ls' := [(1, vL (((31 : Int64) * l1) + x164.toInt64)), (0, vR 9 0), (3, vI l3), (4, vI l4)]) C dX9_digest_169 rfl (by decide) rfl ?_
          refine g_iinc (ls' := [(4, vI (l4 + (1 : Int32))), (1, vL (((31 : Int64) * l1) + x164.toInt64)), (0, vR 9 0), (3, vI l3)]) (v := l4 + (1 : Int32)) C 3 dX9_digest_170 rfl (iv_p1 _) (by decide) rfl ?_
          refine g_goto (tgt := 149) C dX9_digest_173 (by decide) ?_
          obtain rfl := Option.some.inj hm
          exact g_sub [2, 1, 3, 0] rfl (g_pc rfl (K149.1 (((31 : Int64) * l1) + x164.toInt64) (l4 + (1 : Int32)) n164 rfl))
        · skip
          obtain rfl := Option.some.inj hm
          have e149 := K149.2 _ rfl
          subst e149
          obtain rfl := Option.some.inj hk149
          have e135 := K135.2 _ rfl
          subst e135
          obtain rfl := Option.some.inj hk135
          exact g_callVx (E := exN z164) (As := [vI l3, vI l4]) (rest := [vL ((31 : Int64) * l1)]) C lk_X9_367 (k_X9_cell X.2.1 G hl hG fu l3 l4 M (Sum.inr z164, n164) hk0 hr164) (by decide) rfl rfl rfl (Nat.le_of_ble_eq_true rfl) ⟨Nat.le_of_ble_eq_true rfl, Nat.le_of_ble_eq_true rfl⟩ dX9_digest_164
    unfold f_X9_digest_b135 at hm
    refine g_iload_n C 2 dX9_digest_135 rfl rfl ?_
    refine g_aload_n C 0 dX9_digest_136 rfl rfl ?_
    refine g_getr (k := 0) (k' := 0) C (by decide) kf_X9_19 rfl rfl dX9_digest_137 ?_
    obtain ⟨r140, hr140, hm⟩ := bnd_some hm
    refine g_callVi (As := []) (rest := [vI l3]) C lk_X9_123 (k_X0_total X.2.1 G hl hG fu 0 M r140 ((hG _ hk0).2 1 0 0 0 rfl) hr140) (by decide) rfl rfl rfl (Nat.le_of_ble_eq_true rfl) ⟨Nat.le_of_ble_eq_true rfl, Nat.le_of_ble_eq_true rfl⟩ dX9_digest_140 ?_
    refine g_icmp_ge (tgt := 182) C dX9_digest_143 (by decide) (fun h143 => ?_) (fun h143 => ?_)
    · have hm := ift hm h143
      obtain rfl := Option.some.inj hm
      exact g_sub [0, 1] rfl (g_pc rfl (hx135 l1 r140.2 (K135.2 _ rfl)))
    · have hm := ife hm h143
      refine g_iconst (v := 0) C dX9_digest_146 rfl ?_
      refine g_istore (ls' := [(4, vI (0 : Int32)), (0, vR 9 0), (1, vL l1), (3, vI l3)]) C dX9_digest_147 (by decide) rfl ?_
      exact g_sub [1, 2, 3, 0] rfl (g_pc rfl (J149 l1 l3 (0 : Int32) r140.2 hm))
  have J68 : ∀ (l1 : Int64) (l3 : Int32) (M : Mem), f_X9_digest_h68 fu   l1 l3 M = some res → GW G X 5 (QX G X (oL res.1) res.2) 68 [(0, vR 9 0), (1, vL l1), (3, vI l3)] [] M := by
    intro l1 l3 M hm
    unfold f_X9_digest_h68 at hm
    obtain ⟨r68, hL68, hk68⟩ := bnd_some hm
    have hx68 : ∀ (l1 : Int64) (M : Mem), (l1, M) = r68 → GW G X 5 (QX G X (oL res.1) res.2) 133 [(0, vR 9 0), (1, vL l1)] [] M := by
      intro l1 M he
      subst he
      have hm := hk68
      try dsimp only at hm
      refine g_iconst (v := 0) C dX9_digest_133 rfl ?_
      refine g_istore_n (ls' := [(3, vI (0 : Int32)), (0, vR 9 0), (1, vL l1)]) C dX9_digest_134 rfl (by decide) rfl ?_
      exact g_sub [1, 2, 0] rfl (g_pc rfl (J135 l1 (0 : Int32) M hm))
    refine lp_ind2 (P := (fun l1 l3 M => GW G X 5 (QX G X (oL res.1) res.2) 68 [(0, vR 9 0), (1, vL l1), (3, vI l3)] [] M)) (r := r68) ?_ fu l1 l3 M hL68
    intro l1 l3 M o68 hm K68
    unfold f_X9_digest_b68 at hm
    refine g_iload_n C 2 dX9_digest_68 rfl rfl ?_
    refine g_aload_n C 0 dX9_digest_69 rfl rfl ?_
    refine g_getr (k := 0) (k' := 0) C (by decide) kf_X9_12 rfl rfl dX9_digest_70 ?_
    obtain ⟨r73, hr73, hm⟩ := bnd_some hm
    refine g_callVi (As := []) (rest := [vI l3]) C lk_X9_87 (k_X2_arrowTotal X.2.1 G hl hG fu 0 M r73 ((hG _ hk0).2 0 2 0 0 rfl) hr73) (by decide) rfl rfl rfl (Nat.le_of_ble_eq_true rfl) ⟨Nat.le_of_ble_eq_true rfl, Nat.le_of_ble_eq_true rfl⟩ dX9_digest_73 ?_
    refine g_icmp_ge (tgt := 133) C dX9_digest_76 (by decide) (fun h76 => ?_) (fun h76 => ?_)
    · have hm := ift hm h76
      obtain rfl := Option.some.inj hm
      exact g_sub [0, 1] rfl (g_pc rfl (hx68 l1 r73.2 (K68.2 _ rfl)))
    · have hm := ife hm h76
      refine g_ldc2 (v := 31) C kc_X9_362 dX9_digest_79 ?_
      refine g_lload_n C 1 dX9_digest_82 rfl rfl ?_
      refine g_lmul C dX9_digest_83 ?_
      refine g_aload_n C 0 dX9_digest_84 rfl rfl ?_
      refine g_getr (k := 0) (k' := 0) C (by decide) kf_X9_12 rfl rfl dX9_digest_85 ?_
      refine g_iload_n C 2 dX9_digest_88 rfl rfl ?_
      obtain ⟨r89, hr89, hm⟩ := bnd_some hm
      refine g_callVi (As := [vI l3]) (rest := [vL ((31 : Int64) * l1)]) C lk_X9_191 (k_X2_from X.2.1 G hl hG fu 0 l3 r73.2 r89 ((hG _ hk0).2 0 2 0 0 rfl) hr89) (by decide) rfl rfl rfl (Nat.le_of_ble_eq_true rfl) ⟨Nat.le_of_ble_eq_true rfl, Nat.le_of_ble_eq_true rfl⟩ dX9_digest_89 ?_
      refine g_i2l C dX9_digest_92 ?_
      refine g_ladd C dX9_digest_93 ?_
      refine g_lstore_n (ls' := [(1, vL (((31 : Int64) * l1) + r89.1.toInt64)), (0, vR 9 0), (3, vI l3)]) C dX9_digest_94 rfl (by decide) rfl ?_
      refine g_ldc2 (v := 31) C kc_X9_362 dX9_digest_95 ?_
      refine g_lload_n C 0 dX9_digest_98 rfl rfl ?_
      refine g_lmul C dX9_digest_99 ?_
      refine g_aload_n C 1 dX9_digest_100 rfl rfl ?_
      refine g_getr (k := 0) (k' := 0) C (by decide) kf_X9_12 rfl rfl dX9_digest_101 ?_
      refine g_iload_n C 2 dX9_digest_104 rfl rfl ?_
      obtain ⟨r105, hr105, hm⟩ := bnd_some hm
      refine g_callVi (As := [vI l3]) (rest := [vL ((31 : Int64) * (((31 : Int64) * l1) + r89.1.toInt64))]) C lk_X9_296 (k_X2_to X.2.1 G hl hG fu 0 l3 r89.2 r105 ((hG _ hk0).2 0 2 0 0 rfl) hr105) (by decide) rfl rfl rfl (Nat.le_of_ble_eq_true rfl) ⟨Nat.le_of_ble_eq_true rfl, Nat.le_of_ble_eq_true rfl⟩ dX9_digest_105 ?_
      refine g_i2l C dX9_digest_108 ?_
      refine g_ladd C dX9_digest_109 ?_
      refine g_lstore_n (ls' := [(1, vL (((31 : Int64) * (((31 : Int64) * l1) + r89.1.toInt64)) + r105.1.toInt64)), (0, vR 9 0), (3, vI l3)]) C dX9_digest_110 rfl (by decide) rfl ?_
      refine g_ldc2 (v := 31) C kc_X9_362 dX9_digest_111 ?_
      refine g_lload_n C 0 dX9_digest_114 rfl rfl ?_
      refine g_lmul C dX9_digest_115 ?_
      refine g_aload_n C 1 dX9_digest_116 rfl rfl ?_
      refine g_getr (k := 0) (k' := 0) C (by decide) kf_X9_40 rfl rfl dX9_digest_117 ?_
      refine g_iload_n C 2 dX9_digest_120 rfl rfl ?_
      obtain ⟨r121, hr121, hm⟩ := bnd_some hm
      refine g_callVi (As := [vI l3]) (rest := [vL ((31 : Int64) * (((31 : Int64) * (((31 : Int64) * l1) + r89.1.toInt64)) + r105.1.toInt64))]) C lk_X9_308 (k_X1_code X.2.1 G hl hG fu 0 l3 r105.2 r121 ((hG _ hk0).2 4 1 0 0 rfl) hr121) (by decide) rfl rfl rfl (Nat.le_of_ble_eq_true rfl) ⟨Nat.le_of_ble_eq_true rfl, Nat.le_of_ble_eq_true rfl⟩ dX9_digest_121 ?_
      refine g_i2l C dX9_digest_124 ?_
      refine g_ladd C dX9_digest_125 ?_
      refine g_lstore_n (ls' := [(1, vL (((31 : Int64) * (((31 : Int64) * (((31 : Int64) * l1) + r89.1.toInt64)) + r105.1.toInt64)) + r121.1.toInt64)), (0, vR 9 0), (3, vI l3)]) C dX9_digest_126 rfl (by decide) rfl ?_
      refine g_iinc (ls' := [(3, vI (l3 + (1 : Int32))), (1, vL (((31 : Int64) * (((31 : Int64) * (((31 : Int64) * l1) + r89.1.toInt64)) + r105.1.toInt64)) + r121.1.toInt64)), (0, vR 9 0)]) (v := l3 + (1 : Int32)) C 2 dX9_digest_127 rfl (iv_p1 _) (by decide) rfl ?_
      refine g_goto (tgt := 68) C dX9_digest_130 (by decide) ?_
      obtain rfl := Option.some.inj hm
      exact g_sub [2, 1, 0] rfl (g_pc rfl (K68.1 (((31 : Int64) * (((31 : Int64) * (((31 : Int64) * l1) + r89.1.toInt64)) + r105.1.toInt64)) + r121.1.toInt64) (l3 + (1 : Int32)) r121.2 rfl))
  have J33 : ∀ (l1 : Int64) (l3 : Int32) (M : Mem), f_X9_digest_h33 fu   l1 l3 M = some res → GW G X 5 (QX G X (oL res.1) res.2) 33 [(0, vR 9 0), (1, vL l1), (3, vI l3)] [] M := by
    intro l1 l3 M hm
    unfold f_X9_digest_h33 at hm
    obtain ⟨r33, hL33, hk33⟩ := bnd_some hm
    have hx33 : ∀ (l1 : Int64) (M : Mem), (l1, M) = r33 → GW G X 5 (QX G X (oL res.1) res.2) 66 [(0, vR 9 0), (1, vL l1)] [] M := by
      intro l1 M he
      subst he
      have hm := hk33
      try dsimp only at hm
      refine g_iconst (v := 0) C dX9_digest_66 rfl ?_
      refine g_istore_n (ls' := [(3, vI (0 : Int32)), (0, vR 9 0), (1, vL l1)]) C dX9_digest_67 rfl (by decide) rfl ?_
      exact g_sub [1, 2, 0] rfl (g_pc rfl (J68 l1 (0 : Int32) M hm))
    refine lp_ind2 (P := (fun l1 l3 M => GW G X 5 (QX G X (oL res.1) res.2) 33 [(0, vR 9 0), (1, vL l1), (3, vI l3)] [] M)) (r := r33) ?_ fu l1 l3 M hL33
    intro l1 l3 M o33 hm K33
    unfold f_X9_digest_b33 at hm
    refine g_iload_n C 2 dX9_digest_33 rfl rfl ?_
    refine g_aload_n C 0 dX9_digest_34 rfl rfl ?_
    refine g_getr (k := 0) (k' := 0) C (by decide) kf_X9_12 rfl rfl dX9_digest_35 ?_
    obtain ⟨r38, hr38, hm⟩ := bnd_some hm
    refine g_callVi (As := []) (rest := [vI l3]) C lk_X9_77 (k_X2_objectTotal X.2.1 G hl hG fu 0 M r38 ((hG _ hk0).2 0 2 0 0 rfl) hr38) (by decide) rfl rfl rfl (Nat.le_of_ble_eq_true rfl) ⟨Nat.le_of_ble_eq_true rfl, Nat.le_of_ble_eq_true rfl⟩ dX9_digest_38 ?_
    refine g_icmp_ge (tgt := 66) C dX9_digest_41 (by decide) (fun h41 => ?_) (fun h41 => ?_)
    · have hm := ift hm h41
      obtain rfl := Option.some.inj hm
      exact g_sub [0, 1] rfl (g_pc rfl (hx33 l1 r38.2 (K33.2 _ rfl)))
    · have hm := ife hm h41
      refine g_ldc2 (v := 31) C kc_X9_362 dX9_digest_44 ?_
      refine g_lload_n C 1 dX9_digest_47 rfl rfl ?_
      refine g_lmul C dX9_digest_48 ?_
      refine g_aload_n C 0 dX9_digest_49 rfl rfl ?_
      refine g_getr (k := 0) (k' := 0) C (by decide) kf_X9_40 rfl rfl dX9_digest_50 ?_
      refine g_iload_n C 2 dX9_digest_53 rfl rfl ?_
      obtain ⟨r54, hr54, hm⟩ := bnd_some hm
      refine g_callVi (As := [vI l3]) (rest := [vL ((31 : Int64) * l1)]) C lk_X9_224 (k_X1_size X.2.1 G hl hG fu 0 l3 r38.2 r54 ((hG _ hk0).2 4 1 0 0 rfl) hr54) (by decide) rfl rfl rfl (Nat.le_of_ble_eq_true rfl) ⟨Nat.le_of_ble_eq_true rfl, Nat.le_of_ble_eq_true rfl⟩ dX9_digest_54 ?_
      refine g_i2l C dX9_digest_57 ?_
      refine g_ladd C dX9_digest_58 ?_
      refine g_lstore_n (ls' := [(1, vL (((31 : Int64) * l1) + r54.1.toInt64)), (0, vR 9 0), (3, vI l3)]) C dX9_digest_59 rfl (by decide) rfl ?_
      refine g_iinc (ls' := [(3, vI (l3 + (1 : Int32))), (1, vL (((31 : Int64) * l1) + r54.1.toInt64)), (0, vR 9 0)]) (v := l3 + (1 : Int32)) C 2 dX9_digest_60 rfl (iv_p1 _) (by decide) rfl ?_
      refine g_goto (tgt := 33) C dX9_digest_63 (by decide) ?_
      obtain rfl := Option.some.inj hm
      exact g_sub [2, 1, 0] rfl (g_pc rfl (K33.1 (((31 : Int64) * l1) + r54.1.toInt64) (l3 + (1 : Int32)) r54.2 rfl))
  have J6 : ∀ (l1 : Int64) (l3 : Int32) (M : Mem), f_X9_digest_h6 fu   l1 l3 M = some res → GW G X 5 (QX G X (oL res.1) res.2) 6 [(0, vR 9 0), (1, vL l1), (3, vI l3)] [] M := by
    intro l1 l3 M hm
    unfold f_X9_digest_h6 at hm
    obtain ⟨r6, hL6, hk6⟩ := bnd_some hm
    have hx6 : ∀ (l1 : Int64) (M : Mem), Sum.inl (l1, M) = r6 → GW G X 5 (QX G X (oL res.1) res.2) 31 [(0, vR 9 0), (1, vL l1)] [] M := by
      intro l1 M he
      subst he
      have hm := hk6
      try dsimp only at hm
      refine g_iconst (v := 0) C dX9_digest_31 rfl ?_
      refine g_istore_n (ls' := [(3, vI (0 : Int32)), (0, vR 9 0), (1, vL l1)]) C dX9_digest_32 rfl (by decide) rfl ?_
      exact g_sub [1, 2, 0] rfl (g_pc rfl (J33 l1 (0 : Int32) M hm))
    refine lp_ind2 (P := (fun l1 l3 M => GW G X 5 (QX G X (oL res.1) res.2) 6 [(0, vR 9 0), (1, vL l1), (3, vI l3)] [] M)) (r := r6) ?_ fu l1 l3 M hL6
    intro l1 l3 M o6 hm K6
    unfold f_X9_digest_b6 at hm
    refine g_iload_n C 2 dX9_digest_6 rfl rfl ?_
    refine g_bipush (v := 7) C dX9_digest_7 rfl ?_
    refine g_icmp_gt (tgt := 31) C dX9_digest_9 (by decide) (fun h9 => ?_) (fun h9 => ?_)
    · have hm := ift hm h9
      obtain rfl := Option.some.inj hm
      exact g_sub [0, 1] rfl (g_pc rfl (hx6 l1 M (K6.2 _ rfl)))
    · have hm := ife hm h9
      refine g_ldc2 (v := 31) C kc_X9_362 dX9_digest_12 ?_
      refine g_lload_n C 1 dX9_digest_15 rfl rfl ?_
      refine g_lmul C dX9_digest_16 ?_
      refine g_aload_n C 0 dX9_digest_17 rfl rfl ?_
      refine g_iload_n C 2 dX9_digest_18 rfl rfl ?_
      obtain ⟨⟨x19 | z19, n19⟩, hr19, hm⟩ := bnd_some hm
      · refine g_callVi (As := [vI l3]) (rest := [vL ((31 : Int64) * l1)]) C lk_X9_364 (k_X9_count X.2.1 G hl hG fu l3 M (Sum.inl x19, n19) hk0 hr19) (by decide) rfl rfl rfl (Nat.le_of_ble_eq_true rfl) ⟨Nat.le_of_ble_eq_true rfl, Nat.le_of_ble_eq_true rfl⟩ dX9_digest_19 ?_
        refine g_i2l C dX9_digest_22 ?_
        refine g_ladd C dX9_digest_23 ?_
        refine g_lstore_n (ls' := [(1, vL (((31 : Int64) * l1) + x19.toInt64)), (0, vR 9 0), (3, vI l3)]) C dX9_digest_24 rfl (by decide) rfl ?_
        refine g_iinc (ls' := [(3, vI (l3 + (1 : Int32))), (1, vL (((31 : Int64) * l1) + x19.toInt64)), (0, vR 9 0)]) (v := l3 + (1 : Int32)) C 2 dX9_digest_25 rfl (iv_p1 _) (by decide) rfl ?_
        refine g_goto (tgt := 6) C dX9_digest_28 (by decide) ?_
        obtain rfl := Option.some.inj hm
        exact g_sub [2, 1, 0] rfl (g_pc rfl (K6.1 (((31 : Int64) * l1) + x19.toInt64) (l3 + (1 : Int32)) n19 rfl))
      · skip
        obtain rfl := Option.some.inj hm
        have e6 := K6.2 _ rfl
        subst e6
        obtain rfl := Option.some.inj hk6
        exact g_callVx (E := exN z19) (As := [vI l3]) (rest := [vL ((31 : Int64) * l1)]) C lk_X9_364 (k_X9_count X.2.1 G hl hG fu l3 M (Sum.inr z19, n19) hk0 hr19) (by decide) rfl rfl rfl (Nat.le_of_ble_eq_true rfl) ⟨Nat.le_of_ble_eq_true rfl, Nat.le_of_ble_eq_true rfl⟩ dX9_digest_19
  unfold f_X9_digest at hm
  refine g_ldc2 (v := 1987) C kc_X9_360 dX9_digest_0 ?_
  refine g_lstore_n (ls' := [(1, vL (1987 : Int64)), (0, vR 9 0)]) C dX9_digest_3 rfl (by decide) rfl ?_
  refine g_iconst (v := 0) C dX9_digest_4 rfl ?_
  refine g_istore_n (ls' := [(3, vI (0 : Int32)), (1, vL (1987 : Int64)), (0, vR 9 0)]) C dX9_digest_5 rfl (by decide) rfl ?_
  exact g_sub [2, 1, 0] rfl (g_pc rfl (J6 (1987 : Int64) (0 : Int32) M hm))
def f_X10_putPath_b33 (fu : Nat)   (l4 : Int32) (M : Mem) : Option ((Int32 × Mem) ⊕ (Mem)) :=
  if (14 : Int32) ≤ l4 then some (Sum.inr M) else if inb (((14 : Int32) * (M.1 10 0 13)) + l4) (alen 22 18) then some (Sum.inl (l4 + (1 : Int32), (mI M 22 18 (((14 : Int32) * (M.1 10 0 13)) + l4).toNatClampNeg (-1 : Int32)))) else none
def f_X10_putPath_h33 (fu : Nat)   (l4 : Int32) (M : Mem) : Option (Mem) :=
  (lp_run (fun s => f_X10_putPath_b33 fu   s.1 s.2) fu (l4, M)).bind (fun M => some (mI M 10 0 13 ((M.1 10 0 13) + (1 : Int32))))
def f_X10_putPath (fu : Nat) (l1 : Int32) (l2 : Int32) (l3 : Int32) (M : Mem) : Option (Mem) :=
  if inb (M.1 10 0 13) (alen 22 14) then if inb ((mI M 22 14 (M.1 10 0 13).toNatClampNeg l1).1 10 0 13) (alen 22 15) then if inb ((mI (mI M 22 14 (M.1 10 0 13).toNatClampNeg l1) 22 15 ((mI M 22 14 (M.1 10 0 13).toNatClampNeg l1).1 10 0 13).toNatClampNeg l2).1 10 0 13) (alen 22 16) then f_X10_putPath_h33 fu (0 : Int32) (mI (mI (mI M 22 14 (M.1 10 0 13).toNatClampNeg l1) 22 15 ((mI M 22 14 (M.1 10 0 13).toNatClampNeg l1).1 10 0 13).toNatClampNeg l2) 22 16 ((mI (mI M 22 14 (M.1 10 0 13).toNatClampNeg l1) 22 15 ((mI M 22 14 (M.1 10 0 13).toNatClampNeg l1).1 10 0 13).toNatClampNeg l2).1 10 0 13).toNatClampNeg l3) else none else none else none
set_option maxHeartbeats 4000000 in
set_option maxRecDepth 100000 in
theorem k_X10_putPath (l : Launch) (G : GE) (hl : l.stackTraces = false) (hG : GOK G) (fu : Nat) (l1 : Int32) (l2 : Int32) (l3 : Int32) (M : Mem) (res : Mem) (hk0 : (10, 0) ∈ gids G) (hm : f_X10_putPath fu l1 l2 l3 M = some res) : CT l G yX10_putPath cX10_putPath 5 none 0 [vR 10 0, vI l1, vI l2, vI l3] M (.inl none) res := by
  refine ct_of [(0, vR 10 0), (1, vI l1), (2, vI l2), (3, vI l3)] (by decide +kernel) hl hG (Nat.le_of_ble_eq_true rfl) rfl (List.forall_mem_cons.mpr ⟨Or.inl hk0, List.forall_mem_cons.mpr ⟨trivial, List.forall_mem_cons.mpr ⟨trivial, List.forall_mem_cons.mpr ⟨trivial, fun _ h => nomatch h⟩⟩⟩⟩) (List.forall_mem_cons.mpr ⟨Or.inl hk0, List.forall_mem_cons.mpr ⟨trivial, List.forall_mem_cons.mpr ⟨trivial, List.forall_mem_cons.mpr ⟨trivial, fun _ h => nomatch h⟩⟩⟩⟩) (fun X hX C => ?_)
  subst hX
  have Cl := C
  have J33 : ∀ (l4 : Int32) (M : Mem), f_X10_putPath_h33 fu   l4 M = some res → GW G X 5 (QX G X (.inl none) res) 33 [(0, vR 10 0), (4, vI l4)] [] M := by
    intro l4 M hm
    unfold f_X10_putPath_h33 at hm
    obtain ⟨r33, hL33, hk33⟩ := bnd_some hm
    have hx33 : ∀ (M : Mem), M = r33 → GW G X 5 (QX G X (.inl none) res) 62 [(0, vR 10 0)] [] M := by
      intro M he
      subst he
      have hm := hk33
      try dsimp only at hm
      refine g_aload_n C 0 dX10_putPath_62 rfl rfl ?_
      refine g_dup C dX10_putPath_63 rfl ?_
      refine g_geti (k := 0) C (by decide) kf_X10_89 rfl dX10_putPath_64 ?_
      refine g_iconst (v := 1) C dX10_putPath_67 rfl ?_
      refine g_iadd C dX10_putPath_68 ?_
      refine g_puti C (by decide) kf_X10_89 rfl rfl rfl dX10_putPath_69 ?_
      obtain rfl := Option.some.inj hm
      exact g_vret C dX10_putPath_72
    refine lp_ind1 (P := (fun l4 M => GW G X 5 (QX G X (.inl none) res) 33 [(0, vR 10 0), (4, vI l4)] [] M)) (r := r33) ?_ fu l4 M hL33
    intro l4 M o33 hm K33
    unfold f_X10_putPath_b33 at hm
    refine g_iload C 1 dX10_putPath_33 rfl ?_
    refine g_bipush (v := 14) C dX10_putPath_35 rfl ?_
    refine g_icmp_ge (tgt := 62) C dX10_putPath_37 (by decide) (fun h37 => ?_) (fun h37 => ?_)
    · have hm := ift hm h37
      obtain rfl := Option.some.inj hm
      exact g_sub [0] rfl (g_pc rfl (hx33 M (K33.2 _ rfl)))
    · have hm := ife hm h37
      refine g_aload_n C 0 dX10_putPath_40 rfl rfl ?_
      refine g_getr (k := 0) (k' := 18) C (by decide) kf_X10_50 rfl rfl dX10_putPath_41 ?_
      refine g_bipush (v := 14) C dX10_putPath_44 rfl ?_
      refine g_aload_n C 0 dX10_putPath_46 rfl rfl ?_
      refine g_geti (k := 0) C (by decide) kf_X10_89 rfl dX10_putPath_47 ?_
      refine g_imul C dX10_putPath_50 ?_
      refine g_iload C 1 dX10_putPath_51 rfl ?_
      refine g_iadd C dX10_putPath_53 ?_
      refine g_iconst (v := -1) C dX10_putPath_54 rfl ?_
      obtain ⟨hi55, hm⟩ := ifn hm
      refine g_iast C (by decide) hi55 dX10_putPath_55 ?_
      refine g_iinc (ls' := [(4, vI (l4 + (1 : Int32))), (0, vR 10 0)]) (v := l4 + (1 : Int32)) C 1 dX10_putPath_56 rfl (iv_p1 _) (by decide) rfl ?_
      refine g_goto (tgt := 33) C dX10_putPath_59 (by decide) ?_
      obtain rfl := Option.some.inj hm
      exact g_sub [1, 0] rfl (g_pc rfl (K33.1 (l4 + (1 : Int32)) (mI M 22 18 (((14 : Int32) * (M.1 10 0 13)) + l4).toNatClampNeg (-1 : Int32)) rfl))
  unfold f_X10_putPath at hm
  refine g_aload_n C 0 dX10_putPath_0 rfl rfl ?_
  refine g_getr (k := 0) (k' := 14) C (by decide) kf_X10_38 rfl rfl dX10_putPath_1 ?_
  refine g_aload_n C 0 dX10_putPath_4 rfl rfl ?_
  refine g_geti (k := 0) C (by decide) kf_X10_89 rfl dX10_putPath_5 ?_
  refine g_iload_n C 1 dX10_putPath_8 rfl rfl ?_
  obtain ⟨hi9, hm⟩ := ifn hm
  refine g_iast C (by decide) hi9 dX10_putPath_9 ?_
  refine g_aload_n C 0 dX10_putPath_10 rfl rfl ?_
  refine g_getr (k := 0) (k' := 15) C (by decide) kf_X10_41 rfl rfl dX10_putPath_11 ?_
  refine g_aload_n C 0 dX10_putPath_14 rfl rfl ?_
  refine g_geti (k := 0) C (by decide) kf_X10_89 rfl dX10_putPath_15 ?_
  refine g_iload_n C 2 dX10_putPath_18 rfl rfl ?_
  obtain ⟨hi19, hm⟩ := ifn hm
  refine g_iast C (by decide) hi19 dX10_putPath_19 ?_
  refine g_aload_n C 0 dX10_putPath_20 rfl rfl ?_
  refine g_getr (k := 0) (k' := 16) C (by decide) kf_X10_44 rfl rfl dX10_putPath_21 ?_
  refine g_aload_n C 0 dX10_putPath_24 rfl rfl ?_
  refine g_geti (k := 0) C (by decide) kf_X10_89 rfl dX10_putPath_25 ?_
  refine g_iload_n C 3 dX10_putPath_28 rfl rfl ?_
  obtain ⟨hi29, hm⟩ := ifn hm
  refine g_iast C (by decide) hi29 dX10_putPath_29 ?_
  refine g_iconst (v := 0) C dX10_putPath_30 rfl ?_
  refine g_istore (ls' := [(4, vI (0 : Int32)), (0, vR 10 0), (1, vI l1), (2, vI l2), (3, vI l3)]) C dX10_putPath_31 (by decide) rfl ?_
  exact g_sub [1, 0] rfl (g_pc rfl (J33 (0 : Int32) (mI (mI (mI M 22 14 (M.1 10 0 13).toNatClampNeg l1) 22 15 ((mI M 22 14 (M.1 10 0 13).toNatClampNeg l1).1 10 0 13).toNatClampNeg l2) 22 16 ((mI (mI M 22 14 (M.1 10 0 13).toNatClampNeg l1) 22 15 ((mI M 22 14 (M.1 10 0 13).toNatClampNeg l1).1 10 0 13).toNatClampNeg l2).1 10 0 13).toNatClampNeg l3) hm))
def f_X10_goOn_b32 (fu : Nat)  (l1 : Int32) (l2 : Int32) (l3 : Int32) (l4 : Int32) (M : Mem) : Option ((Int32 × Mem) ⊕ (Mem)) :=
  if inb l1 (alen 22 16) then if (M.1 22 16 l1.toNatClampNeg) ≤ l4 then some (Sum.inr M) else if inb (((7 : Int32) * l1) + l4) (alen 22 17) then if inb (((7 : Int32) * l3) + l4) (alen 22 17) then some (Sum.inl (l4 + (1 : Int32), (mI M 22 17 (((7 : Int32) * l3) + l4).toNatClampNeg (M.1 22 17 (((7 : Int32) * l1) + l4).toNatClampNeg)))) else none else none else none
def f_X10_goOn_h32 (fu : Nat)   (l1 : Int32) (l2 : Int32) (l3 : Int32) (l4 : Int32) (M : Mem) : Option (Mem) :=
  (lp_run (fun s => f_X10_goOn_b32 fu  l1 l2 l3 s.1 s.2) fu (l4, M)).bind (fun M => if inb l1 (alen 22 16) then if inb (((7 : Int32) * l3) + (M.1 22 16 l1.toNatClampNeg)) (alen 22 17) then if inb (((14 : Int32) * l1) + l2) (alen 22 18) then some (mI (mI M 22 17 (((7 : Int32) * l3) + (M.1 22 16 l1.toNatClampNeg)).toNatClampNeg l2) 22 18 (((14 : Int32) * l1) + l2).toNatClampNeg l3) else none else none else none)
def f_X10_goOn (fu : Nat) (l1 : Int32) (l2 : Int32) (M : Mem) : Option (Mem) :=
  if inb l1 (alen 22 14) then if inb l2 (alen 22 4) then if inb l1 (alen 22 16) then (f_X10_putPath fu (M.1 22 14 l1.toNatClampNeg) (M.1 22 4 l2.toNatClampNeg) ((M.1 22 16 l1.toNatClampNeg) + (1 : Int32)) M).bind (fun r26 => f_X10_goOn_h32 fu l1 l2 (M.1 10 0 13) (0 : Int32) r26) else none else none else none
set_option maxHeartbeats 4000000 in
set_option maxRecDepth 100000 in
theorem k_X10_goOn (l : Launch) (G : GE) (hl : l.stackTraces = false) (hG : GOK G) (fu : Nat) (l1 : Int32) (l2 : Int32) (M : Mem) (res : Mem) (hk0 : (10, 0) ∈ gids G) (hm : f_X10_goOn fu l1 l2 M = some res) : CT l G yX10_goOn cX10_goOn 5 none 1 [vR 10 0, vI l1, vI l2] M (.inl none) res := by
  refine ct_of [(0, vR 10 0), (1, vI l1), (2, vI l2)] (by decide +kernel) hl hG (Nat.le_of_ble_eq_true rfl) rfl (List.forall_mem_cons.mpr ⟨Or.inl hk0, List.forall_mem_cons.mpr ⟨trivial, List.forall_mem_cons.mpr ⟨trivial, fun _ h => nomatch h⟩⟩⟩) (List.forall_mem_cons.mpr ⟨Or.inl hk0, List.forall_mem_cons.mpr ⟨trivial, List.forall_mem_cons.mpr ⟨trivial, fun _ h => nomatch h⟩⟩⟩) (fun X hX C => ?_)
  subst hX
  have Cl := C
  have J32 : ∀ (l1 : Int32) (l2 : Int32) (l3 : Int32) (l4 : Int32) (M : Mem), f_X10_goOn_h32 fu   l1 l2 l3 l4 M = some res → GW G X 5 (QX G X (.inl none) res) 32 [(0, vR 10 0), (1, vI l1), (2, vI l2), (3, vI l3), (4, vI l4)] [] M := by
    intro l1 l2 l3 l4 M hm
    unfold f_X10_goOn_h32 at hm
    obtain ⟨r32, hL32, hk32⟩ := bnd_some hm
    have hx32 : ∀ (M : Mem), M = r32 → GW G X 5 (QX G X (.inl none) res) 73 [(0, vR 10 0), (1, vI l1), (2, vI l2), (3, vI l3)] [] M := by
      intro M he
      subst he
      have hm := hk32
      try dsimp only at hm
      refine g_aload_n C 0 dX10_goOn_73 rfl rfl ?_
      refine g_getr (k := 0) (k' := 17) C (by decide) kf_X10_47 rfl rfl dX10_goOn_74 ?_
      refine g_bipush (v := 7) C dX10_goOn_77 rfl ?_
      refine g_iload_n C 3 dX10_goOn_79 rfl rfl ?_
      refine g_imul C dX10_goOn_80 ?_
      refine g_aload_n C 0 dX10_goOn_81 rfl rfl ?_
      refine g_getr (k := 0) (k' := 16) C (by decide) kf_X10_44 rfl rfl dX10_goOn_82 ?_
      refine g_iload_n C 1 dX10_goOn_85 rfl rfl ?_
      obtain ⟨hi86, hm⟩ := ifn hm
      refine g_iald C (by decide) hi86 dX10_goOn_86 ?_
      refine g_iadd C dX10_goOn_87 ?_
      refine g_iload_n C 2 dX10_goOn_88 rfl rfl ?_
      obtain ⟨hi89, hm⟩ := ifn hm
      refine g_iast C (by decide) hi89 dX10_goOn_89 ?_
      refine g_aload_n C 0 dX10_goOn_90 rfl rfl ?_
      refine g_getr (k := 0) (k' := 18) C (by decide) kf_X10_50 rfl rfl dX10_goOn_91 ?_
      refine g_bipush (v := 14) C dX10_goOn_94 rfl ?_
      refine g_iload_n C 1 dX10_goOn_96 rfl rfl ?_
      refine g_imul C dX10_goOn_97 ?_
      refine g_iload_n C 2 dX10_goOn_98 rfl rfl ?_
      refine g_iadd C dX10_goOn_99 ?_
      refine g_iload_n C 3 dX10_goOn_100 rfl rfl ?_
      obtain ⟨hi101, hm⟩ := ifn hm
      refine g_iast C (by decide) hi101 dX10_goOn_101 ?_
      obtain rfl := Option.some.inj hm
      exact g_vret C dX10_goOn_102
    refine lp_ind1 (P := (fun l4 M => GW G X 5 (QX G X (.inl none) res) 32 [(0, vR 10 0), (1, vI l1), (2, vI l2), (3, vI l3), (4, vI l4)] [] M)) (r := r32) ?_ fu l4 M hL32
    intro l4 M o32 hm K32
    unfold f_X10_goOn_b32 at hm
    refine g_iload C 4 dX10_goOn_32 rfl ?_
    refine g_aload_n C 0 dX10_goOn_34 rfl rfl ?_
    refine g_getr (k := 0) (k' := 16) C (by decide) kf_X10_44 rfl rfl dX10_goOn_35 ?_
    refine g_iload_n C 1 dX10_goOn_38 rfl rfl ?_
    obtain ⟨hi39, hm⟩ := ifn hm
    refine g_iald C (by decide) hi39 dX10_goOn_39 ?_
    refine g_icmp_ge (tgt := 73) C dX10_goOn_40 (by decide) (fun h40 => ?_) (fun h40 => ?_)
    · have hm := ift hm h40
      obtain rfl := Option.some.inj hm
      exact g_sub [0, 1, 2, 3] rfl (g_pc rfl (hx32 M (K32.2 _ rfl)))
    · have hm := ife hm h40
      refine g_aload_n C 0 dX10_goOn_43 rfl rfl ?_
      refine g_getr (k := 0) (k' := 17) C (by decide) kf_X10_47 rfl rfl dX10_goOn_44 ?_
      refine g_bipush (v := 7) C dX10_goOn_47 rfl ?_
      refine g_iload_n C 3 dX10_goOn_49 rfl rfl ?_
      refine g_imul C dX10_goOn_50 ?_
      refine g_iload C 4 dX10_goOn_51 rfl ?_
      refine g_iadd C dX10_goOn_53 ?_
      refine g_aload_n C 0 dX10_goOn_54 rfl rfl ?_
      refine g_getr (k := 0) (k' := 17) C (by decide) kf_X10_47 rfl rfl dX10_goOn_55 ?_
      refine g_bipush (v := 7) C dX10_goOn_58 rfl ?_
      refine g_iload_n C 1 dX10_goOn_60 rfl rfl ?_
      refine g_imul C dX10_goOn_61 ?_
      refine g_iload C 4 dX10_goOn_62 rfl ?_
      refine g_iadd C dX10_goOn_64 ?_
      obtain ⟨hi65, hm⟩ := ifn hm
      refine g_iald C (by decide) hi65 dX10_goOn_65 ?_
      obtain ⟨hi66, hm⟩ := ifn hm
      refine g_iast C (by decide) hi66 dX10_goOn_66 ?_
      refine g_iinc (ls' := [(4, vI (l4 + (1 : Int32))), (0, vR 10 0), (1, vI l1), (2, vI l2), (3, vI l3)]) (v := l4 + (1 : Int32)) C 4 dX10_goOn_67 rfl (iv_p1 _) (by decide) rfl ?_
      refine g_goto (tgt := 32) C dX10_goOn_70 (by decide) ?_
      obtain rfl := Option.some.inj hm
      exact g_sub [1, 2, 3, 4, 0] rfl (g_pc rfl (K32.1 (l4 + (1 : Int32)) (mI M 22 17 (((7 : Int32) * l3) + l4).toNatClampNeg (M.1 22 17 (((7 : Int32) * l1) + l4).toNatClampNeg)) rfl))
  unfold f_X10_goOn at hm
  refine g_aload_n C 0 dX10_goOn_0 rfl rfl ?_
  refine g_geti (k := 0) C (by decide) kf_X10_89 rfl dX10_goOn_1 ?_
  refine g_istore_n (ls' := [(3, vI (M.1 10 0 13)), (0, vR 10 0), (1, vI l1), (2, vI l2)]) C dX10_goOn_4 rfl (by decide) rfl ?_
  refine g_aload_n C 1 dX10_goOn_5 rfl rfl ?_
  refine g_aload_n C 1 dX10_goOn_6 rfl rfl ?_
  refine g_getr (k := 0) (k' := 14) C (by decide) kf_X10_38 rfl rfl dX10_goOn_7 ?_
  refine g_iload_n C 2 dX10_goOn_10 rfl rfl ?_
  obtain ⟨hi11, hm⟩ := ifn hm
  refine g_iald C (by decide) hi11 dX10_goOn_11 ?_
  refine g_aload_n C 1 dX10_goOn_12 rfl rfl ?_
  refine g_getr (k := 0) (k' := 4) C (by decide) kf_X10_17 rfl rfl dX10_goOn_13 ?_
  refine g_iload_n C 3 dX10_goOn_16 rfl rfl ?_
  obtain ⟨hi17, hm⟩ := ifn hm
  refine g_iald C (by decide) hi17 dX10_goOn_17 ?_
  refine g_aload_n C 1 dX10_goOn_18 rfl rfl ?_
  refine g_getr (k := 0) (k' := 16) C (by decide) kf_X10_44 rfl rfl dX10_goOn_19 ?_
  refine g_iload_n C 2 dX10_goOn_22 rfl rfl ?_
  obtain ⟨hi23, hm⟩ := ifn hm
  refine g_iald C (by decide) hi23 dX10_goOn_23 ?_
  refine g_iconst (v := 1) C dX10_goOn_24 rfl ?_
  refine g_iadd C dX10_goOn_25 ?_
  obtain ⟨r26, hr26, hm⟩ := bnd_some hm
  refine g_callVv (As := [vI (M.1 22 14 l1.toNatClampNeg), vI (M.1 22 4 l2.toNatClampNeg), vI ((M.1 22 16 l1.toNatClampNeg) + (1 : Int32))]) (rest := []) C lk_X10_92 (k_X10_putPath X.2.1 G hl hG fu (M.1 22 14 l1.toNatClampNeg) (M.1 22 4 l2.toNatClampNeg) ((M.1 22 16 l1.toNatClampNeg) + (1 : Int32)) M r26 hk0 hr26) (by decide) rfl rfl rfl (Nat.le_of_ble_eq_true rfl) ⟨Nat.le_of_ble_eq_true rfl, Nat.le_of_ble_eq_true rfl⟩ dX10_goOn_26 ?_
  refine g_iconst (v := 0) C dX10_goOn_29 rfl ?_
  refine g_istore (ls' := [(4, vI (0 : Int32)), (3, vI (M.1 10 0 13)), (0, vR 10 0), (1, vI l1), (2, vI l2)]) C dX10_goOn_30 (by decide) rfl ?_
  exact g_sub [2, 3, 4, 1, 0] rfl (g_pc rfl (J32 l1 l2 (M.1 10 0 13) (0 : Int32) r26 hm))
def f_X10_layPaths_b7 (fu : Nat)   (l1 : Int32) (M : Mem) : Option ((Int32 × Mem) ⊕ (Mem)) :=
  if (M.1 10 0 1) ≤ l1 then some (Sum.inr M) else (f_X10_putPath fu l1 l1 (0 : Int32) M).bind (fun r19 => some (Sum.inl (l1 + (1 : Int32), r19)))
def f_X10_layPaths_b35 (fu : Nat)  (l1 : Int32) (l2 : Int32) (M : Mem) : Option ((Int32 × Mem) ⊕ (Mem)) :=
  if (M.1 10 0 2) ≤ l2 then some (Sum.inr M) else if inb l2 (alen 22 3) then (f_X10_goOn fu (M.1 22 3 l2.toNatClampNeg) l2 M).bind (fun r51 => some (Sum.inl (l2 + (1 : Int32), r51))) else none
def f_X10_layPaths_j113 (fu : Nat)  (l2 : Int32) (l3 : Int32) (M : Mem) : Option ((Int32 × Mem) ⊕ ((Mem) ⊕ (Int32 × Mem))) :=
  some (Sum.inl (l3 + (1 : Int32), M))
def f_X10_layPaths_b72 (fu : Nat)  (l2 : Int32) (l3 : Int32) (M : Mem) : Option ((Int32 × Mem) ⊕ ((Mem) ⊕ (Int32 × Mem))) :=
  if (M.1 10 0 2) ≤ l3 then some (Sum.inr (Sum.inl M)) else if inb l3 (alen 22 3) then if inb l2 (alen 22 15) then if (M.1 22 3 l3.toNatClampNeg) = (M.1 22 15 l2.toNatClampNeg) then if (M.1 10 0 13) = (300 : Int32) then some (Sum.inr (Sum.inr ((0 : Int32), M))) else (f_X10_goOn fu l2 l3 M).bind (fun r110 => f_X10_layPaths_j113 fu l2 l3 r110) else f_X10_layPaths_j113 fu l2 l3 M else none else none
def f_X10_layPaths_h72 (fu : Nat)   (l2 : Int32) (l3 : Int32) (M : Mem) : Option ((Int32 × Mem) ⊕ ((Mem) ⊕ (Int32 × Mem))) :=
  (lp_run (fun s => f_X10_layPaths_b72 fu  l2 s.1 s.2) fu (l3, M)).bind (fun r72 => match r72 with
    | Sum.inl M => some (Sum.inl (l2 + (1 : Int32), M))
    | Sum.inr q72 => some (Sum.inr (Sum.inr q72)))
def f_X10_layPaths_b62 (fu : Nat)   (l2 : Int32) (M : Mem) : Option ((Int32 × Mem) ⊕ ((Mem) ⊕ (Int32 × Mem))) :=
  if (M.1 10 0 13) ≤ l2 then some (Sum.inr (Sum.inl M)) else f_X10_layPaths_h72 fu l2 (0 : Int32) M
def f_X10_layPaths_h62 (fu : Nat)   (l2 : Int32) (M : Mem) : Option (Int32 × Mem) :=
  (lp_run (fun s => f_X10_layPaths_b62 fu   s.1 s.2) fu (l2, M)).bind (fun r62 => match r62 with
    | Sum.inl M => some ((1 : Int32), M)
    | Sum.inr q62 => some q62)
def f_X10_layPaths_h35 (fu : Nat)   (l1 : Int32) (l2 : Int32) (M : Mem) : Option (Int32 × Mem) :=
  (lp_run (fun s => f_X10_layPaths_b35 fu  l1 s.1 s.2) fu (l2, M)).bind (fun M => f_X10_layPaths_h62 fu l1 M)
def f_X10_layPaths_h7 (fu : Nat)   (l1 : Int32) (M : Mem) : Option (Int32 × Mem) :=
  (lp_run (fun s => f_X10_layPaths_b7 fu   s.1 s.2) fu (l1, M)).bind (fun M => f_X10_layPaths_h35 fu (M.1 10 0 13) (0 : Int32) M)
def f_X10_layPaths (fu : Nat) (M : Mem) : Option (Int32 × Mem) :=
  f_X10_layPaths_h7 fu (0 : Int32) (mI M 10 0 13 (0 : Int32))
set_option maxHeartbeats 4000000 in
set_option maxRecDepth 100000 in
theorem k_X10_layPaths (l : Launch) (G : GE) (hl : l.stackTraces = false) (hG : GOK G) (fu : Nat)  (M : Mem) (res : Int32 × Mem) (hk0 : (10, 0) ∈ gids G) (hm : f_X10_layPaths fu  M = some res) : CT l G yX10_layPaths cX10_layPaths 4 (some .boolean) 2 [vR 10 0] M (.inl (some (vI res.1))) res.2 := by
  refine ct_of [(0, vR 10 0)] (by decide +kernel) hl hG (Nat.le_of_ble_eq_true rfl) rfl (List.forall_mem_cons.mpr ⟨Or.inl hk0, fun _ h => nomatch h⟩) (List.forall_mem_cons.mpr ⟨Or.inl hk0, fun _ h => nomatch h⟩) (fun X hX C => ?_)
  subst hX
  have Cl := C
  have J62 : ∀ (l2 : Int32) (M : Mem), f_X10_layPaths_h62 fu   l2 M = some res → GW G X 4 (QX G X (.inl (some (vI res.1))) res.2) 62 [(0, vR 10 0), (2, vI l2)] [] M := by
    intro l2 M hm
    unfold f_X10_layPaths_h62 at hm
    obtain ⟨r62, hL62, hk62⟩ := bnd_some hm
    have hx62 : ∀ (M : Mem), Sum.inl M = r62 → GW G X 4 (QX G X (.inl (some (vI res.1))) res.2) 125 [] [] M := by
      intro M he
      subst he
      have hm := hk62
      try dsimp only at hm
      refine g_iconst (v := 1) C dX10_layPaths_125 rfl ?_
      obtain rfl := Option.some.inj hm
      exact g_zret C (Or.inr rfl) dX10_layPaths_126
    refine lp_ind1 (P := (fun l2 M => GW G X 4 (QX G X (.inl (some (vI res.1))) res.2) 62 [(0, vR 10 0), (2, vI l2)] [] M)) (r := r62) ?_ fu l2 M hL62
    intro l2 M o62 hm K62
    have J72 : ∀ (l2 : Int32) (l3 : Int32) (M : Mem), f_X10_layPaths_h72 fu   l2 l3 M = some o62 → GW G X 4 (QX G X (.inl (some (vI res.1))) res.2) 72 [(0, vR 10 0), (2, vI l2), (3, vI l3)] [] M := by
      intro l2 l3 M hm
      unfold f_X10_layPaths_h72 at hm
      obtain ⟨r72, hL72, hk72⟩ := bnd_some hm
      have hx72 : ∀ (M : Mem), Sum.inl M = r72 → GW G X 4 (QX G X (.inl (some (vI res.1))) res.2) 119 [(0, vR 10 0), (2, vI l2)] [] M := by
        intro M he
        subst he
        have hm := hk72
        try dsimp only at hm
        refine g_iinc (ls' := [(2, vI (l2 + (1 : Int32))), (0, vR 10 0)]) (v := l2 + (1 : Int32)) C 1 dX10_layPaths_119 rfl (iv_p1 _) (by decide) rfl ?_
        refine g_goto (tgt := 62) C dX10_layPaths_122 (by decide) ?_
        obtain rfl := Option.some.inj hm
        exact g_sub [1, 0] rfl (g_pc rfl (K62.1 (l2 + (1 : Int32)) M rfl))
      refine lp_ind1 (P := (fun l3 M => GW G X 4 (QX G X (.inl (some (vI res.1))) res.2) 72 [(0, vR 10 0), (2, vI l2), (3, vI l3)] [] M)) (r := r72) ?_ fu l3 M hL72
      intro l3 M o72 hm K72
      have J113 : ∀ (l3 : Int32) (M : Mem), f_X10_layPaths_j113 fu  l2 l3 M = some o72 → GW G X 4 (QX G X (.inl (some (vI res.1))) res.2) 113 [(0, vR 10 0), (2, vI l2), (3, vI l3)] [] M := by
        intro l3 M hm
        unfold f_X10_layPaths_j113 at hm
        refine g_iinc (ls' := [(3, vI (l3 + (1 : Int32))), (0, vR 10 0), (2, vI l2)]) (v := l3 + (1 : Int32)) C 2 dX10_layPaths_113 rfl (iv_p1 _) (by decide) rfl ?_
        refine g_goto (tgt := 72) C dX10_layPaths_116 (by decide) ?_
        obtain rfl := Option.some.inj hm
        exact g_sub [1, 2, 0] rfl (g_pc rfl (K72.1 (l3 + (1 : Int32)) M rfl))
      unfold f_X10_layPaths_b72 at hm
      refine g_iload_n C 2 dX10_layPaths_72 rfl rfl ?_
      refine g_aload_n C 0 dX10_layPaths_73 rfl rfl ?_
      refine g_geti (k := 0) C (by decide) kf_X10_79 rfl dX10_layPaths_74 ?_
      refine g_icmp_ge (tgt := 119) C dX10_layPaths_77 (by decide) (fun h77 => ?_) (fun h77 => ?_)
      · have hm := ift hm h77
        obtain rfl := Option.some.inj hm
        exact g_sub [0, 1] rfl (g_pc rfl (hx72 M (K72.2 _ rfl)))
      · have hm := ife hm h77
        refine g_aload_n C 0 dX10_layPaths_80 rfl rfl ?_
        refine g_getr (k := 0) (k' := 3) C (by decide) kf_X10_13 rfl rfl dX10_layPaths_81 ?_
        refine g_iload_n C 2 dX10_layPaths_84 rfl rfl ?_
        obtain ⟨hi85, hm⟩ := ifn hm
        refine g_iald C (by decide) hi85 dX10_layPaths_85 ?_
        refine g_aload_n C 0 dX10_layPaths_86 rfl rfl ?_
        refine g_getr (k := 0) (k' := 15) C (by decide) kf_X10_41 rfl rfl dX10_layPaths_87 ?_
        refine g_iload_n C 1 dX10_layPaths_90 rfl rfl ?_
        obtain ⟨hi91, hm⟩ := ifn hm
        refine g_iald C (by decide) hi91 dX10_layPaths_91 ?_
        refine g_icmp_ne (tgt := 113) C dX10_layPaths_92 (by decide) (fun h92 => ?_) (fun h92 => ?_)
        · have hm := ife hm h92
          exact g_sub [0, 1, 2] rfl (g_pc rfl (J113 l3 M hm))
        · have hm := ift hm h92
          refine g_aload_n C 0 dX10_layPaths_95 rfl rfl ?_
          refine g_geti (k := 0) C (by decide) kf_X10_89 rfl dX10_layPaths_96 ?_
          refine g_sipush (v := 300) C dX10_layPaths_99 rfl ?_
          refine g_icmp_ne (tgt := 107) C dX10_layPaths_102 (by decide) (fun h102 => ?_) (fun h102 => ?_)
          · have hm := ife hm h102
            refine g_aload_n C 0 dX10_layPaths_107 rfl rfl ?_
            refine g_iload_n C 1 dX10_layPaths_108 rfl rfl ?_
            refine g_iload_n C 2 dX10_layPaths_109 rfl rfl ?_
            obtain ⟨r110, hr110, hm⟩ := bnd_some hm
            refine g_callVv (As := [vI l2, vI l3]) (rest := []) C lk_X10_96 (k_X10_goOn X.2.1 G hl hG fu l2 l3 M r110 hk0 hr110) (by decide) rfl rfl rfl (Nat.le_of_ble_eq_true rfl) ⟨Nat.le_of_ble_eq_true rfl, Nat.le_of_ble_eq_true rfl⟩ dX10_layPaths_110 ?_
            exact g_sub [0, 1, 2] rfl (g_pc rfl (J113 l3 r110 hm))
          · have hm := ift hm h102
            refine g_iconst (v := 0) C dX10_layPaths_105 rfl ?_
            obtain rfl := Option.some.inj hm
            have e72 := K72.2 _ rfl
            subst e72
            obtain rfl := Option.some.inj hk72
            have e62 := K62.2 _ rfl
            subst e62
            obtain rfl := Option.some.inj hk62
            exact g_zret C (Or.inl rfl) dX10_layPaths_106
    unfold f_X10_layPaths_b62 at hm
    refine g_iload_n C 1 dX10_layPaths_62 rfl rfl ?_
    refine g_aload_n C 0 dX10_layPaths_63 rfl rfl ?_
    refine g_geti (k := 0) C (by decide) kf_X10_89 rfl dX10_layPaths_64 ?_
    refine g_icmp_ge (tgt := 125) C dX10_layPaths_67 (by decide) (fun h67 => ?_) (fun h67 => ?_)
    · have hm := ift hm h67
      obtain rfl := Option.some.inj hm
      exact g_sub [] rfl (g_pc rfl (hx62 M (K62.2 _ rfl)))
    · have hm := ife hm h67
      refine g_iconst (v := 0) C dX10_layPaths_70 rfl ?_
      refine g_istore_n (ls' := [(3, vI (0 : Int32)), (0, vR 10 0), (2, vI l2)]) C dX10_layPaths_71 rfl (by decide) rfl ?_
      exact g_sub [1, 2, 0] rfl (g_pc rfl (J72 l2 (0 : Int32) M hm))
  have J35 : ∀ (l1 : Int32) (l2 : Int32) (M : Mem), f_X10_layPaths_h35 fu   l1 l2 M = some res → GW G X 4 (QX G X (.inl (some (vI res.1))) res.2) 35 [(0, vR 10 0), (1, vI l1), (2, vI l2)] [] M := by
    intro l1 l2 M hm
    unfold f_X10_layPaths_h35 at hm
    obtain ⟨r35, hL35, hk35⟩ := bnd_some hm
    have hx35 : ∀ (M : Mem), M = r35 → GW G X 4 (QX G X (.inl (some (vI res.1))) res.2) 60 [(0, vR 10 0), (1, vI l1)] [] M := by
      intro M he
      subst he
      have hm := hk35
      try dsimp only at hm
      refine g_iload_n C 1 dX10_layPaths_60 rfl rfl ?_
      refine g_istore_n (ls' := [(2, vI l1), (0, vR 10 0), (1, vI l1)]) C dX10_layPaths_61 rfl (by decide) rfl ?_
      exact g_sub [1, 0] rfl (g_pc rfl (J62 l1 M hm))
    refine lp_ind1 (P := (fun l2 M => GW G X 4 (QX G X (.inl (some (vI res.1))) res.2) 35 [(0, vR 10 0), (1, vI l1), (2, vI l2)] [] M)) (r := r35) ?_ fu l2 M hL35
    intro l2 M o35 hm K35
    unfold f_X10_layPaths_b35 at hm
    refine g_iload_n C 2 dX10_layPaths_35 rfl rfl ?_
    refine g_aload_n C 0 dX10_layPaths_36 rfl rfl ?_
    refine g_geti (k := 0) C (by decide) kf_X10_79 rfl dX10_layPaths_37 ?_
    refine g_icmp_ge (tgt := 60) C dX10_layPaths_40 (by decide) (fun h40 => ?_) (fun h40 => ?_)
    · have hm := ift hm h40
      obtain rfl := Option.some.inj hm
      exact g_sub [0, 1] rfl (g_pc rfl (hx35 M (K35.2 _ rfl)))
    · have hm := ife hm h40
      refine g_aload_n C 0 dX10_layPaths_43 rfl rfl ?_
      refine g_aload_n C 0 dX10_layPaths_44 rfl rfl ?_
      refine g_getr (k := 0) (k' := 3) C (by decide) kf_X10_13 rfl rfl dX10_layPaths_45 ?_
      refine g_iload_n C 2 dX10_layPaths_48 rfl rfl ?_
      obtain ⟨hi49, hm⟩ := ifn hm
      refine g_iald C (by decide) hi49 dX10_layPaths_49 ?_
      refine g_iload_n C 2 dX10_layPaths_50 rfl rfl ?_
      obtain ⟨r51, hr51, hm⟩ := bnd_some hm
      refine g_callVv (As := [vI (M.1 22 3 l2.toNatClampNeg), vI l2]) (rest := []) C lk_X10_96 (k_X10_goOn X.2.1 G hl hG fu (M.1 22 3 l2.toNatClampNeg) l2 M r51 hk0 hr51) (by decide) rfl rfl rfl (Nat.le_of_ble_eq_true rfl) ⟨Nat.le_of_ble_eq_true rfl, Nat.le_of_ble_eq_true rfl⟩ dX10_layPaths_51 ?_
      refine g_iinc (ls' := [(2, vI (l2 + (1 : Int32))), (0, vR 10 0), (1, vI l1)]) (v := l2 + (1 : Int32)) C 2 dX10_layPaths_54 rfl (iv_p1 _) (by decide) rfl ?_
      refine g_goto (tgt := 35) C dX10_layPaths_57 (by decide) ?_
      obtain rfl := Option.some.inj hm
      exact g_sub [1, 2, 0] rfl (g_pc rfl (K35.1 (l2 + (1 : Int32)) r51 rfl))
  have J7 : ∀ (l1 : Int32) (M : Mem), f_X10_layPaths_h7 fu   l1 M = some res → GW G X 4 (QX G X (.inl (some (vI res.1))) res.2) 7 [(0, vR 10 0), (1, vI l1)] [] M := by
    intro l1 M hm
    unfold f_X10_layPaths_h7 at hm
    obtain ⟨r7, hL7, hk7⟩ := bnd_some hm
    have hx7 : ∀ (M : Mem), M = r7 → GW G X 4 (QX G X (.inl (some (vI res.1))) res.2) 28 [(0, vR 10 0)] [] M := by
      intro M he
      subst he
      have hm := hk7
      try dsimp only at hm
      refine g_aload_n C 0 dX10_layPaths_28 rfl rfl ?_
      refine g_geti (k := 0) C (by decide) kf_X10_89 rfl dX10_layPaths_29 ?_
      refine g_istore_n (ls' := [(1, vI (M.1 10 0 13)), (0, vR 10 0)]) C dX10_layPaths_32 rfl (by decide) rfl ?_
      refine g_iconst (v := 0) C dX10_layPaths_33 rfl ?_
      refine g_istore_n (ls' := [(2, vI (0 : Int32)), (1, vI (M.1 10 0 13)), (0, vR 10 0)]) C dX10_layPaths_34 rfl (by decide) rfl ?_
      exact g_sub [2, 1, 0] rfl (g_pc rfl (J35 (M.1 10 0 13) (0 : Int32) M hm))
    refine lp_ind1 (P := (fun l1 M => GW G X 4 (QX G X (.inl (some (vI res.1))) res.2) 7 [(0, vR 10 0), (1, vI l1)] [] M)) (r := r7) ?_ fu l1 M hL7
    intro l1 M o7 hm K7
    unfold f_X10_layPaths_b7 at hm
    refine g_iload_n C 1 dX10_layPaths_7 rfl rfl ?_
    refine g_aload_n C 0 dX10_layPaths_8 rfl rfl ?_
    refine g_geti (k := 0) C (by decide) kf_X10_7 rfl dX10_layPaths_9 ?_
    refine g_icmp_ge (tgt := 28) C dX10_layPaths_12 (by decide) (fun h12 => ?_) (fun h12 => ?_)
    · have hm := ift hm h12
      obtain rfl := Option.some.inj hm
      exact g_sub [0] rfl (g_pc rfl (hx7 M (K7.2 _ rfl)))
    · have hm := ife hm h12
      refine g_aload_n C 0 dX10_layPaths_15 rfl rfl ?_
      refine g_iload_n C 1 dX10_layPaths_16 rfl rfl ?_
      refine g_iload_n C 1 dX10_layPaths_17 rfl rfl ?_
      refine g_iconst (v := 0) C dX10_layPaths_18 rfl ?_
      obtain ⟨r19, hr19, hm⟩ := bnd_some hm
      refine g_callVv (As := [vI l1, vI l1, vI (0 : Int32)]) (rest := []) C lk_X10_92 (k_X10_putPath X.2.1 G hl hG fu l1 l1 (0 : Int32) M r19 hk0 hr19) (by decide) rfl rfl rfl (Nat.le_of_ble_eq_true rfl) ⟨Nat.le_of_ble_eq_true rfl, Nat.le_of_ble_eq_true rfl⟩ dX10_layPaths_19 ?_
      refine g_iinc (ls' := [(1, vI (l1 + (1 : Int32))), (0, vR 10 0)]) (v := l1 + (1 : Int32)) C 1 dX10_layPaths_22 rfl (iv_p1 _) (by decide) rfl ?_
      refine g_goto (tgt := 7) C dX10_layPaths_25 (by decide) ?_
      obtain rfl := Option.some.inj hm
      exact g_sub [1, 0] rfl (g_pc rfl (K7.1 (l1 + (1 : Int32)) r19 rfl))
  unfold f_X10_layPaths at hm
  refine g_aload_n C 0 dX10_layPaths_0 rfl rfl ?_
  refine g_iconst (v := 0) C dX10_layPaths_1 rfl ?_
  refine g_puti C (by decide) kf_X10_89 rfl rfl rfl dX10_layPaths_2 ?_
  refine g_iconst (v := 0) C dX10_layPaths_5 rfl ?_
  refine g_istore_n (ls' := [(1, vI (0 : Int32)), (0, vR 10 0)]) C dX10_layPaths_6 rfl (by decide) rfl ?_
  exact g_sub [1, 0] rfl (g_pc rfl (J7 (0 : Int32) (mI M 10 0 13 (0 : Int32)) hm))
def f_X10_fresh_b17 (fu : Nat)   (l2 : Int32) (M : Mem) : Option ((Int32 × Mem) ⊕ (Mem)) :=
  if (8 : Int32) ≤ l2 then some (Sum.inr M) else if inb l2 (alen 22 6) then some (Sum.inl (l2 + (1 : Int32), (mI M 22 6 l2.toNatClampNeg (2 : Int32)))) else none
def f_X10_fresh_h17 (fu : Nat)   (l2 : Int32) (M : Mem) : Option (Mem) :=
  (lp_run (fun s => f_X10_fresh_b17 fu   s.1 s.2) fu (l2, M)).bind (fun M => (f_X10_layPaths fu  M).bind (fun r37 => some r37.2))
def f_X10_fresh (fu : Nat) (l1 : Int32) (M : Mem) : Option (Mem) :=
  f_X10_fresh_h17 fu (0 : Int32) (mI (mI (mI M 10 0 1 l1) 10 0 2 (0 : Int32)) 10 0 7 (0 : Int32))
set_option maxHeartbeats 4000000 in
set_option maxRecDepth 100000 in
theorem k_X10_fresh (l : Launch) (G : GE) (hl : l.stackTraces = false) (hG : GOK G) (fu : Nat) (l1 : Int32) (M : Mem) (res : Mem) (hk0 : (10, 0) ∈ gids G) (hm : f_X10_fresh fu l1 M = some res) : CT l G yX10_fresh cX10_fresh 3 none 3 [vR 10 0, vI l1] M (.inl none) res := by
  refine ct_of [(0, vR 10 0), (1, vI l1)] (by decide +kernel) hl hG (Nat.le_of_ble_eq_true rfl) rfl (List.forall_mem_cons.mpr ⟨Or.inl hk0, List.forall_mem_cons.mpr ⟨trivial, fun _ h => nomatch h⟩⟩) (List.forall_mem_cons.mpr ⟨Or.inl hk0, List.forall_mem_cons.mpr ⟨trivial, fun _ h => nomatch h⟩⟩) (fun X hX C => ?_)
  subst hX
  have Cl := C
  have J17 : ∀ (l2 : Int32) (M : Mem), f_X10_fresh_h17 fu   l2 M = some res → GW G X 3 (QX G X (.inl none) res) 17 [(0, vR 10 0), (2, vI l2)] [] M := by
    intro l2 M hm
    unfold f_X10_fresh_h17 at hm
    obtain ⟨r17, hL17, hk17⟩ := bnd_some hm
    have hx17 : ∀ (M : Mem), M = r17 → GW G X 3 (QX G X (.inl none) res) 36 [(0, vR 10 0)] [] M := by
      intro M he
      subst he
      have hm := hk17
      try dsimp only at hm
      refine g_aload_n C 0 dX10_fresh_36 rfl rfl ?_
      obtain ⟨r37, hr37, hm⟩ := bnd_some hm
      refine g_callVi (As := []) (rest := []) C lk_X10_85 (k_X10_layPaths X.2.1 G hl hG fu  M r37 hk0 hr37) (by decide) rfl rfl rfl (Nat.le_of_ble_eq_true rfl) ⟨Nat.le_of_ble_eq_true rfl, Nat.le_of_ble_eq_true rfl⟩ dX10_fresh_37 ?_
      refine g_pop C dX10_fresh_40 rfl ?_
      obtain rfl := Option.some.inj hm
      exact g_vret C dX10_fresh_41
    refine lp_ind1 (P := (fun l2 M => GW G X 3 (QX G X (.inl none) res) 17 [(0, vR 10 0), (2, vI l2)] [] M)) (r := r17) ?_ fu l2 M hL17
    intro l2 M o17 hm K17
    unfold f_X10_fresh_b17 at hm
    refine g_iload_n C 1 dX10_fresh_17 rfl rfl ?_
    refine g_bipush (v := 8) C dX10_fresh_18 rfl ?_
    refine g_icmp_ge (tgt := 36) C dX10_fresh_20 (by decide) (fun h20 => ?_) (fun h20 => ?_)
    · have hm := ift hm h20
      obtain rfl := Option.some.inj hm
      exact g_sub [0] rfl (g_pc rfl (hx17 M (K17.2 _ rfl)))
    · have hm := ife hm h20
      refine g_aload_n C 0 dX10_fresh_23 rfl rfl ?_
      refine g_getr (k := 0) (k' := 6) C (by decide) kf_X10_23 rfl rfl dX10_fresh_24 ?_
      refine g_iload_n C 1 dX10_fresh_27 rfl rfl ?_
      refine g_iconst (v := 2) C dX10_fresh_28 rfl ?_
      obtain ⟨hi29, hm⟩ := ifn hm
      refine g_iast C (by decide) hi29 dX10_fresh_29 ?_
      refine g_iinc (ls' := [(2, vI (l2 + (1 : Int32))), (0, vR 10 0)]) (v := l2 + (1 : Int32)) C 1 dX10_fresh_30 rfl (iv_p1 _) (by decide) rfl ?_
      refine g_goto (tgt := 17) C dX10_fresh_33 (by decide) ?_
      obtain rfl := Option.some.inj hm
      exact g_sub [1, 0] rfl (g_pc rfl (K17.1 (l2 + (1 : Int32)) (mI M 22 6 l2.toNatClampNeg (2 : Int32)) rfl))
  unfold f_X10_fresh at hm
  refine g_aload_n C 0 dX10_fresh_0 rfl rfl ?_
  refine g_iload_n C 1 dX10_fresh_1 rfl rfl ?_
  refine g_puti C (by decide) kf_X10_7 rfl rfl rfl dX10_fresh_2 ?_
  refine g_aload_n C 0 dX10_fresh_5 rfl rfl ?_
  refine g_iconst (v := 0) C dX10_fresh_6 rfl ?_
  refine g_puti C (by decide) kf_X10_79 rfl rfl rfl dX10_fresh_7 ?_
  refine g_aload_n C 0 dX10_fresh_10 rfl rfl ?_
  refine g_iconst (v := 0) C dX10_fresh_11 rfl ?_
  refine g_puti C (by decide) kf_X10_82 rfl rfl rfl dX10_fresh_12 ?_
  refine g_iconst (v := 0) C dX10_fresh_15 rfl ?_
  refine g_istore_n (ls' := [(2, vI (0 : Int32)), (0, vR 10 0), (1, vI l1)]) C dX10_fresh_16 rfl (by decide) rfl ?_
  exact g_sub [1, 0] rfl (g_pc rfl (J17 (0 : Int32) (mI (mI (mI M 10 0 1 l1) 10 0 2 (0 : Int32)) 10 0 7 (0 : Int32)) hm))

/-! p28: the claim is false as printed (its room): made by wip/refute/port.py out of whole's rows -/
/-! constructors that call methods; made by wip/whole/mkctor2.py -/
section CTORS2
variable {D : va_G} {cI cL : ClassId}
def grw (k : Nat) : Int32 := [nI 20, nI 20, nI 300, nI 300, nI 300, nI 8].getD k 0
def gcl (k : Nat) : Int32 := [nI 7, nI 7, nI 7, nI 14, nI 20, nI 8].getD k 0
/-- the memory behind the bare constructors -/
def MZ : Mem := (fun t k i => if t = 3 then (if i = 0 then grw k else if i = 1 then gcl k else 0) else 0, fun _ _ _ => 0)
/-- the same, the distances filled -/
def MF : Mem := (fun t k i => if t = 3 then (if i = 0 then grw k else if i = 1 then gcl k else 0) else if t = 20 ∧ k = 22 then (if i < 300 then -1 else 0) else 0, fun _ _ _ => 0)
abbrev mkG (D : va_G) (cI cL : ClassId) (A : Nat → Prop) (ad : Nat → Nat → Nat) (ids : List (Nat × Nat)) : GE := (D, cI, cL, ad, ids, A, none)
theorem sf_ad {ad : Nat → Nat → Nat} {ids : List (Nat × Nat)} {A : Nat → Prop} {U : State} {H : Heap} (h : SF (G0 D cI cL A) U H) : SF (mkG D cI cL A ad ids) U H := ⟨h.1, h.2.1, h.2.2.1, h.2.2.2.1, h.2.2.2.2.1, h.2.2.2.2.2.1, fun _ _ z => nomatch z⟩
theorem cx_ofK {A : Nat → Prop} {own : String} {cc : ByteArray} {nL : Nat} {rm : Room} {X : PX} {k z : Nat} {ad : Nat → Nat → Nat} {ids : List (Nat × Nat)} (K : KX D cI cL A own cc nL rm X) (hG : GOK (mkG D cI cL A ad ids)) : CX false (mkG D cI cL A ad ids) own cc nL none rm (bump X k z) :=
  ⟨K.1, K.2.1, K.2.2.1, K.2.2.2.1, K.2.2.2.2.1, K.2.2.2.2.2.1, K.2.2.2.2.2.2.1, (fun h => nomatch h), K.2.2.2.2.2.2.2.1, K.2.2.2.2.2.2.2.2.1, hG, sf_ad K.2.2.2.2.2.2.2.2.2.2⟩
theorem n_toGW {A : Nat → Prop} {nL : Nat} {X : PX} {Q : State → Prop} {k z pc : Nat} {ws : va_W} {ls : List (Nat × Value)} {st : List Value} (ad : Nat → Nat → Nat) (ids : List (Nat × Nat)) (M : Mem) (ls' : List (Nat × AV)) (st' : List AV) (hws : ws = wl (mkG D cI cL A ad ids) M) (hls : ls'.map (cq (mkG D cI cL A ad ids)) = ls) (hst : st'.map (cv (mkG D cI cL A ad ids)) = st) (o1 : ∀ q ∈ ls', okv (mkG D cI cL A ad ids) q.2) (o2 : ∀ v ∈ st', okv (mkG D cI cL A ad ids) v) (kk : GW (mkG D cI cL A ad ids) (bump X k z) nL Q pc ls' st' M) : NW D A X nL Q k z pc ls st ws := fun H locs la hP hD hS h => by
  subst hws
  subst hst
  exact kk o1 o2 H locs la ⟨hP, hD⟩ hS (by rw [show (fun q : Nat × AV => (q.1, cv (mkG D cI cL A ad ids) q.2)) = cq (mkG D cI cL A ad ids) from rfl, hls]; exact h)
theorem g_endI {A : Nat → Prop} {own : String} {cc : ByteArray} {nL : Nat} {rm : Room} {X : PX} {k z pc : Nat} {ls : List (Nat × AV)} {ad : Nat → Nat → Nat} {ids : List (Nat × Nat)} {M : Mem} (C : CX false (mkG D cI cL A ad ids) own cc nL none rm (bump X k z)) {w1 : List Nat → va_W} {nu mc ms : Nat} (u : List Nat) (hu : u.length = nu) (hw : wl (mkG D cI cL A ad ids) M = w1 u) (hk : k ≤ mc) (hz : z ≤ ms) (hd : decode cc pc = .ok (.return_, 1)) : GW (mkG D cI cL A ad ids) (bump X k z) nL (QI D A X w1 nu mc ms) pc ls [] M := fun _ _ H locs la w s _ =>
  W.widen hk hz (W.vret C.1 C.2.1 C.2.2.2.2.2.2.1 (fun t ht _ => ⟨u, hu, rfl, by rw [ht, ← hw]; exact w.1, by rw [← hw]; exact w.2, s.F ht⟩) s.2.2 hd C.2.2.2.2.2.1)
/-- which objects there are, for a world that a program lists -/
def closedB (ids : List (Nat × Nat)) : Bool := ids.all (fun q => (decide (q.1 < 11) || q.1 == 20 || q.1 == 21 || q.1 == 22 || q.1 == 23) && (fk q.1).all (fun f => match f with | .inl _ => true | .inr (t, b, s) => ids.contains (t, rk b s q.2)))
theorem gok_of {G : GE} (h : closedB (gids G) = true) : GOK G := by
  intro q hq
  have h1 := List.all_eq_true.mp h q hq
  rw [Bool.and_eq_true] at h1
  obtain ⟨h1, h2⟩ := h1
  refine ⟨?_, fun i t b s hf => ?_⟩
  · simp only [Bool.or_eq_true, decide_eq_true_eq, beq_iff_eq] at h1
    omega
  · have h3 := List.all_eq_true.mp h2 _ (List.mem_of_getElem? hf)
    exact List.contains_iff_mem.mp h3
def ids5 : List (Nat × Nat) := [(5, 0), (3, 4), (21, 4), (8, 20), (20, 20), (8, 21), (20, 21), (8, 22), (20, 22), (8, 23), (20, 23), (3, 5), (21, 5)]
def ad5 (h0 : Nat) (u : List Nat) : Nat → Nat → Nat := fun t k => match t with | 3 => [0, 0, 0, 0, (u.getD 0 0), (u.getD 10 0)].getD k 0 | 5 => [h0].getD k 0 | 8 => [0, 0, 0, 0, 0, 0, 0, 0, 0, 0, 0, 0, 0, 0, 0, 0, 0, 0, 0, 0, (u.getD 2 0), (u.getD 4 0), (u.getD 6 0), (u.getD 8 0)].getD k 0 | 20 => [0, 0, 0, 0, 0, 0, 0, 0, 0, 0, 0, 0, 0, 0, 0, 0, 0, 0, 0, 0, (u.getD 3 0), (u.getD 5 0), (u.getD 7 0), (u.getD 9 0)].getD k 0 | 21 => [0, 0, 0, 0, (u.getD 1 0), (u.getD 11 0)].getD k 0 | _ => 0
def wX5 (D : va_G) (cI cL : ClassId) (h0 : Nat) (u : List Nat) : va_W := wl (mkG D cI cL (fun _ => True) (ad5 h0 u) ids5) MF
theorem cl5 : closedB ids5 = true := by decide +kernel
set_option maxHeartbeats 4000000 in
set_option maxRecDepth 100000 in
theorem c_X5_init (l : Launch) (hl : l.stackTraces = false) (h0 : Nat) (fu : Nat) (hfill : f_X8_fill fu 22 (-1 : Int32) MZ = some MF) : CTI l D cI cL yX5_init cX5_init 1 2 12 7274 h0 [] (.inr (5, [.int 0, .int 0, .int 0, .int 0, .int 0, .int 0, .null, .null, .null, .null, .null, .null])) (wX5 D cI cL h0) 12 := by
  refine cti_of [(0, .ref h0)] (by decide +kernel) rfl hl (show 1 ≤ 1 by decide) rfl (fun A X hX K hA => ?_)
  subst hX
  refine n_aload K 0 dX5_init_0 rfl rfl ?_
  refine n_obj K ko_X5_3 ko_1 ko_2 (Nat.le_of_ble_eq_true rfl) (Nat.le_of_ble_eq_true rfl) dX5_init_1 ?_
  refine n_aload K 0 dX5_init_4 rfl rfl ?_
  refine n_iconst (v := 0) K dX5_init_5 rfl ?_
  refine n_puti K 0 (t := 5) (i := 0) (by decide) rfl (by decide) kp_X5_9 rfl rfl rfl (show 0 < 12 by decide) dX5_init_6 ?_
  show NW _ _ _ _ _ _ _ _ _ _ ([(h0, .inr (5, [.int 0, .int 0, .int 0, .int 0, .int 0, .int 0, .null, .null, .null, .null, .null, .null]))])
  refine n_aload K 0 dX5_init_9 rfl rfl ?_
  refine n_iconst (v := 0) K dX5_init_10 rfl ?_
  refine n_puti K 0 (t := 5) (i := 1) (by decide) rfl (by decide) kp_X5_15 rfl rfl rfl (show 1 < 12 by decide) dX5_init_11 ?_
  show NW _ _ _ _ _ _ _ _ _ _ ([(h0, .inr (5, [.int 0, .int 0, .int 0, .int 0, .int 0, .int 0, .null, .null, .null, .null, .null, .null]))])
  refine n_aload K 0 dX5_init_14 rfl rfl ?_
  refine n_iconst (v := 0) K dX5_init_15 rfl ?_
  refine n_puti K 0 (t := 5) (i := 2) (by decide) rfl (by decide) kp_X5_18 rfl rfl rfl (show 2 < 12 by decide) dX5_init_16 ?_
  show NW _ _ _ _ _ _ _ _ _ _ ([(h0, .inr (5, [.int 0, .int 0, .int 0, .int 0, .int 0, .int 0, .null, .null, .null, .null, .null, .null]))])
  refine n_aload K 0 dX5_init_19 rfl rfl ?_
  refine n_iconst (v := 0) K dX5_init_20 rfl ?_
  refine n_puti K 0 (t := 5) (i := 3) (by decide) rfl (by decide) kp_X5_22 rfl rfl rfl (show 3 < 12 by decide) dX5_init_21 ?_
  show NW _ _ _ _ _ _ _ _ _ _ ([(h0, .inr (5, [.int 0, .int 0, .int 0, .int 0, .int 0, .int 0, .null, .null, .null, .null, .null, .null]))])
  refine n_aload K 0 dX5_init_24 rfl rfl ?_
  refine n_iconst (v := 0) K dX5_init_25 rfl ?_
  refine n_puti K 0 (t := 5) (i := 4) (by decide) rfl (by decide) kp_X5_25 rfl rfl rfl (show 4 < 12 by decide) dX5_init_26 ?_
  show NW _ _ _ _ _ _ _ _ _ _ ([(h0, .inr (5, [.int 0, .int 0, .int 0, .int 0, .int 0, .int 0, .null, .null, .null, .null, .null, .null]))])
  refine n_aload K 0 dX5_init_29 rfl rfl ?_
  refine n_iconst (v := 0) K dX5_init_30 rfl ?_
  refine n_puti K 0 (t := 5) (i := 5) (by decide) rfl (by decide) kp_X5_28 rfl rfl rfl (show 5 < 12 by decide) dX5_init_31 ?_
  show NW _ _ _ _ _ _ _ _ _ _ ([(h0, .inr (5, [.int 0, .int 0, .int 0, .int 0, .int 0, .int 0, .null, .null, .null, .null, .null, .null]))])
  refine n_aload K 0 dX5_init_34 rfl rfl ?_
  refine n_new (t := 3) (fs := [.int 0, .int 0, .null]) K (by decide) kc_X5_c31 ki_3 kj_3 (by decide) (Nat.le_of_ble_eq_true rfl) (Nat.le_of_ble_eq_true rfl) dX5_init_35 (fun q35 => ?_)
  refine n_dup K dX5_init_38 ?_
  refine n_sipush (v := 300) K dX5_init_39 rfl ?_
  refine n_bipush (v := 20) K dX5_init_42 rfl ?_
  refine n_call (as := [.int 300, .int 20]) K false li_X5_33 (c_X3_init X.2.1 hl q35 300 20 (by decide) (by decide) (by decide)) rfl (Nat.le_of_ble_eq_true rfl) ⟨Nat.le_of_ble_eq_true rfl, Nat.le_of_ble_eq_true rfl⟩ ⟨Nat.le_of_ble_eq_true rfl, Nat.le_of_ble_eq_true rfl⟩ rfl dX5_init_44 (fun u44 hu44 => ?_)
  refine n_putF K 0 (t := 5) (i := 6) (by decide) rfl (by decide) kp_X5_36 rfl rfl rfl rfl (show 6 < 12 by decide) dX5_init_47 ?_
  show NW _ _ _ _ _ _ _ _ _ _ ([(h0, .inr (5, [.int 0, .int 0, .int 0, .int 0, .int 0, .int 0, .ref q35, .null, .null, .null, .null, .null]))] ++ wX3 cI 300 20 q35 u44)
  refine n_aload K 0 dX5_init_50 rfl rfl ?_
  refine n_new (t := 8) (fs := [.null]) K (by decide) kc_X5_c40 ki_8 kj_8 (by decide) (Nat.le_of_ble_eq_true rfl) (Nat.le_of_ble_eq_true rfl) dX5_init_51 (fun q51 => ?_)
  refine n_dup K dX5_init_54 ?_
  refine n_sipush (v := 300) K dX5_init_55 rfl ?_
  refine n_call (as := [.int 300]) K false li_X5_42 (c_X8_init X.2.1 hl q51 300 (by decide) (by decide)) rfl (Nat.le_of_ble_eq_true rfl) ⟨Nat.le_of_ble_eq_true rfl, Nat.le_of_ble_eq_true rfl⟩ ⟨Nat.le_of_ble_eq_true rfl, Nat.le_of_ble_eq_true rfl⟩ rfl dX5_init_58 (fun u58 hu58 => ?_)
  refine n_putF K 0 (t := 5) (i := 7) (by decide) rfl (by decide) kp_X5_45 rfl rfl rfl rfl (show 7 < 12 by decide) dX5_init_61 ?_
  show NW _ _ _ _ _ _ _ _ _ _ ([(h0, .inr (5, [.int 0, .int 0, .int 0, .int 0, .int 0, .int 0, .ref q35, .ref q51, .null, .null, .null, .null]))] ++ wX3 cI 300 20 q35 u44 ++ wX8 cI 300 q51 u58)
  refine n_aload K 0 dX5_init_64 rfl rfl ?_
  refine n_new (t := 8) (fs := [.null]) K (by decide) kc_X5_c40 ki_8 kj_8 (by decide) (Nat.le_of_ble_eq_true rfl) (Nat.le_of_ble_eq_true rfl) dX5_init_65 (fun q65 => ?_)
  refine n_dup K dX5_init_68 ?_
  refine n_sipush (v := 300) K dX5_init_69 rfl ?_
  refine n_call (as := [.int 300]) K false li_X5_42 (c_X8_init X.2.1 hl q65 300 (by decide) (by decide)) rfl (Nat.le_of_ble_eq_true rfl) ⟨Nat.le_of_ble_eq_true rfl, Nat.le_of_ble_eq_true rfl⟩ ⟨Nat.le_of_ble_eq_true rfl, Nat.le_of_ble_eq_true rfl⟩ rfl dX5_init_72 (fun u72 hu72 => ?_)
  refine n_putF K 0 (t := 5) (i := 8) (by decide) rfl (by decide) kp_X5_49 rfl rfl rfl rfl (show 8 < 12 by decide) dX5_init_75 ?_
  show NW _ _ _ _ _ _ _ _ _ _ ([(h0, .inr (5, [.int 0, .int 0, .int 0, .int 0, .int 0, .int 0, .ref q35, .ref q51, .ref q65, .null, .null, .null]))] ++ wX3 cI 300 20 q35 u44 ++ wX8 cI 300 q51 u58 ++ wX8 cI 300 q65 u72)
  refine n_aload K 0 dX5_init_78 rfl rfl ?_
  refine n_new (t := 8) (fs := [.null]) K (by decide) kc_X5_c40 ki_8 kj_8 (by decide) (Nat.le_of_ble_eq_true rfl) (Nat.le_of_ble_eq_true rfl) dX5_init_79 (fun q79 => ?_)
  refine n_dup K dX5_init_82 ?_
  refine n_sipush (v := 300) K dX5_init_83 rfl ?_
  refine n_call (as := [.int 300]) K false li_X5_42 (c_X8_init X.2.1 hl q79 300 (by decide) (by decide)) rfl (Nat.le_of_ble_eq_true rfl) ⟨Nat.le_of_ble_eq_true rfl, Nat.le_of_ble_eq_true rfl⟩ ⟨Nat.le_of_ble_eq_true rfl, Nat.le_of_ble_eq_true rfl⟩ rfl dX5_init_86 (fun u86 hu86 => ?_)
  refine n_putF K 0 (t := 5) (i := 9) (by decide) rfl (by decide) kp_X5_52 rfl rfl rfl rfl (show 9 < 12 by decide) dX5_init_89 ?_
  show NW _ _ _ _ _ _ _ _ _ _ ([(h0, .inr (5, [.int 0, .int 0, .int 0, .int 0, .int 0, .int 0, .ref q35, .ref q51, .ref q65, .ref q79, .null, .null]))] ++ wX3 cI 300 20 q35 u44 ++ wX8 cI 300 q51 u58 ++ wX8 cI 300 q65 u72 ++ wX8 cI 300 q79 u86)
  refine n_aload K 0 dX5_init_92 rfl rfl ?_
  refine n_new (t := 8) (fs := [.null]) K (by decide) kc_X5_c40 ki_8 kj_8 (by decide) (Nat.le_of_ble_eq_true rfl) (Nat.le_of_ble_eq_true rfl) dX5_init_93 (fun q93 => ?_)
  refine n_dup K dX5_init_96 ?_
  refine n_sipush (v := 300) K dX5_init_97 rfl ?_
  refine n_call (as := [.int 300]) K false li_X5_42 (c_X8_init X.2.1 hl q93 300 (by decide) (by decide)) rfl (Nat.le_of_ble_eq_true rfl) ⟨Nat.le_of_ble_eq_true rfl, Nat.le_of_ble_eq_true rfl⟩ ⟨Nat.le_of_ble_eq_true rfl, Nat.le_of_ble_eq_true rfl⟩ rfl dX5_init_100 (fun u100 hu100 => ?_)
  refine n_putF K 0 (t := 5) (i := 10) (by decide) rfl (by decide) kp_X5_55 rfl rfl rfl rfl (show 10 < 12 by decide) dX5_init_103 ?_
  show NW _ _ _ _ _ _ _ _ _ _ ([(h0, .inr (5, [.int 0, .int 0, .int 0, .int 0, .int 0, .int 0, .ref q35, .ref q51, .ref q65, .ref q79, .ref q93, .null]))] ++ wX3 cI 300 20 q35 u44 ++ wX8 cI 300 q51 u58 ++ wX8 cI 300 q65 u72 ++ wX8 cI 300 q79 u86 ++ wX8 cI 300 q93 u100)
  refine n_aload K 0 dX5_init_106 rfl rfl ?_
  refine n_new (t := 3) (fs := [.int 0, .int 0, .null]) K (by decide) kc_X5_c31 ki_3 kj_3 (by decide) (Nat.le_of_ble_eq_true rfl) (Nat.le_of_ble_eq_true rfl) dX5_init_107 (fun q107 => ?_)
  refine n_dup K dX5_init_110 ?_
  refine n_bipush (v := 8) K dX5_init_111 rfl ?_
  refine n_bipush (v := 8) K dX5_init_113 rfl ?_
  refine n_call (as := [.int 8, .int 8]) K false li_X5_33 (c_X3_init X.2.1 hl q107 8 8 (by decide) (by decide) (by decide)) rfl (Nat.le_of_ble_eq_true rfl) ⟨Nat.le_of_ble_eq_true rfl, Nat.le_of_ble_eq_true rfl⟩ ⟨Nat.le_of_ble_eq_true rfl, Nat.le_of_ble_eq_true rfl⟩ rfl dX5_init_115 (fun u115 hu115 => ?_)
  refine n_putF K 0 (t := 5) (i := 11) (by decide) rfl (by decide) kp_X5_58 rfl rfl rfl rfl (show 11 < 12 by decide) dX5_init_118 ?_
  show NW _ _ _ _ _ _ _ _ _ _ ([(h0, .inr (5, [.int 0, .int 0, .int 0, .int 0, .int 0, .int 0, .ref q35, .ref q51, .ref q65, .ref q79, .ref q93, .ref q107]))] ++ wX3 cI 300 20 q35 u44 ++ wX8 cI 300 q51 u58 ++ wX8 cI 300 q65 u72 ++ wX8 cI 300 q79 u86 ++ wX8 cI 300 q93 u100 ++ wX3 cI 8 8 q107 u115)
  refine n_toGW (cI := cI) (cL := cL) (ad5 h0 [q35, u44.getD 0 0, q51, u58.getD 0 0, q65, u72.getD 0 0, q79, u86.getD 0 0, q93, u100.getD 0 0, q107, u115.getD 0 0]) ids5 MZ [(0, vR 5 0)] [] rfl rfl rfl (fun q hq => by cases List.mem_singleton.mp hq; exact Or.inl (by decide +kernel : (5, 0) ∈ ids5)) (fun _ h => nomatch h) ?_
  have hG : GOK (mkG D cI cL A (ad5 h0 [q35, u44.getD 0 0, q51, u58.getD 0 0, q65, u72.getD 0 0, q79, u86.getD 0 0, q93, u100.getD 0 0, q107, u115.getD 0 0]) ids5) := gok_of cl5
  have C := cx_ofK (cL := cL) (k := 12) (z := 7274) K hG
  have hk0 : (5, 0) ∈ gids (mkG D cI cL A (ad5 h0 [q35, u44.getD 0 0, q51, u58.getD 0 0, q65, u72.getD 0 0, q79, u86.getD 0 0, q93, u100.getD 0 0, q107, u115.getD 0 0]) ids5) := (by decide +kernel : (5, 0) ∈ ids5)
  refine g_aload_n C 0 dX5_init_121 rfl rfl ?_
  refine g_getr (k := 0) (k' := 22) C (by decide) kp_X5_52 rfl rfl dX5_init_122 ?_
  refine g_iconst (v := -1) C dX5_init_125 rfl ?_
  refine g_callVv_k (As := [vI (-1 : Int32)]) (rest := []) C li_X5_61 (k_X8_fill X.2.1 _ hl hG fu 22 (-1 : Int32) MZ MF ((hG _ hk0).2 9 8 22 0 rfl) hfill) (by decide) rfl rfl rfl (Nat.le_of_ble_eq_true rfl) ⟨Nat.le_of_ble_eq_true rfl, Nat.le_of_ble_eq_true rfl⟩ ⟨Nat.le_of_ble_eq_true rfl, Nat.le_of_ble_eq_true rfl⟩ dX5_init_126 ?_
  exact g_endI C [q35, u44.getD 0 0, q51, u58.getD 0 0, q65, u72.getD 0 0, q79, u86.getD 0 0, q93, u100.getD 0 0, q107, u115.getD 0 0] rfl rfl (Nat.le_of_ble_eq_true rfl) (Nat.le_of_ble_eq_true rfl) dX5_init_129
def ids9 : List (Nat × Nat) := [(9, 0), (2, 0), (8, 0), (20, 0), (8, 1), (20, 1), (8, 2), (20, 2), (0, 0), (8, 6), (20, 6), (8, 7), (20, 7), (3, 0), (21, 0), (8, 8), (20, 8), (6, 0), (8, 16), (20, 16), (8, 17), (20, 17), (8, 18), (20, 18), (3, 2), (21, 2), (8, 19), (20, 19), (3, 3), (21, 3), (5, 0), (3, 4), (21, 4), (8, 20), (20, 20), (8, 21), (20, 21), (8, 22), (20, 22), (8, 23), (20, 23), (3, 5), (21, 5), (1, 0), (8, 12), (20, 12), (8, 13), (20, 13), (1, 1), (8, 14), (20, 14), (8, 15), (20, 15), (4, 0), (8, 24), (20, 24), (7, 0), (2, 1), (8, 3), (20, 3), (8, 4), (20, 4), (8, 5), (20, 5), (0, 1), (8, 9), (20, 9), (8, 10), (20, 10), (3, 1), (21, 1), (8, 11), (20, 11)]
def ad9 (h0 : Nat) (u : List Nat) : Nat → Nat → Nat := fun t k => match t with | 0 => [(u.getD 7 0), (u.getD 63 0)].getD k 0 | 1 => [(u.getD 42 0), (u.getD 47 0)].getD k 0 | 2 => [(u.getD 0 0), (u.getD 56 0)].getD k 0 | 3 => [(u.getD 12 0), (u.getD 68 0), (u.getD 23 0), (u.getD 27 0), (u.getD 30 0), (u.getD 40 0)].getD k 0 | 4 => [(u.getD 52 0)].getD k 0 | 5 => [(u.getD 29 0)].getD k 0 | 6 => [(u.getD 16 0)].getD k 0 | 7 => [(u.getD 55 0)].getD k 0 | 8 => [(u.getD 1 0), (u.getD 3 0), (u.getD 5 0), (u.getD 57 0), (u.getD 59 0), (u.getD 61 0), (u.getD 8 0), (u.getD 10 0), (u.getD 14 0), (u.getD 64 0), (u.getD 66 0), (u.getD 70 0), (u.getD 43 0), (u.getD 45 0), (u.getD 48 0), (u.getD 50 0), (u.getD 17 0), (u.getD 19 0), (u.getD 21 0), (u.getD 25 0), (u.getD 32 0), (u.getD 34 0), (u.getD 36 0), (u.getD 38 0), (u.getD 53 0)].getD k 0 | 9 => [h0].getD k 0 | 20 => [(u.getD 2 0), (u.getD 4 0), (u.getD 6 0), (u.getD 58 0), (u.getD 60 0), (u.getD 62 0), (u.getD 9 0), (u.getD 11 0), (u.getD 15 0), (u.getD 65 0), (u.getD 67 0), (u.getD 71 0), (u.getD 44 0), (u.getD 46 0), (u.getD 49 0), (u.getD 51 0), (u.getD 18 0), (u.getD 20 0), (u.getD 22 0), (u.getD 26 0), (u.getD 33 0), (u.getD 35 0), (u.getD 37 0), (u.getD 39 0), (u.getD 54 0)].getD k 0 | 21 => [(u.getD 13 0), (u.getD 69 0), (u.getD 24 0), (u.getD 28 0), (u.getD 31 0), (u.getD 41 0)].getD k 0 | _ => 0
def wX9 (D : va_G) (cI cL : ClassId) (Md : Mem) (h0 : Nat) (u : List Nat) : va_W := wl (mkG D cI cL (fun _ => True) (ad9 h0 u) ids9) Md
theorem cl9 : closedB ids9 = true := by decide +kernel
set_option maxHeartbeats 4000000 in
set_option maxRecDepth 100000 in
theorem c_X9_init (l : Launch) (hl : l.stackTraces = false) (h0 : Nat) (fu : Nat) (hfill : f_X8_fill fu 22 (-1 : Int32) MZ = some MF) (Mb Mc Md : Mem) (hb : f_X2_clear fu 0 (2 : Int32) MF = some Mb) (hc : f_X1_clear fu 0 Mb = some Mc) (hd : f_X9_graphChanged fu Mc = some Md) : CTI l D cI cL yX9_init cX9_init 1 5 72 15414 h0 [] (.inr (9, [.null, .null, .null, .null, .null, .null, .null, .null])) (wX9 D cI cL Md h0) 72 := by
  refine cti_of [(0, .ref h0)] (by decide +kernel) rfl hl (show 1 ≤ 1 by decide) rfl (fun A X hX K hA => ?_)
  subst hX
  refine n_aload K 0 dX9_init_0 rfl rfl ?_
  refine n_obj K ko_X9_3 ko_1 ko_2 (Nat.le_of_ble_eq_true rfl) (Nat.le_of_ble_eq_true rfl) dX9_init_1 ?_
  refine n_aload K 0 dX9_init_4 rfl rfl ?_
  refine n_new (t := 2) (fs := [.int 0, .int 0, .null, .null, .null]) K (by decide) kc_X9_c9 ki_2 kj_2 (by decide) (Nat.le_of_ble_eq_true rfl) (Nat.le_of_ble_eq_true rfl) dX9_init_5 (fun q5 => ?_)
  refine n_dup K dX9_init_8 ?_
  refine n_call (as := []) K true li_X9_11 (c_X2_init X.2.1 hl q5 ) rfl (Nat.le_of_ble_eq_true rfl) ⟨Nat.le_of_ble_eq_true rfl, Nat.le_of_ble_eq_true rfl⟩ ⟨Nat.le_of_ble_eq_true rfl, Nat.le_of_ble_eq_true rfl⟩ rfl dX9_init_9 (fun u9 hu9 => ?_)
  refine n_putF K 0 (t := 9) (i := 0) (by decide) rfl (by decide) kp_X9_12 rfl rfl rfl rfl (show 0 < 8 by decide) dX9_init_12 ?_
  show NW _ _ _ _ _ _ _ _ _ _ ([(h0, .inr (9, [.ref q5, .null, .null, .null, .null, .null, .null, .null]))] ++ wX2 cI q5 u9)
  refine n_aload K 0 dX9_init_15 rfl rfl ?_
  refine n_new (t := 0) (fs := [.int 0, .null, .null, .null, .null]) K (by decide) kc_X9_c16 ki_0 kj_0 (by decide) (Nat.le_of_ble_eq_true rfl) (Nat.le_of_ble_eq_true rfl) dX9_init_16 (fun q16 => ?_)
  refine n_dup K dX9_init_19 ?_
  refine n_call (as := []) K true li_X9_18 (c_X0_init X.2.1 hl q16 ) rfl (Nat.le_of_ble_eq_true rfl) ⟨Nat.le_of_ble_eq_true rfl, Nat.le_of_ble_eq_true rfl⟩ ⟨Nat.le_of_ble_eq_true rfl, Nat.le_of_ble_eq_true rfl⟩ rfl dX9_init_20 (fun u20 hu20 => ?_)
  refine n_putF K 0 (t := 9) (i := 1) (by decide) rfl (by decide) kp_X9_19 rfl rfl rfl rfl (show 1 < 8 by decide) dX9_init_23 ?_
  show NW _ _ _ _ _ _ _ _ _ _ ([(h0, .inr (9, [.ref q5, .ref q16, .null, .null, .null, .null, .null, .null]))] ++ wX2 cI q5 u9 ++ wX0 cI q16 u20)
  refine n_aload K 0 dX9_init_26 rfl rfl ?_
  refine n_new (t := 6) (fs := [.int 0, .null, .null, .null, .null, .null, .null]) K (by decide) kc_X9_c23 ki_6 kj_6 (by decide) (Nat.le_of_ble_eq_true rfl) (Nat.le_of_ble_eq_true rfl) dX9_init_27 (fun q27 => ?_)
  refine n_dup K dX9_init_30 ?_
  refine n_call (as := []) K true li_X9_25 (c_X6_init X.2.1 hl q27 ) rfl (Nat.le_of_ble_eq_true rfl) ⟨Nat.le_of_ble_eq_true rfl, Nat.le_of_ble_eq_true rfl⟩ ⟨Nat.le_of_ble_eq_true rfl, Nat.le_of_ble_eq_true rfl⟩ rfl dX9_init_31 (fun u31 hu31 => ?_)
  refine n_putF K 0 (t := 9) (i := 2) (by decide) rfl (by decide) kp_X9_26 rfl rfl rfl rfl (show 2 < 8 by decide) dX9_init_34 ?_
  show NW _ _ _ _ _ _ _ _ _ _ ([(h0, .inr (9, [.ref q5, .ref q16, .ref q27, .null, .null, .null, .null, .null]))] ++ wX2 cI q5 u9 ++ wX0 cI q16 u20 ++ wX6 cI q27 u31)
  refine n_aload K 0 dX9_init_37 rfl rfl ?_
  refine n_new (t := 5) (fs := [.int 0, .int 0, .int 0, .int 0, .int 0, .int 0, .null, .null, .null, .null, .null, .null]) K (by decide) kc_X9_c30 ki_5 kj_5 (by decide) (Nat.le_of_ble_eq_true rfl) (Nat.le_of_ble_eq_true rfl) dX9_init_38 (fun q38 => ?_)
  refine n_dup K dX9_init_41 ?_
  refine n_call (as := []) K false li_X9_32 (c_X5_init X.2.1 hl q38 fu hfill) rfl (Nat.le_of_ble_eq_true rfl) ⟨Nat.le_of_ble_eq_true rfl, Nat.le_of_ble_eq_true rfl⟩ ⟨Nat.le_of_ble_eq_true rfl, Nat.le_of_ble_eq_true rfl⟩ rfl dX9_init_42 (fun u42 hu42 => ?_)
  refine n_putF K 0 (t := 9) (i := 3) (by decide) rfl (by decide) kp_X9_33 rfl rfl rfl rfl (show 3 < 8 by decide) dX9_init_45 ?_
  show NW _ _ _ _ _ _ _ _ _ _ ([(h0, .inr (9, [.ref q5, .ref q16, .ref q27, .ref q38, .null, .null, .null, .null]))] ++ wX2 cI q5 u9 ++ wX0 cI q16 u20 ++ wX6 cI q27 u31 ++ wX5 D cI cL q38 u42)
  refine n_aload K 0 dX9_init_48 rfl rfl ?_
  refine n_new (t := 1) (fs := [.null, .null]) K (by decide) kc_X9_c37 ki_1 kj_1 (by decide) (Nat.le_of_ble_eq_true rfl) (Nat.le_of_ble_eq_true rfl) dX9_init_49 (fun q49 => ?_)
  refine n_dup K dX9_init_52 ?_
  refine n_call (as := []) K true li_X9_39 (c_X1_init X.2.1 hl q49 ) rfl (Nat.le_of_ble_eq_true rfl) ⟨Nat.le_of_ble_eq_true rfl, Nat.le_of_ble_eq_true rfl⟩ ⟨Nat.le_of_ble_eq_true rfl, Nat.le_of_ble_eq_true rfl⟩ rfl dX9_init_53 (fun u53 hu53 => ?_)
  refine n_putF K 0 (t := 9) (i := 4) (by decide) rfl (by decide) kp_X9_40 rfl rfl rfl rfl (show 4 < 8 by decide) dX9_init_56 ?_
  show NW _ _ _ _ _ _ _ _ _ _ ([(h0, .inr (9, [.ref q5, .ref q16, .ref q27, .ref q38, .ref q49, .null, .null, .null]))] ++ wX2 cI q5 u9 ++ wX0 cI q16 u20 ++ wX6 cI q27 u31 ++ wX5 D cI cL q38 u42 ++ wX1 cI q49 u53)
  refine n_aload K 0 dX9_init_59 rfl rfl ?_
  refine n_new (t := 1) (fs := [.null, .null]) K (by decide) kc_X9_c37 ki_1 kj_1 (by decide) (Nat.le_of_ble_eq_true rfl) (Nat.le_of_ble_eq_true rfl) dX9_init_60 (fun q60 => ?_)
  refine n_dup K dX9_init_63 ?_
  refine n_call (as := []) K true li_X9_39 (c_X1_init X.2.1 hl q60 ) rfl (Nat.le_of_ble_eq_true rfl) ⟨Nat.le_of_ble_eq_true rfl, Nat.le_of_ble_eq_true rfl⟩ ⟨Nat.le_of_ble_eq_true rfl, Nat.le_of_ble_eq_true rfl⟩ rfl dX9_init_64 (fun u64 hu64 => ?_)
  refine n_putF K 0 (t := 9) (i := 5) (by decide) rfl (by decide) kp_X9_44 rfl rfl rfl rfl (show 5 < 8 by decide) dX9_init_67 ?_
  show NW _ _ _ _ _ _ _ _ _ _ ([(h0, .inr (9, [.ref q5, .ref q16, .ref q27, .ref q38, .ref q49, .ref q60, .null, .null]))] ++ wX2 cI q5 u9 ++ wX0 cI q16 u20 ++ wX6 cI q27 u31 ++ wX5 D cI cL q38 u42 ++ wX1 cI q49 u53 ++ wX1 cI q60 u64)
  refine n_aload K 0 dX9_init_70 rfl rfl ?_
  refine n_new (t := 4) (fs := [.int 0, .null]) K (by decide) kc_X9_c47 ki_4 kj_4 (by decide) (Nat.le_of_ble_eq_true rfl) (Nat.le_of_ble_eq_true rfl) dX9_init_71 (fun q71 => ?_)
  refine n_dup K dX9_init_74 ?_
  refine n_call (as := []) K true li_X9_49 (c_X4_init X.2.1 hl q71 ) rfl (Nat.le_of_ble_eq_true rfl) ⟨Nat.le_of_ble_eq_true rfl, Nat.le_of_ble_eq_true rfl⟩ ⟨Nat.le_of_ble_eq_true rfl, Nat.le_of_ble_eq_true rfl⟩ rfl dX9_init_75 (fun u75 hu75 => ?_)
  refine n_putF K 0 (t := 9) (i := 6) (by decide) rfl (by decide) kp_X9_50 rfl rfl rfl rfl (show 6 < 8 by decide) dX9_init_78 ?_
  show NW _ _ _ _ _ _ _ _ _ _ ([(h0, .inr (9, [.ref q5, .ref q16, .ref q27, .ref q38, .ref q49, .ref q60, .ref q71, .null]))] ++ wX2 cI q5 u9 ++ wX0 cI q16 u20 ++ wX6 cI q27 u31 ++ wX5 D cI cL q38 u42 ++ wX1 cI q49 u53 ++ wX1 cI q60 u64 ++ wX4 cI q71 u75)
  refine n_aload K 0 dX9_init_81 rfl rfl ?_
  refine n_new (t := 7) (fs := [.null, .null, .int 0, .int 0, .int 0, .int 0]) K (by decide) kc_X9_c54 ki_7 kj_7 (by decide) (Nat.le_of_ble_eq_true rfl) (Nat.le_of_ble_eq_true rfl) dX9_init_82 (fun q82 => ?_)
  refine n_dup K dX9_init_85 ?_
  refine n_call (as := []) K true li_X9_56 (c_X7_init X.2.1 hl q82 ) rfl (Nat.le_of_ble_eq_true rfl) ⟨Nat.le_of_ble_eq_true rfl, Nat.le_of_ble_eq_true rfl⟩ ⟨Nat.le_of_ble_eq_true rfl, Nat.le_of_ble_eq_true rfl⟩ rfl dX9_init_86 (fun u86 hu86 => ?_)
  refine n_putF K 0 (t := 9) (i := 7) (by decide) rfl (by decide) kp_X9_57 rfl rfl rfl rfl (show 7 < 8 by decide) dX9_init_89 ?_
  show NW _ _ _ _ _ _ _ _ _ _ ([(h0, .inr (9, [.ref q5, .ref q16, .ref q27, .ref q38, .ref q49, .ref q60, .ref q71, .ref q82]))] ++ wX2 cI q5 u9 ++ wX0 cI q16 u20 ++ wX6 cI q27 u31 ++ wX5 D cI cL q38 u42 ++ wX1 cI q49 u53 ++ wX1 cI q60 u64 ++ wX4 cI q71 u75 ++ wX7 cI q82 u86)
  obtain ⟨uu, huu⟩ : ∃ uu : List Nat, uu = [q5, u9.getD 0 0, u9.getD 1 0, u9.getD 2 0, u9.getD 3 0, u9.getD 4 0, u9.getD 5 0, q16, u20.getD 0 0, u20.getD 1 0, u20.getD 2 0, u20.getD 3 0, u20.getD 4 0, u20.getD 5 0, u20.getD 6 0, u20.getD 7 0, q27, u31.getD 0 0, u31.getD 1 0, u31.getD 2 0, u31.getD 3 0, u31.getD 4 0, u31.getD 5 0, u31.getD 6 0, u31.getD 7 0, u31.getD 8 0, u31.getD 9 0, u31.getD 10 0, u31.getD 11 0, q38, u42.getD 0 0, u42.getD 1 0, u42.getD 2 0, u42.getD 3 0, u42.getD 4 0, u42.getD 5 0, u42.getD 6 0, u42.getD 7 0, u42.getD 8 0, u42.getD 9 0, u42.getD 10 0, u42.getD 11 0, q49, u53.getD 0 0, u53.getD 1 0, u53.getD 2 0, u53.getD 3 0, q60, u64.getD 0 0, u64.getD 1 0, u64.getD 2 0, u64.getD 3 0, q71, u75.getD 0 0, u75.getD 1 0, q82, u86.getD 0 0, u86.getD 1 0, u86.getD 2 0, u86.getD 3 0, u86.getD 4 0, u86.getD 5 0, u86.getD 6 0, u86.getD 7 0, u86.getD 8 0, u86.getD 9 0, u86.getD 10 0, u86.getD 11 0, u86.getD 12 0, u86.getD 13 0, u86.getD 14 0, u86.getD 15 0] := ⟨_, rfl⟩
  refine n_toGW (cI := cI) (cL := cL) (ad9 h0 uu) ids9 MF [(0, vR 9 0)] [] (by subst huu; rfl) (by subst huu; rfl) rfl (fun q hq => by cases List.mem_singleton.mp hq; exact Or.inl (by decide +kernel : (9, 0) ∈ ids9)) (fun _ h => nomatch h) ?_
  have hG : GOK (mkG D cI cL A (ad9 h0 uu) ids9) := gok_of cl9
  have C := cx_ofK (cL := cL) (k := 72) (z := 15414) K hG
  have hk0 : (9, 0) ∈ gids (mkG D cI cL A (ad9 h0 uu) ids9) := (by decide +kernel : (9, 0) ∈ ids9)
  refine g_aload_n C 0 dX9_init_92 rfl rfl ?_
  refine g_getr (k := 0) (k' := 0) C (by decide) kp_X9_12 rfl rfl dX9_init_93 ?_
  refine g_iconst (v := 2) C dX9_init_96 rfl ?_
  refine g_callVv_k (As := [vI (2 : Int32)]) (rest := []) C li_X9_61 (k_X2_clear X.2.1 _ hl hG fu 0 (2 : Int32) MF Mb ((hG _ hk0).2 0 2 0 0 rfl) hb) (by decide) rfl rfl rfl (Nat.le_of_ble_eq_true rfl) ⟨Nat.le_of_ble_eq_true rfl, Nat.le_of_ble_eq_true rfl⟩ ⟨Nat.le_of_ble_eq_true rfl, Nat.le_of_ble_eq_true rfl⟩ dX9_init_97 ?_
  refine g_aload_n C 0 dX9_init_100 rfl rfl ?_
  refine g_getr (k := 0) (k' := 0) C (by decide) kp_X9_40 rfl rfl dX9_init_101 ?_
  refine g_callVv_k (As := []) (rest := []) C li_X9_65 (k_X1_clear X.2.1 _ hl hG fu 0 Mb Mc ((hG _ hk0).2 4 1 0 0 rfl) hc) (by decide) rfl rfl rfl (Nat.le_of_ble_eq_true rfl) ⟨Nat.le_of_ble_eq_true rfl, Nat.le_of_ble_eq_true rfl⟩ ⟨Nat.le_of_ble_eq_true rfl, Nat.le_of_ble_eq_true rfl⟩ dX9_init_104 ?_
  refine g_aload_n C 0 dX9_init_107 rfl rfl ?_
  refine g_callVv_k (As := []) (rest := []) C li_X9_67 (k_X9_graphChanged X.2.1 _ hl hG fu Mc Md hk0 hd) (by decide) rfl rfl rfl (Nat.le_of_ble_eq_true rfl) ⟨Nat.le_of_ble_eq_true rfl, Nat.le_of_ble_eq_true rfl⟩ ⟨Nat.le_of_ble_eq_true rfl, Nat.le_of_ble_eq_true rfl⟩ dX9_init_108 ?_
  exact g_endI C uu (by subst huu; rfl) rfl (Nat.le_of_ble_eq_true rfl) (Nat.le_of_ble_eq_true rfl) dX9_init_111
end CTORS2
/-! The claim's room is too small: no state that holds an ArrowDiagrams and an ArrowDiagramsModel in new cells keeps the claim's frame. -/
section ROOM
def esz (e : va_E) : Nat := match e with
  | .inl a => a.2.1
  | .inr _ => 0
theorem sum_set0 : ∀ (L : List Nat) (i v : Nat), L[i]? = some v → L.sum = v + (L.set i 0).sum
  | [], i, v, h => by simp at h
  | a :: r, 0, v, h => by
    simp at h
    subst h
    simp
  | a :: r, i + 1, v, h => by
    have h' : r[i]? = some v := by simpa using h
    have := sum_set0 r i v h'
    simp only [List.set_cons_succ, List.sum_cons]
    omega
theorem sizes_sum (base : Nat) : ∀ (ws : va_W) (L : List Nat), (∀ (j : Nat) (q : Nat × va_E), ws[j]? = some q → ∃ i v, q.1 = base + i ∧ L[i]? = some v ∧ esz q.2 ≤ v) → (∀ (i j : Nat) (p q : Nat × va_E), ws[i]? = some p → ws[j]? = some q → p.1 = q.1 → i = j) → (ws.map (fun q => esz q.2)).sum ≤ L.sum
  | [], L, _, _ => by simp
  | q :: r, L, h, hd => by
    obtain ⟨i, v, h1, h2, h3⟩ := h 0 q rfl
    have ih := sizes_sum base r (L.set i 0) (fun j x hx => by
      obtain ⟨i2, v2, g1, g2, g3⟩ := h (j + 1) x hx
      have hne : i2 ≠ i := fun e => by
        have := hd 0 (j + 1) q x rfl hx (by rw [h1, g1, e])
        omega
      exact ⟨i2, v2, g1, by rw [List.getElem?_set_ne (Ne.symm hne)]; exact g2, g3⟩) (fun a b x y hx hy hxy => by
      have := hd (a + 1) (b + 1) x y hx hy hxy
      omega)
    have := sum_set0 L i v h2
    simp only [List.map_cons, List.sum_cons]
    omega
theorem cell_esz {D : va_G} {q : Nat × va_E} {H : Heap} (h : va_at D vwCl q H) : ∃ c : Cell, H[q.1]? = some c ∧ esz q.2 ≤ c.slots.size := by
  obtain ⟨a, e⟩ := q
  cases e with
  | inl x =>
    refine ⟨_, h, ?_⟩
    show x.2.1 ≤ (vp_cell x.1 x.2).slots.size
    obtain ⟨cA, n, f | f | f | f | f⟩ := x <;> (show n ≤ (arrV _ n _).slots.size; rw [arrV_size]; exact Nat.le_refl _)
  | inr o =>
    obtain ⟨r, h1, cell, h2, -⟩ := h
    exact ⟨cell, h2, Nat.zero_le _⟩
def idsm : List (Nat × Nat) := [(10, 0), (22, 3), (22, 4), (22, 5), (22, 6), (22, 8), (22, 9), (22, 10), (22, 12), (22, 14), (22, 15), (22, 16), (22, 17), (22, 18), (22, 25), (22, 26), (22, 27), (22, 29), (22, 30)]
theorem esz_enc (G : GE) (M : Mem) (t k : Nat) : esz (enc G M t k) = if t < 20 then 0 else alen t k := by
  unfold enc
  by_cases h : t < 20
  · rw [if_pos h, if_pos h]; rfl
  · rw [if_neg h, if_neg h]
    by_cases h2 : t = 23
    · rw [if_pos h2]; rfl
    · rw [if_neg h2]; rfl
end ROOM
/-! the reference's constructor; made by wip/whole/mkctor2.py -/
section CTORS3
variable {D : va_G} {cI cL : ClassId}
def adm (h0 : Nat) (u : List Nat) : Nat → Nat → Nat := fun t k => match t with | 10 => h0 | 22 => [0, 0, 0, (u.getD 0 0), (u.getD 1 0), (u.getD 2 0), (u.getD 3 0), 0, (u.getD 4 0), (u.getD 5 0), (u.getD 6 0), 0, (u.getD 7 0), 0, (u.getD 8 0), (u.getD 9 0), (u.getD 10 0), (u.getD 11 0), (u.getD 12 0), 0, 0, 0, 0, 0, 0, (u.getD 13 0), (u.getD 14 0), (u.getD 15 0), 0, (u.getD 16 0), (u.getD 17 0)].getD k 0 | _ => 0
/-- the reference's memory before its first call: n is 2 -/
def MM : Mem := (fun t _ i => if t = 10 ∧ i = 1 then 2 else 0, fun _ _ _ => 0)
def wX10 (D : va_G) (cI cL : ClassId) (Md : Mem) (h0 : Nat) (u : List Nat) : va_W := wl (mkG D cI cL (fun _ => True) (adm h0 u) idsm) Md
theorem clm : closedB idsm = true := by decide +kernel
theorem n_seg {A : Nat → Prop} {own : String} {cc : ByteArray} {nL : Nat} {rm : Room} {X : PX} {Q : State → Prop} {k z pc : Nat} {ls : List (Nat × Value)} (K : KX D cI cL A own cc nL rm X) {pc1 idx i N h0 : Nat} {n : Int32} {fs : List Value} {r : va_W} (hfl : fs.length = 32) (hj : ls[0]? = some (0, .ref h0)) (hd0 : decode cc pc = .ok (.aload_n 0, 1))
    (push : ∀ (st : List Value) (ws : va_W), NW D A X nL Q k z pc1 ls (.int n :: st) ws → NW D A X nL Q k z (pc + 1) ls st ws) (hn : ¬ n < 0) (hN : n.toNatClampNeg = N) (hb : N * 4 ≤ 536870912) (hc : k + 1 ≤ rm.cells) (hz : z + N ≤ rm.slots) (hd2 : decode cc pc1 = .ok (.newarray .int, 2))
    (hi : i < 32) (hi2 : i < cn 10) (hlk : fLk own idx 10 i) (hfin : (cT 10 i).2.2.2 = true) (hdecl : (cT 10 i).1 = own) (hty : ∀ q, narrow (cty 10 i) (.ref q) = .ref q ∧ fits (cty 10 i) (.ref q) = true) (hd3 : decode cc (pc1 + 2) = .ok (.putfield idx, 3))
    (kk : ∀ (q : Nat) (fs' : List Value) (r' : va_W), fs'.length = 32 → fs' = fs.set i (.ref q) → r' = r ++ [(q, .inl (cI, N, .inl (fun _ => 0)))] → NW D A X nL Q (k + 1) (z + N) (pc1 + 2 + 3) ls [] ((h0, .inr (10, fs')) :: r')) : NW D A X nL Q k z pc ls [] ((h0, .inr (10, fs)) :: r) := by
  refine n_aload K 0 hd0 rfl hj ?_
  refine push _ _ ?_
  refine n_newi (N := N) K ko_3 hn hN hb hc hz hd2 (fun q => ?_)
  refine n_putF (t := 10) (i := i) (a := h0) (fs := fs) K 0 (by decide) rfl hi2 hlk hfin hdecl (hty q).1 (hty q).2 (by rw [hfl]; exact hi) hd3 ?_
  exact kk q _ _ (by rw [List.length_set]; exact hfl) rfl rfl
set_option maxHeartbeats 4000000 in
set_option maxRecDepth 100000 in
theorem c_X10_init (l : Launch) (hl : l.stackTraces = false) (h0 : Nat) (fu : Nat) (Md : Mem) (hd : f_X10_fresh fu (2 : Int32) MM = some Md) : CTI l D cI cL yX10_init cX10_init 1 4 18 8446 h0 [] (.inr (10, [.int 0, .int 0, .int 0, .null, .null, .null, .null, .int 0, .null, .null, .null, .int 0, .null, .int 0, .null, .null, .null, .null, .null, .int 0, .int 0, .int 0, .int 0, .int 0, .int 0, .null, .null, .null, .int 0, .null, .null, .long 0])) (wX10 D cI cL Md h0) 18 := by
  refine cti_of [(0, .ref h0)] (by decide +kernel) rfl hl (show 1 ≤ 1 by decide) rfl (fun A X hX K hA => ?_)
  subst hX
  refine n_aload K 0 dX10_init_0 rfl rfl ?_
  refine n_obj K ko_X10_1 ko_1 ko_2 (Nat.le_of_ble_eq_true rfl) (Nat.le_of_ble_eq_true rfl) dX10_init_1 ?_
  refine n_aload K 0 dX10_init_4 rfl rfl ?_
  refine n_iconst (v := 2) K dX10_init_5 rfl ?_
  refine n_puti K 0 (t := 10) (i := 1) (by decide) rfl (by decide) kp_X10_7 rfl rfl rfl (show 1 < 32 by decide) dX10_init_6 ?_
  show NW _ _ _ _ _ _ _ _ _ _ ((h0, .inr (10, [.int 0, .int 2, .int 0, .null, .null, .null, .null, .int 0, .null, .null, .null, .int 0, .null, .int 0, .null, .null, .null, .null, .null, .int 0, .int 0, .int 0, .int 0, .int 0, .int 0, .null, .null, .null, .int 0, .null, .null, .long 0])) :: [])
  obtain ⟨fs0, E0⟩ : ∃ fs0 : List Value, fs0 = [.int 0, .int 2, .int 0, .null, .null, .null, .null, .int 0, .null, .null, .null, .int 0, .null, .int 0, .null, .null, .null, .null, .null, .int 0, .int 0, .int 0, .int 0, .int 0, .int 0, .null, .null, .null, .int 0, .null, .null, .long 0] := ⟨_, rfl⟩
  rw [← E0]
  have l0 : fs0.length = 32 := by rw [E0]; rfl
  refine n_seg (pc1 := 12) (i := 3) (N := 14) (n := 14) K l0 rfl dX10_init_9 (fun st ws h => n_bipush (v := 14) K dX10_init_10 rfl h) (by decide) (by decide) (by decide) (Nat.le_of_ble_eq_true rfl) (Nat.le_of_ble_eq_true rfl) dX10_init_12 (by decide) (by decide) kp_X10_13 rfl rfl (fun _ => ⟨rfl, rfl⟩) dX10_init_14 (fun q12 fs12 r12 l12 e12 g12 => ?_)
  have E12 : fs12 = [.int 0, .int 2, .int 0, .ref q12, .null, .null, .null, .int 0, .null, .null, .null, .int 0, .null, .int 0, .null, .null, .null, .null, .null, .int 0, .int 0, .int 0, .int 0, .int 0, .int 0, .null, .null, .null, .int 0, .null, .null, .long 0] := by rw [e12, E0]; rfl
  have G12 : r12 = [(q12, .inl (cI, 14, .inl (fun _ => 0)))] := g12
  refine n_seg (pc1 := 20) (i := 4) (N := 14) (n := 14) K l12 rfl dX10_init_17 (fun st ws h => n_bipush (v := 14) K dX10_init_18 rfl h) (by decide) (by decide) (by decide) (Nat.le_of_ble_eq_true rfl) (Nat.le_of_ble_eq_true rfl) dX10_init_20 (by decide) (by decide) kp_X10_17 rfl rfl (fun _ => ⟨rfl, rfl⟩) dX10_init_22 (fun q20 fs20 r20 l20 e20 g20 => ?_)
  have E20 : fs20 = [.int 0, .int 2, .int 0, .ref q12, .ref q20, .null, .null, .int 0, .null, .null, .null, .int 0, .null, .int 0, .null, .null, .null, .null, .null, .int 0, .int 0, .int 0, .int 0, .int 0, .int 0, .null, .null, .null, .int 0, .null, .null, .long 0] := by rw [e20, E12]; rfl
  have G20 : r20 = [(q12, .inl (cI, 14, .inl (fun _ => 0))), (q20, .inl (cI, 14, .inl (fun _ => 0)))] := by rw [g20, G12]; rfl
  refine n_seg (pc1 := 28) (i := 5) (N := 14) (n := 14) K l20 rfl dX10_init_25 (fun st ws h => n_bipush (v := 14) K dX10_init_26 rfl h) (by decide) (by decide) (by decide) (Nat.le_of_ble_eq_true rfl) (Nat.le_of_ble_eq_true rfl) dX10_init_28 (by decide) (by decide) kp_X10_20 rfl rfl (fun _ => ⟨rfl, rfl⟩) dX10_init_30 (fun q28 fs28 r28 l28 e28 g28 => ?_)
  have E28 : fs28 = [.int 0, .int 2, .int 0, .ref q12, .ref q20, .ref q28, .null, .int 0, .null, .null, .null, .int 0, .null, .int 0, .null, .null, .null, .null, .null, .int 0, .int 0, .int 0, .int 0, .int 0, .int 0, .null, .null, .null, .int 0, .null, .null, .long 0] := by rw [e28, E20]; rfl
  have G28 : r28 = [(q12, .inl (cI, 14, .inl (fun _ => 0))), (q20, .inl (cI, 14, .inl (fun _ => 0))), (q28, .inl (cI, 14, .inl (fun _ => 0)))] := by rw [g28, G20]; rfl
  refine n_seg (pc1 := 36) (i := 6) (N := 8) (n := 8) K l28 rfl dX10_init_33 (fun st ws h => n_bipush (v := 8) K dX10_init_34 rfl h) (by decide) (by decide) (by decide) (Nat.le_of_ble_eq_true rfl) (Nat.le_of_ble_eq_true rfl) dX10_init_36 (by decide) (by decide) kp_X10_23 rfl rfl (fun _ => ⟨rfl, rfl⟩) dX10_init_38 (fun q36 fs36 r36 l36 e36 g36 => ?_)
  have E36 : fs36 = [.int 0, .int 2, .int 0, .ref q12, .ref q20, .ref q28, .ref q36, .int 0, .null, .null, .null, .int 0, .null, .int 0, .null, .null, .null, .null, .null, .int 0, .int 0, .int 0, .int 0, .int 0, .int 0, .null, .null, .null, .int 0, .null, .null, .long 0] := by rw [e36, E28]; rfl
  have G36 : r36 = [(q12, .inl (cI, 14, .inl (fun _ => 0))), (q20, .inl (cI, 14, .inl (fun _ => 0))), (q28, .inl (cI, 14, .inl (fun _ => 0))), (q36, .inl (cI, 8, .inl (fun _ => 0)))] := by rw [g36, G28]; rfl
  refine n_seg (pc1 := 44) (i := 8) (N := 11) (n := 11) K l36 rfl dX10_init_41 (fun st ws h => n_bipush (v := 11) K dX10_init_42 rfl h) (by decide) (by decide) (by decide) (Nat.le_of_ble_eq_true rfl) (Nat.le_of_ble_eq_true rfl) dX10_init_44 (by decide) (by decide) kp_X10_26 rfl rfl (fun _ => ⟨rfl, rfl⟩) dX10_init_46 (fun q44 fs44 r44 l44 e44 g44 => ?_)
  have E44 : fs44 = [.int 0, .int 2, .int 0, .ref q12, .ref q20, .ref q28, .ref q36, .int 0, .ref q44, .null, .null, .int 0, .null, .int 0, .null, .null, .null, .null, .null, .int 0, .int 0, .int 0, .int 0, .int 0, .int 0, .null, .null, .null, .int 0, .null, .null, .long 0] := by rw [e44, E36]; rfl
  have G44 : r44 = [(q12, .inl (cI, 14, .inl (fun _ => 0))), (q20, .inl (cI, 14, .inl (fun _ => 0))), (q28, .inl (cI, 14, .inl (fun _ => 0))), (q36, .inl (cI, 8, .inl (fun _ => 0))), (q44, .inl (cI, 11, .inl (fun _ => 0)))] := by rw [g44, G36]; rfl
  refine n_seg (pc1 := 52) (i := 9) (N := 22) (n := 22) K l44 rfl dX10_init_49 (fun st ws h => n_bipush (v := 22) K dX10_init_50 rfl h) (by decide) (by decide) (by decide) (Nat.le_of_ble_eq_true rfl) (Nat.le_of_ble_eq_true rfl) dX10_init_52 (by decide) (by decide) kp_X10_29 rfl rfl (fun _ => ⟨rfl, rfl⟩) dX10_init_54 (fun q52 fs52 r52 l52 e52 g52 => ?_)
  have E52 : fs52 = [.int 0, .int 2, .int 0, .ref q12, .ref q20, .ref q28, .ref q36, .int 0, .ref q44, .ref q52, .null, .int 0, .null, .int 0, .null, .null, .null, .null, .null, .int 0, .int 0, .int 0, .int 0, .int 0, .int 0, .null, .null, .null, .int 0, .null, .null, .long 0] := by rw [e52, E44]; rfl
  have G52 : r52 = [(q12, .inl (cI, 14, .inl (fun _ => 0))), (q20, .inl (cI, 14, .inl (fun _ => 0))), (q28, .inl (cI, 14, .inl (fun _ => 0))), (q36, .inl (cI, 8, .inl (fun _ => 0))), (q44, .inl (cI, 11, .inl (fun _ => 0))), (q52, .inl (cI, 22, .inl (fun _ => 0)))] := by rw [g52, G44]; rfl
  refine n_seg (pc1 := 61) (i := 10) (N := 154) (n := 154) K l52 rfl dX10_init_57 (fun st ws h => n_sipush (v := 154) K dX10_init_58 rfl h) (by decide) (by decide) (by decide) (Nat.le_of_ble_eq_true rfl) (Nat.le_of_ble_eq_true rfl) dX10_init_61 (by decide) (by decide) kp_X10_32 rfl rfl (fun _ => ⟨rfl, rfl⟩) dX10_init_63 (fun q61 fs61 r61 l61 e61 g61 => ?_)
  have E61 : fs61 = [.int 0, .int 2, .int 0, .ref q12, .ref q20, .ref q28, .ref q36, .int 0, .ref q44, .ref q52, .ref q61, .int 0, .null, .int 0, .null, .null, .null, .null, .null, .int 0, .int 0, .int 0, .int 0, .int 0, .int 0, .null, .null, .null, .int 0, .null, .null, .long 0] := by rw [e61, E52]; rfl
  have G61 : r61 = [(q12, .inl (cI, 14, .inl (fun _ => 0))), (q20, .inl (cI, 14, .inl (fun _ => 0))), (q28, .inl (cI, 14, .inl (fun _ => 0))), (q36, .inl (cI, 8, .inl (fun _ => 0))), (q44, .inl (cI, 11, .inl (fun _ => 0))), (q52, .inl (cI, 22, .inl (fun _ => 0))), (q61, .inl (cI, 154, .inl (fun _ => 0)))] := by rw [g61, G52]; rfl
  refine n_seg (pc1 := 69) (i := 12) (N := 60) (n := 60) K l61 rfl dX10_init_66 (fun st ws h => n_bipush (v := 60) K dX10_init_67 rfl h) (by decide) (by decide) (by decide) (Nat.le_of_ble_eq_true rfl) (Nat.le_of_ble_eq_true rfl) dX10_init_69 (by decide) (by decide) kp_X10_35 rfl rfl (fun _ => ⟨rfl, rfl⟩) dX10_init_71 (fun q69 fs69 r69 l69 e69 g69 => ?_)
  have E69 : fs69 = [.int 0, .int 2, .int 0, .ref q12, .ref q20, .ref q28, .ref q36, .int 0, .ref q44, .ref q52, .ref q61, .int 0, .ref q69, .int 0, .null, .null, .null, .null, .null, .int 0, .int 0, .int 0, .int 0, .int 0, .int 0, .null, .null, .null, .int 0, .null, .null, .long 0] := by rw [e69, E61]; rfl
  have G69 : r69 = [(q12, .inl (cI, 14, .inl (fun _ => 0))), (q20, .inl (cI, 14, .inl (fun _ => 0))), (q28, .inl (cI, 14, .inl (fun _ => 0))), (q36, .inl (cI, 8, .inl (fun _ => 0))), (q44, .inl (cI, 11, .inl (fun _ => 0))), (q52, .inl (cI, 22, .inl (fun _ => 0))), (q61, .inl (cI, 154, .inl (fun _ => 0))), (q69, .inl (cI, 60, .inl (fun _ => 0)))] := by rw [g69, G61]; rfl
  refine n_seg (pc1 := 78) (i := 14) (N := 301) (n := 301) K l69 rfl dX10_init_74 (fun st ws h => n_sipush (v := 301) K dX10_init_75 rfl h) (by decide) (by decide) (by decide) (Nat.le_of_ble_eq_true rfl) (Nat.le_of_ble_eq_true rfl) dX10_init_78 (by decide) (by decide) kp_X10_38 rfl rfl (fun _ => ⟨rfl, rfl⟩) dX10_init_80 (fun q78 fs78 r78 l78 e78 g78 => ?_)
  have E78 : fs78 = [.int 0, .int 2, .int 0, .ref q12, .ref q20, .ref q28, .ref q36, .int 0, .ref q44, .ref q52, .ref q61, .int 0, .ref q69, .int 0, .ref q78, .null, .null, .null, .null, .int 0, .int 0, .int 0, .int 0, .int 0, .int 0, .null, .null, .null, .int 0, .null, .null, .long 0] := by rw [e78, E69]; rfl
  have G78 : r78 = [(q12, .inl (cI, 14, .inl (fun _ => 0))), (q20, .inl (cI, 14, .inl (fun _ => 0))), (q28, .inl (cI, 14, .inl (fun _ => 0))), (q36, .inl (cI, 8, .inl (fun _ => 0))), (q44, .inl (cI, 11, .inl (fun _ => 0))), (q52, .inl (cI, 22, .inl (fun _ => 0))), (q61, .inl (cI, 154, .inl (fun _ => 0))), (q69, .inl (cI, 60, .inl (fun _ => 0))), (q78, .inl (cI, 301, .inl (fun _ => 0)))] := by rw [g78, G69]; rfl
  refine n_seg (pc1 := 87) (i := 15) (N := 301) (n := 301) K l78 rfl dX10_init_83 (fun st ws h => n_sipush (v := 301) K dX10_init_84 rfl h) (by decide) (by decide) (by decide) (Nat.le_of_ble_eq_true rfl) (Nat.le_of_ble_eq_true rfl) dX10_init_87 (by decide) (by decide) kp_X10_41 rfl rfl (fun _ => ⟨rfl, rfl⟩) dX10_init_89 (fun q87 fs87 r87 l87 e87 g87 => ?_)
  have E87 : fs87 = [.int 0, .int 2, .int 0, .ref q12, .ref q20, .ref q28, .ref q36, .int 0, .ref q44, .ref q52, .ref q61, .int 0, .ref q69, .int 0, .ref q78, .ref q87, .null, .null, .null, .int 0, .int 0, .int 0, .int 0, .int 0, .int 0, .null, .null, .null, .int 0, .null, .null, .long 0] := by rw [e87, E78]; rfl
  have G87 : r87 = [(q12, .inl (cI, 14, .inl (fun _ => 0))), (q20, .inl (cI, 14, .inl (fun _ => 0))), (q28, .inl (cI, 14, .inl (fun _ => 0))), (q36, .inl (cI, 8, .inl (fun _ => 0))), (q44, .inl (cI, 11, .inl (fun _ => 0))), (q52, .inl (cI, 22, .inl (fun _ => 0))), (q61, .inl (cI, 154, .inl (fun _ => 0))), (q69, .inl (cI, 60, .inl (fun _ => 0))), (q78, .inl (cI, 301, .inl (fun _ => 0))), (q87, .inl (cI, 301, .inl (fun _ => 0)))] := by rw [g87, G78]; rfl
  refine n_seg (pc1 := 96) (i := 16) (N := 301) (n := 301) K l87 rfl dX10_init_92 (fun st ws h => n_sipush (v := 301) K dX10_init_93 rfl h) (by decide) (by decide) (by decide) (Nat.le_of_ble_eq_true rfl) (Nat.le_of_ble_eq_true rfl) dX10_init_96 (by decide) (by decide) kp_X10_44 rfl rfl (fun _ => ⟨rfl, rfl⟩) dX10_init_98 (fun q96 fs96 r96 l96 e96 g96 => ?_)
  have E96 : fs96 = [.int 0, .int 2, .int 0, .ref q12, .ref q20, .ref q28, .ref q36, .int 0, .ref q44, .ref q52, .ref q61, .int 0, .ref q69, .int 0, .ref q78, .ref q87, .ref q96, .null, .null, .int 0, .int 0, .int 0, .int 0, .int 0, .int 0, .null, .null, .null, .int 0, .null, .null, .long 0] := by rw [e96, E87]; rfl
  have G96 : r96 = [(q12, .inl (cI, 14, .inl (fun _ => 0))), (q20, .inl (cI, 14, .inl (fun _ => 0))), (q28, .inl (cI, 14, .inl (fun _ => 0))), (q36, .inl (cI, 8, .inl (fun _ => 0))), (q44, .inl (cI, 11, .inl (fun _ => 0))), (q52, .inl (cI, 22, .inl (fun _ => 0))), (q61, .inl (cI, 154, .inl (fun _ => 0))), (q69, .inl (cI, 60, .inl (fun _ => 0))), (q78, .inl (cI, 301, .inl (fun _ => 0))), (q87, .inl (cI, 301, .inl (fun _ => 0))), (q96, .inl (cI, 301, .inl (fun _ => 0)))] := by rw [g96, G87]; rfl
  refine n_seg (pc1 := 105) (i := 17) (N := 2107) (n := 2107) K l96 rfl dX10_init_101 (fun st ws h => n_sipush (v := 2107) K dX10_init_102 rfl h) (by decide) (by decide) (by decide) (Nat.le_of_ble_eq_true rfl) (Nat.le_of_ble_eq_true rfl) dX10_init_105 (by decide) (by decide) kp_X10_47 rfl rfl (fun _ => ⟨rfl, rfl⟩) dX10_init_107 (fun q105 fs105 r105 l105 e105 g105 => ?_)
  have E105 : fs105 = [.int 0, .int 2, .int 0, .ref q12, .ref q20, .ref q28, .ref q36, .int 0, .ref q44, .ref q52, .ref q61, .int 0, .ref q69, .int 0, .ref q78, .ref q87, .ref q96, .ref q105, .null, .int 0, .int 0, .int 0, .int 0, .int 0, .int 0, .null, .null, .null, .int 0, .null, .null, .long 0] := by rw [e105, E96]; rfl
  have G105 : r105 = [(q12, .inl (cI, 14, .inl (fun _ => 0))), (q20, .inl (cI, 14, .inl (fun _ => 0))), (q28, .inl (cI, 14, .inl (fun _ => 0))), (q36, .inl (cI, 8, .inl (fun _ => 0))), (q44, .inl (cI, 11, .inl (fun _ => 0))), (q52, .inl (cI, 22, .inl (fun _ => 0))), (q61, .inl (cI, 154, .inl (fun _ => 0))), (q69, .inl (cI, 60, .inl (fun _ => 0))), (q78, .inl (cI, 301, .inl (fun _ => 0))), (q87, .inl (cI, 301, .inl (fun _ => 0))), (q96, .inl (cI, 301, .inl (fun _ => 0))), (q105, .inl (cI, 2107, .inl (fun _ => 0)))] := by rw [g105, G96]; rfl
  refine n_seg (pc1 := 114) (i := 18) (N := 4214) (n := 4214) K l105 rfl dX10_init_110 (fun st ws h => n_sipush (v := 4214) K dX10_init_111 rfl h) (by decide) (by decide) (by decide) (Nat.le_of_ble_eq_true rfl) (Nat.le_of_ble_eq_true rfl) dX10_init_114 (by decide) (by decide) kp_X10_50 rfl rfl (fun _ => ⟨rfl, rfl⟩) dX10_init_116 (fun q114 fs114 r114 l114 e114 g114 => ?_)
  have E114 : fs114 = [.int 0, .int 2, .int 0, .ref q12, .ref q20, .ref q28, .ref q36, .int 0, .ref q44, .ref q52, .ref q61, .int 0, .ref q69, .int 0, .ref q78, .ref q87, .ref q96, .ref q105, .ref q114, .int 0, .int 0, .int 0, .int 0, .int 0, .int 0, .null, .null, .null, .int 0, .null, .null, .long 0] := by rw [e114, E105]; rfl
  have G114 : r114 = [(q12, .inl (cI, 14, .inl (fun _ => 0))), (q20, .inl (cI, 14, .inl (fun _ => 0))), (q28, .inl (cI, 14, .inl (fun _ => 0))), (q36, .inl (cI, 8, .inl (fun _ => 0))), (q44, .inl (cI, 11, .inl (fun _ => 0))), (q52, .inl (cI, 22, .inl (fun _ => 0))), (q61, .inl (cI, 154, .inl (fun _ => 0))), (q69, .inl (cI, 60, .inl (fun _ => 0))), (q78, .inl (cI, 301, .inl (fun _ => 0))), (q87, .inl (cI, 301, .inl (fun _ => 0))), (q96, .inl (cI, 301, .inl (fun _ => 0))), (q105, .inl (cI, 2107, .inl (fun _ => 0))), (q114, .inl (cI, 4214, .inl (fun _ => 0)))] := by rw [g114, G105]; rfl
  refine n_seg (pc1 := 123) (i := 25) (N := 301) (n := 301) K l114 rfl dX10_init_119 (fun st ws h => n_sipush (v := 301) K dX10_init_120 rfl h) (by decide) (by decide) (by decide) (Nat.le_of_ble_eq_true rfl) (Nat.le_of_ble_eq_true rfl) dX10_init_123 (by decide) (by decide) kp_X10_53 rfl rfl (fun _ => ⟨rfl, rfl⟩) dX10_init_125 (fun q123 fs123 r123 l123 e123 g123 => ?_)
  have E123 : fs123 = [.int 0, .int 2, .int 0, .ref q12, .ref q20, .ref q28, .ref q36, .int 0, .ref q44, .ref q52, .ref q61, .int 0, .ref q69, .int 0, .ref q78, .ref q87, .ref q96, .ref q105, .ref q114, .int 0, .int 0, .int 0, .int 0, .int 0, .int 0, .ref q123, .null, .null, .int 0, .null, .null, .long 0] := by rw [e123, E114]; rfl
  have G123 : r123 = [(q12, .inl (cI, 14, .inl (fun _ => 0))), (q20, .inl (cI, 14, .inl (fun _ => 0))), (q28, .inl (cI, 14, .inl (fun _ => 0))), (q36, .inl (cI, 8, .inl (fun _ => 0))), (q44, .inl (cI, 11, .inl (fun _ => 0))), (q52, .inl (cI, 22, .inl (fun _ => 0))), (q61, .inl (cI, 154, .inl (fun _ => 0))), (q69, .inl (cI, 60, .inl (fun _ => 0))), (q78, .inl (cI, 301, .inl (fun _ => 0))), (q87, .inl (cI, 301, .inl (fun _ => 0))), (q96, .inl (cI, 301, .inl (fun _ => 0))), (q105, .inl (cI, 2107, .inl (fun _ => 0))), (q114, .inl (cI, 4214, .inl (fun _ => 0))), (q123, .inl (cI, 301, .inl (fun _ => 0)))] := by rw [g123, G114]; rfl
  refine n_seg (pc1 := 132) (i := 26) (N := 301) (n := 301) K l123 rfl dX10_init_128 (fun st ws h => n_sipush (v := 301) K dX10_init_129 rfl h) (by decide) (by decide) (by decide) (Nat.le_of_ble_eq_true rfl) (Nat.le_of_ble_eq_true rfl) dX10_init_132 (by decide) (by decide) kp_X10_56 rfl rfl (fun _ => ⟨rfl, rfl⟩) dX10_init_134 (fun q132 fs132 r132 l132 e132 g132 => ?_)
  have E132 : fs132 = [.int 0, .int 2, .int 0, .ref q12, .ref q20, .ref q28, .ref q36, .int 0, .ref q44, .ref q52, .ref q61, .int 0, .ref q69, .int 0, .ref q78, .ref q87, .ref q96, .ref q105, .ref q114, .int 0, .int 0, .int 0, .int 0, .int 0, .int 0, .ref q123, .ref q132, .null, .int 0, .null, .null, .long 0] := by rw [e132, E123]; rfl
  have G132 : r132 = [(q12, .inl (cI, 14, .inl (fun _ => 0))), (q20, .inl (cI, 14, .inl (fun _ => 0))), (q28, .inl (cI, 14, .inl (fun _ => 0))), (q36, .inl (cI, 8, .inl (fun _ => 0))), (q44, .inl (cI, 11, .inl (fun _ => 0))), (q52, .inl (cI, 22, .inl (fun _ => 0))), (q61, .inl (cI, 154, .inl (fun _ => 0))), (q69, .inl (cI, 60, .inl (fun _ => 0))), (q78, .inl (cI, 301, .inl (fun _ => 0))), (q87, .inl (cI, 301, .inl (fun _ => 0))), (q96, .inl (cI, 301, .inl (fun _ => 0))), (q105, .inl (cI, 2107, .inl (fun _ => 0))), (q114, .inl (cI, 4214, .inl (fun _ => 0))), (q123, .inl (cI, 301, .inl (fun _ => 0))), (q132, .inl (cI, 301, .inl (fun _ => 0)))] := by rw [g132, G123]; rfl
  refine n_seg (pc1 := 141) (i := 27) (N := 301) (n := 301) K l132 rfl dX10_init_137 (fun st ws h => n_sipush (v := 301) K dX10_init_138 rfl h) (by decide) (by decide) (by decide) (Nat.le_of_ble_eq_true rfl) (Nat.le_of_ble_eq_true rfl) dX10_init_141 (by decide) (by decide) kp_X10_59 rfl rfl (fun _ => ⟨rfl, rfl⟩) dX10_init_143 (fun q141 fs141 r141 l141 e141 g141 => ?_)
  have E141 : fs141 = [.int 0, .int 2, .int 0, .ref q12, .ref q20, .ref q28, .ref q36, .int 0, .ref q44, .ref q52, .ref q61, .int 0, .ref q69, .int 0, .ref q78, .ref q87, .ref q96, .ref q105, .ref q114, .int 0, .int 0, .int 0, .int 0, .int 0, .int 0, .ref q123, .ref q132, .ref q141, .int 0, .null, .null, .long 0] := by rw [e141, E132]; rfl
  have G141 : r141 = [(q12, .inl (cI, 14, .inl (fun _ => 0))), (q20, .inl (cI, 14, .inl (fun _ => 0))), (q28, .inl (cI, 14, .inl (fun _ => 0))), (q36, .inl (cI, 8, .inl (fun _ => 0))), (q44, .inl (cI, 11, .inl (fun _ => 0))), (q52, .inl (cI, 22, .inl (fun _ => 0))), (q61, .inl (cI, 154, .inl (fun _ => 0))), (q69, .inl (cI, 60, .inl (fun _ => 0))), (q78, .inl (cI, 301, .inl (fun _ => 0))), (q87, .inl (cI, 301, .inl (fun _ => 0))), (q96, .inl (cI, 301, .inl (fun _ => 0))), (q105, .inl (cI, 2107, .inl (fun _ => 0))), (q114, .inl (cI, 4214, .inl (fun _ => 0))), (q123, .inl (cI, 301, .inl (fun _ => 0))), (q132, .inl (cI, 301, .inl (fun _ => 0))), (q141, .inl (cI, 301, .inl (fun _ => 0)))] := by rw [g141, G132]; rfl
  refine n_seg (pc1 := 149) (i := 29) (N := 14) (n := 14) K l141 rfl dX10_init_146 (fun st ws h => n_bipush (v := 14) K dX10_init_147 rfl h) (by decide) (by decide) (by decide) (Nat.le_of_ble_eq_true rfl) (Nat.le_of_ble_eq_true rfl) dX10_init_149 (by decide) (by decide) kp_X10_62 rfl rfl (fun _ => ⟨rfl, rfl⟩) dX10_init_151 (fun q149 fs149 r149 l149 e149 g149 => ?_)
  have E149 : fs149 = [.int 0, .int 2, .int 0, .ref q12, .ref q20, .ref q28, .ref q36, .int 0, .ref q44, .ref q52, .ref q61, .int 0, .ref q69, .int 0, .ref q78, .ref q87, .ref q96, .ref q105, .ref q114, .int 0, .int 0, .int 0, .int 0, .int 0, .int 0, .ref q123, .ref q132, .ref q141, .int 0, .ref q149, .null, .long 0] := by rw [e149, E141]; rfl
  have G149 : r149 = [(q12, .inl (cI, 14, .inl (fun _ => 0))), (q20, .inl (cI, 14, .inl (fun _ => 0))), (q28, .inl (cI, 14, .inl (fun _ => 0))), (q36, .inl (cI, 8, .inl (fun _ => 0))), (q44, .inl (cI, 11, .inl (fun _ => 0))), (q52, .inl (cI, 22, .inl (fun _ => 0))), (q61, .inl (cI, 154, .inl (fun _ => 0))), (q69, .inl (cI, 60, .inl (fun _ => 0))), (q78, .inl (cI, 301, .inl (fun _ => 0))), (q87, .inl (cI, 301, .inl (fun _ => 0))), (q96, .inl (cI, 301, .inl (fun _ => 0))), (q105, .inl (cI, 2107, .inl (fun _ => 0))), (q114, .inl (cI, 4214, .inl (fun _ => 0))), (q123, .inl (cI, 301, .inl (fun _ => 0))), (q132, .inl (cI, 301, .inl (fun _ => 0))), (q141, .inl (cI, 301, .inl (fun _ => 0))), (q149, .inl (cI, 14, .inl (fun _ => 0)))] := by rw [g149, G141]; rfl
  refine n_seg (pc1 := 157) (i := 30) (N := 8) (n := 8) K l149 rfl dX10_init_154 (fun st ws h => n_bipush (v := 8) K dX10_init_155 rfl h) (by decide) (by decide) (by decide) (Nat.le_of_ble_eq_true rfl) (Nat.le_of_ble_eq_true rfl) dX10_init_157 (by decide) (by decide) kp_X10_65 rfl rfl (fun _ => ⟨rfl, rfl⟩) dX10_init_159 (fun q157 fs157 r157 l157 e157 g157 => ?_)
  have E157 : fs157 = [.int 0, .int 2, .int 0, .ref q12, .ref q20, .ref q28, .ref q36, .int 0, .ref q44, .ref q52, .ref q61, .int 0, .ref q69, .int 0, .ref q78, .ref q87, .ref q96, .ref q105, .ref q114, .int 0, .int 0, .int 0, .int 0, .int 0, .int 0, .ref q123, .ref q132, .ref q141, .int 0, .ref q149, .ref q157, .long 0] := by rw [e157, E149]; rfl
  have G157 : r157 = [(q12, .inl (cI, 14, .inl (fun _ => 0))), (q20, .inl (cI, 14, .inl (fun _ => 0))), (q28, .inl (cI, 14, .inl (fun _ => 0))), (q36, .inl (cI, 8, .inl (fun _ => 0))), (q44, .inl (cI, 11, .inl (fun _ => 0))), (q52, .inl (cI, 22, .inl (fun _ => 0))), (q61, .inl (cI, 154, .inl (fun _ => 0))), (q69, .inl (cI, 60, .inl (fun _ => 0))), (q78, .inl (cI, 301, .inl (fun _ => 0))), (q87, .inl (cI, 301, .inl (fun _ => 0))), (q96, .inl (cI, 301, .inl (fun _ => 0))), (q105, .inl (cI, 2107, .inl (fun _ => 0))), (q114, .inl (cI, 4214, .inl (fun _ => 0))), (q123, .inl (cI, 301, .inl (fun _ => 0))), (q132, .inl (cI, 301, .inl (fun _ => 0))), (q141, .inl (cI, 301, .inl (fun _ => 0))), (q149, .inl (cI, 14, .inl (fun _ => 0))), (q157, .inl (cI, 8, .inl (fun _ => 0)))] := by rw [g157, G149]; rfl
  rw [E157, G157]
  obtain ⟨uu, huu⟩ : ∃ uu : List Nat, uu = [q12, q20, q28, q36, q44, q52, q61, q69, q78, q87, q96, q105, q114, q123, q132, q141, q149, q157] := ⟨_, rfl⟩
  refine n_toGW (cI := cI) (cL := cL) (adm h0 uu) idsm MM [(0, vR 10 0)] [] (by subst huu; rfl) (by subst huu; rfl) rfl (fun q hq => by cases List.mem_singleton.mp hq; exact Or.inl (by decide +kernel : (10, 0) ∈ idsm)) (fun _ h => nomatch h) ?_
  have hG : GOK (mkG D cI cL A (adm h0 uu) idsm) := gok_of clm
  have C := cx_ofK (cL := cL) (k := 18) (z := 8446) K hG
  have hk0 : (10, 0) ∈ gids (mkG D cI cL A (adm h0 uu) idsm) := (by decide +kernel : (10, 0) ∈ idsm)
  refine g_aload_n C 0 dX10_init_162 rfl rfl ?_
  refine g_iconst (v := 2) C dX10_init_163 rfl ?_
  refine g_callVv_k (As := [vI (2 : Int32)]) (rest := []) C li_X10_68 (k_X10_fresh X.2.1 _ hl hG fu (2 : Int32) MM Md hk0 hd) (by decide) rfl rfl rfl (Nat.le_of_ble_eq_true rfl) ⟨Nat.le_of_ble_eq_true rfl, Nat.le_of_ble_eq_true rfl⟩ ⟨Nat.le_of_ble_eq_true rfl, Nat.le_of_ble_eq_true rfl⟩ dX10_init_164 ?_
  exact g_endI C uu (by subst huu; rfl) rfl (Nat.le_of_ble_eq_true rfl) (Nat.le_of_ble_eq_true rfl) dX10_init_167
end CTORS3

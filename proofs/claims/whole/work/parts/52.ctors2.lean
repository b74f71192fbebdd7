/-! constructors that call methods; made by wip/whole/mkctor2.py -/
section CTORS2
variable {D : va_G} {cI cL : ClassId}
def grw (k : Nat) : Int32 := [nI 20, nI 20, nI 300, nI 300, nI 300, nI 8].getD k 0
def gcl (k : Nat) : Int32 := [nI 7, nI 7, nI 7, nI 14, nI 20, nI 8].getD k 0
/-- the memory behind the bare constructors -/
def MZ : Mem := (fun t k i => if t = 3 then (if i = 0 then grw k else if i = 1 then gcl k else 0) else 0, fun _ _ _ => 0)
/-- the same, the distances filled -/
def MF : Mem := (fun t k i => if t = 3 then (if i = 0 then grw k else if i = 1 then gcl k else 0) else if t = 20 ∧ k = 22 then (if i < 300 then -1 else 0) else 0, fun _ _ _ => 0)
abbrev mkG (D : va_G) (cI cL : ClassId) (A : Nat → Prop) (ad : Nat → Nat → Nat) (ids : List (Nat × Nat)) : GE := (D, cI, cL, ad, ids, A, none)
theorem sf_ad {ad : Nat → Nat → Nat} {ids : List (Nat × Nat)} {A : Nat → Prop} {U : State} {H : Heap} (h : SF (G0 D cI cL A) U H) : SF (mkG D cI cL A ad ids) U H := ⟨h.1, h.2.1, h.2.2.1, h.2.2.2.1, h.2.2.2.2.1, h.2.2.2.2.2.1, fun _ _ z => nomatch z⟩
theorem cx_ofK {A : Nat → Prop} {own : String} {cc : ByteArray} {nL : Nat} {rm : Room} {X : PX} {k z : Nat} {ad : Nat → Nat → Nat} {ids : List (Nat × Nat)} (K : KX D cI cL A own cc nL rm X) (hG : GOK (mkG D cI cL A ad ids)) : CX false (mkG D cI cL A ad ids) own cc nL none rm (bump X k z) :=
  ⟨K.1, K.2.1, K.2.2.1, K.2.2.2.1, K.2.2.2.2.1, K.2.2.2.2.2.1, K.2.2.2.2.2.2.1, (fun h => nomatch h), K.2.2.2.2.2.2.2.1, K.2.2.2.2.2.2.2.2.1, hG, sf_ad K.2.2.2.2.2.2.2.2.2.2⟩
theorem n_toGW {A : Nat → Prop} {nL : Nat} {X : PX} {Q : State → Prop} {k z pc : Nat} {ws : va_W} {ls : List (Nat × Value)} {st : List Value} (ad : Nat → Nat → Nat) (ids : List (Nat × Nat)) (M : Mem) (ls' : List (Nat × AV)) (st' : List AV) (hws : ws = wl (mkG D cI cL A ad ids) M) (hls : ls'.map (cq (mkG D cI cL A ad ids)) = ls) (hst : st'.map (cv (mkG D cI cL A ad ids)) = st) (o1 : ∀ q ∈ ls', okv (mkG D cI cL A ad ids) q.2) (o2 : ∀ v ∈ st', okv (mkG D cI cL A ad ids) v) (kk : GW (mkG D cI cL A ad ids) (bump X k z) nL Q pc ls' st' M) : NW D A X nL Q k z pc ls st ws := fun H locs la hP hD hS h => by
  subst hws
  subst hst
  exact kk o1 o2 H locs la ⟨hP, hD⟩ hS (by rw [show (fun q : Nat × AV => (q.1, cv (mkG D cI cL A ad ids) q.2)) = cq (mkG D cI cL A ad ids) from rfl, hls]; exact h)
theorem g_endI {A : Nat → Prop} {own : String} {cc : ByteArray} {nL : Nat} {rm : Room} {X : PX} {k z pc : Nat} {ls : List (Nat × AV)} {ad : Nat → Nat → Nat} {ids : List (Nat × Nat)} {M : Mem} (C : CX false (mkG D cI cL A ad ids) own cc nL none rm (bump X k z)) {w1 : List Nat → va_W} {nu mc ms : Nat} (u : List Nat) (hu : u.length = nu) (hw : wl (mkG D cI cL A ad ids) M = w1 u) (hk : k ≤ mc) (hz : z ≤ ms) (hd : decode cc pc = .ok (.return_, 1)) : GW (mkG D cI cL A ad ids) (bump X k z) nL (QI D A X w1 nu mc ms) pc ls [] M := fun _ _ H locs la w s _ =>
  W.widen hk hz (W.vret C.1 C.2.1 C.2.2.2.2.2.2.1 (fun t ht _ => ⟨u, hu, rfl, by rw [ht, ← hw]; exact w.1, by rw [← hw]; exact w.2, s.F ht⟩) s.2.2 hd C.2.2.2.2.2.1)
/-- which objects there are, for a world that a program lists -/
def closedB (ids : List (Nat × Nat)) : Bool := ids.all (fun q => (decide (q.1 < 11) || q.1 == 20 || q.1 == 21 || q.1 == 22 || q.1 == 23) && (fk q.1).all (fun f => match f with | .inl _ => true | .inr (t, b, s) => ids.contains (t, rk b s q.2)))
theorem gok_of {G : GE} (h : closedB (gids G) = true) : GOK G := by
  intro q hq
  have h1 := List.all_eq_true.mp h q hq
  rw [Bool.and_eq_true] at h1
  obtain ⟨h1, h2⟩ := h1
  refine ⟨?_, fun i t b s hf => ?_⟩
  · simp only [Bool.or_eq_true, decide_eq_true_eq, beq_iff_eq] at h1
    omega
  · have h3 := List.all_eq_true.mp h2 _ (List.mem_of_getElem? hf)
    exact List.contains_iff_mem.mp h3
def ids5 : List (Nat × Nat) := [(5, 0), (3, 4), (21, 4), (8, 20), (20, 20), (8, 21), (20, 21), (8, 22), (20, 22), (8, 23), (20, 23), (3, 5), (21, 5)]
def ad5 (h0 : Nat) (u : List Nat) : Nat → Nat → Nat := fun t k => match t with | 3 => [0, 0, 0, 0, (u.getD 0 0), (u.getD 10 0)].getD k 0 | 5 => [h0].getD k 0 | 8 => [0, 0, 0, 0, 0, 0, 0, 0, 0, 0, 0, 0, 0, 0, 0, 0, 0, 0, 0, 0, (u.getD 2 0), (u.getD 4 0), (u.getD 6 0), (u.getD 8 0)].getD k 0 | 20 => [0, 0, 0, 0, 0, 0, 0, 0, 0, 0, 0, 0, 0, 0, 0, 0, 0, 0, 0, 0, (u.getD 3 0), (u.getD 5 0), (u.getD 7 0), (u.getD 9 0)].getD k 0 | 21 => [0, 0, 0, 0, (u.getD 1 0), (u.getD 11 0)].getD k 0 | _ => 0
def wX5 (D : va_G) (cI cL : ClassId) (h0 : Nat) (u : List Nat) : va_W := wl (mkG D cI cL (fun _ => True) (ad5 h0 u) ids5) MF
theorem cl5 : closedB ids5 = true := by decide +kernel
set_option maxHeartbeats 4000000 in
set_option maxRecDepth 100000 in
theorem c_X5_init (l : Launch) (hl : l.stackTraces = false) (h0 : Nat) (fu : Nat) (hfill : f_X8_fill fu 22 (-1 : Int32) MZ = some MF) : CTI l D cI cL yX5_init cX5_init 1 2 12 7274 h0 [] (.inr (5, [.int 0, .int 0, .int 0, .int 0, .int 0, .int 0, .null, .null, .null, .null, .null, .null])) (wX5 D cI cL h0) 12 := by
  refine cti_of [(0, .ref h0)] (by decide +kernel) rfl hl (show 1 ≤ 1 by decide) rfl (fun A X hX K hA => ?_)
  subst hX
  refine n_aload K 0 dX5_init_0 rfl rfl ?_
  refine n_obj K ko_X5_3 ko_1 ko_2 (Nat.le_of_ble_eq_true rfl) (Nat.le_of_ble_eq_true rfl) dX5_init_1 ?_
  refine n_aload K 0 dX5_init_4 rfl rfl ?_
  refine n_iconst (v := 0) K dX5_init_5 rfl ?_
  refine n_puti K 0 (t := 5) (i := 0) (by decide) rfl (by decide) kp_X5_9 rfl rfl rfl (show 0 < 12 by decide) dX5_init_6 ?_
  show NW _ _ _ _ _ _ _ _ _ _ ([(h0, .inr (5, [.int 0, .int 0, .int 0, .int 0, .int 0, .int 0, .null, .null, .null, .null, .null, .null]))])
  refine n_aload K 0 dX5_init_9 rfl rfl ?_
  refine n_iconst (v := 0) K dX5_init_10 rfl ?_
  refine n_puti K 0 (t := 5) (i := 1) (by decide) rfl (by decide) kp_X5_15 rfl rfl rfl (show 1 < 12 by decide) dX5_init_11 ?_
  show NW _ _ _ _ _ _ _ _ _ _ ([(h0, .inr (5, [.int 0, .int 0, .int 0, .int 0, .int 0, .int 0, .null, .null, .null, .null, .null, .null]))])
  refine n_aload K 0 dX5_init_14 rfl rfl ?_
  refine n_iconst (v := 0) K dX5_init_15 rfl ?_
  refine n_puti K 0 (t := 5) (i := 2) (by decide) rfl (by decide) kp_X5_18 rfl rfl rfl (show 2 < 12 by decide) dX5_init_16 ?_
  show NW _ _ _ _ _ _ _ _ _ _ ([(h0, .inr (5, [.int 0, .int 0, .int 0, .int 0, .int 0, .int 0, .null, .null, .null, .null, .null, .null]))])
  refine n_aload K 0 dX5_init_19 rfl rfl ?_
  refine n_iconst (v := 0) K dX5_init_20 rfl ?_
  refine n_puti K 0 (t := 5) (i := 3) (by decide) rfl (by decide) kp_X5_22 rfl rfl rfl (show 3 < 12 by decide) dX5_init_21 ?_
  show NW _ _ _ _ _ _ _ _ _ _ ([(h0, .inr (5, [.int 0, .int 0, .int 0, .int 0, .int 0, .int 0, .null, .null, .null, .null, .null, .null]))])
  refine n_aload K 0 dX5_init_24 rfl rfl ?_
  refine n_iconst (v := 0) K dX5_init_25 rfl ?_
  refine n_puti K 0 (t := 5) (i := 4) (by decide) rfl (by decide) kp_X5_25 rfl rfl rfl (show 4 < 12 by decide) dX5_init_26 ?_
  show NW _ _ _ _ _ _ _ _ _ _ ([(h0, .inr (5, [.int 0, .int 0, .int 0, .int 0, .int 0, .int 0, .null, .null, .null, .null, .null, .null]))])
  refine n_aload K 0 dX5_init_29 rfl rfl ?_
  refine n_iconst (v := 0) K dX5_init_30 rfl ?_
  refine n_puti K 0 (t := 5) (i := 5) (by decide) rfl (by decide) kp_X5_28 rfl rfl rfl (show 5 < 12 by decide) dX5_init_31 ?_
  show NW _ _ _ _ _ _ _ _ _ _ ([(h0, .inr (5, [.int 0, .int 0, .int 0, .int 0, .int 0, .int 0, .null, .null, .null, .null, .null, .null]))])
  refine n_aload K 0 dX5_init_34 rfl rfl ?_
  refine n_new (t := 3) (fs := [.int 0, .int 0, .null]) K (by decide) kc_X5_c31 ki_3 kj_3 (by decide) (Nat.le_of_ble_eq_true rfl) (Nat.le_of_ble_eq_true rfl) dX5_init_35 (fun q35 => ?_)
  refine n_dup K dX5_init_38 ?_
  refine n_sipush (v := 300) K dX5_init_39 rfl ?_
  refine n_bipush (v := 20) K dX5_init_42 rfl ?_
  refine n_call (as := [.int 300, .int 20]) K false li_X5_33 (c_X3_init X.2.1 hl q35 300 20 (by decide) (by decide) (by decide)) rfl (Nat.le_of_ble_eq_true rfl) ⟨Nat.le_of_ble_eq_true rfl, Nat.le_of_ble_eq_true rfl⟩ ⟨Nat.le_of_ble_eq_true rfl, Nat.le_of_ble_eq_true rfl⟩ rfl dX5_init_44 (fun u44 hu44 => ?_)
  refine n_putF K 0 (t := 5) (i := 6) (by decide) rfl (by decide) kp_X5_36 rfl rfl rfl rfl (show 6 < 12 by decide) dX5_init_47 ?_
  show NW _ _ _ _ _ _ _ _ _ _ ([(h0, .inr (5, [.int 0, .int 0, .int 0, .int 0, .int 0, .int 0, .ref q35, .null, .null, .null, .null, .null]))] ++ wX3 cI 300 20 q35 u44)
  refine n_aload K 0 dX5_init_50 rfl rfl ?_
  refine n_new (t := 8) (fs := [.null]) K (by decide) kc_X5_c40 ki_8 kj_8 (by decide) (Nat.le_of_ble_eq_true rfl) (Nat.le_of_ble_eq_true rfl) dX5_init_51 (fun q51 => ?_)
  refine n_dup K dX5_init_54 ?_
  refine n_sipush (v := 300) K dX5_init_55 rfl ?_
  refine n_call (as := [.int 300]) K false li_X5_42 (c_X8_init X.2.1 hl q51 300 (by decide) (by decide)) rfl (Nat.le_of_ble_eq_true rfl) ⟨Nat.le_of_ble_eq_true rfl, Nat.le_of_ble_eq_true rfl⟩ ⟨Nat.le_of_ble_eq_true rfl, Nat.le_of_ble_eq_true rfl⟩ rfl dX5_init_58 (fun u58 hu58 => ?_)
  refine n_putF K 0 (t := 5) (i := 7) (by decide) rfl (by decide) kp_X5_45 rfl rfl rfl rfl (show 7 < 12 by decide) dX5_init_61 ?_
  show NW _ _ _ _ _ _ _ _ _ _ ([(h0, .inr (5, [.int 0, .int 0, .int 0, .int 0, .int 0, .int 0, .ref q35, .ref q51, .null, .null, .null, .null]))] ++ wX3 cI 300 20 q35 u44 ++ wX8 cI 300 q51 u58)
  refine n_aload K 0 dX5_init_64 rfl rfl ?_
  refine n_new (t := 8) (fs := [.null]) K (by decide) kc_X5_c40 ki_8 kj_8 (by decide) (Nat.le_of_ble_eq_true rfl) (Nat.le_of_ble_eq_true rfl) dX5_init_65 (fun q65 => ?_)
  refine n_dup K dX5_init_68 ?_
  refine n_sipush (v := 300) K dX5_init_69 rfl ?_
  refine n_call (as := [.int 300]) K false li_X5_42 (c_X8_init X.2.1 hl q65 300 (by decide) (by decide)) rfl (Nat.le_of_ble_eq_true rfl) ⟨Nat.le_of_ble_eq_true rfl, Nat.le_of_ble_eq_true rfl⟩ ⟨Nat.le_of_ble_eq_true rfl, Nat.le_of_ble_eq_true rfl⟩ rfl dX5_init_72 (fun u72 hu72 => ?_)
  refine n_putF K 0 (t := 5) (i := 8) (by decide) rfl (by decide) kp_X5_49 rfl rfl rfl rfl (show 8 < 12 by decide) dX5_init_75 ?_
  show NW _ _ _ _ _ _ _ _ _ _ ([(h0, .inr (5, [.int 0, .int 0, .int 0, .int 0, .int 0, .int 0, .ref q35, .ref q51, .ref q65, .null, .null, .null]))] ++ wX3 cI 300 20 q35 u44 ++ wX8 cI 300 q51 u58 ++ wX8 cI 300 q65 u72)
  refine n_aload K 0 dX5_init_78 rfl rfl ?_
  refine n_new (t := 8) (fs := [.null]) K (by decide) kc_X5_c40 ki_8 kj_8 (by decide) (Nat.le_of_ble_eq_true rfl) (Nat.le_of_ble_eq_true rfl) dX5_init_79 (fun q79 => ?_)
  refine n_dup K dX5_init_82 ?_
  refine n_sipush (v := 300) K dX5_init_83 rfl ?_
  refine n_call (as := [.int 300]) K false li_X5_42 (c_X8_init X.2.1 hl q79 300 (by decide) (by decide)) rfl (Nat.le_of_ble_eq_true rfl) ⟨Nat.le_of_ble_eq_true rfl, Nat.le_of_ble_eq_true rfl⟩ ⟨Nat.le_of_ble_eq_true rfl, Nat.le_of_ble_eq_true rfl⟩ rfl dX5_init_86 (fun u86 hu86 => ?_)
  refine n_putF K 0 (t := 5) (i := 9) (by decide) rfl (by decide) kp_X5_52 rfl rfl rfl rfl (show 9 < 12 by decide) dX5_init_89 ?_
  show NW _ _ _ _ _ _ _ _ _ _ ([(h0, .inr (5, [.int 0, .int 0, .int 0, .int 0, .int 0, .int 0, .ref q35, .ref q51, .ref q65, .ref q79, .null, .null]))] ++ wX3 cI 300 20 q35 u44 ++ wX8 cI 300 q51 u58 ++ wX8 cI 300 q65 u72 ++ wX8 cI 300 q79 u86)
  refine n_aload K 0 dX5_init_92 rfl rfl ?_
  refine n_new (t := 8) (fs := [.null]) K (by decide) kc_X5_c40 ki_8 kj_8 (by decide) (Nat.le_of_ble_eq_true rfl) (Nat.le_of_ble_eq_true rfl) dX5_init_93 (fun q93 => ?_)
  refine n_dup K dX5_init_96 ?_
  refine n_sipush (v := 300) K dX5_init_97 rfl ?_
  refine n_call (as := [.int 300]) K false li_X5_42 (c_X8_init X.2.1 hl q93 300 (by decide) (by decide)) rfl (Nat.le_of_ble_eq_true rfl) ⟨Nat.le_of_ble_eq_true rfl, Nat.le_of_ble_eq_true rfl⟩ ⟨Nat.le_of_ble_eq_true rfl, Nat.le_of_ble_eq_true rfl⟩ rfl dX5_init_100 (fun u100 hu100 => ?_)
  refine n_putF K 0 (t := 5) (i := 10) (by decide) rfl (by decide) kp_X5_55 rfl rfl rfl rfl (show 10 < 12 by decide) dX5_init_103 ?_
  show NW _ _ _ _ _ _ _ _ _ _ ([(h0, .inr (5, [.int 0, .int 0, .int 0, .int 0, .int 0, .int 0, .ref q35, .ref q51, .ref q65, .ref q79, .ref q93, .null]))] ++ wX3 cI 300 20 q35 u44 ++ wX8 cI 300 q51 u58 ++ wX8 cI 300 q65 u72 ++ wX8 cI 300 q79 u86 ++ wX8 cI 300 q93 u100)
  refine n_aload K 0 dX5_init_106 rfl rfl ?_
  refine n_new (t := 3) (fs := [.int 0, .int 0, .null]) K (by decide) kc_X5_c31 ki_3 kj_3 (by decide) (Nat.le_of_ble_eq_true rfl) (Nat.le_of_ble_eq_true rfl) dX5_init_107 (fun q107 => ?_)
  refine n_dup K dX5_init_110 ?_
  refine n_bipush (v := 8) K dX5_init_111 rfl ?_
  refine n_bipush (v := 8) K dX5_init_113 rfl ?_
  refine n_call (as := [.int 8, .int 8]) K false li_X5_33 (c_X3_init X.2.1 hl q107 8 8 (by decide) (by decide) (by decide)) rfl (Nat.le_of_ble_eq_true rfl) ⟨Nat.le_of_ble_eq_true rfl, Nat.le_of_ble_eq_true rfl⟩ ⟨Nat.le_of_ble_eq_true rfl, Nat.le_of_ble_eq_true rfl⟩ rfl dX5_init_115 (fun u115 hu115 => ?_)
  refine n_putF K 0 (t := 5) (i := 11) (by decide) rfl (by decide) kp_X5_58 rfl rfl rfl rfl (show 11 < 12 by decide) dX5_init_118 ?_
  show NW _ _ _ _ _ _ _ _ _ _ ([(h0, .inr (5, [.int 0, .int 0, .int 0, .int 0, .int 0, .int 0, .ref q35, .ref q51, .ref q65, .ref q79, .ref q93, .ref q107]))] ++ wX3 cI 300 20 q35 u44 ++ wX8 cI 300 q51 u58 ++ wX8 cI 300 q65 u72 ++ wX8 cI 300 q79 u86 ++ wX8 cI 300 q93 u100 ++ wX3 cI 8 8 q107 u115)
  refine n_toGW (cI := cI) (cL := cL) (ad5 h0 [q35, u44.getD 0 0, q51, u58.getD 0 0, q65, u72.getD 0 0, q79, u86.getD 0 0, q93, u100.getD 0 0, q107, u115.getD 0 0]) ids5 MZ [(0, vR 5 0)] [] rfl rfl rfl (fun q hq => by cases List.mem_singleton.mp hq; exact Or.inl (by decide +kernel : (5, 0) ∈ ids5)) (fun _ h => nomatch h) ?_
  have hG : GOK (mkG D cI cL A (ad5 h0 [q35, u44.getD 0 0, q51, u58.getD 0 0, q65, u72.getD 0 0, q79, u86.getD 0 0, q93, u100.getD 0 0, q107, u115.getD 0 0]) ids5) := gok_of cl5
  have C := cx_ofK (cL := cL) (k := 12) (z := 7274) K hG
  have hk0 : (5, 0) ∈ gids (mkG D cI cL A (ad5 h0 [q35, u44.getD 0 0, q51, u58.getD 0 0, q65, u72.getD 0 0, q79, u86.getD 0 0, q93, u100.getD 0 0, q107, u115.getD 0 0]) ids5) := (by decide +kernel : (5, 0) ∈ ids5)
  refine g_aload_n C 0 dX5_init_121 rfl rfl ?_
  refine g_getr (k := 0) (k' := 22) C (by decide) kp_X5_52 rfl rfl dX5_init_122 ?_
  refine g_iconst (v := -1) C dX5_init_125 rfl ?_
  refine g_callVv_k (As := [vI (-1 : Int32)]) (rest := []) C li_X5_61 (k_X8_fill X.2.1 _ hl hG fu 22 (-1 : Int32) MZ MF ((hG _ hk0).2 9 8 22 0 rfl) hfill) (by decide) rfl rfl rfl (Nat.le_of_ble_eq_true rfl) ⟨Nat.le_of_ble_eq_true rfl, Nat.le_of_ble_eq_true rfl⟩ ⟨Nat.le_of_ble_eq_true rfl, Nat.le_of_ble_eq_true rfl⟩ dX5_init_126 ?_
  exact g_endI C [q35, u44.getD 0 0, q51, u58.getD 0 0, q65, u72.getD 0 0, q79, u86.getD 0 0, q93, u100.getD 0 0, q107, u115.getD 0 0] rfl rfl (Nat.le_of_ble_eq_true rfl) (Nat.le_of_ble_eq_true rfl) dX5_init_129
def ids9 : List (Nat × Nat) := [(9, 0), (2, 0), (8, 0), (20, 0), (8, 1), (20, 1), (8, 2), (20, 2), (0, 0), (8, 6), (20, 6), (8, 7), (20, 7), (3, 0), (21, 0), (8, 8), (20, 8), (6, 0), (8, 16), (20, 16), (8, 17), (20, 17), (8, 18), (20, 18), (3, 2), (21, 2), (8, 19), (20, 19), (3, 3), (21, 3), (5, 0), (3, 4), (21, 4), (8, 20), (20, 20), (8, 21), (20, 21), (8, 22), (20, 22), (8, 23), (20, 23), (3, 5), (21, 5), (1, 0), (8, 12), (20, 12), (8, 13), (20, 13), (1, 1), (8, 14), (20, 14), (8, 15), (20, 15), (4, 0), (8, 24), (20, 24), (7, 0), (2, 1), (8, 3), (20, 3), (8, 4), (20, 4), (8, 5), (20, 5), (0, 1), (8, 9), (20, 9), (8, 10), (20, 10), (3, 1), (21, 1), (8, 11), (20, 11)]
def ad9 (h0 : Nat) (u : List Nat) : Nat → Nat → Nat := fun t k => match t with | 0 => [(u.getD 7 0), (u.getD 63 0)].getD k 0 | 1 => [(u.getD 42 0), (u.getD 47 0)].getD k 0 | 2 => [(u.getD 0 0), (u.getD 56 0)].getD k 0 | 3 => [(u.getD 12 0), (u.getD 68 0), (u.getD 23 0), (u.getD 27 0), (u.getD 30 0), (u.getD 40 0)].getD k 0 | 4 => [(u.getD 52 0)].getD k 0 | 5 => [(u.getD 29 0)].getD k 0 | 6 => [(u.getD 16 0)].getD k 0 | 7 => [(u.getD 55 0)].getD k 0 | 8 => [(u.getD 1 0), (u.getD 3 0), (u.getD 5 0), (u.getD 57 0), (u.getD 59 0), (u.getD 61 0), (u.getD 8 0), (u.getD 10 0), (u.getD 14 0), (u.getD 64 0), (u.getD 66 0), (u.getD 70 0), (u.getD 43 0), (u.getD 45 0), (u.getD 48 0), (u.getD 50 0), (u.getD 17 0), (u.getD 19 0), (u.getD 21 0), (u.getD 25 0), (u.getD 32 0), (u.getD 34 0), (u.getD 36 0), (u.getD 38 0), (u.getD 53 0)].getD k 0 | 9 => [h0].getD k 0 | 20 => [(u.getD 2 0), (u.getD 4 0), (u.getD 6 0), (u.getD 58 0), (u.getD 60 0), (u.getD 62 0), (u.getD 9 0), (u.getD 11 0), (u.getD 15 0), (u.getD 65 0), (u.getD 67 0), (u.getD 71 0), (u.getD 44 0), (u.getD 46 0), (u.getD 49 0), (u.getD 51 0), (u.getD 18 0), (u.getD 20 0), (u.getD 22 0), (u.getD 26 0), (u.getD 33 0), (u.getD 35 0), (u.getD 37 0), (u.getD 39 0), (u.getD 54 0)].getD k 0 | 21 => [(u.getD 13 0), (u.getD 69 0), (u.getD 24 0), (u.getD 28 0), (u.getD 31 0), (u.getD 41 0)].getD k 0 | _ => 0
def wX9 (D : va_G) (cI cL : ClassId) (Md : Mem) (h0 : Nat) (u : List Nat) : va_W := wl (mkG D cI cL (fun _ => True) (ad9 h0 u) ids9) Md
theorem cl9 : closedB ids9 = true := by decide +kernel
set_option maxHeartbeats 4000000 in
set_option maxRecDepth 100000 in
theorem c_X9_init (l : Launch) (hl : l.stackTraces = false) (h0 : Nat) (fu : Nat) (hfill : f_X8_fill fu 22 (-1 : Int32) MZ = some MF) (Mb Mc Md : Mem) (hb : f_X2_clear fu 0 (2 : Int32) MF = some Mb) (hc : f_X1_clear fu 0 Mb = some Mc) (hd : f_X9_graphChanged fu Mc = some Md) : CTI l D cI cL yX9_init cX9_init 1 5 72 15414 h0 [] (.inr (9, [.null, .null, .null, .null, .null, .null, .null, .null])) (wX9 D cI cL Md h0) 72 := by
  refine cti_of [(0, .ref h0)] (by decide +kernel) rfl hl (show 1 ≤ 1 by decide) rfl (fun A X hX K hA => ?_)
  subst hX
  refine n_aload K 0 dX9_init_0 rfl rfl ?_
  refine n_obj K ko_X9_3 ko_1 ko_2 (Nat.le_of_ble_eq_true rfl) (Nat.le_of_ble_eq_true rfl) dX9_init_1 ?_
  refine n_aload K 0 dX9_init_4 rfl rfl ?_
  refine n_new (t := 2) (fs := [.int 0, .int 0, .null, .null, .null]) K (by decide) kc_X9_c9 ki_2 kj_2 (by decide) (Nat.le_of_ble_eq_true rfl) (Nat.le_of_ble_eq_true rfl) dX9_init_5 (fun q5 => ?_)
  refine n_dup K dX9_init_8 ?_
  refine n_call (as := []) K true li_X9_11 (c_X2_init X.2.1 hl q5 ) rfl (Nat.le_of_ble_eq_true rfl) ⟨Nat.le_of_ble_eq_true rfl, Nat.le_of_ble_eq_true rfl⟩ ⟨Nat.le_of_ble_eq_true rfl, Nat.le_of_ble_eq_true rfl⟩ rfl dX9_init_9 (fun u9 hu9 => ?_)
  refine n_putF K 0 (t := 9) (i := 0) (by decide) rfl (by decide) kp_X9_12 rfl rfl rfl rfl (show 0 < 8 by decide) dX9_init_12 ?_
  show NW _ _ _ _ _ _ _ _ _ _ ([(h0, .inr (9, [.ref q5, .null, .null, .null, .null, .null, .null, .null]))] ++ wX2 cI q5 u9)
  refine n_aload K 0 dX9_init_15 rfl rfl ?_
  refine n_new (t := 0) (fs := [.int 0, .null, .null, .null, .null]) K (by decide) kc_X9_c16 ki_0 kj_0 (by decide) (Nat.le_of_ble_eq_true rfl) (Nat.le_of_ble_eq_true rfl) dX9_init_16 (fun q16 => ?_)
  refine n_dup K dX9_init_19 ?_
  refine n_call (as := []) K true li_X9_18 (c_X0_init X.2.1 hl q16 ) rfl (Nat.le_of_ble_eq_true rfl) ⟨Nat.le_of_ble_eq_true rfl, Nat.le_of_ble_eq_true rfl⟩ ⟨Nat.le_of_ble_eq_true rfl, Nat.le_of_ble_eq_true rfl⟩ rfl dX9_init_20 (fun u20 hu20 => ?_)
  refine n_putF K 0 (t := 9) (i := 1) (by decide) rfl (by decide) kp_X9_19 rfl rfl rfl rfl (show 1 < 8 by decide) dX9_init_23 ?_
  show NW _ _ _ _ _ _ _ _ _ _ ([(h0, .inr (9, [.ref q5, .ref q16, .null, .null, .null, .null, .null, .null]))] ++ wX2 cI q5 u9 ++ wX0 cI q16 u20)
  refine n_aload K 0 dX9_init_26 rfl rfl ?_
  refine n_new (t := 6) (fs := [.int 0, .null, .null, .null, .null, .null, .null]) K (by decide) kc_X9_c23 ki_6 kj_6 (by decide) (Nat.le_of_ble_eq_true rfl) (Nat.le_of_ble_eq_true rfl) dX9_init_27 (fun q27 => ?_)
  refine n_dup K dX9_init_30 ?_
  refine n_call (as := []) K true li_X9_25 (c_X6_init X.2.1 hl q27 ) rfl (Nat.le_of_ble_eq_true rfl) ⟨Nat.le_of_ble_eq_true rfl, Nat.le_of_ble_eq_true rfl⟩ ⟨Nat.le_of_ble_eq_true rfl, Nat.le_of_ble_eq_true rfl⟩ rfl dX9_init_31 (fun u31 hu31 => ?_)
  refine n_putF K 0 (t := 9) (i := 2) (by decide) rfl (by decide) kp_X9_26 rfl rfl rfl rfl (show 2 < 8 by decide) dX9_init_34 ?_
  show NW _ _ _ _ _ _ _ _ _ _ ([(h0, .inr (9, [.ref q5, .ref q16, .ref q27, .null, .null, .null, .null, .null]))] ++ wX2 cI q5 u9 ++ wX0 cI q16 u20 ++ wX6 cI q27 u31)
  refine n_aload K 0 dX9_init_37 rfl rfl ?_
  refine n_new (t := 5) (fs := [.int 0, .int 0, .int 0, .int 0, .int 0, .int 0, .null, .null, .null, .null, .null, .null]) K (by decide) kc_X9_c30 ki_5 kj_5 (by decide) (Nat.le_of_ble_eq_true rfl) (Nat.le_of_ble_eq_true rfl) dX9_init_38 (fun q38 => ?_)
  refine n_dup K dX9_init_41 ?_
  refine n_call (as := []) K false li_X9_32 (c_X5_init X.2.1 hl q38 fu hfill) rfl (Nat.le_of_ble_eq_true rfl) ⟨Nat.le_of_ble_eq_true rfl, Nat.le_of_ble_eq_true rfl⟩ ⟨Nat.le_of_ble_eq_true rfl, Nat.le_of_ble_eq_true rfl⟩ rfl dX9_init_42 (fun u42 hu42 => ?_)
  refine n_putF K 0 (t := 9) (i := 3) (by decide) rfl (by decide) kp_X9_33 rfl rfl rfl rfl (show 3 < 8 by decide) dX9_init_45 ?_
  show NW _ _ _ _ _ _ _ _ _ _ ([(h0, .inr (9, [.ref q5, .ref q16, .ref q27, .ref q38, .null, .null, .null, .null]))] ++ wX2 cI q5 u9 ++ wX0 cI q16 u20 ++ wX6 cI q27 u31 ++ wX5 D cI cL q38 u42)
  refine n_aload K 0 dX9_init_48 rfl rfl ?_
  refine n_new (t := 1) (fs := [.null, .null]) K (by decide) kc_X9_c37 ki_1 kj_1 (by decide) (Nat.le_of_ble_eq_true rfl) (Nat.le_of_ble_eq_true rfl) dX9_init_49 (fun q49 => ?_)
  refine n_dup K dX9_init_52 ?_
  refine n_call (as := []) K true li_X9_39 (c_X1_init X.2.1 hl q49 ) rfl (Nat.le_of_ble_eq_true rfl) ⟨Nat.le_of_ble_eq_true rfl, Nat.le_of_ble_eq_true rfl⟩ ⟨Nat.le_of_ble_eq_true rfl, Nat.le_of_ble_eq_true rfl⟩ rfl dX9_init_53 (fun u53 hu53 => ?_)
  refine n_putF K 0 (t := 9) (i := 4) (by decide) rfl (by decide) kp_X9_40 rfl rfl rfl rfl (show 4 < 8 by decide) dX9_init_56 ?_
  show NW _ _ _ _ _ _ _ _ _ _ ([(h0, .inr (9, [.ref q5, .ref q16, .ref q27, .ref q38, .ref q49, .null, .null, .null]))] ++ wX2 cI q5 u9 ++ wX0 cI q16 u20 ++ wX6 cI q27 u31 ++ wX5 D cI cL q38 u42 ++ wX1 cI q49 u53)
  refine n_aload K 0 dX9_init_59 rfl rfl ?_
  refine n_new (t := 1) (fs := [.null, .null]) K (by decide) kc_X9_c37 ki_1 kj_1 (by decide) (Nat.le_of_ble_eq_true rfl) (Nat.le_of_ble_eq_true rfl) dX9_init_60 (fun q60 => ?_)
  refine n_dup K dX9_init_63 ?_
  refine n_call (as := []) K true li_X9_39 (c_X1_init X.2.1 hl q60 ) rfl (Nat.le_of_ble_eq_true rfl) ⟨Nat.le_of_ble_eq_true rfl, Nat.le_of_ble_eq_true rfl⟩ ⟨Nat.le_of_ble_eq_true rfl, Nat.le_of_ble_eq_true rfl⟩ rfl dX9_init_64 (fun u64 hu64 => ?_)
  refine n_putF K 0 (t := 9) (i := 5) (by decide) rfl (by decide) kp_X9_44 rfl rfl rfl rfl (show 5 < 8 by decide) dX9_init_67 ?_
  show NW _ _ _ _ _ _ _ _ _ _ ([(h0, .inr (9, [.ref q5, .ref q16, .ref q27, .ref q38, .ref q49, .ref q60, .null, .null]))] ++ wX2 cI q5 u9 ++ wX0 cI q16 u20 ++ wX6 cI q27 u31 ++ wX5 D cI cL q38 u42 ++ wX1 cI q49 u53 ++ wX1 cI q60 u64)
  refine n_aload K 0 dX9_init_70 rfl rfl ?_
  refine n_new (t := 4) (fs := [.int 0, .null]) K (by decide) kc_X9_c47 ki_4 kj_4 (by decide) (Nat.le_of_ble_eq_true rfl) (Nat.le_of_ble_eq_true rfl) dX9_init_71 (fun q71 => ?_)
  refine n_dup K dX9_init_74 ?_
  refine n_call (as := []) K true li_X9_49 (c_X4_init X.2.1 hl q71 ) rfl (Nat.le_of_ble_eq_true rfl) ⟨Nat.le_of_ble_eq_true rfl, Nat.le_of_ble_eq_true rfl⟩ ⟨Nat.le_of_ble_eq_true rfl, Nat.le_of_ble_eq_true rfl⟩ rfl dX9_init_75 (fun u75 hu75 => ?_)
  refine n_putF K 0 (t := 9) (i := 6) (by decide) rfl (by decide) kp_X9_50 rfl rfl rfl rfl (show 6 < 8 by decide) dX9_init_78 ?_
  show NW _ _ _ _ _ _ _ _ _ _ ([(h0, .inr (9, [.ref q5, .ref q16, .ref q27, .ref q38, .ref q49, .ref q60, .ref q71, .null]))] ++ wX2 cI q5 u9 ++ wX0 cI q16 u20 ++ wX6 cI q27 u31 ++ wX5 D cI cL q38 u42 ++ wX1 cI q49 u53 ++ wX1 cI q60 u64 ++ wX4 cI q71 u75)
  refine n_aload K 0 dX9_init_81 rfl rfl ?_
  refine n_new (t := 7) (fs := [.null, .null, .int 0, .int 0, .int 0, .int 0]) K (by decide) kc_X9_c54 ki_7 kj_7 (by decide) (Nat.le_of_ble_eq_true rfl) (Nat.le_of_ble_eq_true rfl) dX9_init_82 (fun q82 => ?_)
  refine n_dup K dX9_init_85 ?_
  refine n_call (as := []) K true li_X9_56 (c_X7_init X.2.1 hl q82 ) rfl (Nat.le_of_ble_eq_true rfl) ⟨Nat.le_of_ble_eq_true rfl, Nat.le_of_ble_eq_true rfl⟩ ⟨Nat.le_of_ble_eq_true rfl, Nat.le_of_ble_eq_true rfl⟩ rfl dX9_init_86 (fun u86 hu86 => ?_)
  refine n_putF K 0 (t := 9) (i := 7) (by decide) rfl (by decide) kp_X9_57 rfl rfl rfl rfl (show 7 < 8 by decide) dX9_init_89 ?_
  show NW _ _ _ _ _ _ _ _ _ _ ([(h0, .inr (9, [.ref q5, .ref q16, .ref q27, .ref q38, .ref q49, .ref q60, .ref q71, .ref q82]))] ++ wX2 cI q5 u9 ++ wX0 cI q16 u20 ++ wX6 cI q27 u31 ++ wX5 D cI cL q38 u42 ++ wX1 cI q49 u53 ++ wX1 cI q60 u64 ++ wX4 cI q71 u75 ++ wX7 cI q82 u86)
  obtain ⟨uu, huu⟩ : ∃ uu : List Nat, uu = [q5, u9.getD 0 0, u9.getD 1 0, u9.getD 2 0, u9.getD 3 0, u9.getD 4 0, u9.getD 5 0, q16, u20.getD 0 0, u20.getD 1 0, u20.getD 2 0, u20.getD 3 0, u20.getD 4 0, u20.getD 5 0, u20.getD 6 0, u20.getD 7 0, q27, u31.getD 0 0, u31.getD 1 0, u31.getD 2 0, u31.getD 3 0, u31.getD 4 0, u31.getD 5 0, u31.getD 6 0, u31.getD 7 0, u31.getD 8 0, u31.getD 9 0, u31.getD 10 0, u31.getD 11 0, q38, u42.getD 0 0, u42.getD 1 0, u42.getD 2 0, u42.getD 3 0, u42.getD 4 0, u42.getD 5 0, u42.getD 6 0, u42.getD 7 0, u42.getD 8 0, u42.getD 9 0, u42.getD 10 0, u42.getD 11 0, q49, u53.getD 0 0, u53.getD 1 0, u53.getD 2 0, u53.getD 3 0, q60, u64.getD 0 0, u64.getD 1 0, u64.getD 2 0, u64.getD 3 0, q71, u75.getD 0 0, u75.getD 1 0, q82, u86.getD 0 0, u86.getD 1 0, u86.getD 2 0, u86.getD 3 0, u86.getD 4 0, u86.getD 5 0, u86.getD 6 0, u86.getD 7 0, u86.getD 8 0, u86.getD 9 0, u86.getD 10 0, u86.getD 11 0, u86.getD 12 0, u86.getD 13 0, u86.getD 14 0, u86.getD 15 0] := ⟨_, rfl⟩
  refine n_toGW (cI := cI) (cL := cL) (ad9 h0 uu) ids9 MF [(0, vR 9 0)] [] (by subst huu; rfl) (by subst huu; rfl) rfl (fun q hq => by cases List.mem_singleton.mp hq; exact Or.inl (by decide +kernel : (9, 0) ∈ ids9)) (fun _ h => nomatch h) ?_
  have hG : GOK (mkG D cI cL A (ad9 h0 uu) ids9) := gok_of cl9
  have C := cx_ofK (cL := cL) (k := 72) (z := 15414) K hG
  have hk0 : (9, 0) ∈ gids (mkG D cI cL A (ad9 h0 uu) ids9) := (by decide +kernel : (9, 0) ∈ ids9)
  refine g_aload_n C 0 dX9_init_92 rfl rfl ?_
  refine g_getr (k := 0) (k' := 0) C (by decide) kp_X9_12 rfl rfl dX9_init_93 ?_
  refine g_iconst (v := 2) C dX9_init_96 rfl ?_
  refine g_callVv_k (As := [vI (2 : Int32)]) (rest := []) C li_X9_61 (k_X2_clear X.2.1 _ hl hG fu 0 (2 : Int32) MF Mb ((hG _ hk0).2 0 2 0 0 rfl) hb) (by decide) rfl rfl rfl (Nat.le_of_ble_eq_true rfl) ⟨Nat.le_of_ble_eq_true rfl, Nat.le_of_ble_eq_true rfl⟩ ⟨Nat.le_of_ble_eq_true rfl, Nat.le_of_ble_eq_true rfl⟩ dX9_init_97 ?_
  refine g_aload_n C 0 dX9_init_100 rfl rfl ?_
  refine g_getr (k := 0) (k' := 0) C (by decide) kp_X9_40 rfl rfl dX9_init_101 ?_
  refine g_callVv_k (As := []) (rest := []) C li_X9_65 (k_X1_clear X.2.1 _ hl hG fu 0 Mb Mc ((hG _ hk0).2 4 1 0 0 rfl) hc) (by decide) rfl rfl rfl (Nat.le_of_ble_eq_true rfl) ⟨Nat.le_of_ble_eq_true rfl, Nat.le_of_ble_eq_true rfl⟩ ⟨Nat.le_of_ble_eq_true rfl, Nat.le_of_ble_eq_true rfl⟩ dX9_init_104 ?_
  refine g_aload_n C 0 dX9_init_107 rfl rfl ?_
  refine g_callVv_k (As := []) (rest := []) C li_X9_67 (k_X9_graphChanged X.2.1 _ hl hG fu Mc Md hk0 hd) (by decide) rfl rfl rfl (Nat.le_of_ble_eq_true rfl) ⟨Nat.le_of_ble_eq_true rfl, Nat.le_of_ble_eq_true rfl⟩ ⟨Nat.le_of_ble_eq_true rfl, Nat.le_of_ble_eq_true rfl⟩ dX9_init_108 ?_
  exact g_endI C uu (by subst huu; rfl) rfl (Nat.le_of_ble_eq_true rfl) (Nat.le_of_ble_eq_true rfl) dX9_init_111
end CTORS2

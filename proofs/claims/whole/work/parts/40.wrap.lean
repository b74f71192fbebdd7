/-! The law's wrappers (methods with handlers), and calls of them. -/
section WRAP
variable {tb : Bool} {G : GE} {own : String} {cc : ByteArray} {nL : Nat} {ret : Option FieldType} {rm : Room} {X : PX} {Q : State → Prop} {pc : Nat} {ls : List (Nat × AV)} {st : List AV} {M : Mem}
def rmw (d : Nat) : Room := { frames := d, cells := 1, slots := 6, locals := 36 * d }
def CTW (l : Launch) (G : GE) (y : MethodName) (cc : ByteArray) (nL : Nat) (hh : List (Nat × Nat × Nat × Nat)) (d : Nat) (av : List AV) (M : Mem) (x : Int32) (M' : Mem) : Prop :=
  vx_Met l y (Cond.codeWith y cc nL (some .int) hh :: BW) (rmw d) (PR G av M) (QR G (.inl (some (vI x))) M') (XR G (.inl (some (vI x))) M') 1 6 (gA G)
def QW (G : GE) (X : PX) (x : Int32) (M' : Mem) : State → Prop := vx_MQ X.2.2.2.2.2.2.2.1 (QR G (.inl (some (vI x))) M') (XR G (.inl (some (vI x))) M') X.2.2.2.2.2.2.1 (xs_ X) 1 6 (gA G)
def TX_ (hh : List (Nat × Nat × Nat × Nat)) (X : PX) : Prop := X.2.2.2.2.2.2.2.2.2.1.exceptionTable.toList = tableOf hh ∧ xk_ X = 0 ∧ xz_ X = 0
theorem ctw_of {l : Launch} {y : MethodName} {hh : List (Nat × Nat × Nat × Nat)} {d : Nat} {av : List AV} {x : Int32} {M' : Mem} (ls0 : List (Nat × AV)) (hy : plainName y.cls = true) (hl : l.stackTraces = false) (hG : GOK G) (hlen : csum av ≤ nL) (hls : ls0.map (cq G) = lv_args 0 (av.map (cv G))) (hok0 : ∀ q ∈ ls0, okv G q.2)
    (body : ∀ X, X.2.1 = l → CX false G y.cls cc nL (some .int) (rmw d) X → TX_ hh X → GW G X nL (QW G X x M') 0 ls0 [] M) : CTW l G y cc nL hh d av M x M' := by
  refine vx_ofWH hy rfl ?_
  intro p e s m args below meth c s₁ B hml hv
  obtain ⟨rfl, hw⟩ := hv
  have hts := atoms_spec (ws := Cond.codeWith y cc nL (some .int) hh :: BW) B.pre
  have C : CX false G y.cls cc nL (some .int) (rmw d) (p, l, e, (headSpec (Cond.codeWith y cc nL (some .int) hh :: BW) (rmw d)).room, s, m, (av.map (cv G)).toArray, below, meth, c, 0, 0) :=
    ⟨B.exec, B.bytes, hml, findClass_of_methodNamed B.named, fun w hw => hts w (List.mem_cons_of_mem _ hw), B.notSynchronized, B.returns, (fun h => nomatch h), hl, rfl, hG, hw.2⟩
  have hT := vx_table (x := y) B (hts _ List.mem_cons_self)
  have hsl : ∀ vs : List AV, (lg_sl (vs.map (cv G))).length = csum vs := by
    intro vs
    induction vs with
    | nil => rfl
    | cons v r ih =>
      show (List.flatMap _ (cv G v :: r.map (cv G))).length = _
      rw [List.flatMap_cons, List.length_append]
      show _ + (lg_sl (r.map (cv G))).length = (if cat2 v then 2 else 1) + csum r
      rw [ih]
      rcases v with x | x | x | x | x <;> rfl
  have hlv := lv_entry (av.map (cv G)) (n := nL) (by rw [hsl]; exact hlen)
  rw [lg_entry_eq]
  have k := body _ rfl C ⟨hT, rfl, rfl⟩ hok0 (fun _ h => by cases h) s.heap [] ((lg_sl (av.map (cv G)) ++ List.replicate (nL - (lg_sl (av.map (cv G))).length) Slot.unset).toArray) hw.1 va_S.rf (by rw [show (fun q : Nat × AV => (q.1, cv G q.2)) = cq G from rfl, hls]; exact hlv)
  exact k
theorem g_iretW {hh : List (Nat × Nat × Nat × Nat)} (C : CX tb G own cc nL (some .int) rm X) (hT : TX_ hh X) {x : Int32} (hd : decode cc pc = .ok (.ireturn, 1)) : GW G X nL (QW G X x M) pc ls [vI x] M :=
  fun _ _ _ _ _ w s _ => W.widen (k := 1) (n := 6) (by rw [show X.2.2.2.2.2.2.2.2.2.2.1 = 0 from hT.2.1]; exact Nat.zero_le _) (by rw [show X.2.2.2.2.2.2.2.2.2.2.2 = 0 from hT.2.2]; exact Nat.zero_le _) (vx_ret (W.iret (v := x) C.1 C.2.1 C.2.2.2.2.2.2.1 (qr_end w s) s.2.2 hd C.2.2.2.2.2.1))
/-- a handler: the thrown object is put away, a number answered -/
theorem hnd_go {hh : List (Nat × Nat × Nat × Nat)} (C : CX tb G own cc nL (some .int) rm X) (hT : TX_ hh X) {pc i : Nat} {n : Int} {x : Int32} {H1 : Heap} {locs1 : List Loc} {la : Array Slot} {q : Addr} {M1 : Mem} (w : Wm G M1 H1) (s : va_S (gA G) (xs_ X).heap H1 locs1) (h : lv_has la nL (ls.map (cq G))) (hi : i < nL) (j : Bool)
    (d1 : decode cc pc = .ok (if j then (.astore i, 2) else (.astore_n (Fin.ofNat 4 i), 1))) (hj : j = false → i < 4) (d2 : decode cc (pc + if j then 2 else 1) = .ok (.iconst n, 1)) (hx : Int32.ofInt n = x) (d3 : decode cc ((pc + if j then 2 else 1) + 1) = .ok (.ireturn, 1)) :
    W X.1 X.2.1 X.2.2.1 X.2.2.2.1 (xs_ X) X.2.2.2.2.2.1 X.2.2.2.2.2.2.1 X.2.2.2.2.2.2.2.1 X.2.2.2.2.2.2.2.2.1 X.2.2.2.2.2.2.2.2.2.1 H1 locs1 (xk_ X + 1) (xz_ X + 6) (QW G X x M1) (F0 X.2.2.2.2.2.1 pc la [.ref q]) := by
  refine W.widen (k := 1) (n := 6) (by rw [hT.2.1]; exact Nat.le_refl _) (by rw [hT.2.2]; exact Nat.le_refl _) ?_
  have fin : ∀ (pc : Nat) (la : Array Slot), decode cc pc = .ok (.iconst n, 1) → decode cc (pc + 1) = .ok (.ireturn, 1) → W X.1 X.2.1 X.2.2.1 X.2.2.2.1 (xs_ X) X.2.2.2.2.2.1 X.2.2.2.2.2.2.1 X.2.2.2.2.2.2.2.1 X.2.2.2.2.2.2.2.2.1 X.2.2.2.2.2.2.2.2.2.1 H1 locs1 1 6 (QW G X x M1) (F0 X.2.2.2.2.2.1 pc la []) := by
    intro pc la e2 e3
    refine lv_iconst C.1 C.2.1 e2 hx ?_
    exact vx_ret (W.iret (v := x) C.1 C.2.1 C.2.2.2.2.2.2.1 (qr_end w s) s.2.2 e3 C.2.2.2.2.2.1)
  cases j with
  | true =>
    exact lv_astore C.1 C.2.1 d1 h hi rfl (fun la2 _ => fin _ la2 d2 d3)
  | false =>
    refine lv_astore_n C.1 C.2.1 d1 ?_ h hi rfl (fun la2 _ => fin _ la2 d2 d3)
    show i % 4 = i
    exact Nat.mod_eq_of_lt (hj rfl)
theorem g_callVh {hh : List (Nat × Nat × Nat × Nat)} (C : CX tb G own cc nL (some .int) rm X) (hT : TX_ hh X) {idx : Nat} {y : MethodName} {zc : ByteArray} {zl n d t k : Nat} {zr : Option FieldType} {E : String} {M1 : Mem} {As rest : List AV}
    (lk : lkV own idx y zc zl zr n) (hct : CT X.2.1 G y zc zl zr d (vR t k :: As) M (.inr E) M1) (ht : t < 11) (hcls : cN t = y.cls) (hn : As.length = n) (hst : As.reverse ++ vR t k :: rest = st) (hW : csum rest ≤ 8)
    (hroom : d + 1 ≤ rm.frames ∧ 8 + (zl + 11) + 36 * d ≤ rm.locals) (hmc : 1 ≤ rm.cells ∧ 6 ≤ rm.slots) (hd : decode cc pc = .ok (.invokevirtual idx, 3))
    (pre : List ExceptionTableEntry) (x : ExceptionTableEntry) (suf : List ExceptionTableEntry) (hsp : tableOf hh = pre ++ x :: suf) (hpass : ∀ z ∈ pre, z.catchType ≠ 0 ∧ ∃ nm : String, Cond.classLink own z.catchType nm ∈ BW ∧ (E, nm) ∈ NC) (hcov : covers x pc = true) (hne : x.catchType ≠ 0) (hlink : Cond.classLink own x.catchType E ∈ BW) (hcast : Cond.castable E E ∈ XW)
    {i : Nat} {u : Int} {v : Int32} (j : Bool) (hi : i < nL) (d1 : decode cc x.handlerPc = .ok (if j then (.astore i, 2) else (.astore_n (Fin.ofNat 4 i), 1))) (hj : j = false → i < 4) (d2 : decode cc (x.handlerPc + if j then 2 else 1) = .ok (.iconst u, 1)) (hu : Int32.ofInt u = v) (d3 : decode cc ((x.handlerPc + if j then 2 else 1) + 1) = .ok (.ireturn, 1)) : GW G X nL (QW G X v M1) pc ls st M :=
  g_callV C lk hct ht hcls hn hst hW hroom ⟨by rw [hT.2.1]; exact hmc.1, by rw [hT.2.2]; exact hmc.2⟩ hd (fun v hv => by cases hv) (fun v hv => by cases hv) (fun E' hE H1 locs1 la q ce hl hw hS h1 h2 h3 => by
    cases hE
    exact vx_catch C.2.2.2.1 pre x suf (hT.1.trans hsp) (fun z hz => by
      obtain ⟨z1, nm, z2, z3⟩ := hpass z hz
      exact Or.inr ⟨z1, nm, C.2.2.2.2.1 _ z2, (ca C).2.2.2.2.2.1.2 (E, nm) z3⟩) hcov hne (C.2.2.2.2.1 _ hlink) (va_Nw.use (XW.tabs _ hcast) ((ca C).2.2.2.2.2.1.1 _ hcast)) h1 h2 h3 (hnd_go C hT hw hS hl hi j d1 hj d2 hu d3))
/-! the law's own calls -/
def bump (X : PX) (a b : Nat) : PX := (X.1, X.2.1, X.2.2.1, X.2.2.2.1, X.2.2.2.2.1, X.2.2.2.2.2.1, X.2.2.2.2.2.2.1, X.2.2.2.2.2.2.2.1, X.2.2.2.2.2.2.2.2.1, X.2.2.2.2.2.2.2.2.2.1, a, b)
theorem cx_bump {a b : Nat} (C : CX false G own cc nL ret rm X) : CX false G own cc nL ret rm (bump X a b) :=
  ⟨C.1, C.2.1, C.2.2.1, C.2.2.2.1, C.2.2.2.2.1, C.2.2.2.2.2.1, C.2.2.2.2.2.2.1, (fun h => nomatch h), C.2.2.2.2.2.2.2.2.1, C.2.2.2.2.2.2.2.2.2.1, C.2.2.2.2.2.2.2.2.2.2.1, C.2.2.2.2.2.2.2.2.2.2.2⟩
def lkW (own : String) (idx : Nat) (y : MethodName) (zc : ByteArray) (zl : Nat) (hh : List (Nat × Nat × Nat × Nat)) (n : Nat) : Prop :=
  Cond.methodLink own idx y ∈ BW ∧ Cond.initialized y.cls ∈ BW ∧ Cond.codeWith y zc zl (some .int) hh ∈ BW ∧ (y.cls ≠ "java/lang/invoke/MethodHandle" ∧ y.cls ≠ "java/lang/invoke/VarHandle" ∧ (parseMethodDescriptor y.desc).map (fun d => d.parameters.length) = some n) ∧ Cond.static y ∈ BW
theorem g_callSw (C : CX false G own cc nL ret rm X) {idx : Nat} {y : MethodName} {zc : ByteArray} {zl n d : Nat} {hh : List (Nat × Nat × Nat × Nat)} {x : Int32} {M1 : Mem} {As rest : List AV}
    (lk : lkW own idx y zc zl hh n) (hct : CTW X.2.1 G y zc zl hh d As M x M1) (hn : As.length = n) (hst : As.reverse ++ rest = st) (hW : csum rest ≤ 8)
    (hroom : d + 1 ≤ rm.frames ∧ 8 + (zl + 11) + 36 * d ≤ rm.locals) (hmc : xk_ X + 1 ≤ rm.cells ∧ xz_ X + 6 ≤ rm.slots) (hd : decode cc pc = .ok (.invokestatic idx, 3))
    (kr : GW G (bump X (xk_ X + 1) (xz_ X + 6)) nL Q (pc + 3) ls (vI x :: rest) M1) : GW G X nL Q pc ls st M := by
  subst hst
  intro o1 o2 H locs la w s h
  obtain ⟨k1, k2, k3, k4, k5⟩ := lk
  have hR : X.2.2.2.1 = rm := C.2.2.2.2.2.2.2.2.2.1
  have hSF := (ca C).kept ⟨s.1, s.2.1⟩
  have hgi : GoodIn BW (va_wsS own idx y (Cond.codeWith y zc zl (some .int) hh :: BW)) := by
    intro w hw
    have hb : w ∈ BW := by
      unfold va_wsS at hw
      rcases List.mem_append.mp hw with e | e
      · rcases List.mem_cons.mp e with e | e
        · rw [e]; exact k1
        · rcases List.mem_cons.mp e with e | e
          · rw [e]; exact k5
          · rcases List.mem_cons.mp e with e | e
            · rw [e]; exact k2
            · cases e
      · rcases List.mem_cons.mp e with e | e
        · rw [e]; exact k3
        · exact e
    exact ⟨hb, good_of_word (bw_good hb)⟩
  have hrun := vx_runSX (p := X.1) (l := X.2.1) (e := X.2.2.1) (R := X.2.2.2.1) (s := xs_ X) (m := X.2.2.2.2.2.1) (args := X.2.2.2.2.2.2.1) (below := X.2.2.2.2.2.2.2.1) (meth := X.2.2.2.2.2.2.2.2.1) (c := X.2.2.2.2.2.2.2.2.2.1) (H := H) (locs := locs) (cells := xk_ X) (slots := xz_ X) (g := F0 X.2.2.2.2.2.1 pc la ((As.reverse ++ rest).map (cv G))) (As := As.map (cv G)) (rest := rest.map (cv G)) ⟨C.1, C.2.1, C.2.2.1, C.2.2.2.1, C.2.2.2.2.1⟩ hct (vx_cwSW n C.2.2.2.2.1 hgi rfl rfl rfl k4 (by rw [hR]; exact hroom)) ⟨pr_blind, fun U hU hWU => ⟨rfl, by rw [hU]; exact w, by rw [hU]; exact hSF.moved hWU⟩⟩ rfl (by rw [List.length_map]; exact hn) h.1 (by
    show (As.reverse ++ rest).map (cv G) = _
    rw [List.map_append, List.map_reverse]) (lv_room (by rw [csum_cv]; exact hW)) hd (by rw [hR]; exact hmc)
  intro T hT XX
  rcases hrun T hT XX with ⟨v, st₀, t, T', L, h0, X', hL, e1, e2, hq, hst⟩ | ⟨q, st₀, t, T', L, E, ce, h0, X', hL, e1, e2, hx, hce, hcv, hcl, hst⟩
  · obtain ⟨v', hv', hv, hw, hF⟩ := hq
    cases hv'
    cases hv
    obtain ⟨z1, z2, hS⟩ := vx_keep h0 e1 s (fun q _ h => h) (fun q h => h) hL hF
    have hw' : Wm G M1 T'.heap := by rw [e1]; exact hw
    obtain ⟨t2, a1, b1⟩ := kr o1 (okT trivial (fun v hv => o2 v (by simp [hv]))) T'.heap (locs ++ L) la hw' hS h T' rfl X'
    exact ⟨t2, hst t2 a1, b1⟩
  · obtain ⟨hE, -⟩ := hx
    cases hE
end WRAP

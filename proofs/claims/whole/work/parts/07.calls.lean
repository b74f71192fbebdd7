/-! Calls, throws, and a method's contract out of its walk. -/
section CALLS
variable {tb : Bool} {G : GE} {own : String} {cc : ByteArray} {nL : Nat} {ret : Option FieldType} {rm : Room} {X : PX} {Q : State → Prop} {pc : Nat} {ls : List (Nat × AV)} {st : List AV} {M : Mem}
theorem pr_blind {av : List AV} : FrameBlind (PR G av M) := fun a U g mk h => ⟨h.1, h.2.1, SF.vm (U := U) rfl h.2.2⟩
def csum (l : List AV) : Nat := match l with
  | [] => 0
  | v :: r => (if cat2 v then 2 else 1) + csum r
theorem cat_cv (v : AV) : (cv G v).category = if cat2 v then 2 else 1 := by
  rcases v with x | x | x | x | x <;> rfl
theorem csum_cv : ∀ l : List AV, ((l.map (cv G)).map fun v => v.category).sum = csum l
  | [] => rfl
  | v :: r => by
    show (cv G v).category + ((r.map (cv G)).map fun v => v.category).sum = (if cat2 v then 2 else 1) + csum r
    rw [csum_cv r, cat_cv]
def lkB (own : String) (idx : Nat) (y : MethodName) (zc : ByteArray) (zl : Nat) (zr : Option FieldType) (n : Nat) : Prop :=
  Cond.methodLink own idx y ∈ BW ∧ Cond.initialized y.cls ∈ BW ∧ Cond.code y zc zl zr ∈ BW ∧ (y.cls ≠ "java/lang/invoke/MethodHandle" ∧ y.cls ≠ "java/lang/invoke/VarHandle" ∧ (parseMethodDescriptor y.desc).map (fun d => d.parameters.length) = some n)
def lkV (own : String) (idx : Nat) (y : MethodName) (zc : ByteArray) (zl : Nat) (zr : Option FieldType) (n : Nat) : Prop :=
  lkB own idx y zc zl zr n ∧ Cond.instanceMethod y ∈ BW ∧ Cond.selects y.cls y y ∈ BW
def lkS (own : String) (idx : Nat) (y : MethodName) (zc : ByteArray) (zl : Nat) (zr : Option FieldType) (n : Nat) : Prop :=
  lkB own idx y zc zl zr n ∧ Cond.static y ∈ BW
theorem gi_code {y : MethodName} {zc : ByteArray} {zl : Nat} {zr : Option FieldType} (h : Cond.code y zc zl zr ∈ BW) : GoodIn BW (Cond.code y zc zl zr :: BW) := fun w hw => by
  have hb : w ∈ BW := by
    rcases List.mem_cons.mp hw with e | e
    · rw [e]; exact h
    · exact e
  exact ⟨hb, good_of_word (bw_good hb)⟩
theorem cb_of (C : CX tb G own cc nL ret rm X) {idx : Nat} {y : MethodName} {zc : ByteArray} {zl n d : Nat} {zr : Option FieldType} {o : Outc} (lk : lkB own idx y zc zl zr n) (hroom : d + 1 ≤ rm.frames ∧ 8 + (zl + 11) + 36 * d ≤ rm.locals) :
    CallB X.2.2.2.1 (xs_ X) X.2.2.2.2.2.2.1 own idx y zc zl zr (Cond.code y zc zl zr :: BW) (rmx d o) (mcx o) (msx o) n := by
  have hR : X.2.2.2.1 = rm := C.2.2.2.2.2.2.2.2.2.1
  exact callB_of n C.2.2.2.2.1 (gi_code lk.2.2.1) rfl rfl rfl (C.2.2.2.2.1 _ lk.2.1) (C.2.2.2.2.1 _ lk.1) lk.2.2.2 (by rw [hR]; exact hroom)
theorem call_go (C : CX tb G own cc nL ret rm X) {As rest : List AV} {a : Array Value} {o : Outc} {M1 : Mem} {H : Heap} {locs : List Loc} {la : Array Slot} {st0 : List Value}
    (hrun : vx_Run X.1 X.2.1 X.2.2.1 X.2.2.2.1 (xs_ X) X.2.2.2.2.2.1 X.2.2.2.2.2.2.1 X.2.2.2.2.2.2.2.1 X.2.2.2.2.2.2.2.2.1 X.2.2.2.2.2.2.2.2.2.1 H locs (xk_ X) (xz_ X) (mcx o) (msx o) (F0 X.2.2.2.2.2.1 pc la st0) (rest.map (cv G)) (QR G o M1 a) (XR G o M1) (gA G))
    (o1 : ∀ q ∈ ls, okv G q.2) (o2 : ∀ v ∈ rest, okv G v) (s : va_S (gA G) (xs_ X).heap H locs) (h : lv_has la nL (ls.map (cq G)))
    (hok : ∀ v, o = .inl (some v) → okv G v) (kr : ∀ v, o = .inl v → GW G X nL Q (pc + 3) ls (v.toList ++ rest) M1) (kx : ∀ E, o = .inr E → ∀ (H1 : Heap) (locs1 : List Loc) (q : Addr) (ce : Cell), Wm G M1 H1 → va_S (gA G) (xs_ X).heap H1 locs1 → H1[q]? = some ce → ce.vm = .none → (xs_ X).vm.findClass E = some ce.cls →
      vx_W X.1 X.2.1 X.2.2.1 X.2.2.2.1 (xs_ X) X.2.2.2.2.2.1 X.2.2.2.2.2.2.1 X.2.2.2.2.2.2.2.1 X.2.2.2.2.2.2.2.2.1 X.2.2.2.2.2.2.2.2.2.1 H1 locs1 (xk_ X + 1) (xz_ X + 6) Q (F0 X.2.2.2.2.2.1 pc la (rest.map (cv G))) q) : WX X H locs Q pc la st0 := by
  intro T hT XX
  rcases hrun T hT XX with ⟨v, st₀, t, T', L, h0, X', hL, e1, e2, hq, hst⟩ | ⟨q, st₀, t, T', L, E, ce, h0, X', hL, e1, e2, hx, hce, hcv, hcl, hst⟩
  · obtain ⟨v', rfl, hv, hw, hF⟩ := hq
    cases hv
    obtain ⟨z1, z2, hS⟩ := vx_keep h0 e1 s (fun q _ h => h) (fun q h => h) hL hF
    have hw' : Wm G M1 T'.heap := by rw [e1]; exact hw
    have o2' : ∀ w ∈ v'.toList ++ rest, okv G w := by
      cases v' with
      | none => exact o2
      | some x => exact okT (hok x rfl) o2
    obtain ⟨t2, a1, b1⟩ := kr v' rfl o1 o2' T'.heap (locs ++ L) la hw' hS h T' rfl X'
    refine ⟨t2, hst t2 ?_, b1⟩
    have e : (v'.map (cv G)).toList ++ rest.map (cv G) = (v'.toList ++ rest).map (cv G) := by cases v' <;> rfl
    rw [e]
    exact a1
  · obtain ⟨rfl, hw, hF⟩ := hx
    obtain ⟨z1, z2, hS⟩ := vx_keep h0 e1 s (fun q _ h => h) (fun q h => h) hL hF
    have hw' : Wm G M1 T'.heap := by rw [e1]; exact hw
    obtain ⟨t2, a1, b1⟩ := kx E rfl T'.heap (locs ++ L) q ce hw' hS (by rw [e1]; exact hce) hcv hcl T' rfl X'
    exact ⟨t2, hst.trans a1, b1⟩
/-- a throw that isn't caught here -/
theorem out_go (C : CX true G own cc nL ret rm X) {E : String} {M1 : Mem} {rest : List Value} {la : Array Slot} (H1 : Heap) (locs1 : List Loc) (q : Addr) (ce : Cell) (hw : Wm G M1 H1) (hS : va_S (gA G) (xs_ X).heap H1 locs1) (hce : H1[q]? = some ce) (hcv : ce.vm = .none) (hcl : (xs_ X).vm.findClass E = some ce.cls) :
    vx_W X.1 X.2.1 X.2.2.1 X.2.2.2.1 (xs_ X) X.2.2.2.2.2.1 X.2.2.2.2.2.2.1 X.2.2.2.2.2.2.2.1 X.2.2.2.2.2.2.2.2.1 X.2.2.2.2.2.2.2.2.2.1 H1 locs1 (xk_ X + 1) (xz_ X + 6) (QX G X (.inr E) M1) (F0 X.2.2.2.2.2.1 pc la rest) q := by
  obtain ⟨c1, c2, c3⟩ := C.2.2.2.2.2.2.2.1 rfl
  exact vx_out (Qc := QR G (.inr E) M1) (XC := XR G (.inr E) M1) (mc := 1) (ms := 6) (fun x hx => (c1 x hx).elim) C.2.2.2.2.2.1 hce hcv hcl (fun t9 ht9 _ => ⟨rfl, by rw [ht9]; exact hw, hS.F ht9⟩) hS.2.2 (by rw [c2]; exact Nat.le_refl _) (by rw [c3]; exact Nat.le_refl _)
theorem g_callV (C : CX tb G own cc nL ret rm X) {idx : Nat} {y : MethodName} {zc : ByteArray} {zl n d t k : Nat} {zr : Option FieldType} {o : Outc} {M1 : Mem} {As rest : List AV}
    (lk : lkV own idx y zc zl zr n) (hct : CT X.2.1 G y zc zl zr d (vR t k :: As) M o M1) (ht : t < 11) (hcls : cN t = y.cls) (hn : As.length = n) (hst : As.reverse ++ vR t k :: rest = st) (hW : csum rest ≤ 8)
    (hroom : d + 1 ≤ rm.frames ∧ 8 + (zl + 11) + 36 * d ≤ rm.locals) (hmc : xk_ X + mcx o ≤ rm.cells ∧ xz_ X + msx o ≤ rm.slots) (hd : decode cc pc = .ok (.invokevirtual idx, 3))
    (hok : ∀ v, o = .inl (some v) → okv G v) (kr : ∀ v, o = .inl v → GW G X nL Q (pc + 3) ls (v.toList ++ rest) M1) (kx : ∀ E, o = .inr E → ∀ (H1 : Heap) (locs1 : List Loc) (la : Array Slot) (q : Addr) (ce : Cell), lv_has la nL (ls.map (cq G)) → Wm G M1 H1 → va_S (gA G) (xs_ X).heap H1 locs1 → H1[q]? = some ce → ce.vm = .none → (xs_ X).vm.findClass E = some ce.cls → vx_W X.1 X.2.1 X.2.2.1 X.2.2.2.1 (xs_ X) X.2.2.2.2.2.1 X.2.2.2.2.2.2.1 X.2.2.2.2.2.2.2.1 X.2.2.2.2.2.2.2.2.1 X.2.2.2.2.2.2.2.2.2.1 H1 locs1 (xk_ X + 1) (xz_ X + 6) Q (F0 X.2.2.2.2.2.1 pc la (rest.map (cv G))) q) : GW G X nL Q pc ls st M := by
  subst hst
  intro o1 o2 H locs la w s h
  have hid := okI (o2 (vR t k) (by simp)) (by omega)
  obtain ⟨q0, h0, h1⟩ := wl_at (M := M) hid
  rw [enc_o ht] at h1
  have hR : X.2.2.2.1 = rm := C.2.2.2.2.2.2.2.2.2.1
  have hSF := (ca C).kept ⟨s.1, s.2.1⟩
  have hwm : va_P (gD G) vwCl (wl G M) H := w.1
  refine call_go C (As := As) (rest := rest) (vx_runV (As := As.map (cv G)) (b := gad G t k) (C := y.cls) ⟨C.1, C.2.1, C.2.2.1, C.2.2.2.1, C.2.2.2.2.1⟩ hct ⟨cb_of C lk.1 hroom, C.2.2.2.2.1 _ lk.2.1, C.2.2.2.2.1 _ lk.2.2⟩ ⟨pr_blind, ?_, ?_⟩ rfl (by rw [List.length_map]; exact hn) h.1 ?_ (lv_room (by rw [csum_cv]; exact hW)) hd (by rw [hR]; exact hmc)) o1 (fun v hv => o2 v (by simp [hv])) s h hok kr (fun E hE H1 locs1 q ce => kx E hE H1 locs1 la q ce h)
  · have := va_recv (ca C).1 hwm (cl_at ht) h1
    rw [← hcls]
    exact this
  · intro U hU hWU
    exact ⟨rfl, by rw [hU]; exact w, by rw [hU]; exact hSF.moved hWU⟩
  · show (As.reverse ++ vR t k :: rest).map (cv G) = _
    rw [List.map_append, List.map_cons, List.map_reverse]
    rfl
theorem g_callS (C : CX tb G own cc nL ret rm X) {idx : Nat} {y : MethodName} {zc : ByteArray} {zl n d : Nat} {zr : Option FieldType} {o : Outc} {M1 : Mem} {As rest : List AV}
    (lk : lkS own idx y zc zl zr n) (hct : CT X.2.1 G y zc zl zr d As M o M1) (hn : As.length = n) (hst : As.reverse ++ rest = st) (hW : csum rest ≤ 8)
    (hroom : d + 1 ≤ rm.frames ∧ 8 + (zl + 11) + 36 * d ≤ rm.locals) (hmc : xk_ X + mcx o ≤ rm.cells ∧ xz_ X + msx o ≤ rm.slots) (hd : decode cc pc = .ok (.invokestatic idx, 3))
    (hok : ∀ v, o = .inl (some v) → okv G v) (kr : ∀ v, o = .inl v → GW G X nL Q (pc + 3) ls (v.toList ++ rest) M1) (kx : ∀ E, o = .inr E → ∀ (H1 : Heap) (locs1 : List Loc) (la : Array Slot) (q : Addr) (ce : Cell), lv_has la nL (ls.map (cq G)) → Wm G M1 H1 → va_S (gA G) (xs_ X).heap H1 locs1 → H1[q]? = some ce → ce.vm = .none → (xs_ X).vm.findClass E = some ce.cls → vx_W X.1 X.2.1 X.2.2.1 X.2.2.2.1 (xs_ X) X.2.2.2.2.2.1 X.2.2.2.2.2.2.1 X.2.2.2.2.2.2.2.1 X.2.2.2.2.2.2.2.2.1 X.2.2.2.2.2.2.2.2.2.1 H1 locs1 (xk_ X + 1) (xz_ X + 6) Q (F0 X.2.2.2.2.2.1 pc la (rest.map (cv G))) q) : GW G X nL Q pc ls st M := by
  subst hst
  intro o1 o2 H locs la w s h
  have hR : X.2.2.2.1 = rm := C.2.2.2.2.2.2.2.2.2.1
  have hSF := (ca C).kept ⟨s.1, s.2.1⟩
  refine call_go C (As := As) (rest := rest) (vx_runS (As := As.map (cv G)) ⟨C.1, C.2.1, C.2.2.1, C.2.2.2.1, C.2.2.2.2.1⟩ hct ⟨cb_of C lk.1 hroom, C.2.2.2.2.1 _ lk.2⟩ ⟨pr_blind, ?_⟩ rfl (by rw [List.length_map]; exact hn) h.1 ?_ (lv_room (by rw [csum_cv]; exact hW)) hd (by rw [hR]; exact hmc)) o1 (fun v hv => o2 v (by simp [hv])) s h hok kr (fun E hE H1 locs1 q ce => kx E hE H1 locs1 la q ce h)
  · intro U hU hWU
    exact ⟨rfl, by rw [hU]; exact w, by rw [hU]; exact hSF.moved hWU⟩
  · show (As.reverse ++ rest).map (cv G) = _
    rw [List.map_append, List.map_reverse]
theorem g_callVi (C : CX true G own cc nL ret rm X) {idx : Nat} {y : MethodName} {zc : ByteArray} {zl n d t k : Nat} {zr : Option FieldType} {x : Int32} {M1 : Mem} {As rest : List AV} (lk : lkV own idx y zc zl zr n) (hct : CT X.2.1 G y zc zl zr d (vR t k :: As) M (.inl (some (vI x))) M1) (ht : t < 11) (hcls : cN t = y.cls) (hn : As.length = n) (hst : As.reverse ++ vR t k :: rest = st) (hW : csum rest ≤ 8) (hroom : d + 1 ≤ rm.frames ∧ 8 + (zl + 11) + 36 * d ≤ rm.locals) (hd : decode cc pc = .ok (.invokevirtual idx, 3)) (kr : GW G X nL Q (pc + 3) ls (vI x :: rest) M1) : GW G X nL Q pc ls st M :=
  g_callV C lk hct ht hcls hn hst hW hroom ⟨by rw [(C.2.2.2.2.2.2.2.1 rfl).2.1]; exact Nat.zero_le _, by rw [(C.2.2.2.2.2.2.2.1 rfl).2.2]; exact Nat.zero_le _⟩ hd (fun v hv => by cases hv; trivial) (fun v hv => by cases hv; exact kr) (fun E hE => by cases hE)
theorem g_callSi (C : CX true G own cc nL ret rm X) {idx : Nat} {y : MethodName} {zc : ByteArray} {zl n d : Nat} {zr : Option FieldType} {x : Int32} {M1 : Mem} {As rest : List AV} (lk : lkS own idx y zc zl zr n) (hct : CT X.2.1 G y zc zl zr d As M (.inl (some (vI x))) M1) (hn : As.length = n) (hst : As.reverse ++ rest = st) (hW : csum rest ≤ 8) (hroom : d + 1 ≤ rm.frames ∧ 8 + (zl + 11) + 36 * d ≤ rm.locals) (hd : decode cc pc = .ok (.invokestatic idx, 3)) (kr : GW G X nL Q (pc + 3) ls (vI x :: rest) M1) : GW G X nL Q pc ls st M :=
  g_callS C lk hct hn hst hW hroom ⟨by rw [(C.2.2.2.2.2.2.2.1 rfl).2.1]; exact Nat.zero_le _, by rw [(C.2.2.2.2.2.2.2.1 rfl).2.2]; exact Nat.zero_le _⟩ hd (fun v hv => by cases hv; trivial) (fun v hv => by cases hv; exact kr) (fun E hE => by cases hE)
theorem g_callVl (C : CX true G own cc nL ret rm X) {idx : Nat} {y : MethodName} {zc : ByteArray} {zl n d t k : Nat} {zr : Option FieldType} {x : Int64} {M1 : Mem} {As rest : List AV} (lk : lkV own idx y zc zl zr n) (hct : CT X.2.1 G y zc zl zr d (vR t k :: As) M (.inl (some (vL x))) M1) (ht : t < 11) (hcls : cN t = y.cls) (hn : As.length = n) (hst : As.reverse ++ vR t k :: rest = st) (hW : csum rest ≤ 8) (hroom : d + 1 ≤ rm.frames ∧ 8 + (zl + 11) + 36 * d ≤ rm.locals) (hd : decode cc pc = .ok (.invokevirtual idx, 3)) (kr : GW G X nL Q (pc + 3) ls (vL x :: rest) M1) : GW G X nL Q pc ls st M :=
  g_callV C lk hct ht hcls hn hst hW hroom ⟨by rw [(C.2.2.2.2.2.2.2.1 rfl).2.1]; exact Nat.zero_le _, by rw [(C.2.2.2.2.2.2.2.1 rfl).2.2]; exact Nat.zero_le _⟩ hd (fun v hv => by cases hv; trivial) (fun v hv => by cases hv; exact kr) (fun E hE => by cases hE)
theorem g_callSl (C : CX true G own cc nL ret rm X) {idx : Nat} {y : MethodName} {zc : ByteArray} {zl n d : Nat} {zr : Option FieldType} {x : Int64} {M1 : Mem} {As rest : List AV} (lk : lkS own idx y zc zl zr n) (hct : CT X.2.1 G y zc zl zr d As M (.inl (some (vL x))) M1) (hn : As.length = n) (hst : As.reverse ++ rest = st) (hW : csum rest ≤ 8) (hroom : d + 1 ≤ rm.frames ∧ 8 + (zl + 11) + 36 * d ≤ rm.locals) (hd : decode cc pc = .ok (.invokestatic idx, 3)) (kr : GW G X nL Q (pc + 3) ls (vL x :: rest) M1) : GW G X nL Q pc ls st M :=
  g_callS C lk hct hn hst hW hroom ⟨by rw [(C.2.2.2.2.2.2.2.1 rfl).2.1]; exact Nat.zero_le _, by rw [(C.2.2.2.2.2.2.2.1 rfl).2.2]; exact Nat.zero_le _⟩ hd (fun v hv => by cases hv; trivial) (fun v hv => by cases hv; exact kr) (fun E hE => by cases hE)
theorem g_callVd (C : CX true G own cc nL ret rm X) {idx : Nat} {y : MethodName} {zc : ByteArray} {zl n d t k : Nat} {zr : Option FieldType} {x : UInt64} {M1 : Mem} {As rest : List AV} (lk : lkV own idx y zc zl zr n) (hct : CT X.2.1 G y zc zl zr d (vR t k :: As) M (.inl (some (vD x))) M1) (ht : t < 11) (hcls : cN t = y.cls) (hn : As.length = n) (hst : As.reverse ++ vR t k :: rest = st) (hW : csum rest ≤ 8) (hroom : d + 1 ≤ rm.frames ∧ 8 + (zl + 11) + 36 * d ≤ rm.locals) (hd : decode cc pc = .ok (.invokevirtual idx, 3)) (kr : GW G X nL Q (pc + 3) ls (vD x :: rest) M1) : GW G X nL Q pc ls st M :=
  g_callV C lk hct ht hcls hn hst hW hroom ⟨by rw [(C.2.2.2.2.2.2.2.1 rfl).2.1]; exact Nat.zero_le _, by rw [(C.2.2.2.2.2.2.2.1 rfl).2.2]; exact Nat.zero_le _⟩ hd (fun v hv => by cases hv; trivial) (fun v hv => by cases hv; exact kr) (fun E hE => by cases hE)
theorem g_callSd (C : CX true G own cc nL ret rm X) {idx : Nat} {y : MethodName} {zc : ByteArray} {zl n d : Nat} {zr : Option FieldType} {x : UInt64} {M1 : Mem} {As rest : List AV} (lk : lkS own idx y zc zl zr n) (hct : CT X.2.1 G y zc zl zr d As M (.inl (some (vD x))) M1) (hn : As.length = n) (hst : As.reverse ++ rest = st) (hW : csum rest ≤ 8) (hroom : d + 1 ≤ rm.frames ∧ 8 + (zl + 11) + 36 * d ≤ rm.locals) (hd : decode cc pc = .ok (.invokestatic idx, 3)) (kr : GW G X nL Q (pc + 3) ls (vD x :: rest) M1) : GW G X nL Q pc ls st M :=
  g_callS C lk hct hn hst hW hroom ⟨by rw [(C.2.2.2.2.2.2.2.1 rfl).2.1]; exact Nat.zero_le _, by rw [(C.2.2.2.2.2.2.2.1 rfl).2.2]; exact Nat.zero_le _⟩ hd (fun v hv => by cases hv; trivial) (fun v hv => by cases hv; exact kr) (fun E hE => by cases hE)
theorem g_callVv (C : CX true G own cc nL ret rm X) {idx : Nat} {y : MethodName} {zc : ByteArray} {zl n d t k : Nat} {zr : Option FieldType} {M1 : Mem} {As rest : List AV} (lk : lkV own idx y zc zl zr n) (hct : CT X.2.1 G y zc zl zr d (vR t k :: As) M (.inl none) M1) (ht : t < 11) (hcls : cN t = y.cls) (hn : As.length = n) (hst : As.reverse ++ vR t k :: rest = st) (hW : csum rest ≤ 8) (hroom : d + 1 ≤ rm.frames ∧ 8 + (zl + 11) + 36 * d ≤ rm.locals) (hd : decode cc pc = .ok (.invokevirtual idx, 3)) (kr : GW G X nL Q (pc + 3) ls (rest) M1) : GW G X nL Q pc ls st M :=
  g_callV C lk hct ht hcls hn hst hW hroom ⟨by rw [(C.2.2.2.2.2.2.2.1 rfl).2.1]; exact Nat.zero_le _, by rw [(C.2.2.2.2.2.2.2.1 rfl).2.2]; exact Nat.zero_le _⟩ hd (fun v hv => by cases hv) (fun v hv => by cases hv; exact kr) (fun E hE => by cases hE)
theorem g_callSv (C : CX true G own cc nL ret rm X) {idx : Nat} {y : MethodName} {zc : ByteArray} {zl n d : Nat} {zr : Option FieldType} {M1 : Mem} {As rest : List AV} (lk : lkS own idx y zc zl zr n) (hct : CT X.2.1 G y zc zl zr d As M (.inl none) M1) (hn : As.length = n) (hst : As.reverse ++ rest = st) (hW : csum rest ≤ 8) (hroom : d + 1 ≤ rm.frames ∧ 8 + (zl + 11) + 36 * d ≤ rm.locals) (hd : decode cc pc = .ok (.invokestatic idx, 3)) (kr : GW G X nL Q (pc + 3) ls (rest) M1) : GW G X nL Q pc ls st M :=
  g_callS C lk hct hn hst hW hroom ⟨by rw [(C.2.2.2.2.2.2.2.1 rfl).2.1]; exact Nat.zero_le _, by rw [(C.2.2.2.2.2.2.2.1 rfl).2.2]; exact Nat.zero_le _⟩ hd (fun v hv => by cases hv) (fun v hv => by cases hv; exact kr) (fun E hE => by cases hE)
theorem g_callVr (C : CX true G own cc nL ret rm X) {idx : Nat} {y : MethodName} {zc : ByteArray} {zl n d t k t' k' : Nat} {zr : Option FieldType} {M1 : Mem} {As rest : List AV} (lk : lkV own idx y zc zl zr n) (hct : CT X.2.1 G y zc zl zr d (vR t k :: As) M (.inl (some (vR t' k'))) M1) (hid : (t', k') ∈ gids G) (ht : t < 11) (hcls : cN t = y.cls) (hn : As.length = n) (hst : As.reverse ++ vR t k :: rest = st) (hW : csum rest ≤ 8) (hroom : d + 1 ≤ rm.frames ∧ 8 + (zl + 11) + 36 * d ≤ rm.locals) (hd : decode cc pc = .ok (.invokevirtual idx, 3)) (kr : GW G X nL Q (pc + 3) ls (vR t' k' :: rest) M1) : GW G X nL Q pc ls st M :=
  g_callV C lk hct ht hcls hn hst hW hroom ⟨by rw [(C.2.2.2.2.2.2.2.1 rfl).2.1]; exact Nat.zero_le _, by rw [(C.2.2.2.2.2.2.2.1 rfl).2.2]; exact Nat.zero_le _⟩ hd (fun v hv => by cases hv; exact Or.inl hid) (fun v hv => by cases hv; exact kr) (fun E hE => by cases hE)
theorem g_callVx {d0 : Nat} {E : String} (C : CX true G own cc nL ret (rmx d0 (.inr E)) X) {idx : Nat} {y : MethodName} {zc : ByteArray} {zl n d t k : Nat} {zr : Option FieldType} {M1 : Mem} {As rest : List AV} (lk : lkV own idx y zc zl zr n) (hct : CT X.2.1 G y zc zl zr d (vR t k :: As) M (.inr E) M1) (ht : t < 11) (hcls : cN t = y.cls) (hn : As.length = n) (hst : As.reverse ++ vR t k :: rest = st) (hW : csum rest ≤ 8) (hroom : d + 1 ≤ (rmx d0 (.inr E)).frames ∧ 8 + (zl + 11) + 36 * d ≤ (rmx d0 (.inr E)).locals) (hd : decode cc pc = .ok (.invokevirtual idx, 3)) : GW G X nL (QX G X (.inr E) M1) pc ls st M :=
  g_callV C lk hct ht hcls hn hst hW hroom ⟨by rw [(C.2.2.2.2.2.2.2.1 rfl).2.1]; exact Nat.le_refl _, by rw [(C.2.2.2.2.2.2.2.1 rfl).2.2]; exact Nat.le_refl _⟩ hd (fun v hv => by cases hv) (fun v hv => by cases hv) (fun E' hE H1 locs1 la q ce _ hw hS h1 h2 h3 => by cases hE; exact out_go C H1 locs1 q ce hw hS h1 h2 h3)
theorem g_callVi_k (C : CX tb G own cc nL ret rm X) {idx : Nat} {y : MethodName} {zc : ByteArray} {zl n d t k : Nat} {zr : Option FieldType} {x : Int32} {M1 : Mem} {As rest : List AV} (lk : lkV own idx y zc zl zr n) (hct : CT X.2.1 G y zc zl zr d (vR t k :: As) M (.inl (some (vI x))) M1) (ht : t < 11) (hcls : cN t = y.cls) (hn : As.length = n) (hst : As.reverse ++ vR t k :: rest = st) (hW : csum rest ≤ 8) (hroom : d + 1 ≤ rm.frames ∧ 8 + (zl + 11) + 36 * d ≤ rm.locals) (hmc : xk_ X ≤ rm.cells ∧ xz_ X ≤ rm.slots) (hd : decode cc pc = .ok (.invokevirtual idx, 3)) (kr : GW G X nL Q (pc + 3) ls (vI x :: rest) M1) : GW G X nL Q pc ls st M :=
  g_callV C lk hct ht hcls hn hst hW hroom hmc hd (fun v hv => by cases hv; trivial) (fun v hv => by cases hv; exact kr) (fun E hE => by cases hE)
theorem g_callSi_k (C : CX tb G own cc nL ret rm X) {idx : Nat} {y : MethodName} {zc : ByteArray} {zl n d : Nat} {zr : Option FieldType} {x : Int32} {M1 : Mem} {As rest : List AV} (lk : lkS own idx y zc zl zr n) (hct : CT X.2.1 G y zc zl zr d As M (.inl (some (vI x))) M1) (hn : As.length = n) (hst : As.reverse ++ rest = st) (hW : csum rest ≤ 8) (hroom : d + 1 ≤ rm.frames ∧ 8 + (zl + 11) + 36 * d ≤ rm.locals) (hmc : xk_ X ≤ rm.cells ∧ xz_ X ≤ rm.slots) (hd : decode cc pc = .ok (.invokestatic idx, 3)) (kr : GW G X nL Q (pc + 3) ls (vI x :: rest) M1) : GW G X nL Q pc ls st M :=
  g_callS C lk hct hn hst hW hroom hmc hd (fun v hv => by cases hv; trivial) (fun v hv => by cases hv; exact kr) (fun E hE => by cases hE)
theorem g_callVl_k (C : CX tb G own cc nL ret rm X) {idx : Nat} {y : MethodName} {zc : ByteArray} {zl n d t k : Nat} {zr : Option FieldType} {x : Int64} {M1 : Mem} {As rest : List AV} (lk : lkV own idx y zc zl zr n) (hct : CT X.2.1 G y zc zl zr d (vR t k :: As) M (.inl (some (vL x))) M1) (ht : t < 11) (hcls : cN t = y.cls) (hn : As.length = n) (hst : As.reverse ++ vR t k :: rest = st) (hW : csum rest ≤ 8) (hroom : d + 1 ≤ rm.frames ∧ 8 + (zl + 11) + 36 * d ≤ rm.locals) (hmc : xk_ X ≤ rm.cells ∧ xz_ X ≤ rm.slots) (hd : decode cc pc = .ok (.invokevirtual idx, 3)) (kr : GW G X nL Q (pc + 3) ls (vL x :: rest) M1) : GW G X nL Q pc ls st M :=
  g_callV C lk hct ht hcls hn hst hW hroom hmc hd (fun v hv => by cases hv; trivial) (fun v hv => by cases hv; exact kr) (fun E hE => by cases hE)
theorem g_callSl_k (C : CX tb G own cc nL ret rm X) {idx : Nat} {y : MethodName} {zc : ByteArray} {zl n d : Nat} {zr : Option FieldType} {x : Int64} {M1 : Mem} {As rest : List AV} (lk : lkS own idx y zc zl zr n) (hct : CT X.2.1 G y zc zl zr d As M (.inl (some (vL x))) M1) (hn : As.length = n) (hst : As.reverse ++ rest = st) (hW : csum rest ≤ 8) (hroom : d + 1 ≤ rm.frames ∧ 8 + (zl + 11) + 36 * d ≤ rm.locals) (hmc : xk_ X ≤ rm.cells ∧ xz_ X ≤ rm.slots) (hd : decode cc pc = .ok (.invokestatic idx, 3)) (kr : GW G X nL Q (pc + 3) ls (vL x :: rest) M1) : GW G X nL Q pc ls st M :=
  g_callS C lk hct hn hst hW hroom hmc hd (fun v hv => by cases hv; trivial) (fun v hv => by cases hv; exact kr) (fun E hE => by cases hE)
theorem g_callVd_k (C : CX tb G own cc nL ret rm X) {idx : Nat} {y : MethodName} {zc : ByteArray} {zl n d t k : Nat} {zr : Option FieldType} {x : UInt64} {M1 : Mem} {As rest : List AV} (lk : lkV own idx y zc zl zr n) (hct : CT X.2.1 G y zc zl zr d (vR t k :: As) M (.inl (some (vD x))) M1) (ht : t < 11) (hcls : cN t = y.cls) (hn : As.length = n) (hst : As.reverse ++ vR t k :: rest = st) (hW : csum rest ≤ 8) (hroom : d + 1 ≤ rm.frames ∧ 8 + (zl + 11) + 36 * d ≤ rm.locals) (hmc : xk_ X ≤ rm.cells ∧ xz_ X ≤ rm.slots) (hd : decode cc pc = .ok (.invokevirtual idx, 3)) (kr : GW G X nL Q (pc + 3) ls (vD x :: rest) M1) : GW G X nL Q pc ls st M :=
  g_callV C lk hct ht hcls hn hst hW hroom hmc hd (fun v hv => by cases hv; trivial) (fun v hv => by cases hv; exact kr) (fun E hE => by cases hE)
theorem g_callSd_k (C : CX tb G own cc nL ret rm X) {idx : Nat} {y : MethodName} {zc : ByteArray} {zl n d : Nat} {zr : Option FieldType} {x : UInt64} {M1 : Mem} {As rest : List AV} (lk : lkS own idx y zc zl zr n) (hct : CT X.2.1 G y zc zl zr d As M (.inl (some (vD x))) M1) (hn : As.length = n) (hst : As.reverse ++ rest = st) (hW : csum rest ≤ 8) (hroom : d + 1 ≤ rm.frames ∧ 8 + (zl + 11) + 36 * d ≤ rm.locals) (hmc : xk_ X ≤ rm.cells ∧ xz_ X ≤ rm.slots) (hd : decode cc pc = .ok (.invokestatic idx, 3)) (kr : GW G X nL Q (pc + 3) ls (vD x :: rest) M1) : GW G X nL Q pc ls st M :=
  g_callS C lk hct hn hst hW hroom hmc hd (fun v hv => by cases hv; trivial) (fun v hv => by cases hv; exact kr) (fun E hE => by cases hE)
theorem g_callVv_k (C : CX tb G own cc nL ret rm X) {idx : Nat} {y : MethodName} {zc : ByteArray} {zl n d t k : Nat} {zr : Option FieldType} {M1 : Mem} {As rest : List AV} (lk : lkV own idx y zc zl zr n) (hct : CT X.2.1 G y zc zl zr d (vR t k :: As) M (.inl none) M1) (ht : t < 11) (hcls : cN t = y.cls) (hn : As.length = n) (hst : As.reverse ++ vR t k :: rest = st) (hW : csum rest ≤ 8) (hroom : d + 1 ≤ rm.frames ∧ 8 + (zl + 11) + 36 * d ≤ rm.locals) (hmc : xk_ X ≤ rm.cells ∧ xz_ X ≤ rm.slots) (hd : decode cc pc = .ok (.invokevirtual idx, 3)) (kr : GW G X nL Q (pc + 3) ls (rest) M1) : GW G X nL Q pc ls st M :=
  g_callV C lk hct ht hcls hn hst hW hroom hmc hd (fun v hv => by cases hv) (fun v hv => by cases hv; exact kr) (fun E hE => by cases hE)
theorem g_callSv_k (C : CX tb G own cc nL ret rm X) {idx : Nat} {y : MethodName} {zc : ByteArray} {zl n d : Nat} {zr : Option FieldType} {M1 : Mem} {As rest : List AV} (lk : lkS own idx y zc zl zr n) (hct : CT X.2.1 G y zc zl zr d As M (.inl none) M1) (hn : As.length = n) (hst : As.reverse ++ rest = st) (hW : csum rest ≤ 8) (hroom : d + 1 ≤ rm.frames ∧ 8 + (zl + 11) + 36 * d ≤ rm.locals) (hmc : xk_ X ≤ rm.cells ∧ xz_ X ≤ rm.slots) (hd : decode cc pc = .ok (.invokestatic idx, 3)) (kr : GW G X nL Q (pc + 3) ls (rest) M1) : GW G X nL Q pc ls st M :=
  g_callS C lk hct hn hst hW hroom hmc hd (fun v hv => by cases hv) (fun v hv => by cases hv; exact kr) (fun E hE => by cases hE)
/-- a method's contract, out of the walk of its body -/
theorem ct_of {l : Launch} {y : MethodName} {d : Nat} {av : List AV} {o : Outc} {M' : Mem} (ls0 : List (Nat × AV)) (hy : plainName y.cls = true) (hl : l.stackTraces = false) (hG : GOK G) (hlen : csum av ≤ nL) (hls : ls0.map (cq G) = lv_args 0 (av.map (cv G))) (hok : ∀ v ∈ av, okv G v) (hok0 : ∀ q ∈ ls0, okv G q.2)
    (body : ∀ X, X.2.1 = l → CX true G y.cls cc nL ret (rmx d o) X → GW G X nL (QX G X o M') 0 ls0 [] M) : CT l G y cc nL ret d av M o M' := by
  refine vx_ofW hy rfl ?_
  intro p e s m args below meth c s₁ B hml hnt hv
  obtain ⟨rfl, hw⟩ := hv
  have hts := atoms_spec (ws := Cond.code y cc nL ret :: BW) B.pre
  have C : CX true G y.cls cc nL ret (rmx d o) (p, l, e, (headSpec (Cond.code y cc nL ret :: BW) (rmx d o)).room, s, m, (av.map (cv G)).toArray, below, meth, c, 0, 0) :=
    ⟨B.exec, B.bytes, hml, findClass_of_methodNamed B.named, fun w hw => hts w (List.mem_cons_of_mem _ hw), B.notSynchronized, B.returns, fun _ => ⟨hnt, rfl, rfl⟩, hl, rfl, hG, hw.2⟩
  have hsl : ∀ vs : List AV, (lg_sl (vs.map (cv G))).length = csum vs := by
    intro vs
    induction vs with
    | nil => rfl
    | cons v r ih =>
      show (List.flatMap _ (cv G v :: r.map (cv G))).length = _
      rw [List.flatMap_cons, List.length_append]
      show _ + (lg_sl (r.map (cv G))).length = (if cat2 v then 2 else 1) + csum r
      rw [ih]
      rcases v with x | x | x | x | x <;> rfl
  have hlv := lv_entry (av.map (cv G)) (n := nL) (by rw [hsl]; exact hlen)
  rw [lg_entry_eq]
  have k := body _ rfl C hok0 (fun _ h => by cases h) s.heap [] ((lg_sl (av.map (cv G)) ++ List.replicate (nL - (lg_sl (av.map (cv G))).length) Slot.unset).toArray) hw.1 va_S.rf (by rw [show (fun q : Nat × AV => (q.1, cv G q.2)) = cq G from rfl, hls]; exact hlv)
  exact k
end CALLS

/-! p28: the claim is false as printed (its room): made by wip/refute/port.py out of whole's rows -/
/-! Constructors: a walk predicate over a growing world, its rows. -/
section CTOR
variable {D : va_G} {cI cL : ClassId} {A : Nat → Prop} {own : String} {cc : ByteArray} {nL : Nat} {rm : Room} {X : PX} {Q : State → Prop} {k z pc : Nat} {ls : List (Nat × Value)} {st st2 : List Value} {ws : va_W}
abbrev G0 (D : va_G) (cI cL : ClassId) (A : Nat → Prop) : GE := (D, cI, cL, fun _ _ => 0, [], A, none)
def KX (D : va_G) (cI cL : ClassId) (A : Nat → Prop) (own : String) (cc : ByteArray) (nL : Nat) (rm : Room) (X : PX) : Prop :=
  X.1.tables.exec = Jvm.exec ∧ X.2.2.2.2.2.2.2.2.2.1.code = cc ∧ X.2.2.2.2.2.2.2.2.2.1.maxLocals = nL ∧ (xs_ X).vm.findClass own = some X.2.2.2.2.2.1.cls ∧ (∀ w ∈ BW, w.before X.2.2.2.2.2.2.1 (xs_ X) = true) ∧ X.2.2.2.2.2.2.2.2.1.locks = false ∧ X.2.2.2.2.2.2.2.2.1.sig.returnType = none ∧ X.2.1.stackTraces = false ∧ X.2.2.2.1 = rm ∧ X.2.2.2.2.2.2.2.2.1.name = "<init>" ∧ SF (G0 D cI cL A) (xs_ X) (xs_ X).heap
def NW (D : va_G) (A : Nat → Prop) (X : PX) (nL : Nat) (Q : State → Prop) (k z pc : Nat) (ls : List (Nat × Value)) (st : List Value) (ws : va_W) : Prop :=
  ∀ (H : Heap) (locs : List Loc) (la : Array Slot), va_P D vwCl ws H → va_D A ws → va_S A (xs_ X).heap H locs → lv_has la nL ls → W X.1 X.2.1 X.2.2.1 X.2.2.2.1 (xs_ X) X.2.2.2.2.2.1 X.2.2.2.2.2.2.1 X.2.2.2.2.2.2.2.1 X.2.2.2.2.2.2.2.2.1 X.2.2.2.2.2.2.2.2.2.1 H locs k z Q (F0 X.2.2.2.2.2.1 pc la st)
theorem kA (K : KX D cI cL A own cc nL rm X) : ∀ q, (xs_ X).heap.size ≤ q → A q := K.2.2.2.2.2.2.2.2.2.2.2.2.2.1
theorem kK (K : KX D cI cL A own cc nL rm X) : va_K D vwCl [(cI, .int), (cL, .long)] (xs_ X) := K.2.2.2.2.2.2.2.2.2.2.1
theorem n_iconst (K : KX D cI cL A own cc nL rm X) {n : Int} {v : Int32} (hd : decode cc pc = .ok (.iconst n, 1)) (hv : Int32.ofInt n = v) (kk : NW D A X nL Q k z (pc + 1) ls (.int v :: st) ws) : NW D A X nL Q k z pc ls st ws := fun H locs la hP hD hS h => lv_iconst K.1 K.2.1 hd hv (kk H locs la hP hD hS h)
theorem n_bipush (K : KX D cI cL A own cc nL rm X) {n : Int} {v : Int32} (hd : decode cc pc = .ok (.bipush n, 2)) (hv : (Int8.ofInt n).toInt32 = v) (kk : NW D A X nL Q k z (pc + 2) ls (.int v :: st) ws) : NW D A X nL Q k z pc ls st ws := fun H locs la hP hD hS h => lv_bipush K.1 K.2.1 hd hv (kk H locs la hP hD hS h)
theorem n_sipush (K : KX D cI cL A own cc nL rm X) {n : Int} {v : Int32} (hd : decode cc pc = .ok (.sipush n, 3)) (hv : (Int16.ofInt n).toInt32 = v) (kk : NW D A X nL Q k z (pc + 3) ls (.int v :: st) ws) : NW D A X nL Q k z pc ls st ws := fun H locs la hP hD hS h => lv_sipush K.1 K.2.1 hd hv (kk H locs la hP hD hS h)
theorem n_aload (K : KX D cI cL A own cc nL rm X) (j : Nat) {n : Fin 4} {i x : Nat} (hd : decode cc pc = .ok (.aload_n n, 1)) (hi : (n : Nat) = i) (hj : ls[j]? = some (i, .ref x)) (kk : NW D A X nL Q k z (pc + 1) ls (.ref x :: st) ws) : NW D A X nL Q k z pc ls st ws := fun H locs la hP hD hS h => lv_aload_n K.1 K.2.1 hd hi (lv_at h j hj) (kk H locs la hP hD hS h)
theorem n_iload (K : KX D cI cL A own cc nL rm X) (j : Nat) {n : Fin 4} {i : Nat} {x : Int32} (hd : decode cc pc = .ok (.iload_n n, 1)) (hi : (n : Nat) = i) (hj : ls[j]? = some (i, .int x)) (kk : NW D A X nL Q k z (pc + 1) ls (.int x :: st) ws) : NW D A X nL Q k z pc ls st ws := fun H locs la hP hD hS h => lv_iload_n K.1 K.2.1 hd hi (lv_at h j hj) (kk H locs la hP hD hS h)
theorem n_istore (K : KX D cI cL A own cc nL rm X) {ls' : List (Nat × Value)} {n : Fin 4} {i : Nat} {x : Int32} (hd : decode cc pc = .ok (.istore_n n, 1)) (hi : (n : Nat) = i) (hn : i < nL) (hl : (i, Value.int x) :: ls.filter (fun q => !(q.1 == i) && !(q.1 + 1 == i && q.2.category == 2)) = ls') (kk : NW D A X nL Q k z (pc + 1) ls' st ws) : NW D A X nL Q k z pc ls (.int x :: st) ws := fun H locs la hP hD hS h => lv_istore_n K.1 K.2.1 hd hi h hn hl (fun la2 h2 => kk H locs la2 hP hD hS h2)
theorem n_imul (K : KX D cI cL A own cc nL rm X) {x y : Int32} (hd : decode cc pc = .ok (.imul, 1)) (kk : NW D A X nL Q k z (pc + 1) ls (.int (x * y) :: st) ws) : NW D A X nL Q k z pc ls (.int y :: .int x :: st) ws := fun H locs la hP hD hS h => lv_imul K.1 K.2.1 hd (kk H locs la hP hD hS h)
theorem n_dup (K : KX D cI cL A own cc nL rm X) {x : Nat} (hd : decode cc pc = .ok (.dup, 1)) (kk : NW D A X nL Q k z (pc + 1) ls (.ref x :: .ref x :: st) ws) : NW D A X nL Q k z pc ls (.ref x :: st) ws := fun H locs la hP hD hS h => lv_dup K.1 K.2.1 hd rfl (kk H locs la hP hD hS h)
theorem n_goto (K : KX D cI cL A own cc nL rm X) {off : Int} {tgt : Nat} (hd : decode cc pc = .ok (.goto off, 3)) (ht : (pc : Int) + off = (tgt : Int)) (kk : NW D A X nL Q k z tgt ls st ws) : NW D A X nL Q k z pc ls st ws := fun H locs la hP hD hS h => lv_goto K.1 K.2.1 hd ht (kk H locs la hP hD hS h)
theorem n_ifle (K : KX D cI cL A own cc nL rm X) {x : Int32} {off : Int} (hx : ¬ x ≤ 0) (hd : decode cc pc = .ok (.ifCond .le off, 3)) {tgt : Nat} (ht : (pc : Int) + off = (tgt : Int)) (kk : NW D A X nL Q k z (pc + 3) ls st ws) : NW D A X nL Q k z pc ls (.int x :: st) ws := fun H locs la hP hD hS h => lv_if_le K.1 K.2.1 hd ht (fun c => absurd c hx) (fun _ => kk H locs la hP hD hS h)
theorem n_obj (K : KX D cI cL A own cc nL rm X) {x idx : Nat} (h1 : Cond.methodLink own idx objectInit ∈ BW) (h2 : Cond.instanceMethod objectInit ∈ BW) (h3 : Cond.code objectInit ⟨#[0xb1]⟩ 1 none ∈ BW) (hf : 1 ≤ rm.frames) (hl : 12 ≤ rm.locals) (hd : decode cc pc = .ok (.invokespecial idx, 3)) (kk : NW D A X nL Q k z (pc + 3) ls [] ws) : NW D A X nL Q k z pc ls [.ref x] ws := fun H locs la hP hD hS h =>
  W.objInit K.1 K.2.1 K.2.2.2.1 (K.2.2.2.2.1 _ h1) (K.2.2.2.2.1 _ h2) (K.2.2.2.2.1 _ h3) rfl (by rw [K.2.2.1]; exact h.1) rfl hd (by rw [K.2.2.2.2.2.2.2.2.1]; exact hf) (by rw [K.2.2.2.2.2.2.2.2.1]; exact hl) (kk H locs la hP hD hS h)
theorem n_new (K : KX D cI cL A own cc nL rm X) {t idx : Nat} {fs : List Value} (ht : t < 11) (h1 : Cond.classLink own idx (cN t) ∈ BW) (h2 : Cond.instantiable (cN t) (cn t) ∈ BW) (h3 : Cond.initialized (cN t) ∈ BW) (hfs : ∀ j, j < cn t → defaultValue (cty t j) = vp_V fs j) (hc : k + 1 ≤ rm.cells) (hz : z + cn t ≤ rm.slots) (hd : decode cc pc = .ok (.new idx, 3)) (kk : ∀ q, NW D A X nL Q (k + 1) (z + cn t) (pc + 3) ls (.ref q :: st) (ws ++ [(q, .inr (t, fs))])) : NW D A X nL Q k z pc ls st ws := fun H locs la hP hD hS h =>
  va_new K.1 K.2.1 K.2.2.2.2.1 (cl_ws ht) (cty t) (cl_ty ht) K.2.2.2.1 (K.2.2.2.2.1 _ h1) (K.2.2.2.2.1 _ h2) (K.2.2.2.2.1 _ h3) (kK K) hP hD hS (kA K) (cl_at ht) hfs (by rw [K.2.2.2.2.2.2.2.2.1]; exact hc) (by rw [K.2.2.2.2.2.2.2.2.1]; exact hz) hd (fun q H1 hP1 hD1 hS1 => kk q H1 locs la hP1 hD1 hS1 h)
theorem n_puti (K : KX D cI cL A own cc nL rm X) {t i idx a : Nat} {fs : List Value} {v : Int32} (q0 : Nat) (ht : t < 11) (he : ws[q0]? = some (a, .inr (t, fs))) (hi : i < cn t) (hlk : fLk own idx t i) (hfin : (cT t i).2.2.2 = false) (hn : narrow (cty t i) (.int v) = .int v) (hfit : fits (cty t i) (.int v) = true) (hl : i < fs.length) (hd : decode cc pc = .ok (.putfield idx, 3)) (kk : NW D A X nL Q k z (pc + 3) ls st (ws.set q0 (a, .inr (t, fs.set i (.int v))))) : NW D A X nL Q k z pc ls (.int v :: .ref a :: st) ws := fun H locs la hP hD hS h =>
  va_put (ref := (cT t i).1) K.1 K.2.1 K.2.2.2.2.1 (cl_ws ht) (cty t) (cl_ty ht) (cl_nm ht) K.2.2.2.1 (kK K) hP hD hS q0 he (cl_at ht) i hi (K.2.2.2.2.1 _ hlk) (fun _ h9 => h9) hfin (cl_ty ht i hi) hn hfit hl hd (fun H1 locs1 hP1 hD1 hS1 => kk H1 locs1 la hP1 hD1 hS1 h)
theorem n_putF (K : KX D cI cL A own cc nL rm X) {t i idx a : Nat} {fs : List Value} {v : Value} (q0 : Nat) (ht : t < 11) (he : ws[q0]? = some (a, .inr (t, fs))) (hi : i < cn t) (hlk : fLk own idx t i) (hfin : (cT t i).2.2.2 = true) (hdecl : (cT t i).1 = own) (hn : narrow (cty t i) v = v) (hfit : fits (cty t i) v = true) (hl : i < fs.length) (hd : decode cc pc = .ok (.putfield idx, 3)) (kk : NW D A X nL Q k z (pc + 3) ls st (ws.set q0 (a, .inr (t, fs.set i v)))) : NW D A X nL Q k z pc ls (v :: .ref a :: st) ws := fun H locs la hP hD hS h =>
  va_putF (ref := (cT t i).1) K.1 K.2.1 K.2.2.2.2.1 (cl_ws ht) (cty t) (cl_ty ht) (cl_nm ht) K.2.2.2.1 (kK K) hP hD hS q0 he (cl_at ht) i hi (K.2.2.2.2.1 _ hlk) (fun _ h9 => h9) hfin K.2.2.2.2.2.2.2.2.2.1 hdecl (cl_ty ht i hi) hn hfit hl hd (fun H1 locs1 hP1 hD1 hS1 => kk H1 locs1 la hP1 hD1 hS1 h)
theorem n_get (K : KX D cI cL A own cc nL rm X) {t i idx a : Nat} {fs : List Value} {v : Value} (q0 : Nat) (ht : t < 11) (he : ws[q0]? = some (a, .inr (t, fs))) (hi : i < cn t) (hlk : fLk own idx t i) (hv : fs[i]? = some v) (hd : decode cc pc = .ok (.getfield idx, 3)) (kk : NW D A X nL Q k z (pc + 3) ls (v :: st) ws) : NW D A X nL Q k z pc ls (.ref a :: st) ws := fun H locs la hP hD hS h =>
  va_get (ref := (cT t i).1) K.1 K.2.1 K.2.2.2.2.1 (cl_ws ht) K.2.2.2.1 (kK K) hP q0 he (cl_at ht) i hi (K.2.2.2.2.1 _ hlk) (fun _ h9 => h9) hv hd (kk H locs la hP hD hS h)
theorem n_newi (K : KX D cI cL A own cc nL rm X) {n : Int32} {N : Nat} (hac : Cond.arrayClass .int ∈ BW) (hn : ¬ n < 0) (hN : n.toNatClampNeg = N) (hb : N * 4 ≤ 536870912) (hc : k + 1 ≤ rm.cells) (hz : z + N ≤ rm.slots) (hd : decode cc pc = .ok (.newarray .int, 2)) (kk : ∀ q, NW D A X nL Q (k + 1) (z + N) (pc + 2) ls (.ref q :: st) (ws ++ [(q, .inl (cI, N, .inl (fun _ => 0)))])) : NW D A X nL Q k z pc ls (.int n :: st) ws := fun H locs la hP hD hS h => by
  refine va_newaK (atype := .int) (N := N) K.1 K.2.1 (K.2.2.2.2.1 _ hac) rfl hd rfl hn hN hb (by rw [K.2.2.2.2.2.2.2.2.1]; exact hc) (by rw [K.2.2.2.2.2.2.2.2.1]; exact hz) rfl (fun H' cA e1 z1 o1 hAr hfc => ?_)
  have hcI : (xs_ X).vm.findClass ("[" ++ (FieldType.int).toString) = some cI := ((kK K).2 0 _ rfl).2
  have hcA : cA = cI := Option.some.inj (hfc.symm.trans hcI)
  subst hcA
  have hk : ∀ (j : Nat) (x : Nat × va_E), ws[j]? = some x → H'[x.1]? = H[x.1]? := fun j x hx => o1 x.1 ((hP j x hx).lt)
  refine kk H.size H' locs la ((hP.kept hk).app (fun j x hx => ?_)) (hD.push hP rfl (kA K _ hS.1)) ⟨Nat.le_trans hS.1 (by omega), fun x h1 h2 => (o1 x (Nat.lt_of_lt_of_le h1 hS.1)).trans (hS.2.1 x h1 h2), hS.2.2⟩ h
  have hz : j < 1 := (List.getElem?_eq_some_iff.mp hx).1
  rw [show j = 0 by omega] at hx
  cases hx
  exact e1
def CTI (l : Launch) (D : va_G) (cI cL : ClassId) (y : MethodName) (zc : ByteArray) (zl d mc ms h0 : Nat) (as : List Value) (e0 : va_E) (w1 : List Nat → va_W) (nu : Nat) : Prop :=
  ∀ (A : Nat → Prop) (sz : Nat), A h0 → Met l y (Cond.code y zc zl none :: BW) { frames := d, cells := mc, slots := ms, locals := 36 * d } (va_Pc (.ref h0 :: as) (fun U => U.heap.size = sz ∧ va_P D vwCl [(h0, e0)] U.heap ∧ va_D (fun _ => True) [(h0, e0)] ∧ SF (G0 D cI cL A) U U.heap))
    (fun _ st oc t => ∃ u : List Nat, u.length = nu ∧ oc = .returned none ∧ va_P D vwCl (w1 u) t.heap ∧ va_D (va_A [(h0, e0)] sz) (w1 u) ∧ va_F (va_A [(h0, e0)] sz) st t) mc ms (va_A [(h0, e0)] sz)
theorem n_join {q : Nat} {e0 : va_E} {w1 : va_W} {H H1 : Heap} (hP : va_P D vwCl (ws ++ [(q, e0)]) H) (hD : va_D A (ws ++ [(q, e0)])) (hk : ∀ x : Nat, x < H.size → ¬ va_A [(q, e0)] H.size x → H1[x]? = H[x]?) (hF : ∀ x, va_A [(q, e0)] H.size x → A x) (hP1 : va_P D vwCl w1 H1) (hD1 : va_D (va_A [(q, e0)] H.size) w1) : va_P D vwCl (ws ++ w1) H1 ∧ va_D A (ws ++ w1) := by
  have hlast : (ws ++ [(q, e0)])[ws.length]? = some (q, e0) := by rw [List.getElem?_append_right (Nat.le_refl _), Nat.sub_self]; rfl
  have apart : ∀ (j : Nat) (x : Nat × va_E), ws[j]? = some x → x.1 < H.size ∧ ¬ va_A [(q, e0)] H.size x.1 := by
    intro j x hx
    have hj := (List.getElem?_eq_some_iff.mp hx).1
    have hx' : (ws ++ [(q, e0)])[j]? = some x := by rw [List.getElem?_append_left hj]; exact hx
    have hl := (hP j x hx').lt
    refine ⟨hl, fun h => ?_⟩
    rcases h with ⟨i, e, h⟩ | h
    · have hi : i < 1 := (List.getElem?_eq_some_iff.mp h).1
      rw [show i = 0 by omega] at h
      have hq : q = x.1 := congrArg Prod.fst (Option.some.inj h)
      have := hD.1 j ws.length x (q, e0) hx' hlast hq.symm
      omega
    · omega
  refine ⟨va_P.app (fun j x hx => ?_) hP1, va_D.app ⟨fun i j x y hx hy hxy => ?_, fun j x hx => ?_⟩ (hD1.weaken (fun _ x _ h => hF x.1 h)) (fun i j x y hx hy hxy => ?_)⟩
  · have hj := (List.getElem?_eq_some_iff.mp hx).1
    obtain ⟨h1, h2⟩ := apart j x hx
    exact (hP j x (by rw [List.getElem?_append_left hj]; exact hx)).kept (hk x.1 h1 h2)
  · exact hD.1 i j x y (by rw [List.getElem?_append_left (List.getElem?_eq_some_iff.mp hx).1]; exact hx) (by rw [List.getElem?_append_left (List.getElem?_eq_some_iff.mp hy).1]; exact hy) hxy
  · exact hD.2 j x (by rw [List.getElem?_append_left (List.getElem?_eq_some_iff.mp hx).1]; exact hx)
  · exact (apart i x hx).2 (by rw [hxy]; exact hD1.2 j y hy)
/-- how the callee's constructor is linked: by the plain word, or as a nest mate's -/
def lkI (own : String) (idx : Nat) (y : MethodName) (zc : ByteArray) (zl n : Nat) (nest : Bool) : Prop :=
  (if nest then Cond.methodLinkNest own idx y "ArrowDiagrams" ∈ XW else Cond.methodLink own idx y ∈ BW) ∧ Cond.initialized y.cls ∈ BW ∧ Cond.code y zc zl none ∈ BW ∧ Cond.instanceMethod y ∈ BW ∧ y.name = "<init>" ∧ (y.cls ≠ "java/lang/invoke/MethodHandle" ∧ y.cls ≠ "java/lang/invoke/VarHandle" ∧ (parseMethodDescriptor y.desc).map (fun d => d.parameters.length) = some n)
theorem n_call (K : KX D cI cL A own cc nL rm X) {idx q d mc ms zl n nu : Nat} {as : List Value} {e0 : va_E} {w1 : List Nat → va_W} {y : MethodName} {zc : ByteArray} (nest : Bool) (lk : lkI own idx y zc zl n nest) (hct : CTI X.2.1 D cI cL y zc zl d mc ms q as e0 w1 nu) (hn : as.length = n) (hW : (st.map fun v => v.category).sum ≤ 8) (hroom : d + 1 ≤ rm.frames ∧ 8 + (zl + 11) + 36 * d ≤ rm.locals) (hmc : k + mc ≤ rm.cells ∧ z + ms ≤ rm.slots) (hst : as.reverse ++ .ref q :: st = st2)
    (hd : decode cc pc = .ok (.invokespecial idx, 3)) (kk : ∀ u : List Nat, u.length = nu → NW D A X nL Q (k + mc) (z + ms) (pc + 3) ls st (ws ++ w1 u)) : NW D A X nL Q k z pc ls st2 (ws ++ [(q, e0)]) := by
  subst hst
  intro H locs la hP hD hS h
  obtain ⟨k1, k2, k3, k4, k5, k6⟩ := lk
  have hR : X.2.2.2.1 = rm := K.2.2.2.2.2.2.2.2.1
  have hSF := K.2.2.2.2.2.2.2.2.2.2.kept ⟨hS.1, hS.2.1⟩
  have hlast : (ws ++ [(q, e0)])[ws.length]? = some (q, e0) := by rw [List.getElem?_append_right (Nat.le_refl _), Nat.sub_self]; rfl
  have hAq : A q := hD.2 _ _ hlast
  have hfree : ∀ x, va_A [(q, e0)] H.size x → A x := by
    intro x hx
    rcases hx with ⟨i, e, hx⟩ | hx
    · have hi : i < 1 := (List.getElem?_eq_some_iff.mp hx).1
      rw [show i = 0 by omega] at hx
      have e9 : q = x := congrArg Prod.fst (Option.some.inj hx)
      rw [← e9]; exact hAq
    · exact kA K x (Nat.le_trans hS.1 hx)
  have one : ∀ {P : Nat × va_E → Prop} (j : Nat) (x : Nat × va_E), [(q, e0)][j]? = some x → P (q, e0) → P x := by
    intro P j x hx hp
    have hi : j < 1 := (List.getElem?_eq_some_iff.mp hx).1
    rw [show j = 0 by omega] at hx
    cases hx
    exact hp
  have hp : PreS (xs_ X) H (va_Pc (.ref q :: as) (fun U => U.heap.size = H.size ∧ va_P D vwCl [(q, e0)] U.heap ∧ va_D (fun _ => True) [(q, e0)] ∧ SF (G0 D cI cL A) U U.heap)) (.ref q :: as) := by
    refine ⟨fun a U g mk hh => ⟨hh.1, hh.2.1, hh.2.2.1, hh.2.2.2.1, SF.vm (U := U) rfl hh.2.2.2.2⟩, fun U hU hWU => ⟨rfl, by rw [hU], ?_, ⟨fun i j x y hx hy _ => ?_, fun _ _ _ => trivial⟩, by rw [hU]; exact hSF.moved hWU⟩⟩
    · rw [hU]
      exact fun j x hx => one (P := fun x => va_at D vwCl x H) j x hx (hP _ _ hlast)
    · have h1 : i < 1 := (List.getElem?_eq_some_iff.mp hx).1
      have h2 : j < 1 := (List.getElem?_eq_some_iff.mp hy).1
      omega
  have hws : ∀ w ∈ (Cond.code y zc zl none :: BW), ∀ (a' : Array Value) (U : State), (xs_ X).WarmedH U.vm → w.before a' U = true := pay_in K.2.2.2.2.1 (gi_code k3)
  have hrun : va_Run X.1 X.2.1 X.2.2.1 X.2.2.2.1 (xs_ X) X.2.2.2.2.2.1 X.2.2.2.2.2.2.1 X.2.2.2.2.2.2.2.1 X.2.2.2.2.2.2.2.2.1 X.2.2.2.2.2.2.2.2.2.1 H locs k z mc ms (F0 X.2.2.2.2.2.1 pc la (as.reverse ++ .ref q :: st)) st (fun st9 oc t => ∃ u : List Nat, u.length = nu ∧ oc = .returned none ∧ va_P D vwCl (w1 u) t.heap ∧ va_D (va_A [(q, e0)] H.size) (w1 u) ∧ va_F (va_A [(q, e0)] H.size) st9 t) (va_A [(q, e0)] H.size) := by
    cases nest with
    | false =>
      exact va_runI (As := as) (rest := st) (b := q) ⟨K.1, K.2.1, K.2.2.1, K.2.2.2.1, K.2.2.2.2.1⟩ (hct A H.size hAq) ⟨callB_of n K.2.2.2.2.1 (gi_code k3) rfl rfl rfl (K.2.2.2.2.1 _ k2) (K.2.2.2.2.1 _ k1) k6 (by rw [hR]; exact hroom), k5, K.2.2.2.2.1 _ k4⟩ hp rfl hn h.1 rfl (lv_room hW) hd (by rw [hR]; exact hmc)
    | true =>
      exact va_runIN (As := as) (rest := st) (b := q) (host := "ArrowDiagrams") ⟨K.1, K.2.1, K.2.2.1, K.2.2.2.1, K.2.2.2.2.1⟩ (hct A H.size hAq) ⟨va_cnB n K.2.2.2.2.1 (gi_code k3) rfl rfl rfl (K.2.2.2.2.2.2.2.2.2.2.2.2.2.2.2.1.1 _ k1) (K.2.2.2.2.1 _ k2) k6 (by rw [hR]; exact hroom), k5, K.2.2.2.2.1 _ k4⟩ hp rfl hn h.1 rfl (lv_room hW) hd (by rw [hR]; exact hmc)
  intro T hT XX
  obtain ⟨v, st₀, t, T', L, h0, X', hL, e1, e2, ⟨u, hu, hv, hP1, hD1, hz, hkq⟩, hst⟩ := hrun T hT XX
  cases hv
  rw [h0] at hz hkq
  rw [← e1] at hP1 hz hkq
  obtain ⟨hP2, hD2⟩ := n_join hP hD hkq hfree hP1 hD1
  obtain ⟨t2, a1, b1⟩ := kk u hu T'.heap (locs ++ L) la hP2 hD2 ⟨Nat.le_trans hS.1 hz, fun x h1 h2 => by rw [hkq x (Nat.lt_of_lt_of_le h1 hS.1) (fun q9 => h2 (hfree x q9))]; exact hS.2.1 x h1 h2, fun x hx => by
    rcases List.mem_append.mp hx with h | h
    · exact hS.2.2 x h
    · exact hfree _ (hL x h)⟩ h T' rfl X'
  exact ⟨t2, hst t2 a1, b1⟩
def QI (D : va_G) (A : Nat → Prop) (X : PX) (w1 : List Nat → va_W) (nu mc ms : Nat) : State → Prop := MQ X.2.2.2.2.2.2.2.1 (fun _ st oc t => ∃ u : List Nat, u.length = nu ∧ oc = .returned none ∧ va_P D vwCl (w1 u) t.heap ∧ va_D A (w1 u) ∧ va_F A st t) X.2.2.2.2.2.2.1 (xs_ X) mc ms A
theorem n_end (K : KX D cI cL A own cc nL rm X) {w1 : List Nat → va_W} {nu mc ms : Nat} (u : List Nat) (hu : u.length = nu) (hw : ws = w1 u) (hk : k ≤ mc) (hz : z ≤ ms) (hd : decode cc pc = .ok (.return_, 1)) : NW D A X nL (QI D A X w1 nu mc ms) k z pc ls [] ws := fun H locs la hP hD hS h => by
  subst hw
  exact W.widen hk hz (W.vret K.1 K.2.1 K.2.2.2.2.2.2.1 (fun t ht _ => ⟨u, hu, rfl, by rw [ht]; exact hP, hD, hS.F ht⟩) hS.2.2 hd K.2.2.2.2.2.1)
theorem cti_of {l : Launch} {y : MethodName} {zc : ByteArray} {zl d mc ms h0 : Nat} {as : List Value} {e0 : va_E} {w1 : List Nat → va_W} {nu : Nat} (ls0 : List (Nat × Value)) (hy : plainName y.cls = true) (hyn : y.name = "<init>") (hl : l.stackTraces = false) (hlen : (lg_sl (.ref h0 :: as)).length ≤ zl) (hls : lv_args 0 (.ref h0 :: as) = ls0)
    (body : ∀ (A : Nat → Prop) X, X.2.1 = l → KX D cI cL A y.cls zc zl { frames := d, cells := mc, slots := ms, locals := 36 * d } X → A h0 → NW D A X zl (QI D A X w1 nu mc ms) 0 0 0 ls0 [] [(h0, e0)]) : CTI l D cI cL y zc zl d mc ms h0 as e0 w1 nu := by
  intro A sz hAh
  refine Met.ofW (cc := zc) (maxL := zl) (ret := none) hy rfl ?_
  intro p e s m args below meth c s₁ B hml hv
  obtain ⟨rfl, hsz, hP, hD0, hF⟩ := hv
  subst hsz
  have hts := atoms_spec (ws := Cond.code y zc zl none :: BW) B.pre
  have hD := hD0.self (sz := s.heap.size)
  have hsub : ∀ x, va_A [(h0, e0)] s.heap.size x → A x := by
    intro x hx
    rcases hx with ⟨i, e, hx⟩ | hx
    · have hi : i < 1 := (List.getElem?_eq_some_iff.mp hx).1
      rw [show i = 0 by omega] at hx
      have e9 : h0 = x := congrArg Prod.fst (Option.some.inj hx)
      rw [← e9]; exact hAh
    · exact hF.2.2.2.1 x hx
  have hF' : SF (G0 D cI cL (va_A [(h0, e0)] s.heap.size)) s s.heap := ⟨hF.1, vx_Zq.narrow hF.2.1 hsub, vx_Zq.narrow hF.2.2.1 hsub, fun q h => Or.inr h, hF.2.2.2.2.1, hF.2.2.2.2.2.1, fun L xs h => nomatch h⟩
  have K : KX D cI cL (va_A [(h0, e0)] s.heap.size) y.cls zc zl { frames := d, cells := mc, slots := ms, locals := 36 * d } (p, l, e, (headSpec (Cond.code y zc zl none :: BW) { frames := d, cells := mc, slots := ms, locals := 36 * d }).room, s, m, (Value.ref h0 :: as).toArray, below, meth, c, 0, 0) :=
    ⟨B.exec, B.bytes, hml, findClass_of_methodNamed B.named, fun w hw => hts w (List.mem_cons_of_mem _ hw), B.notSynchronized, B.returns, hl, rfl, (name_of_methodNamed B.named B.method).1.trans hyn, hF'⟩
  have hlv := lv_entry (.ref h0 :: as) (n := zl) hlen
  rw [hls] at hlv
  rw [lg_entry_eq]
  exact body _ _ rfl K (Or.inl ⟨0, e0, rfl⟩) s.heap [] _ hP hD va_S.rf hlv
end CTOR
/-! constructors (made by wip/whole/mkctor.py) -/
theorem ko_1 : Cond.instanceMethod objectInit ∈ BW := bw_mem (w := Cond.instanceMethod objectInit) 118 (by decide +kernel) rfl
theorem ko_2 : Cond.code objectInit ⟨#[0xb1]⟩ 1 none ∈ BW := bw_mem (w := Cond.code objectInit ⟨#[0xb1]⟩ 1 none) 119 (by decide +kernel) rfl
theorem ko_3 : Cond.arrayClass .int ∈ BW := bw_mem (w := Cond.arrayClass .int) 136 (by decide +kernel) rfl
theorem kp_X8_9 : fLk RX8 9 8 0 := kf_X8_9
theorem kp_X3_9 : fLk RX3 9 3 0 := bw_mem (w := Cond.fieldLink RX3 9 "ArrowDiagrams$Grid" "rows" "I") 167 (by decide +kernel) rfl
theorem kp_X3_15 : fLk RX3 15 3 1 := bw_mem (w := Cond.fieldLink RX3 15 "ArrowDiagrams$Grid" "columns" "I") 168 (by decide +kernel) rfl
theorem kp_X3_18 : fLk RX3 18 3 2 := bw_mem (w := Cond.fieldLink RX3 18 "ArrowDiagrams$Grid" "numbers" "[I") 169 (by decide +kernel) rfl
theorem ko_X8_3 : Cond.methodLink RX8 3 objectInit ∈ BW := bw_mem (w := Cond.methodLink RX8 3 objectInit) 131 (by decide +kernel) rfl
theorem ko_X3_3 : Cond.methodLink RX3 3 objectInit ∈ BW := bw_mem (w := Cond.methodLink RX3 3 objectInit) 166 (by decide +kernel) rfl
theorem ko_X2_3 : Cond.methodLink RX2 3 objectInit ∈ BW := bw_mem (w := Cond.methodLink RX2 3 objectInit) 125 (by decide +kernel) rfl
theorem kp_X2_9 : fLk RX2 9 2 0 := bw_mem (w := Cond.fieldLink RX2 9 "ArrowDiagrams$Graph" "objects" "I") 137 (by decide +kernel) rfl
theorem kp_X2_15 : fLk RX2 15 2 1 := bw_mem (w := Cond.fieldLink RX2 15 "ArrowDiagrams$Graph" "arrows" "I") 138 (by decide +kernel) rfl
theorem ki_8 : Cond.instantiable (cN 8) (cn 8) ∈ BW := bw_mem (w := Cond.instantiable (cN 8) (cn 8)) 127 (by decide +kernel) rfl
theorem kj_8 : Cond.initialized (cN 8) ∈ BW := bw_mem (w := Cond.initialized (cN 8)) 94 (by decide +kernel) rfl
theorem kc_X2_c18 : Cond.classLink RX2 18 (cN 8) ∈ BW := bw_mem (w := Cond.classLink RX2 18 (cN 8)) 126 (by decide +kernel) rfl
theorem li_X2_20 : lkI RX2 20 yX8_init cX8_init 2 1 false := ⟨bw_mem (w := Cond.methodLink RX2 20 yX8_init) 128 (by decide +kernel) rfl, bw_mem (w := Cond.initialized RX8) 94 (by decide +kernel) rfl, bw_mem (w := Cond.code yX8_init cX8_init 2 none) 130 (by decide +kernel) rfl, bw_mem (w := Cond.instanceMethod yX8_init) 129 (by decide +kernel) rfl, rfl, by decide +kernel⟩
theorem kp_X2_23 : fLk RX2 23 2 2 := bw_mem (w := Cond.fieldLink RX2 23 "ArrowDiagrams$Graph" "froms" "LArrowDiagrams$Row;") 139 (by decide +kernel) rfl
theorem kp_X2_27 : fLk RX2 27 2 3 := bw_mem (w := Cond.fieldLink RX2 27 "ArrowDiagrams$Graph" "tos" "LArrowDiagrams$Row;") 140 (by decide +kernel) rfl
theorem kp_X2_30 : fLk RX2 30 2 4 := bw_mem (w := Cond.fieldLink RX2 30 "ArrowDiagrams$Graph" "arriving" "LArrowDiagrams$Row;") 141 (by decide +kernel) rfl
theorem ko_X0_3 : Cond.methodLink RX0 3 objectInit ∈ BW := bw_mem (w := Cond.methodLink RX0 3 objectInit) 158 (by decide +kernel) rfl
theorem kp_X0_9 : fLk RX0 9 0 0 := bw_mem (w := Cond.fieldLink RX0 9 "ArrowDiagrams$Cells" "total" "I") 177 (by decide +kernel) rfl
theorem kc_X0_c15 : Cond.classLink RX0 15 (cN 8) ∈ BW := bw_mem (w := Cond.classLink RX0 15 (cN 8)) 159 (by decide +kernel) rfl
theorem li_X0_17 : lkI RX0 17 yX8_init cX8_init 2 1 false := ⟨bw_mem (w := Cond.methodLink RX0 17 yX8_init) 160 (by decide +kernel) rfl, bw_mem (w := Cond.initialized RX8) 94 (by decide +kernel) rfl, bw_mem (w := Cond.code yX8_init cX8_init 2 none) 130 (by decide +kernel) rfl, bw_mem (w := Cond.instanceMethod yX8_init) 129 (by decide +kernel) rfl, rfl, by decide +kernel⟩
theorem kp_X0_20 : fLk RX0 20 0 1 := bw_mem (w := Cond.fieldLink RX0 20 "ArrowDiagrams$Cells" "origins" "LArrowDiagrams$Row;") 178 (by decide +kernel) rfl
theorem kp_X0_24 : fLk RX0 24 0 2 := bw_mem (w := Cond.fieldLink RX0 24 "ArrowDiagrams$Cells" "lengths" "LArrowDiagrams$Row;") 179 (by decide +kernel) rfl
theorem ki_3 : Cond.instantiable (cN 3) (cn 3) ∈ BW := bw_mem (w := Cond.instantiable (cN 3) (cn 3)) 162 (by decide +kernel) rfl
theorem kj_3 : Cond.initialized (cN 3) ∈ BW := bw_mem (w := Cond.initialized (cN 3)) 96 (by decide +kernel) rfl
theorem kc_X0_c27 : Cond.classLink RX0 27 (cN 3) ∈ BW := bw_mem (w := Cond.classLink RX0 27 (cN 3)) 161 (by decide +kernel) rfl
theorem li_X0_29 : lkI RX0 29 yX3_init cX3_init 4 2 false := ⟨bw_mem (w := Cond.methodLink RX0 29 yX3_init) 163 (by decide +kernel) rfl, bw_mem (w := Cond.initialized RX3) 96 (by decide +kernel) rfl, bw_mem (w := Cond.code yX3_init cX3_init 4 none) 165 (by decide +kernel) rfl, bw_mem (w := Cond.instanceMethod yX3_init) 164 (by decide +kernel) rfl, rfl, by decide +kernel⟩
theorem kp_X0_32 : fLk RX0 32 0 3 := bw_mem (w := Cond.fieldLink RX0 32 "ArrowDiagrams$Cells" "letters" "LArrowDiagrams$Grid;") 180 (by decide +kernel) rfl
theorem kp_X0_36 : fLk RX0 36 0 4 := bw_mem (w := Cond.fieldLink RX0 36 "ArrowDiagrams$Cells" "numbers" "LArrowDiagrams$Row;") 181 (by decide +kernel) rfl
theorem ko_X1_3 : Cond.methodLink RX1 3 objectInit ∈ BW := bw_mem (w := Cond.methodLink RX1 3 objectInit) 296 (by decide +kernel) rfl
theorem kc_X1_c9 : Cond.classLink RX1 9 (cN 8) ∈ BW := bw_mem (w := Cond.classLink RX1 9 (cN 8)) 297 (by decide +kernel) rfl
theorem li_X1_11 : lkI RX1 11 yX8_init cX8_init 2 1 false := ⟨bw_mem (w := Cond.methodLink RX1 11 yX8_init) 298 (by decide +kernel) rfl, bw_mem (w := Cond.initialized RX8) 94 (by decide +kernel) rfl, bw_mem (w := Cond.code yX8_init cX8_init 2 none) 130 (by decide +kernel) rfl, bw_mem (w := Cond.instanceMethod yX8_init) 129 (by decide +kernel) rfl, rfl, by decide +kernel⟩
theorem kp_X1_14 : fLk RX1 14 1 0 := bw_mem (w := Cond.fieldLink RX1 14 "ArrowDiagrams$Functions" "sizes" "LArrowDiagrams$Row;") 299 (by decide +kernel) rfl
theorem kp_X1_20 : fLk RX1 20 1 1 := bw_mem (w := Cond.fieldLink RX1 20 "ArrowDiagrams$Functions" "codes" "LArrowDiagrams$Row;") 300 (by decide +kernel) rfl
theorem ko_X4_3 : Cond.methodLink RX4 3 objectInit ∈ BW := bw_mem (w := Cond.methodLink RX4 3 objectInit) 311 (by decide +kernel) rfl
theorem kp_X4_9 : fLk RX4 9 4 0 := bw_mem (w := Cond.fieldLink RX4 9 "ArrowDiagrams$Input" "length" "I") 314 (by decide +kernel) rfl
theorem kc_X4_c15 : Cond.classLink RX4 15 (cN 8) ∈ BW := bw_mem (w := Cond.classLink RX4 15 (cN 8)) 312 (by decide +kernel) rfl
theorem li_X4_17 : lkI RX4 17 yX8_init cX8_init 2 1 false := ⟨bw_mem (w := Cond.methodLink RX4 17 yX8_init) 313 (by decide +kernel) rfl, bw_mem (w := Cond.initialized RX8) 94 (by decide +kernel) rfl, bw_mem (w := Cond.code yX8_init cX8_init 2 none) 130 (by decide +kernel) rfl, bw_mem (w := Cond.instanceMethod yX8_init) 129 (by decide +kernel) rfl, rfl, by decide +kernel⟩
theorem kp_X4_20 : fLk RX4 20 4 1 := bw_mem (w := Cond.fieldLink RX4 20 "ArrowDiagrams$Input" "codes" "LArrowDiagrams$Row;") 315 (by decide +kernel) rfl
theorem ko_X6_3 : Cond.methodLink RX6 3 objectInit ∈ BW := bw_mem (w := Cond.methodLink RX6 3 objectInit) 198 (by decide +kernel) rfl
theorem kp_X6_9 : fLk RX6 9 6 0 := bw_mem (w := Cond.fieldLink RX6 9 "ArrowDiagrams$Paths" "total" "I") 203 (by decide +kernel) rfl
theorem kc_X6_c15 : Cond.classLink RX6 15 (cN 8) ∈ BW := bw_mem (w := Cond.classLink RX6 15 (cN 8)) 199 (by decide +kernel) rfl
theorem li_X6_17 : lkI RX6 17 yX8_init cX8_init 2 1 false := ⟨bw_mem (w := Cond.methodLink RX6 17 yX8_init) 200 (by decide +kernel) rfl, bw_mem (w := Cond.initialized RX8) 94 (by decide +kernel) rfl, bw_mem (w := Cond.code yX8_init cX8_init 2 none) 130 (by decide +kernel) rfl, bw_mem (w := Cond.instanceMethod yX8_init) 129 (by decide +kernel) rfl, rfl, by decide +kernel⟩
theorem kp_X6_20 : fLk RX6 20 6 1 := bw_mem (w := Cond.fieldLink RX6 20 "ArrowDiagrams$Paths" "start" "LArrowDiagrams$Row;") 204 (by decide +kernel) rfl
theorem kp_X6_24 : fLk RX6 24 6 2 := bw_mem (w := Cond.fieldLink RX6 24 "ArrowDiagrams$Paths" "end" "LArrowDiagrams$Row;") 208 (by decide +kernel) rfl
theorem kp_X6_27 : fLk RX6 27 6 3 := bw_mem (w := Cond.fieldLink RX6 27 "ArrowDiagrams$Paths" "length" "LArrowDiagrams$Row;") 211 (by decide +kernel) rfl
theorem kc_X6_c30 : Cond.classLink RX6 30 (cN 3) ∈ BW := bw_mem (w := Cond.classLink RX6 30 (cN 3)) 201 (by decide +kernel) rfl
theorem li_X6_32 : lkI RX6 32 yX3_init cX3_init 4 2 false := ⟨bw_mem (w := Cond.methodLink RX6 32 yX3_init) 202 (by decide +kernel) rfl, bw_mem (w := Cond.initialized RX3) 96 (by decide +kernel) rfl, bw_mem (w := Cond.code yX3_init cX3_init 4 none) 165 (by decide +kernel) rfl, bw_mem (w := Cond.instanceMethod yX3_init) 164 (by decide +kernel) rfl, rfl, by decide +kernel⟩
theorem kp_X6_35 : fLk RX6 35 6 4 := bw_mem (w := Cond.fieldLink RX6 35 "ArrowDiagrams$Paths" "arrow" "LArrowDiagrams$Grid;") 215 (by decide +kernel) rfl
theorem kp_X6_39 : fLk RX6 39 6 5 := bw_mem (w := Cond.fieldLink RX6 39 "ArrowDiagrams$Paths" "shorter" "LArrowDiagrams$Row;") 219 (by decide +kernel) rfl
theorem kp_X6_42 : fLk RX6 42 6 6 := bw_mem (w := Cond.fieldLink RX6 42 "ArrowDiagrams$Paths" "longer" "LArrowDiagrams$Grid;") 221 (by decide +kernel) rfl
theorem ko_X7_3 : Cond.methodLink RX7 3 objectInit ∈ BW := bw_mem (w := Cond.methodLink RX7 3 objectInit) 326 (by decide +kernel) rfl
theorem ki_2 : Cond.instantiable (cN 2) (cn 2) ∈ BW := bw_mem (w := Cond.instantiable (cN 2) (cn 2)) 121 (by decide +kernel) rfl
theorem kj_2 : Cond.initialized (cN 2) ∈ BW := bw_mem (w := Cond.initialized (cN 2)) 93 (by decide +kernel) rfl
theorem kc_X7_c9 : Cond.classLink RX7 9 (cN 2) ∈ BW := bw_mem (w := Cond.classLink RX7 9 (cN 2)) 327 (by decide +kernel) rfl
theorem li_X7_11 : lkI RX7 11 yX2_init cX2_init 1 0 true := ⟨by show Cond.methodLinkNest RX7 11 yX2_init "ArrowDiagrams" ∈ XW; decide +kernel, bw_mem (w := Cond.initialized RX2) 93 (by decide +kernel) rfl, bw_mem (w := Cond.code yX2_init cX2_init 1 none) 124 (by decide +kernel) rfl, bw_mem (w := Cond.instanceMethod yX2_init) 123 (by decide +kernel) rfl, rfl, by decide +kernel⟩
theorem kp_X7_12 : fLk RX7 12 7 0 := bw_mem (w := Cond.fieldLink RX7 12 "ArrowDiagrams$Reader" "graph" "LArrowDiagrams$Graph;") 331 (by decide +kernel) rfl
theorem ki_0 : Cond.instantiable (cN 0) (cn 0) ∈ BW := bw_mem (w := Cond.instantiable (cN 0) (cn 0)) 154 (by decide +kernel) rfl
theorem kj_0 : Cond.initialized (cN 0) ∈ BW := bw_mem (w := Cond.initialized (cN 0)) 95 (by decide +kernel) rfl
theorem kc_X7_c18 : Cond.classLink RX7 18 (cN 0) ∈ BW := bw_mem (w := Cond.classLink RX7 18 (cN 0)) 329 (by decide +kernel) rfl
theorem li_X7_20 : lkI RX7 20 yX0_init cX0_init 1 0 true := ⟨by show Cond.methodLinkNest RX7 20 yX0_init "ArrowDiagrams" ∈ XW; decide +kernel, bw_mem (w := Cond.initialized RX0) 95 (by decide +kernel) rfl, bw_mem (w := Cond.code yX0_init cX0_init 1 none) 157 (by decide +kernel) rfl, bw_mem (w := Cond.instanceMethod yX0_init) 156 (by decide +kernel) rfl, rfl, by decide +kernel⟩
theorem kp_X7_21 : fLk RX7 21 7 1 := bw_mem (w := Cond.fieldLink RX7 21 "ArrowDiagrams$Reader" "cells" "LArrowDiagrams$Cells;") 332 (by decide +kernel) rfl
theorem kp_X7_25 : fLk RX7 25 7 2 := bw_mem (w := Cond.fieldLink RX7 25 "ArrowDiagrams$Reader" "place" "I") 333 (by decide +kernel) rfl
theorem kp_X7_29 : fLk RX7 29 7 3 := bw_mem (w := Cond.fieldLink RX7 29 "ArrowDiagrams$Reader" "from" "I") 334 (by decide +kernel) rfl
theorem kp_X7_32 : fLk RX7 32 7 4 := bw_mem (w := Cond.fieldLink RX7 32 "ArrowDiagrams$Reader" "end" "I") 335 (by decide +kernel) rfl
theorem kp_X7_35 : fLk RX7 35 7 5 := bw_mem (w := Cond.fieldLink RX7 35 "ArrowDiagrams$Reader" "firstEnd" "I") 336 (by decide +kernel) rfl
theorem ko_X5_3 : Cond.methodLink RX5 3 objectInit ∈ BW := bw_mem (w := Cond.methodLink RX5 3 objectInit) 245 (by decide +kernel) rfl
theorem kp_X5_9 : fLk RX5 9 5 0 := bw_mem (w := Cond.fieldLink RX5 9 "ArrowDiagrams$Pasting" "fresh" "Z") 254 (by decide +kernel) rfl
theorem kp_X5_15 : fLk RX5 15 5 1 := bw_mem (w := Cond.fieldLink RX5 15 "ArrowDiagrams$Pasting" "coreFresh" "Z") 255 (by decide +kernel) rfl
theorem kp_X5_18 : fLk RX5 18 5 2 := bw_mem (w := Cond.fieldLink RX5 18 "ArrowDiagrams$Pasting" "sides" "I") 256 (by decide +kernel) rfl
theorem kp_X5_22 : fLk RX5 22 5 3 := bw_mem (w := Cond.fieldLink RX5 22 "ArrowDiagrams$Pasting" "classes" "I") 257 (by decide +kernel) rfl
theorem kp_X5_25 : fLk RX5 25 5 4 := bw_mem (w := Cond.fieldLink RX5 25 "ArrowDiagrams$Pasting" "core" "I") 258 (by decide +kernel) rfl
theorem kp_X5_28 : fLk RX5 28 5 5 := bw_mem (w := Cond.fieldLink RX5 28 "ArrowDiagrams$Pasting" "reached" "I") 259 (by decide +kernel) rfl
theorem kc_X5_c31 : Cond.classLink RX5 31 (cN 3) ∈ BW := bw_mem (w := Cond.classLink RX5 31 (cN 3)) 246 (by decide +kernel) rfl
theorem li_X5_33 : lkI RX5 33 yX3_init cX3_init 4 2 false := ⟨bw_mem (w := Cond.methodLink RX5 33 yX3_init) 247 (by decide +kernel) rfl, bw_mem (w := Cond.initialized RX3) 96 (by decide +kernel) rfl, bw_mem (w := Cond.code yX3_init cX3_init 4 none) 165 (by decide +kernel) rfl, bw_mem (w := Cond.instanceMethod yX3_init) 164 (by decide +kernel) rfl, rfl, by decide +kernel⟩
theorem kp_X5_36 : fLk RX5 36 5 6 := bw_mem (w := Cond.fieldLink RX5 36 "ArrowDiagrams$Pasting" "steps" "LArrowDiagrams$Grid;") 260 (by decide +kernel) rfl
theorem kc_X5_c40 : Cond.classLink RX5 40 (cN 8) ∈ BW := bw_mem (w := Cond.classLink RX5 40 (cN 8)) 248 (by decide +kernel) rfl
theorem li_X5_42 : lkI RX5 42 yX8_init cX8_init 2 1 false := ⟨bw_mem (w := Cond.methodLink RX5 42 yX8_init) 249 (by decide +kernel) rfl, bw_mem (w := Cond.initialized RX8) 94 (by decide +kernel) rfl, bw_mem (w := Cond.code yX8_init cX8_init 2 none) 130 (by decide +kernel) rfl, bw_mem (w := Cond.instanceMethod yX8_init) 129 (by decide +kernel) rfl, rfl, by decide +kernel⟩
theorem kp_X5_45 : fLk RX5 45 5 7 := bw_mem (w := Cond.fieldLink RX5 45 "ArrowDiagrams$Pasting" "names" "LArrowDiagrams$Row;") 261 (by decide +kernel) rfl
theorem kp_X5_49 : fLk RX5 49 5 8 := bw_mem (w := Cond.fieldLink RX5 49 "ArrowDiagrams$Pasting" "classSizes" "LArrowDiagrams$Row;") 262 (by decide +kernel) rfl
theorem kp_X5_52 : fLk RX5 52 5 9 := bw_mem (w := Cond.fieldLink RX5 52 "ArrowDiagrams$Pasting" "distances" "LArrowDiagrams$Row;") 263 (by decide +kernel) rfl
theorem kp_X5_55 : fLk RX5 55 5 10 := bw_mem (w := Cond.fieldLink RX5 55 "ArrowDiagrams$Pasting" "queue" "LArrowDiagrams$Row;") 264 (by decide +kernel) rfl
theorem kp_X5_58 : fLk RX5 58 5 11 := bw_mem (w := Cond.fieldLink RX5 58 "ArrowDiagrams$Pasting" "perPair" "LArrowDiagrams$Grid;") 265 (by decide +kernel) rfl
theorem li_X5_61 : lkV RX5 61 yX8_fill cX8_fill 3 none 1 := ⟨⟨bw_mem (w := Cond.methodLink RX5 61 yX8_fill) 250 (by decide +kernel) rfl, bw_mem (w := Cond.initialized RX8) 94 (by decide +kernel) rfl, bw_mem (w := Cond.code yX8_fill cX8_fill 3 none) 253 (by decide +kernel) rfl, by decide +kernel⟩, bw_mem (w := Cond.instanceMethod yX8_fill) 251 (by decide +kernel) rfl, bw_mem (w := Cond.selects RX8 yX8_fill yX8_fill) 252 (by decide +kernel) rfl⟩
theorem ko_X9_3 : Cond.methodLink RX9 3 objectInit ∈ BW := bw_mem (w := Cond.methodLink RX9 3 objectInit) 117 (by decide +kernel) rfl
theorem kc_X9_c9 : Cond.classLink RX9 9 (cN 2) ∈ BW := bw_mem (w := Cond.classLink RX9 9 (cN 2)) 120 (by decide +kernel) rfl
theorem li_X9_11 : lkI RX9 11 yX2_init cX2_init 1 0 true := ⟨by show Cond.methodLinkNest RX9 11 yX2_init "ArrowDiagrams" ∈ XW; decide +kernel, bw_mem (w := Cond.initialized RX2) 93 (by decide +kernel) rfl, bw_mem (w := Cond.code yX2_init cX2_init 1 none) 124 (by decide +kernel) rfl, bw_mem (w := Cond.instanceMethod yX2_init) 123 (by decide +kernel) rfl, rfl, by decide +kernel⟩
theorem kp_X9_12 : fLk RX9 12 9 0 := bw_mem (w := Cond.fieldLink RX9 12 "ArrowDiagrams" "graph" "LArrowDiagrams$Graph;") 427 (by decide +kernel) rfl
theorem kc_X9_c16 : Cond.classLink RX9 16 (cN 0) ∈ BW := bw_mem (w := Cond.classLink RX9 16 (cN 0)) 153 (by decide +kernel) rfl
theorem li_X9_18 : lkI RX9 18 yX0_init cX0_init 1 0 true := ⟨by show Cond.methodLinkNest RX9 18 yX0_init "ArrowDiagrams" ∈ XW; decide +kernel, bw_mem (w := Cond.initialized RX0) 95 (by decide +kernel) rfl, bw_mem (w := Cond.code yX0_init cX0_init 1 none) 157 (by decide +kernel) rfl, bw_mem (w := Cond.instanceMethod yX0_init) 156 (by decide +kernel) rfl, rfl, by decide +kernel⟩
theorem kp_X9_19 : fLk RX9 19 9 1 := bw_mem (w := Cond.fieldLink RX9 19 "ArrowDiagrams" "cells" "LArrowDiagrams$Cells;") 428 (by decide +kernel) rfl
theorem ki_6 : Cond.instantiable (cN 6) (cn 6) ∈ BW := bw_mem (w := Cond.instantiable (cN 6) (cn 6)) 194 (by decide +kernel) rfl
theorem kj_6 : Cond.initialized (cN 6) ∈ BW := bw_mem (w := Cond.initialized (cN 6)) 97 (by decide +kernel) rfl
theorem kc_X9_c23 : Cond.classLink RX9 23 (cN 6) ∈ BW := bw_mem (w := Cond.classLink RX9 23 (cN 6)) 193 (by decide +kernel) rfl
theorem li_X9_25 : lkI RX9 25 yX6_init cX6_init 1 0 true := ⟨by show Cond.methodLinkNest RX9 25 yX6_init "ArrowDiagrams" ∈ XW; decide +kernel, bw_mem (w := Cond.initialized RX6) 97 (by decide +kernel) rfl, bw_mem (w := Cond.code yX6_init cX6_init 1 none) 197 (by decide +kernel) rfl, bw_mem (w := Cond.instanceMethod yX6_init) 196 (by decide +kernel) rfl, rfl, by decide +kernel⟩
theorem kp_X9_26 : fLk RX9 26 9 2 := bw_mem (w := Cond.fieldLink RX9 26 "ArrowDiagrams" "paths" "LArrowDiagrams$Paths;") 429 (by decide +kernel) rfl
theorem ki_5 : Cond.instantiable (cN 5) (cn 5) ∈ BW := bw_mem (w := Cond.instantiable (cN 5) (cn 5)) 241 (by decide +kernel) rfl
theorem kj_5 : Cond.initialized (cN 5) ∈ BW := bw_mem (w := Cond.initialized (cN 5)) 98 (by decide +kernel) rfl
theorem kc_X9_c30 : Cond.classLink RX9 30 (cN 5) ∈ BW := bw_mem (w := Cond.classLink RX9 30 (cN 5)) 240 (by decide +kernel) rfl
theorem li_X9_32 : lkI RX9 32 yX5_init cX5_init 1 0 false := ⟨bw_mem (w := Cond.methodLink RX9 32 yX5_init) 242 (by decide +kernel) rfl, bw_mem (w := Cond.initialized RX5) 98 (by decide +kernel) rfl, bw_mem (w := Cond.code yX5_init cX5_init 1 none) 244 (by decide +kernel) rfl, bw_mem (w := Cond.instanceMethod yX5_init) 243 (by decide +kernel) rfl, rfl, by decide +kernel⟩
theorem kp_X9_33 : fLk RX9 33 9 3 := bw_mem (w := Cond.fieldLink RX9 33 "ArrowDiagrams" "pasting" "LArrowDiagrams$Pasting;") 430 (by decide +kernel) rfl
theorem ki_1 : Cond.instantiable (cN 1) (cn 1) ∈ BW := bw_mem (w := Cond.instantiable (cN 1) (cn 1)) 292 (by decide +kernel) rfl
theorem kj_1 : Cond.initialized (cN 1) ∈ BW := bw_mem (w := Cond.initialized (cN 1)) 99 (by decide +kernel) rfl
theorem kc_X9_c37 : Cond.classLink RX9 37 (cN 1) ∈ BW := bw_mem (w := Cond.classLink RX9 37 (cN 1)) 291 (by decide +kernel) rfl
theorem li_X9_39 : lkI RX9 39 yX1_init cX1_init 1 0 true := ⟨by show Cond.methodLinkNest RX9 39 yX1_init "ArrowDiagrams" ∈ XW; decide +kernel, bw_mem (w := Cond.initialized RX1) 99 (by decide +kernel) rfl, bw_mem (w := Cond.code yX1_init cX1_init 1 none) 295 (by decide +kernel) rfl, bw_mem (w := Cond.instanceMethod yX1_init) 294 (by decide +kernel) rfl, rfl, by decide +kernel⟩
theorem kp_X9_40 : fLk RX9 40 9 4 := bw_mem (w := Cond.fieldLink RX9 40 "ArrowDiagrams" "functions" "LArrowDiagrams$Functions;") 431 (by decide +kernel) rfl
theorem kp_X9_44 : fLk RX9 44 9 5 := bw_mem (w := Cond.fieldLink RX9 44 "ArrowDiagrams" "trial" "LArrowDiagrams$Functions;") 432 (by decide +kernel) rfl
theorem ki_4 : Cond.instantiable (cN 4) (cn 4) ∈ BW := bw_mem (w := Cond.instantiable (cN 4) (cn 4)) 307 (by decide +kernel) rfl
theorem kj_4 : Cond.initialized (cN 4) ∈ BW := bw_mem (w := Cond.initialized (cN 4)) 100 (by decide +kernel) rfl
theorem kc_X9_c47 : Cond.classLink RX9 47 (cN 4) ∈ BW := bw_mem (w := Cond.classLink RX9 47 (cN 4)) 306 (by decide +kernel) rfl
theorem li_X9_49 : lkI RX9 49 yX4_init cX4_init 1 0 true := ⟨by show Cond.methodLinkNest RX9 49 yX4_init "ArrowDiagrams" ∈ XW; decide +kernel, bw_mem (w := Cond.initialized RX4) 100 (by decide +kernel) rfl, bw_mem (w := Cond.code yX4_init cX4_init 1 none) 310 (by decide +kernel) rfl, bw_mem (w := Cond.instanceMethod yX4_init) 309 (by decide +kernel) rfl, rfl, by decide +kernel⟩
theorem kp_X9_50 : fLk RX9 50 9 6 := bw_mem (w := Cond.fieldLink RX9 50 "ArrowDiagrams" "input" "LArrowDiagrams$Input;") 433 (by decide +kernel) rfl
theorem ki_7 : Cond.instantiable (cN 7) (cn 7) ∈ BW := bw_mem (w := Cond.instantiable (cN 7) (cn 7)) 322 (by decide +kernel) rfl
theorem kj_7 : Cond.initialized (cN 7) ∈ BW := bw_mem (w := Cond.initialized (cN 7)) 101 (by decide +kernel) rfl
theorem kc_X9_c54 : Cond.classLink RX9 54 (cN 7) ∈ BW := bw_mem (w := Cond.classLink RX9 54 (cN 7)) 321 (by decide +kernel) rfl
theorem li_X9_56 : lkI RX9 56 yX7_init cX7_init 1 0 true := ⟨by show Cond.methodLinkNest RX9 56 yX7_init "ArrowDiagrams" ∈ XW; decide +kernel, bw_mem (w := Cond.initialized RX7) 101 (by decide +kernel) rfl, bw_mem (w := Cond.code yX7_init cX7_init 1 none) 325 (by decide +kernel) rfl, bw_mem (w := Cond.instanceMethod yX7_init) 324 (by decide +kernel) rfl, rfl, by decide +kernel⟩
theorem kp_X9_57 : fLk RX9 57 9 7 := bw_mem (w := Cond.fieldLink RX9 57 "ArrowDiagrams" "reader" "LArrowDiagrams$Reader;") 434 (by decide +kernel) rfl
theorem li_X9_61 : lkV RX9 61 yX2_clear cX2_clear 2 none 1 := ⟨⟨bw_mem (w := Cond.methodLink RX9 61 yX2_clear) 350 (by decide +kernel) rfl, bw_mem (w := Cond.initialized RX2) 93 (by decide +kernel) rfl, bw_mem (w := Cond.code yX2_clear cX2_clear 2 none) 353 (by decide +kernel) rfl, by decide +kernel⟩, bw_mem (w := Cond.instanceMethod yX2_clear) 351 (by decide +kernel) rfl, bw_mem (w := Cond.selects RX2 yX2_clear yX2_clear) 352 (by decide +kernel) rfl⟩
theorem li_X9_65 : lkV RX9 65 yX1_clear cX1_clear 1 none 0 := ⟨⟨bw_mem (w := Cond.methodLink RX9 65 yX1_clear) 354 (by decide +kernel) rfl, bw_mem (w := Cond.initialized RX1) 99 (by decide +kernel) rfl, bw_mem (w := Cond.code yX1_clear cX1_clear 1 none) 357 (by decide +kernel) rfl, by decide +kernel⟩, bw_mem (w := Cond.instanceMethod yX1_clear) 355 (by decide +kernel) rfl, bw_mem (w := Cond.selects RX1 yX1_clear yX1_clear) 356 (by decide +kernel) rfl⟩
theorem li_X9_67 : lkV RX9 67 yX9_graphChanged cX9_graphChanged 1 none 0 := ⟨⟨bw_mem (w := Cond.methodLink RX9 67 yX9_graphChanged) 359 (by decide +kernel) rfl, bw_mem (w := Cond.initialized RX9) 92 (by decide +kernel) rfl, bw_mem (w := Cond.code yX9_graphChanged cX9_graphChanged 1 none) 362 (by decide +kernel) rfl, by decide +kernel⟩, bw_mem (w := Cond.instanceMethod yX9_graphChanged) 361 (by decide +kernel) rfl, bw_mem (w := Cond.selects RX9 yX9_graphChanged yX9_graphChanged) 0 (by decide +kernel) rfl⟩
theorem ko_X10_1 : Cond.methodLink RX10 1 objectInit ∈ BW := bw_mem (w := Cond.methodLink RX10 1 objectInit) 1173 (by decide +kernel) rfl
theorem kp_X10_7 : fLk RX10 7 10 1 := bw_mem (w := Cond.fieldLink RX10 7 "ArrowDiagramsModel" "n" "I") 1191 (by decide +kernel) rfl
theorem kp_X10_13 : fLk RX10 13 10 3 := bw_mem (w := Cond.fieldLink RX10 13 "ArrowDiagramsModel" "af" "[I") 1193 (by decide +kernel) rfl
theorem kp_X10_17 : fLk RX10 17 10 4 := bw_mem (w := Cond.fieldLink RX10 17 "ArrowDiagramsModel" "at" "[I") 1194 (by decide +kernel) rfl
theorem kp_X10_20 : fLk RX10 20 10 5 := bw_mem (w := Cond.fieldLink RX10 20 "ArrowDiagramsModel" "code" "[I") 1195 (by decide +kernel) rfl
theorem kp_X10_23 : fLk RX10 23 10 6 := bw_mem (w := Cond.fieldLink RX10 23 "ArrowDiagramsModel" "size" "[I") 1196 (by decide +kernel) rfl
theorem kp_X10_26 : fLk RX10 26 10 8 := bw_mem (w := Cond.fieldLink RX10 26 "ArrowDiagramsModel" "cFrom" "[I") 1198 (by decide +kernel) rfl
theorem kp_X10_29 : fLk RX10 29 10 9 := bw_mem (w := Cond.fieldLink RX10 29 "ArrowDiagramsModel" "cLen" "[I") 1199 (by decide +kernel) rfl
theorem kp_X10_32 : fLk RX10 32 10 10 := bw_mem (w := Cond.fieldLink RX10 32 "ArrowDiagramsModel" "cSeq" "[I") 1200 (by decide +kernel) rfl
theorem kp_X10_35 : fLk RX10 35 10 12 := bw_mem (w := Cond.fieldLink RX10 35 "ArrowDiagramsModel" "buffer" "[I") 1202 (by decide +kernel) rfl
theorem kp_X10_38 : fLk RX10 38 10 14 := bw_mem (w := Cond.fieldLink RX10 38 "ArrowDiagramsModel" "pFrom" "[I") 1204 (by decide +kernel) rfl
theorem kp_X10_41 : fLk RX10 41 10 15 := bw_mem (w := Cond.fieldLink RX10 41 "ArrowDiagramsModel" "pTo" "[I") 1205 (by decide +kernel) rfl
theorem kp_X10_44 : fLk RX10 44 10 16 := bw_mem (w := Cond.fieldLink RX10 44 "ArrowDiagramsModel" "pLen" "[I") 1206 (by decide +kernel) rfl
theorem kp_X10_47 : fLk RX10 47 10 17 := bw_mem (w := Cond.fieldLink RX10 47 "ArrowDiagramsModel" "pSeq" "[I") 1207 (by decide +kernel) rfl
theorem kp_X10_50 : fLk RX10 50 10 18 := bw_mem (w := Cond.fieldLink RX10 50 "ArrowDiagramsModel" "on" "[I") 1208 (by decide +kernel) rfl
theorem kp_X10_53 : fLk RX10 53 10 25 := bw_mem (w := Cond.fieldLink RX10 53 "ArrowDiagramsModel" "far" "[I") 1215 (by decide +kernel) rfl
theorem kp_X10_56 : fLk RX10 56 10 26 := bw_mem (w := Cond.fieldLink RX10 56 "ArrowDiagramsModel" "names" "[I") 1216 (by decide +kernel) rfl
theorem kp_X10_59 : fLk RX10 59 10 27 := bw_mem (w := Cond.fieldLink RX10 59 "ArrowDiagramsModel" "line" "[I") 1217 (by decide +kernel) rfl
theorem kp_X10_62 : fLk RX10 62 10 29 := bw_mem (w := Cond.fieldLink RX10 62 "ArrowDiagramsModel" "oldCode" "[I") 1219 (by decide +kernel) rfl
theorem kp_X10_65 : fLk RX10 65 10 30 := bw_mem (w := Cond.fieldLink RX10 65 "ArrowDiagramsModel" "oldSize" "[I") 1220 (by decide +kernel) rfl
theorem li_X10_68 : lkV RX10 68 yX10_fresh cX10_fresh 3 none 1 := ⟨⟨bw_mem (w := Cond.methodLink RX10 68 yX10_fresh) 1174 (by decide +kernel) rfl, bw_mem (w := Cond.initialized RX10) 102 (by decide +kernel) rfl, bw_mem (w := Cond.code yX10_fresh cX10_fresh 3 none) 1177 (by decide +kernel) rfl, by decide +kernel⟩, bw_mem (w := Cond.instanceMethod yX10_fresh) 1176 (by decide +kernel) rfl, bw_mem (w := Cond.selects RX10 yX10_fresh yX10_fresh) 39 (by decide +kernel) rfl⟩
section CTORS
variable {D : va_G} {cI cL : ClassId}
def wX8 (cI : ClassId) (n : Nat) (q : Nat) (u : List Nat) : va_W := [(q, .inr (8, [.ref (u.getD 0 0)])), (u.getD 0 0, .inl (cI, n, .inl (fun _ => 0)))]
def wX3 (cI : ClassId) (r c : Nat) (q : Nat) (u : List Nat) : va_W := [(q, .inr (3, [.int (nI r), .int (nI c), .ref (u.getD 0 0)])), (u.getD 0 0, .inl (cI, r * c, .inl (fun _ => 0)))]
set_option maxHeartbeats 4000000 in
set_option maxRecDepth 100000 in
theorem c_X8_init (l : Launch) (hl : l.stackTraces = false) (h0 : Nat) (n : Nat) (hn : 0 < n) (hn2 : n < 100000) : CTI l D cI cL yX8_init cX8_init 2 1 1 n h0 [.int (nI n)] (.inr (8, [.null])) (wX8 cI n h0) 1 := by
  refine cti_of [(0, .ref h0), (1, .int (nI n))] (by decide +kernel) rfl hl (show 2 ≤ 2 by decide) rfl (fun A X hX K hA => ?_)
  subst hX
  refine n_aload K 0 dX8_init_0 rfl rfl ?_
  refine n_obj K ko_X8_3 ko_1 ko_2 (Nat.le_of_ble_eq_true rfl) (Nat.le_of_ble_eq_true rfl) dX8_init_1 ?_
  refine n_aload K 0 dX8_init_4 rfl rfl ?_
  refine n_iload K 1 dX8_init_5 rfl rfl ?_
  refine n_ifle (tgt := 13) K (nI_nle hn (by omega)) dX8_init_6 (by decide) ?_
  refine n_iload K 1 dX8_init_9 rfl rfl ?_
  refine n_goto (tgt := 14) K dX8_init_10 (by decide) ?_
  refine n_newi (N := n) K ko_3 (nI_pos (by omega)) (nI_clamp (by omega)) (by omega) (Nat.le_of_ble_eq_true rfl) (by show 0 + n ≤ n; omega) dX8_init_14 (fun q14 => ?_)
  refine n_putF K 0 (t := 8) (i := 0) (by decide) rfl (by decide) kp_X8_9 rfl rfl rfl rfl (show 0 < 1 by decide) dX8_init_16 ?_
  exact n_end K [q14] rfl rfl (Nat.le_of_ble_eq_true rfl) (by show 0 + n ≤ n; omega) dX8_init_19
set_option maxHeartbeats 4000000 in
set_option maxRecDepth 100000 in
theorem c_X3_init (l : Launch) (hl : l.stackTraces = false) (h0 : Nat) (r c : Nat) (hr : 0 < r ∧ r < 10000) (hc : 0 < c ∧ c < 10000) (hrc : 0 < r * c) : CTI l D cI cL yX3_init cX3_init 4 1 1 (r * c) h0 [.int (nI r), .int (nI c)] (.inr (3, [.int 0, .int 0, .null])) (wX3 cI r c h0) 1 := by
  have hm : r * c < 100000000 := Nat.lt_of_lt_of_le (Nat.mul_lt_mul_of_lt_of_lt hr.2 hc.2) (by decide)
  refine cti_of [(0, .ref h0), (1, .int (nI r)), (2, .int (nI c))] (by decide +kernel) rfl hl (show 3 ≤ 4 by decide) rfl (fun A X hX K hA => ?_)
  subst hX
  refine n_aload K 0 dX3_init_0 rfl rfl ?_
  refine n_obj K ko_X3_3 ko_1 ko_2 (Nat.le_of_ble_eq_true rfl) (Nat.le_of_ble_eq_true rfl) dX3_init_1 ?_
  refine n_aload K 0 dX3_init_4 rfl rfl ?_
  refine n_iload K 1 dX3_init_5 rfl rfl ?_
  refine n_ifle (tgt := 13) K (nI_nle hr.1 (by omega)) dX3_init_6 (by decide) ?_
  refine n_iload K 1 dX3_init_9 rfl rfl ?_
  refine n_goto (tgt := 14) K dX3_init_10 (by decide) ?_
  refine n_putF K 0 (t := 3) (i := 0) (by decide) rfl (by decide) kp_X3_9 rfl rfl rfl rfl (show 0 < 3 by decide) dX3_init_14 ?_
  refine n_aload K 0 dX3_init_17 rfl rfl ?_
  refine n_iload K 2 dX3_init_18 rfl rfl ?_
  refine n_ifle (tgt := 26) K (nI_nle hc.1 (by omega)) dX3_init_19 (by decide) ?_
  refine n_iload K 2 dX3_init_22 rfl rfl ?_
  refine n_goto (tgt := 27) K dX3_init_23 (by decide) ?_
  refine n_putF K 0 (t := 3) (i := 1) (by decide) rfl (by decide) kp_X3_15 rfl rfl rfl rfl (show 1 < 3 by decide) dX3_init_27 ?_
  refine n_aload K 0 dX3_init_30 rfl rfl ?_
  refine n_get K 0 (t := 3) (i := 0) (by decide) rfl (by decide) kp_X3_9 rfl dX3_init_31 ?_
  refine n_aload K 0 dX3_init_34 rfl rfl ?_
  refine n_get K 0 (t := 3) (i := 1) (by decide) rfl (by decide) kp_X3_15 rfl dX3_init_35 ?_
  refine n_imul K dX3_init_38 ?_
  rw [pk_mul]
  refine n_istore (ls' := [(3, .int (nI (r * c))), (0, .ref h0), (1, .int (nI r)), (2, .int (nI c))]) K dX3_init_39 rfl (by decide) rfl ?_
  refine n_aload K 1 dX3_init_40 rfl rfl ?_
  refine n_iload K 0 dX3_init_41 rfl rfl ?_
  refine n_ifle (tgt := 49) K (nI_nle hrc (by omega)) dX3_init_42 (by decide) ?_
  refine n_iload K 0 dX3_init_45 rfl rfl ?_
  refine n_goto (tgt := 50) K dX3_init_46 (by decide) ?_
  refine n_newi (N := r * c) K ko_3 (nI_pos (by omega)) (nI_clamp (by omega)) (by omega) (Nat.le_of_ble_eq_true rfl) (by show 0 + r * c ≤ r * c; omega) dX3_init_50 (fun q50 => ?_)
  refine n_putF K 0 (t := 3) (i := 2) (by decide) rfl (by decide) kp_X3_18 rfl rfl rfl rfl (show 2 < 3 by decide) dX3_init_52 ?_
  exact n_end K [q50] rfl rfl (Nat.le_of_ble_eq_true rfl) (by show 0 + r * c ≤ r * c; omega) dX3_init_55
def wX2 (cI : ClassId) (h0 : Nat) (u : List Nat) : va_W := [(h0, .inr (2, [.int 0, .int 0, .ref (u.getD 0 0), .ref (u.getD 2 0), .ref (u.getD 4 0)]))] ++ wX8 cI 14 (u.getD 0 0) [u.getD 1 0] ++ wX8 cI 14 (u.getD 2 0) [u.getD 3 0] ++ wX8 cI 8 (u.getD 4 0) [u.getD 5 0]
set_option maxHeartbeats 4000000 in
set_option maxRecDepth 100000 in
theorem c_X2_init (l : Launch) (hl : l.stackTraces = false) (h0 : Nat) : CTI l D cI cL yX2_init cX2_init 1 2 6 39 h0 [] (.inr (2, [.int 0, .int 0, .null, .null, .null])) (wX2 cI h0) 6 := by
  refine cti_of [(0, .ref h0)] (by decide +kernel) rfl hl (show 1 ≤ 1 by decide) rfl (fun A X hX K hA => ?_)
  subst hX
  refine n_aload K 0 dX2_init_0 rfl rfl ?_
  refine n_obj K ko_X2_3 ko_1 ko_2 (Nat.le_of_ble_eq_true rfl) (Nat.le_of_ble_eq_true rfl) dX2_init_1 ?_
  refine n_aload K 0 dX2_init_4 rfl rfl ?_
  refine n_iconst (v := 0) K dX2_init_5 rfl ?_
  refine n_puti K 0 (t := 2) (i := 0) (by decide) rfl (by decide) kp_X2_9 rfl rfl rfl (show 0 < 5 by decide) dX2_init_6 ?_
  show NW _ _ _ _ _ _ _ _ _ _ ([(h0, .inr (2, [.int 0, .int 0, .null, .null, .null]))])
  refine n_aload K 0 dX2_init_9 rfl rfl ?_
  refine n_iconst (v := 0) K dX2_init_10 rfl ?_
  refine n_puti K 0 (t := 2) (i := 1) (by decide) rfl (by decide) kp_X2_15 rfl rfl rfl (show 1 < 5 by decide) dX2_init_11 ?_
  show NW _ _ _ _ _ _ _ _ _ _ ([(h0, .inr (2, [.int 0, .int 0, .null, .null, .null]))])
  refine n_aload K 0 dX2_init_14 rfl rfl ?_
  refine n_new (t := 8) (fs := [.null]) K (by decide) kc_X2_c18 ki_8 kj_8 (by decide) (Nat.le_of_ble_eq_true rfl) (Nat.le_of_ble_eq_true rfl) dX2_init_15 (fun q15 => ?_)
  refine n_dup K dX2_init_18 ?_
  refine n_bipush (v := 14) K dX2_init_19 rfl ?_
  refine n_call (as := [.int 14]) K false li_X2_20 (c_X8_init X.2.1 hl q15 14 (by decide) (by decide)) rfl (Nat.le_of_ble_eq_true rfl) ⟨Nat.le_of_ble_eq_true rfl, Nat.le_of_ble_eq_true rfl⟩ ⟨Nat.le_of_ble_eq_true rfl, Nat.le_of_ble_eq_true rfl⟩ rfl dX2_init_21 (fun u21 hu21 => ?_)
  refine n_putF K 0 (t := 2) (i := 2) (by decide) rfl (by decide) kp_X2_23 rfl rfl rfl rfl (show 2 < 5 by decide) dX2_init_24 ?_
  show NW _ _ _ _ _ _ _ _ _ _ ([(h0, .inr (2, [.int 0, .int 0, .ref q15, .null, .null]))] ++ wX8 cI 14 q15 u21)
  refine n_aload K 0 dX2_init_27 rfl rfl ?_
  refine n_new (t := 8) (fs := [.null]) K (by decide) kc_X2_c18 ki_8 kj_8 (by decide) (Nat.le_of_ble_eq_true rfl) (Nat.le_of_ble_eq_true rfl) dX2_init_28 (fun q28 => ?_)
  refine n_dup K dX2_init_31 ?_
  refine n_bipush (v := 14) K dX2_init_32 rfl ?_
  refine n_call (as := [.int 14]) K false li_X2_20 (c_X8_init X.2.1 hl q28 14 (by decide) (by decide)) rfl (Nat.le_of_ble_eq_true rfl) ⟨Nat.le_of_ble_eq_true rfl, Nat.le_of_ble_eq_true rfl⟩ ⟨Nat.le_of_ble_eq_true rfl, Nat.le_of_ble_eq_true rfl⟩ rfl dX2_init_34 (fun u34 hu34 => ?_)
  refine n_putF K 0 (t := 2) (i := 3) (by decide) rfl (by decide) kp_X2_27 rfl rfl rfl rfl (show 3 < 5 by decide) dX2_init_37 ?_
  show NW _ _ _ _ _ _ _ _ _ _ ([(h0, .inr (2, [.int 0, .int 0, .ref q15, .ref q28, .null]))] ++ wX8 cI 14 q15 u21 ++ wX8 cI 14 q28 u34)
  refine n_aload K 0 dX2_init_40 rfl rfl ?_
  refine n_new (t := 8) (fs := [.null]) K (by decide) kc_X2_c18 ki_8 kj_8 (by decide) (Nat.le_of_ble_eq_true rfl) (Nat.le_of_ble_eq_true rfl) dX2_init_41 (fun q41 => ?_)
  refine n_dup K dX2_init_44 ?_
  refine n_bipush (v := 8) K dX2_init_45 rfl ?_
  refine n_call (as := [.int 8]) K false li_X2_20 (c_X8_init X.2.1 hl q41 8 (by decide) (by decide)) rfl (Nat.le_of_ble_eq_true rfl) ⟨Nat.le_of_ble_eq_true rfl, Nat.le_of_ble_eq_true rfl⟩ ⟨Nat.le_of_ble_eq_true rfl, Nat.le_of_ble_eq_true rfl⟩ rfl dX2_init_47 (fun u47 hu47 => ?_)
  refine n_putF K 0 (t := 2) (i := 4) (by decide) rfl (by decide) kp_X2_30 rfl rfl rfl rfl (show 4 < 5 by decide) dX2_init_50 ?_
  show NW _ _ _ _ _ _ _ _ _ _ ([(h0, .inr (2, [.int 0, .int 0, .ref q15, .ref q28, .ref q41]))] ++ wX8 cI 14 q15 u21 ++ wX8 cI 14 q28 u34 ++ wX8 cI 8 q41 u47)
  exact n_end K [q15, u21.getD 0 0, q28, u34.getD 0 0, q41, u47.getD 0 0] rfl rfl (Nat.le_of_ble_eq_true rfl) (Nat.le_of_ble_eq_true rfl) dX2_init_53
def wX0 (cI : ClassId) (h0 : Nat) (u : List Nat) : va_W := [(h0, .inr (0, [.int 0, .ref (u.getD 0 0), .ref (u.getD 2 0), .ref (u.getD 4 0), .ref (u.getD 6 0)]))] ++ wX8 cI 10 (u.getD 0 0) [u.getD 1 0] ++ wX8 cI 20 (u.getD 2 0) [u.getD 3 0] ++ wX3 cI 20 7 (u.getD 4 0) [u.getD 5 0] ++ wX8 cI 20 (u.getD 6 0) [u.getD 7 0]
set_option maxHeartbeats 4000000 in
set_option maxRecDepth 100000 in
theorem c_X0_init (l : Launch) (hl : l.stackTraces = false) (h0 : Nat) : CTI l D cI cL yX0_init cX0_init 1 2 8 196 h0 [] (.inr (0, [.int 0, .null, .null, .null, .null])) (wX0 cI h0) 8 := by
  refine cti_of [(0, .ref h0)] (by decide +kernel) rfl hl (show 1 ≤ 1 by decide) rfl (fun A X hX K hA => ?_)
  subst hX
  refine n_aload K 0 dX0_init_0 rfl rfl ?_
  refine n_obj K ko_X0_3 ko_1 ko_2 (Nat.le_of_ble_eq_true rfl) (Nat.le_of_ble_eq_true rfl) dX0_init_1 ?_
  refine n_aload K 0 dX0_init_4 rfl rfl ?_
  refine n_iconst (v := 0) K dX0_init_5 rfl ?_
  refine n_puti K 0 (t := 0) (i := 0) (by decide) rfl (by decide) kp_X0_9 rfl rfl rfl (show 0 < 5 by decide) dX0_init_6 ?_
  show NW _ _ _ _ _ _ _ _ _ _ ([(h0, .inr (0, [.int 0, .null, .null, .null, .null]))])
  refine n_aload K 0 dX0_init_9 rfl rfl ?_
  refine n_new (t := 8) (fs := [.null]) K (by decide) kc_X0_c15 ki_8 kj_8 (by decide) (Nat.le_of_ble_eq_true rfl) (Nat.le_of_ble_eq_true rfl) dX0_init_10 (fun q10 => ?_)
  refine n_dup K dX0_init_13 ?_
  refine n_bipush (v := 10) K dX0_init_14 rfl ?_
  refine n_call (as := [.int 10]) K false li_X0_17 (c_X8_init X.2.1 hl q10 10 (by decide) (by decide)) rfl (Nat.le_of_ble_eq_true rfl) ⟨Nat.le_of_ble_eq_true rfl, Nat.le_of_ble_eq_true rfl⟩ ⟨Nat.le_of_ble_eq_true rfl, Nat.le_of_ble_eq_true rfl⟩ rfl dX0_init_16 (fun u16 hu16 => ?_)
  refine n_putF K 0 (t := 0) (i := 1) (by decide) rfl (by decide) kp_X0_20 rfl rfl rfl rfl (show 1 < 5 by decide) dX0_init_19 ?_
  show NW _ _ _ _ _ _ _ _ _ _ ([(h0, .inr (0, [.int 0, .ref q10, .null, .null, .null]))] ++ wX8 cI 10 q10 u16)
  refine n_aload K 0 dX0_init_22 rfl rfl ?_
  refine n_new (t := 8) (fs := [.null]) K (by decide) kc_X0_c15 ki_8 kj_8 (by decide) (Nat.le_of_ble_eq_true rfl) (Nat.le_of_ble_eq_true rfl) dX0_init_23 (fun q23 => ?_)
  refine n_dup K dX0_init_26 ?_
  refine n_bipush (v := 20) K dX0_init_27 rfl ?_
  refine n_call (as := [.int 20]) K false li_X0_17 (c_X8_init X.2.1 hl q23 20 (by decide) (by decide)) rfl (Nat.le_of_ble_eq_true rfl) ⟨Nat.le_of_ble_eq_true rfl, Nat.le_of_ble_eq_true rfl⟩ ⟨Nat.le_of_ble_eq_true rfl, Nat.le_of_ble_eq_true rfl⟩ rfl dX0_init_29 (fun u29 hu29 => ?_)
  refine n_putF K 0 (t := 0) (i := 2) (by decide) rfl (by decide) kp_X0_24 rfl rfl rfl rfl (show 2 < 5 by decide) dX0_init_32 ?_
  show NW _ _ _ _ _ _ _ _ _ _ ([(h0, .inr (0, [.int 0, .ref q10, .ref q23, .null, .null]))] ++ wX8 cI 10 q10 u16 ++ wX8 cI 20 q23 u29)
  refine n_aload K 0 dX0_init_35 rfl rfl ?_
  refine n_new (t := 3) (fs := [.int 0, .int 0, .null]) K (by decide) kc_X0_c27 ki_3 kj_3 (by decide) (Nat.le_of_ble_eq_true rfl) (Nat.le_of_ble_eq_true rfl) dX0_init_36 (fun q36 => ?_)
  refine n_dup K dX0_init_39 ?_
  refine n_bipush (v := 20) K dX0_init_40 rfl ?_
  refine n_bipush (v := 7) K dX0_init_42 rfl ?_
  refine n_call (as := [.int 20, .int 7]) K false li_X0_29 (c_X3_init X.2.1 hl q36 20 7 (by decide) (by decide) (by decide)) rfl (Nat.le_of_ble_eq_true rfl) ⟨Nat.le_of_ble_eq_true rfl, Nat.le_of_ble_eq_true rfl⟩ ⟨Nat.le_of_ble_eq_true rfl, Nat.le_of_ble_eq_true rfl⟩ rfl dX0_init_44 (fun u44 hu44 => ?_)
  refine n_putF K 0 (t := 0) (i := 3) (by decide) rfl (by decide) kp_X0_32 rfl rfl rfl rfl (show 3 < 5 by decide) dX0_init_47 ?_
  show NW _ _ _ _ _ _ _ _ _ _ ([(h0, .inr (0, [.int 0, .ref q10, .ref q23, .ref q36, .null]))] ++ wX8 cI 10 q10 u16 ++ wX8 cI 20 q23 u29 ++ wX3 cI 20 7 q36 u44)
  refine n_aload K 0 dX0_init_50 rfl rfl ?_
  refine n_new (t := 8) (fs := [.null]) K (by decide) kc_X0_c15 ki_8 kj_8 (by decide) (Nat.le_of_ble_eq_true rfl) (Nat.le_of_ble_eq_true rfl) dX0_init_51 (fun q51 => ?_)
  refine n_dup K dX0_init_54 ?_
  refine n_bipush (v := 20) K dX0_init_55 rfl ?_
  refine n_call (as := [.int 20]) K false li_X0_17 (c_X8_init X.2.1 hl q51 20 (by decide) (by decide)) rfl (Nat.le_of_ble_eq_true rfl) ⟨Nat.le_of_ble_eq_true rfl, Nat.le_of_ble_eq_true rfl⟩ ⟨Nat.le_of_ble_eq_true rfl, Nat.le_of_ble_eq_true rfl⟩ rfl dX0_init_57 (fun u57 hu57 => ?_)
  refine n_putF K 0 (t := 0) (i := 4) (by decide) rfl (by decide) kp_X0_36 rfl rfl rfl rfl (show 4 < 5 by decide) dX0_init_60 ?_
  show NW _ _ _ _ _ _ _ _ _ _ ([(h0, .inr (0, [.int 0, .ref q10, .ref q23, .ref q36, .ref q51]))] ++ wX8 cI 10 q10 u16 ++ wX8 cI 20 q23 u29 ++ wX3 cI 20 7 q36 u44 ++ wX8 cI 20 q51 u57)
  exact n_end K [q10, u16.getD 0 0, q23, u29.getD 0 0, q36, u44.getD 0 0, q51, u57.getD 0 0] rfl rfl (Nat.le_of_ble_eq_true rfl) (Nat.le_of_ble_eq_true rfl) dX0_init_63
def wX1 (cI : ClassId) (h0 : Nat) (u : List Nat) : va_W := [(h0, .inr (1, [.ref (u.getD 0 0), .ref (u.getD 2 0)]))] ++ wX8 cI 8 (u.getD 0 0) [u.getD 1 0] ++ wX8 cI 14 (u.getD 2 0) [u.getD 3 0]
set_option maxHeartbeats 4000000 in
set_option maxRecDepth 100000 in
theorem c_X1_init (l : Launch) (hl : l.stackTraces = false) (h0 : Nat) : CTI l D cI cL yX1_init cX1_init 1 2 4 24 h0 [] (.inr (1, [.null, .null])) (wX1 cI h0) 4 := by
  refine cti_of [(0, .ref h0)] (by decide +kernel) rfl hl (show 1 ≤ 1 by decide) rfl (fun A X hX K hA => ?_)
  subst hX
  refine n_aload K 0 dX1_init_0 rfl rfl ?_
  refine n_obj K ko_X1_3 ko_1 ko_2 (Nat.le_of_ble_eq_true rfl) (Nat.le_of_ble_eq_true rfl) dX1_init_1 ?_
  refine n_aload K 0 dX1_init_4 rfl rfl ?_
  refine n_new (t := 8) (fs := [.null]) K (by decide) kc_X1_c9 ki_8 kj_8 (by decide) (Nat.le_of_ble_eq_true rfl) (Nat.le_of_ble_eq_true rfl) dX1_init_5 (fun q5 => ?_)
  refine n_dup K dX1_init_8 ?_
  refine n_bipush (v := 8) K dX1_init_9 rfl ?_
  refine n_call (as := [.int 8]) K false li_X1_11 (c_X8_init X.2.1 hl q5 8 (by decide) (by decide)) rfl (Nat.le_of_ble_eq_true rfl) ⟨Nat.le_of_ble_eq_true rfl, Nat.le_of_ble_eq_true rfl⟩ ⟨Nat.le_of_ble_eq_true rfl, Nat.le_of_ble_eq_true rfl⟩ rfl dX1_init_11 (fun u11 hu11 => ?_)
  refine n_putF K 0 (t := 1) (i := 0) (by decide) rfl (by decide) kp_X1_14 rfl rfl rfl rfl (show 0 < 2 by decide) dX1_init_14 ?_
  show NW _ _ _ _ _ _ _ _ _ _ ([(h0, .inr (1, [.ref q5, .null]))] ++ wX8 cI 8 q5 u11)
  refine n_aload K 0 dX1_init_17 rfl rfl ?_
  refine n_new (t := 8) (fs := [.null]) K (by decide) kc_X1_c9 ki_8 kj_8 (by decide) (Nat.le_of_ble_eq_true rfl) (Nat.le_of_ble_eq_true rfl) dX1_init_18 (fun q18 => ?_)
  refine n_dup K dX1_init_21 ?_
  refine n_bipush (v := 14) K dX1_init_22 rfl ?_
  refine n_call (as := [.int 14]) K false li_X1_11 (c_X8_init X.2.1 hl q18 14 (by decide) (by decide)) rfl (Nat.le_of_ble_eq_true rfl) ⟨Nat.le_of_ble_eq_true rfl, Nat.le_of_ble_eq_true rfl⟩ ⟨Nat.le_of_ble_eq_true rfl, Nat.le_of_ble_eq_true rfl⟩ rfl dX1_init_24 (fun u24 hu24 => ?_)
  refine n_putF K 0 (t := 1) (i := 1) (by decide) rfl (by decide) kp_X1_20 rfl rfl rfl rfl (show 1 < 2 by decide) dX1_init_27 ?_
  show NW _ _ _ _ _ _ _ _ _ _ ([(h0, .inr (1, [.ref q5, .ref q18]))] ++ wX8 cI 8 q5 u11 ++ wX8 cI 14 q18 u24)
  exact n_end K [q5, u11.getD 0 0, q18, u24.getD 0 0] rfl rfl (Nat.le_of_ble_eq_true rfl) (Nat.le_of_ble_eq_true rfl) dX1_init_30
def wX4 (cI : ClassId) (h0 : Nat) (u : List Nat) : va_W := [(h0, .inr (4, [.int 0, .ref (u.getD 0 0)]))] ++ wX8 cI 60 (u.getD 0 0) [u.getD 1 0]
set_option maxHeartbeats 4000000 in
set_option maxRecDepth 100000 in
theorem c_X4_init (l : Launch) (hl : l.stackTraces = false) (h0 : Nat) : CTI l D cI cL yX4_init cX4_init 1 2 2 61 h0 [] (.inr (4, [.int 0, .null])) (wX4 cI h0) 2 := by
  refine cti_of [(0, .ref h0)] (by decide +kernel) rfl hl (show 1 ≤ 1 by decide) rfl (fun A X hX K hA => ?_)
  subst hX
  refine n_aload K 0 dX4_init_0 rfl rfl ?_
  refine n_obj K ko_X4_3 ko_1 ko_2 (Nat.le_of_ble_eq_true rfl) (Nat.le_of_ble_eq_true rfl) dX4_init_1 ?_
  refine n_aload K 0 dX4_init_4 rfl rfl ?_
  refine n_iconst (v := 0) K dX4_init_5 rfl ?_
  refine n_puti K 0 (t := 4) (i := 0) (by decide) rfl (by decide) kp_X4_9 rfl rfl rfl (show 0 < 2 by decide) dX4_init_6 ?_
  show NW _ _ _ _ _ _ _ _ _ _ ([(h0, .inr (4, [.int 0, .null]))])
  refine n_aload K 0 dX4_init_9 rfl rfl ?_
  refine n_new (t := 8) (fs := [.null]) K (by decide) kc_X4_c15 ki_8 kj_8 (by decide) (Nat.le_of_ble_eq_true rfl) (Nat.le_of_ble_eq_true rfl) dX4_init_10 (fun q10 => ?_)
  refine n_dup K dX4_init_13 ?_
  refine n_bipush (v := 60) K dX4_init_14 rfl ?_
  refine n_call (as := [.int 60]) K false li_X4_17 (c_X8_init X.2.1 hl q10 60 (by decide) (by decide)) rfl (Nat.le_of_ble_eq_true rfl) ⟨Nat.le_of_ble_eq_true rfl, Nat.le_of_ble_eq_true rfl⟩ ⟨Nat.le_of_ble_eq_true rfl, Nat.le_of_ble_eq_true rfl⟩ rfl dX4_init_16 (fun u16 hu16 => ?_)
  refine n_putF K 0 (t := 4) (i := 1) (by decide) rfl (by decide) kp_X4_20 rfl rfl rfl rfl (show 1 < 2 by decide) dX4_init_19 ?_
  show NW _ _ _ _ _ _ _ _ _ _ ([(h0, .inr (4, [.int 0, .ref q10]))] ++ wX8 cI 60 q10 u16)
  exact n_end K [q10, u16.getD 0 0] rfl rfl (Nat.le_of_ble_eq_true rfl) (Nat.le_of_ble_eq_true rfl) dX4_init_22
def wX6 (cI : ClassId) (h0 : Nat) (u : List Nat) : va_W := [(h0, .inr (6, [.int 0, .ref (u.getD 0 0), .ref (u.getD 2 0), .ref (u.getD 4 0), .ref (u.getD 6 0), .ref (u.getD 8 0), .ref (u.getD 10 0)]))] ++ wX8 cI 300 (u.getD 0 0) [u.getD 1 0] ++ wX8 cI 300 (u.getD 2 0) [u.getD 3 0] ++ wX8 cI 300 (u.getD 4 0) [u.getD 5 0] ++ wX3 cI 300 7 (u.getD 6 0) [u.getD 7 0] ++ wX8 cI 300 (u.getD 8 0) [u.getD 9 0] ++ wX3 cI 300 14 (u.getD 10 0) [u.getD 11 0]
set_option maxHeartbeats 4000000 in
set_option maxRecDepth 100000 in
theorem c_X6_init (l : Launch) (hl : l.stackTraces = false) (h0 : Nat) : CTI l D cI cL yX6_init cX6_init 1 2 12 7510 h0 [] (.inr (6, [.int 0, .null, .null, .null, .null, .null, .null])) (wX6 cI h0) 12 := by
  refine cti_of [(0, .ref h0)] (by decide +kernel) rfl hl (show 1 ≤ 1 by decide) rfl (fun A X hX K hA => ?_)
  subst hX
  refine n_aload K 0 dX6_init_0 rfl rfl ?_
  refine n_obj K ko_X6_3 ko_1 ko_2 (Nat.le_of_ble_eq_true rfl) (Nat.le_of_ble_eq_true rfl) dX6_init_1 ?_
  refine n_aload K 0 dX6_init_4 rfl rfl ?_
  refine n_iconst (v := 0) K dX6_init_5 rfl ?_
  refine n_puti K 0 (t := 6) (i := 0) (by decide) rfl (by decide) kp_X6_9 rfl rfl rfl (show 0 < 7 by decide) dX6_init_6 ?_
  show NW _ _ _ _ _ _ _ _ _ _ ([(h0, .inr (6, [.int 0, .null, .null, .null, .null, .null, .null]))])
  refine n_aload K 0 dX6_init_9 rfl rfl ?_
  refine n_new (t := 8) (fs := [.null]) K (by decide) kc_X6_c15 ki_8 kj_8 (by decide) (Nat.le_of_ble_eq_true rfl) (Nat.le_of_ble_eq_true rfl) dX6_init_10 (fun q10 => ?_)
  refine n_dup K dX6_init_13 ?_
  refine n_sipush (v := 300) K dX6_init_14 rfl ?_
  refine n_call (as := [.int 300]) K false li_X6_17 (c_X8_init X.2.1 hl q10 300 (by decide) (by decide)) rfl (Nat.le_of_ble_eq_true rfl) ⟨Nat.le_of_ble_eq_true rfl, Nat.le_of_ble_eq_true rfl⟩ ⟨Nat.le_of_ble_eq_true rfl, Nat.le_of_ble_eq_true rfl⟩ rfl dX6_init_17 (fun u17 hu17 => ?_)
  refine n_putF K 0 (t := 6) (i := 1) (by decide) rfl (by decide) kp_X6_20 rfl rfl rfl rfl (show 1 < 7 by decide) dX6_init_20 ?_
  show NW _ _ _ _ _ _ _ _ _ _ ([(h0, .inr (6, [.int 0, .ref q10, .null, .null, .null, .null, .null]))] ++ wX8 cI 300 q10 u17)
  refine n_aload K 0 dX6_init_23 rfl rfl ?_
  refine n_new (t := 8) (fs := [.null]) K (by decide) kc_X6_c15 ki_8 kj_8 (by decide) (Nat.le_of_ble_eq_true rfl) (Nat.le_of_ble_eq_true rfl) dX6_init_24 (fun q24 => ?_)
  refine n_dup K dX6_init_27 ?_
  refine n_sipush (v := 300) K dX6_init_28 rfl ?_
  refine n_call (as := [.int 300]) K false li_X6_17 (c_X8_init X.2.1 hl q24 300 (by decide) (by decide)) rfl (Nat.le_of_ble_eq_true rfl) ⟨Nat.le_of_ble_eq_true rfl, Nat.le_of_ble_eq_true rfl⟩ ⟨Nat.le_of_ble_eq_true rfl, Nat.le_of_ble_eq_true rfl⟩ rfl dX6_init_31 (fun u31 hu31 => ?_)
  refine n_putF K 0 (t := 6) (i := 2) (by decide) rfl (by decide) kp_X6_24 rfl rfl rfl rfl (show 2 < 7 by decide) dX6_init_34 ?_
  show NW _ _ _ _ _ _ _ _ _ _ ([(h0, .inr (6, [.int 0, .ref q10, .ref q24, .null, .null, .null, .null]))] ++ wX8 cI 300 q10 u17 ++ wX8 cI 300 q24 u31)
  refine n_aload K 0 dX6_init_37 rfl rfl ?_
  refine n_new (t := 8) (fs := [.null]) K (by decide) kc_X6_c15 ki_8 kj_8 (by decide) (Nat.le_of_ble_eq_true rfl) (Nat.le_of_ble_eq_true rfl) dX6_init_38 (fun q38 => ?_)
  refine n_dup K dX6_init_41 ?_
  refine n_sipush (v := 300) K dX6_init_42 rfl ?_
  refine n_call (as := [.int 300]) K false li_X6_17 (c_X8_init X.2.1 hl q38 300 (by decide) (by decide)) rfl (Nat.le_of_ble_eq_true rfl) ⟨Nat.le_of_ble_eq_true rfl, Nat.le_of_ble_eq_true rfl⟩ ⟨Nat.le_of_ble_eq_true rfl, Nat.le_of_ble_eq_true rfl⟩ rfl dX6_init_45 (fun u45 hu45 => ?_)
  refine n_putF K 0 (t := 6) (i := 3) (by decide) rfl (by decide) kp_X6_27 rfl rfl rfl rfl (show 3 < 7 by decide) dX6_init_48 ?_
  show NW _ _ _ _ _ _ _ _ _ _ ([(h0, .inr (6, [.int 0, .ref q10, .ref q24, .ref q38, .null, .null, .null]))] ++ wX8 cI 300 q10 u17 ++ wX8 cI 300 q24 u31 ++ wX8 cI 300 q38 u45)
  refine n_aload K 0 dX6_init_51 rfl rfl ?_
  refine n_new (t := 3) (fs := [.int 0, .int 0, .null]) K (by decide) kc_X6_c30 ki_3 kj_3 (by decide) (Nat.le_of_ble_eq_true rfl) (Nat.le_of_ble_eq_true rfl) dX6_init_52 (fun q52 => ?_)
  refine n_dup K dX6_init_55 ?_
  refine n_sipush (v := 300) K dX6_init_56 rfl ?_
  refine n_bipush (v := 7) K dX6_init_59 rfl ?_
  refine n_call (as := [.int 300, .int 7]) K false li_X6_32 (c_X3_init X.2.1 hl q52 300 7 (by decide) (by decide) (by decide)) rfl (Nat.le_of_ble_eq_true rfl) ⟨Nat.le_of_ble_eq_true rfl, Nat.le_of_ble_eq_true rfl⟩ ⟨Nat.le_of_ble_eq_true rfl, Nat.le_of_ble_eq_true rfl⟩ rfl dX6_init_61 (fun u61 hu61 => ?_)
  refine n_putF K 0 (t := 6) (i := 4) (by decide) rfl (by decide) kp_X6_35 rfl rfl rfl rfl (show 4 < 7 by decide) dX6_init_64 ?_
  show NW _ _ _ _ _ _ _ _ _ _ ([(h0, .inr (6, [.int 0, .ref q10, .ref q24, .ref q38, .ref q52, .null, .null]))] ++ wX8 cI 300 q10 u17 ++ wX8 cI 300 q24 u31 ++ wX8 cI 300 q38 u45 ++ wX3 cI 300 7 q52 u61)
  refine n_aload K 0 dX6_init_67 rfl rfl ?_
  refine n_new (t := 8) (fs := [.null]) K (by decide) kc_X6_c15 ki_8 kj_8 (by decide) (Nat.le_of_ble_eq_true rfl) (Nat.le_of_ble_eq_true rfl) dX6_init_68 (fun q68 => ?_)
  refine n_dup K dX6_init_71 ?_
  refine n_sipush (v := 300) K dX6_init_72 rfl ?_
  refine n_call (as := [.int 300]) K false li_X6_17 (c_X8_init X.2.1 hl q68 300 (by decide) (by decide)) rfl (Nat.le_of_ble_eq_true rfl) ⟨Nat.le_of_ble_eq_true rfl, Nat.le_of_ble_eq_true rfl⟩ ⟨Nat.le_of_ble_eq_true rfl, Nat.le_of_ble_eq_true rfl⟩ rfl dX6_init_75 (fun u75 hu75 => ?_)
  refine n_putF K 0 (t := 6) (i := 5) (by decide) rfl (by decide) kp_X6_39 rfl rfl rfl rfl (show 5 < 7 by decide) dX6_init_78 ?_
  show NW _ _ _ _ _ _ _ _ _ _ ([(h0, .inr (6, [.int 0, .ref q10, .ref q24, .ref q38, .ref q52, .ref q68, .null]))] ++ wX8 cI 300 q10 u17 ++ wX8 cI 300 q24 u31 ++ wX8 cI 300 q38 u45 ++ wX3 cI 300 7 q52 u61 ++ wX8 cI 300 q68 u75)
  refine n_aload K 0 dX6_init_81 rfl rfl ?_
  refine n_new (t := 3) (fs := [.int 0, .int 0, .null]) K (by decide) kc_X6_c30 ki_3 kj_3 (by decide) (Nat.le_of_ble_eq_true rfl) (Nat.le_of_ble_eq_true rfl) dX6_init_82 (fun q82 => ?_)
  refine n_dup K dX6_init_85 ?_
  refine n_sipush (v := 300) K dX6_init_86 rfl ?_
  refine n_bipush (v := 14) K dX6_init_89 rfl ?_
  refine n_call (as := [.int 300, .int 14]) K false li_X6_32 (c_X3_init X.2.1 hl q82 300 14 (by decide) (by decide) (by decide)) rfl (Nat.le_of_ble_eq_true rfl) ⟨Nat.le_of_ble_eq_true rfl, Nat.le_of_ble_eq_true rfl⟩ ⟨Nat.le_of_ble_eq_true rfl, Nat.le_of_ble_eq_true rfl⟩ rfl dX6_init_91 (fun u91 hu91 => ?_)
  refine n_putF K 0 (t := 6) (i := 6) (by decide) rfl (by decide) kp_X6_42 rfl rfl rfl rfl (show 6 < 7 by decide) dX6_init_94 ?_
  show NW _ _ _ _ _ _ _ _ _ _ ([(h0, .inr (6, [.int 0, .ref q10, .ref q24, .ref q38, .ref q52, .ref q68, .ref q82]))] ++ wX8 cI 300 q10 u17 ++ wX8 cI 300 q24 u31 ++ wX8 cI 300 q38 u45 ++ wX3 cI 300 7 q52 u61 ++ wX8 cI 300 q68 u75 ++ wX3 cI 300 14 q82 u91)
  exact n_end K [q10, u17.getD 0 0, q24, u31.getD 0 0, q38, u45.getD 0 0, q52, u61.getD 0 0, q68, u75.getD 0 0, q82, u91.getD 0 0] rfl rfl (Nat.le_of_ble_eq_true rfl) (Nat.le_of_ble_eq_true rfl) dX6_init_97
def wX7 (cI : ClassId) (h0 : Nat) (u : List Nat) : va_W := [(h0, .inr (7, [.ref (u.getD 0 0), .ref (u.getD 7 0), .int 0, .int 0, .int 0, .int 0]))] ++ wX2 cI (u.getD 0 0) [u.getD 1 0, u.getD 2 0, u.getD 3 0, u.getD 4 0, u.getD 5 0, u.getD 6 0] ++ wX0 cI (u.getD 7 0) [u.getD 8 0, u.getD 9 0, u.getD 10 0, u.getD 11 0, u.getD 12 0, u.getD 13 0, u.getD 14 0, u.getD 15 0]
set_option maxHeartbeats 4000000 in
set_option maxRecDepth 100000 in
theorem c_X7_init (l : Launch) (hl : l.stackTraces = false) (h0 : Nat) : CTI l D cI cL yX7_init cX7_init 1 3 16 245 h0 [] (.inr (7, [.null, .null, .int 0, .int 0, .int 0, .int 0])) (wX7 cI h0) 16 := by
  refine cti_of [(0, .ref h0)] (by decide +kernel) rfl hl (show 1 ≤ 1 by decide) rfl (fun A X hX K hA => ?_)
  subst hX
  refine n_aload K 0 dX7_init_0 rfl rfl ?_
  refine n_obj K ko_X7_3 ko_1 ko_2 (Nat.le_of_ble_eq_true rfl) (Nat.le_of_ble_eq_true rfl) dX7_init_1 ?_
  refine n_aload K 0 dX7_init_4 rfl rfl ?_
  refine n_new (t := 2) (fs := [.int 0, .int 0, .null, .null, .null]) K (by decide) kc_X7_c9 ki_2 kj_2 (by decide) (Nat.le_of_ble_eq_true rfl) (Nat.le_of_ble_eq_true rfl) dX7_init_5 (fun q5 => ?_)
  refine n_dup K dX7_init_8 ?_
  refine n_call (as := []) K true li_X7_11 (c_X2_init X.2.1 hl q5 ) rfl (Nat.le_of_ble_eq_true rfl) ⟨Nat.le_of_ble_eq_true rfl, Nat.le_of_ble_eq_true rfl⟩ ⟨Nat.le_of_ble_eq_true rfl, Nat.le_of_ble_eq_true rfl⟩ rfl dX7_init_9 (fun u9 hu9 => ?_)
  refine n_putF K 0 (t := 7) (i := 0) (by decide) rfl (by decide) kp_X7_12 rfl rfl rfl rfl (show 0 < 6 by decide) dX7_init_12 ?_
  show NW _ _ _ _ _ _ _ _ _ _ ([(h0, .inr (7, [.ref q5, .null, .int 0, .int 0, .int 0, .int 0]))] ++ wX2 cI q5 u9)
  refine n_aload K 0 dX7_init_15 rfl rfl ?_
  refine n_new (t := 0) (fs := [.int 0, .null, .null, .null, .null]) K (by decide) kc_X7_c18 ki_0 kj_0 (by decide) (Nat.le_of_ble_eq_true rfl) (Nat.le_of_ble_eq_true rfl) dX7_init_16 (fun q16 => ?_)
  refine n_dup K dX7_init_19 ?_
  refine n_call (as := []) K true li_X7_20 (c_X0_init X.2.1 hl q16 ) rfl (Nat.le_of_ble_eq_true rfl) ⟨Nat.le_of_ble_eq_true rfl, Nat.le_of_ble_eq_true rfl⟩ ⟨Nat.le_of_ble_eq_true rfl, Nat.le_of_ble_eq_true rfl⟩ rfl dX7_init_20 (fun u20 hu20 => ?_)
  refine n_putF K 0 (t := 7) (i := 1) (by decide) rfl (by decide) kp_X7_21 rfl rfl rfl rfl (show 1 < 6 by decide) dX7_init_23 ?_
  show NW _ _ _ _ _ _ _ _ _ _ ([(h0, .inr (7, [.ref q5, .ref q16, .int 0, .int 0, .int 0, .int 0]))] ++ wX2 cI q5 u9 ++ wX0 cI q16 u20)
  refine n_aload K 0 dX7_init_26 rfl rfl ?_
  refine n_iconst (v := 0) K dX7_init_27 rfl ?_
  refine n_puti K 0 (t := 7) (i := 2) (by decide) rfl (by decide) kp_X7_25 rfl rfl rfl (show 2 < 6 by decide) dX7_init_28 ?_
  show NW _ _ _ _ _ _ _ _ _ _ ([(h0, .inr (7, [.ref q5, .ref q16, .int 0, .int 0, .int 0, .int 0]))] ++ wX2 cI q5 u9 ++ wX0 cI q16 u20)
  refine n_aload K 0 dX7_init_31 rfl rfl ?_
  refine n_iconst (v := 0) K dX7_init_32 rfl ?_
  refine n_puti K 0 (t := 7) (i := 3) (by decide) rfl (by decide) kp_X7_29 rfl rfl rfl (show 3 < 6 by decide) dX7_init_33 ?_
  show NW _ _ _ _ _ _ _ _ _ _ ([(h0, .inr (7, [.ref q5, .ref q16, .int 0, .int 0, .int 0, .int 0]))] ++ wX2 cI q5 u9 ++ wX0 cI q16 u20)
  refine n_aload K 0 dX7_init_36 rfl rfl ?_
  refine n_iconst (v := 0) K dX7_init_37 rfl ?_
  refine n_puti K 0 (t := 7) (i := 4) (by decide) rfl (by decide) kp_X7_32 rfl rfl rfl (show 4 < 6 by decide) dX7_init_38 ?_
  show NW _ _ _ _ _ _ _ _ _ _ ([(h0, .inr (7, [.ref q5, .ref q16, .int 0, .int 0, .int 0, .int 0]))] ++ wX2 cI q5 u9 ++ wX0 cI q16 u20)
  refine n_aload K 0 dX7_init_41 rfl rfl ?_
  refine n_iconst (v := 0) K dX7_init_42 rfl ?_
  refine n_puti K 0 (t := 7) (i := 5) (by decide) rfl (by decide) kp_X7_35 rfl rfl rfl (show 5 < 6 by decide) dX7_init_43 ?_
  show NW _ _ _ _ _ _ _ _ _ _ ([(h0, .inr (7, [.ref q5, .ref q16, .int 0, .int 0, .int 0, .int 0]))] ++ wX2 cI q5 u9 ++ wX0 cI q16 u20)
  exact n_end K [q5, u9.getD 0 0, u9.getD 1 0, u9.getD 2 0, u9.getD 3 0, u9.getD 4 0, u9.getD 5 0, q16, u20.getD 0 0, u20.getD 1 0, u20.getD 2 0, u20.getD 3 0, u20.getD 4 0, u20.getD 5 0, u20.getD 6 0, u20.getD 7 0] rfl rfl (Nat.le_of_ble_eq_true rfl) (Nat.le_of_ble_eq_true rfl) dX7_init_46
end CTORS

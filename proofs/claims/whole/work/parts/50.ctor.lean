/-! Constructors: a walk predicate over a growing world, its rows. -/
section CTOR
variable {D : va_G} {cI cL : ClassId} {A : Nat → Prop} {own : String} {cc : ByteArray} {nL : Nat} {rm : Room} {X : PX} {Q : State → Prop} {k z pc : Nat} {ls : List (Nat × Value)} {st st2 : List Value} {ws : va_W}
abbrev G0 (D : va_G) (cI cL : ClassId) (A : Nat → Prop) : GE := (D, cI, cL, fun _ _ => 0, [], A, none)
def KX (D : va_G) (cI cL : ClassId) (A : Nat → Prop) (own : String) (cc : ByteArray) (nL : Nat) (rm : Room) (X : PX) : Prop :=
  X.1.tables.exec = Jvm.exec ∧ X.2.2.2.2.2.2.2.2.2.1.code = cc ∧ X.2.2.2.2.2.2.2.2.2.1.maxLocals = nL ∧ (xs_ X).vm.findClass own = some X.2.2.2.2.2.1.cls ∧ (∀ w ∈ BW, w.before X.2.2.2.2.2.2.1 (xs_ X) = true) ∧ X.2.2.2.2.2.2.2.2.1.locks = false ∧ X.2.2.2.2.2.2.2.2.1.sig.returnType = none ∧ X.2.1.stackTraces = false ∧ X.2.2.2.1 = rm ∧ X.2.2.2.2.2.2.2.2.1.name = "<init>" ∧ SF (G0 D cI cL A) (xs_ X) (xs_ X).heap
def NW (D : va_G) (A : Nat → Prop) (X : PX) (nL : Nat) (Q : State → Prop) (k z pc : Nat) (ls : List (Nat × Value)) (st : List Value) (ws : va_W) : Prop :=
  ∀ (H : Heap) (locs : List Loc) (la : Array Slot), va_P D vwCl ws H → va_D A ws → va_S A (xs_ X).heap H locs → lv_has la nL ls → W X.1 X.2.1 X.2.2.1 X.2.2.2.1 (xs_ X) X.2.2.2.2.2.1 X.2.2.2.2.2.2.1 X.2.2.2.2.2.2.2.1 X.2.2.2.2.2.2.2.2.1 X.2.2.2.2.2.2.2.2.2.1 H locs k z Q (F0 X.2.2.2.2.2.1 pc la st)
theorem kA (K : KX D cI cL A own cc nL rm X) : ∀ q, (xs_ X).heap.size ≤ q → A q := K.2.2.2.2.2.2.2.2.2.2.2.2.2.1
theorem kK (K : KX D cI cL A own cc nL rm X) : va_K D vwCl [(cI, .int), (cL, .long)] (xs_ X) := K.2.2.2.2.2.2.2.2.2.2.1
theorem n_iconst (K : KX D cI cL A own cc nL rm X) {n : Int} {v : Int32} (hd : decode cc pc = .ok (.iconst n, 1)) (hv : Int32.ofInt n = v) (kk : NW D A X nL Q k z (pc + 1) ls (.int v :: st) ws) : NW D A X nL Q k z pc ls st ws := fun H locs la hP hD hS h => lv_iconst K.1 K.2.1 hd hv (kk H locs la hP hD hS h)
theorem n_bipush (K : KX D cI cL A own cc nL rm X) {n : Int} {v : Int32} (hd : decode cc pc = .ok (.bipush n, 2)) (hv : (Int8.ofInt n).toInt32 = v) (kk : NW D A X nL Q k z (pc + 2) ls (.int v :: st) ws) : NW D A X nL Q k z pc ls st ws := fun H locs la hP hD hS h => lv_bipush K.1 K.2.1 hd hv (kk H locs la hP hD hS h)
theorem n_sipush (K : KX D cI cL A own cc nL rm X) {n : Int} {v : Int32} (hd : decode cc pc = .ok (.sipush n, 3)) (hv : (Int16.ofInt n).toInt32 = v) (kk : NW D A X nL Q k z (pc + 3) ls (.int v :: st) ws) : NW D A X nL Q k z pc ls st ws := fun H locs la hP hD hS h => lv_sipush K.1 K.2.1 hd hv (kk H locs la hP hD hS h)
theorem n_aload (K : KX D cI cL A own cc nL rm X) (j : Nat) {n : Fin 4} {i x : Nat} (hd : decode cc pc = .ok (.aload_n n, 1)) (hi : (n : Nat) = i) (hj : ls[j]? = some (i, .ref x)) (kk : NW D A X nL Q k z (pc + 1) ls (.ref x :: st) ws) : NW D A X nL Q k z pc ls st ws := fun H locs la hP hD hS h => lv_aload_n K.1 K.2.1 hd hi (lv_at h j hj) (kk H locs la hP hD hS h)
theorem n_iload (K : KX D cI cL A own cc nL rm X) (j : Nat) {n : Fin 4} {i : Nat} {x : Int32} (hd : decode cc pc = .ok (.iload_n n, 1)) (hi : (n : Nat) = i) (hj : ls[j]? = some (i, .int x)) (kk : NW D A X nL Q k z (pc + 1) ls (.int x :: st) ws) : NW D A X nL Q k z pc ls st ws := fun H locs la hP hD hS h => lv_iload_n K.1 K.2.1 hd hi (lv_at h j hj) (kk H locs la hP hD hS h)
theorem n_istore (K : KX D cI cL A own cc nL rm X) {ls' : List (Nat × Value)} {n : Fin 4} {i : Nat} {x : Int32} (hd : decode cc pc = .ok (.istore_n n, 1)) (hi : (n : Nat) = i) (hn : i < nL) (hl : (i, Value.int x) :: ls.filter (fun q => !(q.1 == i) && !(q.1 + 1 == i && q.2.category == 2)) = ls') (kk : NW D A X nL Q k z (pc + 1) ls' st ws) : NW D A X nL Q k z pc ls (.int x :: st) ws := fun H locs la hP hD hS h => lv_istore_n K.1 K.2.1 hd hi h hn hl (fun la2 h2 => kk H locs la2 hP hD hS h2)
theorem n_imul (K : KX D cI cL A own cc nL rm X) {x y : Int32} (hd : decode cc pc = .ok (.imul, 1)) (kk : NW D A X nL Q k z (pc + 1) ls (.int (x * y) :: st) ws) : NW D A X nL Q k z pc ls (.int y :: .int x :: st) ws := fun H locs la hP hD hS h => lv_imul K.1 K.2.1 hd (kk H locs la hP hD hS h)
theorem n_dup (K : KX D cI cL A own cc nL rm X) {x : Nat} (hd : decode cc pc = .ok (.dup, 1)) (kk : NW D A X nL Q k z (pc + 1) ls (.ref x :: .ref x :: st) ws) : NW D A X nL Q k z pc ls (.ref x :: st) ws := fun H locs la hP hD hS h => lv_dup K.1 K.2.1 hd rfl (kk H locs la hP hD hS h)
theorem n_goto (K : KX D cI cL A own cc nL rm X) {off : Int} {tgt : Nat} (hd : decode cc pc = .ok (.goto off, 3)) (ht : (pc : Int) + off = (tgt : Int)) (kk : NW D A X nL Q k z tgt ls st ws) : NW D A X nL Q k z pc ls st ws := fun H locs la hP hD hS h => lv_goto K.1 K.2.1 hd ht (kk H locs la hP hD hS h)
theorem n_ifle (K : KX D cI cL A own cc nL rm X) {x : Int32} {off : Int} (hx : ¬ x ≤ 0) (hd : decode cc pc = .ok (.ifCond .le off, 3)) {tgt : Nat} (ht : (pc : Int) + off = (tgt : Int)) (kk : NW D A X nL Q k z (pc + 3) ls st ws) : NW D A X nL Q k z pc ls (.int x :: st) ws := fun H locs la hP hD hS h => lv_if_le K.1 K.2.1 hd ht (fun c => absurd c hx) (fun _ => kk H locs la hP hD hS h)
theorem n_obj (K : KX D cI cL A own cc nL rm X) {x idx : Nat} (h1 : Cond.methodLink own idx objectInit ∈ BW) (h2 : Cond.instanceMethod objectInit ∈ BW) (h3 : Cond.code objectInit ⟨#[0xb1]⟩ 1 none ∈ BW) (hf : 1 ≤ rm.frames) (hl : 12 ≤ rm.locals) (hd : decode cc pc = .ok (.invokespecial idx, 3)) (kk : NW D A X nL Q k z (pc + 3) ls [] ws) : NW D A X nL Q k z pc ls [.ref x] ws := fun H locs la hP hD hS h =>
  W.objInit K.1 K.2.1 K.2.2.2.1 (K.2.2.2.2.1 _ h1) (K.2.2.2.2.1 _ h2) (K.2.2.2.2.1 _ h3) rfl (by rw [K.2.2.1]; exact h.1) rfl hd (by rw [K.2.2.2.2.2.2.2.2.1]; exact hf) (by rw [K.2.2.2.2.2.2.2.2.1]; exact hl) (kk H locs la hP hD hS h)
theorem n_new (K : KX D cI cL A own cc nL rm X) {t idx : Nat} {fs : List Value} (ht : t < 11) (h1 : Cond.classLink own idx (cN t) ∈ BW) (h2 : Cond.instantiable (cN t) (cn t) ∈ BW) (h3 : Cond.initialized (cN t) ∈ BW) (hfs : ∀ j, j < cn t → defaultValue (cty t j) = vp_V fs j) (hc : k + 1 ≤ rm.cells) (hz : z + cn t ≤ rm.slots) (hd : decode cc pc = .ok (.new idx, 3)) (kk : ∀ q, NW D A X nL Q (k + 1) (z + cn t) (pc + 3) ls (.ref q :: st) (ws ++ [(q, .inr (t, fs))])) : NW D A X nL Q k z pc ls st ws := fun H locs la hP hD hS h =>
  va_new K.1 K.2.1 K.2.2.2.2.1 (cl_ws ht) (cty t) (cl_ty ht) K.2.2.2.1 (K.2.2.2.2.1 _ h1) (K.2.2.2.2.1 _ h2) (K.2.2.2.2.1 _ h3) (kK K) hP hD hS (kA K) (cl_at ht) hfs (by rw [K.2.2.2.2.2.2.2.2.1]; exact hc) (by rw [K.2.2.2.2.2.2.2.2.1]; exact hz) hd (fun q H1 hP1 hD1 hS1 => kk q H1 locs la hP1 hD1 hS1 h)
theorem n_puti (K : KX D cI cL A own cc nL rm X) {t i idx a : Nat} {fs : List Value} {v : Int32} (q0 : Nat) (ht : t < 11) (he : ws[q0]? = some (a, .inr (t, fs))) (hi : i < cn t) (hlk : fLk own idx t i) (hfin : (cT t i).2.2.2 = false) (hn : narrow (cty t i) (.int v) = .int v) (hfit : fits (cty t i) (.int v) = true) (hl : i < fs.length) (hd : decode cc pc = .ok (.putfield idx, 3)) (kk : NW D A X nL Q k z (pc + 3) ls st (ws.set q0 (a, .inr (t, fs.set i (.int v))))) : NW D A X nL Q k z pc ls (.int v :: .ref a :: st) ws := fun H locs la hP hD hS h =>
  va_put (ref := (cT t i).1) K.1 K.2.1 K.2.2.2.2.1 (cl_ws ht) (cty t) (cl_ty ht) (cl_nm ht) K.2.2.2.1 (kK K) hP hD hS q0 he (cl_at ht) i hi (K.2.2.2.2.1 _ hlk) (fun _ h9 => h9) hfin (cl_ty ht i hi) hn hfit hl hd (fun H1 locs1 hP1 hD1 hS1 => kk H1 locs1 la hP1 hD1 hS1 h)
theorem n_putF (K : KX D cI cL A own cc nL rm X) {t i idx a : Nat} {fs : List Value} {v : Value} (q0 : Nat) (ht : t < 11) (he : ws[q0]? = some (a, .inr (t, fs))) (hi : i < cn t) (hlk : fLk own idx t i) (hfin : (cT t i).2.2.2 = true) (hdecl : (cT t i).1 = own) (hn : narrow (cty t i) v = v) (hfit : fits (cty t i) v = true) (hl : i < fs.length) (hd : decode cc pc = .ok (.putfield idx, 3)) (kk : NW D A X nL Q k z (pc + 3) ls st (ws.set q0 (a, .inr (t, fs.set i v)))) : NW D A X nL Q k z pc ls (v :: .ref a :: st) ws := fun H locs la hP hD hS h =>
  va_putF (ref := (cT t i).1) K.1 K.2.1 K.2.2.2.2.1 (cl_ws ht) (cty t) (cl_ty ht) (cl_nm ht) K.2.2.2.1 (kK K) hP hD hS q0 he (cl_at ht) i hi (K.2.2.2.2.1 _ hlk) (fun _ h9 => h9) hfin K.2.2.2.2.2.2.2.2.2.1 hdecl (cl_ty ht i hi) hn hfit hl hd (fun H1 locs1 hP1 hD1 hS1 => kk H1 locs1 la hP1 hD1 hS1 h)
theorem n_get (K : KX D cI cL A own cc nL rm X) {t i idx a : Nat} {fs : List Value} {v : Value} (q0 : Nat) (ht : t < 11) (he : ws[q0]? = some (a, .inr (t, fs))) (hi : i < cn t) (hlk : fLk own idx t i) (hv : fs[i]? = some v) (hd : decode cc pc = .ok (.getfield idx, 3)) (kk : NW D A X nL Q k z (pc + 3) ls (v :: st) ws) : NW D A X nL Q k z pc ls (.ref a :: st) ws := fun H locs la hP hD hS h =>
  va_get (ref := (cT t i).1) K.1 K.2.1 K.2.2.2.2.1 (cl_ws ht) K.2.2.2.1 (kK K) hP q0 he (cl_at ht) i hi (K.2.2.2.2.1 _ hlk) (fun _ h9 => h9) hv hd (kk H locs la hP hD hS h)
theorem n_newi (K : KX D cI cL A own cc nL rm X) {n : Int32} {N : Nat} (hac : Cond.arrayClass .int ∈ BW) (hn : ¬ n < 0) (hN : n.toNatClampNeg = N) (hb : N * 4 ≤ 536870912) (hc : k + 1 ≤ rm.cells) (hz : z + N ≤ rm.slots) (hd : decode cc pc = .ok (.newarray .int, 2)) (kk : ∀ q, NW D A X nL Q (k + 1) (z + N) (pc + 2) ls (.ref q :: st) (ws ++ [(q, .inl (cI, N, .inl (fun _ => 0)))])) : NW D A X nL Q k z pc ls (.int n :: st) ws := fun H locs la hP hD hS h => by
  refine va_newaK (atype := .int) (N := N) K.1 K.2.1 (K.2.2.2.2.1 _ hac) rfl hd rfl hn hN hb (by rw [K.2.2.2.2.2.2.2.2.1]; exact hc) (by rw [K.2.2.2.2.2.2.2.2.1]; exact hz) rfl (fun H' cA e1 z1 o1 hAr hfc => ?_)
  have hcI : (xs_ X).vm.findClass ("[" ++ (FieldType.int).toString) = some cI := ((kK K).2 0 _ rfl).2
  have hcA : cA = cI := Option.some.inj (hfc.symm.trans hcI)
  subst hcA
  have hk : ∀ (j : Nat) (x : Nat × va_E), ws[j]? = some x → H'[x.1]? = H[x.1]? := fun j x hx => o1 x.1 ((hP j x hx).lt)
  refine kk H.size H' locs la ((hP.kept hk).app (fun j x hx => ?_)) (hD.push hP rfl (kA K _ hS.1)) ⟨Nat.le_trans hS.1 (by omega), fun x h1 h2 => (o1 x (Nat.lt_of_lt_of_le h1 hS.1)).trans (hS.2.1 x h1 h2), hS.2.2⟩ h
  have hz : j < 1 := (List.getElem?_eq_some_iff.mp hx).1
  rw [show j = 0 by omega] at hx
  cases hx
  exact e1
def CTI (l : Launch) (D : va_G) (cI cL : ClassId) (y : MethodName) (zc : ByteArray) (zl d mc ms h0 : Nat) (as : List Value) (e0 : va_E) (w1 : List Nat → va_W) (nu : Nat) : Prop :=
  ∀ (A : Nat → Prop) (sz : Nat), A h0 → Met l y (Cond.code y zc zl none :: BW) { frames := d, cells := mc, slots := ms, locals := 36 * d } (va_Pc (.ref h0 :: as) (fun U => U.heap.size = sz ∧ va_P D vwCl [(h0, e0)] U.heap ∧ va_D (fun _ => True) [(h0, e0)] ∧ SF (G0 D cI cL A) U U.heap))
    (fun _ st oc t => ∃ u : List Nat, u.length = nu ∧ oc = .returned none ∧ va_P D vwCl (w1 u) t.heap ∧ va_D (va_A [(h0, e0)] sz) (w1 u) ∧ va_F (va_A [(h0, e0)] sz) st t) mc ms (va_A [(h0, e0)] sz)
theorem n_join {q : Nat} {e0 : va_E} {w1 : va_W} {H H1 : Heap} (hP : va_P D vwCl (ws ++ [(q, e0)]) H) (hD : va_D A (ws ++ [(q, e0)])) (hk : ∀ x : Nat, x < H.size → ¬ va_A [(q, e0)] H.size x → H1[x]? = H[x]?) (hF : ∀ x, va_A [(q, e0)] H.size x → A x) (hP1 : va_P D vwCl w1 H1) (hD1 : va_D (va_A [(q, e0)] H.size) w1) : va_P D vwCl (ws ++ w1) H1 ∧ va_D A (ws ++ w1) := by
  have hlast : (ws ++ [(q, e0)])[ws.length]? = some (q, e0) := by rw [List.getElem?_append_right (Nat.le_refl _), Nat.sub_self]; rfl
  have apart : ∀ (j : Nat) (x : Nat × va_E), ws[j]? = some x → x.1 < H.size ∧ ¬ va_A [(q, e0)] H.size x.1 := by
    intro j x hx
    have hj := (List.getElem?_eq_some_iff.mp hx).1
    have hx' : (ws ++ [(q, e0)])[j]? = some x := by rw [List.getElem?_append_left hj]; exact hx
    have hl := (hP j x hx').lt
    refine ⟨hl, fun h => ?_⟩
    rcases h with ⟨i, e, h⟩ | h
    · have hi : i < 1 := (List.getElem?_eq_some_iff.mp h).1
      rw [show i = 0 by omega] at h
      have hq : q = x.1 := congrArg Prod.fst (Option.some.inj h)
      have := hD.1 j ws.length x (q, e0) hx' hlast hq.symm
      omega
    · omega
  refine ⟨va_P.app (fun j x hx => ?_) hP1, va_D.app ⟨fun i j x y hx hy hxy => ?_, fun j x hx => ?_⟩ (hD1.weaken (fun _ x _ h => hF x.1 h)) (fun i j x y hx hy hxy => ?_)⟩
  · have hj := (List.getElem?_eq_some_iff.mp hx).1
    obtain ⟨h1, h2⟩ := apart j x hx
    exact (hP j x (by rw [List.getElem?_append_left hj]; exact hx)).kept (hk x.1 h1 h2)
  · exact hD.1 i j x y (by rw [List.getElem?_append_left (List.getElem?_eq_some_iff.mp hx).1]; exact hx) (by rw [List.getElem?_append_left (List.getElem?_eq_some_iff.mp hy).1]; exact hy) hxy
  · exact hD.2 j x (by rw [List.getElem?_append_left (List.getElem?_eq_some_iff.mp hx).1]; exact hx)
  · exact (apart i x hx).2 (by rw [hxy]; exact hD1.2 j y hy)
/-- how the callee's constructor is linked: by the plain word, or as a nest mate's -/
def lkI (own : String) (idx : Nat) (y : MethodName) (zc : ByteArray) (zl n : Nat) (nest : Bool) : Prop :=
  (if nest then Cond.methodLinkNest own idx y "ArrowDiagrams" ∈ XW else Cond.methodLink own idx y ∈ BW) ∧ Cond.initialized y.cls ∈ BW ∧ Cond.code y zc zl none ∈ BW ∧ Cond.instanceMethod y ∈ BW ∧ y.name = "<init>" ∧ (y.cls ≠ "java/lang/invoke/MethodHandle" ∧ y.cls ≠ "java/lang/invoke/VarHandle" ∧ (parseMethodDescriptor y.desc).map (fun d => d.parameters.length) = some n)
theorem n_call (K : KX D cI cL A own cc nL rm X) {idx q d mc ms zl n nu : Nat} {as : List Value} {e0 : va_E} {w1 : List Nat → va_W} {y : MethodName} {zc : ByteArray} (nest : Bool) (lk : lkI own idx y zc zl n nest) (hct : CTI X.2.1 D cI cL y zc zl d mc ms q as e0 w1 nu) (hn : as.length = n) (hW : (st.map fun v => v.category).sum ≤ 8) (hroom : d + 1 ≤ rm.frames ∧ 8 + (zl + 11) + 36 * d ≤ rm.locals) (hmc : k + mc ≤ rm.cells ∧ z + ms ≤ rm.slots) (hst : as.reverse ++ .ref q :: st = st2)
    (hd : decode cc pc = .ok (.invokespecial idx, 3)) (kk : ∀ u : List Nat, u.length = nu → NW D A X nL Q (k + mc) (z + ms) (pc + 3) ls st (ws ++ w1 u)) : NW D A X nL Q k z pc ls st2 (ws ++ [(q, e0)]) := by
  subst hst
  intro H locs la hP hD hS h
  obtain ⟨k1, k2, k3, k4, k5, k6⟩ := lk
  have hR : X.2.2.2.1 = rm := K.2.2.2.2.2.2.2.2.1
  have hSF := K.2.2.2.2.2.2.2.2.2.2.kept ⟨hS.1, hS.2.1⟩
  have hlast : (ws ++ [(q, e0)])[ws.length]? = some (q, e0) := by rw [List.getElem?_append_right (Nat.le_refl _), Nat.sub_self]; rfl
  have hAq : A q := hD.2 _ _ hlast
  have hfree : ∀ x, va_A [(q, e0)] H.size x → A x := by
    intro x hx
    rcases hx with ⟨i, e, hx⟩ | hx
    · have hi : i < 1 := (List.getElem?_eq_some_iff.mp hx).1
      rw [show i = 0 by omega] at hx
      have e9 : q = x := congrArg Prod.fst (Option.some.inj hx)
      rw [← e9]; exact hAq
    · exact kA K x (Nat.le_trans hS.1 hx)
  have one : ∀ {P : Nat × va_E → Prop} (j : Nat) (x : Nat × va_E), [(q, e0)][j]? = some x → P (q, e0) → P x := by
    intro P j x hx hp
    have hi : j < 1 := (List.getElem?_eq_some_iff.mp hx).1
    rw [show j = 0 by omega] at hx
    cases hx
    exact hp
  have hp : PreS (xs_ X) H (va_Pc (.ref q :: as) (fun U => U.heap.size = H.size ∧ va_P D vwCl [(q, e0)] U.heap ∧ va_D (fun _ => True) [(q, e0)] ∧ SF (G0 D cI cL A) U U.heap)) (.ref q :: as) := by
    refine ⟨fun a U g mk hh => ⟨hh.1, hh.2.1, hh.2.2.1, hh.2.2.2.1, SF.vm (U := U) rfl hh.2.2.2.2⟩, fun U hU hWU => ⟨rfl, by rw [hU], ?_, ⟨fun i j x y hx hy _ => ?_, fun _ _ _ => trivial⟩, by rw [hU]; exact hSF.moved hWU⟩⟩
    · rw [hU]
      exact fun j x hx => one (P := fun x => va_at D vwCl x H) j x hx (hP _ _ hlast)
    · have h1 : i < 1 := (List.getElem?_eq_some_iff.mp hx).1
      have h2 : j < 1 := (List.getElem?_eq_some_iff.mp hy).1
      omega
  have hws : ∀ w ∈ (Cond.code y zc zl none :: BW), ∀ (a' : Array Value) (U : State), (xs_ X).WarmedH U.vm → w.before a' U = true := pay_in K.2.2.2.2.1 (gi_code k3)
  have hrun : va_Run X.1 X.2.1 X.2.2.1 X.2.2.2.1 (xs_ X) X.2.2.2.2.2.1 X.2.2.2.2.2.2.1 X.2.2.2.2.2.2.2.1 X.2.2.2.2.2.2.2.2.1 X.2.2.2.2.2.2.2.2.2.1 H locs k z mc ms (F0 X.2.2.2.2.2.1 pc la (as.reverse ++ .ref q :: st)) st (fun st9 oc t => ∃ u : List Nat, u.length = nu ∧ oc = .returned none ∧ va_P D vwCl (w1 u) t.heap ∧ va_D (va_A [(q, e0)] H.size) (w1 u) ∧ va_F (va_A [(q, e0)] H.size) st9 t) (va_A [(q, e0)] H.size) := by
    cases nest with
    | false =>
      exact va_runI (As := as) (rest := st) (b := q) ⟨K.1, K.2.1, K.2.2.1, K.2.2.2.1, K.2.2.2.2.1⟩ (hct A H.size hAq) ⟨callB_of n K.2.2.2.2.1 (gi_code k3) rfl rfl rfl (K.2.2.2.2.1 _ k2) (K.2.2.2.2.1 _ k1) k6 (by rw [hR]; exact hroom), k5, K.2.2.2.2.1 _ k4⟩ hp rfl hn h.1 rfl (lv_room hW) hd (by rw [hR]; exact hmc)
    | true =>
      exact va_runIN (As := as) (rest := st) (b := q) (host := "ArrowDiagrams") ⟨K.1, K.2.1, K.2.2.1, K.2.2.2.1, K.2.2.2.2.1⟩ (hct A H.size hAq) ⟨va_cnB n K.2.2.2.2.1 (gi_code k3) rfl rfl rfl (K.2.2.2.2.2.2.2.2.2.2.2.2.2.2.2.1.1 _ k1) (K.2.2.2.2.1 _ k2) k6 (by rw [hR]; exact hroom), k5, K.2.2.2.2.1 _ k4⟩ hp rfl hn h.1 rfl (lv_room hW) hd (by rw [hR]; exact hmc)
  intro T hT XX
  obtain ⟨v, st₀, t, T', L, h0, X', hL, e1, e2, ⟨u, hu, hv, hP1, hD1, hz, hkq⟩, hst⟩ := hrun T hT XX
  cases hv
  rw [h0] at hz hkq
  rw [← e1] at hP1 hz hkq
  obtain ⟨hP2, hD2⟩ := n_join hP hD hkq hfree hP1 hD1
  obtain ⟨t2, a1, b1⟩ := kk u hu T'.heap (locs ++ L) la hP2 hD2 ⟨Nat.le_trans hS.1 hz, fun x h1 h2 => by rw [hkq x (Nat.lt_of_lt_of_le h1 hS.1) (fun q9 => h2 (hfree x q9))]; exact hS.2.1 x h1 h2, fun x hx => by
    rcases List.mem_append.mp hx with h | h
    · exact hS.2.2 x h
    · exact hfree _ (hL x h)⟩ h T' rfl X'
  exact ⟨t2, hst t2 a1, b1⟩
def QI (D : va_G) (A : Nat → Prop) (X : PX) (w1 : List Nat → va_W) (nu mc ms : Nat) : State → Prop := MQ X.2.2.2.2.2.2.2.1 (fun _ st oc t => ∃ u : List Nat, u.length = nu ∧ oc = .returned none ∧ va_P D vwCl (w1 u) t.heap ∧ va_D A (w1 u) ∧ va_F A st t) X.2.2.2.2.2.2.1 (xs_ X) mc ms A
theorem n_end (K : KX D cI cL A own cc nL rm X) {w1 : List Nat → va_W} {nu mc ms : Nat} (u : List Nat) (hu : u.length = nu) (hw : ws = w1 u) (hk : k ≤ mc) (hz : z ≤ ms) (hd : decode cc pc = .ok (.return_, 1)) : NW D A X nL (QI D A X w1 nu mc ms) k z pc ls [] ws := fun H locs la hP hD hS h => by
  subst hw
  exact W.widen hk hz (W.vret K.1 K.2.1 K.2.2.2.2.2.2.1 (fun t ht _ => ⟨u, hu, rfl, by rw [ht]; exact hP, hD, hS.F ht⟩) hS.2.2 hd K.2.2.2.2.2.1)
theorem cti_of {l : Launch} {y : MethodName} {zc : ByteArray} {zl d mc ms h0 : Nat} {as : List Value} {e0 : va_E} {w1 : List Nat → va_W} {nu : Nat} (ls0 : List (Nat × Value)) (hy : plainName y.cls = true) (hyn : y.name = "<init>") (hl : l.stackTraces = false) (hlen : (lg_sl (.ref h0 :: as)).length ≤ zl) (hls : lv_args 0 (.ref h0 :: as) = ls0)
    (body : ∀ (A : Nat → Prop) X, X.2.1 = l → KX D cI cL A y.cls zc zl { frames := d, cells := mc, slots := ms, locals := 36 * d } X → A h0 → NW D A X zl (QI D A X w1 nu mc ms) 0 0 0 ls0 [] [(h0, e0)]) : CTI l D cI cL y zc zl d mc ms h0 as e0 w1 nu := by
  intro A sz hAh
  refine Met.ofW (cc := zc) (maxL := zl) (ret := none) hy rfl ?_
  intro p e s m args below meth c s₁ B hml hv
  obtain ⟨rfl, hsz, hP, hD0, hF⟩ := hv
  subst hsz
  have hts := atoms_spec (ws := Cond.code y zc zl none :: BW) B.pre
  have hD := hD0.self (sz := s.heap.size)
  have hsub : ∀ x, va_A [(h0, e0)] s.heap.size x → A x := by
    intro x hx
    rcases hx with ⟨i, e, hx⟩ | hx
    · have hi : i < 1 := (List.getElem?_eq_some_iff.mp hx).1
      rw [show i = 0 by omega] at hx
      have e9 : h0 = x := congrArg Prod.fst (Option.some.inj hx)
      rw [← e9]; exact hAh
    · exact hF.2.2.2.1 x hx
  have hF' : SF (G0 D cI cL (va_A [(h0, e0)] s.heap.size)) s s.heap := ⟨hF.1, vx_Zq.narrow hF.2.1 hsub, vx_Zq.narrow hF.2.2.1 hsub, fun q h => Or.inr h, hF.2.2.2.2.1, hF.2.2.2.2.2.1, fun L xs h => nomatch h⟩
  have K : KX D cI cL (va_A [(h0, e0)] s.heap.size) y.cls zc zl { frames := d, cells := mc, slots := ms, locals := 36 * d } (p, l, e, (headSpec (Cond.code y zc zl none :: BW) { frames := d, cells := mc, slots := ms, locals := 36 * d }).room, s, m, (Value.ref h0 :: as).toArray, below, meth, c, 0, 0) :=
    ⟨B.exec, B.bytes, hml, findClass_of_methodNamed B.named, fun w hw => hts w (List.mem_cons_of_mem _ hw), B.notSynchronized, B.returns, hl, rfl, (name_of_methodNamed B.named B.method).1.trans hyn, hF'⟩
  have hlv := lv_entry (.ref h0 :: as) (n := zl) hlen
  rw [hls] at hlv
  rw [lg_entry_eq]
  exact body _ _ rfl K (Or.inl ⟨0, e0, rfl⟩) s.heap [] _ hP hD va_S.rf hlv
end CTOR

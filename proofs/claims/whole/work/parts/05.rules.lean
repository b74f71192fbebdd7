/-! One row an instruction, over the flat memory (made by wip/whole/mkrules.py). -/
section RULES
variable {tb : Bool} {G : GE} {own : String} {cc : ByteArray} {nL : Nat} {ret : Option FieldType} {rm : Room} {X : PX} {Q : State → Prop} {pc : Nat} {ls : List (Nat × AV)} {st : List AV} {M : Mem}
def cat2 (v : AV) : Bool := match v with
  | .inr (.inl _) => true
  | .inr (.inr (.inr (.inl _))) => true
  | _ => false
theorem cat2_cv (v : AV) : ((cv G v).category == 2) = cat2 v := by
  rcases v with x | x | x | x | x <;> rfl
theorem okT {v : AV} {l : List AV} (h : okv G v) (o : ∀ v ∈ l, okv G v) : ∀ w ∈ v :: l, okv G w := List.forall_mem_cons.mpr ⟨h, o⟩
theorem okH {v : AV} {l : List AV} (o : ∀ w ∈ v :: l, okv G w) : okv G v := (List.forall_mem_cons.mp o).1
theorem okR {v : AV} {l : List AV} (o : ∀ w ∈ v :: l, okv G w) : ∀ w ∈ l, okv G w := (List.forall_mem_cons.mp o).2
abbrev cq (G : GE) : Nat × AV → Nat × Value := fun q => (q.1, cv G q.2)
def ff1 (i : Nat) : Nat × AV → Bool := fun q => !(q.1 == i) && !(q.1 + 1 == i && cat2 q.2)
def ff2 (i : Nat) : Nat × AV → Bool := fun q => !(q.1 == i) && (!(q.1 == i + 1) && !(q.1 + 1 == i && cat2 q.2))
theorem st1 {la : Array Slot} {i : Nat} {v : AV} {ls' : List (Nat × AV)} (hl : (i, v) :: ls.filter (ff1 i) = ls') (h : lv_has la nL ((i, cv G v) :: (ls.map (cq G)).filter (fun q => !(q.1 == i) && !(q.1 + 1 == i && q.2.category == 2)))) : lv_has la nL (ls'.map (cq G)) := by
  refine ⟨h.1, h.2.1, fun q hq => h.2.2 q ?_⟩
  subst hl
  rw [List.map_cons] at hq
  rcases List.mem_cons.mp hq with e | hq
  · rw [e]; exact List.mem_cons_self
  · refine List.mem_cons_of_mem _ ?_
    obtain ⟨w, hw, rfl⟩ := List.mem_map.mp hq
    obtain ⟨h1, h2⟩ := List.mem_filter.mp hw
    refine List.mem_filter.mpr ⟨List.mem_map.mpr ⟨w, h1, rfl⟩, ?_⟩
    show (!(w.1 == i) && !(w.1 + 1 == i && (cv G w.2).category == 2)) = true
    rw [cat2_cv]
    exact h2
theorem st2 {la : Array Slot} {i : Nat} {v : AV} {ls' : List (Nat × AV)} (hl : (i, v) :: ls.filter (ff2 i) = ls') (h : lv_has la nL ((i, cv G v) :: (ls.map (cq G)).filter (fun q => !(q.1 == i) && (!(q.1 == i + 1) && !(q.1 + 1 == i && q.2.category == 2))))) : lv_has la nL (ls'.map (cq G)) := by
  refine ⟨h.1, h.2.1, fun q hq => h.2.2 q ?_⟩
  subst hl
  rw [List.map_cons] at hq
  rcases List.mem_cons.mp hq with e | hq
  · rw [e]; exact List.mem_cons_self
  · refine List.mem_cons_of_mem _ ?_
    obtain ⟨w, hw, rfl⟩ := List.mem_map.mp hq
    obtain ⟨h1, h2⟩ := List.mem_filter.mp hw
    refine List.mem_filter.mpr ⟨List.mem_map.mpr ⟨w, h1, rfl⟩, ?_⟩
    show (!(w.1 == i) && (!(w.1 == i + 1) && !(w.1 + 1 == i && (cv G w.2).category == 2))) = true
    rw [cat2_cv]
    exact h2
theorem okS {i : Nat} {v : AV} {f : Nat × AV → Bool} {ls' : List (Nat × AV)} (hl : (i, v) :: ls.filter f = ls') (h : okv G v) (o : ∀ q ∈ ls, okv G q.2) : ∀ q ∈ ls', okv G q.2 := by
  subst hl
  intro q hq
  rcases List.mem_cons.mp hq with e | hq
  · rw [e]; exact h
  · exact o q (List.mem_filter.mp hq).1
theorem lget {la : Array Slot} (h : lv_has la nL (ls.map (cq G))) (j : Nat) {i : Nat} {v : AV} (hj : ls[j]? = some (i, v)) : la[i]? = some (.val (cv G v)) := lv_at h j (by rw [List.getElem?_map, hj]; rfl)
theorem okL (o : ∀ q ∈ ls, okv G q.2) (j : Nat) {i : Nat} {v : AV} (hj : ls[j]? = some (i, v)) : okv G v := o (i, v) (List.mem_of_getElem? hj)
/-- fewer locals -/
theorem g_sub {ls' : List (Nat × AV)} (js : List Nat) (hj : js.filterMap (fun j => ls[j]?) = ls') (k : GW G X nL Q pc ls' st M) : GW G X nL Q pc ls st M := by
  have hm : ∀ q ∈ ls', q ∈ ls := by
    intro q hq
    subst hj
    obtain ⟨i, -, hi⟩ := List.mem_filterMap.mp hq
    exact List.mem_of_getElem? hi
  intro o1 o2 H locs la w s h
  refine k (fun q hq => o1 q (hm q hq)) o2 H locs la w s ⟨h.1, h.2.1, fun q hq => h.2.2 q ?_⟩
  obtain ⟨z, hz, rfl⟩ := List.mem_map.mp hq
  exact List.mem_map.mpr ⟨z, hm z hz, rfl⟩
theorem g_pc {pc' : Nat} (h : pc = pc') (k : GW G X nL Q pc' ls st M) : GW G X nL Q pc ls st M := h ▸ k
theorem g_cfg {pc' : Nat} {ls' : List (Nat × AV)} {st' : List AV} {M' : Mem} (h1 : pc = pc') (h2 : ls = ls') (h3 : st = st') (h4 : M = M') (k : GW G X nL Q pc' ls' st' M') : GW G X nL Q pc ls st M := by subst h1; subst h2; subst h3; subst h4; exact k
theorem g_iconst (C : CX tb G own cc nL ret rm X) {n : Int} {v : Int32} (hd : decode cc pc = .ok (.iconst n, 1)) (hv : Int32.ofInt n = v) (k : GW G X nL Q (pc + 1) ls (vI v :: st) M) : GW G X nL Q pc ls st M :=
  fun o1 o2 H locs la w s h => lv_iconst C.1 C.2.1 hd hv (k o1 (okT trivial o2) H locs la w s h)
theorem g_bipush (C : CX tb G own cc nL ret rm X) {n : Int} {v : Int32} (hd : decode cc pc = .ok (.bipush n, 2)) (hv : (Int8.ofInt n).toInt32 = v) (k : GW G X nL Q (pc + 2) ls (vI v :: st) M) : GW G X nL Q pc ls st M :=
  fun o1 o2 H locs la w s h => lv_bipush C.1 C.2.1 hd hv (k o1 (okT trivial o2) H locs la w s h)
theorem g_sipush (C : CX tb G own cc nL ret rm X) {n : Int} {v : Int32} (hd : decode cc pc = .ok (.sipush n, 3)) (hv : (Int16.ofInt n).toInt32 = v) (k : GW G X nL Q (pc + 3) ls (vI v :: st) M) : GW G X nL Q pc ls st M :=
  fun o1 o2 H locs la w s h => lv_sipush C.1 C.2.1 hd hv (k o1 (okT trivial o2) H locs la w s h)
theorem g_lconst (C : CX tb G own cc nL ret rm X) {n : Fin 2} {v : Int64} (hd : decode cc pc = .ok (.lconst n, 1)) (hv : Int64.ofNat (n : Nat) = v) (k : GW G X nL Q (pc + 1) ls (vL v :: st) M) : GW G X nL Q pc ls st M :=
  fun o1 o2 H locs la w s h => lv_lconst C.1 C.2.1 hd hv (k o1 (okT trivial o2) H locs la w s h)
theorem g_fconst0 (C : CX tb G own cc nL ret rm X) (hd : decode cc pc = .ok (.fconst 0, 1)) (k : GW G X nL Q (pc + 1) ls (vF FP.fconst0 :: st) M) : GW G X nL Q pc ls st M :=
  fun o1 o2 H locs la w s h => lv_fconst0 C.1 C.2.1 hd (k o1 (okT trivial o2) H locs la w s h)
theorem g_fconst1 (C : CX tb G own cc nL ret rm X) (hd : decode cc pc = .ok (.fconst 1, 1)) (k : GW G X nL Q (pc + 1) ls (vF FP.fconst1 :: st) M) : GW G X nL Q pc ls st M :=
  fun o1 o2 H locs la w s h => lv_fconst1 C.1 C.2.1 hd (k o1 (okT trivial o2) H locs la w s h)
theorem g_fconst2 (C : CX tb G own cc nL ret rm X) (hd : decode cc pc = .ok (.fconst 2, 1)) (k : GW G X nL Q (pc + 1) ls (vF FP.fconst2 :: st) M) : GW G X nL Q pc ls st M :=
  fun o1 o2 H locs la w s h => lv_fconst2 C.1 C.2.1 hd (k o1 (okT trivial o2) H locs la w s h)
theorem g_dconst0 (C : CX tb G own cc nL ret rm X) (hd : decode cc pc = .ok (.dconst 0, 1)) (k : GW G X nL Q (pc + 1) ls (vD FP.dconst0 :: st) M) : GW G X nL Q pc ls st M :=
  fun o1 o2 H locs la w s h => lv_dconst0 C.1 C.2.1 hd (k o1 (okT trivial o2) H locs la w s h)
theorem g_dconst1 (C : CX tb G own cc nL ret rm X) (hd : decode cc pc = .ok (.dconst 1, 1)) (k : GW G X nL Q (pc + 1) ls (vD FP.dconst1 :: st) M) : GW G X nL Q pc ls st M :=
  fun o1 o2 H locs la w s h => lv_dconst1 C.1 C.2.1 hd (k o1 (okT trivial o2) H locs la w s h)
theorem g_ldc (C : CX tb G own cc nL ret rm X) {index : Nat} {v : Int32} (hc : Cond.constant own index v ∈ BW) (hd : decode cc pc = .ok (.ldc index, 2)) (k : GW G X nL Q (pc + 2) ls (vI v :: st) M) : GW G X nL Q pc ls st M :=
  fun o1 o2 H locs la w s h => lv_ldc C.1 C.2.1 C.2.2.2.1 (C.2.2.2.2.1 _ hc) hd (k o1 (okT trivial o2) H locs la w s h)
theorem g_ldcf (C : CX tb G own cc nL ret rm X) {index : Nat} {v : UInt32} (hc : Cond.constantFloat own index v ∈ BW) (hd : decode cc pc = .ok (.ldc index, 2)) (k : GW G X nL Q (pc + 2) ls (vF v :: st) M) : GW G X nL Q pc ls st M :=
  fun o1 o2 H locs la w s h => lv_ldcf C.1 C.2.1 C.2.2.2.1 (C.2.2.2.2.1 _ hc) hd (k o1 (okT trivial o2) H locs la w s h)
theorem g_ldc2 (C : CX tb G own cc nL ret rm X) {index : Nat} {v : Int64} (hc : Cond.constantLong own index v ∈ BW) (hd : decode cc pc = .ok (.ldc2_w index, 3)) (k : GW G X nL Q (pc + 3) ls (vL v :: st) M) : GW G X nL Q pc ls st M :=
  fun o1 o2 H locs la w s h => lv_ldc2 C.1 C.2.1 C.2.2.2.1 (C.2.2.2.2.1 _ hc) hd (k o1 (okT trivial o2) H locs la w s h)
theorem g_ldc2d (C : CX tb G own cc nL ret rm X) {index : Nat} {v : UInt64} (hc : Cond.constantDouble own index v ∈ BW) (hd : decode cc pc = .ok (.ldc2_w index, 3)) (k : GW G X nL Q (pc + 3) ls (vD v :: st) M) : GW G X nL Q pc ls st M :=
  fun o1 o2 H locs la w s h => lv_ldc2d C.1 C.2.1 C.2.2.2.1 (C.2.2.2.2.1 _ hc) hd (k o1 (okT trivial o2) H locs la w s h)
theorem g_iload_n (C : CX tb G own cc nL ret rm X) (j : Nat) {n : Fin 4} {i : Nat} {x : Int32} (hd : decode cc pc = .ok (.iload_n n, 1)) (hi : (n : Nat) = i) (hj : ls[j]? = some (i, vI x)) (k : GW G X nL Q (pc + 1) ls (vI x :: st) M) : GW G X nL Q pc ls st M :=
  fun o1 o2 H locs la w s h => lv_iload_n C.1 C.2.1 hd hi (lget h j hj) (k o1 (okT trivial o2) H locs la w s h)
theorem g_iload (C : CX tb G own cc nL ret rm X) (j : Nat) {i : Nat} {x : Int32} (hd : decode cc pc = .ok (.iload i, 2)) (hj : ls[j]? = some (i, vI x)) (k : GW G X nL Q (pc + 2) ls (vI x :: st) M) : GW G X nL Q pc ls st M :=
  fun o1 o2 H locs la w s h => lv_iload C.1 C.2.1 hd (lget h j hj) (k o1 (okT trivial o2) H locs la w s h)
theorem g_lload_n (C : CX tb G own cc nL ret rm X) (j : Nat) {n : Fin 4} {i : Nat} {x : Int64} (hd : decode cc pc = .ok (.lload_n n, 1)) (hi : (n : Nat) = i) (hj : ls[j]? = some (i, vL x)) (k : GW G X nL Q (pc + 1) ls (vL x :: st) M) : GW G X nL Q pc ls st M :=
  fun o1 o2 H locs la w s h => lv_lload_n C.1 C.2.1 hd hi (lget h j hj) (k o1 (okT trivial o2) H locs la w s h)
theorem g_lload (C : CX tb G own cc nL ret rm X) (j : Nat) {i : Nat} {x : Int64} (hd : decode cc pc = .ok (.lload i, 2)) (hj : ls[j]? = some (i, vL x)) (k : GW G X nL Q (pc + 2) ls (vL x :: st) M) : GW G X nL Q pc ls st M :=
  fun o1 o2 H locs la w s h => lv_lload C.1 C.2.1 hd (lget h j hj) (k o1 (okT trivial o2) H locs la w s h)
theorem g_fload_n (C : CX tb G own cc nL ret rm X) (j : Nat) {n : Fin 4} {i : Nat} {x : UInt32} (hd : decode cc pc = .ok (.fload_n n, 1)) (hi : (n : Nat) = i) (hj : ls[j]? = some (i, vF x)) (k : GW G X nL Q (pc + 1) ls (vF x :: st) M) : GW G X nL Q pc ls st M :=
  fun o1 o2 H locs la w s h => lv_fload_n C.1 C.2.1 hd hi (lget h j hj) (k o1 (okT trivial o2) H locs la w s h)
theorem g_fload (C : CX tb G own cc nL ret rm X) (j : Nat) {i : Nat} {x : UInt32} (hd : decode cc pc = .ok (.fload i, 2)) (hj : ls[j]? = some (i, vF x)) (k : GW G X nL Q (pc + 2) ls (vF x :: st) M) : GW G X nL Q pc ls st M :=
  fun o1 o2 H locs la w s h => lv_fload C.1 C.2.1 hd (lget h j hj) (k o1 (okT trivial o2) H locs la w s h)
theorem g_dload_n (C : CX tb G own cc nL ret rm X) (j : Nat) {n : Fin 4} {i : Nat} {x : UInt64} (hd : decode cc pc = .ok (.dload_n n, 1)) (hi : (n : Nat) = i) (hj : ls[j]? = some (i, vD x)) (k : GW G X nL Q (pc + 1) ls (vD x :: st) M) : GW G X nL Q pc ls st M :=
  fun o1 o2 H locs la w s h => lv_dload_n C.1 C.2.1 hd hi (lget h j hj) (k o1 (okT trivial o2) H locs la w s h)
theorem g_dload (C : CX tb G own cc nL ret rm X) (j : Nat) {i : Nat} {x : UInt64} (hd : decode cc pc = .ok (.dload i, 2)) (hj : ls[j]? = some (i, vD x)) (k : GW G X nL Q (pc + 2) ls (vD x :: st) M) : GW G X nL Q pc ls st M :=
  fun o1 o2 H locs la w s h => lv_dload C.1 C.2.1 hd (lget h j hj) (k o1 (okT trivial o2) H locs la w s h)
theorem g_aload_n (C : CX tb G own cc nL ret rm X) (j : Nat) {n : Fin 4} {i t q : Nat} (hd : decode cc pc = .ok (.aload_n n, 1)) (hi : (n : Nat) = i) (hj : ls[j]? = some (i, vR t q)) (k : GW G X nL Q (pc + 1) ls (vR t q :: st) M) : GW G X nL Q pc ls st M :=
  fun o1 o2 H locs la w s h => lv_aload_n C.1 C.2.1 hd hi (lget h j hj) (k o1 (okT (okL o1 j hj) o2) H locs la w s h)
theorem g_aload (C : CX tb G own cc nL ret rm X) (j : Nat) {i t q : Nat} (hd : decode cc pc = .ok (.aload i, 2)) (hj : ls[j]? = some (i, vR t q)) (k : GW G X nL Q (pc + 2) ls (vR t q :: st) M) : GW G X nL Q pc ls st M :=
  fun o1 o2 H locs la w s h => lv_aload C.1 C.2.1 hd (lget h j hj) (k o1 (okT (okL o1 j hj) o2) H locs la w s h)
theorem g_istore_n (C : CX tb G own cc nL ret rm X) {ls' : List (Nat × AV)} {n : Fin 4} {i : Nat} {x : Int32} (hd : decode cc pc = .ok (.istore_n n, 1)) (hi : (n : Nat) = i) (hn : i < nL) (hl : (i, vI x) :: ls.filter (ff1 i) = ls') (k : GW G X nL Q (pc + 1) ls' st M) : GW G X nL Q pc ls (vI x :: st) M :=
  fun o1 o2 H locs la w s h => lv_istore_n C.1 C.2.1 hd hi h hn rfl (fun la2 h2 => k (okS hl trivial o1) (okR o2) H locs la2 w s (st1 hl h2))
theorem g_istore (C : CX tb G own cc nL ret rm X) {ls' : List (Nat × AV)} {i : Nat} {x : Int32} (hd : decode cc pc = .ok (.istore i, 2)) (hn : i < nL) (hl : (i, vI x) :: ls.filter (ff1 i) = ls') (k : GW G X nL Q (pc + 2) ls' st M) : GW G X nL Q pc ls (vI x :: st) M :=
  fun o1 o2 H locs la w s h => lv_istore C.1 C.2.1 hd h hn rfl (fun la2 h2 => k (okS hl trivial o1) (okR o2) H locs la2 w s (st1 hl h2))
theorem g_lstore_n (C : CX tb G own cc nL ret rm X) {ls' : List (Nat × AV)} {n : Fin 4} {i : Nat} {x : Int64} (hd : decode cc pc = .ok (.lstore_n n, 1)) (hi : (n : Nat) = i) (hn : i + 1 < nL) (hl : (i, vL x) :: ls.filter (ff2 i) = ls') (k : GW G X nL Q (pc + 1) ls' st M) : GW G X nL Q pc ls (vL x :: st) M :=
  fun o1 o2 H locs la w s h => lv_lstore_n C.1 C.2.1 hd hi h hn rfl (fun la2 h2 => k (okS hl trivial o1) (okR o2) H locs la2 w s (st2 hl h2))
theorem g_lstore (C : CX tb G own cc nL ret rm X) {ls' : List (Nat × AV)} {i : Nat} {x : Int64} (hd : decode cc pc = .ok (.lstore i, 2)) (hn : i + 1 < nL) (hl : (i, vL x) :: ls.filter (ff2 i) = ls') (k : GW G X nL Q (pc + 2) ls' st M) : GW G X nL Q pc ls (vL x :: st) M :=
  fun o1 o2 H locs la w s h => lv_lstore C.1 C.2.1 hd h hn rfl (fun la2 h2 => k (okS hl trivial o1) (okR o2) H locs la2 w s (st2 hl h2))
theorem g_fstore_n (C : CX tb G own cc nL ret rm X) {ls' : List (Nat × AV)} {n : Fin 4} {i : Nat} {x : UInt32} (hd : decode cc pc = .ok (.fstore_n n, 1)) (hi : (n : Nat) = i) (hn : i < nL) (hl : (i, vF x) :: ls.filter (ff1 i) = ls') (k : GW G X nL Q (pc + 1) ls' st M) : GW G X nL Q pc ls (vF x :: st) M :=
  fun o1 o2 H locs la w s h => lv_fstore_n C.1 C.2.1 hd hi h hn rfl (fun la2 h2 => k (okS hl trivial o1) (okR o2) H locs la2 w s (st1 hl h2))
theorem g_fstore (C : CX tb G own cc nL ret rm X) {ls' : List (Nat × AV)} {i : Nat} {x : UInt32} (hd : decode cc pc = .ok (.fstore i, 2)) (hn : i < nL) (hl : (i, vF x) :: ls.filter (ff1 i) = ls') (k : GW G X nL Q (pc + 2) ls' st M) : GW G X nL Q pc ls (vF x :: st) M :=
  fun o1 o2 H locs la w s h => lv_fstore C.1 C.2.1 hd h hn rfl (fun la2 h2 => k (okS hl trivial o1) (okR o2) H locs la2 w s (st1 hl h2))
theorem g_dstore_n (C : CX tb G own cc nL ret rm X) {ls' : List (Nat × AV)} {n : Fin 4} {i : Nat} {x : UInt64} (hd : decode cc pc = .ok (.dstore_n n, 1)) (hi : (n : Nat) = i) (hn : i + 1 < nL) (hl : (i, vD x) :: ls.filter (ff2 i) = ls') (k : GW G X nL Q (pc + 1) ls' st M) : GW G X nL Q pc ls (vD x :: st) M :=
  fun o1 o2 H locs la w s h => lv_dstore_n C.1 C.2.1 hd hi h hn rfl (fun la2 h2 => k (okS hl trivial o1) (okR o2) H locs la2 w s (st2 hl h2))
theorem g_dstore (C : CX tb G own cc nL ret rm X) {ls' : List (Nat × AV)} {i : Nat} {x : UInt64} (hd : decode cc pc = .ok (.dstore i, 2)) (hn : i + 1 < nL) (hl : (i, vD x) :: ls.filter (ff2 i) = ls') (k : GW G X nL Q (pc + 2) ls' st M) : GW G X nL Q pc ls (vD x :: st) M :=
  fun o1 o2 H locs la w s h => lv_dstore C.1 C.2.1 hd h hn rfl (fun la2 h2 => k (okS hl trivial o1) (okR o2) H locs la2 w s (st2 hl h2))
theorem g_astore_n (C : CX tb G own cc nL ret rm X) {ls' : List (Nat × AV)} {n : Fin 4} {i t q : Nat} (hd : decode cc pc = .ok (.astore_n n, 1)) (hi : (n : Nat) = i) (hn : i < nL) (hl : (i, vR t q) :: ls.filter (ff1 i) = ls') (k : GW G X nL Q (pc + 1) ls' st M) : GW G X nL Q pc ls (vR t q :: st) M :=
  fun o1 o2 H locs la w s h => lv_astore_n C.1 C.2.1 hd hi h hn rfl (fun la2 h2 => k (okS hl (okH o2) o1) (okR o2) H locs la2 w s (st1 hl h2))
theorem g_astore (C : CX tb G own cc nL ret rm X) {ls' : List (Nat × AV)} {i t q : Nat} (hd : decode cc pc = .ok (.astore i, 2)) (hn : i < nL) (hl : (i, vR t q) :: ls.filter (ff1 i) = ls') (k : GW G X nL Q (pc + 2) ls' st M) : GW G X nL Q pc ls (vR t q :: st) M :=
  fun o1 o2 H locs la w s h => lv_astore C.1 C.2.1 hd h hn rfl (fun la2 h2 => k (okS hl (okH o2) o1) (okR o2) H locs la2 w s (st1 hl h2))
theorem g_iinc (C : CX tb G own cc nL ret rm X) {ls' : List (Nat × AV)} (j : Nat) {i : Nat} {n : Int} {x v : Int32} (hd : decode cc pc = .ok (.iinc i n, 3)) (hj : ls[j]? = some (i, vI x)) (hv : x + Int32.ofInt n = v) (hn : i < nL) (hl : (i, vI v) :: ls.filter (ff1 i) = ls') (k : GW G X nL Q (pc + 3) ls' st M) : GW G X nL Q pc ls st M :=
  fun o1 o2 H locs la w s h => lv_iinc (k := j) C.1 C.2.1 hd h (by rw [List.getElem?_map, hj]; rfl) hv hn rfl (fun la2 h2 => k (okS hl trivial o1) o2 H locs la2 w s (st1 hl h2))
theorem g_iadd (C : CX tb G own cc nL ret rm X) {x y : Int32} (hd : decode cc pc = .ok (.iadd, 1)) (k : GW G X nL Q (pc + 1) ls (vI (x + y) :: st) M) : GW G X nL Q pc ls (vI y :: vI x :: st) M :=
  fun o1 o2 H locs la w s h => lv_iadd C.1 C.2.1 hd (k o1 (okT trivial (okR (okR o2))) H locs la w s h)
theorem g_isub (C : CX tb G own cc nL ret rm X) {x y : Int32} (hd : decode cc pc = .ok (.isub, 1)) (k : GW G X nL Q (pc + 1) ls (vI (x - y) :: st) M) : GW G X nL Q pc ls (vI y :: vI x :: st) M :=
  fun o1 o2 H locs la w s h => lv_isub C.1 C.2.1 hd (k o1 (okT trivial (okR (okR o2))) H locs la w s h)
theorem g_imul (C : CX tb G own cc nL ret rm X) {x y : Int32} (hd : decode cc pc = .ok (.imul, 1)) (k : GW G X nL Q (pc + 1) ls (vI (x * y) :: st) M) : GW G X nL Q pc ls (vI y :: vI x :: st) M :=
  fun o1 o2 H locs la w s h => lv_imul C.1 C.2.1 hd (k o1 (okT trivial (okR (okR o2))) H locs la w s h)
theorem g_iand (C : CX tb G own cc nL ret rm X) {x y : Int32} (hd : decode cc pc = .ok (.iand, 1)) (k : GW G X nL Q (pc + 1) ls (vI (x &&& y) :: st) M) : GW G X nL Q pc ls (vI y :: vI x :: st) M :=
  fun o1 o2 H locs la w s h => lv_iand C.1 C.2.1 hd (k o1 (okT trivial (okR (okR o2))) H locs la w s h)
theorem g_ior (C : CX tb G own cc nL ret rm X) {x y : Int32} (hd : decode cc pc = .ok (.ior, 1)) (k : GW G X nL Q (pc + 1) ls (vI (x ||| y) :: st) M) : GW G X nL Q pc ls (vI y :: vI x :: st) M :=
  fun o1 o2 H locs la w s h => lv_ior C.1 C.2.1 hd (k o1 (okT trivial (okR (okR o2))) H locs la w s h)
theorem g_ixor (C : CX tb G own cc nL ret rm X) {x y : Int32} (hd : decode cc pc = .ok (.ixor, 1)) (k : GW G X nL Q (pc + 1) ls (vI (x ^^^ y) :: st) M) : GW G X nL Q pc ls (vI y :: vI x :: st) M :=
  fun o1 o2 H locs la w s h => lv_ixor C.1 C.2.1 hd (k o1 (okT trivial (okR (okR o2))) H locs la w s h)
theorem g_ishl (C : CX tb G own cc nL ret rm X) {x y : Int32} (hd : decode cc pc = .ok (.ishl, 1)) (k : GW G X nL Q (pc + 1) ls (vI (x <<< (y &&& 31)) :: st) M) : GW G X nL Q pc ls (vI y :: vI x :: st) M :=
  fun o1 o2 H locs la w s h => lv_ishl C.1 C.2.1 hd (k o1 (okT trivial (okR (okR o2))) H locs la w s h)
theorem g_ishr (C : CX tb G own cc nL ret rm X) {x y : Int32} (hd : decode cc pc = .ok (.ishr, 1)) (k : GW G X nL Q (pc + 1) ls (vI (x >>> (y &&& 31)) :: st) M) : GW G X nL Q pc ls (vI y :: vI x :: st) M :=
  fun o1 o2 H locs la w s h => lv_ishr C.1 C.2.1 hd (k o1 (okT trivial (okR (okR o2))) H locs la w s h)
theorem g_idiv (C : CX tb G own cc nL ret rm X) {x y : Int32} (hd : decode cc pc = .ok (.idiv, 1)) (hne : ¬ y = 0) (k : GW G X nL Q (pc + 1) ls (vI (x / y) :: st) M) : GW G X nL Q pc ls (vI y :: vI x :: st) M :=
  fun o1 o2 H locs la w s h => lv_idiv C.1 C.2.1 hd hne (k o1 (okT trivial (okR (okR o2))) H locs la w s h)
theorem g_irem (C : CX tb G own cc nL ret rm X) {x y : Int32} (hd : decode cc pc = .ok (.irem, 1)) (hne : ¬ y = 0) (k : GW G X nL Q (pc + 1) ls (vI (x - x / y * y) :: st) M) : GW G X nL Q pc ls (vI y :: vI x :: st) M :=
  fun o1 o2 H locs la w s h => lv_irem C.1 C.2.1 hd hne (k o1 (okT trivial (okR (okR o2))) H locs la w s h)
theorem g_ladd (C : CX tb G own cc nL ret rm X) {x y : Int64} (hd : decode cc pc = .ok (.ladd, 1)) (k : GW G X nL Q (pc + 1) ls (vL (x + y) :: st) M) : GW G X nL Q pc ls (vL y :: vL x :: st) M :=
  fun o1 o2 H locs la w s h => lv_ladd C.1 C.2.1 hd (k o1 (okT trivial (okR (okR o2))) H locs la w s h)
theorem g_lsub (C : CX tb G own cc nL ret rm X) {x y : Int64} (hd : decode cc pc = .ok (.lsub, 1)) (k : GW G X nL Q (pc + 1) ls (vL (x - y) :: st) M) : GW G X nL Q pc ls (vL y :: vL x :: st) M :=
  fun o1 o2 H locs la w s h => lv_lsub C.1 C.2.1 hd (k o1 (okT trivial (okR (okR o2))) H locs la w s h)
theorem g_lmul (C : CX tb G own cc nL ret rm X) {x y : Int64} (hd : decode cc pc = .ok (.lmul, 1)) (k : GW G X nL Q (pc + 1) ls (vL (x * y) :: st) M) : GW G X nL Q pc ls (vL y :: vL x :: st) M :=
  fun o1 o2 H locs la w s h => lv_lmul C.1 C.2.1 hd (k o1 (okT trivial (okR (okR o2))) H locs la w s h)
theorem g_lor (C : CX tb G own cc nL ret rm X) {x y : Int64} (hd : decode cc pc = .ok (.lor, 1)) (k : GW G X nL Q (pc + 1) ls (vL (x ||| y) :: st) M) : GW G X nL Q pc ls (vL y :: vL x :: st) M :=
  fun o1 o2 H locs la w s h => lv_lor C.1 C.2.1 hd (k o1 (okT trivial (okR (okR o2))) H locs la w s h)
theorem g_lcmp (C : CX tb G own cc nL ret rm X) {x y : Int64} (hd : decode cc pc = .ok (.lcmp, 1)) (k : GW G X nL Q (pc + 1) ls (vI (lg_cmp x y) :: st) M) : GW G X nL Q pc ls (vL y :: vL x :: st) M :=
  fun o1 o2 H locs la w s h => W.lcmp C.1 C.2.1 hd (k o1 (okT trivial (okR (okR o2))) H locs la w s h)
theorem g_fsub (C : CX tb G own cc nL ret rm X) {x y : UInt32} (hd : decode cc pc = .ok (.fsub, 1)) (hne : vf_n32 (FP.fsub x y)) (k : GW G X nL Q (pc + 1) ls (vF (FP.fsub x y) :: st) M) : GW G X nL Q pc ls (vF y :: vF x :: st) M :=
  fun o1 o2 H locs la w s h => lv_fsub C.1 C.2.1 hd hne (k o1 (okT trivial (okR (okR o2))) H locs la w s h)
theorem g_fmul (C : CX tb G own cc nL ret rm X) {x y : UInt32} (hd : decode cc pc = .ok (.fmul, 1)) (hne : vf_n32 (FP.fmul x y)) (k : GW G X nL Q (pc + 1) ls (vF (FP.fmul x y) :: st) M) : GW G X nL Q pc ls (vF y :: vF x :: st) M :=
  fun o1 o2 H locs la w s h => lv_fmul C.1 C.2.1 hd hne (k o1 (okT trivial (okR (okR o2))) H locs la w s h)
theorem g_fdiv (C : CX tb G own cc nL ret rm X) {x y : UInt32} (hd : decode cc pc = .ok (.fdiv, 1)) (hne : vf_n32 (FP.fdiv x y)) (k : GW G X nL Q (pc + 1) ls (vF (FP.fdiv x y) :: st) M) : GW G X nL Q pc ls (vF y :: vF x :: st) M :=
  fun o1 o2 H locs la w s h => lv_fdiv C.1 C.2.1 hd hne (k o1 (okT trivial (okR (okR o2))) H locs la w s h)
theorem g_dsub (C : CX tb G own cc nL ret rm X) {x y : UInt64} (hd : decode cc pc = .ok (.dsub, 1)) (hne : vf_n64 (FP.dsub x y)) (k : GW G X nL Q (pc + 1) ls (vD (FP.dsub x y) :: st) M) : GW G X nL Q pc ls (vD y :: vD x :: st) M :=
  fun o1 o2 H locs la w s h => lv_dsub C.1 C.2.1 hd hne (k o1 (okT trivial (okR (okR o2))) H locs la w s h)
theorem g_dmul (C : CX tb G own cc nL ret rm X) {x y : UInt64} (hd : decode cc pc = .ok (.dmul, 1)) (hne : vf_n64 (FP.dmul x y)) (k : GW G X nL Q (pc + 1) ls (vD (FP.dmul x y) :: st) M) : GW G X nL Q pc ls (vD y :: vD x :: st) M :=
  fun o1 o2 H locs la w s h => lv_dmul C.1 C.2.1 hd hne (k o1 (okT trivial (okR (okR o2))) H locs la w s h)
theorem g_ddiv (C : CX tb G own cc nL ret rm X) {x y : UInt64} (hd : decode cc pc = .ok (.ddiv, 1)) (hne : vf_n64 (FP.ddiv x y)) (k : GW G X nL Q (pc + 1) ls (vD (FP.ddiv x y) :: st) M) : GW G X nL Q pc ls (vD y :: vD x :: st) M :=
  fun o1 o2 H locs la w s h => lv_ddiv C.1 C.2.1 hd hne (k o1 (okT trivial (okR (okR o2))) H locs la w s h)
theorem g_fcmp (C : CX tb G own cc nL ret rm X) {x y : UInt32} {op : CmpOp} (hd : decode cc pc = .ok (.fcmp op, 1)) (k : GW G X nL Q (pc + 1) ls (vI (Op.cmpValue (FP.fcmp x y) op) :: st) M) : GW G X nL Q pc ls (vF y :: vF x :: st) M :=
  fun o1 o2 H locs la w s h => lv_fcmp C.1 C.2.1 hd (k o1 (okT trivial (okR (okR o2))) H locs la w s h)
theorem g_dcmp (C : CX tb G own cc nL ret rm X) {x y : UInt64} {op : CmpOp} (hd : decode cc pc = .ok (.dcmp op, 1)) (k : GW G X nL Q (pc + 1) ls (vI (Op.cmpValue (FP.dcmp x y) op) :: st) M) : GW G X nL Q pc ls (vD y :: vD x :: st) M :=
  fun o1 o2 H locs la w s h => lv_dcmp C.1 C.2.1 hd (k o1 (okT trivial (okR (okR o2))) H locs la w s h)
theorem g_lshl (C : CX tb G own cc nL ret rm X) {x : Int64} {y : Int32} (hd : decode cc pc = .ok (.lshl, 1)) (k : GW G X nL Q (pc + 1) ls (vL (x <<< (y.toInt64 &&& 63)) :: st) M) : GW G X nL Q pc ls (vI y :: vL x :: st) M :=
  fun o1 o2 H locs la w s h => lv_lshl C.1 C.2.1 hd rfl (k o1 (okT trivial (okR (okR o2))) H locs la w s h)
theorem g_iushr (C : CX tb G own cc nL ret rm X) {x y : Int32} (hd : decode cc pc = .ok (.iushr, 1)) (k : GW G X nL Q (pc + 1) ls (vI ((x.toUInt32 >>> (y.toUInt32 &&& Int32.toUInt32 31)).toInt32) :: st) M) : GW G X nL Q pc ls (vI y :: vI x :: st) M :=
  fun o1 o2 H locs la w s h => lv_iushr C.1 C.2.1 hd rfl (k o1 (okT trivial (okR (okR o2))) H locs la w s h)
theorem g_i2l (C : CX tb G own cc nL ret rm X) {x : Int32} (hd : decode cc pc = .ok (.i2l, 1)) (k : GW G X nL Q (pc + 1) ls (vL (x.toInt64) :: st) M) : GW G X nL Q pc ls (vI x :: st) M :=
  fun o1 o2 H locs la w s h => lv_i2l C.1 C.2.1 hd rfl (k o1 (okT trivial (okR o2)) H locs la w s h)
theorem g_i2f (C : CX tb G own cc nL ret rm X) {x : Int32} (hd : decode cc pc = .ok (.i2f, 1)) (k : GW G X nL Q (pc + 1) ls (vF (FP.i2f x) :: st) M) : GW G X nL Q pc ls (vI x :: st) M :=
  fun o1 o2 H locs la w s h => lv_i2f C.1 C.2.1 hd (k o1 (okT trivial (okR o2)) H locs la w s h)
theorem g_i2d (C : CX tb G own cc nL ret rm X) {x : Int32} (hd : decode cc pc = .ok (.i2d, 1)) (k : GW G X nL Q (pc + 1) ls (vD (FP.i2d x) :: st) M) : GW G X nL Q pc ls (vI x :: st) M :=
  fun o1 o2 H locs la w s h => lv_i2d C.1 C.2.1 hd (k o1 (okT trivial (okR o2)) H locs la w s h)
theorem g_f2i (C : CX tb G own cc nL ret rm X) {x : UInt32} (hd : decode cc pc = .ok (.f2i, 1)) (k : GW G X nL Q (pc + 1) ls (vI (FP.f2i x) :: st) M) : GW G X nL Q pc ls (vF x :: st) M :=
  fun o1 o2 H locs la w s h => lv_f2i C.1 C.2.1 hd (k o1 (okT trivial (okR o2)) H locs la w s h)
theorem g_d2l (C : CX tb G own cc nL ret rm X) {x : UInt64} (hd : decode cc pc = .ok (.d2l, 1)) (k : GW G X nL Q (pc + 1) ls (vL (FP.d2l x) :: st) M) : GW G X nL Q pc ls (vD x :: st) M :=
  fun o1 o2 H locs la w s h => lv_d2l C.1 C.2.1 hd (k o1 (okT trivial (okR o2)) H locs la w s h)
theorem c1_cv {v : AV} (h : cat2 v = false) : (cv G v).category = 1 := by
  rcases v with x | x | x | x | x <;> first | rfl | cases h
theorem g_dup (C : CX tb G own cc nL ret rm X) {v : AV} (hd : decode cc pc = .ok (.dup, 1)) (hc : cat2 v = false) (k : GW G X nL Q (pc + 1) ls (v :: v :: st) M) : GW G X nL Q pc ls (v :: st) M :=
  fun o1 o2 H locs la w s h => lv_dup C.1 C.2.1 hd (c1_cv hc) (k o1 (okT (okH o2) o2) H locs la w s h)
theorem g_pop (C : CX tb G own cc nL ret rm X) {v : AV} (hd : decode cc pc = .ok (.pop, 1)) (hc : cat2 v = false) (k : GW G X nL Q (pc + 1) ls st M) : GW G X nL Q pc ls (v :: st) M :=
  fun o1 o2 H locs la w s h => lv_pop C.1 C.2.1 hd (c1_cv hc) (k o1 (okR o2) H locs la w s h)
theorem g_dup2 (C : CX tb G own cc nL ret rm X) {v u : AV} (hd : decode cc pc = .ok (.dup2, 1)) (hc : cat2 v = false) (hu : cat2 u = false) (k : GW G X nL Q (pc + 1) ls (v :: u :: v :: u :: st) M) : GW G X nL Q pc ls (v :: u :: st) M :=
  fun o1 o2 H locs la w s h => lv_dup2_11 C.1 C.2.1 hd (c1_cv hc) (c1_cv hu) (k o1 (okT (okH o2) (okT (okH (okR o2)) o2)) H locs la w s h)
theorem g_if_eq (C : CX tb G own cc nL ret rm X) {x : Int32} {off : Int} {tgt : Nat} (hd : decode cc pc = .ok (.ifCond .eq off, 3)) (ht : (pc : Int) + off = (tgt : Int)) (kt : x = 0 → GW G X nL Q tgt ls st M) (kf : ¬ (x = 0) → GW G X nL Q (pc + 3) ls st M) : GW G X nL Q pc ls (vI x :: st) M :=
  fun o1 o2 H locs la w s h => lv_if_eq C.1 C.2.1 hd ht (fun z => kt z o1 (okR o2) H locs la w s h) (fun z => kf z o1 (okR o2) H locs la w s h)
theorem g_icmp_eq (C : CX tb G own cc nL ret rm X) {x y : Int32} {off : Int} {tgt : Nat} (hd : decode cc pc = .ok (.if_icmp .eq off, 3)) (ht : (pc : Int) + off = (tgt : Int)) (kt : x = y → GW G X nL Q tgt ls st M) (kf : ¬ (x = y) → GW G X nL Q (pc + 3) ls st M) : GW G X nL Q pc ls (vI y :: vI x :: st) M :=
  fun o1 o2 H locs la w s h => lv_icmp_eq C.1 C.2.1 hd ht (fun z => kt z o1 (okR (okR o2)) H locs la w s h) (fun z => kf z o1 (okR (okR o2)) H locs la w s h)
theorem g_if_ne (C : CX tb G own cc nL ret rm X) {x : Int32} {off : Int} {tgt : Nat} (hd : decode cc pc = .ok (.ifCond .ne off, 3)) (ht : (pc : Int) + off = (tgt : Int)) (kt : ¬ x = 0 → GW G X nL Q tgt ls st M) (kf : x = 0 → GW G X nL Q (pc + 3) ls st M) : GW G X nL Q pc ls (vI x :: st) M :=
  fun o1 o2 H locs la w s h => lv_if_ne C.1 C.2.1 hd ht (fun z => kt z o1 (okR o2) H locs la w s h) (fun z => kf z o1 (okR o2) H locs la w s h)
theorem g_icmp_ne (C : CX tb G own cc nL ret rm X) {x y : Int32} {off : Int} {tgt : Nat} (hd : decode cc pc = .ok (.if_icmp .ne off, 3)) (ht : (pc : Int) + off = (tgt : Int)) (kt : ¬ x = y → GW G X nL Q tgt ls st M) (kf : x = y → GW G X nL Q (pc + 3) ls st M) : GW G X nL Q pc ls (vI y :: vI x :: st) M :=
  fun o1 o2 H locs la w s h => lv_icmp_ne C.1 C.2.1 hd ht (fun z => kt z o1 (okR (okR o2)) H locs la w s h) (fun z => kf z o1 (okR (okR o2)) H locs la w s h)
theorem g_if_lt (C : CX tb G own cc nL ret rm X) {x : Int32} {off : Int} {tgt : Nat} (hd : decode cc pc = .ok (.ifCond .lt off, 3)) (ht : (pc : Int) + off = (tgt : Int)) (kt : x < 0 → GW G X nL Q tgt ls st M) (kf : ¬ (x < 0) → GW G X nL Q (pc + 3) ls st M) : GW G X nL Q pc ls (vI x :: st) M :=
  fun o1 o2 H locs la w s h => lv_if_lt C.1 C.2.1 hd ht (fun z => kt z o1 (okR o2) H locs la w s h) (fun z => kf z o1 (okR o2) H locs la w s h)
theorem g_icmp_lt (C : CX tb G own cc nL ret rm X) {x y : Int32} {off : Int} {tgt : Nat} (hd : decode cc pc = .ok (.if_icmp .lt off, 3)) (ht : (pc : Int) + off = (tgt : Int)) (kt : x < y → GW G X nL Q tgt ls st M) (kf : ¬ (x < y) → GW G X nL Q (pc + 3) ls st M) : GW G X nL Q pc ls (vI y :: vI x :: st) M :=
  fun o1 o2 H locs la w s h => lv_icmp_lt C.1 C.2.1 hd ht (fun z => kt z o1 (okR (okR o2)) H locs la w s h) (fun z => kf z o1 (okR (okR o2)) H locs la w s h)
theorem g_if_ge (C : CX tb G own cc nL ret rm X) {x : Int32} {off : Int} {tgt : Nat} (hd : decode cc pc = .ok (.ifCond .ge off, 3)) (ht : (pc : Int) + off = (tgt : Int)) (kt : 0 ≤ x → GW G X nL Q tgt ls st M) (kf : ¬ (0 ≤ x) → GW G X nL Q (pc + 3) ls st M) : GW G X nL Q pc ls (vI x :: st) M :=
  fun o1 o2 H locs la w s h => lv_if_ge C.1 C.2.1 hd ht (fun z => kt z o1 (okR o2) H locs la w s h) (fun z => kf z o1 (okR o2) H locs la w s h)
theorem g_icmp_ge (C : CX tb G own cc nL ret rm X) {x y : Int32} {off : Int} {tgt : Nat} (hd : decode cc pc = .ok (.if_icmp .ge off, 3)) (ht : (pc : Int) + off = (tgt : Int)) (kt : y ≤ x → GW G X nL Q tgt ls st M) (kf : ¬ (y ≤ x) → GW G X nL Q (pc + 3) ls st M) : GW G X nL Q pc ls (vI y :: vI x :: st) M :=
  fun o1 o2 H locs la w s h => lv_icmp_ge C.1 C.2.1 hd ht (fun z => kt z o1 (okR (okR o2)) H locs la w s h) (fun z => kf z o1 (okR (okR o2)) H locs la w s h)
theorem g_if_gt (C : CX tb G own cc nL ret rm X) {x : Int32} {off : Int} {tgt : Nat} (hd : decode cc pc = .ok (.ifCond .gt off, 3)) (ht : (pc : Int) + off = (tgt : Int)) (kt : 0 < x → GW G X nL Q tgt ls st M) (kf : ¬ (0 < x) → GW G X nL Q (pc + 3) ls st M) : GW G X nL Q pc ls (vI x :: st) M :=
  fun o1 o2 H locs la w s h => lv_if_gt C.1 C.2.1 hd ht (fun z => kt z o1 (okR o2) H locs la w s h) (fun z => kf z o1 (okR o2) H locs la w s h)
theorem g_icmp_gt (C : CX tb G own cc nL ret rm X) {x y : Int32} {off : Int} {tgt : Nat} (hd : decode cc pc = .ok (.if_icmp .gt off, 3)) (ht : (pc : Int) + off = (tgt : Int)) (kt : y < x → GW G X nL Q tgt ls st M) (kf : ¬ (y < x) → GW G X nL Q (pc + 3) ls st M) : GW G X nL Q pc ls (vI y :: vI x :: st) M :=
  fun o1 o2 H locs la w s h => lv_icmp_gt C.1 C.2.1 hd ht (fun z => kt z o1 (okR (okR o2)) H locs la w s h) (fun z => kf z o1 (okR (okR o2)) H locs la w s h)
theorem g_if_le (C : CX tb G own cc nL ret rm X) {x : Int32} {off : Int} {tgt : Nat} (hd : decode cc pc = .ok (.ifCond .le off, 3)) (ht : (pc : Int) + off = (tgt : Int)) (kt : x ≤ 0 → GW G X nL Q tgt ls st M) (kf : ¬ (x ≤ 0) → GW G X nL Q (pc + 3) ls st M) : GW G X nL Q pc ls (vI x :: st) M :=
  fun o1 o2 H locs la w s h => lv_if_le C.1 C.2.1 hd ht (fun z => kt z o1 (okR o2) H locs la w s h) (fun z => kf z o1 (okR o2) H locs la w s h)
theorem g_icmp_le (C : CX tb G own cc nL ret rm X) {x y : Int32} {off : Int} {tgt : Nat} (hd : decode cc pc = .ok (.if_icmp .le off, 3)) (ht : (pc : Int) + off = (tgt : Int)) (kt : x ≤ y → GW G X nL Q tgt ls st M) (kf : ¬ (x ≤ y) → GW G X nL Q (pc + 3) ls st M) : GW G X nL Q pc ls (vI y :: vI x :: st) M :=
  fun o1 o2 H locs la w s h => lv_icmp_le C.1 C.2.1 hd ht (fun z => kt z o1 (okR (okR o2)) H locs la w s h) (fun z => kf z o1 (okR (okR o2)) H locs la w s h)
theorem g_goto (C : CX tb G own cc nL ret rm X) {off : Int} {tgt : Nat} (hd : decode cc pc = .ok (.goto off, 3)) (ht : (pc : Int) + off = (tgt : Int)) (k : GW G X nL Q tgt ls st M) : GW G X nL Q pc ls st M :=
  fun o1 o2 H locs la w s h => lv_goto C.1 C.2.1 hd ht (k o1 o2 H locs la w s h)
theorem g_tabOut (C : CX tb G own cc nL ret rm X) {dflt lo hi : Int} {offs : Array Int} {len : Nat} {x : Int32} {tgt : Nat} (hd : decode cc pc = .ok (.tableswitch dflt lo hi offs, len)) (hx : x.toInt < lo ∨ hi < x.toInt) (ht : (pc : Int) + dflt = (tgt : Int)) (k : GW G X nL Q tgt ls st M) : GW G X nL Q pc ls (vI x :: st) M :=
  fun o1 o2 H locs la w s h => lv_tableOut C.1 C.2.1 hd hx ht (k o1 (okR o2) H locs la w s h)
theorem g_tabIn (C : CX tb G own cc nL ret rm X) {dflt lo hi : Int} {offs : Array Int} {len : Nat} {x : Int32} {off : Int} {tgt : Nat} (hd : decode cc pc = .ok (.tableswitch dflt lo hi offs, len)) (h1 : ¬ x.toInt < lo) (h2 : ¬ hi < x.toInt) (ho : offs[(x.toInt - lo).toNat]? = some off) (ht : (pc : Int) + off = (tgt : Int)) (k : GW G X nL Q tgt ls st M) : GW G X nL Q pc ls (vI x :: st) M :=
  fun o1 o2 H locs la w s h => lv_tableIn C.1 C.2.1 hd h1 h2 ho ht (k o1 (okR o2) H locs la w s h)
end RULES

/-! the JDK's two natives -/
section NATIVE
variable {tb : Bool} {G : GE} {own : String} {cc : ByteArray} {nL : Nat} {ret : Option FieldType} {d : Nat} {o : Outc} {X : PX} {Q : State → Prop} {pc : Nat} {ls : List (Nat × AV)} {M : Mem}
theorem g_d2raw (C : CX tb G own cc nL ret (rmx d o) X) {index : Nat} {b : UInt64} (h1 : Cond.methodLink own index ⟨"java/lang/Double", "doubleToRawLongBits", "(D)J"⟩ ∈ BW) (h2 : Cond.native ⟨"java/lang/Double", "doubleToRawLongBits", "(D)J"⟩ ∈ BW) (h3 : Cond.static ⟨"java/lang/Double", "doubleToRawLongBits", "(D)J"⟩ ∈ BW) (h4 : Cond.initialized "java/lang/Double" ∈ BW) (hd1 : 1 ≤ d) (hd : decode cc pc = .ok (.invokestatic index, 3)) (k : GW G X nL Q (pc + 3) ls [vL b.toInt64] M) : GW G X nL Q pc ls [vD b] M := by
  intro o1 o2 H locs la w s h
  have hR : X.2.2.2.1 = rmx d o := C.2.2.2.2.2.2.2.2.2.1
  refine vn_d2l C.1 C.2.1 (by rw [h.1]; exact C.2.2.1) C.2.2.2.1 (C.2.2.2.2.1 _ h1) (C.2.2.2.2.1 _ h2) (C.2.2.2.2.1 _ h3) (C.2.2.2.2.1 _ h4) ?_ ?_ hd (k o1 (fun v hv => by cases List.mem_singleton.mp hv; trivial) H locs la w s h)
  · rw [hR]; exact hd1
  · rw [hR]
    show 0 + 15 ≤ 36 * d
    omega
theorem g_f2raw (C : CX tb G own cc nL ret (rmx d o) X) {index : Nat} {b : UInt32} (h1 : Cond.methodLink own index ⟨"java/lang/Float", "floatToRawIntBits", "(F)I"⟩ ∈ BW) (h2 : Cond.native ⟨"java/lang/Float", "floatToRawIntBits", "(F)I"⟩ ∈ BW) (h3 : Cond.static ⟨"java/lang/Float", "floatToRawIntBits", "(F)I"⟩ ∈ BW) (h4 : Cond.initialized "java/lang/Float" ∈ BW) (hd1 : 1 ≤ d) (hd : decode cc pc = .ok (.invokestatic index, 3)) (k : GW G X nL Q (pc + 3) ls [vI b.toInt32] M) : GW G X nL Q pc ls [vF b] M := by
  intro o1 o2 H locs la w s h
  have hR : X.2.2.2.1 = rmx d o := C.2.2.2.2.2.2.2.2.2.1
  refine vn_f2i C.1 C.2.1 (by rw [h.1]; exact C.2.2.1) C.2.2.2.1 (C.2.2.2.2.1 _ h1) (C.2.2.2.2.1 _ h2) (C.2.2.2.2.1 _ h3) (C.2.2.2.2.1 _ h4) ?_ ?_ hd (k o1 (fun v hv => by cases List.mem_singleton.mp hv; trivial) H locs la w s h)
  · rw [hR]; exact hd1
  · rw [hR]
    show 0 + 15 ≤ 36 * d
    omega
theorem kn_d2raw0 : Cond.methodLink RJxe99ae 134 ⟨"java/lang/Double", "doubleToRawLongBits", "(D)J"⟩ ∈ BW := bw_mem (w := Cond.methodLink RJxe99ae 134 ⟨"java/lang/Double", "doubleToRawLongBits", "(D)J"⟩) 1615 (by decide +kernel) rfl
theorem kn_d2raw1 : Cond.native ⟨"java/lang/Double", "doubleToRawLongBits", "(D)J"⟩ ∈ BW := bw_mem (w := Cond.native ⟨"java/lang/Double", "doubleToRawLongBits", "(D)J"⟩) 1617 (by decide +kernel) rfl
theorem kn_d2raw2 : Cond.static ⟨"java/lang/Double", "doubleToRawLongBits", "(D)J"⟩ ∈ BW := bw_mem (w := Cond.static ⟨"java/lang/Double", "doubleToRawLongBits", "(D)J"⟩) 1616 (by decide +kernel) rfl
theorem kn_d2raw3 : Cond.initialized "java/lang/Double" ∈ BW := bw_mem (w := Cond.initialized "java/lang/Double") 111 (by decide +kernel) rfl
theorem kn_f2raw0 : Cond.methodLink RJxf58ca 74 ⟨"java/lang/Float", "floatToRawIntBits", "(F)I"⟩ ∈ BW := bw_mem (w := Cond.methodLink RJxf58ca 74 ⟨"java/lang/Float", "floatToRawIntBits", "(F)I"⟩) 1559 (by decide +kernel) rfl
theorem kn_f2raw1 : Cond.native ⟨"java/lang/Float", "floatToRawIntBits", "(F)I"⟩ ∈ BW := bw_mem (w := Cond.native ⟨"java/lang/Float", "floatToRawIntBits", "(F)I"⟩) 1561 (by decide +kernel) rfl
theorem kn_f2raw2 : Cond.static ⟨"java/lang/Float", "floatToRawIntBits", "(F)I"⟩ ∈ BW := bw_mem (w := Cond.static ⟨"java/lang/Float", "floatToRawIntBits", "(F)I"⟩) 1560 (by decide +kernel) rfl
theorem kn_f2raw3 : Cond.initialized "java/lang/Float" ∈ BW := bw_mem (w := Cond.initialized "java/lang/Float") 110 (by decide +kernel) rfl
end NATIVE
section FLOATS
variable {tb : Bool} {G : GE} {own : String} {cc : ByteArray} {nL : Nat} {ret : Option FieldType} {rm : Room} {X : PX} {Q : State → Prop} {pc : Nat} {ls : List (Nat × AV)} {st : List AV} {M : Mem}
theorem vx_ofWF {l : Launch} {y : MethodName} {ws ws' : List Cond} {rm : Room} {Pc : Array Value → State → Prop} {Qc : Array Value → State → Outcome → State → Prop} {XC : String → State → State → Prop} {mc ms : Nat} {free : Addr → Prop} {cc : ByteArray} {maxL : Nat} {ret : Option FieldType}
    (hy : plainFor y = true) (hw : ws = Cond.code y cc maxL ret :: ws')
    (body : ∀ p e s m args below meth c s₁, BodyLoose p l y (headSpec ws rm) cc maxL ret e s m args below meth c s₁ → c.maxLocals = maxL → (∀ x ∈ c.exceptionTable.toList, False) → Pc args s →
      W p l e (headSpec ws rm).room s m args below meth c s.heap [] 0 0 (vx_MQ below Qc XC args s mc ms free) (entryFrame m args maxL)) : vx_Met l y ws rm Pc Qc XC mc ms free := by
  refine MetFree.of_bodySF (code := cc) (maxLocals := maxL) (ret := ret) hy ?_ ?_
  · intro args s m h hn
    obtain ⟨meth, c, h1, h2, h3, h4, h5, h6, -, -⟩ := Cond.code_spec hn (atoms_spec (ws := ws) h _ (by rw [hw]; exact List.mem_cons_self))
    exact ⟨meth, c, h1, h2, h3, h4, h5, h6⟩
  · intro p e s m args below meth c s₁ B hml hP _
    have hh0 : s₁.heap = s.heap := by rw [B.state]; rfl
    have ht : ∀ x ∈ c.exceptionTable.toList, False := by
      obtain ⟨meth9, c9, h1, h2, -, -, -, -, h7, -⟩ := Cond.code_spec B.named (atoms_spec (ws := ws) B.pre _ (by rw [hw]; exact List.mem_cons_self))
      cases Option.some.inj (h1.symm.trans B.method)
      cases Option.some.inj (h2.symm.trans (Stand.of_body B).code)
      intro x hx
      rw [Array.isEmpty_iff.mp h7] at hx
      cases hx
    obtain ⟨t, a1, o, b1, b2, b3⟩ := body p e s m args below meth c s₁ B hml ht hP s₁ hh0 (Stand.of_body B)
    exact ⟨t, o, a1, b1, b2, b3⟩
theorem ct_ofF {l : Launch} {y : MethodName} {d : Nat} {av : List AV} {o : Outc} {M' : Mem} (ls0 : List (Nat × AV)) (hy : plainFor y = true) (hl : l.stackTraces = false) (hG : GOK G) (hlen : csum av ≤ nL) (hls : ls0.map (cq G) = lv_args 0 (av.map (cv G))) (hok : ∀ v ∈ av, okv G v) (hok0 : ∀ q ∈ ls0, okv G q.2)
    (body : ∀ X, X.2.1 = l → CX true G y.cls cc nL ret (rmx d o) X → GW G X nL (QX G X o M') 0 ls0 [] M) : CT l G y cc nL ret d av M o M' := by
  refine vx_ofWF hy rfl ?_
  intro p e s m args below meth c s₁ B hml hnt hv
  obtain ⟨rfl, hw⟩ := hv
  have hts := atoms_spec (ws := Cond.code y cc nL ret :: BW) B.pre
  have C : CX true G y.cls cc nL ret (rmx d o) (p, l, e, (headSpec (Cond.code y cc nL ret :: BW) (rmx d o)).room, s, m, (av.map (cv G)).toArray, below, meth, c, 0, 0) :=
    ⟨B.exec, B.bytes, hml, findClass_of_methodNamed B.named, fun w hw => hts w (List.mem_cons_of_mem _ hw), B.notSynchronized, B.returns, fun _ => ⟨hnt, rfl, rfl⟩, hl, rfl, hG, hw.2⟩
  have hsl : ∀ vs : List AV, (lg_sl (vs.map (cv G))).length = csum vs := by
    intro vs
    induction vs with
    | nil => rfl
    | cons v r ih =>
      show (List.flatMap _ (cv G v :: r.map (cv G))).length = _
      rw [List.flatMap_cons, List.length_append]
      show _ + (lg_sl (r.map (cv G))).length = (if cat2 v then 2 else 1) + csum r
      rw [ih]
      rcases v with x | x | x | x | x <;> rfl
  have hlv := lv_entry (av.map (cv G)) (n := nL) (by rw [hsl]; exact hlen)
  rw [lg_entry_eq]
  have k := body _ rfl C hok0 (fun _ h => by cases h) s.heap [] ((lg_sl (av.map (cv G)) ++ List.replicate (nL - (lg_sl (av.map (cv G))).length) Slot.unset).toArray) hw.1 va_S.rf (by rw [show (fun q : Nat × AV => (q.1, cv G q.2)) = cq G from rfl, hls]; exact hlv)
  exact k
end FLOATS

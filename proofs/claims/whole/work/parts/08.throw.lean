/-! A throw of the class's own. -/
section THROW
variable {G : GE} {own : String} {cc : ByteArray} {nL : Nat} {ret : Option FieldType} {rm : Room} {X : PX} {Q : State → Prop} {pc : Nat} {ls : List (Nat × AV)} {st : List AV} {M : Mem}
def tkB (own : String) (ik ic : Nat) (E : String) : Prop :=
  Bundle.fit E = true ∧ Cond.classLink own ik E ∈ BW ∧ Cond.initialized E ∈ BW ∧ (∀ w ∈ (vx_atS own ic E exP).filter goodWord, w ∈ BW) ∧ (∀ w ∈ (vx_atS own ic E exP).filter (fun w => !goodWord w), w ∈ XW) ∧ (∀ w ∈ Cond.classLink own ik E :: Cond.initialized E :: vx_atS own ic E exP, vx_ot w = true)
theorem g_throw {o : Outc} {ik is ic d : Nat} {E text : String} (C : CX G own cc nL ret (rmx d (.inr E)) X) (tk : tkB own ik ic E) (hs : (own, is, text) ∈ strs) (hd6 : 6 ≤ d) (hW : csum st = 0)
    (d0 : decode cc pc = .ok (.new ik, 3)) (d3 : decode cc (pc + 3) = .ok (.dup, 1)) (d4 : decode cc (pc + 4) = .ok (.ldc is, 2)) (d6 : decode cc (pc + 6) = .ok (.invokespecial ic, 3)) (d9 : decode cc (pc + 9) = .ok (.athrow, 1)) : GW G X nL (QX G X (.inr E) M) pc ls st M := by
  intro o1 o2 H locs la w s h
  obtain ⟨t1, t2, t3, t4, t5, t6⟩ := tk
  obtain ⟨a, ha⟩ := (ca C).2.2.2.2.1 _ hs
  have hR : X.2.2.2.1 = rmx d (.inr E) := C.2.2.2.2.2.2.2.2.2.1
  have hsum : ((st.map (cv G)).map fun v => v.category).sum = 0 := by rw [csum_cv]; exact hW
  refine vx_throwS (p := X.1) (l := X.2.1) (e := X.2.2.1) (R := X.2.2.2.1) (s := xs_ X) (m := X.2.2.2.2.2.1) (args := X.2.2.2.2.2.2.1) (below := X.2.2.2.2.2.2.2.1) (meth := X.2.2.2.2.2.2.2.2.1) (c := X.2.2.2.2.2.2.2.2.2) (mc := 1) (ms := 6) (names := exP) (text := text) (A := gA G) C.1 C.2.1 C.2.2.2.2.2.2.2.2.1 C.2.2.2.1 t1 (by decide +kernel) (C.2.2.2.2.1 _ t2) (C.2.2.2.2.1 _ t3) ha (vx_hat (B := XW) (fun w hw => C.2.2.2.2.1 _ (t4 w hw)) t5 (fun w hw => va_Nw.use (XW.tabs w hw) ((ca C).2.2.2.2.2.1 w hw))) t6 (ca C).2.1 (ca C).2.2.1 s (by rw [h.1]; exact C.2.2.1.symm) d0 d3 d4 d6 d9 (fun x hx => (C.2.2.2.2.2.2.2.1 x hx).elim) ?_ ?_ ?_ ?_ C.2.2.2.2.2.1 ?_ s.2.2 (Nat.le_refl _) (Nat.le_refl _)
  · rw [hR]
    show 2 + 3 < d
    omega
  · rw [hsum, hR]
    show 0 + (13 * (2 + 1) + 43) ≤ 36 * d
    omega
  · rw [hR]
    exact Nat.le_refl _
  · rw [hR]
    exact Nat.le_refl _
  · intro t ht hz hk
    refine ⟨rfl, ⟨w.1.kept (fun j q hq => hk _ (w.1 j q hq).lt), w.2⟩, Nat.le_trans s.1 hz, fun q h1 h2 => ?_⟩
    rw [hk q (Nat.lt_of_lt_of_le h1 s.1)]
    exact s.2.1 q h1 h2
end THROW

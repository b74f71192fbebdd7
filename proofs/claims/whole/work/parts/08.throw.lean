/-! A throw of the class's own. -/
section THROW
variable {tb : Bool} {G : GE} {own : String} {cc : ByteArray} {nL : Nat} {ret : Option FieldType} {rm : Room} {X : PX} {Q : State → Prop} {pc : Nat} {ls : List (Nat × AV)} {st : List AV} {M : Mem}
def tkB (own : String) (ik ic : Nat) (E : String) : Prop :=
  Bundle.fit E = true ∧ Cond.classLink own ik E ∈ BW ∧ Cond.initialized E ∈ BW ∧ (∀ w ∈ (vx_atS own ic E exP).filter goodWord, w ∈ BW) ∧ (∀ w ∈ (vx_atS own ic E exP).filter (fun w => !goodWord w), w ∈ XW) ∧ (∀ w ∈ Cond.classLink own ik E :: Cond.initialized E :: vx_atS own ic E exP, vx_ot w = true)
theorem g_throw {o : Outc} {ik is ic d : Nat} {E text : String} (C : CX true G own cc nL ret (rmx d (.inr E)) X) (tk : tkB own ik ic E) (hs : (own, is, text) ∈ strs) (hd6 : 6 ≤ d) (hW : csum st = 0)
    (d0 : decode cc pc = .ok (.new ik, 3)) (d3 : decode cc (pc + 3) = .ok (.dup, 1)) (d4 : decode cc (pc + 4) = .ok (.ldc is, 2)) (d6 : decode cc (pc + 6) = .ok (.invokespecial ic, 3)) (d9 : decode cc (pc + 9) = .ok (.athrow, 1)) : GW G X nL (QX G X (.inr E) M) pc ls st M := by
  intro o1 o2 H locs la w s h
  obtain ⟨t1, t2, t3, t4, t5, t6⟩ := tk
  obtain ⟨a, ha⟩ := (ca C).2.2.2.2.1 _ hs
  have hR : X.2.2.2.1 = rmx d (.inr E) := C.2.2.2.2.2.2.2.2.2.1
  have hsum : ((st.map (cv G)).map fun v => v.category).sum = 0 := by rw [csum_cv]; exact hW
  refine vx_throwS (cells := xk_ X) (slots := xz_ X) (p := X.1) (l := X.2.1) (e := X.2.2.1) (R := X.2.2.2.1) (s := xs_ X) (m := X.2.2.2.2.2.1) (args := X.2.2.2.2.2.2.1) (below := X.2.2.2.2.2.2.2.1) (meth := X.2.2.2.2.2.2.2.2.1) (c := X.2.2.2.2.2.2.2.2.2.1) (mc := 1) (ms := 6) (names := exP) (text := text) (A := gA G) C.1 C.2.1 C.2.2.2.2.2.2.2.2.1 C.2.2.2.1 t1 (by decide +kernel) (C.2.2.2.2.1 _ t2) (C.2.2.2.2.1 _ t3) ha (vx_hat (B := XW) (fun w hw => C.2.2.2.2.1 _ (t4 w hw)) t5 (fun w hw => va_Nw.use (XW.tabs w hw) ((ca C).2.2.2.2.2.1.1 w hw))) t6 (ca C).2.1 (ca C).2.2.1 s (by rw [h.1]; exact C.2.2.1.symm) d0 d3 d4 d6 d9 (fun x hx => ((C.2.2.2.2.2.2.2.1 rfl).1 x hx).elim) ?_ ?_ ?_ ?_ C.2.2.2.2.2.1 ?_ s.2.2 (by rw [(C.2.2.2.2.2.2.2.1 rfl).2.1]; exact Nat.le_refl _) (by rw [(C.2.2.2.2.2.2.2.1 rfl).2.2]; exact Nat.le_refl _)
  · rw [hR]
    show 2 + 3 < d
    omega
  · rw [hsum, hR]
    show 0 + (13 * (2 + 1) + 43) ≤ 36 * d
    omega
  · rw [hR, (C.2.2.2.2.2.2.2.1 rfl).2.1]
    exact Nat.le_refl _
  · rw [hR, (C.2.2.2.2.2.2.2.1 rfl).2.2]
    exact Nat.le_refl _
  · intro t ht hz hk
    refine ⟨rfl, ⟨w.1.kept (fun j q hq => hk _ (w.1 j q hq).lt), w.2⟩, Nat.le_trans s.1 hz, fun q h1 h2 => ?_⟩
    rw [hk q (Nat.lt_of_lt_of_le h1 s.1)]
    exact s.2.1 q h1 h2
theorem g_throwW {o : Outc} {ik is ic d : Nat} {E text : String} (C : CX true G own cc nL ret (rmx d (.inr E)) X) (tk : tkB own ik ic E) (hs : (own, is, text) ∈ strs) (hd6 : 6 ≤ d) (hW : csum st = 0)
    (d0 : decode cc pc = .ok (.new ik, 3)) (d3 : decode cc (pc + 3) = .ok (.dup, 1)) (d4 : decode cc (pc + 4) = .ok (.ldc_w is, 3)) (d6 : decode cc (pc + 7) = .ok (.invokespecial ic, 3)) (d9 : decode cc (pc + 10) = .ok (.athrow, 1)) : GW G X nL (QX G X (.inr E) M) pc ls st M := by
  intro o1 o2 H locs la w s h
  obtain ⟨t1, t2, t3, t4, t5, t6⟩ := tk
  obtain ⟨a, ha⟩ := (ca C).2.2.2.2.1 _ hs
  have hR : X.2.2.2.1 = rmx d (.inr E) := C.2.2.2.2.2.2.2.2.2.1
  have hsum : ((st.map (cv G)).map fun v => v.category).sum = 0 := by rw [csum_cv]; exact hW
  refine vx_throwSW (cells := xk_ X) (slots := xz_ X) (p := X.1) (l := X.2.1) (e := X.2.2.1) (R := X.2.2.2.1) (s := xs_ X) (m := X.2.2.2.2.2.1) (args := X.2.2.2.2.2.2.1) (below := X.2.2.2.2.2.2.2.1) (meth := X.2.2.2.2.2.2.2.2.1) (c := X.2.2.2.2.2.2.2.2.2.1) (mc := 1) (ms := 6) (names := exP) (text := text) (A := gA G) C.1 C.2.1 C.2.2.2.2.2.2.2.2.1 C.2.2.2.1 t1 (by decide +kernel) (C.2.2.2.2.1 _ t2) (C.2.2.2.2.1 _ t3) ha (vx_hat (B := XW) (fun w hw => C.2.2.2.2.1 _ (t4 w hw)) t5 (fun w hw => va_Nw.use (XW.tabs w hw) ((ca C).2.2.2.2.2.1.1 w hw))) t6 (ca C).2.1 (ca C).2.2.1 s (by rw [h.1]; exact C.2.2.1.symm) d0 d3 d4 d6 d9 (fun x hx => ((C.2.2.2.2.2.2.2.1 rfl).1 x hx).elim) ?_ ?_ ?_ ?_ C.2.2.2.2.2.1 ?_ s.2.2 (by rw [(C.2.2.2.2.2.2.2.1 rfl).2.1]; exact Nat.le_refl _) (by rw [(C.2.2.2.2.2.2.2.1 rfl).2.2]; exact Nat.le_refl _)
  · rw [hR]
    show 2 + 3 < d
    omega
  · rw [hsum, hR]
    show 0 + (13 * (2 + 1) + 43) ≤ 36 * d
    omega
  · rw [hR, (C.2.2.2.2.2.2.2.1 rfl).2.1]
    exact Nat.le_refl _
  · rw [hR, (C.2.2.2.2.2.2.2.1 rfl).2.2]
    exact Nat.le_refl _
  · intro t ht hz hk
    refine ⟨rfl, ⟨w.1.kept (fun j q hq => hk _ (w.1 j q hq).lt), w.2⟩, Nat.le_trans s.1 hz, fun q h1 h2 => ?_⟩
    rw [hk q (Nat.lt_of_lt_of_le h1 s.1)]
    exact s.2.1 q h1 h2
theorem g_ldcw (C : CX tb G own cc nL ret rm X) {index : Nat} {v : Int32} (hc : Cond.constant own index v ∈ BW) (hd : decode cc pc = .ok (.ldc_w index, 3)) (k : GW G X nL Q (pc + 3) ls (vI v :: st) M) : GW G X nL Q pc ls st M :=
  fun o1 o2 H locs la w s h => lv_ldcw C.1 C.2.1 C.2.2.2.1 (C.2.2.2.2.1 _ hc) hd (k o1 (okT trivial o2) H locs la w s h)
theorem lv_ldcwf {p : Program} {l : Launch} {e : Env} {R : Room} {s : State} {m : MethodId} {args : Array Value} {below : List Frame} {meth : Method} {c : Code} {H : Heap} {locs : List Loc} {cells slots : Nat} {Q : State → Prop} {cc : ByteArray} {pc : Nat} {ls : Array Slot} {rest : List Value} (hexec : p.tables.exec = Jvm.exec) (hb : c.code = cc) {own : String} {index : Nat} {v : UInt32} (hown : s.vm.findClass own = some m.cls) (hconst : (Jvm.Cond.constantFloat own index v).before args s = true) (hdg : decode cc pc = .ok (.ldc_w index, 3)) (k : W p l e R s m args below meth c H locs cells slots Q (F0 m (pc + 3) ls (.float v :: rest))) : W p l e R s m args below meth c H locs cells slots Q (F0 m pc ls rest) := by
  intro T hT X
  obtain ⟨t, a, b⟩ := k T hT X
  refine ⟨t, ?_, b⟩
  obtain ⟨k, cf, hk, hcf, hcp⟩ := Cond.constantFloat_spec hown hconst
  obtain ⟨k', hk', he⟩ := X.warmed.alike.2.2 _ _ hk
  jvm_step X.here [hexec, hb, hdg, ldc_w.wp_float (s := T) (f := F0 m pc ls rest) X.here.top hk' (by rw [he]; exact hcf) hcp]
  exact a
theorem g_ldcwf (C : CX tb G own cc nL ret rm X) {index : Nat} {v : UInt32} (hc : Cond.constantFloat own index v ∈ BW) (hd : decode cc pc = .ok (.ldc_w index, 3)) (k : GW G X nL Q (pc + 3) ls (vF v :: st) M) : GW G X nL Q pc ls st M :=
  fun o1 o2 H locs la w s h => lv_ldcwf C.1 C.2.1 C.2.2.2.1 (C.2.2.2.2.1 _ hc) hd (k o1 (okT trivial o2) H locs la w s h)
/-! words for the models -/
abbrev inb (i : Int32) (n : Nat) : Prop := ¬ (i < 0 ∨ n ≤ i.toNatClampNeg)
abbrev fn32 (r : UInt32) : Prop := r &&& 0x7fffffff ≤ 0x7f800000
abbrev fn64 (r : UInt64) : Prop := r &&& 0x7fffffffffffffff ≤ 0x7ff0000000000000
def lp_run {S R : Type} (body : S → Option (S ⊕ R)) : Nat → S → Option R
  | 0, _ => none
  | n + 1, s => match body s with
    | none => none
    | some (.inl s') => lp_run body n s'
    | some (.inr r) => some r
theorem lp_ind {S R : Type} {body : S → Option (S ⊕ R)} {P : S → Prop} {r : R} (step : ∀ s o, body s = some o → ((∀ s', o = .inl s' → P s') ∧ (∀ r', o = .inr r' → r' = r)) → P s) : ∀ n s, lp_run body n s = some r → P s
  | 0, _, h => by cases h
  | n + 1, s, h => by
    unfold lp_run at h
    cases hb : body s with
    | none => rw [hb] at h; cases h
    | some o =>
      rw [hb] at h
      cases o with
      | inl s' => exact step s _ hb ⟨fun s'' e => (by cases e; exact lp_ind step n s' h), fun r' e => (by cases e)⟩
      | inr r' => exact step s _ hb ⟨fun s'' e => (by cases e), fun r'' e => (by cases e; exact Option.some.inj h)⟩
theorem bnd_some {α β : Type} {x : Option α} {k : α → Option β} {r : β} (h : x.bind k = some r) : ∃ a, x = some a ∧ k a = some r := by
  cases x with
  | none => cases h
  | some a => exact ⟨a, rfl, h⟩
theorem ift {α : Sort _} {c : Prop} {_ : Decidable c} {A B r : α} (h : (if c then A else B) = r) (hc : c) : A = r := by rw [if_pos hc] at h; exact h
theorem ife {α : Sort _} {c : Prop} {_ : Decidable c} {A B r : α} (h : (if c then A else B) = r) (hc : ¬ c) : B = r := by rw [if_neg hc] at h; exact h
theorem ifn {α : Type} {c : Prop} {_ : Decidable c} {A : Option α} {r : α} (h : (if c then A else none) = some r) : c ∧ A = some r := by
  by_cases hc : c
  · rw [if_pos hc] at h; exact ⟨hc, h⟩
  · rw [if_neg hc] at h; cases h
theorem iv_p1 (x : Int32) : x + Int32.ofInt 1 = x + (1 : Int32) := by rw [show Int32.ofInt 1 = (1 : Int32) from by decide]
theorem iv_m1 (x : Int32) : x + Int32.ofInt (-1) = x + (-1 : Int32) := by rw [show Int32.ofInt (-1) = (-1 : Int32) from by decide]
theorem tab_out {x : Int32} (n : Nat) {hi : Int} (hn : n < 1000 ∧ hi = (n : Int) - 1) (h : ∀ j, j < n → ¬ x = nI j) : x.toInt < 0 ∨ hi < x.toInt := by
  obtain ⟨hn, rfl⟩ := hn
  rcases Int.lt_or_le x.toInt 0 with a | a
  · exact Or.inl a
  · right
    rcases Int.lt_or_le ((n : Int) - 1) x.toInt with b | b
    · exact b
    · exfalso
      refine h x.toInt.toNat (by omega) ?_
      apply Int32.toInt_inj.mp
      rw [nI_toInt (by omega)]
      omega
def exN (k : Nat) : String := match k with
  | 0 => "java/lang/IndexOutOfBoundsException"
  | 1 => "java/lang/IllegalArgumentException"
  | _ => "java/lang/IllegalStateException"
def oI (r : Int32 ⊕ Nat) : Outc := match r with
  | .inl x => .inl (some (vI x))
  | .inr k => .inr (exN k)
def oU (r : Unit ⊕ Nat) : Outc := match r with
  | .inl _ => .inl none
  | .inr k => .inr (exN k)
end THROW

/-! p28: the claim is false as printed (its room): made by wip/refute/port.py out of whole's rows -/
/-! The law's start: what its words give, what the constructors' models come to, and the walk up to the second object. -/
section START
/-! ### models of the constructors, run -/
def fillM (M : Mem) (k0 : Nat) (v : Int32) (j N : Nat) : Mem := (fun t k i => if t = 20 ∧ k = k0 ∧ j ≤ i ∧ i < N then v else M.1 t k i, M.2)
theorem lp_inl {S R : Type} {body : S → Option (S ⊕ R)} {n : Nat} {s s' : S} (h : body s = some (.inl s')) : lp_run body (n + 1) s = lp_run body n s' := by
  conv => lhs; unfold lp_run
  rw [h]
theorem lp_inr {S R : Type} {body : S → Option (S ⊕ R)} {n : Nat} {s : S} {r : R} (h : body s = some (.inr r)) : lp_run body (n + 1) s = some r := by
  conv => lhs; unfold lp_run
  rw [h]
theorem fill_run (f0 k0 : Nat) (v : Int32) (N : Nat) (hN : alen 20 k0 = N) (hb : N < 2 ^ 31) : ∀ (d j fu : Nat) (M : Mem), j + d = N → d < fu → lp_run (fun s => f_X8_fill_b2 f0 k0 v s.1 s.2) fu (nI j, M) = some (fillM M k0 v j N)
  | 0, j, fu + 1, M, hj, _ => by
    have hj : j = N := by omega
    subst hj
    have h1 : f_X8_fill_b2 f0 k0 v (nI j) M = some (Sum.inr M) := by
      unfold f_X8_fill_b2
      rw [hN, if_pos (nI_le (Nat.le_refl _) hb)]
    rw [lp_inr (body := fun s : Int32 × Mem => f_X8_fill_b2 f0 k0 v s.1 s.2) (s := (nI j, M)) h1]
    unfold fillM
    congr 1
    obtain ⟨m1, m2⟩ := M
    congr 1
    funext t k i
    rw [if_neg (by omega)]
  | d + 1, j, fu + 1, M, hj, hf => by
    have hlt : j < N := by omega
    have h1 : f_X8_fill_b2 f0 k0 v (nI j) M = some (Sum.inl (nI (j + 1), mI M 20 k0 j v)) := by
      unfold f_X8_fill_b2
      rw [hN, if_neg (nI_ge hlt hb), if_pos (nI_in hlt hb), nI_1, nI_clamp (by omega)]
    rw [lp_inl (body := fun s : Int32 × Mem => f_X8_fill_b2 f0 k0 v s.1 s.2) (s := (nI j, M)) h1, fill_run f0 k0 v N hN hb d (j + 1) fu (mI M 20 k0 j v) (by omega) (by omega)]
    unfold fillM mI
    congr 1
    obtain ⟨m1, m2⟩ := M
    congr 1
    funext t k i
    show (if t = 20 ∧ k = k0 ∧ j + 1 ≤ i ∧ i < N then v else if t = 20 ∧ k = k0 ∧ i = j then v else m1 t k i) = if t = 20 ∧ k = k0 ∧ j ≤ i ∧ i < N then v else m1 t k i
    by_cases h2 : t = 20 ∧ k = k0 ∧ j ≤ i ∧ i < N
    · rw [if_pos h2]
      by_cases h3 : t = 20 ∧ k = k0 ∧ j + 1 ≤ i ∧ i < N
      · rw [if_pos h3]
      · rw [if_neg h3, if_pos (by omega)]
    · rw [if_neg h2, if_neg (by omega), if_neg (by omega)]
theorem fill_all (fu k0 : Nat) (v : Int32) (M : Mem) {N : Nat} (hN : alen 20 k0 = N) (hb : N < 2 ^ 31) (hf : N < fu) : f_X8_fill fu k0 v M = some (fillM M k0 v 0 N) := by
  unfold f_X8_fill f_X8_fill_h2
  rw [← nI_0, fill_run fu k0 v N hN hb N 0 fu M (by omega) hf]
  rfl
theorem fill_MF : f_X8_fill 400 22 (-1 : Int32) MZ = some MF := by
  rw [fill_all 400 22 (-1) MZ (N := 300) rfl (by decide) (by decide)]
  unfold fillM MZ MF
  congr 2
  funext t k i
  show (if t = 20 ∧ k = 22 ∧ 0 ≤ i ∧ i < 300 then (-1 : Int32) else if t = 3 then (if i = 0 then grw k else if i = 1 then gcl k else 0) else 0) = if t = 3 then (if i = 0 then grw k else if i = 1 then gcl k else 0) else if t = 20 ∧ k = 22 then (if i < 300 then -1 else 0) else 0
  by_cases h3 : t = 3
  · rw [if_neg (by omega), if_pos h3, if_pos h3]
  · rw [if_neg h3, if_neg h3]
    by_cases h4 : t = 20 ∧ k = 22
    · rw [if_pos h4]
      by_cases h5 : i < 300
      · rw [if_pos (by omega), if_pos h5]
      · rw [if_neg (by omega), if_neg h5]
    · rw [if_neg (by omega), if_neg h4]
def Mb0 : Mem := mI (mI MF 2 0 0 2) 2 0 1 0
def Mc0 : Mem := fillM Mb0 12 2 0 8
theorem clear_Mb : f_X2_clear 400 0 (2 : Int32) MF = some Mb0 := rfl
theorem clear_Mc : f_X1_clear 400 0 Mb0 = some Mc0 := by
  unfold f_X1_clear
  rw [show (2 * 0 + 12) = 12 from rfl, fill_all 400 12 2 Mb0 (N := 8) rfl (by decide) (by decide)]
  rfl
set_option maxRecDepth 100000 in
theorem changed_some : (f_X9_graphChanged 400 Mc0).isSome = true := by decide +kernel
set_option maxRecDepth 100000 in
theorem fresh_some : (f_X10_fresh 400 (2 : Int32) MM).isSome = true := by decide +kernel
end START
/-! The law's way to its second object, from a start with room enough. -/
section LAWBIG
variable {D : va_G} {cI cL : ClassId} {A : Nat → Prop} {own : String} {cc : ByteArray} {nL : Nat} {rm : Room} {X : PX} {Q : State → Prop} {k z pc : Nat} {ls : List (Nat × Value)} {st st2 : List Value} {ws : va_W}
theorem bw_one {w : Cond} (h : (decide (w ∈ lw_tbl) && goodWord w) = true) : w ∈ BW := bw_all (ws := [w]) (by rw [List.all_cons, h]; rfl) w List.mem_cons_self
theorem inst_all {t : Nat} (h : t < 11) : Cond.instantiable (cN t) (cn t) ∈ BW := c11 (P := fun t => Cond.instantiable (cN t) (cn t) ∈ BW) h (bw_one (by decide +kernel)) (bw_one (by decide +kernel)) (bw_one (by decide +kernel)) (bw_one (by decide +kernel)) (bw_one (by decide +kernel)) (bw_one (by decide +kernel)) (bw_one (by decide +kernel)) (bw_one (by decide +kernel)) (bw_one (by decide +kernel)) (bw_one (by decide +kernel)) (bw_one (by decide +kernel))
theorem arr_int {args : Array Value} {s : State} (h : (Cond.arrayClass .int).before args s = true) : ∃ cA : ClassId, ArrOfT s cA .int ∧ va_RA s cA .int := by
  obtain ⟨c, k, comp, h1, h2, h3⟩ := Cond.arrayClass_spec h
  exact ⟨c, fun N z => ⟨(fun k h => by cases h), k, h2, comp, h3⟩, h1⟩
theorem arr_long {args : Array Value} {s : State} (h : (Cond.arrayClass .long).before args s = true) : ∃ cA : ClassId, ArrOfT s cA .long ∧ va_RA s cA .long := by
  obtain ⟨c, k, comp, h1, h2, h3⟩ := Cond.arrayClass_spec h
  exact ⟨c, fun N z => ⟨(fun k h => by cases h), k, h2, comp, h3⟩, h1⟩
theorem strs_in : ∀ q ∈ strs, Cond.stringRef q.1 q.2.1 q.2.2 ∈ lw_tbl ∧ Cond.exactly (.string q.1 q.2.1) "java/lang/String" ∈ flatC (Cond.and given_1 narrow_1) := by decide +kernel
theorem xw_in : ∀ w ∈ XW, w ∈ lw_tbl := by decide +kernel
theorem nc_in : ∀ q ∈ NC, Cond.not (.castable q.1 q.2) ∈ flatC (Cond.and given_1 narrow_1) := by decide +kernel
theorem sf_start {args : Array Value} {s : State} (hts : ∀ w ∈ lw_tbl, w.before args s = true) (hgv : (Cond.and given_1 narrow_1).before args s = true) : ∃ (D : va_G) (cI cL : ClassId), SF (G0 D cI cL (fun q => s.heap.size ≤ q)) s s.heap := by
  have hf := flat_of_before _ hgv
  have hk : ∀ t, t < 11 → ∃ (cC : ClassId) (iS : Nat → Nat), u_Kn s (cN t) (cT t) (cn t) cC iS := fun t ht => u_known (n := cn t) hts (fun w hw => bw_in (cl_ws ht w hw)) (hts _ (bw_in (inst_all ht)))
  have hch : ∀ t, ∃ cC : ClassId, t < 11 → ∃ iS : Nat → Nat, u_Kn s (cN t) (cT t) (cn t) cC iS := fun t => by
    by_cases h : t < 11
    · obtain ⟨cC, iS, h2⟩ := hk t h
      exact ⟨cC, fun _ => ⟨iS, h2⟩⟩
    · exact ⟨0, fun h3 => absurd h3 h⟩
  have hdC : ∃ dC : Nat → ClassId, ∀ t, t < 11 → ∃ iS : Nat → Nat, u_Kn s (cN t) (cT t) (cn t) (dC t) iS := ⟨fun t => (hch t).choose, fun t => (hch t).choose_spec⟩
  obtain ⟨dC, hdC⟩ := hdC
  have hci : ∀ t, ∃ iS : Nat → Nat, t < 11 → u_Kn s (cN t) (cT t) (cn t) (dC t) iS := fun t => by
    by_cases h : t < 11
    · obtain ⟨iS, h2⟩ := hdC t h
      exact ⟨iS, fun _ => h2⟩
    · exact ⟨fun _ => 0, fun h3 => absurd h3 h⟩
  have hdI : ∃ dI : Nat → Nat → Nat, ∀ t, t < 11 → u_Kn s (cN t) (cT t) (cn t) (dC t) (dI t) := ⟨fun t => (hci t).choose, fun t => (hci t).choose_spec⟩
  obtain ⟨dI, hdI⟩ := hdI
  obtain ⟨cI, hI⟩ := arr_int (hts (.arrayClass .int) (by decide +kernel))
  obtain ⟨cL, hL⟩ := arr_long (hts (.arrayClass .long) (by decide +kernel))
  have hA : ∀ a : Nat, a < s.heap.size → ¬ (fun q => s.heap.size ≤ q) a := fun a h h2 => Nat.not_le.mpr h h2
  refine ⟨(dC, dI), cI, cL, ⟨fun c q hq => ?_, fun j q hq => ?_⟩, vx_Zqof (args := args) (hts _ (by decide +kernel)) (hts _ (by decide +kernel)) (hf _ (by decide +kernel)) hA, vx_Zqof (args := args) (hts _ (by decide +kernel)) (hts _ (by decide +kernel)) (hf _ (by decide +kernel)) hA, fun q h => h, fun q hq => ?_, ⟨fun w hw => va_Nw.of (XW.tabs w hw) (hts w (xw_in w hw)), fun q hq => va_Nc.of (hf _ (nc_in q hq))⟩, fun L xs h => nomatch h⟩
  · have hc : c < 11 := (List.getElem?_eq_some_iff.mp hq).1
    have h2 := cl_at hc
    rw [h2] at hq
    cases hq
    exact hdI c hc
  · match j, hq with
    | 0, hq => cases hq; exact hI
    | 1, hq => cases hq; exact hL
    | j + 2, hq => simp at hq
  · obtain ⟨h1, h2⟩ := strs_in q hq
    obtain ⟨a, _, _, _, h3, -⟩ := Cond.exactly_spec (hf _ h2)
    exact ⟨a, vk_R.of (hts _ h1) h3⟩
/-! ### rows of the law's own frame -/
def LK (D : va_G) (cI cL : ClassId) (A : Nat → Prop) (own : String) (cc : ByteArray) (nL : Nat) (rm : Room) (X : PX) : Prop :=
  X.1.tables.exec = Jvm.exec ∧ X.2.2.2.2.2.2.2.2.2.1.code = cc ∧ X.2.2.2.2.2.2.2.2.2.1.maxLocals = nL ∧ (xs_ X).vm.findClass own = some X.2.2.2.2.2.1.cls ∧ (∀ w ∈ BW, w.before X.2.2.2.2.2.2.1 (xs_ X) = true) ∧ X.2.2.2.1 = rm ∧ SF (G0 D cI cL A) (xs_ X) (xs_ X).heap
theorem l_new (K : LK D cI cL A own cc nL rm X) {t idx : Nat} {fs : List Value} (ht : t < 11) (h1 : Cond.classLink own idx (cN t) ∈ BW) (h2 : Cond.instantiable (cN t) (cn t) ∈ BW) (h3 : Cond.initialized (cN t) ∈ BW) (hfs : ∀ j, j < cn t → defaultValue (cty t j) = vp_V fs j) (hc : k + 1 ≤ rm.cells) (hz : z + cn t ≤ rm.slots) (hd : decode cc pc = .ok (.new idx, 3)) (kk : ∀ q, NW D A X nL Q (k + 1) (z + cn t) (pc + 3) ls (.ref q :: st) (ws ++ [(q, .inr (t, fs))])) : NW D A X nL Q k z pc ls st ws := fun H locs la hP hD hS h =>
  va_new K.1 K.2.1 K.2.2.2.2.1 (cl_ws ht) (cty t) (cl_ty ht) K.2.2.2.1 (K.2.2.2.2.1 _ h1) (K.2.2.2.2.1 _ h2) (K.2.2.2.2.1 _ h3) K.2.2.2.2.2.2.1 hP hD hS K.2.2.2.2.2.2.2.2.2.1 (cl_at ht) hfs (by rw [K.2.2.2.2.2.1]; exact hc) (by rw [K.2.2.2.2.2.1]; exact hz) hd (fun q H1 hP1 hD1 hS1 => kk q H1 locs la hP1 hD1 hS1 h)
theorem l_dup (K : LK D cI cL A own cc nL rm X) {x : Nat} (hd : decode cc pc = .ok (.dup, 1)) (kk : NW D A X nL Q k z (pc + 1) ls (.ref x :: .ref x :: st) ws) : NW D A X nL Q k z pc ls (.ref x :: st) ws := fun H locs la hP hD hS h => lv_dup K.1 K.2.1 hd rfl (kk H locs la hP hD hS h)
theorem l_astore (K : LK D cI cL A own cc nL rm X) {ls' : List (Nat × Value)} {n : Fin 4} {i x : Nat} (hd : decode cc pc = .ok (.astore_n n, 1)) (hi : (n : Nat) = i) (hn : i < nL) (hl : (i, Value.ref x) :: ls.filter (fun q => !(q.1 == i) && !(q.1 + 1 == i && q.2.category == 2)) = ls') (kk : NW D A X nL Q k z (pc + 1) ls' st ws) : NW D A X nL Q k z pc ls (.ref x :: st) ws := fun H locs la hP hD hS h => lv_astore_n K.1 K.2.1 hd hi h hn hl (fun la2 h2 => kk H locs la2 hP hD hS h2)
theorem l_call (K : LK D cI cL A own cc nL rm X) {idx q d mc ms zl n nu : Nat} {as : List Value} {e0 : va_E} {w1 : List Nat → va_W} {y : MethodName} {zc : ByteArray} (lk : lkI own idx y zc zl n false) (hct : CTI X.2.1 D cI cL y zc zl d mc ms q as e0 w1 nu) (hn : as.length = n) (hW : (st.map fun v => v.category).sum ≤ 8) (hroom : d + 1 ≤ rm.frames ∧ 8 + (zl + 11) + 36 * d ≤ rm.locals) (hmc : k + mc ≤ rm.cells ∧ z + ms ≤ rm.slots) (hst : as.reverse ++ .ref q :: st = st2)
    (hd : decode cc pc = .ok (.invokespecial idx, 3)) (kk : ∀ u : List Nat, u.length = nu → NW D A X nL Q (k + mc) (z + ms) (pc + 3) ls st (ws ++ w1 u)) : NW D A X nL Q k z pc ls st2 (ws ++ [(q, e0)]) := by
  subst hst
  intro H locs la hP hD hS h
  obtain ⟨k1, k2, k3, k4, k5, k6⟩ := lk
  have hR : X.2.2.2.1 = rm := K.2.2.2.2.2.1
  have hkA : ∀ q, (xs_ X).heap.size ≤ q → A q := K.2.2.2.2.2.2.2.2.2.1
  have hSF := K.2.2.2.2.2.2.kept ⟨hS.1, hS.2.1⟩
  have hlast : (ws ++ [(q, e0)])[ws.length]? = some (q, e0) := by rw [List.getElem?_append_right (Nat.le_refl _), Nat.sub_self]; rfl
  have hAq : A q := hD.2 _ _ hlast
  have hfree : ∀ x, va_A [(q, e0)] H.size x → A x := by
    intro x hx
    rcases hx with ⟨i, e, hx⟩ | hx
    · have hi : i < 1 := (List.getElem?_eq_some_iff.mp hx).1
      rw [show i = 0 by omega] at hx
      have e9 : q = x := congrArg Prod.fst (Option.some.inj hx)
      rw [← e9]; exact hAq
    · exact hkA x (Nat.le_trans hS.1 hx)
  have one : ∀ {P : Nat × va_E → Prop} (j : Nat) (x : Nat × va_E), [(q, e0)][j]? = some x → P (q, e0) → P x := by
    intro P j x hx hp
    have hi : j < 1 := (List.getElem?_eq_some_iff.mp hx).1
    rw [show j = 0 by omega] at hx
    cases hx
    exact hp
  have hp : PreS (xs_ X) H (va_Pc (.ref q :: as) (fun U => U.heap.size = H.size ∧ va_P D vwCl [(q, e0)] U.heap ∧ va_D (fun _ => True) [(q, e0)] ∧ SF (G0 D cI cL A) U U.heap)) (.ref q :: as) := by
    refine ⟨fun a U g mk hh => ⟨hh.1, hh.2.1, hh.2.2.1, hh.2.2.2.1, SF.vm (U := U) rfl hh.2.2.2.2⟩, fun U hU hWU => ⟨rfl, by rw [hU], ?_, ⟨fun i j x y hx hy _ => ?_, fun _ _ _ => trivial⟩, by rw [hU]; exact hSF.moved hWU⟩⟩
    · rw [hU]
      exact fun j x hx => one (P := fun x => va_at D vwCl x H) j x hx (hP _ _ hlast)
    · have h1 : i < 1 := (List.getElem?_eq_some_iff.mp hx).1
      have h2 : j < 1 := (List.getElem?_eq_some_iff.mp hy).1
      omega
  have hrun : va_Run X.1 X.2.1 X.2.2.1 X.2.2.2.1 (xs_ X) X.2.2.2.2.2.1 X.2.2.2.2.2.2.1 X.2.2.2.2.2.2.2.1 X.2.2.2.2.2.2.2.2.1 X.2.2.2.2.2.2.2.2.2.1 H locs k z mc ms (F0 X.2.2.2.2.2.1 pc la (as.reverse ++ .ref q :: st)) st (fun st9 oc t => ∃ u : List Nat, u.length = nu ∧ oc = .returned none ∧ va_P D vwCl (w1 u) t.heap ∧ va_D (va_A [(q, e0)] H.size) (w1 u) ∧ va_F (va_A [(q, e0)] H.size) st9 t) (va_A [(q, e0)] H.size) :=
    va_runI (As := as) (rest := st) (b := q) ⟨K.1, K.2.1, K.2.2.1, K.2.2.2.1, K.2.2.2.2.1⟩ (hct A H.size hAq) ⟨callB_of n K.2.2.2.2.1 (gi_code k3) rfl rfl rfl (K.2.2.2.2.1 _ k2) (K.2.2.2.2.1 _ k1) k6 (by rw [hR]; exact hroom), k5, K.2.2.2.2.1 _ k4⟩ hp rfl hn h.1 rfl (lv_room hW) hd (by rw [hR]; exact hmc)
  intro T hT XX
  obtain ⟨v, st₀, t, T', L, h0, X', hL, e1, e2, ⟨u, hu, hv, hP1, hD1, hz, hkq⟩, hst⟩ := hrun T hT XX
  cases hv
  rw [h0] at hz hkq
  rw [← e1] at hP1 hz hkq
  obtain ⟨hP2, hD2⟩ := n_join hP hD hkq hfree hP1 hD1
  obtain ⟨t2, a1, b1⟩ := kk u hu T'.heap (locs ++ L) la hP2 hD2 ⟨Nat.le_trans hS.1 hz, fun x h1 h2 => by rw [hkq x (Nat.lt_of_lt_of_le h1 hS.1) (fun q9 => h2 (hfree x q9))]; exact hS.2.1 x h1 h2, fun x hx => by
    rcases List.mem_append.mp hx with h | h
    · exact hS.2.2 x h
    · exact hfree _ (hL x h)⟩ h T' rfl X'
  exact ⟨t2, hst t2 a1, b1⟩
/-- the elements of the arrays that a world lists lie in the book -/
theorem l_done (hbig : 16942 ≤ (ws.map (fun q => esz q.2)).sum) : NW D (fun q => (xs_ X).heap.size ≤ q) X nL (fun t => (xs_ X).slotsUsed + 16942 ≤ t.slotsUsed) k z pc ls st ws := by
  intro H locs la hP hD hS h T hT XX
  subst hT
  refine ⟨_, Steps.refl _, ?_⟩
  have h4 : T.slotsUsed = (xs_ X).slotsUsed + ((T.heap.toList.drop (xs_ X).heap.size).map (·.slots.size)).sum := XX.same.2.2.2.1
  have h2 : (ws.map (fun q => esz q.2)).sum ≤ ((T.heap.toList.drop (xs_ X).heap.size).map (·.slots.size)).sum := by
    refine sizes_sum (xs_ X).heap.size _ _ (fun j q hq => ?_) hD.1
    obtain ⟨c, hc, hz⟩ := cell_esz (hP j q hq)
    have hb := hD.2 j q hq
    have hb : (xs_ X).heap.size ≤ q.1 := hb
    refine ⟨q.1 - (xs_ X).heap.size, c.slots.size, by omega, ?_, hz⟩
    rw [List.getElem?_map, List.getElem?_drop, show (xs_ X).heap.size + (q.1 - (xs_ X).heap.size) = q.1 by omega, Array.getElem?_toList, hc]
    rfl
  show (xs_ X).slotsUsed + 16942 ≤ T.slotsUsed
  omega
theorem sum_wl (G : GE) (M : Mem) : ((wl G M).map (fun q => esz q.2)).sum = ((gids G).map (fun q => if q.1 < 20 then 0 else alen q.1 q.2)).sum := by
  unfold wl
  rw [List.map_map]
  congr 1
  exact List.map_congr_left (fun q _ => esz_enc G M q.1 q.2)
theorem sum_9 : (ids9.map (fun q => if q.1 < 20 then 0 else alen q.1 q.2)).sum = 15320 := by decide +kernel
theorem sum_m : (idsm.map (fun q => if q.1 < 20 then 0 else alen q.1 q.2)).sum = 8446 := by decide +kernel
/-- a room of one's own, large enough for both objects -/
def bigR : Room := { frames := 12, cells := 1145, slots := 30000, locals := 432 }
theorem lL_9 : Cond.classLink RL 8 (cN 9) ∈ BW := bw_one (by decide +kernel)
theorem lL_10 : Cond.classLink RL 90 (cN 10) ∈ BW := bw_one (by decide +kernel)
theorem lJ_9 : Cond.initialized (cN 9) ∈ BW := bw_one (by decide +kernel)
theorem lJ_10 : Cond.initialized (cN 10) ∈ BW := bw_one (by decide +kernel)
theorem lI_9 : lkI RL 89 yX9_init cX9_init 1 0 false := ⟨(bw_one (by decide +kernel) : Cond.methodLink RL 89 yX9_init ∈ BW), bw_one (by decide +kernel), bw_one (by decide +kernel), bw_one (by decide +kernel), rfl, by decide +kernel⟩
theorem lI_10 : lkI RL 92 yX10_init cX10_init 1 0 false := ⟨(bw_one (by decide +kernel) : Cond.methodLink RL 92 yX10_init ∈ BW), bw_one (by decide +kernel), bw_one (by decide +kernel), bw_one (by decide +kernel), rfl, by decide +kernel⟩
set_option maxHeartbeats 4000000 in
theorem law_big {p : Program} {e : Env} {s : State} {m : MethodId} {below : List Frame} {meth : Method} {c : Code} (l : Launch) (hflags : l.flags = flags0) {b : Nat} (hx : p.tables.exec = Jvm.exec) (hb : c.code = code) (hml : c.maxLocals = 9) (hown : s.vm.findClass RL = some m.cls) (hts : ∀ w ∈ lw_tbl, w.before #[Value.ref b] s = true) (hgv : (Cond.and given_1 narrow_1).before #[Value.ref b] s = true) : W p l e bigR s m #[Value.ref b] below meth c s.heap [] 0 0 (fun t => s.slotsUsed + 16942 ≤ t.slotsUsed) (entryFrame m ([Value.ref b] : List Value).toArray 9) := by
  have hl : l.stackTraces = false := by unfold Launch.stackTraces; rw [hflags]; decide
  obtain ⟨D, cI, cL, hSF⟩ := sf_start hts hgv
  obtain ⟨Md, hMd⟩ := Option.isSome_iff_exists.mp changed_some
  obtain ⟨Me, hMe⟩ := Option.isSome_iff_exists.mp fresh_some
  have K : LK D cI cL (fun q => s.heap.size ≤ q) RL cL_law 9 bigR (p, l, e, bigR, s, m, #[Value.ref b], below, meth, c, 0, 0) := ⟨hx, hb, hml, hown, fun w hw => hts w (bw_in hw), rfl, hSF⟩
  have hl9 := lv_entry ([.ref b]) (n := 9) (Nat.le_of_ble_eq_true rfl)
  rw [lg_entry_eq]
  generalize (lg_sl ([.ref b]) ++ List.replicate (9 - (lg_sl ([.ref b])).length) Slot.unset).toArray = la at hl9 ⊢
  have hl9 : lv_has la 9 [(0, .ref b)] := hl9
  have go : NW D (fun q => s.heap.size ≤ q) (p, l, e, bigR, s, m, #[Value.ref b], below, meth, c, 0, 0) 9 (fun t => s.slotsUsed + 16942 ≤ t.slotsUsed) 0 0 0 [(0, .ref b)] [] [] := by
    refine l_new (t := 9) (fs := [.null, .null, .null, .null, .null, .null, .null, .null]) K (by decide) lL_9 (inst_all (by decide)) lJ_9 (by decide) (Nat.le_of_ble_eq_true rfl) (Nat.le_of_ble_eq_true rfl) dL_law_0 (fun q0 => ?_)
    refine l_dup K dL_law_3 ?_
    refine l_call (as := []) K lI_9 (c_X9_init l hl q0 400 fill_MF Mb0 Mc0 Md clear_Mb clear_Mc hMd) rfl (Nat.le_of_ble_eq_true rfl) ⟨Nat.le_of_ble_eq_true rfl, Nat.le_of_ble_eq_true rfl⟩ ⟨Nat.le_of_ble_eq_true rfl, Nat.le_of_ble_eq_true rfl⟩ rfl dL_law_4 (fun u0 hu0 => ?_)
    refine l_astore (ls' := [(1, .ref q0), (0, .ref b)]) K dL_law_7 rfl (by decide) rfl ?_
    refine l_new (t := 10) (fs := [.int 0, .int 0, .int 0, .null, .null, .null, .null, .int 0, .null, .null, .null, .int 0, .null, .int 0, .null, .null, .null, .null, .null, .int 0, .int 0, .int 0, .int 0, .int 0, .int 0, .null, .null, .null, .int 0, .null, .null, .long 0]) K (by decide) lL_10 (inst_all (by decide)) lJ_10 (by decide) (Nat.le_of_ble_eq_true rfl) (Nat.le_of_ble_eq_true rfl) dL_law_8 (fun q8 => ?_)
    refine l_dup K dL_law_11 ?_
    refine l_call (as := []) K lI_10 (c_X10_init l hl q8 400 Me hMe) rfl (Nat.le_of_ble_eq_true rfl) ⟨Nat.le_of_ble_eq_true rfl, Nat.le_of_ble_eq_true rfl⟩ ⟨Nat.le_of_ble_eq_true rfl, Nat.le_of_ble_eq_true rfl⟩ rfl dL_law_12 (fun u8 hu8 => ?_)
    refine l_done (X := (p, l, e, bigR, s, m, #[Value.ref b], below, meth, c, 0, 0)) ?_
    have h9 : ((wX9 D cI cL Md q0 u0).map (fun q => esz q.2)).sum = 15320 := (sum_wl _ _).trans sum_9
    have hm : ((wX10 D cI cL Me q8 u8).map (fun q => esz q.2)).sum = 8446 := (sum_wl _ _).trans sum_m
    rw [List.map_append, List.sum_append, List.map_append, List.sum_append, h9, hm]
    exact Nat.le_of_ble_eq_true rfl
  exact go s.heap [] la (fun k q h => by simp at h) ⟨fun i j p q h => by simp at h, fun k q h => by simp at h⟩ va_S.rf hl9
end LAWBIG

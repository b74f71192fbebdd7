/-! The rows that read and write the flat memory; calls, ends, throws; a method's contract out of its walk. -/
section HEAP
variable {tb : Bool} {G : GE} {own : String} {cc : ByteArray} {nL : Nat} {ret : Option FieldType} {rm : Room} {X : PX} {Q : State → Prop} {pc : Nat} {ls : List (Nat × AV)} {st : List AV} {M : Mem}
theorem wl_at {t k : Nat} (h : (t, k) ∈ gids G) : ∃ q0 : Nat, (gids G)[q0]? = some (t, k) ∧ (wl G M)[q0]? = some (gad G t k, enc G M t k) := by
  obtain ⟨i, hi⟩ := List.getElem?_of_mem h
  exact ⟨i, hi, by unfold wl; rw [List.getElem?_map, hi]; rfl⟩
theorem wl_set {A : Nat → Prop} {M' : Mem} {t k q0 : Nat} {e : va_E} (hD : va_D A (wl G M)) (h0 : (gids G)[q0]? = some (t, k)) (he : enc G M' t k = e) (ho : ∀ a b, ¬ (a = t ∧ b = k) → enc G M' a b = enc G M a b) : (wl G M).set q0 (gad G t k, e) = wl G M' := by
  have hl := (List.getElem?_eq_some_iff.mp h0).1
  have hw : ∀ (N : Mem) (i : Nat) (q : Nat × Nat), (gids G)[i]? = some q → (wl G N)[i]? = some (gad G q.1 q.2, enc G N q.1 q.2) := fun N i q hq => by unfold wl; rw [List.getElem?_map, hq]; rfl
  refine List.ext_getElem? (fun i => ?_)
  by_cases hi : i = q0
  · subst hi
    rw [List.getElem?_set_self (by unfold wl; rw [List.length_map]; exact hl), hw M' i _ h0, he]
  · rw [List.getElem?_set_ne (Ne.symm hi)]
    cases hg : (gids G)[i]? with
    | none => unfold wl; rw [List.getElem?_map, List.getElem?_map, hg]; rfl
    | some q =>
      rw [hw M i q hg, hw M' i q hg]
      by_cases hq : q.1 = t ∧ q.2 = k
      · obtain ⟨a, b⟩ := q
        obtain ⟨rfl, rfl⟩ := hq
        exact absurd (hD.1 i q0 _ _ (hw M i _ hg) (hw M q0 _ h0) rfl) hi
      · rw [ho q.1 q.2 hq]
theorem mI_at (t k i : Nat) (v : Int32) : (mI M t k i v).1 t k = upd (M.1 t k) i v := by
  funext c
  simp [mI, upd]
theorem mI_ne {t k i a b : Nat} {v : Int32} (h : ¬ (a = t ∧ b = k)) : (mI M t k i v).1 a b = M.1 a b := by
  funext c
  show (if a = t ∧ b = k ∧ c = i then v else M.1 a b c) = M.1 a b c
  rw [if_neg (fun z => h ⟨z.1, z.2.1⟩)]
theorem mL_at (t k i : Nat) (v : Int64) : (mL M t k i v).2 t k = vp_updL (M.2 t k) i v := by
  funext c
  simp [mL, vp_updL]
theorem mL_ne {t k i a b : Nat} {v : Int64} (h : ¬ (a = t ∧ b = k)) : (mL M t k i v).2 a b = M.2 a b := by
  funext c
  show (if a = t ∧ b = k ∧ c = i then v else M.2 a b c) = M.2 a b c
  rw [if_neg (fun z => h ⟨z.1, z.2.1⟩)]
theorem enc_mI {t k i : Nat} {v : Int32} : ∀ a b, ¬ (a = t ∧ b = k) → enc G (mI M t k i v) a b = enc G M a b := fun a b h => by unfold enc; rw [mI_ne h]; rfl
theorem enc_mL {t k i : Nat} {v : Int64} : ∀ a b, ¬ (a = t ∧ b = k) → enc G (mL M t k i v) a b = enc G M a b := fun a b h => by unfold enc; rw [mL_ne h]; rfl
variable {ad : Nat → Nat → Nat} {f : Nat → Int32} {g : Nat → Int64} {k : Nat} {cls : String}
theorem fvs_len : ∀ (l : List FK) (j : Nat), (fvs ad f g k j l).length = l.length
  | [], _ => rfl
  | .inl 0 :: r, j => by show (fvs ad f g k (j + 1) r).length + 1 = _; rw [fvs_len r]; rfl
  | .inl (_ + 1) :: r, j => by show (fvs ad f g k (j + 1) r).length + 1 = _; rw [fvs_len r]; rfl
  | .inr (_, _, _) :: r, j => by show (fvs ad f g k (j + 1) r).length + 1 = _; rw [fvs_len r]; rfl
def fv1 (ad : Nat → Nat → Nat) (f : Nat → Int32) (g : Nat → Int64) (k j : Nat) (x : FK) : Value := match x with
  | .inl 0 => .int (f j)
  | .inl (_ + 1) => .long (g j)
  | .inr (t, b, s) => .ref (ad t (rk b s k))
theorem fvs_cons (x : FK) (r : List FK) (j : Nat) : fvs ad f g k j (x :: r) = fv1 ad f g k j x :: fvs ad f g k (j + 1) r := by
  rcases x with (_ | n) | ⟨a, b, c⟩ <;> rfl
theorem fvs_at : ∀ (l : List FK) (j i : Nat) (x : FK), l[i]? = some x → (fvs ad f g k j l)[i]? = some (fv1 ad f g k (j + i) x)
  | [], _, _, _, h => by simp at h
  | y :: r, j, 0, x, h => by
    rw [List.getElem?_cons_zero] at h
    cases h
    rw [fvs_cons, List.getElem?_cons_zero]
    rfl
  | y :: r, j, i + 1, x, h => by
    rw [List.getElem?_cons_succ] at h
    rw [fvs_cons, List.getElem?_cons_succ, fvs_at r (j + 1) i x h, show j + 1 + i = j + (i + 1) by omega]
theorem fvs_up {i' : Nat} {v : Int32} : ∀ (l : List FK) (j : Nat), i' < j → fvs ad (upd f i' v) g k j l = fvs ad f g k j l
  | [], _, _ => rfl
  | y :: r, j, h => by
    rw [fvs_cons, fvs_cons, fvs_up r (j + 1) (by omega)]
    rcases y with (_ | n) | ⟨a, b, c⟩ <;> first | rfl | (show Value.int (upd f i' v j) :: _ = Value.int (f j) :: _; unfold upd; rw [if_neg (by omega)])
theorem fvs_upL {i' : Nat} {v : Int64} : ∀ (l : List FK) (j : Nat), i' < j → fvs ad f (vp_updL g i' v) k j l = fvs ad f g k j l
  | [], _, _ => rfl
  | y :: r, j, h => by
    rw [fvs_cons, fvs_cons, fvs_upL r (j + 1) (by omega)]
    rcases y with (_ | n) | ⟨a, b, c⟩ <;> first | rfl | (show Value.long (vp_updL g i' v j) :: _ = Value.long (g j) :: _; unfold vp_updL; rw [if_neg (by omega)])
theorem fvs_set {v : Int32} : ∀ (l : List FK) (j i : Nat), l[i]? = some (.inl 0) → (fvs ad f g k j l).set i (.int v) = fvs ad (upd f (j + i) v) g k j l
  | [], _, _, h => by simp at h
  | y :: r, j, 0, h => by
    rw [List.getElem?_cons_zero] at h
    cases h
    rw [fvs_cons, fvs_cons, fvs_up r (j + 1) (by omega)]
    show Value.int v :: _ = Value.int (upd f (j + 0) v j) :: _
    unfold upd
    rw [if_pos (by omega)]
  | y :: r, j, i + 1, h => by
    rw [List.getElem?_cons_succ] at h
    rw [fvs_cons, fvs_cons, List.set_cons_succ, fvs_set r (j + 1) i h, show j + 1 + i = j + (i + 1) by omega]
    rcases y with (_ | n) | ⟨a, b, c⟩ <;> first | rfl | (show Value.int (f j) :: _ = Value.int (upd f (j + (i + 1)) v j) :: _; unfold upd; rw [if_neg (by omega)])
theorem fvs_setL {v : Int64} : ∀ (l : List FK) (j i : Nat), l[i]? = some (.inl 1) → (fvs ad f g k j l).set i (.long v) = fvs ad f (vp_updL g (j + i) v) k j l
  | [], _, _, h => by simp at h
  | y :: r, j, 0, h => by
    rw [List.getElem?_cons_zero] at h
    cases h
    rw [fvs_cons, fvs_cons, fvs_upL r (j + 1) (by omega)]
    show Value.long v :: _ = Value.long (vp_updL g (j + 0) v j) :: _
    unfold vp_updL
    rw [if_pos (by omega)]
  | y :: r, j, i + 1, h => by
    rw [List.getElem?_cons_succ] at h
    rw [fvs_cons, fvs_cons, List.set_cons_succ, fvs_setL r (j + 1) i h, show j + 1 + i = j + (i + 1) by omega]
    rcases y with (_ | n) | ⟨a, b, c⟩ <;> first | rfl | (show Value.long (g j) :: _ = Value.long (vp_updL g (j + (i + 1)) v j) :: _; unfold vp_updL; rw [if_neg (by omega)])
/-! the classes by their numbers -/
def cN (t : Nat) : String := (vwCl.getD t ("", fun _ => ("", "", "", false), 0)).1
def cT (t : Nat) : u_T := (vwCl.getD t ("", fun _ => ("", "", "", false), 0)).2.1
def cn (t : Nat) : Nat := (vwCl.getD t ("", fun _ => ("", "", "", false), 0)).2.2
theorem c11 {P : Nat → Prop} {t : Nat} (h : t < 11) (p0 : P 0) (p1 : P 1) (p2 : P 2) (p3 : P 3) (p4 : P 4) (p5 : P 5) (p6 : P 6) (p7 : P 7) (p8 : P 8) (p9 : P 9) (p10 : P 10) : P t := by
  rcases (show t = 0 ∨ t = 1 ∨ t = 2 ∨ t = 3 ∨ t = 4 ∨ t = 5 ∨ t = 6 ∨ t = 7 ∨ t = 8 ∨ t = 9 ∨ t = 10 by omega) with rfl | rfl | rfl | rfl | rfl | rfl | rfl | rfl | rfl | rfl | rfl <;> assumption
theorem cl_at {t : Nat} (h : t < 11) : vwCl[t]? = some (cN t, cT t, cn t) := c11 (P := fun t => vwCl[t]? = some (cN t, cT t, cn t)) h rfl rfl rfl rfl rfl rfl rfl rfl rfl rfl rfl
theorem cl_ws {t : Nat} (h : t < 11) : ∀ w ∈ u_ws (cN t) (cT t) (cn t), w ∈ BW := c11 (P := fun t => ∀ w ∈ u_ws (cN t) (cT t) (cn t), w ∈ BW) h iX0 iX1 iX2 iX3 iX4 iX5 iX6 iX7 iX8 iX9 iX10
theorem cl_len {t : Nat} (h : t < 11) : (fk t).length = cn t := c11 (P := fun t => (fk t).length = cn t) h rfl rfl rfl rfl rfl rfl rfl rfl rfl rfl rfl
def cty (t : Nat) : Nat → FieldType := match t with
  | 0 => tyX0 | 1 => tyX1 | 2 => tyX2 | 3 => tyX3 | 4 => tyX4 | 5 => tyX5 | 6 => tyX6 | 7 => tyX7 | 8 => tyX8 | 9 => tyX9 | _ => tyX10
theorem cl_ty {t : Nat} (h : t < 11) : ∀ k, k < cn t → parseFieldDescriptor (cT t k).2.2.1 = some (cty t k) := c11 (P := fun t => ∀ k, k < cn t → parseFieldDescriptor (cT t k).2.2.1 = some (cty t k)) h tyX0_ok tyX1_ok tyX2_ok tyX3_ok tyX4_ok tyX5_ok tyX6_ok tyX7_ok tyX8_ok tyX9_ok tyX10_ok
theorem cl_nm {t : Nat} (h : t < 11) : ∀ a, a < cn t → ∀ b, b < cn t → a ≠ b → (cT t a).2.1 ≠ (cT t b).2.1 := c11 (P := fun t => ∀ a, a < cn t → ∀ b, b < cn t → a ≠ b → (cT t a).2.1 ≠ (cT t b).2.1) h nmX0 nmX1 nmX2 nmX3 nmX4 nmX5 nmX6 nmX7 nmX8 nmX9 nmX10
theorem enc_o {t k : Nat} (h : t < 11) : enc G M t k = .inr (t, fvs (gad G) (M.1 t k) (M.2 t k) k 0 (fk t)) := by unfold enc; rw [if_pos (by omega)]
theorem enc_i {t k : Nat} (h : t = 20 ∨ t = 21 ∨ t = 22) : enc G M t k = .inl (gI G, alen t k, .inl (M.1 t k)) := by
  unfold enc
  rw [if_neg (by omega), if_neg (by omega)]
theorem enc_l {t k : Nat} (h : t = 23) : enc G M t k = .inl (gL G, alen t k, .inr (.inl (M.2 t k))) := by
  unfold enc
  rw [if_neg (by omega), if_pos h]
abbrev fLk (own : String) (idx t i : Nat) : Prop := Cond.fieldLink own idx (cT t i).1 (cT t i).2.1 (cT t i).2.2.1 ∈ BW
theorem okI {t k : Nat} (h : okv G (vR t k)) (ht : t < 24) : (t, k) ∈ gids G := by
  rcases (show (t, k) ∈ gids G ∨ ((t, k) = (24, 0) ∧ ∃ z, gscr G = some z) from h) with h | ⟨h, -⟩
  · exact h
  · cases h; omega
theorem fk_lt {t i : Nat} {x : FK} (h : t < 11) (hf : (fk t)[i]? = some x) : i < cn t := by rw [← cl_len h]; exact (List.getElem?_eq_some_iff.mp hf).1
theorem g_get0 (C : CX tb G own cc nL ret rm X) {t k i idx : Nat} {x : FK} {v : AV} (ht : t < 11) (hlk : fLk own idx t i) (hf : (fk t)[i]? = some x) (hv : cv G v = fv1 (gad G) (M.1 t k) (M.2 t k) k (0 + i) x) (hok : (t, k) ∈ gids G → okv G v) (hd : decode cc pc = .ok (.getfield idx, 3)) (kk : GW G X nL Q (pc + 3) ls (v :: st) M) : GW G X nL Q pc ls (vR t k :: st) M := by
  intro o1 o2 H locs la w s h
  have hid := okI (okH o2) (by omega)
  obtain ⟨q0, h0, h1⟩ := wl_at (M := M) hid
  rw [enc_o ht] at h1
  refine va_get (ref := (cT t i).1) C.1 C.2.1 C.2.2.2.2.1 (cl_ws ht) C.2.2.2.1 C.2.2.2.2.2.2.2.2.2.2.2.1 w.1 q0 h1 (cl_at ht) i (fk_lt ht hf) (C.2.2.2.2.1 _ hlk) (fun _ h9 => h9) (v := cv G v) ?_ hd (kk o1 (okT (hok hid) (okR o2)) H locs la w s h)
  rw [hv]
  exact fvs_at _ _ _ _ hf
theorem g_geti (C : CX tb G own cc nL ret rm X) {t k i idx : Nat} (ht : t < 11) (hlk : fLk own idx t i) (hf : (fk t)[i]? = some (.inl 0)) (hd : decode cc pc = .ok (.getfield idx, 3)) (kk : GW G X nL Q (pc + 3) ls (vI (M.1 t k i) :: st) M) : GW G X nL Q pc ls (vR t k :: st) M :=
  g_get0 (v := vI (M.1 t k i)) C ht hlk hf (by rw [Nat.zero_add]; rfl) (fun _ => trivial) hd kk
theorem g_getl (C : CX tb G own cc nL ret rm X) {t k i idx : Nat} (ht : t < 11) (hlk : fLk own idx t i) (hf : (fk t)[i]? = some (.inl 1)) (hd : decode cc pc = .ok (.getfield idx, 3)) (kk : GW G X nL Q (pc + 3) ls (vL (M.2 t k i) :: st) M) : GW G X nL Q pc ls (vR t k :: st) M :=
  g_get0 (v := vL (M.2 t k i)) C ht hlk hf (by rw [Nat.zero_add]; rfl) (fun _ => trivial) hd kk
theorem g_getr (C : CX tb G own cc nL ret rm X) {t k i idx t' b s k' : Nat} (ht : t < 11) (hlk : fLk own idx t i) (hf : (fk t)[i]? = some (.inr (t', b, s))) (hk' : rk b s k = k') (hd : decode cc pc = .ok (.getfield idx, 3)) (kk : GW G X nL Q (pc + 3) ls (vR t' k' :: st) M) : GW G X nL Q pc ls (vR t k :: st) M := by
  subst hk'
  exact g_get0 (v := vR t' (rk b s k)) C ht hlk hf rfl (fun hid => Or.inl ((C.2.2.2.2.2.2.2.2.2.2.1 _ hid).2 _ _ _ _ hf)) hd kk
theorem ca (C : CX tb G own cc nL ret rm X) : SF G (xs_ X) (xs_ X).heap := C.2.2.2.2.2.2.2.2.2.2.2
theorem SF.kept {U : State} {H0 H : Heap} (h : SF G U H0) (s : H0.size ≤ H.size ∧ ∀ q : Nat, q < H0.size → ¬ gA G q → H[q]? = H0[q]?) : SF G U H :=
  ⟨h.1, vx_Zq.kept h.2.1 s.2, vx_Zq.kept h.2.2.1 s.2, fun q z => h.2.2.2.1 q (Nat.le_trans s.1 z), h.2.2.2.2.1, h.2.2.2.2.2.1, fun L xs z => by
    obtain ⟨h1, h2, h3⟩ := h.2.2.2.2.2.2 L xs z
    exact ⟨va_X.kept h1 (s.2 _ h2 h3), Nat.lt_of_lt_of_le h2 s.1, h3⟩⟩
theorem SF.moved {U V : State} {H : Heap} (hW : U.WarmedH V.vm) (h : SF G U H) : SF G V H :=
  ⟨va_K.moved hW.alike h.1, vx_Zq.moved hW.alike h.2.1, vx_Zq.moved hW.alike h.2.2.1, h.2.2.2.1, fun q z => by
    obtain ⟨a, ha⟩ := h.2.2.2.2.1 q z
    exact ⟨a, vk_R.warm hW ha⟩, ⟨XW.warm hW h.2.2.2.2.2.1.1, fun q z => va_Nc.moved hW.alike (h.2.2.2.2.2.1.2 q z)⟩, fun L xs z => by
    obtain ⟨h1, h2, h3⟩ := h.2.2.2.2.2.2 L xs z
    exact ⟨va_X.moved hW.alike h1, h2, h3⟩⟩
theorem SF.vm {U V : State} {H : Heap} (hv : V.vm = U.vm) (h : SF G U H) : SF G V H :=
  ⟨va_K.moved (by rw [hv]; exact Vm.Alike.refl _) h.1, vx_Zq.moved (by rw [hv]; exact Vm.Alike.refl _) h.2.1, vx_Zq.moved (by rw [hv]; exact Vm.Alike.refl _) h.2.2.1, h.2.2.2.1, fun q z => by
    obtain ⟨a, ha⟩ := h.2.2.2.2.1 q z
    exact ⟨a, vk_R.same hv ha⟩, ⟨fun w z => va_Nw.same (XW.tabs w z) hv.symm (h.2.2.2.2.2.1.1 w z), fun q z => va_Nc.moved (by rw [hv]; exact Vm.Alike.refl _) (h.2.2.2.2.2.1.2 q z)⟩, fun L xs z => by
    obtain ⟨h1, h2, h3⟩ := h.2.2.2.2.2.2 L xs z
    exact ⟨va_X.moved (by rw [hv]; exact Vm.Alike.refl _) h1, h2, h3⟩⟩
abbrev fLkN (own : String) (idx t i : Nat) : Prop := Cond.fieldLinkNest own idx (cT t i).1 (cT t i).2.1 (cT t i).2.2.1 "ArrowDiagrams" ∈ XW
theorem g_getrN (C : CX tb G own cc nL ret rm X) {t k i idx t' b s k' : Nat} (ht : t < 11) (hlk : fLkN own idx t i) (hf : (fk t)[i]? = some (.inr (t', b, s))) (hk' : rk b s k = k') (hd : decode cc pc = .ok (.getfield idx, 3)) (kk : GW G X nL Q (pc + 3) ls (vR t' k' :: st) M) : GW G X nL Q pc ls (vR t k :: st) M := by
  subst hk'
  intro o1 o2 H locs la w z h
  have hid := okI (okH o2) (by omega)
  obtain ⟨q0, h0, h1⟩ := wl_at (M := M) hid
  rw [enc_o ht] at h1
  refine va_getN (ref := (cT t i).1) (host := "ArrowDiagrams") C.1 C.2.1 C.2.2.2.2.1 (cl_ws ht) C.2.2.2.1 (ca C).1 w.1 q0 h1 (cl_at ht) i (fk_lt ht hf) (va_Nw.use (XW.tabs _ hlk) ((ca C).2.2.2.2.2.1.1 _ hlk)) (fun _ h9 => h9) (v := cv G (vR t' (rk b s k))) ?_ hd (kk o1 (okT (Or.inl ((C.2.2.2.2.2.2.2.2.2.2.1 _ hid).2 _ _ _ _ hf)) (okR o2)) H locs la w z h)
  exact fvs_at _ _ _ _ hf
theorem g_puti0 (C : CX tb G own cc nL ret rm X) {t k i idx : Nat} {v : Int32} (ht : t < 11) (hlk : fLk own idx t i) (hf : (fk t)[i]? = some (.inl 0)) (hfin : (cT t i).2.2.2 = false) (hn : narrow (cty t i) (.int v) = .int v) (hfit : fits (cty t i) (.int v) = true) (hd : decode cc pc = .ok (.putfield idx, 3)) (kk : GW G X nL Q (pc + 3) ls st (mI M t k i v)) : GW G X nL Q pc ls (vI v :: vR t k :: st) M := by
  intro o1 o2 H locs la w s h
  have hid := okI (okH (okR o2)) (by omega)
  obtain ⟨q0, h0, h1⟩ := wl_at (M := M) hid
  have h1' := h1
  rw [enc_o ht] at h1
  refine va_put (ref := (cT t i).1) (v := .int v) C.1 C.2.1 C.2.2.2.2.1 (cl_ws ht) (cty t) (cl_ty ht) (cl_nm ht) C.2.2.2.1 (ca C).1 w.1 w.2 s q0 h1 (cl_at ht) i (fk_lt ht hf) (C.2.2.2.2.1 _ hlk) (fun _ h9 => h9) hfin (cl_ty ht i (fk_lt ht hf)) hn hfit (by rw [fvs_len, cl_len ht]; exact fk_lt ht hf) hd (fun H1 locs1 hP hD hS => ?_)
  have e : (wl G M).set q0 (gad G t k, .inr (t, (fvs (gad G) (M.1 t k) (M.2 t k) k 0 (fk t)).set i (.int v))) = wl G (mI M t k i v) := by
    refine wl_set w.2 h0 ?_ enc_mI
    rw [enc_o ht, mI_at, fvs_set _ _ _ hf, Nat.zero_add]
    rfl
  rw [e] at hP hD
  exact kk o1 (okR (okR o2)) H1 locs1 la ⟨hP, hD⟩ hS h
theorem g_puti (C : CX tb G own cc nL ret rm X) {t k i idx : Nat} {v : Int32} (ht : t < 11) (hlk : fLk own idx t i) (hf : (fk t)[i]? = some (.inl 0)) (hty : cty t i = .int) (hfin : (cT t i).2.2.2 = false) (hd : decode cc pc = .ok (.putfield idx, 3)) (kk : GW G X nL Q (pc + 3) ls st (mI M t k i v)) : GW G X nL Q pc ls (vI v :: vR t k :: st) M :=
  g_puti0 C ht hlk hf hfin (by rw [hty]; rfl) (by rw [hty]; rfl) hd kk
theorem g_putl (C : CX tb G own cc nL ret rm X) {t k i idx : Nat} {v : Int64} (ht : t < 11) (hlk : fLk own idx t i) (hf : (fk t)[i]? = some (.inl 1)) (hty : cty t i = .long) (hfin : (cT t i).2.2.2 = false) (hd : decode cc pc = .ok (.putfield idx, 3)) (kk : GW G X nL Q (pc + 3) ls st (mL M t k i v)) : GW G X nL Q pc ls (vL v :: vR t k :: st) M := by
  intro o1 o2 H locs la w s h
  have hid := okI (okH (okR o2)) (by omega)
  obtain ⟨q0, h0, h1⟩ := wl_at (M := M) hid
  rw [enc_o ht] at h1
  refine va_put (ref := (cT t i).1) (v := .long v) C.1 C.2.1 C.2.2.2.2.1 (cl_ws ht) (cty t) (cl_ty ht) (cl_nm ht) C.2.2.2.1 (ca C).1 w.1 w.2 s q0 h1 (cl_at ht) i (fk_lt ht hf) (C.2.2.2.2.1 _ hlk) (fun _ h9 => h9) hfin (cl_ty ht i (fk_lt ht hf)) (by rw [hty]; rfl) (by rw [hty]; rfl) (by rw [fvs_len, cl_len ht]; exact fk_lt ht hf) hd (fun H1 locs1 hP hD hS => ?_)
  have e : (wl G M).set q0 (gad G t k, .inr (t, (fvs (gad G) (M.1 t k) (M.2 t k) k 0 (fk t)).set i (.long v))) = wl G (mL M t k i v) := by
    refine wl_set w.2 h0 ?_ enc_mL
    rw [enc_o ht, mL_at, fvs_setL _ _ _ hf, Nat.zero_add]
    rfl
  rw [e] at hP hD
  exact kk o1 (okR (okR o2)) H1 locs1 la ⟨hP, hD⟩ hS h
/-! arrays -/
theorem g_iald (C : CX tb G own cc nL ret rm X) {t k : Nat} {i : Int32} (ht : t = 20 ∨ t = 21 ∨ t = 22) (hin : vp_in i (alen t k)) (hd : decode cc pc = .ok (.iaload, 1)) (kk : GW G X nL Q (pc + 1) ls (vI (M.1 t k i.toNatClampNeg) :: st) M) : GW G X nL Q pc ls (vI i :: vR t k :: st) M := by
  intro o1 o2 H locs la w s h
  have hid := okI (okH (okR o2)) (by omega)
  obtain ⟨q0, h0, h1⟩ := wl_at (M := M) hid
  rw [enc_i ht] at h1
  exact va_iald C.1 C.2.1 (ca C).1 w.1 q0 0 h1 rfl hin hd (kk o1 (okT trivial (okR (okR o2))) H locs la w s h)
theorem g_iast (C : CX tb G own cc nL ret rm X) {t k : Nat} {i x : Int32} (ht : t = 20 ∨ t = 21 ∨ t = 22) (hin : vp_in i (alen t k)) (hd : decode cc pc = .ok (.iastore, 1)) (kk : GW G X nL Q (pc + 1) ls st (mI M t k i.toNatClampNeg x)) : GW G X nL Q pc ls (vI x :: vI i :: vR t k :: st) M := by
  intro o1 o2 H locs la w s h
  have hid := okI (okH (okR (okR o2))) (by omega)
  obtain ⟨q0, h0, h1⟩ := wl_at (M := M) hid
  rw [enc_i ht] at h1
  refine va_iast C.1 C.2.1 (ca C).1 w.1 w.2 s q0 0 h1 rfl hin hd (fun H1 locs1 hP hD hS => ?_)
  have e : (wl G M).set q0 (gad G t k, .inl (gI G, alen t k, .inl (upd (M.1 t k) i.toNatClampNeg x))) = wl G (mI M t k i.toNatClampNeg x) := by
    refine wl_set w.2 h0 ?_ enc_mI
    rw [enc_i ht, mI_at]
  rw [e] at hP hD
  exact kk o1 (okR (okR (okR o2))) H1 locs1 la ⟨hP, hD⟩ hS h
theorem g_lald (C : CX tb G own cc nL ret rm X) {t k : Nat} {i : Int32} (ht : t = 23) (hin : vp_in i (alen t k)) (hd : decode cc pc = .ok (.laload, 1)) (kk : GW G X nL Q (pc + 1) ls (vL (M.2 t k i.toNatClampNeg) :: st) M) : GW G X nL Q pc ls (vI i :: vR t k :: st) M := by
  intro o1 o2 H locs la w s h
  have hid := okI (okH (okR o2)) (by omega)
  obtain ⟨q0, h0, h1⟩ := wl_at (M := M) hid
  rw [enc_l ht] at h1
  exact va_lald C.1 C.2.1 (ca C).1 w.1 q0 1 h1 rfl hin hd (kk o1 (okT trivial (okR (okR o2))) H locs la w s h)
theorem g_last (C : CX tb G own cc nL ret rm X) {t k : Nat} {i : Int32} {x : Int64} (ht : t = 23) (hin : vp_in i (alen t k)) (hd : decode cc pc = .ok (.lastore, 1)) (kk : GW G X nL Q (pc + 1) ls st (mL M t k i.toNatClampNeg x)) : GW G X nL Q pc ls (vL x :: vI i :: vR t k :: st) M := by
  intro o1 o2 H locs la w s h
  have hid := okI (okH (okR (okR o2))) (by omega)
  obtain ⟨q0, h0, h1⟩ := wl_at (M := M) hid
  rw [enc_l ht] at h1
  refine va_last C.1 C.2.1 (ca C).1 w.1 w.2 s q0 1 h1 rfl hin hd (fun H1 locs1 hP hD hS => ?_)
  have e : (wl G M).set q0 (gad G t k, .inl (gL G, alen t k, .inr (.inl (vp_updL (M.2 t k) i.toNatClampNeg x)))) = wl G (mL M t k i.toNatClampNeg x) := by
    refine wl_set w.2 h0 ?_ enc_mL
    rw [enc_l ht, mL_at]
  rw [e] at hP hD
  exact kk o1 (okR (okR (okR o2))) H1 locs1 la ⟨hP, hD⟩ hS h
theorem g_alen (C : CX tb G own cc nL ret rm X) {t k : Nat} (ht : t = 20 ∨ t = 21 ∨ t = 22) (hd : decode cc pc = .ok (.arraylength, 1)) (kk : GW G X nL Q (pc + 1) ls (vI (nI (alen t k)) :: st) M) : GW G X nL Q pc ls (vR t k :: st) M := by
  intro o1 o2 H locs la w s h
  have hid := okI (okH o2) (by omega)
  obtain ⟨q0, h0, h1⟩ := wl_at (M := M) hid
  rw [enc_i ht] at h1
  exact va_alen C.1 C.2.1 (ca C).1 w.1 q0 0 h1 rfl rfl hd (kk o1 (okT trivial (okR o2)) H locs la w s h)
theorem g_sald (C : CX tb G own cc nL ret rm X) {i : Int32} {L : Nat} {xs : Nat → Int32} (hs : gscr G = some (L, xs)) (hin : vp_in i L) (hd : decode cc pc = .ok (.iaload, 1)) (kk : GW G X nL Q (pc + 1) ls (vI (xs i.toNatClampNeg) :: st) M) : GW G X nL Q pc ls (vI i :: vR 24 0 :: st) M := by
  intro o1 o2 H locs la w s h
  obtain ⟨h1, h2, h3⟩ := (ca C).2.2.2.2.2.2 L xs hs
  exact va_sld C.1 C.2.1 h1 h2 h3 s hin hd (kk o1 (okT trivial (okR (okR o2))) H locs la w s h)
theorem g_slen (C : CX tb G own cc nL ret rm X) {L : Nat} {xs : Nat → Int32} (hs : gscr G = some (L, xs)) (hd : decode cc pc = .ok (.arraylength, 1)) (kk : GW G X nL Q (pc + 1) ls (vI (nI L) :: st) M) : GW G X nL Q pc ls (vR 24 0 :: st) M := by
  intro o1 o2 H locs la w s h
  obtain ⟨h1, h2, h3⟩ := (ca C).2.2.2.2.2.2 L xs hs
  exact va_slen C.1 C.2.1 h1 h2 h3 s hd (kk o1 (okT trivial (okR o2)) H locs la w s h)
/-! a method's end -/
theorem qr_end {v : Option AV} {H : Heap} {locs : List Loc} (w : Wm G M H) (s : va_S (gA G) (xs_ X).heap H locs) : ∀ t : State, t.heap = H → (xs_ X).WarmedH t.vm → QR G (.inl v) M X.2.2.2.2.2.2.1 (xs_ X) (.returned (v.map (cv G))) t := fun t ht _ =>
  ⟨v, rfl, rfl, by rw [ht]; exact w, s.F ht⟩
theorem g_iret (C : CX true G own cc nL (some .int) rm X) {x : Int32} (hd : decode cc pc = .ok (.ireturn, 1)) : GW G X nL (QX G X (.inl (some (vI x))) M) pc ls [vI x] M :=
  fun _ _ _ _ _ w s _ => W.widen (Nat.le_of_eq (C.2.2.2.2.2.2.2.1 rfl).2.1) (Nat.le_of_eq (C.2.2.2.2.2.2.2.1 rfl).2.2) (vx_ret (W.iret (v := x) C.1 C.2.1 C.2.2.2.2.2.2.1 (qr_end w s) s.2.2 hd C.2.2.2.2.2.1))
theorem g_zret (C : CX true G own cc nL (some .boolean) rm X) {x : Int32} (hx : x = 0 ∨ x = 1) (hd : decode cc pc = .ok (.ireturn, 1)) : GW G X nL (QX G X (.inl (some (vI x))) M) pc ls [vI x] M :=
  fun _ _ _ _ _ w s _ => W.widen (Nat.le_of_eq (C.2.2.2.2.2.2.2.1 rfl).2.1) (Nat.le_of_eq (C.2.2.2.2.2.2.2.1 rfl).2.2) (vx_ret (W.zret (v := x) C.1 C.2.1 C.2.2.2.2.2.2.1 (by rcases hx with rfl | rfl <;> rfl) (qr_end w s) s.2.2 hd C.2.2.2.2.2.1))
theorem g_vret (C : CX true G own cc nL none rm X) (hd : decode cc pc = .ok (.return_, 1)) : GW G X nL (QX G X (.inl none) M) pc ls [] M :=
  fun _ _ _ _ _ w s _ => W.widen (Nat.le_of_eq (C.2.2.2.2.2.2.2.1 rfl).2.1) (Nat.le_of_eq (C.2.2.2.2.2.2.2.1 rfl).2.2) (vx_ret (W.vret C.1 C.2.1 C.2.2.2.2.2.2.1 (qr_end w s) s.2.2 hd C.2.2.2.2.2.1))
theorem g_lret (C : CX true G own cc nL (some .long) rm X) {x : Int64} (hd : decode cc pc = .ok (.lreturn, 1)) : GW G X nL (QX G X (.inl (some (vL x))) M) pc ls [vL x] M :=
  fun _ _ _ _ _ w s _ => W.widen (Nat.le_of_eq (C.2.2.2.2.2.2.2.1 rfl).2.1) (Nat.le_of_eq (C.2.2.2.2.2.2.2.1 rfl).2.2) (vx_ret (W.lret (v := x) C.1 C.2.1 C.2.2.2.2.2.2.1 (qr_end w s) s.2.2 hd C.2.2.2.2.2.1))
theorem g_dret (C : CX true G own cc nL (some .double) rm X) {x : UInt64} (hd : decode cc pc = .ok (.dreturn, 1)) : GW G X nL (QX G X (.inl (some (vD x))) M) pc ls [vD x] M :=
  fun _ _ _ _ _ w s _ => W.widen (Nat.le_of_eq (C.2.2.2.2.2.2.2.1 rfl).2.1) (Nat.le_of_eq (C.2.2.2.2.2.2.2.1 rfl).2.2) (vx_ret (W.dret (v := x) C.1 C.2.1 C.2.2.2.2.2.2.1 (qr_end w s) s.2.2 hd C.2.2.2.2.2.1))
theorem g_aret (C : CX true G own cc nL (some (.object cls)) rm X) {t k : Nat} (hd : decode cc pc = .ok (.areturn, 1)) : GW G X nL (QX G X (.inl (some (vR t k))) M) pc ls [vR t k] M :=
  fun _ _ _ _ _ w s _ => W.widen (Nat.le_of_eq (C.2.2.2.2.2.2.2.1 rfl).2.1) (Nat.le_of_eq (C.2.2.2.2.2.2.2.1 rfl).2.2) (vx_ret (W.aret (v := .ref (gad G t k)) C.1 C.2.1 C.2.2.2.2.2.2.1 (Or.inl ⟨_, rfl⟩) (Or.inr ⟨_, rfl⟩) (qr_end w s) s.2.2 hd C.2.2.2.2.2.1))
end HEAP

/-! p19: the claim is false as printed (its room): made by wip/refute/port.py out of whole's rows -/
/-! From a start whose script holds no call the run comes to its end: so the claim falls there in the Statement's own words (RefutedClaimed). -/
section ENDS
variable {D : va_G} {cI cL : ClassId} {A : Nat → Prop} {own : String} {cc : ByteArray} {nL : Nat} {rm : Room} {X : PX} {Q : State → Prop} {k z pc : Nat} {ls : List (Nat × Value)} {st st2 : List Value} {ws : va_W}
def Zend (below : List Frame) : State → Prop := fun t => ∃ o, t.status = .running ∧ Ended t below o
set_option maxHeartbeats 4000000 in
theorem law_end {p : Program} {e : Env} {s : State} {m : MethodId} {below : List Frame} {meth : Method} {c : Code} (l : Launch) (hflags : l.flags = flags0) {b L : Nat} {xs : Nat → Int32} (hX : va_X b L xs s s.heap) (hbl : b < s.heap.size) (hL : L < 5) (hr : meth.sig.returnType = some .boolean) (hlocks : meth.locks = false) (hx : p.tables.exec = Jvm.exec) (hb : c.code = code) (hml : c.maxLocals = 9) (hown : s.vm.findClass RL = some m.cls) (hts : ∀ w ∈ lw_tbl, w.before #[Value.ref b] s = true) (hgv : (Cond.and given_1 narrow_1).before #[Value.ref b] s = true) : W p l e bigR s m #[Value.ref b] below meth c s.heap [] 0 0 (Zend below) (entryFrame m ([Value.ref b] : List Value).toArray 9) := by
  have hl : l.stackTraces = false := by unfold Launch.stackTraces; rw [hflags]; decide
  obtain ⟨D, cI, cL, hSF⟩ := sf_start hts hgv
  obtain ⟨Md, hMd⟩ := Option.isSome_iff_exists.mp changed_some
  obtain ⟨Me, hMe⟩ := Option.isSome_iff_exists.mp fresh_some
  have K : LK D cI cL (fun q => s.heap.size ≤ q) RL cL_law 9 bigR (p, l, e, bigR, s, m, #[Value.ref b], below, meth, c, 0, 0) := ⟨hx, hb, hml, hown, fun w hw => hts w (bw_in hw), rfl, hSF⟩
  have hl9 := lv_entry ([.ref b]) (n := 9) (Nat.le_of_ble_eq_true rfl)
  rw [lg_entry_eq]
  generalize (lg_sl ([.ref b]) ++ List.replicate (9 - (lg_sl ([.ref b])).length) Slot.unset).toArray = la at hl9 ⊢
  have hl9 : lv_has la 9 [(0, .ref b)] := hl9
  have go : NW D (fun q => s.heap.size ≤ q) (p, l, e, bigR, s, m, #[Value.ref b], below, meth, c, 0, 0) 9 (Zend below) 0 0 0 [(0, .ref b)] [] [] := by
    refine l_new (t := 9) (fs := [.null, .null, .null, .null, .null, .null, .null, .null]) K (by decide) lL_9 (inst_all (by decide)) lJ_9 (by decide) (Nat.le_of_ble_eq_true rfl) (Nat.le_of_ble_eq_true rfl) dL_law_0 (fun q0 => ?_)
    refine l_dup K dL_law_3 ?_
    refine l_call (as := []) K lI_9 (c_X9_init l hl q0 400 fill_MF Mb0 Mc0 Md clear_Mb clear_Mc hMd) rfl (Nat.le_of_ble_eq_true rfl) ⟨Nat.le_of_ble_eq_true rfl, Nat.le_of_ble_eq_true rfl⟩ ⟨Nat.le_of_ble_eq_true rfl, Nat.le_of_ble_eq_true rfl⟩ rfl dL_law_4 (fun u0 hu0 => ?_)
    refine l_astore (ls' := [(1, .ref q0), (0, .ref b)]) K dL_law_7 rfl (by decide) rfl ?_
    refine l_new (t := 10) (fs := [.int 0, .int 0, .int 0, .null, .null, .null, .null, .int 0, .null, .null, .null, .int 0, .null, .int 0, .null, .null, .null, .null, .null, .int 0, .int 0, .int 0, .int 0, .int 0, .int 0, .null, .null, .null, .int 0, .null, .null, .long 0]) K (by decide) lL_10 (inst_all (by decide)) lJ_10 (by decide) (Nat.le_of_ble_eq_true rfl) (Nat.le_of_ble_eq_true rfl) dL_law_8 (fun q8 => ?_)
    refine l_dup K dL_law_11 ?_
    refine l_call (as := []) K lI_10 (c_X10_init l hl q8 400 Me hMe) rfl (Nat.le_of_ble_eq_true rfl) ⟨Nat.le_of_ble_eq_true rfl, Nat.le_of_ble_eq_true rfl⟩ ⟨Nat.le_of_ble_eq_true rfl, Nat.le_of_ble_eq_true rfl⟩ rfl dL_law_12 (fun u8 hu8 => ?_)
    refine l_astore (ls' := [(2, .ref q8), (1, .ref q0), (0, .ref b)]) K dL_law_15 rfl (by decide) rfl ?_
    intro H locs la hP hD hS h
    refine lv_iconst (v := 1) K.1 K.2.1 dL_law_16 rfl ?_
    refine va_newaK (atype := .long) (N := 1) K.1 K.2.1 (hts (.arrayClass .long) (by decide +kernel)) rfl dL_law_17 rfl (by decide) rfl (by decide) (Nat.le_of_ble_eq_true rfl) (Nat.le_of_ble_eq_true rfl) rfl (fun H1 cA e1 z1 o1 hAr hfc => ?_)
    refine lv_astore_n (i := 3) (lv' := [(3, .ref H.size), (2, .ref q8), (1, .ref q0), (0, .ref b)]) K.1 K.2.1 dL_law_19 rfl h (by decide) rfl (fun la2 h2 => ?_)
    refine lv_iconst (v := 0) K.1 K.2.1 dL_law_20 rfl ?_
    refine lv_istore (i := 4) (lv' := [(4, .int 0), (3, .ref H.size), (2, .ref q8), (1, .ref q0), (0, .ref b)]) K.1 K.2.1 dL_law_21 h2 (by decide) rfl (fun la3 h3 => ?_)
    refine lv_iload (x := 0) K.1 K.2.1 dL_law_23 (lv_at h3 0 rfl) ?_
    refine lv_aload_n (i := 0) (x := b) K.1 K.2.1 dL_law_25 rfl (lv_at h3 4 rfl) ?_
    obtain ⟨scr, hcell, harr, -, hsz, -⟩ := hX
    have hlt : scr.slots.size.toInt32 - 5 < 0 := by
      rw [hsz]
      exact (by decide : ∀ L : Nat, L < 5 → L.toInt32 - 5 < 0) L hL
    have hc1 : H1[b]? = some scr := (o1 b (Nat.lt_of_lt_of_le hbl hS.1)).trans ((hS.2.1 b hbl (Nat.not_le.mpr hbl)).trans hcell)
    refine W.alen K.1 K.2.1 hc1 harr rfl rfl rfl dL_law_26 ?_
    refine lv_iconst (v := 5) K.1 K.2.1 dL_law_27 rfl ?_
    refine lv_isub K.1 K.2.1 dL_law_28 ?_
    refine lv_icmp_gt (tgt := 1119) K.1 K.2.1 dL_law_29 rfl (fun _ => ?_) (fun h29 => absurd hlt h29)
    refine lv_iconst (v := 1) K.1 K.2.1 dL_law_1119 rfl ?_
    intro T hT XX
    obtain ⟨t, a1, o, b1, b2, -⟩ := W.zret (v := 1) (Qc := fun _ _ _ _ => True) (free := fun _ => True) K.1 K.2.1 hr rfl (fun _ _ _ => trivial) (fun _ _ => trivial) dL_law_1120 hlocks T hT XX
    exact ⟨t, a1, o, b1, b2⟩
  exact go s.heap [] la (fun k q h => by simp at h) ⟨fun i j p q h => by simp at h, fun k q h => by simp at h⟩ va_S.rf hl9
set_option maxHeartbeats 4000000 in
/-- from a start with room for both objects and a script of less than five ints the run comes to its end -/
theorem ends_short {l : Launch} {p : Program} {e : Env} {s : State} {m : MethodId} {args : Array Value} {below : List Frame} (hflags : l.flags = flags0) (hst : AtStart classFile x code maxLocals ret World_1 tables_1 room_1 Calls_1 rest_1 Pre_1 l p e s m args below) (hroom : s.hasRoom e.platform bigR = true)
    (hshort : ∀ (b : Nat) (cell : Cell), args = #[.ref b] → s.heap[b]? = some cell → cell.slots.size < 5) : ∃ (n : Nat) (o : Outcome), (∀ k, k < n → Within (stepsAlone p.tables e k s) below) ∧ (stepsAlone p.tables e n s).status = Status.running ∧ Ended (stepsAlone p.tables e n s) below o := by
  obtain ⟨hL, hW, ha, hle, hc, hk, hf, hfit, hheap, happ, hcalls, hrest, hPre⟩ := hst
  have hl1 := (Spec.appliesLoose_iff hf).mp ((Spec.applies_iff_loose hf).mp happ).1
  have happB : (headSpec (Jvm.Cond.code x code maxLocals ret :: tables_1) bigR).appliesLoose x e.platform s = true :=
    (Spec.appliesLoose_iff hf).mpr ⟨hl1.1, hl1.2.1, hl1.2.2.1, hl1.2.2.2.1, hl1.2.2.2.2.1, hl1.2.2.2.2.2.1, hroom, hl1.2.2.2.2.2.2.2⟩
  have hgv : (Cond.and given_1 narrow_1).before args s = true := hPre
  have hb : ∃ (b : Addr) (L : Nat) (xs : Nat → Int32), args = #[.ref b] ∧ va_X b L xs s s.heap ∧ b < s.heap.size := by
    have hs := flat_of_before _ hgv
    have hcnt : (Cond.count 1).before args s = true := hs _ (by decide +kernel)
    have harr : (Cond.arrayOf (.arg 0) .int).before args s = true := hs _ (by decide +kernel)
    have hq := flat_of_before _ (show rest_1_c.before args s = true from hrest)
    have hlen : (Cond.isInt (.length (.arg 0))).before args s = true := hq _ (by decide +kernel)
    have hall : (Cond.all (.arg 0) (.isInt (.elem (.arg 0) (.index 0)))).before args s = true := hq _ (by decide +kernel)
    obtain ⟨b, xs, hb, hx⟩ := State.ints_of_pre rfl harr hlen hall
    obtain ⟨scr, harrAt, hlist, hof, hsmall⟩ := hx
    obtain ⟨hcb, hkn, -, -⟩ := State.arrayAt?_spec harrAt
    have hsz : scr.slots.size = xs.length := by rw [← Array.length_toList, hlist, List.length_map]
    have hval : ∀ j : Nat, j < xs.length → scr.slots[j]? = some (.int (xs.getD j 0)) := fun j hj => by
      rw [← Array.getElem?_toList, hlist]
      simp [hj]
    exact ⟨b, xs.length, fun j => xs.getD j 0, Cond.one_arg hcnt (show args[0]? = some (.ref b) from hb), ⟨scr, hcb, hof, hkn, hsz, hval⟩, (Array.getElem?_eq_some_iff.mp hcb).1⟩
  obtain ⟨b, L, xs, rfl, hX, hbl⟩ := hb
  have hL5 : L < 5 := by
    obtain ⟨scr, hcell, -, -, hsz, -⟩ := id hX
    have h5 := hshort b scr rfl hcell
    omega
  obtain ⟨t, ⟨j, hj, hjw⟩, o, hst1, hend⟩ := run_to (l := l) (x := x) (S := headSpec (Jvm.Cond.code x code maxLocals ret :: tables_1) bigR) (code := code) (maxLocals := maxLocals) (ret := ret) (Z := Zend below) (p := p) (e := e) (s := s) (m := m) (args := #[.ref b]) (below := below) (by decide)
    (fun h hn => by
      obtain ⟨meth, c, h1, h2, h3, h4, h5, h6, -, -⟩ := Cond.code_spec hn (atoms_spec (ws := Jvm.Cond.code x code maxLocals ret :: tables_1) h _ List.mem_cons_self)
      exact ⟨meth, c, h1, h2, h3, h4, h5, h6⟩) ha hc hk hf happB
    (fun meth c s₁ B hml0 => by
      have hown : s.vm.findClass RL = some m.cls := findClass_of_methodNamed B.named
      have hts0 : ∀ c ∈ (Jvm.Cond.code x code maxLocals ret :: tables_1), c.before #[Value.ref b] s = true := atoms_spec (ws := Jvm.Cond.code x code maxLocals ret :: tables_1) B.pre
      have hts : ∀ w ∈ lw_tbl, w.before #[Value.ref b] s = true := k2_hts_sels lw_privs (fun w hw => hts0 w (List.mem_cons_of_mem _ hw)) lw_privs_ok
      have hml : c.maxLocals = 9 := B.maxLocals_eq (hts0 _ List.mem_cons_self)
      have X₀ : Stand p l e bigR s m #[Value.ref b] below meth c s₁ [] 0 0 := Stand.of_body B
      have hh0 : s₁.heap = s.heap := by rw [B.state]; rfl
      exact law_end l hflags hX hbl hL5 B.returns B.notSynchronized B.exec B.bytes hml hown hts hgv s₁ hh0 X₀)
  subst hj
  exact ⟨j, o, hjw, hst1, hend⟩
/-- such a start is one from which the run ends and the claim's post falls -/
theorem falls_1 {l : Launch} {p : Program} {e : Env} {s : State} {m : MethodId} {args : Array Value} {below : List Frame} (hflags : l.flags = flags0) (hst : AtStart classFile x code maxLocals ret World_1 tables_1 room_1 Calls_1 rest_1 Pre_1 l p e s m args below) (hroom : s.hasRoom e.platform bigR = true)
    (hshort : ∀ (b : Nat) (cell : Cell), args = #[.ref b] → s.heap[b]? = some cell → cell.slots.size < 5) : RefutedClaimed_1_1 ∧ RefutedClaimed_1_2 := by
  obtain ⟨n, o, h1, h2, h3⟩ := ends_short hflags hst hroom hshort
  exact ⟨⟨l, p, e, s, m, args, below, hflags, hst, n, o, h1, h2, h3, fun hp => no_frame hflags hst hroom h3 hp.2⟩, ⟨l, p, e, s, m, args, below, hflags, hst, n, o, h1, h2, h3, fun hp => no_frame hflags hst hroom h3 hp.2⟩⟩
/-! words that speak of the machine's classes alone -/
def vmKind : Cond → Bool
  | .arrayClass .. | .castable .. | .classLink .. | .code .. | .codeSync .. | .codeWith .. | .constant .. | .constantDouble .. | .constantFloat .. | .constantLong .. | .declares .. | .fieldLink .. | .fieldLinkNest .. | .initialized .. | .instanceMethod .. | .instantiable .. | .lays .. | .laysFinal .. | .methodLink .. | .methodLinkNest .. | .native .. | .privateMethod .. | .sameMethod .. | .selects .. | .soleField .. | .static .. | .stringRef .. | .superclass .. => true
  | _ => false
theorem vm_word {a : Array Value} (u : State) (H : Heap) (n : Nat) : ∀ c : Cond, vmKind c = true → c.before a { u with heap := H, slotsUsed := n } = c.before a u := by
  intro c h
  cases c <;> first | (exact absurd h Bool.false_ne_true) | rfl
end ENDS

/-! p28: the claim is false as printed (its room): made by wip/refute/port.py out of whole's rows -/
/-! The claim is false: from the witness's start the run books more slots than the claim's frame allows. -/
section REFUTE
/-- a run that a walk of the body leads through -/
theorem run_to {l : Launch} {x : MethodName} {S : Spec} {code : ByteArray} {maxLocals : Nat} {ret : Option FieldType} {Z : State → Prop} {p : Program} {e : Env} {s : State} {m : MethodId} {args : Array Value} {below : List Frame} (hx : plainName x.cls = true)
    (his : S.pre.before args s = true → s.methodNamed? x = some m → ∃ meth c, s.vm.method? m = some meth ∧ meth.code = some c ∧ c.code = code ∧ c.maxLocals = maxLocals ∧ meth.sig.returnType = ret ∧ meth.locks = false)
    (ha : l.admits e) (hc : FairCas e.choices) (hk : FairClock e.choices) (hf : s.frames = .invoking m args :: below) (happ : S.appliesLoose x e.platform s = true)
    (body : ∀ meth c s₁, BodyLoose p l x S code maxLocals ret e s m args below meth c s₁ → c.maxLocals = maxLocals → ∃ t, Steps p.tables e below (s₁.setTop (entryFrame m args maxLocals)) t ∧ Z t) : ∃ t, Steps p.tables e below s t ∧ Z t := by
  obtain ⟨hrun, hable, halone, hname, hhears, hinit, hroom, hpre⟩ := (Spec.appliesLoose_iff hf).mp happ
  obtain ⟨meth, c, hmeth, hcode, hbytes, hlocals, hret, hlocks⟩ := his hpre hname
  have hcur := State.cur_lt_of_frames hf
  have hf1 : (s.setFrames (.java (entryFrame m args maxLocals) :: below)).frames = .java (entryFrame m args maxLocals) :: below :=
    State.frames_setFrames _ hcur
  have ht1 := State.topJava?_of_frames hf1
  have hplain : (s.setFrames (.java (entryFrame m args maxLocals) :: below)).plainMethod m := State.plainMethod.of_named (s := s) (plainFor_of_name hx) hname hmeth
  have hAt : At (s.setFrames (.java (entryFrame m args maxLocals) :: below)) m c below :=
    ⟨by rw [ht1]; rfl, ⟨[], by rw [hf1]; rfl⟩, hrun, by simpa using hable, by simpa using halone,
      by rw [State.code?_eq]; simp [State.setFrames, hmeth, hcode], hplain⟩
  have hstep : (stepThread p.tables e s).1 = (s.setFrames (.java (entryFrame m args maxLocals) :: below)).setTop (entryFrame m args maxLocals) := by
    have hfull : e.platform.stackFull (s.setFrames below).me (s.setFrames below).frames c.maxLocals = false := by
      obtain ⟨-, h1, -, h2⟩ := State.hasRoom_stack hroom
      rw [hf, List.length_cons] at h1
      rw [State.localsInUse_invoking hf hmeth hcode] at h2
      have hw := stackUse_le_stackWeight below
      rw [State.frames_setFrames _ hcur]
      exact Platform.stackFull_eq_false (by rw [State.stackLimits_setFrames]; omega) (by rw [State.stackLimits_setFrames]; omega)
    rw [stepThread_invoking hf, (doInvoke_java (s := s.setFrames below) (e := e) (meth := meth) (code := c) hmeth hcode hlocks hfull).1, State.setTop_self ht1]
    simp only [State.pushFrame, State.frames_setFrames _ hcur, State.setFrames_setFrames, hlocals, entryFrame]
  obtain ⟨t, hs, hz⟩ := body meth c _
    ⟨ha, hc, hk, by cases p <;> rfl, hf, hname, hhears, hinit, hroom, hpre, hmeth, hret, hlocks, hbytes, rfl, hAt⟩ hlocals
  exact ⟨t, Steps.head (tb := p.tables) (e := e) ⟨hrun, hable, halone⟩ ⟨[.invoking m args], hf, by simp, by simp⟩ (hstep ▸ hs), hz⟩
theorem not_within {s : State} {below : List Frame} {o : Outcome} (he : Ended s below o) (hw : Within s below) : False := by
  obtain ⟨ab, h1, h2, h3⟩ := hw
  have hlen : below.length < s.frames.length := by
    rw [h1, List.length_append]
    have := List.length_pos_iff.mpr h2
    omega
  cases o with
  | threw a =>
    have he : s.frames = .throwing a :: below := he
    rw [he] at h1
    exact h3 a (List.append_cancel_right (as := ab) (bs := below) (cs := [.throwing a]) h1.symm)
  | returned v =>
    cases below with
    | nil =>
      have h : v = none ∧ s.frames = [] := he
      rw [h.2] at hlen
      exact Nat.lt_irrefl _ hlen
    | cons f r =>
      cases f
      case java g =>
        obtain ⟨c, i, len, -, -, h⟩ := he
        rw [h] at hlen
        simp at hlen
      case native g =>
        have h : s.frames = .native { g with awaiting := false, answer := some (.returned v) } :: r := he
        rw [h] at hlen
        simp at hlen
      case proc g =>
        have h : s.frames = .proc { g with awaiting := false, answer := some (.returned v) } :: r := he
        rw [h] at hlen
        simp at hlen
      all_goals
        have h := he.2
        rw [h] at hlen
        exact Nat.lt_irrefl _ hlen
set_option maxHeartbeats 4000000 in
/-- from no start with room for both objects does the run come to an end that keeps the claim's frame -/
theorem no_frame {l : Launch} {p : Program} {e : Env} {s : State} {m : MethodId} {args : Array Value} {below : List Frame} (hflags : l.flags = flags0) (hst : AtStart classFile x code maxLocals ret World_1 tables_1 room_1 Calls_1 rest_1 Pre_1 l p e s m args below) (hroom : s.hasRoom e.platform bigR = true)
    {n : Nat} {o : Outcome} {locs : List Loc} (hend : Ended (stepsAlone p.tables e n s) below o) (hfr : State.butDraws s (stepsAlone p.tables e n s) [Jvm.Choice.named "NaN.bits"] (fun t1 => Framed s o t1 locs 1145 16941)) : False := by
  obtain ⟨hL, hW, ha, hle, hc, hk, hf, hfit, hheap, happ, hcalls, hrest, hPre⟩ := hst
  obtain ⟨-, -, -, h4, h5, -⟩ := hfr.1.2.2
  have hmost : (stepsAlone p.tables e n s).slotsUsed ≤ s.slotsUsed + 16941 := by
    have h4' : (stepsAlone p.tables e n s).slotsUsed = _ := h4
    rw [h4']
    exact Nat.add_le_add_left h5 _
  have hl1 := (Spec.appliesLoose_iff hf).mp ((Spec.applies_iff_loose hf).mp happ).1
  have happB : (headSpec (Jvm.Cond.code x code maxLocals ret :: tables_1) bigR).appliesLoose x e.platform s = true :=
    (Spec.appliesLoose_iff hf).mpr ⟨hl1.1, hl1.2.1, hl1.2.2.1, hl1.2.2.2.1, hl1.2.2.2.2.1, hl1.2.2.2.2.2.1, hroom, hl1.2.2.2.2.2.2.2⟩
  have hgv : (Cond.and given_1 narrow_1).before args s = true := hPre
  have hb : ∃ b : Addr, args = #[.ref b] := by
    have hs := flat_of_before _ hgv
    have hcnt : (Cond.count 1).before args s = true := hs _ (by decide +kernel)
    have harr : (Cond.arrayOf (.arg 0) .int).before args s = true := hs _ (by decide +kernel)
    have hq := flat_of_before _ (show rest_1_c.before args s = true from hrest)
    have hlen : (Cond.isInt (.length (.arg 0))).before args s = true := hq _ (by decide +kernel)
    have hall : (Cond.all (.arg 0) (.isInt (.elem (.arg 0) (.index 0)))).before args s = true := hq _ (by decide +kernel)
    obtain ⟨b, xs, hb, hx⟩ := State.ints_of_pre rfl harr hlen hall
    exact ⟨b, Cond.one_arg hcnt (show args[0]? = some (.ref b) from hb)⟩
  obtain ⟨b, rfl⟩ := hb
  obtain ⟨t, ⟨j, hj, hjw⟩, hbig⟩ := run_to (l := l) (x := x) (S := headSpec (Jvm.Cond.code x code maxLocals ret :: tables_1) bigR) (code := code) (maxLocals := maxLocals) (ret := ret) (Z := fun t => s.slotsUsed + 16942 ≤ t.slotsUsed) (p := p) (e := e) (s := s) (m := m) (args := #[.ref b]) (below := below) (by decide)
    (fun h hn => by
      obtain ⟨meth, c, h1, h2, h3, h4, h5, h6, -, -⟩ := Cond.code_spec hn (atoms_spec (ws := Jvm.Cond.code x code maxLocals ret :: tables_1) h _ List.mem_cons_self)
      exact ⟨meth, c, h1, h2, h3, h4, h5, h6⟩) ha hc hk hf happB
    (fun meth c s₁ B hml0 => by
      have hown : s.vm.findClass RL = some m.cls := findClass_of_methodNamed B.named
      have hts0 : ∀ c ∈ (Jvm.Cond.code x code maxLocals ret :: tables_1), c.before #[Value.ref b] s = true := atoms_spec (ws := Jvm.Cond.code x code maxLocals ret :: tables_1) B.pre
      have hts : ∀ w ∈ lw_tbl, w.before #[Value.ref b] s = true := k2_hts_sels lw_privs (fun w hw => hts0 w (List.mem_cons_of_mem _ hw)) lw_privs_ok
      have hml : c.maxLocals = 9 := B.maxLocals_eq (hts0 _ List.mem_cons_self)
      have X₀ : Stand p l e bigR s m #[Value.ref b] below meth c s₁ [] 0 0 := Stand.of_body B
      have hh0 : s₁.heap = s.heap := by rw [B.state]; rfl
      exact law_big l hflags B.exec B.bytes hml hown hts hgv s₁ hh0 X₀)
  have hbig : s.slotsUsed + 16942 ≤ t.slotsUsed := hbig
  rcases Nat.lt_or_ge n j with h | h
  · exact not_within hend (hjw n h)
  · obtain ⟨d, rfl⟩ := Nat.exists_eq_add_of_le h
    have hg := (stepsAlone_heap_grows_add p.tables e j d s).2
    rw [hj] at hg
    omega
/-- no start with room for both objects meets the claim's first limb, nor its second -/
theorem refuted_1 {l : Launch} {p : Program} {e : Env} {s : State} {m : MethodId} {args : Array Value} {below : List Frame} (hflags : l.flags = flags0) (hst : AtStart classFile x code maxLocals ret World_1 tables_1 room_1 Calls_1 rest_1 Pre_1 l p e s m args below) (hroom : s.hasRoom e.platform bigR = true) : ¬ Claimed_1_1 := fun hC => by
  obtain ⟨hL, hW, ha, -, hc, hk, hf, hfit, hheap, happ, hcalls, hrest, hPre⟩ := id hst
  obtain ⟨n, o, -, -, hend, hpost⟩ := hC l hflags hL hW p e ha hc hk s m args below hf hfit hheap happ ⟨hcalls, hrest, hPre⟩
  exact no_frame hflags hst hroom hend hpost.2
theorem refuted_2 {l : Launch} {p : Program} {e : Env} {s : State} {m : MethodId} {args : Array Value} {below : List Frame} (hflags : l.flags = flags0) (hst : AtStart classFile x code maxLocals ret World_1 tables_1 room_1 Calls_1 rest_1 Pre_1 l p e s m args below) (hroom : s.hasRoom e.platform bigR = true) : ¬ Claimed_1_2 := fun hC => by
  obtain ⟨hL, hW, ha, -, hc, hk, hf, hfit, hheap, happ, hcalls, hrest, hPre⟩ := id hst
  obtain ⟨n, o, -, -, hend, hpost⟩ := hC l hflags hL hW p e ha hc hk s m args below hf hfit hheap happ ⟨hcalls, hrest, hPre⟩
  exact no_frame hflags hst hroom hend hpost.2
end REFUTE

/-! p28: the claim is false as printed (its room): made by wip/refute/port.py out of whole's rows -/
/-! A flat memory (class number or array tag, instance, place) and what it says of the heap; one walk predicate over it. -/
section MEM
abbrev AV : Type := Int32 ⊕ Int64 ⊕ UInt32 ⊕ UInt64 ⊕ (Nat × Nat)
abbrev vI (x : Int32) : AV := .inl x
abbrev vR (t k : Nat) : AV := .inr (.inr (.inr (.inr (t, k))))
abbrev Mem : Type := (Nat → Nat → Nat → Int32) × (Nat → Nat → Nat → Int64)
def mI (M : Mem) (t k i : Nat) (v : Int32) : Mem := (fun a b c => if a = t ∧ b = k ∧ c = i then v else M.1 a b c, M.2)
abbrev FK : Type := Nat ⊕ (Nat × Nat × Nat)
def fk (t : Nat) : List FK := match t with
  | 0 => [.inl 0, .inr (8, 6, 3), .inr (8, 7, 3), .inr (3, 0, 1), .inr (8, 8, 3)]
  | 1 => [.inr (8, 12, 2), .inr (8, 13, 2)]
  | 2 => [.inl 0, .inl 0, .inr (8, 0, 3), .inr (8, 1, 3), .inr (8, 2, 3)]
  | 3 => [.inl 0, .inl 0, .inr (21, 0, 1)]
  | 4 => [.inl 0, .inr (8, 24, 0)]
  | 5 => [.inl 0, .inl 0, .inl 0, .inl 0, .inl 0, .inl 0, .inr (3, 4, 0), .inr (8, 20, 0), .inr (8, 21, 0), .inr (8, 22, 0), .inr (8, 23, 0), .inr (3, 5, 0)]
  | 6 => [.inl 0, .inr (8, 16, 0), .inr (8, 17, 0), .inr (8, 18, 0), .inr (3, 2, 0), .inr (8, 19, 0), .inr (3, 3, 0)]
  | 7 => [.inr (2, 1, 0), .inr (0, 1, 0), .inl 0, .inl 0, .inl 0, .inl 0]
  | 8 => [.inr (20, 0, 1)]
  | 9 => [.inr (2, 0, 0), .inr (0, 0, 0), .inr (6, 0, 0), .inr (5, 0, 0), .inr (1, 0, 0), .inr (1, 1, 0), .inr (4, 0, 0), .inr (7, 0, 0)]
  | 10 => [.inl 0, .inl 0, .inl 0, .inr (22, 3, 0), .inr (22, 4, 0), .inr (22, 5, 0), .inr (22, 6, 0), .inl 0, .inr (22, 8, 0), .inr (22, 9, 0), .inr (22, 10, 0), .inl 0, .inr (22, 12, 0), .inl 0, .inr (22, 14, 0), .inr (22, 15, 0), .inr (22, 16, 0), .inr (22, 17, 0), .inr (22, 18, 0), .inl 0, .inl 0, .inl 0, .inl 0, .inl 0, .inl 0, .inr (22, 25, 0), .inr (22, 26, 0), .inr (22, 27, 0), .inl 0, .inr (22, 29, 0), .inr (22, 30, 0), .inl 1]
  | _ => []
/-- the instance that a reference field names -/
def rk (b s k : Nat) : Nat := match s with
  | 0 => b
  | 1 => k + b
  | n + 2 => (n + 2) * k + b
def rlens : List Nat := [14, 14, 8, 14, 14, 8, 10, 20, 20, 10, 20, 20, 8, 14, 8, 14, 300, 300, 300, 300, 300, 300, 300, 300, 60]
def glens : List Nat := [140, 140, 2100, 4200, 6000, 64]
def mlens : List Nat := [0, 0, 0, 14, 14, 14, 8, 0, 11, 22, 154, 0, 60, 0, 301, 301, 301, 2107, 4214, 0, 0, 0, 0, 0, 0, 301, 301, 301, 0, 14, 8, 0]
def alen (t k : Nat) : Nat := match t with
  | 20 => rlens.getD k 0
  | 21 => glens.getD k 0
  | 22 => mlens.getD k 0
  | _ => 1
/-- what is fixed over a run: the classes' numbers, the addresses, which objects there are, which cells are ours, the script -/
abbrev GE : Type := va_G × ClassId × ClassId × (Nat → Nat → Nat) × List (Nat × Nat) × (Nat → Prop) × Option (Nat × (Nat → Int32))
abbrev gD (G : GE) : va_G := G.1
abbrev gI (G : GE) : ClassId := G.2.1
abbrev gL (G : GE) : ClassId := G.2.2.1
abbrev gad (G : GE) : Nat → Nat → Nat := G.2.2.2.1
abbrev gids (G : GE) : List (Nat × Nat) := G.2.2.2.2.1
abbrev gA (G : GE) : Nat → Prop := G.2.2.2.2.2.1
abbrev gscr (G : GE) : Option (Nat × (Nat → Int32)) := G.2.2.2.2.2.2
def cv (G : GE) (v : AV) : Value := match v with
  | .inl x => .int x
  | .inr (.inl x) => .long x
  | .inr (.inr (.inl x)) => .float x
  | .inr (.inr (.inr (.inl x))) => .double x
  | .inr (.inr (.inr (.inr q))) => .ref (gad G q.1 q.2)
def fvs (ad : Nat → Nat → Nat) (f : Nat → Int32) (g : Nat → Int64) (k : Nat) : Nat → List FK → List Value
  | _, [] => []
  | i, .inl 0 :: r => .int (f i) :: fvs ad f g k (i + 1) r
  | i, .inl (_ + 1) :: r => .long (g i) :: fvs ad f g k (i + 1) r
  | i, .inr (t, b, s) :: r => .ref (ad t (rk b s k)) :: fvs ad f g k (i + 1) r
def enc (G : GE) (M : Mem) (t k : Nat) : va_E :=
  if t < 20 then .inr (t, fvs (gad G) (M.1 t k) (M.2 t k) k 0 (fk t)) else if t = 23 then .inl (gL G, alen t k, .inr (.inl (M.2 t k))) else .inl (gI G, alen t k, .inl (M.1 t k))
def wl (G : GE) (M : Mem) : va_W := (gids G).map (fun q => (gad G q.1 q.2, enc G M q.1 q.2))
abbrev gtys (G : GE) : List (ClassId × FieldType) := [(gI G, .int), (gL G, .long)]
/-- the string constants that the class's exceptions name -/
def strs : List (String × Nat × String) := [("ArrowDiagrams", 72, "objects is out of range"), ("ArrowDiagrams", 85, "to is not greater than from"), ("ArrowDiagrams", 92, "there are 14 arrows"), ("ArrowDiagrams", 102, "there would be more than 300 paths"), ("ArrowDiagrams", 111, "there are no arrows"), ("ArrowDiagrams", 126, "there are 10 cells"), ("ArrowDiagrams", 152, "code is not 32 to 126"), ("ArrowDiagrams", 157, "the buffer has 60 characters"), ("ArrowDiagrams", 171, "the buffer is not a complete text"), ("ArrowDiagrams", 227, "what is not 0 to 6"), ("ArrowDiagrams", 231, "there is no such arrow"), ("ArrowDiagrams", 246, "what is not 0 or 1"), ("ArrowDiagrams", 248, "the proof has no such step"), ("ArrowDiagrams", 274, "what is not 0 to 4"), ("ArrowDiagrams", 289, "what is not 0 to 7"), ("ArrowDiagrams", 291, "size is out of range"), ("ArrowDiagrams", 306, "code is the code of no such function"), ("ArrowDiagrams", 311, "there is no such element"), ("ArrowDiagrams", 321, "there are more than 6 arrows"), ("ArrowDiagrams", 337, "they are not two arrows from the same object"), ("ArrowDiagrams", 350, "they do not make such a square"), ("ArrowDiagrams", 358, "they do not lead like that"), ("ArrowDiagrams", 397, "the object does not exist"), ("ArrowDiagrams", 402, "the arrow does not exist"), ("ArrowDiagrams", 404, "the cell does not exist"), ("ArrowDiagrams", 406, "the path does not exist"), ("ArrowDiagrams", 408, "the paths are not parallel")]
/-- words that hold all over a run, but aren't of the kind that the tables keep -/
def XW : List Cond := [.castable "java/lang/IllegalArgumentException" "java/lang/IllegalArgumentException", .castable "java/lang/IllegalStateException" "java/lang/IllegalStateException", .castable "java/lang/IndexOutOfBoundsException" "java/lang/IndexOutOfBoundsException", .declares (Bundle.initS "java/lang/RuntimeException"), .declares (Bundle.initS "java/lang/Exception"), .declares (Bundle.initS Bundle.tN), .fieldLinkNest "ArrowDiagrams" 128 "ArrowDiagrams$Paths" "start" "LArrowDiagrams$Row;" "ArrowDiagrams", .fieldLinkNest "ArrowDiagrams$Functions" 55 "ArrowDiagrams$Paths" "start" "LArrowDiagrams$Row;" "ArrowDiagrams", .fieldLinkNest "ArrowDiagrams$Pasting" 116 "ArrowDiagrams$Paths" "start" "LArrowDiagrams$Row;" "ArrowDiagrams", .fieldLinkNest "ArrowDiagrams" 205 "ArrowDiagrams$Paths" "end" "LArrowDiagrams$Row;" "ArrowDiagrams", .fieldLinkNest "ArrowDiagrams$Pasting" 119 "ArrowDiagrams$Paths" "end" "LArrowDiagrams$Row;" "ArrowDiagrams", .fieldLinkNest "ArrowDiagrams$Functions" 42 "ArrowDiagrams$Paths" "length" "LArrowDiagrams$Row;" "ArrowDiagrams", .fieldLinkNest "ArrowDiagrams" 208 "ArrowDiagrams$Paths" "length" "LArrowDiagrams$Row;" "ArrowDiagrams", .fieldLinkNest "ArrowDiagrams$Pasting" 134 "ArrowDiagrams$Paths" "length" "LArrowDiagrams$Row;" "ArrowDiagrams", .fieldLinkNest "ArrowDiagrams$Functions" 47 "ArrowDiagrams$Paths" "arrow" "LArrowDiagrams$Grid;" "ArrowDiagrams", .fieldLinkNest "ArrowDiagrams" 234 "ArrowDiagrams$Paths" "arrow" "LArrowDiagrams$Grid;" "ArrowDiagrams", .fieldLinkNest "ArrowDiagrams$Pasting" 137 "ArrowDiagrams$Paths" "arrow" "LArrowDiagrams$Grid;" "ArrowDiagrams", .fieldLinkNest "ArrowDiagrams$Pasting" 125 "ArrowDiagrams$Paths" "shorter" "LArrowDiagrams$Row;" "ArrowDiagrams", .fieldLinkNest "ArrowDiagrams$Cells" 63 "ArrowDiagrams$Paths" "longer" "LArrowDiagrams$Grid;" "ArrowDiagrams", .fieldLinkNest "ArrowDiagrams" 194 "ArrowDiagrams$Paths" "longer" "LArrowDiagrams$Grid;" "ArrowDiagrams", .fieldLinkNest "ArrowDiagrams$Pasting" 128 "ArrowDiagrams$Paths" "longer" "LArrowDiagrams$Grid;" "ArrowDiagrams", .methodLinkNest "ArrowDiagrams" 11 ⟨"ArrowDiagrams$Graph", "<init>", "()V"⟩ "ArrowDiagrams", .methodLinkNest "ArrowDiagrams" 18 ⟨"ArrowDiagrams$Cells", "<init>", "()V"⟩ "ArrowDiagrams", .methodLinkNest "ArrowDiagrams" 25 ⟨"ArrowDiagrams$Paths", "<init>", "()V"⟩ "ArrowDiagrams", .methodLinkNest "ArrowDiagrams" 39 ⟨"ArrowDiagrams$Functions", "<init>", "()V"⟩ "ArrowDiagrams", .methodLinkNest "ArrowDiagrams" 49 ⟨"ArrowDiagrams$Input", "<init>", "()V"⟩ "ArrowDiagrams", .methodLinkNest "ArrowDiagrams" 56 ⟨"ArrowDiagrams$Reader", "<init>", "()V"⟩ "ArrowDiagrams", .methodLinkNest "ArrowDiagrams$Reader" 11 ⟨"ArrowDiagrams$Graph", "<init>", "()V"⟩ "ArrowDiagrams", .methodLinkNest "ArrowDiagrams$Reader" 20 ⟨"ArrowDiagrams$Cells", "<init>", "()V"⟩ "ArrowDiagrams"]
theorem XW.warm {s U : State} (hW : s.WarmedH U.vm) (h : ∀ w ∈ XW, va_Nw w s) : ∀ w ∈ XW, va_Nw w U := by
  unfold XW at h ⊢
  simp only [List.forall_mem_cons] at h ⊢
  obtain ⟨h0, h1, h2, h3, h4, h5, h6, h7, h8, h9, h10, h11, h12, h13, h14, h15, h16, h17, h18, h19, h20, h21, h22, h23, h24, h25, h26, h27, h28, -⟩ := h
  exact ⟨va_Nw.warmC hW h0, va_Nw.warmC hW h1, va_Nw.warmC hW h2, va_Nw.warmD hW h3, va_Nw.warmD hW h4, va_Nw.warmD hW h5, va_Nw.warmF hW h6, va_Nw.warmF hW h7, va_Nw.warmF hW h8, va_Nw.warmF hW h9, va_Nw.warmF hW h10, va_Nw.warmF hW h11, va_Nw.warmF hW h12, va_Nw.warmF hW h13, va_Nw.warmF hW h14, va_Nw.warmF hW h15, va_Nw.warmF hW h16, va_Nw.warmF hW h17, va_Nw.warmF hW h18, va_Nw.warmF hW h19, va_Nw.warmF hW h20, va_Nw.warmM hW h21, va_Nw.warmM hW h22, va_Nw.warmM hW h23, va_Nw.warmM hW h24, va_Nw.warmM hW h25, va_Nw.warmM hW h26, va_Nw.warmM hW h27, va_Nw.warmM hW h28, fun _ z => nomatch z⟩
theorem XW.tabs : ∀ w ∈ XW, w.onTables = true := by decide +kernel
/-- the throws that the law's handlers must tell apart -/
def NC : List (String × String) := [("java/lang/IllegalArgumentException", "java/lang/IndexOutOfBoundsException"), ("java/lang/IllegalStateException", "java/lang/IndexOutOfBoundsException"), ("java/lang/IllegalStateException", "java/lang/IllegalArgumentException")]
def Wm (G : GE) (M : Mem) (H : Heap) : Prop := va_P (gD G) vwCl (wl G M) H ∧ va_D (gA G) (wl G M)
/-- what stays all over a run -/
def SF (G : GE) (U : State) (H : Heap) : Prop :=
  va_K (gD G) vwCl (gtys G) U ∧ vx_Zq Bundle.tN "UNASSIGNED_STACK" Bundle.steD (gA G) U H ∧ vx_Zq Bundle.tN "SUPPRESSED_SENTINEL" Bundle.listD (gA G) U H ∧
  (∀ q, H.size ≤ q → gA G q) ∧ (∀ q ∈ strs, ∃ a, vk_R q.1 q.2.1 q.2.2 a U) ∧ ((∀ w ∈ XW, va_Nw w U) ∧ ∀ q ∈ NC, va_Nc q.1 q.2 U) ∧ (∀ L xs, gscr G = some (L, xs) → va_X (gad G 24 0) L xs U H ∧ gad G 24 0 < H.size ∧ ¬ gA G (gad G 24 0))
def Wd (G : GE) (M : Mem) (U : State) (H : Heap) : Prop := Wm G M H ∧ SF G U H
/-- which objects there are: known kinds, and what they name is there too -/
def GOK (G : GE) : Prop := ∀ q ∈ gids G, (q.1 < 11 ∨ q.1 = 20 ∨ q.1 = 21 ∨ q.1 = 22 ∨ q.1 = 23) ∧ ∀ (i t b s : Nat), (fk q.1)[i]? = some (.inr (t, b, s)) → (t, rk b s q.2) ∈ gids G
def okv (G : GE) (v : AV) : Prop := match v with
  | .inr (.inr (.inr (.inr q))) => q ∈ gids G ∨ (q = (24, 0) ∧ ∃ z, gscr G = some z)
  | _ => True
abbrev PX : Type := Program × Launch × Env × Room × State × MethodId × Array Value × List Frame × Method × Code × Nat × Nat
def WX (X : PX) (H : Heap) (locs : List Loc) (Q : State → Prop) (pc : Nat) (la : Array Slot) (st : List Value) : Prop :=
  W X.1 X.2.1 X.2.2.1 X.2.2.2.1 X.2.2.2.2.1 X.2.2.2.2.2.1 X.2.2.2.2.2.2.1 X.2.2.2.2.2.2.2.1 X.2.2.2.2.2.2.2.2.1 X.2.2.2.2.2.2.2.2.2.1 H locs X.2.2.2.2.2.2.2.2.2.2.1 X.2.2.2.2.2.2.2.2.2.2.2 Q (F0 X.2.2.2.2.2.1 pc la st)
abbrev xs_ (X : PX) : State := X.2.2.2.2.1
abbrev xk_ (X : PX) : Nat := X.2.2.2.2.2.2.2.2.2.2.1
abbrev xz_ (X : PX) : Nat := X.2.2.2.2.2.2.2.2.2.2.2
def GW (G : GE) (X : PX) (nL : Nat) (Q : State → Prop) (pc : Nat) (ls : List (Nat × AV)) (st : List AV) (M : Mem) : Prop :=
  (∀ q ∈ ls, okv G q.2) → (∀ v ∈ st, okv G v) → ∀ (H : Heap) (locs : List Loc) (la : Array Slot), Wm G M H → va_S (gA G) (xs_ X).heap H locs → lv_has la nL (ls.map (fun q => (q.1, cv G q.2))) → WX X H locs Q pc la (st.map (cv G))
/-- what holds all over a method's walk -/
def CX (tb : Bool) (G : GE) (own : String) (cc : ByteArray) (nL : Nat) (ret : Option FieldType) (rm : Room) (X : PX) : Prop :=
  X.1.tables.exec = Jvm.exec ∧ X.2.2.2.2.2.2.2.2.2.1.code = cc ∧ X.2.2.2.2.2.2.2.2.2.1.maxLocals = nL ∧ (xs_ X).vm.findClass own = some X.2.2.2.2.2.1.cls ∧ (∀ w ∈ BW, w.before X.2.2.2.2.2.2.1 (xs_ X) = true) ∧ X.2.2.2.2.2.2.2.2.1.locks = false ∧ X.2.2.2.2.2.2.2.2.1.sig.returnType = ret ∧ (tb = true → (∀ z ∈ X.2.2.2.2.2.2.2.2.2.1.exceptionTable.toList, False) ∧ xk_ X = 0 ∧ xz_ X = 0) ∧ X.2.1.stackTraces = false ∧ X.2.2.2.1 = rm ∧ GOK G ∧ SF G (xs_ X) (xs_ X).heap
abbrev Outc : Type := Option AV ⊕ String
def mcx (o : Outc) : Nat := match o with | .inl _ => 0 | .inr _ => 1
def msx (o : Outc) : Nat := match o with | .inl _ => 0 | .inr _ => 6
def rmx (d : Nat) (o : Outc) : Room := { frames := d, cells := mcx o, slots := msx o, locals := 36 * d }
def QR (G : GE) (o : Outc) (M : Mem) : Array Value → State → Outcome → State → Prop := fun _ st oc t => ∃ v, o = .inl v ∧ oc = .returned (v.map (cv G)) ∧ Wm G M t.heap ∧ va_F (gA G) st t
def XR (G : GE) (o : Outc) (M : Mem) : String → State → State → Prop := fun E st t => o = .inr E ∧ Wm G M t.heap ∧ va_F (gA G) st t
def PR (G : GE) (av : List AV) (M : Mem) : Array Value → State → Prop := va_Pc (av.map (cv G)) (fun U => Wd G M U U.heap)
/-- a method's contract: from the memory M, with these arguments, it comes to the outcome o with the memory M' -/
def CT (l : Launch) (G : GE) (y : MethodName) (cc : ByteArray) (nL : Nat) (ret : Option FieldType) (d : Nat) (av : List AV) (M : Mem) (o : Outc) (M' : Mem) : Prop :=
  vx_Met l y (Cond.code y cc nL ret :: BW) (rmx d o) (PR G av M) (QR G o M') (XR G o M') (mcx o) (msx o) (gA G)
def QX (G : GE) (X : PX) (o : Outc) (M' : Mem) : State → Prop := vx_MQ X.2.2.2.2.2.2.2.1 (QR G o M') (XR G o M') X.2.2.2.2.2.2.1 (xs_ X) (mcx o) (msx o) (gA G)
end MEM
/-! One row an instruction, over the flat memory (made by wip/whole/mkrules.py). -/
section RULES
variable {tb : Bool} {G : GE} {own : String} {cc : ByteArray} {nL : Nat} {ret : Option FieldType} {rm : Room} {X : PX} {Q : State → Prop} {pc : Nat} {ls : List (Nat × AV)} {st : List AV} {M : Mem}
def cat2 (v : AV) : Bool := match v with
  | .inr (.inl _) => true
  | .inr (.inr (.inr (.inl _))) => true
  | _ => false
theorem cat2_cv (v : AV) : ((cv G v).category == 2) = cat2 v := by
  rcases v with x | x | x | x | x <;> rfl
theorem okT {v : AV} {l : List AV} (h : okv G v) (o : ∀ v ∈ l, okv G v) : ∀ w ∈ v :: l, okv G w := List.forall_mem_cons.mpr ⟨h, o⟩
theorem okH {v : AV} {l : List AV} (o : ∀ w ∈ v :: l, okv G w) : okv G v := (List.forall_mem_cons.mp o).1
theorem okR {v : AV} {l : List AV} (o : ∀ w ∈ v :: l, okv G w) : ∀ w ∈ l, okv G w := (List.forall_mem_cons.mp o).2
abbrev cq (G : GE) : Nat × AV → Nat × Value := fun q => (q.1, cv G q.2)
def ff1 (i : Nat) : Nat × AV → Bool := fun q => !(q.1 == i) && !(q.1 + 1 == i && cat2 q.2)
def ff2 (i : Nat) : Nat × AV → Bool := fun q => !(q.1 == i) && (!(q.1 == i + 1) && !(q.1 + 1 == i && cat2 q.2))
theorem st1 {la : Array Slot} {i : Nat} {v : AV} {ls' : List (Nat × AV)} (hl : (i, v) :: ls.filter (ff1 i) = ls') (h : lv_has la nL ((i, cv G v) :: (ls.map (cq G)).filter (fun q => !(q.1 == i) && !(q.1 + 1 == i && q.2.category == 2)))) : lv_has la nL (ls'.map (cq G)) := by
  refine ⟨h.1, h.2.1, fun q hq => h.2.2 q ?_⟩
  subst hl
  rw [List.map_cons] at hq
  rcases List.mem_cons.mp hq with e | hq
  · rw [e]; exact List.mem_cons_self
  · refine List.mem_cons_of_mem _ ?_
    obtain ⟨w, hw, rfl⟩ := List.mem_map.mp hq
    obtain ⟨h1, h2⟩ := List.mem_filter.mp hw
    refine List.mem_filter.mpr ⟨List.mem_map.mpr ⟨w, h1, rfl⟩, ?_⟩
    show (!(w.1 == i) && !(w.1 + 1 == i && (cv G w.2).category == 2)) = true
    rw [cat2_cv]
    exact h2
theorem st2 {la : Array Slot} {i : Nat} {v : AV} {ls' : List (Nat × AV)} (hl : (i, v) :: ls.filter (ff2 i) = ls') (h : lv_has la nL ((i, cv G v) :: (ls.map (cq G)).filter (fun q => !(q.1 == i) && (!(q.1 == i + 1) && !(q.1 + 1 == i && q.2.category == 2))))) : lv_has la nL (ls'.map (cq G)) := by
  refine ⟨h.1, h.2.1, fun q hq => h.2.2 q ?_⟩
  subst hl
  rw [List.map_cons] at hq
  rcases List.mem_cons.mp hq with e | hq
  · rw [e]; exact List.mem_cons_self
  · refine List.mem_cons_of_mem _ ?_
    obtain ⟨w, hw, rfl⟩ := List.mem_map.mp hq
    obtain ⟨h1, h2⟩ := List.mem_filter.mp hw
    refine List.mem_filter.mpr ⟨List.mem_map.mpr ⟨w, h1, rfl⟩, ?_⟩
    show (!(w.1 == i) && (!(w.1 == i + 1) && !(w.1 + 1 == i && (cv G w.2).category == 2))) = true
    rw [cat2_cv]
    exact h2
theorem okS {i : Nat} {v : AV} {f : Nat × AV → Bool} {ls' : List (Nat × AV)} (hl : (i, v) :: ls.filter f = ls') (h : okv G v) (o : ∀ q ∈ ls, okv G q.2) : ∀ q ∈ ls', okv G q.2 := by
  subst hl
  intro q hq
  rcases List.mem_cons.mp hq with e | hq
  · rw [e]; exact h
  · exact o q (List.mem_filter.mp hq).1
theorem lget {la : Array Slot} (h : lv_has la nL (ls.map (cq G))) (j : Nat) {i : Nat} {v : AV} (hj : ls[j]? = some (i, v)) : la[i]? = some (.val (cv G v)) := lv_at h j (by rw [List.getElem?_map, hj]; rfl)
theorem okL (o : ∀ q ∈ ls, okv G q.2) (j : Nat) {i : Nat} {v : AV} (hj : ls[j]? = some (i, v)) : okv G v := o (i, v) (List.mem_of_getElem? hj)
/-- fewer locals -/
theorem g_sub {ls' : List (Nat × AV)} (js : List Nat) (hj : js.filterMap (fun j => ls[j]?) = ls') (k : GW G X nL Q pc ls' st M) : GW G X nL Q pc ls st M := by
  have hm : ∀ q ∈ ls', q ∈ ls := by
    intro q hq
    subst hj
    obtain ⟨i, -, hi⟩ := List.mem_filterMap.mp hq
    exact List.mem_of_getElem? hi
  intro o1 o2 H locs la w s h
  refine k (fun q hq => o1 q (hm q hq)) o2 H locs la w s ⟨h.1, h.2.1, fun q hq => h.2.2 q ?_⟩
  obtain ⟨z, hz, rfl⟩ := List.mem_map.mp hq
  exact List.mem_map.mpr ⟨z, hm z hz, rfl⟩
theorem g_pc {pc' : Nat} (h : pc = pc') (k : GW G X nL Q pc' ls st M) : GW G X nL Q pc ls st M := h ▸ k
theorem g_iconst (C : CX tb G own cc nL ret rm X) {n : Int} {v : Int32} (hd : decode cc pc = .ok (.iconst n, 1)) (hv : Int32.ofInt n = v) (k : GW G X nL Q (pc + 1) ls (vI v :: st) M) : GW G X nL Q pc ls st M :=
  fun o1 o2 H locs la w s h => lv_iconst C.1 C.2.1 hd hv (k o1 (okT trivial o2) H locs la w s h)
theorem g_bipush (C : CX tb G own cc nL ret rm X) {n : Int} {v : Int32} (hd : decode cc pc = .ok (.bipush n, 2)) (hv : (Int8.ofInt n).toInt32 = v) (k : GW G X nL Q (pc + 2) ls (vI v :: st) M) : GW G X nL Q pc ls st M :=
  fun o1 o2 H locs la w s h => lv_bipush C.1 C.2.1 hd hv (k o1 (okT trivial o2) H locs la w s h)
theorem g_sipush (C : CX tb G own cc nL ret rm X) {n : Int} {v : Int32} (hd : decode cc pc = .ok (.sipush n, 3)) (hv : (Int16.ofInt n).toInt32 = v) (k : GW G X nL Q (pc + 3) ls (vI v :: st) M) : GW G X nL Q pc ls st M :=
  fun o1 o2 H locs la w s h => lv_sipush C.1 C.2.1 hd hv (k o1 (okT trivial o2) H locs la w s h)
theorem g_iload_n (C : CX tb G own cc nL ret rm X) (j : Nat) {n : Fin 4} {i : Nat} {x : Int32} (hd : decode cc pc = .ok (.iload_n n, 1)) (hi : (n : Nat) = i) (hj : ls[j]? = some (i, vI x)) (k : GW G X nL Q (pc + 1) ls (vI x :: st) M) : GW G X nL Q pc ls st M :=
  fun o1 o2 H locs la w s h => lv_iload_n C.1 C.2.1 hd hi (lget h j hj) (k o1 (okT trivial o2) H locs la w s h)
theorem g_iload (C : CX tb G own cc nL ret rm X) (j : Nat) {i : Nat} {x : Int32} (hd : decode cc pc = .ok (.iload i, 2)) (hj : ls[j]? = some (i, vI x)) (k : GW G X nL Q (pc + 2) ls (vI x :: st) M) : GW G X nL Q pc ls st M :=
  fun o1 o2 H locs la w s h => lv_iload C.1 C.2.1 hd (lget h j hj) (k o1 (okT trivial o2) H locs la w s h)
theorem g_aload_n (C : CX tb G own cc nL ret rm X) (j : Nat) {n : Fin 4} {i t q : Nat} (hd : decode cc pc = .ok (.aload_n n, 1)) (hi : (n : Nat) = i) (hj : ls[j]? = some (i, vR t q)) (k : GW G X nL Q (pc + 1) ls (vR t q :: st) M) : GW G X nL Q pc ls st M :=
  fun o1 o2 H locs la w s h => lv_aload_n C.1 C.2.1 hd hi (lget h j hj) (k o1 (okT (okL o1 j hj) o2) H locs la w s h)
theorem g_istore_n (C : CX tb G own cc nL ret rm X) {ls' : List (Nat × AV)} {n : Fin 4} {i : Nat} {x : Int32} (hd : decode cc pc = .ok (.istore_n n, 1)) (hi : (n : Nat) = i) (hn : i < nL) (hl : (i, vI x) :: ls.filter (ff1 i) = ls') (k : GW G X nL Q (pc + 1) ls' st M) : GW G X nL Q pc ls (vI x :: st) M :=
  fun o1 o2 H locs la w s h => lv_istore_n C.1 C.2.1 hd hi h hn rfl (fun la2 h2 => k (okS hl trivial o1) (okR o2) H locs la2 w s (st1 hl h2))
theorem g_istore (C : CX tb G own cc nL ret rm X) {ls' : List (Nat × AV)} {i : Nat} {x : Int32} (hd : decode cc pc = .ok (.istore i, 2)) (hn : i < nL) (hl : (i, vI x) :: ls.filter (ff1 i) = ls') (k : GW G X nL Q (pc + 2) ls' st M) : GW G X nL Q pc ls (vI x :: st) M :=
  fun o1 o2 H locs la w s h => lv_istore C.1 C.2.1 hd h hn rfl (fun la2 h2 => k (okS hl trivial o1) (okR o2) H locs la2 w s (st1 hl h2))
theorem g_iinc (C : CX tb G own cc nL ret rm X) {ls' : List (Nat × AV)} (j : Nat) {i : Nat} {n : Int} {x v : Int32} (hd : decode cc pc = .ok (.iinc i n, 3)) (hj : ls[j]? = some (i, vI x)) (hv : x + Int32.ofInt n = v) (hn : i < nL) (hl : (i, vI v) :: ls.filter (ff1 i) = ls') (k : GW G X nL Q (pc + 3) ls' st M) : GW G X nL Q pc ls st M :=
  fun o1 o2 H locs la w s h => lv_iinc (k := j) C.1 C.2.1 hd h (by rw [List.getElem?_map, hj]; rfl) hv hn rfl (fun la2 h2 => k (okS hl trivial o1) o2 H locs la2 w s (st1 hl h2))
theorem g_iadd (C : CX tb G own cc nL ret rm X) {x y : Int32} (hd : decode cc pc = .ok (.iadd, 1)) (k : GW G X nL Q (pc + 1) ls (vI (x + y) :: st) M) : GW G X nL Q pc ls (vI y :: vI x :: st) M :=
  fun o1 o2 H locs la w s h => lv_iadd C.1 C.2.1 hd (k o1 (okT trivial (okR (okR o2))) H locs la w s h)
theorem g_imul (C : CX tb G own cc nL ret rm X) {x y : Int32} (hd : decode cc pc = .ok (.imul, 1)) (k : GW G X nL Q (pc + 1) ls (vI (x * y) :: st) M) : GW G X nL Q pc ls (vI y :: vI x :: st) M :=
  fun o1 o2 H locs la w s h => lv_imul C.1 C.2.1 hd (k o1 (okT trivial (okR (okR o2))) H locs la w s h)
theorem g_idiv (C : CX tb G own cc nL ret rm X) {x y : Int32} (hd : decode cc pc = .ok (.idiv, 1)) (hne : ¬ y = 0) (k : GW G X nL Q (pc + 1) ls (vI (x / y) :: st) M) : GW G X nL Q pc ls (vI y :: vI x :: st) M :=
  fun o1 o2 H locs la w s h => lv_idiv C.1 C.2.1 hd hne (k o1 (okT trivial (okR (okR o2))) H locs la w s h)
theorem c1_cv {v : AV} (h : cat2 v = false) : (cv G v).category = 1 := by
  rcases v with x | x | x | x | x <;> first | rfl | cases h
theorem g_dup (C : CX tb G own cc nL ret rm X) {v : AV} (hd : decode cc pc = .ok (.dup, 1)) (hc : cat2 v = false) (k : GW G X nL Q (pc + 1) ls (v :: v :: st) M) : GW G X nL Q pc ls (v :: st) M :=
  fun o1 o2 H locs la w s h => lv_dup C.1 C.2.1 hd (c1_cv hc) (k o1 (okT (okH o2) o2) H locs la w s h)
theorem g_pop (C : CX tb G own cc nL ret rm X) {v : AV} (hd : decode cc pc = .ok (.pop, 1)) (hc : cat2 v = false) (k : GW G X nL Q (pc + 1) ls st M) : GW G X nL Q pc ls (v :: st) M :=
  fun o1 o2 H locs la w s h => lv_pop C.1 C.2.1 hd (c1_cv hc) (k o1 (okR o2) H locs la w s h)
theorem g_if_eq (C : CX tb G own cc nL ret rm X) {x : Int32} {off : Int} {tgt : Nat} (hd : decode cc pc = .ok (.ifCond .eq off, 3)) (ht : (pc : Int) + off = (tgt : Int)) (kt : x = 0 → GW G X nL Q tgt ls st M) (kf : ¬ (x = 0) → GW G X nL Q (pc + 3) ls st M) : GW G X nL Q pc ls (vI x :: st) M :=
  fun o1 o2 H locs la w s h => lv_if_eq C.1 C.2.1 hd ht (fun z => kt z o1 (okR o2) H locs la w s h) (fun z => kf z o1 (okR o2) H locs la w s h)
theorem g_icmp_ne (C : CX tb G own cc nL ret rm X) {x y : Int32} {off : Int} {tgt : Nat} (hd : decode cc pc = .ok (.if_icmp .ne off, 3)) (ht : (pc : Int) + off = (tgt : Int)) (kt : ¬ x = y → GW G X nL Q tgt ls st M) (kf : x = y → GW G X nL Q (pc + 3) ls st M) : GW G X nL Q pc ls (vI y :: vI x :: st) M :=
  fun o1 o2 H locs la w s h => lv_icmp_ne C.1 C.2.1 hd ht (fun z => kt z o1 (okR (okR o2)) H locs la w s h) (fun z => kf z o1 (okR (okR o2)) H locs la w s h)
theorem g_if_lt (C : CX tb G own cc nL ret rm X) {x : Int32} {off : Int} {tgt : Nat} (hd : decode cc pc = .ok (.ifCond .lt off, 3)) (ht : (pc : Int) + off = (tgt : Int)) (kt : x < 0 → GW G X nL Q tgt ls st M) (kf : ¬ (x < 0) → GW G X nL Q (pc + 3) ls st M) : GW G X nL Q pc ls (vI x :: st) M :=
  fun o1 o2 H locs la w s h => lv_if_lt C.1 C.2.1 hd ht (fun z => kt z o1 (okR o2) H locs la w s h) (fun z => kf z o1 (okR o2) H locs la w s h)
theorem g_icmp_lt (C : CX tb G own cc nL ret rm X) {x y : Int32} {off : Int} {tgt : Nat} (hd : decode cc pc = .ok (.if_icmp .lt off, 3)) (ht : (pc : Int) + off = (tgt : Int)) (kt : x < y → GW G X nL Q tgt ls st M) (kf : ¬ (x < y) → GW G X nL Q (pc + 3) ls st M) : GW G X nL Q pc ls (vI y :: vI x :: st) M :=
  fun o1 o2 H locs la w s h => lv_icmp_lt C.1 C.2.1 hd ht (fun z => kt z o1 (okR (okR o2)) H locs la w s h) (fun z => kf z o1 (okR (okR o2)) H locs la w s h)
theorem g_icmp_ge (C : CX tb G own cc nL ret rm X) {x y : Int32} {off : Int} {tgt : Nat} (hd : decode cc pc = .ok (.if_icmp .ge off, 3)) (ht : (pc : Int) + off = (tgt : Int)) (kt : y ≤ x → GW G X nL Q tgt ls st M) (kf : ¬ (y ≤ x) → GW G X nL Q (pc + 3) ls st M) : GW G X nL Q pc ls (vI y :: vI x :: st) M :=
  fun o1 o2 H locs la w s h => lv_icmp_ge C.1 C.2.1 hd ht (fun z => kt z o1 (okR (okR o2)) H locs la w s h) (fun z => kf z o1 (okR (okR o2)) H locs la w s h)
theorem g_goto (C : CX tb G own cc nL ret rm X) {off : Int} {tgt : Nat} (hd : decode cc pc = .ok (.goto off, 3)) (ht : (pc : Int) + off = (tgt : Int)) (k : GW G X nL Q tgt ls st M) : GW G X nL Q pc ls st M :=
  fun o1 o2 H locs la w s h => lv_goto C.1 C.2.1 hd ht (k o1 o2 H locs la w s h)
end RULES
/-! The rows that read and write the flat memory; calls, ends, throws; a method's contract out of its walk. -/
section HEAP
variable {tb : Bool} {G : GE} {own : String} {cc : ByteArray} {nL : Nat} {ret : Option FieldType} {rm : Room} {X : PX} {Q : State → Prop} {pc : Nat} {ls : List (Nat × AV)} {st : List AV} {M : Mem}
theorem wl_at {t k : Nat} (h : (t, k) ∈ gids G) : ∃ q0 : Nat, (gids G)[q0]? = some (t, k) ∧ (wl G M)[q0]? = some (gad G t k, enc G M t k) := by
  obtain ⟨i, hi⟩ := List.getElem?_of_mem h
  exact ⟨i, hi, by unfold wl; rw [List.getElem?_map, hi]; rfl⟩
theorem wl_set {A : Nat → Prop} {M' : Mem} {t k q0 : Nat} {e : va_E} (hD : va_D A (wl G M)) (h0 : (gids G)[q0]? = some (t, k)) (he : enc G M' t k = e) (ho : ∀ a b, ¬ (a = t ∧ b = k) → enc G M' a b = enc G M a b) : (wl G M).set q0 (gad G t k, e) = wl G M' := by
  have hl := (List.getElem?_eq_some_iff.mp h0).1
  have hw : ∀ (N : Mem) (i : Nat) (q : Nat × Nat), (gids G)[i]? = some q → (wl G N)[i]? = some (gad G q.1 q.2, enc G N q.1 q.2) := fun N i q hq => by unfold wl; rw [List.getElem?_map, hq]; rfl
  refine List.ext_getElem? (fun i => ?_)
  by_cases hi : i = q0
  · subst hi
    rw [List.getElem?_set_self (by unfold wl; rw [List.length_map]; exact hl), hw M' i _ h0, he]
  · rw [List.getElem?_set_ne (Ne.symm hi)]
    cases hg : (gids G)[i]? with
    | none => unfold wl; rw [List.getElem?_map, List.getElem?_map, hg]; rfl
    | some q =>
      rw [hw M i q hg, hw M' i q hg]
      by_cases hq : q.1 = t ∧ q.2 = k
      · obtain ⟨a, b⟩ := q
        obtain ⟨rfl, rfl⟩ := hq
        exact absurd (hD.1 i q0 _ _ (hw M i _ hg) (hw M q0 _ h0) rfl) hi
      · rw [ho q.1 q.2 hq]
theorem mI_at (t k i : Nat) (v : Int32) : (mI M t k i v).1 t k = upd (M.1 t k) i v := by
  funext c
  simp [mI, upd]
theorem mI_ne {t k i a b : Nat} {v : Int32} (h : ¬ (a = t ∧ b = k)) : (mI M t k i v).1 a b = M.1 a b := by
  funext c
  show (if a = t ∧ b = k ∧ c = i then v else M.1 a b c) = M.1 a b c
  rw [if_neg (fun z => h ⟨z.1, z.2.1⟩)]
theorem enc_mI {t k i : Nat} {v : Int32} : ∀ a b, ¬ (a = t ∧ b = k) → enc G (mI M t k i v) a b = enc G M a b := fun a b h => by unfold enc; rw [mI_ne h]; rfl
variable {ad : Nat → Nat → Nat} {f : Nat → Int32} {g : Nat → Int64} {k : Nat} {cls : String}
theorem fvs_len : ∀ (l : List FK) (j : Nat), (fvs ad f g k j l).length = l.length
  | [], _ => rfl
  | .inl 0 :: r, j => by show (fvs ad f g k (j + 1) r).length + 1 = _; rw [fvs_len r]; rfl
  | .inl (_ + 1) :: r, j => by show (fvs ad f g k (j + 1) r).length + 1 = _; rw [fvs_len r]; rfl
  | .inr (_, _, _) :: r, j => by show (fvs ad f g k (j + 1) r).length + 1 = _; rw [fvs_len r]; rfl
def fv1 (ad : Nat → Nat → Nat) (f : Nat → Int32) (g : Nat → Int64) (k j : Nat) (x : FK) : Value := match x with
  | .inl 0 => .int (f j)
  | .inl (_ + 1) => .long (g j)
  | .inr (t, b, s) => .ref (ad t (rk b s k))
theorem fvs_cons (x : FK) (r : List FK) (j : Nat) : fvs ad f g k j (x :: r) = fv1 ad f g k j x :: fvs ad f g k (j + 1) r := by
  rcases x with (_ | n) | ⟨a, b, c⟩ <;> rfl
theorem fvs_at : ∀ (l : List FK) (j i : Nat) (x : FK), l[i]? = some x → (fvs ad f g k j l)[i]? = some (fv1 ad f g k (j + i) x)
  | [], _, _, _, h => by simp at h
  | y :: r, j, 0, x, h => by
    rw [List.getElem?_cons_zero] at h
    cases h
    rw [fvs_cons, List.getElem?_cons_zero]
    rfl
  | y :: r, j, i + 1, x, h => by
    rw [List.getElem?_cons_succ] at h
    rw [fvs_cons, List.getElem?_cons_succ, fvs_at r (j + 1) i x h, show j + 1 + i = j + (i + 1) by omega]
theorem fvs_up {i' : Nat} {v : Int32} : ∀ (l : List FK) (j : Nat), i' < j → fvs ad (upd f i' v) g k j l = fvs ad f g k j l
  | [], _, _ => rfl
  | y :: r, j, h => by
    rw [fvs_cons, fvs_cons, fvs_up r (j + 1) (by omega)]
    rcases y with (_ | n) | ⟨a, b, c⟩ <;> first | rfl | (show Value.int (upd f i' v j) :: _ = Value.int (f j) :: _; unfold upd; rw [if_neg (by omega)])
theorem fvs_set {v : Int32} : ∀ (l : List FK) (j i : Nat), l[i]? = some (.inl 0) → (fvs ad f g k j l).set i (.int v) = fvs ad (upd f (j + i) v) g k j l
  | [], _, _, h => by simp at h
  | y :: r, j, 0, h => by
    rw [List.getElem?_cons_zero] at h
    cases h
    rw [fvs_cons, fvs_cons, fvs_up r (j + 1) (by omega)]
    show Value.int v :: _ = Value.int (upd f (j + 0) v j) :: _
    unfold upd
    rw [if_pos (by omega)]
  | y :: r, j, i + 1, h => by
    rw [List.getElem?_cons_succ] at h
    rw [fvs_cons, fvs_cons, List.set_cons_succ, fvs_set r (j + 1) i h, show j + 1 + i = j + (i + 1) by omega]
    rcases y with (_ | n) | ⟨a, b, c⟩ <;> first | rfl | (show Value.int (f j) :: _ = Value.int (upd f (j + (i + 1)) v j) :: _; unfold upd; rw [if_neg (by omega)])
/-! the classes by their numbers -/
def cN (t : Nat) : String := (vwCl.getD t ("", fun _ => ("", "", "", false), 0)).1
def cT (t : Nat) : u_T := (vwCl.getD t ("", fun _ => ("", "", "", false), 0)).2.1
def cn (t : Nat) : Nat := (vwCl.getD t ("", fun _ => ("", "", "", false), 0)).2.2
theorem c11 {P : Nat → Prop} {t : Nat} (h : t < 11) (p0 : P 0) (p1 : P 1) (p2 : P 2) (p3 : P 3) (p4 : P 4) (p5 : P 5) (p6 : P 6) (p7 : P 7) (p8 : P 8) (p9 : P 9) (p10 : P 10) : P t := by
  rcases (show t = 0 ∨ t = 1 ∨ t = 2 ∨ t = 3 ∨ t = 4 ∨ t = 5 ∨ t = 6 ∨ t = 7 ∨ t = 8 ∨ t = 9 ∨ t = 10 by omega) with rfl | rfl | rfl | rfl | rfl | rfl | rfl | rfl | rfl | rfl | rfl <;> assumption
theorem cl_at {t : Nat} (h : t < 11) : vwCl[t]? = some (cN t, cT t, cn t) := c11 (P := fun t => vwCl[t]? = some (cN t, cT t, cn t)) h rfl rfl rfl rfl rfl rfl rfl rfl rfl rfl rfl
theorem cl_ws {t : Nat} (h : t < 11) : ∀ w ∈ u_ws (cN t) (cT t) (cn t), w ∈ BW := c11 (P := fun t => ∀ w ∈ u_ws (cN t) (cT t) (cn t), w ∈ BW) h iX0 iX1 iX2 iX3 iX4 iX5 iX6 iX7 iX8 iX9 iX10
theorem cl_len {t : Nat} (h : t < 11) : (fk t).length = cn t := c11 (P := fun t => (fk t).length = cn t) h rfl rfl rfl rfl rfl rfl rfl rfl rfl rfl rfl
def cty (t : Nat) : Nat → FieldType := match t with
  | 0 => tyX0 | 1 => tyX1 | 2 => tyX2 | 3 => tyX3 | 4 => tyX4 | 5 => tyX5 | 6 => tyX6 | 7 => tyX7 | 8 => tyX8 | 9 => tyX9 | _ => tyX10
theorem cl_ty {t : Nat} (h : t < 11) : ∀ k, k < cn t → parseFieldDescriptor (cT t k).2.2.1 = some (cty t k) := c11 (P := fun t => ∀ k, k < cn t → parseFieldDescriptor (cT t k).2.2.1 = some (cty t k)) h tyX0_ok tyX1_ok tyX2_ok tyX3_ok tyX4_ok tyX5_ok tyX6_ok tyX7_ok tyX8_ok tyX9_ok tyX10_ok
theorem cl_nm {t : Nat} (h : t < 11) : ∀ a, a < cn t → ∀ b, b < cn t → a ≠ b → (cT t a).2.1 ≠ (cT t b).2.1 := c11 (P := fun t => ∀ a, a < cn t → ∀ b, b < cn t → a ≠ b → (cT t a).2.1 ≠ (cT t b).2.1) h nmX0 nmX1 nmX2 nmX3 nmX4 nmX5 nmX6 nmX7 nmX8 nmX9 nmX10
theorem enc_o {t k : Nat} (h : t < 11) : enc G M t k = .inr (t, fvs (gad G) (M.1 t k) (M.2 t k) k 0 (fk t)) := by unfold enc; rw [if_pos (by omega)]
theorem enc_i {t k : Nat} (h : t = 20 ∨ t = 21 ∨ t = 22) : enc G M t k = .inl (gI G, alen t k, .inl (M.1 t k)) := by
  unfold enc
  rw [if_neg (by omega), if_neg (by omega)]
abbrev fLk (own : String) (idx t i : Nat) : Prop := Cond.fieldLink own idx (cT t i).1 (cT t i).2.1 (cT t i).2.2.1 ∈ BW
theorem okI {t k : Nat} (h : okv G (vR t k)) (ht : t < 24) : (t, k) ∈ gids G := by
  rcases (show (t, k) ∈ gids G ∨ ((t, k) = (24, 0) ∧ ∃ z, gscr G = some z) from h) with h | ⟨h, -⟩
  · exact h
  · cases h; omega
theorem fk_lt {t i : Nat} {x : FK} (h : t < 11) (hf : (fk t)[i]? = some x) : i < cn t := by rw [← cl_len h]; exact (List.getElem?_eq_some_iff.mp hf).1
theorem g_get0 (C : CX tb G own cc nL ret rm X) {t k i idx : Nat} {x : FK} {v : AV} (ht : t < 11) (hlk : fLk own idx t i) (hf : (fk t)[i]? = some x) (hv : cv G v = fv1 (gad G) (M.1 t k) (M.2 t k) k (0 + i) x) (hok : (t, k) ∈ gids G → okv G v) (hd : decode cc pc = .ok (.getfield idx, 3)) (kk : GW G X nL Q (pc + 3) ls (v :: st) M) : GW G X nL Q pc ls (vR t k :: st) M := by
  intro o1 o2 H locs la w s h
  have hid := okI (okH o2) (by omega)
  obtain ⟨q0, h0, h1⟩ := wl_at (M := M) hid
  rw [enc_o ht] at h1
  refine va_get (ref := (cT t i).1) C.1 C.2.1 C.2.2.2.2.1 (cl_ws ht) C.2.2.2.1 C.2.2.2.2.2.2.2.2.2.2.2.1 w.1 q0 h1 (cl_at ht) i (fk_lt ht hf) (C.2.2.2.2.1 _ hlk) (fun _ h9 => h9) (v := cv G v) ?_ hd (kk o1 (okT (hok hid) (okR o2)) H locs la w s h)
  rw [hv]
  exact fvs_at _ _ _ _ hf
theorem g_geti (C : CX tb G own cc nL ret rm X) {t k i idx : Nat} (ht : t < 11) (hlk : fLk own idx t i) (hf : (fk t)[i]? = some (.inl 0)) (hd : decode cc pc = .ok (.getfield idx, 3)) (kk : GW G X nL Q (pc + 3) ls (vI (M.1 t k i) :: st) M) : GW G X nL Q pc ls (vR t k :: st) M :=
  g_get0 (v := vI (M.1 t k i)) C ht hlk hf (by rw [Nat.zero_add]; rfl) (fun _ => trivial) hd kk
theorem g_getr (C : CX tb G own cc nL ret rm X) {t k i idx t' b s k' : Nat} (ht : t < 11) (hlk : fLk own idx t i) (hf : (fk t)[i]? = some (.inr (t', b, s))) (hk' : rk b s k = k') (hd : decode cc pc = .ok (.getfield idx, 3)) (kk : GW G X nL Q (pc + 3) ls (vR t' k' :: st) M) : GW G X nL Q pc ls (vR t k :: st) M := by
  subst hk'
  exact g_get0 (v := vR t' (rk b s k)) C ht hlk hf rfl (fun hid => Or.inl ((C.2.2.2.2.2.2.2.2.2.2.1 _ hid).2 _ _ _ _ hf)) hd kk
theorem ca (C : CX tb G own cc nL ret rm X) : SF G (xs_ X) (xs_ X).heap := C.2.2.2.2.2.2.2.2.2.2.2
theorem SF.kept {U : State} {H0 H : Heap} (h : SF G U H0) (s : H0.size ≤ H.size ∧ ∀ q : Nat, q < H0.size → ¬ gA G q → H[q]? = H0[q]?) : SF G U H :=
  ⟨h.1, vx_Zq.kept h.2.1 s.2, vx_Zq.kept h.2.2.1 s.2, fun q z => h.2.2.2.1 q (Nat.le_trans s.1 z), h.2.2.2.2.1, h.2.2.2.2.2.1, fun L xs z => by
    obtain ⟨h1, h2, h3⟩ := h.2.2.2.2.2.2 L xs z
    exact ⟨va_X.kept h1 (s.2 _ h2 h3), Nat.lt_of_lt_of_le h2 s.1, h3⟩⟩
theorem SF.moved {U V : State} {H : Heap} (hW : U.WarmedH V.vm) (h : SF G U H) : SF G V H :=
  ⟨va_K.moved hW.alike h.1, vx_Zq.moved hW.alike h.2.1, vx_Zq.moved hW.alike h.2.2.1, h.2.2.2.1, fun q z => by
    obtain ⟨a, ha⟩ := h.2.2.2.2.1 q z
    exact ⟨a, vk_R.warm hW ha⟩, ⟨XW.warm hW h.2.2.2.2.2.1.1, fun q z => va_Nc.moved hW.alike (h.2.2.2.2.2.1.2 q z)⟩, fun L xs z => by
    obtain ⟨h1, h2, h3⟩ := h.2.2.2.2.2.2 L xs z
    exact ⟨va_X.moved hW.alike h1, h2, h3⟩⟩
theorem SF.vm {U V : State} {H : Heap} (hv : V.vm = U.vm) (h : SF G U H) : SF G V H :=
  ⟨va_K.moved (by rw [hv]; exact Vm.Alike.refl _) h.1, vx_Zq.moved (by rw [hv]; exact Vm.Alike.refl _) h.2.1, vx_Zq.moved (by rw [hv]; exact Vm.Alike.refl _) h.2.2.1, h.2.2.2.1, fun q z => by
    obtain ⟨a, ha⟩ := h.2.2.2.2.1 q z
    exact ⟨a, vk_R.same hv ha⟩, ⟨fun w z => va_Nw.same (XW.tabs w z) hv.symm (h.2.2.2.2.2.1.1 w z), fun q z => va_Nc.moved (by rw [hv]; exact Vm.Alike.refl _) (h.2.2.2.2.2.1.2 q z)⟩, fun L xs z => by
    obtain ⟨h1, h2, h3⟩ := h.2.2.2.2.2.2 L xs z
    exact ⟨va_X.moved (by rw [hv]; exact Vm.Alike.refl _) h1, h2, h3⟩⟩
abbrev fLkN (own : String) (idx t i : Nat) : Prop := Cond.fieldLinkNest own idx (cT t i).1 (cT t i).2.1 (cT t i).2.2.1 "ArrowDiagrams" ∈ XW
theorem g_getrN (C : CX tb G own cc nL ret rm X) {t k i idx t' b s k' : Nat} (ht : t < 11) (hlk : fLkN own idx t i) (hf : (fk t)[i]? = some (.inr (t', b, s))) (hk' : rk b s k = k') (hd : decode cc pc = .ok (.getfield idx, 3)) (kk : GW G X nL Q (pc + 3) ls (vR t' k' :: st) M) : GW G X nL Q pc ls (vR t k :: st) M := by
  subst hk'
  intro o1 o2 H locs la w z h
  have hid := okI (okH o2) (by omega)
  obtain ⟨q0, h0, h1⟩ := wl_at (M := M) hid
  rw [enc_o ht] at h1
  refine va_getN (ref := (cT t i).1) (host := "ArrowDiagrams") C.1 C.2.1 C.2.2.2.2.1 (cl_ws ht) C.2.2.2.1 (ca C).1 w.1 q0 h1 (cl_at ht) i (fk_lt ht hf) (va_Nw.use (XW.tabs _ hlk) ((ca C).2.2.2.2.2.1.1 _ hlk)) (fun _ h9 => h9) (v := cv G (vR t' (rk b s k))) ?_ hd (kk o1 (okT (Or.inl ((C.2.2.2.2.2.2.2.2.2.2.1 _ hid).2 _ _ _ _ hf)) (okR o2)) H locs la w z h)
  exact fvs_at _ _ _ _ hf
theorem g_puti0 (C : CX tb G own cc nL ret rm X) {t k i idx : Nat} {v : Int32} (ht : t < 11) (hlk : fLk own idx t i) (hf : (fk t)[i]? = some (.inl 0)) (hfin : (cT t i).2.2.2 = false) (hn : narrow (cty t i) (.int v) = .int v) (hfit : fits (cty t i) (.int v) = true) (hd : decode cc pc = .ok (.putfield idx, 3)) (kk : GW G X nL Q (pc + 3) ls st (mI M t k i v)) : GW G X nL Q pc ls (vI v :: vR t k :: st) M := by
  intro o1 o2 H locs la w s h
  have hid := okI (okH (okR o2)) (by omega)
  obtain ⟨q0, h0, h1⟩ := wl_at (M := M) hid
  have h1' := h1
  rw [enc_o ht] at h1
  refine va_put (ref := (cT t i).1) (v := .int v) C.1 C.2.1 C.2.2.2.2.1 (cl_ws ht) (cty t) (cl_ty ht) (cl_nm ht) C.2.2.2.1 (ca C).1 w.1 w.2 s q0 h1 (cl_at ht) i (fk_lt ht hf) (C.2.2.2.2.1 _ hlk) (fun _ h9 => h9) hfin (cl_ty ht i (fk_lt ht hf)) hn hfit (by rw [fvs_len, cl_len ht]; exact fk_lt ht hf) hd (fun H1 locs1 hP hD hS => ?_)
  have e : (wl G M).set q0 (gad G t k, .inr (t, (fvs (gad G) (M.1 t k) (M.2 t k) k 0 (fk t)).set i (.int v))) = wl G (mI M t k i v) := by
    refine wl_set w.2 h0 ?_ enc_mI
    rw [enc_o ht, mI_at, fvs_set _ _ _ hf, Nat.zero_add]
    rfl
  rw [e] at hP hD
  exact kk o1 (okR (okR o2)) H1 locs1 la ⟨hP, hD⟩ hS h
theorem g_puti (C : CX tb G own cc nL ret rm X) {t k i idx : Nat} {v : Int32} (ht : t < 11) (hlk : fLk own idx t i) (hf : (fk t)[i]? = some (.inl 0)) (hty : cty t i = .int) (hfin : (cT t i).2.2.2 = false) (hd : decode cc pc = .ok (.putfield idx, 3)) (kk : GW G X nL Q (pc + 3) ls st (mI M t k i v)) : GW G X nL Q pc ls (vI v :: vR t k :: st) M :=
  g_puti0 C ht hlk hf hfin (by rw [hty]; rfl) (by rw [hty]; rfl) hd kk
/-! arrays -/
theorem g_iald (C : CX tb G own cc nL ret rm X) {t k : Nat} {i : Int32} (ht : t = 20 ∨ t = 21 ∨ t = 22) (hin : vp_in i (alen t k)) (hd : decode cc pc = .ok (.iaload, 1)) (kk : GW G X nL Q (pc + 1) ls (vI (M.1 t k i.toNatClampNeg) :: st) M) : GW G X nL Q pc ls (vI i :: vR t k :: st) M := by
  intro o1 o2 H locs la w s h
  have hid := okI (okH (okR o2)) (by omega)
  obtain ⟨q0, h0, h1⟩ := wl_at (M := M) hid
  rw [enc_i ht] at h1
  exact va_iald C.1 C.2.1 (ca C).1 w.1 q0 0 h1 rfl hin hd (kk o1 (okT trivial (okR (okR o2))) H locs la w s h)
theorem g_iast (C : CX tb G own cc nL ret rm X) {t k : Nat} {i x : Int32} (ht : t = 20 ∨ t = 21 ∨ t = 22) (hin : vp_in i (alen t k)) (hd : decode cc pc = .ok (.iastore, 1)) (kk : GW G X nL Q (pc + 1) ls st (mI M t k i.toNatClampNeg x)) : GW G X nL Q pc ls (vI x :: vI i :: vR t k :: st) M := by
  intro o1 o2 H locs la w s h
  have hid := okI (okH (okR (okR o2))) (by omega)
  obtain ⟨q0, h0, h1⟩ := wl_at (M := M) hid
  rw [enc_i ht] at h1
  refine va_iast C.1 C.2.1 (ca C).1 w.1 w.2 s q0 0 h1 rfl hin hd (fun H1 locs1 hP hD hS => ?_)
  have e : (wl G M).set q0 (gad G t k, .inl (gI G, alen t k, .inl (upd (M.1 t k) i.toNatClampNeg x))) = wl G (mI M t k i.toNatClampNeg x) := by
    refine wl_set w.2 h0 ?_ enc_mI
    rw [enc_i ht, mI_at]
  rw [e] at hP hD
  exact kk o1 (okR (okR (okR o2))) H1 locs1 la ⟨hP, hD⟩ hS h
theorem g_alen (C : CX tb G own cc nL ret rm X) {t k : Nat} (ht : t = 20 ∨ t = 21 ∨ t = 22) (hd : decode cc pc = .ok (.arraylength, 1)) (kk : GW G X nL Q (pc + 1) ls (vI (nI (alen t k)) :: st) M) : GW G X nL Q pc ls (vR t k :: st) M := by
  intro o1 o2 H locs la w s h
  have hid := okI (okH o2) (by omega)
  obtain ⟨q0, h0, h1⟩ := wl_at (M := M) hid
  rw [enc_i ht] at h1
  exact va_alen C.1 C.2.1 (ca C).1 w.1 q0 0 h1 rfl rfl hd (kk o1 (okT trivial (okR o2)) H locs la w s h)
/-! a method's end -/
theorem qr_end {v : Option AV} {H : Heap} {locs : List Loc} (w : Wm G M H) (s : va_S (gA G) (xs_ X).heap H locs) : ∀ t : State, t.heap = H → (xs_ X).WarmedH t.vm → QR G (.inl v) M X.2.2.2.2.2.2.1 (xs_ X) (.returned (v.map (cv G))) t := fun t ht _ =>
  ⟨v, rfl, rfl, by rw [ht]; exact w, s.F ht⟩
theorem g_iret (C : CX true G own cc nL (some .int) rm X) {x : Int32} (hd : decode cc pc = .ok (.ireturn, 1)) : GW G X nL (QX G X (.inl (some (vI x))) M) pc ls [vI x] M :=
  fun _ _ _ _ _ w s _ => W.widen (Nat.le_of_eq (C.2.2.2.2.2.2.2.1 rfl).2.1) (Nat.le_of_eq (C.2.2.2.2.2.2.2.1 rfl).2.2) (vx_ret (W.iret (v := x) C.1 C.2.1 C.2.2.2.2.2.2.1 (qr_end w s) s.2.2 hd C.2.2.2.2.2.1))
theorem g_zret (C : CX true G own cc nL (some .boolean) rm X) {x : Int32} (hx : x = 0 ∨ x = 1) (hd : decode cc pc = .ok (.ireturn, 1)) : GW G X nL (QX G X (.inl (some (vI x))) M) pc ls [vI x] M :=
  fun _ _ _ _ _ w s _ => W.widen (Nat.le_of_eq (C.2.2.2.2.2.2.2.1 rfl).2.1) (Nat.le_of_eq (C.2.2.2.2.2.2.2.1 rfl).2.2) (vx_ret (W.zret (v := x) C.1 C.2.1 C.2.2.2.2.2.2.1 (by rcases hx with rfl | rfl <;> rfl) (qr_end w s) s.2.2 hd C.2.2.2.2.2.1))
theorem g_vret (C : CX true G own cc nL none rm X) (hd : decode cc pc = .ok (.return_, 1)) : GW G X nL (QX G X (.inl none) M) pc ls [] M :=
  fun _ _ _ _ _ w s _ => W.widen (Nat.le_of_eq (C.2.2.2.2.2.2.2.1 rfl).2.1) (Nat.le_of_eq (C.2.2.2.2.2.2.2.1 rfl).2.2) (vx_ret (W.vret C.1 C.2.1 C.2.2.2.2.2.2.1 (qr_end w s) s.2.2 hd C.2.2.2.2.2.1))
end HEAP
/-! Calls, throws, and a method's contract out of its walk. -/
section CALLS
variable {tb : Bool} {G : GE} {own : String} {cc : ByteArray} {nL : Nat} {ret : Option FieldType} {rm : Room} {X : PX} {Q : State → Prop} {pc : Nat} {ls : List (Nat × AV)} {st : List AV} {M : Mem}
theorem pr_blind {av : List AV} : FrameBlind (PR G av M) := fun a U g mk h => ⟨h.1, h.2.1, SF.vm (U := U) rfl h.2.2⟩
def csum (l : List AV) : Nat := match l with
  | [] => 0
  | v :: r => (if cat2 v then 2 else 1) + csum r
theorem cat_cv (v : AV) : (cv G v).category = if cat2 v then 2 else 1 := by
  rcases v with x | x | x | x | x <;> rfl
theorem csum_cv : ∀ l : List AV, ((l.map (cv G)).map fun v => v.category).sum = csum l
  | [] => rfl
  | v :: r => by
    show (cv G v).category + ((r.map (cv G)).map fun v => v.category).sum = (if cat2 v then 2 else 1) + csum r
    rw [csum_cv r, cat_cv]
def lkB (own : String) (idx : Nat) (y : MethodName) (zc : ByteArray) (zl : Nat) (zr : Option FieldType) (n : Nat) : Prop :=
  Cond.methodLink own idx y ∈ BW ∧ Cond.initialized y.cls ∈ BW ∧ Cond.code y zc zl zr ∈ BW ∧ (y.cls ≠ "java/lang/invoke/MethodHandle" ∧ y.cls ≠ "java/lang/invoke/VarHandle" ∧ (parseMethodDescriptor y.desc).map (fun d => d.parameters.length) = some n)
def lkV (own : String) (idx : Nat) (y : MethodName) (zc : ByteArray) (zl : Nat) (zr : Option FieldType) (n : Nat) : Prop :=
  lkB own idx y zc zl zr n ∧ Cond.instanceMethod y ∈ BW ∧ Cond.selects y.cls y y ∈ BW
theorem gi_code {y : MethodName} {zc : ByteArray} {zl : Nat} {zr : Option FieldType} (h : Cond.code y zc zl zr ∈ BW) : GoodIn BW (Cond.code y zc zl zr :: BW) := fun w hw => by
  have hb : w ∈ BW := by
    rcases List.mem_cons.mp hw with e | e
    · rw [e]; exact h
    · exact e
  exact ⟨hb, good_of_word (bw_good hb)⟩
theorem cb_of (C : CX tb G own cc nL ret rm X) {idx : Nat} {y : MethodName} {zc : ByteArray} {zl n d : Nat} {zr : Option FieldType} {o : Outc} (lk : lkB own idx y zc zl zr n) (hroom : d + 1 ≤ rm.frames ∧ 8 + (zl + 11) + 36 * d ≤ rm.locals) :
    CallB X.2.2.2.1 (xs_ X) X.2.2.2.2.2.2.1 own idx y zc zl zr (Cond.code y zc zl zr :: BW) (rmx d o) (mcx o) (msx o) n := by
  have hR : X.2.2.2.1 = rm := C.2.2.2.2.2.2.2.2.2.1
  exact callB_of n C.2.2.2.2.1 (gi_code lk.2.2.1) rfl rfl rfl (C.2.2.2.2.1 _ lk.2.1) (C.2.2.2.2.1 _ lk.1) lk.2.2.2 (by rw [hR]; exact hroom)
theorem call_go (C : CX tb G own cc nL ret rm X) {As rest : List AV} {a : Array Value} {o : Outc} {M1 : Mem} {H : Heap} {locs : List Loc} {la : Array Slot} {st0 : List Value}
    (hrun : vx_Run X.1 X.2.1 X.2.2.1 X.2.2.2.1 (xs_ X) X.2.2.2.2.2.1 X.2.2.2.2.2.2.1 X.2.2.2.2.2.2.2.1 X.2.2.2.2.2.2.2.2.1 X.2.2.2.2.2.2.2.2.2.1 H locs (xk_ X) (xz_ X) (mcx o) (msx o) (F0 X.2.2.2.2.2.1 pc la st0) (rest.map (cv G)) (QR G o M1 a) (XR G o M1) (gA G))
    (o1 : ∀ q ∈ ls, okv G q.2) (o2 : ∀ v ∈ rest, okv G v) (s : va_S (gA G) (xs_ X).heap H locs) (h : lv_has la nL (ls.map (cq G)))
    (hok : ∀ v, o = .inl (some v) → okv G v) (kr : ∀ v, o = .inl v → GW G X nL Q (pc + 3) ls (v.toList ++ rest) M1) (kx : ∀ E, o = .inr E → ∀ (H1 : Heap) (locs1 : List Loc) (q : Addr) (ce : Cell), Wm G M1 H1 → va_S (gA G) (xs_ X).heap H1 locs1 → H1[q]? = some ce → ce.vm = .none → (xs_ X).vm.findClass E = some ce.cls →
      vx_W X.1 X.2.1 X.2.2.1 X.2.2.2.1 (xs_ X) X.2.2.2.2.2.1 X.2.2.2.2.2.2.1 X.2.2.2.2.2.2.2.1 X.2.2.2.2.2.2.2.2.1 X.2.2.2.2.2.2.2.2.2.1 H1 locs1 (xk_ X + 1) (xz_ X + 6) Q (F0 X.2.2.2.2.2.1 pc la (rest.map (cv G))) q) : WX X H locs Q pc la st0 := by
  intro T hT XX
  rcases hrun T hT XX with ⟨v, st₀, t, T', L, h0, X', hL, e1, e2, hq, hst⟩ | ⟨q, st₀, t, T', L, E, ce, h0, X', hL, e1, e2, hx, hce, hcv, hcl, hst⟩
  · obtain ⟨v', rfl, hv, hw, hF⟩ := hq
    cases hv
    obtain ⟨z1, z2, hS⟩ := vx_keep h0 e1 s (fun q _ h => h) (fun q h => h) hL hF
    have hw' : Wm G M1 T'.heap := by rw [e1]; exact hw
    have o2' : ∀ w ∈ v'.toList ++ rest, okv G w := by
      cases v' with
      | none => exact o2
      | some x => exact okT (hok x rfl) o2
    obtain ⟨t2, a1, b1⟩ := kr v' rfl o1 o2' T'.heap (locs ++ L) la hw' hS h T' rfl X'
    refine ⟨t2, hst t2 ?_, b1⟩
    have e : (v'.map (cv G)).toList ++ rest.map (cv G) = (v'.toList ++ rest).map (cv G) := by cases v' <;> rfl
    rw [e]
    exact a1
  · obtain ⟨rfl, hw, hF⟩ := hx
    obtain ⟨z1, z2, hS⟩ := vx_keep h0 e1 s (fun q _ h => h) (fun q h => h) hL hF
    have hw' : Wm G M1 T'.heap := by rw [e1]; exact hw
    obtain ⟨t2, a1, b1⟩ := kx E rfl T'.heap (locs ++ L) q ce hw' hS (by rw [e1]; exact hce) hcv hcl T' rfl X'
    exact ⟨t2, hst.trans a1, b1⟩
theorem g_callV (C : CX tb G own cc nL ret rm X) {idx : Nat} {y : MethodName} {zc : ByteArray} {zl n d t k : Nat} {zr : Option FieldType} {o : Outc} {M1 : Mem} {As rest : List AV}
    (lk : lkV own idx y zc zl zr n) (hct : CT X.2.1 G y zc zl zr d (vR t k :: As) M o M1) (ht : t < 11) (hcls : cN t = y.cls) (hn : As.length = n) (hst : As.reverse ++ vR t k :: rest = st) (hW : csum rest ≤ 8)
    (hroom : d + 1 ≤ rm.frames ∧ 8 + (zl + 11) + 36 * d ≤ rm.locals) (hmc : xk_ X + mcx o ≤ rm.cells ∧ xz_ X + msx o ≤ rm.slots) (hd : decode cc pc = .ok (.invokevirtual idx, 3))
    (hok : ∀ v, o = .inl (some v) → okv G v) (kr : ∀ v, o = .inl v → GW G X nL Q (pc + 3) ls (v.toList ++ rest) M1) (kx : ∀ E, o = .inr E → ∀ (H1 : Heap) (locs1 : List Loc) (la : Array Slot) (q : Addr) (ce : Cell), lv_has la nL (ls.map (cq G)) → Wm G M1 H1 → va_S (gA G) (xs_ X).heap H1 locs1 → H1[q]? = some ce → ce.vm = .none → (xs_ X).vm.findClass E = some ce.cls → vx_W X.1 X.2.1 X.2.2.1 X.2.2.2.1 (xs_ X) X.2.2.2.2.2.1 X.2.2.2.2.2.2.1 X.2.2.2.2.2.2.2.1 X.2.2.2.2.2.2.2.2.1 X.2.2.2.2.2.2.2.2.2.1 H1 locs1 (xk_ X + 1) (xz_ X + 6) Q (F0 X.2.2.2.2.2.1 pc la (rest.map (cv G))) q) : GW G X nL Q pc ls st M := by
  subst hst
  intro o1 o2 H locs la w s h
  have hid := okI (o2 (vR t k) (by simp)) (by omega)
  obtain ⟨q0, h0, h1⟩ := wl_at (M := M) hid
  rw [enc_o ht] at h1
  have hR : X.2.2.2.1 = rm := C.2.2.2.2.2.2.2.2.2.1
  have hSF := (ca C).kept ⟨s.1, s.2.1⟩
  have hwm : va_P (gD G) vwCl (wl G M) H := w.1
  refine call_go C (As := As) (rest := rest) (vx_runV (As := As.map (cv G)) (b := gad G t k) (C := y.cls) ⟨C.1, C.2.1, C.2.2.1, C.2.2.2.1, C.2.2.2.2.1⟩ hct ⟨cb_of C lk.1 hroom, C.2.2.2.2.1 _ lk.2.1, C.2.2.2.2.1 _ lk.2.2⟩ ⟨pr_blind, ?_, ?_⟩ rfl (by rw [List.length_map]; exact hn) h.1 ?_ (lv_room (by rw [csum_cv]; exact hW)) hd (by rw [hR]; exact hmc)) o1 (fun v hv => o2 v (by simp [hv])) s h hok kr (fun E hE H1 locs1 q ce => kx E hE H1 locs1 la q ce h)
  · have := va_recv (ca C).1 hwm (cl_at ht) h1
    rw [← hcls]
    exact this
  · intro U hU hWU
    exact ⟨rfl, by rw [hU]; exact w, by rw [hU]; exact hSF.moved hWU⟩
  · show (As.reverse ++ vR t k :: rest).map (cv G) = _
    rw [List.map_append, List.map_cons, List.map_reverse]
    rfl
theorem g_callVi (C : CX true G own cc nL ret rm X) {idx : Nat} {y : MethodName} {zc : ByteArray} {zl n d t k : Nat} {zr : Option FieldType} {x : Int32} {M1 : Mem} {As rest : List AV} (lk : lkV own idx y zc zl zr n) (hct : CT X.2.1 G y zc zl zr d (vR t k :: As) M (.inl (some (vI x))) M1) (ht : t < 11) (hcls : cN t = y.cls) (hn : As.length = n) (hst : As.reverse ++ vR t k :: rest = st) (hW : csum rest ≤ 8) (hroom : d + 1 ≤ rm.frames ∧ 8 + (zl + 11) + 36 * d ≤ rm.locals) (hd : decode cc pc = .ok (.invokevirtual idx, 3)) (kr : GW G X nL Q (pc + 3) ls (vI x :: rest) M1) : GW G X nL Q pc ls st M :=
  g_callV C lk hct ht hcls hn hst hW hroom ⟨by rw [(C.2.2.2.2.2.2.2.1 rfl).2.1]; exact Nat.zero_le _, by rw [(C.2.2.2.2.2.2.2.1 rfl).2.2]; exact Nat.zero_le _⟩ hd (fun v hv => by cases hv; trivial) (fun v hv => by cases hv; exact kr) (fun E hE => by cases hE)
theorem g_callVv (C : CX true G own cc nL ret rm X) {idx : Nat} {y : MethodName} {zc : ByteArray} {zl n d t k : Nat} {zr : Option FieldType} {M1 : Mem} {As rest : List AV} (lk : lkV own idx y zc zl zr n) (hct : CT X.2.1 G y zc zl zr d (vR t k :: As) M (.inl none) M1) (ht : t < 11) (hcls : cN t = y.cls) (hn : As.length = n) (hst : As.reverse ++ vR t k :: rest = st) (hW : csum rest ≤ 8) (hroom : d + 1 ≤ rm.frames ∧ 8 + (zl + 11) + 36 * d ≤ rm.locals) (hd : decode cc pc = .ok (.invokevirtual idx, 3)) (kr : GW G X nL Q (pc + 3) ls (rest) M1) : GW G X nL Q pc ls st M :=
  g_callV C lk hct ht hcls hn hst hW hroom ⟨by rw [(C.2.2.2.2.2.2.2.1 rfl).2.1]; exact Nat.zero_le _, by rw [(C.2.2.2.2.2.2.2.1 rfl).2.2]; exact Nat.zero_le _⟩ hd (fun v hv => by cases hv) (fun v hv => by cases hv; exact kr) (fun E hE => by cases hE)
theorem g_callVv_k (C : CX tb G own cc nL ret rm X) {idx : Nat} {y : MethodName} {zc : ByteArray} {zl n d t k : Nat} {zr : Option FieldType} {M1 : Mem} {As rest : List AV} (lk : lkV own idx y zc zl zr n) (hct : CT X.2.1 G y zc zl zr d (vR t k :: As) M (.inl none) M1) (ht : t < 11) (hcls : cN t = y.cls) (hn : As.length = n) (hst : As.reverse ++ vR t k :: rest = st) (hW : csum rest ≤ 8) (hroom : d + 1 ≤ rm.frames ∧ 8 + (zl + 11) + 36 * d ≤ rm.locals) (hmc : xk_ X ≤ rm.cells ∧ xz_ X ≤ rm.slots) (hd : decode cc pc = .ok (.invokevirtual idx, 3)) (kr : GW G X nL Q (pc + 3) ls (rest) M1) : GW G X nL Q pc ls st M :=
  g_callV C lk hct ht hcls hn hst hW hroom hmc hd (fun v hv => by cases hv) (fun v hv => by cases hv; exact kr) (fun E hE => by cases hE)
/-- a method's contract, out of the walk of its body -/
theorem ct_of {l : Launch} {y : MethodName} {d : Nat} {av : List AV} {o : Outc} {M' : Mem} (ls0 : List (Nat × AV)) (hy : plainName y.cls = true) (hl : l.stackTraces = false) (hG : GOK G) (hlen : csum av ≤ nL) (hls : ls0.map (cq G) = lv_args 0 (av.map (cv G))) (hok : ∀ v ∈ av, okv G v) (hok0 : ∀ q ∈ ls0, okv G q.2)
    (body : ∀ X, X.2.1 = l → CX true G y.cls cc nL ret (rmx d o) X → GW G X nL (QX G X o M') 0 ls0 [] M) : CT l G y cc nL ret d av M o M' := by
  refine vx_ofW hy rfl ?_
  intro p e s m args below meth c s₁ B hml hnt hv
  obtain ⟨rfl, hw⟩ := hv
  have hts := atoms_spec (ws := Cond.code y cc nL ret :: BW) B.pre
  have C : CX true G y.cls cc nL ret (rmx d o) (p, l, e, (headSpec (Cond.code y cc nL ret :: BW) (rmx d o)).room, s, m, (av.map (cv G)).toArray, below, meth, c, 0, 0) :=
    ⟨B.exec, B.bytes, hml, findClass_of_methodNamed B.named, fun w hw => hts w (List.mem_cons_of_mem _ hw), B.notSynchronized, B.returns, fun _ => ⟨hnt, rfl, rfl⟩, hl, rfl, hG, hw.2⟩
  have hsl : ∀ vs : List AV, (lg_sl (vs.map (cv G))).length = csum vs := by
    intro vs
    induction vs with
    | nil => rfl
    | cons v r ih =>
      show (List.flatMap _ (cv G v :: r.map (cv G))).length = _
      rw [List.flatMap_cons, List.length_append]
      show _ + (lg_sl (r.map (cv G))).length = (if cat2 v then 2 else 1) + csum r
      rw [ih]
      rcases v with x | x | x | x | x <;> rfl
  have hlv := lv_entry (av.map (cv G)) (n := nL) (by rw [hsl]; exact hlen)
  rw [lg_entry_eq]
  have k := body _ rfl C hok0 (fun _ h => by cases h) s.heap [] ((lg_sl (av.map (cv G)) ++ List.replicate (nL - (lg_sl (av.map (cv G))).length) Slot.unset).toArray) hw.1 va_S.rf (by rw [show (fun q : Nat × AV => (q.1, cv G q.2)) = cq G from rfl, hls]; exact hlv)
  exact k
end CALLS
/-! A throw of the class's own. -/
section THROW
variable {tb : Bool} {G : GE} {own : String} {cc : ByteArray} {nL : Nat} {ret : Option FieldType} {rm : Room} {X : PX} {Q : State → Prop} {pc : Nat} {ls : List (Nat × AV)} {st : List AV} {M : Mem}
/-! words for the models -/
abbrev inb (i : Int32) (n : Nat) : Prop := ¬ (i < 0 ∨ n ≤ i.toNatClampNeg)
def lp_run {S R : Type} (body : S → Option (S ⊕ R)) : Nat → S → Option R
  | 0, _ => none
  | n + 1, s => match body s with
    | none => none
    | some (.inl s') => lp_run body n s'
    | some (.inr r) => some r
theorem lp_ind {S R : Type} {body : S → Option (S ⊕ R)} {P : S → Prop} {r : R} (step : ∀ s o, body s = some o → ((∀ s', o = .inl s' → P s') ∧ (∀ r', o = .inr r' → r' = r)) → P s) : ∀ n s, lp_run body n s = some r → P s
  | 0, _, h => by cases h
  | n + 1, s, h => by
    unfold lp_run at h
    cases hb : body s with
    | none => rw [hb] at h; cases h
    | some o =>
      rw [hb] at h
      cases o with
      | inl s' => exact step s _ hb ⟨fun s'' e => (by cases e; exact lp_ind step n s' h), fun r' e => (by cases e)⟩
      | inr r' => exact step s _ hb ⟨fun s'' e => (by cases e), fun r'' e => (by cases e; exact Option.some.inj h)⟩
theorem bnd_some {α β : Type} {x : Option α} {k : α → Option β} {r : β} (h : x.bind k = some r) : ∃ a, x = some a ∧ k a = some r := by
  cases x with
  | none => cases h
  | some a => exact ⟨a, rfl, h⟩
theorem ift {α : Sort _} {c : Prop} {_ : Decidable c} {A B r : α} (h : (if c then A else B) = r) (hc : c) : A = r := by rw [if_pos hc] at h; exact h
theorem ife {α : Sort _} {c : Prop} {_ : Decidable c} {A B r : α} (h : (if c then A else B) = r) (hc : ¬ c) : B = r := by rw [if_neg hc] at h; exact h
theorem ifn {α : Type} {c : Prop} {_ : Decidable c} {A : Option α} {r : α} (h : (if c then A else none) = some r) : c ∧ A = some r := by
  by_cases hc : c
  · rw [if_pos hc] at h; exact ⟨hc, h⟩
  · rw [if_neg hc] at h; cases h
theorem iv_p1 (x : Int32) : x + Int32.ofInt 1 = x + (1 : Int32) := by rw [show Int32.ofInt 1 = (1 : Int32) from by decide]
end THROW

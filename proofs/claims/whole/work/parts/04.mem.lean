/-! A flat memory (class number or array tag, instance, place) and what it says of the heap; one walk predicate over it. -/
section MEM
abbrev AV : Type := Int32 ⊕ Int64 ⊕ UInt32 ⊕ UInt64 ⊕ (Nat × Nat)
abbrev vI (x : Int32) : AV := .inl x
abbrev vL (x : Int64) : AV := .inr (.inl x)
abbrev vF (x : UInt32) : AV := .inr (.inr (.inl x))
abbrev vD (x : UInt64) : AV := .inr (.inr (.inr (.inl x)))
abbrev vR (t k : Nat) : AV := .inr (.inr (.inr (.inr (t, k))))
abbrev Mem : Type := (Nat → Nat → Nat → Int32) × (Nat → Nat → Nat → Int64)
def mI (M : Mem) (t k i : Nat) (v : Int32) : Mem := (fun a b c => if a = t ∧ b = k ∧ c = i then v else M.1 a b c, M.2)
def mL (M : Mem) (t k i : Nat) (v : Int64) : Mem := (M.1, fun a b c => if a = t ∧ b = k ∧ c = i then v else M.2 a b c)
abbrev FK : Type := Nat ⊕ (Nat × Nat × Nat)
def fk (t : Nat) : List FK := match t with
  | 0 => [.inl 0, .inr (8, 6, 3), .inr (8, 7, 3), .inr (3, 0, 1), .inr (8, 8, 3)]
  | 1 => [.inr (8, 12, 2), .inr (8, 13, 2)]
  | 2 => [.inl 0, .inl 0, .inr (8, 0, 3), .inr (8, 1, 3), .inr (8, 2, 3)]
  | 3 => [.inl 0, .inl 0, .inr (21, 0, 1)]
  | 4 => [.inl 0, .inr (8, 24, 0)]
  | 5 => [.inl 0, .inl 0, .inl 0, .inl 0, .inl 0, .inl 0, .inr (3, 4, 0), .inr (8, 20, 0), .inr (8, 21, 0), .inr (8, 22, 0), .inr (8, 23, 0), .inr (3, 5, 0)]
  | 6 => [.inl 0, .inr (8, 16, 0), .inr (8, 17, 0), .inr (8, 18, 0), .inr (3, 2, 0), .inr (8, 19, 0), .inr (3, 3, 0)]
  | 7 => [.inr (2, 1, 0), .inr (0, 1, 0), .inl 0, .inl 0, .inl 0, .inl 0]
  | 8 => [.inr (20, 0, 1)]
  | 9 => [.inr (2, 0, 0), .inr (0, 0, 0), .inr (6, 0, 0), .inr (5, 0, 0), .inr (1, 0, 0), .inr (1, 1, 0), .inr (4, 0, 0), .inr (7, 0, 0)]
  | 10 => [.inl 0, .inl 0, .inl 0, .inr (22, 3, 0), .inr (22, 4, 0), .inr (22, 5, 0), .inr (22, 6, 0), .inl 0, .inr (22, 8, 0), .inr (22, 9, 0), .inr (22, 10, 0), .inl 0, .inr (22, 12, 0), .inl 0, .inr (22, 14, 0), .inr (22, 15, 0), .inr (22, 16, 0), .inr (22, 17, 0), .inr (22, 18, 0), .inl 0, .inl 0, .inl 0, .inl 0, .inl 0, .inl 0, .inr (22, 25, 0), .inr (22, 26, 0), .inr (22, 27, 0), .inl 0, .inr (22, 29, 0), .inr (22, 30, 0), .inl 1]
  | _ => []
/-- the instance that a reference field names -/
def rk (b s k : Nat) : Nat := match s with
  | 0 => b
  | 1 => k + b
  | n + 2 => (n + 2) * k + b
def rlens : List Nat := [14, 14, 8, 14, 14, 8, 10, 20, 20, 10, 20, 20, 8, 14, 8, 14, 300, 300, 300, 300, 300, 300, 300, 300, 60]
def glens : List Nat := [140, 140, 2100, 4200, 6000, 64]
def mlens : List Nat := [0, 0, 0, 14, 14, 14, 8, 0, 11, 22, 154, 0, 60, 0, 301, 301, 301, 2107, 4214, 0, 0, 0, 0, 0, 0, 301, 301, 301, 0, 14, 8, 0]
def alen (t k : Nat) : Nat := match t with
  | 20 => rlens.getD k 0
  | 21 => glens.getD k 0
  | 22 => mlens.getD k 0
  | _ => 1
/-- what is fixed over a run: the classes' numbers, the addresses, which objects there are, which cells are ours, the script -/
abbrev GE : Type := va_G × ClassId × ClassId × (Nat → Nat → Nat) × List (Nat × Nat) × (Nat → Prop) × Option (Nat × (Nat → Int32))
abbrev gD (G : GE) : va_G := G.1
abbrev gI (G : GE) : ClassId := G.2.1
abbrev gL (G : GE) : ClassId := G.2.2.1
abbrev gad (G : GE) : Nat → Nat → Nat := G.2.2.2.1
abbrev gids (G : GE) : List (Nat × Nat) := G.2.2.2.2.1
abbrev gA (G : GE) : Nat → Prop := G.2.2.2.2.2.1
abbrev gscr (G : GE) : Option (Nat × (Nat → Int32)) := G.2.2.2.2.2.2
def cv (G : GE) (v : AV) : Value := match v with
  | .inl x => .int x
  | .inr (.inl x) => .long x
  | .inr (.inr (.inl x)) => .float x
  | .inr (.inr (.inr (.inl x))) => .double x
  | .inr (.inr (.inr (.inr q))) => .ref (gad G q.1 q.2)
def fvs (ad : Nat → Nat → Nat) (f : Nat → Int32) (g : Nat → Int64) (k : Nat) : Nat → List FK → List Value
  | _, [] => []
  | i, .inl 0 :: r => .int (f i) :: fvs ad f g k (i + 1) r
  | i, .inl (_ + 1) :: r => .long (g i) :: fvs ad f g k (i + 1) r
  | i, .inr (t, b, s) :: r => .ref (ad t (rk b s k)) :: fvs ad f g k (i + 1) r
def enc (G : GE) (M : Mem) (t k : Nat) : va_E :=
  if t < 20 then .inr (t, fvs (gad G) (M.1 t k) (M.2 t k) k 0 (fk t)) else if t = 23 then .inl (gL G, alen t k, .inr (.inl (M.2 t k))) else .inl (gI G, alen t k, .inl (M.1 t k))
def wl (G : GE) (M : Mem) : va_W := (gids G).map (fun q => (gad G q.1 q.2, enc G M q.1 q.2))
abbrev gtys (G : GE) : List (ClassId × FieldType) := [(gI G, .int), (gL G, .long)]
/-- the string constants that the class's exceptions name -/
def strs : List (String × Nat × String) := [("ArrowDiagrams", 72, "objects is out of range"), ("ArrowDiagrams", 85, "to is not greater than from"), ("ArrowDiagrams", 92, "there are 14 arrows"), ("ArrowDiagrams", 102, "there would be more than 300 paths"), ("ArrowDiagrams", 111, "there are no arrows"), ("ArrowDiagrams", 126, "there are 10 cells"), ("ArrowDiagrams", 152, "code is not 32 to 126"), ("ArrowDiagrams", 157, "the buffer has 60 characters"), ("ArrowDiagrams", 171, "the buffer is not a complete text"), ("ArrowDiagrams", 227, "what is not 0 to 6"), ("ArrowDiagrams", 231, "there is no such arrow"), ("ArrowDiagrams", 246, "what is not 0 or 1"), ("ArrowDiagrams", 248, "the proof has no such step"), ("ArrowDiagrams", 274, "what is not 0 to 4"), ("ArrowDiagrams", 289, "what is not 0 to 7"), ("ArrowDiagrams", 291, "size is out of range"), ("ArrowDiagrams", 306, "code is the code of no such function"), ("ArrowDiagrams", 311, "there is no such element"), ("ArrowDiagrams", 321, "there are more than 6 arrows"), ("ArrowDiagrams", 337, "they are not two arrows from the same object"), ("ArrowDiagrams", 350, "they do not make such a square"), ("ArrowDiagrams", 358, "they do not lead like that"), ("ArrowDiagrams", 397, "the object does not exist"), ("ArrowDiagrams", 402, "the arrow does not exist"), ("ArrowDiagrams", 404, "the cell does not exist"), ("ArrowDiagrams", 406, "the path does not exist"), ("ArrowDiagrams", 408, "the paths are not parallel")]
abbrev exP : List String := ["java/lang/RuntimeException", "java/lang/Exception"]
/-- words that hold all over a run, but aren't of the kind that the tables keep -/
def XW : List Cond := [.castable "java/lang/IllegalArgumentException" "java/lang/IllegalArgumentException", .castable "java/lang/IllegalStateException" "java/lang/IllegalStateException", .castable "java/lang/IndexOutOfBoundsException" "java/lang/IndexOutOfBoundsException", .declares (Bundle.initS "java/lang/RuntimeException"), .declares (Bundle.initS "java/lang/Exception"), .declares (Bundle.initS Bundle.tN), .fieldLinkNest "ArrowDiagrams" 128 "ArrowDiagrams$Paths" "start" "LArrowDiagrams$Row;" "ArrowDiagrams", .fieldLinkNest "ArrowDiagrams$Functions" 55 "ArrowDiagrams$Paths" "start" "LArrowDiagrams$Row;" "ArrowDiagrams", .fieldLinkNest "ArrowDiagrams$Pasting" 116 "ArrowDiagrams$Paths" "start" "LArrowDiagrams$Row;" "ArrowDiagrams", .fieldLinkNest "ArrowDiagrams" 205 "ArrowDiagrams$Paths" "end" "LArrowDiagrams$Row;" "ArrowDiagrams", .fieldLinkNest "ArrowDiagrams$Pasting" 119 "ArrowDiagrams$Paths" "end" "LArrowDiagrams$Row;" "ArrowDiagrams", .fieldLinkNest "ArrowDiagrams$Functions" 42 "ArrowDiagrams$Paths" "length" "LArrowDiagrams$Row;" "ArrowDiagrams", .fieldLinkNest "ArrowDiagrams" 208 "ArrowDiagrams$Paths" "length" "LArrowDiagrams$Row;" "ArrowDiagrams", .fieldLinkNest "ArrowDiagrams$Pasting" 134 "ArrowDiagrams$Paths" "length" "LArrowDiagrams$Row;" "ArrowDiagrams", .fieldLinkNest "ArrowDiagrams$Functions" 47 "ArrowDiagrams$Paths" "arrow" "LArrowDiagrams$Grid;" "ArrowDiagrams", .fieldLinkNest "ArrowDiagrams" 234 "ArrowDiagrams$Paths" "arrow" "LArrowDiagrams$Grid;" "ArrowDiagrams", .fieldLinkNest "ArrowDiagrams$Pasting" 137 "ArrowDiagrams$Paths" "arrow" "LArrowDiagrams$Grid;" "ArrowDiagrams", .fieldLinkNest "ArrowDiagrams$Pasting" 125 "ArrowDiagrams$Paths" "shorter" "LArrowDiagrams$Row;" "ArrowDiagrams", .fieldLinkNest "ArrowDiagrams$Cells" 63 "ArrowDiagrams$Paths" "longer" "LArrowDiagrams$Grid;" "ArrowDiagrams", .fieldLinkNest "ArrowDiagrams" 194 "ArrowDiagrams$Paths" "longer" "LArrowDiagrams$Grid;" "ArrowDiagrams", .fieldLinkNest "ArrowDiagrams$Pasting" 128 "ArrowDiagrams$Paths" "longer" "LArrowDiagrams$Grid;" "ArrowDiagrams", .methodLinkNest "ArrowDiagrams" 11 ⟨"ArrowDiagrams$Graph", "<init>", "()V"⟩ "ArrowDiagrams", .methodLinkNest "ArrowDiagrams" 18 ⟨"ArrowDiagrams$Cells", "<init>", "()V"⟩ "ArrowDiagrams", .methodLinkNest "ArrowDiagrams" 25 ⟨"ArrowDiagrams$Paths", "<init>", "()V"⟩ "ArrowDiagrams", .methodLinkNest "ArrowDiagrams" 39 ⟨"ArrowDiagrams$Functions", "<init>", "()V"⟩ "ArrowDiagrams", .methodLinkNest "ArrowDiagrams" 49 ⟨"ArrowDiagrams$Input", "<init>", "()V"⟩ "ArrowDiagrams", .methodLinkNest "ArrowDiagrams" 56 ⟨"ArrowDiagrams$Reader", "<init>", "()V"⟩ "ArrowDiagrams", .methodLinkNest "ArrowDiagrams$Reader" 11 ⟨"ArrowDiagrams$Graph", "<init>", "()V"⟩ "ArrowDiagrams", .methodLinkNest "ArrowDiagrams$Reader" 20 ⟨"ArrowDiagrams$Cells", "<init>", "()V"⟩ "ArrowDiagrams"]
theorem XW.warm {s U : State} (hW : s.WarmedH U.vm) (h : ∀ w ∈ XW, va_Nw w s) : ∀ w ∈ XW, va_Nw w U := by
  unfold XW at h ⊢
  simp only [List.forall_mem_cons] at h ⊢
  obtain ⟨h0, h1, h2, h3, h4, h5, h6, h7, h8, h9, h10, h11, h12, h13, h14, h15, h16, h17, h18, h19, h20, h21, h22, h23, h24, h25, h26, h27, h28, -⟩ := h
  exact ⟨va_Nw.warmC hW h0, va_Nw.warmC hW h1, va_Nw.warmC hW h2, va_Nw.warmD hW h3, va_Nw.warmD hW h4, va_Nw.warmD hW h5, va_Nw.warmF hW h6, va_Nw.warmF hW h7, va_Nw.warmF hW h8, va_Nw.warmF hW h9, va_Nw.warmF hW h10, va_Nw.warmF hW h11, va_Nw.warmF hW h12, va_Nw.warmF hW h13, va_Nw.warmF hW h14, va_Nw.warmF hW h15, va_Nw.warmF hW h16, va_Nw.warmF hW h17, va_Nw.warmF hW h18, va_Nw.warmF hW h19, va_Nw.warmF hW h20, va_Nw.warmM hW h21, va_Nw.warmM hW h22, va_Nw.warmM hW h23, va_Nw.warmM hW h24, va_Nw.warmM hW h25, va_Nw.warmM hW h26, va_Nw.warmM hW h27, va_Nw.warmM hW h28, fun _ z => nomatch z⟩
theorem XW.tabs : ∀ w ∈ XW, w.onTables = true := by decide +kernel
/-- the throws that the law's handlers must tell apart -/
def NC : List (String × String) := [("java/lang/IllegalArgumentException", "java/lang/IndexOutOfBoundsException"), ("java/lang/IllegalStateException", "java/lang/IndexOutOfBoundsException"), ("java/lang/IllegalStateException", "java/lang/IllegalArgumentException")]
def Wm (G : GE) (M : Mem) (H : Heap) : Prop := va_P (gD G) vwCl (wl G M) H ∧ va_D (gA G) (wl G M)
/-- what stays all over a run -/
def SF (G : GE) (U : State) (H : Heap) : Prop :=
  va_K (gD G) vwCl (gtys G) U ∧ vx_Zq Bundle.tN "UNASSIGNED_STACK" Bundle.steD (gA G) U H ∧ vx_Zq Bundle.tN "SUPPRESSED_SENTINEL" Bundle.listD (gA G) U H ∧
  (∀ q, H.size ≤ q → gA G q) ∧ (∀ q ∈ strs, ∃ a, vk_R q.1 q.2.1 q.2.2 a U) ∧ ((∀ w ∈ XW, va_Nw w U) ∧ ∀ q ∈ NC, va_Nc q.1 q.2 U) ∧ (∀ L xs, gscr G = some (L, xs) → va_X (gad G 24 0) L xs U H ∧ gad G 24 0 < H.size ∧ ¬ gA G (gad G 24 0))
def Wd (G : GE) (M : Mem) (U : State) (H : Heap) : Prop := Wm G M H ∧ SF G U H
/-- which objects there are: known kinds, and what they name is there too -/
def GOK (G : GE) : Prop := ∀ q ∈ gids G, (q.1 < 11 ∨ q.1 = 20 ∨ q.1 = 21 ∨ q.1 = 22 ∨ q.1 = 23) ∧ ∀ (i t b s : Nat), (fk q.1)[i]? = some (.inr (t, b, s)) → (t, rk b s q.2) ∈ gids G
def okv (G : GE) (v : AV) : Prop := match v with
  | .inr (.inr (.inr (.inr q))) => q ∈ gids G ∨ (q = (24, 0) ∧ ∃ z, gscr G = some z)
  | _ => True
abbrev PX : Type := Program × Launch × Env × Room × State × MethodId × Array Value × List Frame × Method × Code × Nat × Nat
def WX (X : PX) (H : Heap) (locs : List Loc) (Q : State → Prop) (pc : Nat) (la : Array Slot) (st : List Value) : Prop :=
  W X.1 X.2.1 X.2.2.1 X.2.2.2.1 X.2.2.2.2.1 X.2.2.2.2.2.1 X.2.2.2.2.2.2.1 X.2.2.2.2.2.2.2.1 X.2.2.2.2.2.2.2.2.1 X.2.2.2.2.2.2.2.2.2.1 H locs X.2.2.2.2.2.2.2.2.2.2.1 X.2.2.2.2.2.2.2.2.2.2.2 Q (F0 X.2.2.2.2.2.1 pc la st)
abbrev xs_ (X : PX) : State := X.2.2.2.2.1
abbrev xk_ (X : PX) : Nat := X.2.2.2.2.2.2.2.2.2.2.1
abbrev xz_ (X : PX) : Nat := X.2.2.2.2.2.2.2.2.2.2.2
def GW (G : GE) (X : PX) (nL : Nat) (Q : State → Prop) (pc : Nat) (ls : List (Nat × AV)) (st : List AV) (M : Mem) : Prop :=
  (∀ q ∈ ls, okv G q.2) → (∀ v ∈ st, okv G v) → ∀ (H : Heap) (locs : List Loc) (la : Array Slot), Wm G M H → va_S (gA G) (xs_ X).heap H locs → lv_has la nL (ls.map (fun q => (q.1, cv G q.2))) → WX X H locs Q pc la (st.map (cv G))
/-- what holds all over a method's walk -/
def CX (tb : Bool) (G : GE) (own : String) (cc : ByteArray) (nL : Nat) (ret : Option FieldType) (rm : Room) (X : PX) : Prop :=
  X.1.tables.exec = Jvm.exec ∧ X.2.2.2.2.2.2.2.2.2.1.code = cc ∧ X.2.2.2.2.2.2.2.2.2.1.maxLocals = nL ∧ (xs_ X).vm.findClass own = some X.2.2.2.2.2.1.cls ∧ (∀ w ∈ BW, w.before X.2.2.2.2.2.2.1 (xs_ X) = true) ∧ X.2.2.2.2.2.2.2.2.1.locks = false ∧ X.2.2.2.2.2.2.2.2.1.sig.returnType = ret ∧ (tb = true → (∀ z ∈ X.2.2.2.2.2.2.2.2.2.1.exceptionTable.toList, False) ∧ xk_ X = 0 ∧ xz_ X = 0) ∧ X.2.1.stackTraces = false ∧ X.2.2.2.1 = rm ∧ GOK G ∧ SF G (xs_ X) (xs_ X).heap
abbrev Outc : Type := Option AV ⊕ String
def mcx (o : Outc) : Nat := match o with | .inl _ => 0 | .inr _ => 1
def msx (o : Outc) : Nat := match o with | .inl _ => 0 | .inr _ => 6
def rmx (d : Nat) (o : Outc) : Room := { frames := d, cells := mcx o, slots := msx o, locals := 36 * d }
def QR (G : GE) (o : Outc) (M : Mem) : Array Value → State → Outcome → State → Prop := fun _ st oc t => ∃ v, o = .inl v ∧ oc = .returned (v.map (cv G)) ∧ Wm G M t.heap ∧ va_F (gA G) st t
def XR (G : GE) (o : Outc) (M : Mem) : String → State → State → Prop := fun E st t => o = .inr E ∧ Wm G M t.heap ∧ va_F (gA G) st t
def PR (G : GE) (av : List AV) (M : Mem) : Array Value → State → Prop := va_Pc (av.map (cv G)) (fun U => Wd G M U U.heap)
/-- a method's contract: from the memory M, with these arguments, it comes to the outcome o with the memory M' -/
def CT (l : Launch) (G : GE) (y : MethodName) (cc : ByteArray) (nL : Nat) (ret : Option FieldType) (d : Nat) (av : List AV) (M : Mem) (o : Outc) (M' : Mem) : Prop :=
  vx_Met l y (Cond.code y cc nL ret :: BW) (rmx d o) (PR G av M) (QR G o M') (XR G o M') (mcx o) (msx o) (gA G)
def QX (G : GE) (X : PX) (o : Outc) (M' : Mem) : State → Prop := vx_MQ X.2.2.2.2.2.2.2.1 (QR G o M') (XR G o M') X.2.2.2.2.2.2.1 (xs_ X) (mcx o) (msx o) (gA G)
end MEM

/-! WORDS: those that every method is given, all of them of the tables -/
def zIsN (w : Cond) : Bool := match w with
  | .fieldLinkNest .. => true
  | .methodLinkNest .. => true
  | _ => false
def zTb : List Cond := lw_tbl.filter goodWord
def zNb : List Cond := lw_tbl.filter zIsN
def zAo : List String := ["LawnTrees$Garden", "LawnTrees$Moves", "LawnTrees$Sheet"]
def zSr : List (Nat × String × Nat) := [(104, "row", 0), (106, "socket", 1), (108, "turn", 2), (110, "climb", 3), (112, "bag", 4), (114, "empty", 5), (116, "cord", 6), (118, "dew", 7), (120, "high", 8), (122, "sun", 9), (127, "glxbh", 10)]
def zLen : List Nat := [3, 6, 4, 5, 3, 5, 4, 3, 4, 3, 5]
def zByt : List (List Int32) := [[114, 111, 119], [115, 111, 99, 107, 101, 116], [116, 117, 114, 110], [99, 108, 105, 109, 98], [98, 97, 103], [101, 109, 112, 116, 121], [99, 111, 114, 100], [100, 101, 119], [104, 105, 103, 104], [115, 117, 110], [103, 108, 120, 98, 104]]
def zSt : List (String × Nat × List Int) := [("LEAST_TOLD", 1200, [0, 0, 1, 1, 0, 1, 0, 0]), ("MOST_TOLD", 1201, [35, 3, 4, 200, 9, 99, 999, 60]), ("TOLD_AT_FIRST", 1202, [0, 1, 2, 30, 2, 20, 0, 3])]
theorem zmem {w : Cond} (i : Nat) (h : lw_tbl[i]? = some w) (g : goodWord w = true) : w ∈ zTb := List.mem_filter.mpr ⟨List.mem_of_getElem? h, g⟩
theorem zmemN {w : Cond} (i : Nat) (h : lw_tbl[i]? = some w) (g : zIsN w = true) : w ∈ zNb := List.mem_filter.mpr ⟨List.mem_of_getElem? h, g⟩
theorem zNb_is {w : Cond} (h : w ∈ zNb) : (∃ a i b n d x, w = .fieldLinkNest a i b n d x) ∨ ∃ a i x y, w = .methodLinkNest a i x y := by
  have := (List.mem_filter.mp h).2
  unfold zIsN at this
  split at this
  · exact Or.inl ⟨_, _, _, _, _, _, rfl⟩
  · exact Or.inr ⟨_, _, _, _, rfl⟩
  · cases this
/-- a method: its name, its code, its locals, what it returns, its room, the law's script -/
abbrev zMi : Type := MethodName × ByteArray × Nat × Option FieldType × Room × Option (Nat × (Nat → Int))
def zWs (μ : zMi) : List Cond := .code μ.1 μ.2.1 μ.2.2.1 μ.2.2.2.1 :: zTb
/-- the arrays' kinds -/
def zTys (ca : Nat → ClassId) : List (ClassId × FieldType) := [(ca 20, .int), (ca 21, .long), (ca 22, .byte), (ca 23, .boolean), (ca 24, .object "LawnTrees$Garden"), (ca 25, .object "LawnTrees$Moves"), (ca 26, .object "LawnTrees$Sheet")]
/-- what never changes: literals, static rows -/
def zKh (ρ : Nat → Nat) (A : Nat → Prop) (U : State) (H : Heap) : Prop :=
  vk_S 11 zLen zByt (fun j => ρ (1000 + j)) (fun j => ρ (1100 + j)) A U H ∧ (∀ q ∈ zSt, va_Z "LawnTrees" q.1 "[I" (.ref (ρ q.2.1)) A U H ∧ va_T .int (ρ q.2.1) 8 (fun j => .int (zI (q.2.2.getD j 0))) A U H) ∧ va_Z "java/lang/String" "COMPACT_STRINGS" "Z" (.int 1) A U H ∧ (va_Z "jdk/internal/util/Preconditions" "SIOOBE_FORMATTER" "Ljava/util/function/BiFunction;" .null A U H ∨ va_Z "jdk/internal/util/Preconditions" "SIOOBE_FORMATTER" "Ljava/util/function/BiFunction;" (.ref (ρ 1400)) A U H)
def zKs (ρ : Nat → Nat) (U : State) : Prop :=
  (∀ q ∈ zSr, vk_R RX9 q.1 q.2.1 (ρ (1000 + q.2.2)) U) ∧ (∀ w ∈ zNb, va_Nw w U) ∧ ∀ C ∈ zAo, va_AO C U
theorem va_T.ok {ty : FieldType} {t N : Nat} {f : Nat → Value} {A : Nat → Prop} {U : State} {H : Heap} (h : va_T ty t N f A U H) : t < H.size ∧ ¬ A t := by
  obtain ⟨cell, h1, -, -, -, -, -, h7⟩ := h
  exact ⟨(Array.getElem?_eq_some_iff.mp h1).1, h7⟩
theorem zKh.kept {ρ : Nat → Nat} {A : Nat → Prop} {U : State} {H H1 : Heap} (h : zKh ρ A U H) (hq : ∀ a : Nat, a < H.size → ¬ A a → H1[a]? = H[a]?) : zKh ρ A U H1 :=
  ⟨h.1.kept hq, fun q hz => ⟨(h.2.1 q hz).1.kept hq, (h.2.1 q hz).2.kept hq⟩, h.2.2.1.kept hq, h.2.2.2.imp (fun z => z.kept hq) (fun z => z.kept hq)⟩
theorem zKh.moved {ρ : Nat → Nat} {A : Nat → Prop} {u U : State} {H : Heap} (hvm : u.vm.Alike U.vm) (h : zKh ρ A u H) : zKh ρ A U H :=
  ⟨vk_S.moved hvm h.1, fun q hz => ⟨va_Z.moved hvm (h.2.1 q hz).1, va_T.moved hvm (h.2.1 q hz).2⟩, va_Z.moved hvm h.2.2.1, h.2.2.2.imp (fun z => va_Z.moved hvm z) (fun z => va_Z.moved hvm z)⟩
theorem zKh.narrow {ρ : Nat → Nat} {A B : Nat → Prop} {U : State} {H : Heap} (h : zKh ρ A U H) (hAB : ∀ q, B q → A q) : zKh ρ B U H :=
  ⟨h.1.narrow hAB, fun q hz => ⟨(h.2.1 q hz).1.narrow hAB, (h.2.1 q hz).2.narrow hAB⟩, h.2.2.1.narrow hAB, h.2.2.2.imp (fun z => z.narrow hAB) (fun z => z.narrow hAB)⟩
theorem zKs.warm {ρ : Nat → Nat} {s U : State} (hW : s.WarmedH U.vm) (h : zKs ρ s) : zKs ρ U := by
  refine ⟨fun q hq => (h.1 q hq).warm hW, fun w hw => ?_, fun C hC => va_AO.moved hW.alike (h.2.2 C hC)⟩
  rcases zNb_is hw with ⟨a, i, b, n, d, x, rfl⟩ | ⟨a, i, x, y, rfl⟩
  · exact va_Nw.warmF hW (h.2.1 _ hw)
  · exact va_Nw.warmM hW (h.2.1 _ hw)
/-- the law's script -/
def zX (μ : zMi) (ρ : Nat → Nat) (A : Nat → Prop) (s : State) : Prop := match μ.2.2.2.2.2 with
  | none => True
  | some ξ => va_T .int (ρ 1300) ξ.1 (fun j => .int (zI (ξ.2 j))) A s s.heap
/-- what holds all along a method's walk -/
def zC (μ : zMi) (p : Program) (s : State) (m : MethodId) (args : Array Value) (meth : Method) (c : Code) (dC : Nat → ClassId) (dI : Nat → Nat → Nat) (ca : Nat → ClassId) (ρ : Nat → Nat) (B : Nat) (A : Nat → Prop) : Prop :=
  p.tables.exec = Jvm.exec ∧ c.code = μ.2.1 ∧ meth.sig.returnType = μ.2.2.2.1 ∧ c.maxLocals = μ.2.2.1 ∧ s.vm.findClass μ.1.cls = some m.cls ∧ (∀ w ∈ zTb, w.before args s = true) ∧ meth.locks = false ∧ (μ.1.name = "<init>" → meth.name = "<init>") ∧ va_K (dC, dI) vwCl (zTys ca) s ∧ (∀ o : Nat, o < 1000 → ρ o = B + o) ∧ (∀ q, s.heap.size ≤ q → A q) ∧ zKh ρ A s s.heap ∧ zKs ρ s ∧ zX μ ρ A s
/-- what holds of the heap -/
def zH (dC : Nat → ClassId) (dI : Nat → Nat → Nat) (ca : Nat → ClassId) (ρ : Nat → Nat) (B : Nat) (A : Nat → Prop) (s : State) (S : zSh) (h : zMm) (H : Heap) (locs : List Loc) : Prop :=
  va_P (dC, dI) vwCl (zWl ρ ca S h) H ∧ va_D A (zWl ρ ca S h) ∧ va_S A s.heap H locs ∧ B + S.length ≤ H.size
def zRt (ret : Option FieldType) (r : Option Value) : Prop :=
  (ret = none ∧ r = none) ∨ (∃ ty x, ret = some ty ∧ r = some (.int x) ∧ narrow ty (.int x) = .int x) ∨ (ret = some .long ∧ ∃ x, r = some (.long x)) ∨ (∃ ty, ret = some ty ∧ ((∃ n, ty = .object n) ∨ ∃ t, ty = .array t) ∧ ∃ a, r = some (.ref a))
def zRi (r : Option Value) : Instr := match r with
  | none => .return_
  | some (.int _) => .ireturn
  | some (.long _) => .lreturn
  | _ => .areturn
/-- the walk's end -/
def zG (μ : zMi) (Q : Option Value → zSh → zMm → Prop) (p : Program) (l : Launch) (e : Env) (s : State) (m : MethodId) (args : Array Value) (below : List Frame) (meth : Method) (c : Code) (dC : Nat → ClassId) (dI : Nat → Nat → Nat) (ca : Nat → ClassId) (ρ : Nat → Nat) (B : Nat) (A : Nat → Prop) (Z : State → Prop) : Prop :=
  ∀ (H : Heap) (locs : List Loc) (ls : Array Slot) (pc k n : Nat) (r : Option Value) (S : zSh) (h : zMm), k = μ.2.2.2.2.1.cells → n ≤ μ.2.2.2.2.1.slots → s.heap.size + k = B + S.length → zH dC dI ca ρ B A s S h H locs → Q r S h → zRt μ.2.2.2.1 r → decode μ.2.1 pc = .ok (zRi r, 1) → W p l e μ.2.2.2.2.1 s m args below meth c H locs k n Z (F0 m pc ls (r.map (zV ρ)).toList)
/-- THE JUDGEMENT: from here the method comes to its end, and Q holds there -/
def RR (μ : zMi) (k n pc : Nat) (L : List (Option Value)) (st : List Value) (S : zSh) (h : zMm) (Q : Option Value → zSh → zMm → Prop) : Prop :=
  ∀ (p : Program) (l : Launch) (e : Env) (s : State) (m : MethodId) (args : Array Value) (below : List Frame) (meth : Method) (c : Code) (dC : Nat → ClassId) (dI : Nat → Nat → Nat) (ca : Nat → ClassId) (ρ : Nat → Nat) (B : Nat) (A : Nat → Prop) (Z : State → Prop) (H : Heap) (locs : List Loc) (ls : Array Slot),
    zC μ p s m args meth c dC dI ca ρ B A → zG μ Q p l e s m args below meth c dC dI ca ρ B A Z → s.heap.size + k = B + S.length → zH dC dI ca ρ B A s S h H locs → zLs ρ ls μ.2.2.1 L → W p l e μ.2.2.2.2.1 s m args below meth c H locs k n Z (F0 m pc ls (st.map (zV ρ)))
/-- a method's contract -/
def zCC (μ : zMi) (as : List Value) (S : zSh) (h : zMm) (Q : Option Value → zSh → zMm → Prop) : Prop := RR μ 0 0 0 (zEt as μ.2.2.1) [] S h Q
theorem RR.mono {μ : zMi} {k n pc : Nat} {L : List (Option Value)} {st : List Value} {S : zSh} {h : zMm} {Q Q' : Option Value → zSh → zMm → Prop} (hQ : ∀ r S' h', Q r S' h' → Q' r S' h') (hR : RR μ k n pc L st S h Q) : RR μ k n pc L st S h Q' := by
  intro p l e s m args below meth c dC dI ca ρ B A Z H locs ls hC hG hN hH hL
  exact hR p l e s m args below meth c dC dI ca ρ B A Z H locs ls hC (fun H locs ls pc k n r S h h1 h2 h0 h3 h4 h5 h6 => hG H locs ls pc k n r S h h1 h2 h0 h3 (hQ _ _ _ h4) h5 h6) hN hH hL
theorem zCC.mono {μ : zMi} {as : List Value} {S : zSh} {h : zMm} {Q Q' : Option Value → zSh → zMm → Prop} (hR : zCC μ as S h Q) (hQ : ∀ r S' h', Q r S' h' → Q' r S' h') : zCC μ as S h Q' := RR.mono hQ hR
/-- fewer locals -/
theorem RR.sub {μ : zMi} {k n pc : Nat} {L L' : List (Option Value)} {st : List Value} {S : zSh} {h : zMm} {Q : Option Value → zSh → zMm → Prop} (hL : ∀ (i : Nat) (v : Value), L'[i]? = some (some v) → L[i]? = some (some v)) (hR : RR μ k n pc L' st S h Q) : RR μ k n pc L st S h Q := by
  intro p l e s m args below meth c dC dI ca ρ B A Z H locs ls hC hG hN hH hl
  exact hR p l e s m args below meth c dC dI ca ρ B A Z H locs ls hC hG hN hH ⟨hl.1, hl.2.1, fun i v hi => hl.2.2 i v (hL i v hi)⟩

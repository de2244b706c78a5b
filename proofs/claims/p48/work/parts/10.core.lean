/-! An abstract machine over the real one: a state is how many objects were made, each one's shape (0 a thing of no use, 1.. an object of a class of xcl, 20.. an array) and what it holds;
an address below 1000000 is the number of a made object, from there on a thing that was there before (the script, texts, static rows). -/
abbrev xS : Type := Nat × (Nat → Nat × Nat) × (Nat → Nat → Value)
abbrev xRes : Type := Option Value ⊕ Nat
abbrev xM : Type := MethodName × ByteArray × Nat × Option FieldType × List (Nat × Nat × Nat × Nat) × Nat
abbrev xY (μ : xM) : MethodName := μ.1
abbrev xB (μ : xM) : ByteArray := μ.2.1
abbrev xL (μ : xM) : Nat := μ.2.2.1
abbrev xR (μ : xM) : Option FieldType := μ.2.2.2.1
abbrev xH (μ : xM) : List (Nat × Nat × Nat × Nat) := μ.2.2.2.2.1
abbrev xK (μ : xM) : Nat := μ.2.2.2.2.2
def xW (μ : xM) : Cond := match xH μ with
  | [] => .code (xY μ) (xB μ) (xL μ) (xR μ)
  | hh => .codeWith (xY μ) (xB μ) (xL μ) (xR μ) hh
def xWS : List Cond := lw_tbl.filter goodWord
theorem xWS_in {w : Cond} (h : w ∈ lw_tbl) (g : goodWord w = true) : w ∈ xWS := List.mem_filter.mpr ⟨h, g⟩
def xws (μ : xM) : List Cond := xW μ :: xWS
abbrev xG : Type := Nat × (Nat → ClassId) × (Nat → Nat → Nat) × (Nat → ClassId) × (Nat → Value) × (Nat → Nat × Nat) × (Nat → Nat → Value)
abbrev gB (g : xG) : Nat := g.1
abbrev gC (g : xG) : Nat → ClassId := g.2.1
abbrev gI (g : xG) : Nat → Nat → Nat := g.2.2.1
abbrev gA (g : xG) : Nat → ClassId := g.2.2.2.1
abbrev gV (g : xG) : Nat → Value := g.2.2.2.2.1
abbrev gS (g : xG) : Nat → Nat × Nat := g.2.2.2.2.2.1
abbrev gH (g : xG) : Nat → Nat → Value := g.2.2.2.2.2.2
def xv (g : xG) : Value → Value
  | .ref a => if a < 1000000 then .ref (gB g + a) else gV g a
  | v => v
theorem xv_int (g : xG) (x : Int32) : xv g (.int x) = .int x := rfl
theorem xv_long (g : xG) (x : Int64) : xv g (.long x) = .long x := rfl
theorem xv_double (g : xG) (x : UInt64) : xv g (.double x) = .double x := rfl
theorem xv_null (g : xG) : xv g .null = .null := rfl
theorem xv_ref (g : xG) {a : Nat} (h : a < 1000000) : xv g (.ref a) = .ref (gB g + a) := by simp [xv, h]
theorem xv_stat (g : xG) {a : Nat} (h : 1000000 ≤ a) : xv g (.ref a) = gV g a := by simp [xv, Nat.not_lt.mpr h]
abbrev xcl : List vw_C := [(RX0, TX0, 4), (RX1, TX1, 11), (RX2, TX2, 5), (RX3, TX3, 7), (RX4, TX4, 4), (RX5, TX5, 3), (RX6, TX6, 10), (RX7, TX7, 7), (RJx4a65c, TJx4a65c, 3), (RJx35411, TJx35411, 4), (RX18, TX18, 9), (RX12, TX12, 6), (RX13, TX13, 4), (RX14, TX14, 1), (RX16, TX16, 4), (RX17, TX17, 1), (RJ4, TJ4, 4), (RJ0, TJ0, 4)]
def xty : Nat → FieldType
  | 20 => .int
  | 21 => .byte
  | 22 => .object "java/lang/Object"
  | _ => .object RX1
/-- a made thing has no more than n slots -/
def t_SZ (a n : Nat) (H : Heap) : Prop := ∃ cell : Cell, H[a]? = some cell ∧ cell.slots.size ≤ n
def xcell (g : xG) (q : Nat × Nat) (f : Nat → Value) (a : Nat) (H : Heap) : Prop :=
  q.1 = 0 ∨ (0 < q.1 ∧ q.1 < 20 ∧ ∃ r : vw_C, xcl[q.1 - 1]? = some r ∧ t_OB a (gC g (q.1 - 1)) r.2.2 (gI g (q.1 - 1)) H (fun i => xv g (f i)) ∧ t_SZ a q.2 H) ∨ (20 ≤ q.1 ∧ q.1 < 24 ∧ H[a]? = some (arrV (gA g q.1) q.2 (fun j => xv g (f j))))
def xRep (g : xG) (σ : xS) (H : Heap) : Prop :=
  H.size = gB g + σ.1 ∧ σ.1 ≤ 1000000 ∧ (∀ k, k < σ.1 → xcell g (σ.2.1 k) (σ.2.2 k) (gB g + k) H) ∧ ∀ k, 1000000 ≤ k → σ.2.1 k = gS g k ∧ σ.2.2 k = gH g k
def xA (g : xG) : Nat → Prop := fun q => gB g ≤ q
/-- words of the tables that no frame's good words hold -/
def xnw : Cond → Bool
  | .fieldLinkNest .. => true
  | .methodLinkNest .. => true
  | .castable .. => true
  | .declares .. => true
  | _ => false
/-- static fields, String constants (owner, pool index, text, abstract address), pairs that aren't castable: the claim's own -/
def xstat : List (String × String × String × Value) := [(RX3, "NUMBERS", "[I", .ref 1000001), (RX3, "LEAST", "[I", .ref 1000002), (RX3, "GREATEST", "[I", .ref 1000003), ("java/lang/String", "COMPACT_STRINGS", "Z", .int 1), ("jdk/internal/util/Preconditions", "SIOOBE_FORMATTER", "Ljava/util/function/BiFunction;", .ref 1000050), ("java/util/ArrayList", "DEFAULTCAPACITY_EMPTY_ELEMENTDATA", "[Ljava/lang/Object;", .ref 1000012), ("java/lang/Integer", "DigitOnes", "[B", .ref 1000011), ("java/lang/Integer", "DigitTens", "[B", .ref 1000010), ("java/lang/Integer$IntegerCache", "high", "I", .int 127), ("java/lang/Integer$IntegerCache", "cache", "[Ljava/lang/Integer;", .ref 1000299)]
/-- the type of a static row of references -/
def xsty (k : Nat) : FieldType := if k = 1000299 then .object "java/lang/Integer" else .object "java/lang/Object"
/-- what p48 wants beside: rows of references, boxes, the class object of Object[] -/
def xS2 (g : xG) (U : State) (H : Heap) : Prop :=
  va_AO "java/lang/Object" U ∧
  (∀ k n, 1000000 ≤ k → gS g k = (35, n) → ∃ t, gV g k = .ref t ∧ va_T (xsty k) t n (fun j => xv g (gH g k j)) (xA g) U H) ∧
  (∀ k n, 1000000 ≤ k → gS g k = (33, n) → ∃ t, gV g k = .ref t ∧ va_O "java/lang/Integer" t (xA g) U H ∧ va_OF "java/lang/Integer" "value" "I" (xv g (gH g k 0)) t (xA g) U H) ∧
  (∃ mi, gV g 1000013 = .ref mi ∧ va_Mi "[Ljava/lang/Object;" mi U) ∧
  (∀ q ∈ xifs, va_Fw q.1 q.2.1 q.2.2 U) ∧ ∀ q ∈ xpsel, (Cond.selects q.1 q.2 q.2).before #[] U = true
theorem xifs_mh : ∀ q ∈ xifs, q.2.1.cls ≠ "java/lang/invoke/MethodHandle" ∧ q.2.1.cls ≠ "java/lang/invoke/VarHandle" := by decide +kernel
theorem xS2.moved {g : xG} {s U : State} {H : Heap} (hW : s.WarmedH U.vm) (h : xS2 g s H) : xS2 g U H := by
  have hA := hW.alike
  obtain ⟨h1, h2, h3, ⟨mi, h4, h5⟩, h6, h7⟩ := h
  refine ⟨h1.moved hA, fun k n a b => ?_, fun k n a b => ?_, ⟨mi, h4, h5.moved hA⟩, fun q hq => (h6 q hq).moved (xifs_mh q hq) hA, fun q hq => word_at hW (Or.inl rfl) (h7 q hq)⟩
  · obtain ⟨t, e, z⟩ := h2 k n a b
    exact ⟨t, e, z.moved hA⟩
  · obtain ⟨t, e, z1, z2⟩ := h3 k n a b
    exact ⟨t, e, z1.moved hA, z2.moved hA⟩
theorem xS2.kept {g : xG} {U : State} {H H1 : Heap} (hq : ∀ a : Nat, a < H.size → ¬ xA g a → H1[a]? = H[a]?) (h : xS2 g U H) : xS2 g U H1 := by
  obtain ⟨h1, h2, h3, h4⟩ := h
  refine ⟨h1, fun k n a b => ?_, fun k n a b => ?_, h4⟩
  · obtain ⟨t, e, z⟩ := h2 k n a b
    exact ⟨t, e, z.kept hq⟩
  · obtain ⟨t, e, z1, z2⟩ := h3 k n a b
    exact ⟨t, e, z1.kept hq, z2.kept hq⟩
def xSF (g : xG) (U : State) (H : Heap) : Prop :=
  (∀ (c : Nat) (q : vw_C), xcl[c]? = some q → u_Kn U q.1 q.2.1 q.2.2 (gC g c) (gI g c)) ∧
  (∀ t, 20 ≤ t → t < 24 → ArrOfT U (gA g t) (xty t) ∧ va_RA U (gA g t) (xty t)) ∧
  (∀ k n, 1000000 ≤ k → gS g k = (30, n) → ∃ t, gV g k = .ref t ∧ va_T .int t n (fun j => xv g (gH g k j)) (xA g) U H) ∧
  (∀ k n, 1000000 ≤ k → gS g k = (32, n) → ∃ t, gV g k = .ref t ∧ va_T .byte t n (fun j => xv g (gH g k j)) (xA g) U H) ∧
  (∀ k n, 1000000 ≤ k → gS g k = (31, n) → ∃ t, gV g k = .ref t ∧ va_O "java/lang/String" t (xA g) U H ∧ va_OF "java/lang/String" "value" "[B" (xv g (gH g k 0)) t (xA g) U H ∧ va_OF "java/lang/String" "coder" "B" (xv g (gH g k 1)) t (xA g) U H) ∧
  (∀ q ∈ xstat, va_Z q.1 q.2.1 q.2.2.1 (xv g q.2.2.2) (xA g) U H) ∧
  (∀ q ∈ xstr, ∃ t, gV g q.2.2.2 = .ref t ∧ vk_R q.1 q.2.1 q.2.2.1 t U) ∧
  (∀ w ∈ lw_tbl, xnw w = true → va_Nw w U) ∧
  (∀ q ∈ xnc, va_Nc q.1 q.2 U) ∧
  (vx_Zq Bundle.tN "UNASSIGNED_STACK" Bundle.steD (xA g) U H ∧ vx_Zq Bundle.tN "SUPPRESSED_SENTINEL" Bundle.listD (xA g) U H) ∧
  (∀ k, 1000000 ≤ k → gV g k = .null ∨ ∃ t, gV g k = .ref t) ∧
  (gB g ≤ H.size ∧ va_AO RX1 U ∧ xS2 g U H)
theorem xnw_moved {w : Cond} (h : xnw w = true) {s U : State} (hW : s.WarmedH U.vm) (hz : va_Nw w s) : va_Nw w U := by
  cases w <;> first | (cases h; done) | exact va_Nw.warmF hW hz | exact va_Nw.warmM hW hz | exact va_Nw.warmC hW hz | exact va_Nw.warmD hW hz
theorem xSF.moved {g : xG} {s U : State} {H : Heap} (hW : s.WarmedH U.vm) (h : xSF g s H) : xSF g U H := by
  have hA := hW.alike
  obtain ⟨h1, h2, h3, h4, h5, h6, h7, h8, h9, ⟨h10, h11⟩, h12, h13⟩ := h
  refine ⟨fun c q hq => u_Kn_moved hA (h1 c q hq), fun t a b => ⟨arrOfT_moved hA (h2 t a b).1, (h2 t a b).2.moved hA⟩, fun k n a b => ?_, fun k n a b => ?_, fun k n a b => ?_, fun q hq => (h6 q hq).moved hA, fun q hq => ?_, fun w hw hx => xnw_moved hx hW (h8 w hw hx), fun q hq => (h9 q hq).moved hA, ⟨h10.moved hA, h11.moved hA⟩, h12, h13.1, h13.2.1.moved hA, h13.2.2.moved hW⟩
  · obtain ⟨t, e, z⟩ := h3 k n a b
    exact ⟨t, e, z.moved hA⟩
  · obtain ⟨t, e, z⟩ := h4 k n a b
    exact ⟨t, e, z.moved hA⟩
  · obtain ⟨t, e, z1, z2, z3⟩ := h5 k n a b
    exact ⟨t, e, z1.moved hA, z2.moved hA, z3.moved hA⟩
  · obtain ⟨t, e, z⟩ := h7 q hq
    exact ⟨t, e, z.warm hW⟩
theorem xSF.kept {g : xG} {U : State} {H H1 : Heap} (hz : H.size ≤ H1.size) (hq : ∀ a : Nat, a < H.size → ¬ xA g a → H1[a]? = H[a]?) (h : xSF g U H) : xSF g U H1 := by
  obtain ⟨h1, h2, h3, h4, h5, h6, h7, h8, h9, ⟨h10, h11⟩, h12, h13⟩ := h
  refine ⟨h1, h2, fun k n a b => ?_, fun k n a b => ?_, fun k n a b => ?_, fun q hq' => (h6 q hq').kept hq, h7, h8, h9, ⟨h10.kept hq, h11.kept hq⟩, h12, Nat.le_trans h13.1 hz, h13.2.1, h13.2.2.kept hq⟩
  · obtain ⟨t, e, z⟩ := h3 k n a b
    exact ⟨t, e, z.kept hq⟩
  · obtain ⟨t, e, z⟩ := h4 k n a b
    exact ⟨t, e, z.kept hq⟩
  · obtain ⟨t, e, z1, z2, z3⟩ := h5 k n a b
    exact ⟨t, e, z1.kept hq, z2.kept hq, z3.kept hq⟩
theorem xS2of {g : xG} {U : State} {H : Heap} (h : xSF g U H) : xS2 g U H := h.2.2.2.2.2.2.2.2.2.2.2.2.2
def xrm (μ : xM) (c9 s9 : Nat) : Room := { frames := xK μ + 8, cells := c9, slots := s9, locals := 60 * xK μ + 200 }
def xE : Nat → String
  | 0 => "java/lang/IndexOutOfBoundsException"
  | 1 => "java/lang/IllegalArgumentException"
  | 2 => "java/lang/IllegalStateException"
  | 3 => "java/util/NoSuchElementException"
  | _ => "java/lang/ArithmeticException"
def xLv (g : xG) (nL : Nat) (L : List (Option Value)) (ls : Array Slot) : Prop := L.length = nL ∧ ls.size = nL ∧ lv_wf ls ∧ ∀ (i : Nat) (v : Value), L[i]? = some (some v) → ls[i]? = some (.val (xv g v))
def xCx (μ : xM) (g : xG) (p : Program) (l : Launch) (R : Room) (s : State) (m : MethodId) (args : Array Value) (meth : Method) (c : Code) : Prop :=
  p.tables.exec = Jvm.exec ∧ c.code = xB μ ∧ c.maxLocals = xL μ ∧ meth.sig.returnType = xR μ ∧ meth.locks = false ∧ s.vm.findClass (xY μ).cls = some m.cls ∧ meth.name = (xY μ).name ∧ (∀ w ∈ xWS, w.before args s = true) ∧
  c.exceptionTable.toList = tableOf (xH μ) ∧ l.stackTraces = false ∧ R.frames = xK μ + 8 ∧ R.locals = 60 * xK μ + 200 ∧ xSF g s s.heap
def xRet (μ : xM) (pc : Nat) : Option Value → Prop
  | none => xR μ = none ∧ decode (xB μ) pc = .ok (.return_, 1)
  | some (.int x) => (∃ ty, xR μ = some ty ∧ narrow ty (.int x) = .int x) ∧ decode (xB μ) pc = .ok (.ireturn, 1)
  | some (.double _) => xR μ = some .double ∧ decode (xB μ) pc = .ok (.dreturn, 1)
  | some (.ref _) => (∃ ty, xR μ = some ty ∧ ((∃ n, ty = .object n) ∨ ∃ t, ty = .array t)) ∧ decode (xB μ) pc = .ok (.areturn, 1)
  | some .null => (∃ ty, xR μ = some ty ∧ ((∃ n, ty = .object n) ∨ ∃ t, ty = .array t)) ∧ decode (xB μ) pc = .ok (.areturn, 1)
  | _ => False
def xEnd (μ : xM) (g : xG) (p : Program) (l : Launch) (e : Env) (R : Room) (s : State) (m : MethodId) (args : Array Value) (below : List Frame) (meth : Method) (c : Code) (Q : State → Prop) (Φ : xRes → xS → Prop) : Prop :=
  (∀ (v : Option Value) (σ : xS) (H : Heap) (locs : List Loc) (cells slots : Nat) (ls : Array Slot) (pc : Nat), Φ (.inl v) σ → xRep g σ H → va_S (xA g) s.heap H locs → cells ≤ R.cells → slots ≤ R.slots → xRet μ pc v → W p l e R s m args below meth c H locs cells slots Q (F0 m pc ls (v.toList.map (xv g)))) ∧
  (∀ (E : Nat) (σ : xS) (H : Heap) (locs : List Loc) (cells slots : Nat) (ls : Array Slot) (pc : Nat) (rest : List Value) (q : Nat) (ce : Cell), Φ (.inr E) σ → xRep g σ H → va_S (xA g) s.heap H locs → cells ≤ R.cells → slots ≤ R.slots → H[q]? = some ce → ce.vm = .none → s.vm.findClass (xE E) = some ce.cls → (∀ x ∈ tableOf (xH μ), covers x pc = false) → vx_W p l e R s m args below meth c H locs cells slots Q (F0 m pc ls rest) q)
/-- from here, with these locals, this stack, this state and this room, the method comes to an end that Φ says -/
def X (μ : xM) (pc : Nat) (L : List (Option Value)) (st : List Value) (σ : xS) (c9 s9 : Nat) (Φ : xRes → xS → Prop) : Prop :=
  ∀ (g : xG) (p : Program) (l : Launch) (e : Env) (R : Room) (s : State) (m : MethodId) (args : Array Value) (below : List Frame) (meth : Method) (c : Code) (Q : State → Prop), xCx μ g p l R s m args meth c → xEnd μ g p l e R s m args below meth c Q Φ →
    ∀ (H : Heap) (locs : List Loc) (cells slots : Nat) (ls : Array Slot), xRep g σ H → xLv g (xL μ) L ls → va_S (xA g) s.heap H locs → cells + c9 ≤ R.cells → slots + s9 ≤ R.slots → W p l e R s m args below meth c H locs cells slots Q (F0 m pc ls (st.map (xv g)))
def xEnt : List Value → Nat → List (Option Value)
  | [], n => List.replicate n none
  | v :: vs, n => some v :: (if v.category = 2 then none :: xEnt vs (n - 2) else xEnt vs (n - 1))
theorem xcat (g : xG) (v : Value) (hg : ∀ k, 1000000 ≤ k → gV g k = .null ∨ ∃ t, gV g k = .ref t) : (xv g v).category = v.category := by
  cases v with
  | ref a =>
    by_cases h : a < 1000000
    · rw [xv_ref g h]; rfl
    · rw [xv_stat g (Nat.le_of_not_lt h)]
      rcases hg a (Nat.le_of_not_lt h) with e | ⟨t, e⟩ <;> rw [e] <;> rfl
  | _ => rfl

/-! what the Statement gives of the start -/
def nlist : List Jvm.Cond := flatC (Jvm.Cond.and given_1 narrow_1)
theorem sub_mem {l m : List Jvm.Cond} {i n : Nat} (h : (l.drop i).take n = m) : ∀ w ∈ m, w ∈ l := fun w hw => List.mem_of_mem_drop (List.mem_of_mem_take (by rw [h]; exact hw))
theorem idx_mem {α : Type} {l : List Jvm.Cond} {is : List Nat} {xs : List α} {f : α → Jvm.Cond} (h : (is.map fun i => l[i]?) = xs.map fun q => some (f q)) : ∀ q ∈ xs, f q ∈ l := by
  intro q hq
  have h1 : some (f q) ∈ is.map fun i => l[i]? := by
    rw [h]
    exact List.mem_map.mpr ⟨q, hq, rfl⟩
  obtain ⟨i, -, e⟩ := List.mem_map.mp h1
  exact List.mem_of_getElem? e
def aC (n : String) (xs : List Int32) : List Jvm.Cond := .isRef (.static RX3 n "[I") :: .arrayOf (.static RX3 n "[I") .int :: .eq (.length (.static RX3 n "[I")) (.int (Int32.ofNat xs.length)) :: (List.range xs.length).map (fun j => .eq (.elem (.static RX3 n "[I") (.int (Int32.ofNat j))) (.int (xs.getD j 0)))
def sC (own : String) (k : Nat) (xs : List Int32) : List Jvm.Cond := .exactly (.string own k) "java/lang/String" :: .eq (.field (.string own k) "java/lang/String" "coder" "B") (.int 0) :: .arrayOf (.field (.string own k) "java/lang/String" "value" "[B") .byte :: .eq (.length (.field (.string own k) "java/lang/String" "value" "[B")) (.int (Int32.ofNat xs.length)) :: (List.range xs.length).map (fun j => .eq (.elem (.field (.string own k) "java/lang/String" "value" "[B") (.int (Int32.ofNat j))) (.int (xs.getD j 0)))
theorem nl_NUMBERS : (nlist.drop 9).take 8 = aC "NUMBERS" [3, 3, 2, 2, 3] := by decide +kernel
theorem nl_LEAST : (nlist.drop 17).take 18 = aC "LEAST" [0, 0, 1, 3, 0, 1, 0, 1, 0, 0, 0, 0, 1, 1, 0] := by decide +kernel
theorem nl_GREATEST : (nlist.drop 35).take 18 = aC "GREATEST" [40, 10, 200, 30, 5, 60, 3, 365, 0, 3, 5, 0, 5, 12, 200] := by decide +kernel
theorem nl_1000100 : (nlist.drop 114).take 9 = sC "ClimbingHall$SetupText" 56 [114, 117, 108, 101, 115] := by decide +kernel
theorem nl_1000101 : (nlist.drop 123).take 8 = sC "ClimbingHall$SetupText" 58 [119, 97, 108, 108] := by decide +kernel
theorem nl_1000102 : (nlist.drop 131).take 11 = sC "ClimbingHall$SetupText" 60 [104, 97, 114, 110, 101, 115, 115] := by decide +kernel
theorem nl_1000103 : (nlist.drop 142).take 10 = sC "ClimbingHall$SetupText" 62 [109, 101, 109, 98, 101, 114] := by decide +kernel
theorem nl_1000104 : (nlist.drop 152).take 10 = sC "ClimbingHall$SetupText" 64 [99, 111, 117, 114, 115, 101] := by decide +kernel
theorem nl_1000127 : (nlist.drop 893).take 9 = sC "ClimbingHallModel" 129 [114, 117, 108, 101, 115] := by decide +kernel
theorem nl_1000128 : (nlist.drop 903).take 8 = sC "ClimbingHallModel" 138 [119, 97, 108, 108] := by decide +kernel
theorem nl_1000129 : (nlist.drop 912).take 11 = sC "ClimbingHallModel" 140 [104, 97, 114, 110, 101, 115, 115] := by decide +kernel
theorem nl_1000130 : (nlist.drop 924).take 10 = sC "ClimbingHallModel" 142 [109, 101, 109, 98, 101, 114] := by decide +kernel
theorem nl_1000131 : (nlist.drop 935).take 10 = sC "ClimbingHallModel" 144 [99, 111, 117, 114, 115, 101] := by decide +kernel
theorem nl_ex : ([114, 123, 131, 142, 152, 162, 213, 247, 278, 310, 338, 370, 409, 450, 478, 505, 553, 582, 616, 660, 690, 720, 746, 774, 817, 844, 870, 893, 903, 912, 924, 935].map fun i => nlist[i]?) = xstr.map fun q => some (Jvm.Cond.exactly (.string q.1 q.2.1) "java/lang/String") := by decide +kernel
theorem nl_nc : ((List.range 59).map fun i => (nlist.drop 55)[i]?) = xnc.map fun q => some (Jvm.Cond.not (.castable q.1 q.2)) := by decide +kernel
theorem nl_sr : ([274, 275, 276, 277, 278, 444, 494, 508, 561, 573, 579, 666, 691, 702, 704, 717, 726, 735, 761, 771, 814, 827, 912, 949, 974, 996, 1026, 1275, 1298, 1299, 1300, 1301].map fun i => tables_1[i]?) = xstr.map fun q => some (Jvm.Cond.stringRef q.1 q.2.1 q.2.2.1) := by decide +kernel
theorem nl_cs : Jvm.Cond.eq (.static "java/lang/String" "COMPACT_STRINGS" "Z") (.int 1) ∈ nlist := List.mem_of_getElem? (i := 4) (by decide +kernel)
theorem nl_sf : Jvm.Cond.isRef (Jvm.Term.static "jdk/internal/util/Preconditions" "SIOOBE_FORMATTER" "Ljava/util/function/BiFunction;") ∈ nlist := List.mem_of_getElem? (i := 5) (by decide +kernel)
theorem nl_us : Jvm.Cond.isRef (Jvm.Term.static "java/lang/Throwable" "UNASSIGNED_STACK" "[Ljava/lang/StackTraceElement;") ∈ nlist := List.mem_of_getElem? (i := 53) (by decide +kernel)
theorem nl_ss : Jvm.Cond.isRef (Jvm.Term.static "java/lang/Throwable" "SUPPRESSED_SENTINEL" "Ljava/util/List;") ∈ nlist := List.mem_of_getElem? (i := 54) (by decide +kernel)
theorem lay_N : Jvm.Cond.laysStatic "ClimbingHall$SetupText" "NUMBERS" "[I" ∈ lw_tbl := tw2 (List.mem_of_getElem? (i := 100) (by decide +kernel))
theorem lay_L : Jvm.Cond.laysStatic "ClimbingHall$SetupText" "LEAST" "[I" ∈ lw_tbl := tw2 (List.mem_of_getElem? (i := 112) (by decide +kernel))
theorem lay_G : Jvm.Cond.laysStatic "ClimbingHall$SetupText" "GREATEST" "[I" ∈ lw_tbl := tw2 (List.mem_of_getElem? (i := 114) (by decide +kernel))
theorem lay_C : Jvm.Cond.laysStatic "java/lang/String" "COMPACT_STRINGS" "Z" ∈ lw_tbl := tw2 (List.mem_of_getElem? (i := 52) (by decide +kernel))
theorem lay_F : Jvm.Cond.laysStatic "jdk/internal/util/Preconditions" "SIOOBE_FORMATTER" "Ljava/util/function/BiFunction;" ∈ lw_tbl := tw2 (List.mem_of_getElem? (i := 68) (by decide +kernel))
theorem lay_U : Jvm.Cond.laysStatic "java/lang/Throwable" "UNASSIGNED_STACK" "[Ljava/lang/StackTraceElement;" ∈ lw_tbl := tw2 (List.mem_of_getElem? (i := 187) (by decide +kernel))
theorem lay_S : Jvm.Cond.laysStatic "java/lang/Throwable" "SUPPRESSED_SENTINEL" "Ljava/util/List;" ∈ lw_tbl := tw2 (List.mem_of_getElem? (i := 189) (by decide +kernel))
theorem va_T_congr {ty : FieldType} {t N : Nat} {f f' : Nat → Value} {A : Nat → Prop} {U : State} {H : Heap} (h : va_T ty t N f A U H) (e : ∀ j, j < N → f j = f' j) : va_T ty t N f' A U H := by
  obtain ⟨cell, h1, h2, h3, h4, h5, h6, h7⟩ := h
  exact ⟨cell, h1, h2, h3, h4, h5, fun j hj => by rw [← e j hj]; exact h6 j hj, h7⟩
section SS
variable {args : Array Value} {s : State} {A : Nat → Prop}
theorem st_arr {n : String} {xs : List Int32} (h : ∀ w ∈ aC n xs, w.before args s = true) (hl : xs.length < 2 ^ 31) (hA : ∀ a : Nat, a < s.heap.size → ¬ A a) : ∃ t : Nat, (Jvm.Term.static RX3 n "[I").eval args s none [] s = some (.ref t) ∧ va_T .int t xs.length (fun j => .int (xs.getD j 0)) A s s.heap := by
  unfold aC at h
  exact va_Tof hl (h _ (List.mem_cons_of_mem _ List.mem_cons_self)) (va_eqt (h _ (List.mem_cons_of_mem _ (List.mem_cons_of_mem _ List.mem_cons_self)))) (fun j hj => va_eqt (h _ (List.mem_cons_of_mem _ (List.mem_cons_of_mem _ (List.mem_cons_of_mem _ (List.mem_map.mpr ⟨j, List.mem_range.mpr hj, rfl⟩)))))) hA
theorem st_str {own : String} {k : Nat} {xs : List Int32} (h : ∀ w ∈ sC own k xs, w.before args s = true) (hl : xs.length < 2 ^ 31) (hA : ∀ a : Nat, a < s.heap.size → ¬ A a) : ∃ t v : Nat, (Jvm.Term.string own k).eval args s none [] s = some (.ref t) ∧ (Jvm.Term.field (.string own k) "java/lang/String" "value" "[B").eval args s none [] s = some (.ref v) ∧ va_O "java/lang/String" t A s s.heap ∧ va_OF "java/lang/String" "coder" "B" (.int 0) t A s s.heap ∧ va_OF "java/lang/String" "value" "[B" (.ref v) t A s s.heap ∧ va_T .byte v xs.length (fun j => .int (xs.getD j 0)) A s s.heap := by
  unfold sC at h
  have hex := h _ List.mem_cons_self
  obtain ⟨t, c, cA, kA, q1, -⟩ := Cond.exactly_spec (args := args) (first := s) (o := none) (s := s) (idx := []) (t := .string own k) (cls := "java/lang/String") hex
  obtain ⟨v, q2, q3⟩ := va_Tof (f := fun j => .int (xs.getD j 0)) (A := A) hl (h _ (List.mem_cons_of_mem _ (List.mem_cons_of_mem _ List.mem_cons_self))) (va_eqt (h _ (List.mem_cons_of_mem _ (List.mem_cons_of_mem _ (List.mem_cons_of_mem _ List.mem_cons_self))))) (fun j hj => va_eqt (h _ (List.mem_cons_of_mem _ (List.mem_cons_of_mem _ (List.mem_cons_of_mem _ (List.mem_cons_of_mem _ (List.mem_map.mpr ⟨j, List.mem_range.mpr hj, rfl⟩))))))) hA
  exact ⟨t, v, q1, q2, va_Oof hex q1 hA, vk_OFof q1 (va_eqt (h _ (List.mem_cons_of_mem _ List.mem_cons_self))) hA, vk_OFof q1 q2 hA, q3⟩
theorem st_ref {T : Jvm.Term} (h : (Jvm.Cond.isRef T).before args s = true) : T.eval args s none [] s = some .null ∨ ∃ t, T.eval args s none [] s = some (.ref t) := by
  cases hv : T.eval args s none [] s with
  | none => simp [Cond.before, Cond.holds, Cond.value, hv] at h
  | some w =>
    simp only [Cond.before, Cond.holds, Cond.value, hv] at h
    cases w with
    | null => exact Or.inl rfl
    | ref t => exact Or.inr ⟨t, rfl⟩
    | _ => simp at h
end SS
/-- the terms that name what was there before -/
def xTm : List (Nat × Jvm.Term) := [(1000000, .arg 0), (1000001, .static RX3 "NUMBERS" "[I"), (1000002, .static RX3 "LEAST" "[I"), (1000003, .static RX3 "GREATEST" "[I"), (1000050, .static "jdk/internal/util/Preconditions" "SIOOBE_FORMATTER" "Ljava/util/function/BiFunction;"), (1000100, .string "ClimbingHall$SetupText" 56), (1000101, .string "ClimbingHall$SetupText" 58), (1000102, .string "ClimbingHall$SetupText" 60), (1000103, .string "ClimbingHall$SetupText" 62), (1000104, .string "ClimbingHall$SetupText" 64), (1000105, .string "ClimbingHall" 61), (1000106, .string "ClimbingHall" 331), (1000107, .string "ClimbingHall" 79), (1000108, .string "ClimbingHall" 328), (1000109, .string "ClimbingHall" 108), (1000110, .string "ClimbingHall" 120), (1000111, .string "ClimbingHall" 139), (1000112, .string "ClimbingHall" 147), (1000113, .string "ClimbingHall" 161), (1000114, .string "ClimbingHall" 166), (1000115, .string "ClimbingHall" 171), (1000116, .string "ClimbingHall" 176), (1000117, .string "ClimbingHall" 181), (1000118, .string "ClimbingHall" 193), (1000119, .string "ClimbingHall" 203), (1000120, .string "ClimbingHall" 220), (1000121, .string "ClimbingHall" 232), (1000122, .string "ClimbingHall" 335), (1000123, .string "ClimbingHall" 268), (1000124, .string "ClimbingHall" 275), (1000125, .string "ClimbingHall" 338), (1000126, .string "ClimbingHall" 289), (1000127, .string "ClimbingHallModel" 129), (1000128, .string "ClimbingHallModel" 138), (1000129, .string "ClimbingHallModel" 140), (1000130, .string "ClimbingHallModel" 142), (1000131, .string "ClimbingHallModel" 144), (1000200, .field (.string "ClimbingHall$SetupText" 56) "java/lang/String" "value" "[B"), (1000201, .field (.string "ClimbingHall$SetupText" 58) "java/lang/String" "value" "[B"), (1000202, .field (.string "ClimbingHall$SetupText" 60) "java/lang/String" "value" "[B"), (1000203, .field (.string "ClimbingHall$SetupText" 62) "java/lang/String" "value" "[B"), (1000204, .field (.string "ClimbingHall$SetupText" 64) "java/lang/String" "value" "[B"), (1000227, .field (.string "ClimbingHallModel" 129) "java/lang/String" "value" "[B"), (1000228, .field (.string "ClimbingHallModel" 138) "java/lang/String" "value" "[B"), (1000229, .field (.string "ClimbingHallModel" 140) "java/lang/String" "value" "[B"), (1000230, .field (.string "ClimbingHallModel" 142) "java/lang/String" "value" "[B"), (1000231, .field (.string "ClimbingHallModel" 144) "java/lang/String" "value" "[B")]
def xGV (args : Array Value) (s : State) (k : Nat) : Value := match xTm.lookup k with
  | some t => (t.eval args s none [] s).getD .null
  | none => .null
theorem xTm_str : ∀ q ∈ xstr, xTm.lookup q.2.2.2 = some (Jvm.Term.string q.1 q.2.1) := by decide +kernel
theorem xGV_at {args : Array Value} {s : State} {k : Nat} {t : Jvm.Term} {v : Value} (h : xTm.lookup k = some t) (e : t.eval args s none [] s = some v) : xGV args s k = v := by
  unfold xGV
  rw [h]
  show (t.eval args s none [] s).getD .null = v
  rw [e]
  rfl

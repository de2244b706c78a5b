/-! the start's world -/
def zS0 (ln : Nat) (xs : Nat → Int32) : ZZ := fun a k => if a = 1000000 ∧ 0 ≤ k ∧ k < (ln : Int) then (xs k.toNat).toInt else 0
theorem zS0_Zr (ln : Nat) (xs : Nat → Int32) : Zr (zS0 ln xs) 0 := fun a _ h k => if_neg (fun q => by omega)
theorem zS0_ok (ln : Nat) (xs : Nat → Int32) : okz (zS0 ln xs) := by
  intro a j _
  unfold zS0
  split
  · exact inR_of _
  · exact ⟨by decide, by decide⟩
theorem zST_mem {ln : ZR} {k c n : Nat} (hk : 1000000 < k) (hc : c ≠ 0) (h35 : c ≠ 35) (h33 : c ≠ 33) (h : zSH ln k = (c, n)) : (k, c, n) ∈ zSTl := by
  unfold zSH at h
  rw [if_neg (by omega), if_neg (by omega), if_neg (by omega)] at h
  unfold zST at h
  by_cases a1 : k = 1000012
  · rw [if_pos a1] at h
    exact absurd (congrArg Prod.fst h).symm h35
  rw [if_neg a1] at h
  by_cases a2 : k = 1000299
  · rw [if_pos a2] at h
    exact absurd (congrArg Prod.fst h).symm h35
  rw [if_neg a2] at h
  by_cases a3 : 1000300 ≤ k ∧ k < 1000556
  · rw [if_pos a3] at h
    exact absurd (congrArg Prod.fst h).symm h33
  rw [if_neg a3] at h
  cases hl : zSTl.lookup k with
  | none =>
    rw [hl] at h
    exact absurd (congrArg Prod.fst h).symm hc
  | some q =>
    rw [hl] at h
    have h' : q = (c, n) := h
    subst h'
    obtain ⟨l1, l2, h5, -⟩ := List.lookup_eq_some_iff.mp hl
    rw [h5]
    simp
theorem zST_n35 : ∀ e ∈ zSTl, e.2.1 ≠ 35 ∧ e.2.1 ≠ 33 := by decide +kernel
theorem zST_get {k c n : Nat} (hc : c ≠ 0) (h : zST k = (c, n)) : (k = 1000012 ∧ c = 35 ∧ n = 0) ∨ (k = 1000299 ∧ c = 35 ∧ n = 256) ∨ (1000300 ≤ k ∧ k < 1000556 ∧ c = 33 ∧ n = 0) ∨ (k, c, n) ∈ zSTl := by
  unfold zST at h
  by_cases a1 : k = 1000012
  · rw [if_pos a1] at h
    exact Or.inl ⟨a1, (congrArg Prod.fst h).symm, (congrArg Prod.snd h).symm⟩
  rw [if_neg a1] at h
  by_cases a2 : k = 1000299
  · rw [if_pos a2] at h
    exact Or.inr (Or.inl ⟨a2, (congrArg Prod.fst h).symm, (congrArg Prod.snd h).symm⟩)
  rw [if_neg a2] at h
  by_cases a3 : 1000300 ≤ k ∧ k < 1000556
  · rw [if_pos a3] at h
    exact Or.inr (Or.inr (Or.inl ⟨a3.1, a3.2, (congrArg Prod.fst h).symm, (congrArg Prod.snd h).symm⟩))
  rw [if_neg a3] at h
  cases hl : zSTl.lookup k with
  | none =>
    rw [hl] at h
    exact absurd (congrArg Prod.fst h).symm hc
  | some q =>
    rw [hl] at h
    have h' : q = (c, n) := h
    subst h'
    obtain ⟨l1, l2, h5, -⟩ := List.lookup_eq_some_iff.mp hl
    rw [h5]
    simp
theorem zSH_stw {ln : ZR} {k c n : Nat} (hk : 1000000 ≤ k) (h30 : c ≠ 30) (h : zSH ln k = (c, n)) : 1000000 < k ∧ zST k = (c, n) := by
  unfold zSH at h
  rw [if_neg (by omega), if_neg (by omega)] at h
  by_cases a : k = 1000000
  · rw [if_pos a] at h
    exact absurd (congrArg Prod.fst h).symm h30
  · rw [if_neg a] at h
    exact ⟨by omega, h⟩
theorem zST_30 : ∀ e ∈ zSTl, e.2.1 = 30 → e = (1000001, 30, 5) ∨ e = (1000002, 30, 15) ∨ e = (1000003, 30, 15) := by decide +kernel
theorem zST_32 : ∀ e ∈ zSTl, e.2.1 = 32 → e ∈ ([(1000010, 32, 100), (1000011, 32, 100), (1000200, 32, 5), (1000201, 32, 4), (1000202, 32, 7), (1000203, 32, 6), (1000204, 32, 6), (1000205, 32, 6), (1000206, 32, 1), (1000207, 32, 3), (1000208, 32, 6), (1000209, 32, 11), (1000210, 32, 8), (1000211, 32, 8), (1000212, 32, 30), (1000213, 32, 28), (1000214, 32, 27), (1000215, 32, 47), (1000216, 32, 35), (1000217, 32, 26), (1000218, 32, 22), (1000219, 32, 24), (1000220, 32, 28), (1000221, 32, 37), (1000222, 32, 24), (1000223, 32, 23), (1000224, 32, 44), (1000225, 32, 25), (1000226, 32, 30), (1000227, 32, 40), (1000228, 32, 26), (1000229, 32, 0), (1000230, 32, 12), (1000231, 32, 12), (1000232, 32, 11), (1000233, 32, 17), (1000234, 32, 10), (1000235, 32, 10), (1000236, 32, 11), (1000237, 32, 11), (1000238, 32, 13), (1000239, 32, 10), (1000240, 32, 12), (1000241, 32, 13), (1000242, 32, 14), (1000243, 32, 13), (1000244, 32, 13), (1000245, 32, 11), (1000246, 32, 8), (1000247, 32, 12)] : List (Nat × Nat × Nat)) := by decide +kernel
theorem zST_31 : ∀ e ∈ zSTl, e.2.1 = 31 → e ∈ ([(1000100, 31, 0), (1000101, 31, 0), (1000102, 31, 0), (1000103, 31, 0), (1000104, 31, 0), (1000105, 31, 0), (1000106, 31, 0), (1000107, 31, 0), (1000108, 31, 0), (1000109, 31, 0), (1000110, 31, 0), (1000111, 31, 0), (1000112, 31, 0), (1000113, 31, 0), (1000114, 31, 0), (1000115, 31, 0), (1000116, 31, 0), (1000117, 31, 0), (1000118, 31, 0), (1000119, 31, 0), (1000120, 31, 0), (1000121, 31, 0), (1000122, 31, 0), (1000123, 31, 0), (1000124, 31, 0), (1000125, 31, 0), (1000126, 31, 0), (1000127, 31, 0), (1000128, 31, 0), (1000129, 31, 0), (1000130, 31, 0), (1000131, 31, 0), (1000132, 31, 0), (1000133, 31, 0), (1000134, 31, 0), (1000135, 31, 0), (1000136, 31, 0), (1000137, 31, 0), (1000138, 31, 0), (1000139, 31, 0), (1000140, 31, 0), (1000141, 31, 0), (1000142, 31, 0), (1000143, 31, 0), (1000144, 31, 0), (1000145, 31, 0), (1000146, 31, 0), (1000147, 31, 0)] : List (Nat × Nat × Nat)) := by decide +kernel
theorem xin : ∀ (c : Nat) (r : vw_C), xcl[c]? = some r → Cond.instantiable r.1 r.2.2 ∈ lw_tbl :=
  xcl_cases (P := fun _ r => Cond.instantiable r.1 r.2.2 ∈ lw_tbl) (tw1 (List.mem_of_getElem? (i := 56) (by decide +kernel))) (tw1 (List.mem_of_getElem? (i := 77) (by decide +kernel))) (tw1 (List.mem_of_getElem? (i := 185) (by decide +kernel))) (tw1 (List.mem_of_getElem? (i := 155) (by decide +kernel))) (tw1 (List.mem_of_getElem? (i := 83) (by decide +kernel))) (tw1 (List.mem_of_getElem? (i := 48) (by decide +kernel))) (tw2 (List.mem_of_getElem? (i := 171) (by decide +kernel))) (tw3 (List.mem_of_getElem? (i := 124) (by decide +kernel))) (tw2 (List.mem_of_getElem? (i := 177) (by decide +kernel))) (tw2 (List.mem_of_getElem? (i := 210) (by decide +kernel))) (tw3 (List.mem_of_getElem? (i := 130) (by decide +kernel))) (tw5 (List.mem_of_getElem? (i := 24) (by decide +kernel))) (tw3 (List.mem_of_getElem? (i := 225) (by decide +kernel))) (tw3 (List.mem_of_getElem? (i := 202) (by decide +kernel))) (tw7 (List.mem_of_getElem? (i := 132) (by decide +kernel))) (tw7 (List.mem_of_getElem? (i := 106) (by decide +kernel))) (tw5 (List.mem_of_getElem? (i := 159) (by decide +kernel))) (tw6 (List.mem_of_getElem? (i := 54) (by decide +kernel)))
section XS
variable {args : Array Value} {s : State}
theorem x_classes (hts : ∀ w ∈ lw_tbl, w.before args s = true) : ∃ (dC : Nat → ClassId) (dI : Nat → Nat → Nat), ∀ (c : Nat) (q : vw_C), xcl[c]? = some q → u_Kn s q.1 q.2.1 q.2.2 (dC c) (dI c) := by
  have h0 : ∀ c : Nat, ∃ p : ClassId × (Nat → Nat), ∀ q : vw_C, xcl[c]? = some q → u_Kn s q.1 q.2.1 q.2.2 p.1 p.2 := by
    intro c
    cases h : xcl[c]? with
    | none => exact ⟨((0 : Nat), fun _ => 0), fun q hq => by cases hq⟩
    | some q =>
      obtain ⟨cC, iS, hk⟩ := u_known (ws := lw_tbl) (C := q.1) (T := q.2.1) (N := q.2.2) (n := q.2.2) hts (fun w hw => (List.mem_filter.mp (xcl_ws c q h w hw)).1) (hts _ (xin c q h))
      exact ⟨(cC, iS), fun q' hq' => by cases hq'; exact hk⟩
  obtain ⟨f, hf⟩ := Classical.axiomOfChoice h0
  exact ⟨fun c => (f c).1, fun c => (f c).2, fun c q hq => hf c q hq⟩
theorem x_prim {ty : FieldType} (hts : ∀ w ∈ lw_tbl, w.before args s = true) (h : Cond.arrayClass ty ∈ lw_tbl) : ∃ cA : ClassId, ArrOfT s cA ty ∧ s.vm.findClass ("[" ++ ty.toString) = some cA := by
  obtain ⟨cA, kA, comp, h1, h2, h3⟩ := Cond.arrayClass_spec (args := args) (first := s) (o := none) (s := s) (idx := []) (hts _ h)
  exact ⟨cA, fun n z => ⟨(fun k h => by cases h), kA, h2, comp, h3⟩, h1⟩
theorem x_over {C : String} (hts : ∀ w ∈ lw_tbl, w.before args s = true) (h : Cond.arrayOver (.object C) ∈ lw_tbl) : ∃ cA : ClassId, ArrOfT s cA (.object C) ∧ va_RA s cA (.object C) := by
  obtain ⟨comp, c3, k, h1, -, h3, h4, h5⟩ := Cond.arrayOver_spec (args := args) (first := s) (o := none) (s := s) (idx := []) (hts _ h)
  exact ⟨c3, fun n z => ⟨(fun k h => by cases h), k, h3, comp, h4⟩, k, comp, h3, h4, h1, h5⟩
theorem x_arrays (hts : ∀ w ∈ lw_tbl, w.before args s = true) : ∃ gA : Nat → ClassId, ∀ t, 20 ≤ t → t < 24 → ArrOfT s (gA t) (xty t) ∧ va_RA s (gA t) (xty t) := by
  obtain ⟨c0, a0, b0⟩ := x_prim (ty := .int) hts (tw1 (List.mem_of_getElem? (i := 75) (by decide +kernel)))
  obtain ⟨c1, a1, b1⟩ := x_prim (ty := .byte) hts (tw2 (List.mem_of_getElem? (i := 145) (by decide +kernel)))
  obtain ⟨c2, a2, b2⟩ := x_over (C := "java/lang/Object") hts (tw3 (List.mem_of_getElem? (i := 112) (by decide +kernel)))
  obtain ⟨c3, a3, b3⟩ := x_over (C := "ClimbingHall$Hall") hts (tw1 (List.mem_of_getElem? (i := 191) (by decide +kernel)))
  refine ⟨fun t => if t = 20 then c0 else if t = 21 then c1 else if t = 22 then c2 else c3, fun t ha hb => ?_⟩
  have ht : t = 20 ∨ t = 21 ∨ t = 22 ∨ t = 23 := by omega
  rcases ht with rfl | rfl | rfl | rfl
  · exact ⟨a0, b0⟩
  · exact ⟨a1, b1⟩
  · exact ⟨a2, b2⟩
  · exact ⟨a3, b3⟩
theorem x_tabs {w : Cond} (hx : xnw w = true) : w.onTables = true := by
  cases w <;> first | (cases hx; done) | rfl
theorem x_psel {C : String} {n : Nat} {y y0 : MethodName} (hi : (Cond.instantiable C n).before args s = true) (h0 : (Cond.selects C y0 y0).before args s = true) (hc0 : y0.cls = y.cls) (hp : (Cond.privateMethod y).before args s = true) (hm : (Cond.instanceMethod y).before args s = true) (hy : y.cls ≠ "java/lang/invoke/MethodHandle" ∧ y.cls ≠ "java/lang/invoke/VarHandle") : (Cond.selects C y y).before args s = true := by
  obtain ⟨c, k, hc, hk, -, hn, -, -⟩ := Cond.instantiable_spec (args := args) (first := s) (o := none) (s := s) (idx := []) hi
  obtain ⟨-, -, m0, -, -, hm0, -, k0, hk0, hni⟩ := Cond.selects_spec (args := args) (first := s) (o := none) (s := s) (idx := []) h0
  obtain ⟨mk, methM, hnamed, hmethM, -, -⟩ := Cond.instanceMethod_spec hm
  have hfound : s.methodFound? y.cls y.name y.desc = some mk := State.methodFound?_of_named hnamed hy
  have hsel : selectMethod {} s.vm c mk = .method mk := selectMethod_private hmethM (Cond.privateMethod_at hp mk methM hnamed hmethM)
  have e1 := findClass_of_methodNamed hm0
  rw [hc0] at e1
  have e2 : mk.cls = m0.cls := Option.some.inj ((findClass_of_methodNamed hnamed).symm.trans e1)
  simp only [Cond.before, Cond.holds, Cond.value, hc, hfound, hnamed, hsel, e2, hk0]
  simp; exact hni
theorem x_xpsel (hts : ∀ w ∈ lw_tbl, w.before args s = true) : ∀ q ∈ xpsel, (Cond.selects q.1 q.2 q.2).before #[] s = true := by
  have hb : (Jvm.Cond.instantiable "java/lang/StringBuilder" (4 : Nat)).before args s = true := hts _ (tw5 (List.mem_of_getElem? (i := 159) (by decide +kernel)))
  have h0 : (Jvm.Cond.selects "java/lang/StringBuilder" ({ cls := "java/lang/AbstractStringBuilder", name := "isLatin1", desc := "()Z" } : Jvm.MethodName) ({ cls := "java/lang/AbstractStringBuilder", name := "isLatin1", desc := "()Z" } : Jvm.MethodName)).before args s = true := hts _ (tw4 (List.mem_of_getElem? (i := 235) (by decide +kernel)))
  have p0 : (Cond.privateMethod yJ5_ensureCapacityInternal_d00df).before args s = true := hts _ (tw5 (List.mem_of_getElem? (i := 199) (by decide +kernel)))
  have m0 : (Cond.instanceMethod yJ5_ensureCapacityInternal_d00df).before args s = true := hts _ (tw5 (List.mem_of_getElem? (i := 200) (by decide +kernel)))
  have s0 : (Cond.selects RJ4 yJ5_ensureCapacityInternal_d00df yJ5_ensureCapacityInternal_d00df).before args s = true := x_psel hb h0 rfl p0 m0 (by decide +kernel)
  have p1 : (Cond.privateMethod yJ5_inflateIfNeededFor_a7421).before args s = true := hts _ (tw5 (List.mem_of_getElem? (i := 234) (by decide +kernel)))
  have m1 : (Cond.instanceMethod yJ5_inflateIfNeededFor_a7421).before args s = true := hts _ (tw5 (List.mem_of_getElem? (i := 235) (by decide +kernel)))
  have s1 : (Cond.selects RJ4 yJ5_inflateIfNeededFor_a7421 yJ5_inflateIfNeededFor_a7421).before args s = true := x_psel hb h0 rfl p1 m1 (by decide +kernel)
  have p2 : (Cond.privateMethod yJ5_newCapacity_0f7a4).before args s = true := hts _ (tw5 (List.mem_of_getElem? (i := 203) (by decide +kernel)))
  have m2 : (Cond.instanceMethod yJ5_newCapacity_0f7a4).before args s = true := hts _ (tw5 (List.mem_of_getElem? (i := 204) (by decide +kernel)))
  have s2 : (Cond.selects RJ4 yJ5_newCapacity_0f7a4 yJ5_newCapacity_0f7a4).before args s = true := x_psel hb h0 rfl p2 m2 (by decide +kernel)
  have p3 : (Cond.privateMethod yJ5_putStringAt_47b60).before args s = true := hts _ (tw5 (List.mem_of_getElem? (i := 230) (by decide +kernel)))
  have m3 : (Cond.instanceMethod yJ5_putStringAt_47b60).before args s = true := hts _ (tw5 (List.mem_of_getElem? (i := 231) (by decide +kernel)))
  have s3 : (Cond.selects RJ4 yJ5_putStringAt_47b60 yJ5_putStringAt_47b60).before args s = true := x_psel hb h0 rfl p3 m3 (by decide +kernel)
  unfold xpsel
  exact List.forall_mem_cons.mpr ⟨va_any rfl s0, List.forall_mem_cons.mpr ⟨va_any rfl s1, List.forall_mem_cons.mpr ⟨va_any rfl s2, List.forall_mem_cons.mpr ⟨va_any rfl s3, fun _ h => absurd h List.not_mem_nil⟩⟩⟩⟩
theorem x_xifs (hts : ∀ w ∈ lw_tbl, w.before args s = true) : ∀ q ∈ xifs, va_Fw q.1 q.2.1 q.2.2 s := by
  have a0_0 : (Jvm.Cond.declares ({ cls := "java/util/Iterator", name := "hasNext", desc := "()Z" } : Jvm.MethodName)).before args s = true := hts _ (tw2 (List.mem_of_getElem? (i := 231) (by decide +kernel)))
  have a0_1 : (Jvm.Cond.interfaceMethod "java/util/Iterator" "java/util/Iterator" "hasNext" "()Z").before args s = true := hts _ (tw2 (List.mem_of_getElem? (i := 230) (by decide +kernel)))
  have a0_2 : (Jvm.Cond.publicMethod ({ cls := "java/util/ArrayList$Itr", name := "hasNext", desc := "()Z" } : Jvm.MethodName)).before args s = true := hts _ (tw2 (List.mem_of_getElem? (i := 236) (by decide +kernel)))
  have a0_3 : (Jvm.Cond.unhidden "java/util/ArrayList$Itr" "hasNext" "()Z").before args s = true := hts _ (tw2 (List.mem_of_getElem? (i := 234) (by decide +kernel)))
  have a0_4 : (Jvm.Cond.castable "java/util/ArrayList$Itr" "java/util/Iterator").before args s = true := hts _ (tw2 (List.mem_of_getElem? (i := 232) (by decide +kernel)))
  have b0 : va_Fw RJx35411 ⟨RJx4d0d8, "hasNext", "()Z"⟩ yJx35411_hasNext_aae02 s := va_Fw.of (A := args) a0_0 a0_1 a0_2 a0_3 a0_4
  have a1_0 : (Jvm.Cond.declares ({ cls := "java/util/Iterator", name := "hasNext", desc := "()Z" } : Jvm.MethodName)).before args s = true := hts _ (tw2 (List.mem_of_getElem? (i := 231) (by decide +kernel)))
  have a1_1 : (Jvm.Cond.interfaceMethod "java/util/Iterator" "java/util/Iterator" "hasNext" "()Z").before args s = true := hts _ (tw2 (List.mem_of_getElem? (i := 230) (by decide +kernel)))
  have a1_2 : (Jvm.Cond.publicMethod ({ cls := "java/util/TreeMap$PrivateEntryIterator", name := "hasNext", desc := "()Z" } : Jvm.MethodName)).before args s = true := hts _ (tw3 (List.mem_of_getElem? (i := 2) (by decide +kernel)))
  have a1_3 : (Jvm.Cond.unhidden "java/util/TreeMap$EntryIterator" "hasNext" "()Z").before args s = true := hts _ (tw3 (List.mem_of_getElem? (i := 0) (by decide +kernel)))
  have a1_4 : (Jvm.Cond.castable "java/util/TreeMap$EntryIterator" "java/util/Iterator").before args s = true := hts _ (tw2 (List.mem_of_getElem? (i := 238) (by decide +kernel)))
  have b1 : va_Fw RX13 ⟨RJx4d0d8, "hasNext", "()Z"⟩ yX15_hasNext s := va_Fw.of (A := args) a1_0 a1_1 a1_2 a1_3 a1_4
  have a2_0 : (Jvm.Cond.declares ({ cls := "java/util/Iterator", name := "hasNext", desc := "()Z" } : Jvm.MethodName)).before args s = true := hts _ (tw2 (List.mem_of_getElem? (i := 231) (by decide +kernel)))
  have a2_1 : (Jvm.Cond.interfaceMethod "java/util/Iterator" "java/util/Iterator" "hasNext" "()Z").before args s = true := hts _ (tw2 (List.mem_of_getElem? (i := 230) (by decide +kernel)))
  have a2_2 : (Jvm.Cond.publicMethod ({ cls := "java/util/TreeMap$PrivateEntryIterator", name := "hasNext", desc := "()Z" } : Jvm.MethodName)).before args s = true := hts _ (tw3 (List.mem_of_getElem? (i := 2) (by decide +kernel)))
  have a2_3 : (Jvm.Cond.unhidden "java/util/TreeMap$ValueIterator" "hasNext" "()Z").before args s = true := hts _ (tw3 (List.mem_of_getElem? (i := 6) (by decide +kernel)))
  have a2_4 : (Jvm.Cond.castable "java/util/TreeMap$ValueIterator" "java/util/Iterator").before args s = true := hts _ (tw3 (List.mem_of_getElem? (i := 4) (by decide +kernel)))
  have b2 : va_Fw RX16 ⟨RJx4d0d8, "hasNext", "()Z"⟩ yX15_hasNext s := va_Fw.of (A := args) a2_0 a2_1 a2_2 a2_3 a2_4
  have a3_0 : (Jvm.Cond.declares ({ cls := "java/util/Iterator", name := "next", desc := "()Ljava/lang/Object;" } : Jvm.MethodName)).before args s = true := hts _ (tw3 (List.mem_of_getElem? (i := 10) (by decide +kernel)))
  have a3_1 : (Jvm.Cond.interfaceMethod "java/util/Iterator" "java/util/Iterator" "next" "()Ljava/lang/Object;").before args s = true := hts _ (tw3 (List.mem_of_getElem? (i := 9) (by decide +kernel)))
  have a3_2 : (Jvm.Cond.publicMethod ({ cls := "java/util/ArrayList$Itr", name := "next", desc := "()Ljava/lang/Object;" } : Jvm.MethodName)).before args s = true := hts _ (tw3 (List.mem_of_getElem? (i := 14) (by decide +kernel)))
  have a3_3 : (Jvm.Cond.unhidden "java/util/ArrayList$Itr" "next" "()Ljava/lang/Object;").before args s = true := hts _ (tw3 (List.mem_of_getElem? (i := 12) (by decide +kernel)))
  have a3_4 : (Jvm.Cond.castable "java/util/ArrayList$Itr" "java/util/Iterator").before args s = true := hts _ (tw2 (List.mem_of_getElem? (i := 232) (by decide +kernel)))
  have b3 : va_Fw RJx35411 ⟨RJx4d0d8, "next", "()Ljava/lang/Object;"⟩ yJx35411_next_0502b s := va_Fw.of (A := args) a3_0 a3_1 a3_2 a3_3 a3_4
  have a4_0 : (Jvm.Cond.declares ({ cls := "java/util/Iterator", name := "next", desc := "()Ljava/lang/Object;" } : Jvm.MethodName)).before args s = true := hts _ (tw3 (List.mem_of_getElem? (i := 10) (by decide +kernel)))
  have a4_1 : (Jvm.Cond.interfaceMethod "java/util/Iterator" "java/util/Iterator" "next" "()Ljava/lang/Object;").before args s = true := hts _ (tw3 (List.mem_of_getElem? (i := 9) (by decide +kernel)))
  have a4_2 : (Jvm.Cond.publicMethod ({ cls := "java/util/TreeMap$EntryIterator", name := "next", desc := "()Ljava/lang/Object;" } : Jvm.MethodName)).before args s = true := hts _ (tw3 (List.mem_of_getElem? (i := 23) (by decide +kernel)))
  have a4_3 : (Jvm.Cond.unhidden "java/util/TreeMap$EntryIterator" "next" "()Ljava/lang/Object;").before args s = true := hts _ (tw3 (List.mem_of_getElem? (i := 21) (by decide +kernel)))
  have a4_4 : (Jvm.Cond.castable "java/util/TreeMap$EntryIterator" "java/util/Iterator").before args s = true := hts _ (tw2 (List.mem_of_getElem? (i := 238) (by decide +kernel)))
  have b4 : va_Fw RX13 ⟨RJx4d0d8, "next", "()Ljava/lang/Object;"⟩ yX13_next_ s := va_Fw.of (A := args) a4_0 a4_1 a4_2 a4_3 a4_4
  have a5_0 : (Jvm.Cond.declares ({ cls := "java/util/Iterator", name := "next", desc := "()Ljava/lang/Object;" } : Jvm.MethodName)).before args s = true := hts _ (tw3 (List.mem_of_getElem? (i := 10) (by decide +kernel)))
  have a5_1 : (Jvm.Cond.interfaceMethod "java/util/Iterator" "java/util/Iterator" "next" "()Ljava/lang/Object;").before args s = true := hts _ (tw3 (List.mem_of_getElem? (i := 9) (by decide +kernel)))
  have a5_2 : (Jvm.Cond.publicMethod ({ cls := "java/util/TreeMap$ValueIterator", name := "next", desc := "()Ljava/lang/Object;" } : Jvm.MethodName)).before args s = true := hts _ (tw3 (List.mem_of_getElem? (i := 41) (by decide +kernel)))
  have a5_3 : (Jvm.Cond.unhidden "java/util/TreeMap$ValueIterator" "next" "()Ljava/lang/Object;").before args s = true := hts _ (tw3 (List.mem_of_getElem? (i := 39) (by decide +kernel)))
  have a5_4 : (Jvm.Cond.castable "java/util/TreeMap$ValueIterator" "java/util/Iterator").before args s = true := hts _ (tw3 (List.mem_of_getElem? (i := 4) (by decide +kernel)))
  have b5 : va_Fw RX16 ⟨RJx4d0d8, "next", "()Ljava/lang/Object;"⟩ yX16_next s := va_Fw.of (A := args) a5_0 a5_1 a5_2 a5_3 a5_4
  have a6_0 : (Jvm.Cond.declares ({ cls := "java/util/Collection", name := "iterator", desc := "()Ljava/util/Iterator;" } : Jvm.MethodName)).before args s = true := hts _ (tw7 (List.mem_of_getElem? (i := 118) (by decide +kernel)))
  have a6_1 : (Jvm.Cond.interfaceMethod "java/util/Collection" "java/util/Collection" "iterator" "()Ljava/util/Iterator;").before args s = true := hts _ (tw7 (List.mem_of_getElem? (i := 117) (by decide +kernel)))
  have a6_2 : (Jvm.Cond.publicMethod ({ cls := "java/util/TreeMap$Values", name := "iterator", desc := "()Ljava/util/Iterator;" } : Jvm.MethodName)).before args s = true := hts _ (tw7 (List.mem_of_getElem? (i := 129) (by decide +kernel)))
  have a6_3 : (Jvm.Cond.unhidden "java/util/TreeMap$Values" "iterator" "()Ljava/util/Iterator;").before args s = true := hts _ (tw7 (List.mem_of_getElem? (i := 127) (by decide +kernel)))
  have a6_4 : (Jvm.Cond.castable "java/util/TreeMap$Values" "java/util/Collection").before args s = true := hts _ (tw7 (List.mem_of_getElem? (i := 125) (by decide +kernel)))
  have b6 : va_Fw RX17 ⟨RJx5ef63, "iterator", "()Ljava/util/Iterator;"⟩ yX17_iterator s := va_Fw.of (A := args) a6_0 a6_1 a6_2 a6_3 a6_4
  have a7_0 : (Jvm.Cond.declares ({ cls := "java/util/Set", name := "iterator", desc := "()Ljava/util/Iterator;" } : Jvm.MethodName)).before args s = true := hts _ (tw3 (List.mem_of_getElem? (i := 217) (by decide +kernel)))
  have a7_1 : (Jvm.Cond.interfaceMethod "java/util/Set" "java/util/Set" "iterator" "()Ljava/util/Iterator;").before args s = true := hts _ (tw3 (List.mem_of_getElem? (i := 216) (by decide +kernel)))
  have a7_2 : (Jvm.Cond.publicMethod ({ cls := "java/util/TreeMap$EntrySet", name := "iterator", desc := "()Ljava/util/Iterator;" } : Jvm.MethodName)).before args s = true := hts _ (tw3 (List.mem_of_getElem? (i := 222) (by decide +kernel)))
  have a7_3 : (Jvm.Cond.unhidden "java/util/TreeMap$EntrySet" "iterator" "()Ljava/util/Iterator;").before args s = true := hts _ (tw3 (List.mem_of_getElem? (i := 220) (by decide +kernel)))
  have a7_4 : (Jvm.Cond.castable "java/util/TreeMap$EntrySet" "java/util/Set").before args s = true := hts _ (tw3 (List.mem_of_getElem? (i := 218) (by decide +kernel)))
  have b7 : va_Fw RX14 ⟨RJx55279, "iterator", "()Ljava/util/Iterator;"⟩ yX14_iterator s := va_Fw.of (A := args) a7_0 a7_1 a7_2 a7_3 a7_4
  have a8_0 : (Jvm.Cond.declares ({ cls := "java/util/Map$Entry", name := "getKey", desc := "()Ljava/lang/Object;" } : Jvm.MethodName)).before args s = true := hts _ (tw4 (List.mem_of_getElem? (i := 18) (by decide +kernel)))
  have a8_1 : (Jvm.Cond.interfaceMethod "java/util/Map$Entry" "java/util/Map$Entry" "getKey" "()Ljava/lang/Object;").before args s = true := hts _ (tw4 (List.mem_of_getElem? (i := 17) (by decide +kernel)))
  have a8_2 : (Jvm.Cond.publicMethod ({ cls := "java/util/TreeMap$Entry", name := "getKey", desc := "()Ljava/lang/Object;" } : Jvm.MethodName)).before args s = true := hts _ (tw4 (List.mem_of_getElem? (i := 23) (by decide +kernel)))
  have a8_3 : (Jvm.Cond.unhidden "java/util/TreeMap$Entry" "getKey" "()Ljava/lang/Object;").before args s = true := hts _ (tw4 (List.mem_of_getElem? (i := 21) (by decide +kernel)))
  have a8_4 : (Jvm.Cond.castable "java/util/TreeMap$Entry" "java/util/Map$Entry").before args s = true := hts _ (tw4 (List.mem_of_getElem? (i := 19) (by decide +kernel)))
  have b8 : va_Fw RX12 ⟨RJxf0cc3, "getKey", "()Ljava/lang/Object;"⟩ yX12_getKey s := va_Fw.of (A := args) a8_0 a8_1 a8_2 a8_3 a8_4
  have a9_0 : (Jvm.Cond.declares ({ cls := "java/util/Map$Entry", name := "getValue", desc := "()Ljava/lang/Object;" } : Jvm.MethodName)).before args s = true := hts _ (tw4 (List.mem_of_getElem? (i := 29) (by decide +kernel)))
  have a9_1 : (Jvm.Cond.interfaceMethod "java/util/Map$Entry" "java/util/Map$Entry" "getValue" "()Ljava/lang/Object;").before args s = true := hts _ (tw4 (List.mem_of_getElem? (i := 28) (by decide +kernel)))
  have a9_2 : (Jvm.Cond.publicMethod ({ cls := "java/util/TreeMap$Entry", name := "getValue", desc := "()Ljava/lang/Object;" } : Jvm.MethodName)).before args s = true := hts _ (tw4 (List.mem_of_getElem? (i := 33) (by decide +kernel)))
  have a9_3 : (Jvm.Cond.unhidden "java/util/TreeMap$Entry" "getValue" "()Ljava/lang/Object;").before args s = true := hts _ (tw4 (List.mem_of_getElem? (i := 31) (by decide +kernel)))
  have a9_4 : (Jvm.Cond.castable "java/util/TreeMap$Entry" "java/util/Map$Entry").before args s = true := hts _ (tw4 (List.mem_of_getElem? (i := 19) (by decide +kernel)))
  have b9 : va_Fw RX12 ⟨RJxf0cc3, "getValue", "()Ljava/lang/Object;"⟩ yX12_getValue s := va_Fw.of (A := args) a9_0 a9_1 a9_2 a9_3 a9_4
  have a10_0 : (Jvm.Cond.declares ({ cls := "java/lang/Comparable", name := "compareTo", desc := "(Ljava/lang/Object;)I" } : Jvm.MethodName)).before args s = true := hts _ (tw4 (List.mem_of_getElem? (i := 55) (by decide +kernel)))
  have a10_1 : (Jvm.Cond.interfaceMethod "java/lang/Comparable" "java/lang/Comparable" "compareTo" "(Ljava/lang/Object;)I").before args s = true := hts _ (tw4 (List.mem_of_getElem? (i := 54) (by decide +kernel)))
  have a10_2 : (Jvm.Cond.publicMethod ({ cls := "java/lang/Integer", name := "compareTo", desc := "(Ljava/lang/Object;)I" } : Jvm.MethodName)).before args s = true := hts _ (tw4 (List.mem_of_getElem? (i := 60) (by decide +kernel)))
  have a10_3 : (Jvm.Cond.unhidden "java/lang/Integer" "compareTo" "(Ljava/lang/Object;)I").before args s = true := hts _ (tw4 (List.mem_of_getElem? (i := 58) (by decide +kernel)))
  have a10_4 : (Jvm.Cond.castable "java/lang/Integer" "java/lang/Comparable").before args s = true := hts _ (tw4 (List.mem_of_getElem? (i := 56) (by decide +kernel)))
  have b10 : va_Fw RJ6 ⟨RJxb160c, "compareTo", "(Ljava/lang/Object;)I"⟩ yJ6_compareTo_e47da s := va_Fw.of (A := args) a10_0 a10_1 a10_2 a10_3 a10_4
  unfold xifs
  exact List.forall_mem_cons.mpr ⟨b0, List.forall_mem_cons.mpr ⟨b1, List.forall_mem_cons.mpr ⟨b2, List.forall_mem_cons.mpr ⟨b3, List.forall_mem_cons.mpr ⟨b4, List.forall_mem_cons.mpr ⟨b5, List.forall_mem_cons.mpr ⟨b6, List.forall_mem_cons.mpr ⟨b7, List.forall_mem_cons.mpr ⟨b8, List.forall_mem_cons.mpr ⟨b9, List.forall_mem_cons.mpr ⟨b10, fun _ h => absurd h List.not_mem_nil⟩⟩⟩⟩⟩⟩⟩⟩⟩⟩⟩
theorem x_box (hN : ∀ w ∈ nlist, w.before args s = true) (hA : ∀ a : Nat, a < s.heap.size → ¬ (fun q : Nat => s.heap.size ≤ q) a) : ∃ ad : Nat → Nat, vb_C ad (fun q : Nat => s.heap.size ≤ q) s s.heap ∧ (∀ j : Nat, j < 256 → (Jvm.Term.elem (.static "java/lang/Integer$IntegerCache" "cache" "[Ljava/lang/Integer;") (.int (Int32.ofNat j))).eval args s none [] s = some (.ref (ad j)) ∧ xGV args s (1000300 + j) = .ref (ad j)) ∧ ∃ t : Nat, (Jvm.Term.static "java/lang/Integer$IntegerCache" "cache" "[Ljava/lang/Integer;").eval args s none [] s = some (.ref t) ∧ va_T (.object "java/lang/Integer") t 256 (fun j => .ref (ad j)) (fun q : Nat => s.heap.size ≤ q) s s.heap := by
  obtain ⟨ad, h1, h2⟩ := vb_Cof (A := fun q : Nat => s.heap.size ≤ q) (st := Jvm.Term.static "java/lang/Integer$IntegerCache" "cache" "[Ljava/lang/Integer;") rfl (va_eqt (hN _ nl_cl)) (hN _ nl_cx) hA
  exact ⟨ad, h1, fun j hj => ⟨h2 j hj, xGV_at (xTm_box j hj) (h2 j hj)⟩, va_Tof (by decide) (hN _ nl_ca) (va_eqt (hN _ nl_cl)) (fun j hj => h2 j hj) hA⟩
theorem x_emp (hN : ∀ w ∈ nlist, w.before args s = true) (f : Nat → Value) (hA : ∀ a : Nat, a < s.heap.size → ¬ (fun q : Nat => s.heap.size ≤ q) a) : ∃ t : Nat, (Jvm.Term.static "java/util/ArrayList" "DEFAULTCAPACITY_EMPTY_ELEMENTDATA" "[Ljava/lang/Object;").eval args s none [] s = some (.ref t) ∧ va_T (.object "java/lang/Object") t 0 f (fun q : Nat => s.heap.size ≤ q) s s.heap :=
  va_Tof (by decide) (hN _ nl_da) (va_eqt (hN _ nl_dl)) (fun j hj => absurd hj (Nat.not_lt_zero j)) hA
theorem key33 : ∀ j : Nat, j < 256 → Value.int (vb_c j) = Value.int (iN (((1000300 + j : Nat) : Int) - 1000428)) := by decide +kernel
end XS

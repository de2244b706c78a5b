/-! the start, as the abstract machine sees it -/
def xl4 : List (String × Nat × Nat × Nat) := [("ClimbingHall$SetupText", 56, 1000100, 5), ("ClimbingHall$SetupText", 58, 1000101, 4), ("ClimbingHall$SetupText", 60, 1000102, 7), ("ClimbingHall$SetupText", 62, 1000103, 6), ("ClimbingHall$SetupText", 64, 1000104, 6), ("ClimbingHallLaw$Hall", 95, 1000105, 6), ("ClimbingHallLaw$Hall", 104, 1000106, 1), ("java/util/Arrays", 337, 1000107, 3), ("ClimbingHallLaw$Hall", 113, 1000108, 6), ("ClimbingHallLaw$Hall", 118, 1000109, 11), ("ClimbingHallLaw$Hall", 120, 1000110, 8), ("ClimbingHallLaw$Hall", 122, 1000111, 8), ("ClimbingHall", 331, 1000112, 30), ("ClimbingHall", 328, 1000113, 28), ("ClimbingHall", 79, 1000114, 27), ("ClimbingHall", 61, 1000115, 47), ("ClimbingHall", 139, 1000116, 35), ("ClimbingHall", 220, 1000117, 26), ("ClimbingHall", 232, 1000118, 22), ("ClimbingHall", 108, 1000119, 24), ("ClimbingHall", 120, 1000120, 28), ("ClimbingHall", 147, 1000121, 37), ("ClimbingHall", 161, 1000122, 24), ("ClimbingHall", 166, 1000123, 23), ("ClimbingHall", 171, 1000124, 44), ("ClimbingHall", 176, 1000125, 25), ("ClimbingHall", 181, 1000126, 30), ("ClimbingHall", 193, 1000127, 40), ("ClimbingHall", 203, 1000128, 26), ("ClimbingHallLaw", 303, 1000129, 0), ("ClimbingHallLaw", 309, 1000130, 12), ("ClimbingHallLaw", 311, 1000131, 12), ("ClimbingHallLaw", 313, 1000132, 11), ("ClimbingHallLaw", 315, 1000133, 17), ("ClimbingHallLaw", 317, 1000134, 10), ("ClimbingHallLaw", 319, 1000135, 10), ("ClimbingHallLaw", 321, 1000136, 11), ("ClimbingHallLaw", 323, 1000137, 11), ("ClimbingHallLaw", 325, 1000138, 13), ("ClimbingHallLaw", 327, 1000139, 10), ("ClimbingHallLaw", 329, 1000140, 12), ("ClimbingHallLaw", 331, 1000141, 13), ("ClimbingHallLaw", 333, 1000142, 14), ("ClimbingHallLaw", 335, 1000143, 13), ("ClimbingHallLaw", 337, 1000144, 13), ("ClimbingHallLaw", 339, 1000145, 11), ("ClimbingHallLaw", 341, 1000146, 8), ("ClimbingHallLaw", 343, 1000147, 12)]
theorem xl4_tm : ∀ q ∈ xl4, xTm.lookup q.2.2.1 = some (Jvm.Term.string q.1 q.2.1) ∧ xTm.lookup (q.2.2.1 + 100) = some (Jvm.Term.field (.string q.1 q.2.1) "java/lang/String" "value" "[B") ∧ q.2.2.1 ≠ 1000013 ∧ q.2.2.1 + 100 ≠ 1000013 := by decide +kernel
theorem xl4_0 : xTm0 = xTm0.take 9 ++ (xl4.map (fun q => (q.2.2.1, Jvm.Term.string q.1 q.2.1)) ++ xl4.map (fun q => (q.2.2.1 + 100, Jvm.Term.field (.string q.1 q.2.1) "java/lang/String" "value" "[B"))) := by decide +kernel
theorem xl4_31 : ∀ e ∈ zSTl, e.2.1 = 31 → ∃ q ∈ xl4, e = (q.2.2.1, 31, 0) := by decide +kernel
theorem xl4_32 : ∀ e ∈ zSTl, e.2.1 = 32 → e = (1000010, 32, 100) ∨ e = (1000011, 32, 100) ∨ ∃ q ∈ xl4, e = (q.2.2.1 + 100, 32, q.2.2.2) := by decide +kernel
theorem zv_st {ln : ZR} {k c n : Nat} (hk : 1000000 ≤ k) (h : zSH ln k = (c, n)) : (zSH z0 k).1 = c := (zSH_1 ln (Or.inr hk)).symm.trans (congrArg Prod.fst h)
theorem zv32 {z : ZZ} {k j : Nat} (h : (zSH z0 k).1 = 32) : zCTC z k j = .int (iN (zKC k (j : Int))) := by unfold zCTC; rw [h]; rfl
theorem zv30 {z : ZZ} {k j : Nat} (h : (zSH z0 k).1 = 30) (hk : k ≠ 1000000) : zCTC z k j = .int (iN (zKC k (j : Int))) := by
  unfold zCTC
  rw [h]
  exact if_neg hk
theorem zv30s {z : ZZ} {j : Nat} : zCTC z 1000000 j = .int (iN (z 1000000 (j : Int))) := rfl
theorem zv31 {z : ZZ} {k : Nat} (h : (zSH z0 k).1 = 31) : zCTC z k 0 = .ref (k + 100) ∧ zCTC z k 1 = .int (iN 0) := by
  unfold zCTC
  rw [h]
  exact ⟨rfl, rfl⟩
theorem zv33 {z : ZZ} {k : Nat} (h : (zSH z0 k).1 = 33) : zCTC z k 0 = .int (iN ((k : Int) - 1000428)) := by unfold zCTC; rw [h]; rfl
theorem zv35 {z : ZZ} {j : Nat} : zCTC z 1000299 j = .ref (1000300 + j) := rfl
section XT
variable {args : Array Value} {s : State}
abbrev hpA (s : State) : Nat → Prop := fun q : Nat => s.heap.size ≤ q
def XS4 (args : Array Value) (s : State) (q : String × Nat × Nat × Nat) : Prop := ∃ t v : Nat, (Jvm.Term.string q.1 q.2.1).eval args s none [] s = some (.ref t) ∧ (Jvm.Term.field (.string q.1 q.2.1) "java/lang/String" "value" "[B").eval args s none [] s = some (.ref v) ∧ va_O "java/lang/String" t (hpA s) s s.heap ∧ va_OF "java/lang/String" "coder" "B" (.int 0) t (hpA s) s s.heap ∧ va_OF "java/lang/String" "value" "[B" (.ref v) t (hpA s) s s.heap ∧ va_T .byte v q.2.2.2 (fun j => .int (iN (zKC (q.2.2.1 + 100) (j : Int)))) (hpA s) s s.heap
theorem XS4_of {own : String} {k a n : Nat} {xs : List Int32} (hN : ∀ w ∈ nlist, w.before args s = true) (hA : ∀ a : Nat, a < s.heap.size → ¬ hpA s a) (h : ∀ w ∈ sC own k xs, w ∈ nlist) (hl : xs.length = n) (hn : n < 2 ^ 31) (key : ∀ j : Nat, j < n → xs.getD j 0 = iN (zKC (a + 100) (j : Int))) : XS4 args s (own, k, a, n) := by
  subst hl
  obtain ⟨t, v, e1, e2, h1, h2, h3, h4⟩ := st_str (A := hpA s) (fun w hw => hN w (h w hw)) hn hA
  exact ⟨t, v, e1, e2, h1, h2, h3, va_T_congr h4 (fun j hj => congrArg Value.int (key j hj))⟩
theorem XS4_1000100 (hN : ∀ w ∈ nlist, w.before args s = true) (hA : ∀ a : Nat, a < s.heap.size → ¬ hpA s a) : XS4 args s ("ClimbingHall$SetupText", 56, 1000100, 5) := XS4_of hN hA (sub_mem nl_1000100) rfl (by decide) (by decide +kernel)
theorem XS4_1000101 (hN : ∀ w ∈ nlist, w.before args s = true) (hA : ∀ a : Nat, a < s.heap.size → ¬ hpA s a) : XS4 args s ("ClimbingHall$SetupText", 58, 1000101, 4) := XS4_of hN hA (sub_mem nl_1000101) rfl (by decide) (by decide +kernel)
theorem XS4_1000102 (hN : ∀ w ∈ nlist, w.before args s = true) (hA : ∀ a : Nat, a < s.heap.size → ¬ hpA s a) : XS4 args s ("ClimbingHall$SetupText", 60, 1000102, 7) := XS4_of hN hA (sub_mem nl_1000102) rfl (by decide) (by decide +kernel)
theorem XS4_1000103 (hN : ∀ w ∈ nlist, w.before args s = true) (hA : ∀ a : Nat, a < s.heap.size → ¬ hpA s a) : XS4 args s ("ClimbingHall$SetupText", 62, 1000103, 6) := XS4_of hN hA (sub_mem nl_1000103) rfl (by decide) (by decide +kernel)
theorem XS4_1000104 (hN : ∀ w ∈ nlist, w.before args s = true) (hA : ∀ a : Nat, a < s.heap.size → ¬ hpA s a) : XS4 args s ("ClimbingHall$SetupText", 64, 1000104, 6) := XS4_of hN hA (sub_mem nl_1000104) rfl (by decide) (by decide +kernel)
theorem XS4_1000105 (hN : ∀ w ∈ nlist, w.before args s = true) (hA : ∀ a : Nat, a < s.heap.size → ¬ hpA s a) : XS4 args s ("ClimbingHallLaw$Hall", 95, 1000105, 6) := XS4_of hN hA (sub_mem nl_1000105) rfl (by decide) (by decide +kernel)
theorem XS4_1000106 (hN : ∀ w ∈ nlist, w.before args s = true) (hA : ∀ a : Nat, a < s.heap.size → ¬ hpA s a) : XS4 args s ("ClimbingHallLaw$Hall", 104, 1000106, 1) := XS4_of hN hA (sub_mem nl_1000106) rfl (by decide) (by decide +kernel)
theorem XS4_1000107 (hN : ∀ w ∈ nlist, w.before args s = true) (hA : ∀ a : Nat, a < s.heap.size → ¬ hpA s a) : XS4 args s ("java/util/Arrays", 337, 1000107, 3) := XS4_of hN hA (sub_mem nl_1000107) rfl (by decide) (by decide +kernel)
theorem XS4_1000108 (hN : ∀ w ∈ nlist, w.before args s = true) (hA : ∀ a : Nat, a < s.heap.size → ¬ hpA s a) : XS4 args s ("ClimbingHallLaw$Hall", 113, 1000108, 6) := XS4_of hN hA (sub_mem nl_1000108) rfl (by decide) (by decide +kernel)
theorem XS4_1000109 (hN : ∀ w ∈ nlist, w.before args s = true) (hA : ∀ a : Nat, a < s.heap.size → ¬ hpA s a) : XS4 args s ("ClimbingHallLaw$Hall", 118, 1000109, 11) := XS4_of hN hA (sub_mem nl_1000109) rfl (by decide) (by decide +kernel)
theorem XS4_1000110 (hN : ∀ w ∈ nlist, w.before args s = true) (hA : ∀ a : Nat, a < s.heap.size → ¬ hpA s a) : XS4 args s ("ClimbingHallLaw$Hall", 120, 1000110, 8) := XS4_of hN hA (sub_mem nl_1000110) rfl (by decide) (by decide +kernel)
theorem XS4_1000111 (hN : ∀ w ∈ nlist, w.before args s = true) (hA : ∀ a : Nat, a < s.heap.size → ¬ hpA s a) : XS4 args s ("ClimbingHallLaw$Hall", 122, 1000111, 8) := XS4_of hN hA (sub_mem nl_1000111) rfl (by decide) (by decide +kernel)
theorem XS4_1000112 (hN : ∀ w ∈ nlist, w.before args s = true) (hA : ∀ a : Nat, a < s.heap.size → ¬ hpA s a) : XS4 args s ("ClimbingHall", 331, 1000112, 30) := XS4_of hN hA (sub_mem nl_1000112) rfl (by decide) (by decide +kernel)
theorem XS4_1000113 (hN : ∀ w ∈ nlist, w.before args s = true) (hA : ∀ a : Nat, a < s.heap.size → ¬ hpA s a) : XS4 args s ("ClimbingHall", 328, 1000113, 28) := XS4_of hN hA (sub_mem nl_1000113) rfl (by decide) (by decide +kernel)
theorem XS4_1000114 (hN : ∀ w ∈ nlist, w.before args s = true) (hA : ∀ a : Nat, a < s.heap.size → ¬ hpA s a) : XS4 args s ("ClimbingHall", 79, 1000114, 27) := XS4_of hN hA (sub_mem nl_1000114) rfl (by decide) (by decide +kernel)
theorem XS4_1000115 (hN : ∀ w ∈ nlist, w.before args s = true) (hA : ∀ a : Nat, a < s.heap.size → ¬ hpA s a) : XS4 args s ("ClimbingHall", 61, 1000115, 47) := XS4_of hN hA (sub_mem nl_1000115) rfl (by decide) (by decide +kernel)
theorem XS4_1000116 (hN : ∀ w ∈ nlist, w.before args s = true) (hA : ∀ a : Nat, a < s.heap.size → ¬ hpA s a) : XS4 args s ("ClimbingHall", 139, 1000116, 35) := XS4_of hN hA (sub_mem nl_1000116) rfl (by decide) (by decide +kernel)
theorem XS4_1000117 (hN : ∀ w ∈ nlist, w.before args s = true) (hA : ∀ a : Nat, a < s.heap.size → ¬ hpA s a) : XS4 args s ("ClimbingHall", 220, 1000117, 26) := XS4_of hN hA (sub_mem nl_1000117) rfl (by decide) (by decide +kernel)
theorem XS4_1000118 (hN : ∀ w ∈ nlist, w.before args s = true) (hA : ∀ a : Nat, a < s.heap.size → ¬ hpA s a) : XS4 args s ("ClimbingHall", 232, 1000118, 22) := XS4_of hN hA (sub_mem nl_1000118) rfl (by decide) (by decide +kernel)
theorem XS4_1000119 (hN : ∀ w ∈ nlist, w.before args s = true) (hA : ∀ a : Nat, a < s.heap.size → ¬ hpA s a) : XS4 args s ("ClimbingHall", 108, 1000119, 24) := XS4_of hN hA (sub_mem nl_1000119) rfl (by decide) (by decide +kernel)
theorem XS4_1000120 (hN : ∀ w ∈ nlist, w.before args s = true) (hA : ∀ a : Nat, a < s.heap.size → ¬ hpA s a) : XS4 args s ("ClimbingHall", 120, 1000120, 28) := XS4_of hN hA (sub_mem nl_1000120) rfl (by decide) (by decide +kernel)
theorem XS4_1000121 (hN : ∀ w ∈ nlist, w.before args s = true) (hA : ∀ a : Nat, a < s.heap.size → ¬ hpA s a) : XS4 args s ("ClimbingHall", 147, 1000121, 37) := XS4_of hN hA (sub_mem nl_1000121) rfl (by decide) (by decide +kernel)
theorem XS4_1000122 (hN : ∀ w ∈ nlist, w.before args s = true) (hA : ∀ a : Nat, a < s.heap.size → ¬ hpA s a) : XS4 args s ("ClimbingHall", 161, 1000122, 24) := XS4_of hN hA (sub_mem nl_1000122) rfl (by decide) (by decide +kernel)
theorem XS4_1000123 (hN : ∀ w ∈ nlist, w.before args s = true) (hA : ∀ a : Nat, a < s.heap.size → ¬ hpA s a) : XS4 args s ("ClimbingHall", 166, 1000123, 23) := XS4_of hN hA (sub_mem nl_1000123) rfl (by decide) (by decide +kernel)
theorem XS4_1000124 (hN : ∀ w ∈ nlist, w.before args s = true) (hA : ∀ a : Nat, a < s.heap.size → ¬ hpA s a) : XS4 args s ("ClimbingHall", 171, 1000124, 44) := XS4_of hN hA (sub_mem nl_1000124) rfl (by decide) (by decide +kernel)
theorem XS4_1000125 (hN : ∀ w ∈ nlist, w.before args s = true) (hA : ∀ a : Nat, a < s.heap.size → ¬ hpA s a) : XS4 args s ("ClimbingHall", 176, 1000125, 25) := XS4_of hN hA (sub_mem nl_1000125) rfl (by decide) (by decide +kernel)
theorem XS4_1000126 (hN : ∀ w ∈ nlist, w.before args s = true) (hA : ∀ a : Nat, a < s.heap.size → ¬ hpA s a) : XS4 args s ("ClimbingHall", 181, 1000126, 30) := XS4_of hN hA (sub_mem nl_1000126) rfl (by decide) (by decide +kernel)
theorem XS4_1000127 (hN : ∀ w ∈ nlist, w.before args s = true) (hA : ∀ a : Nat, a < s.heap.size → ¬ hpA s a) : XS4 args s ("ClimbingHall", 193, 1000127, 40) := XS4_of hN hA (sub_mem nl_1000127) rfl (by decide) (by decide +kernel)
theorem XS4_1000128 (hN : ∀ w ∈ nlist, w.before args s = true) (hA : ∀ a : Nat, a < s.heap.size → ¬ hpA s a) : XS4 args s ("ClimbingHall", 203, 1000128, 26) := XS4_of hN hA (sub_mem nl_1000128) rfl (by decide) (by decide +kernel)
theorem XS4_1000129 (hN : ∀ w ∈ nlist, w.before args s = true) (hA : ∀ a : Nat, a < s.heap.size → ¬ hpA s a) : XS4 args s ("ClimbingHallLaw", 303, 1000129, 0) := XS4_of hN hA (sub_mem nl_1000129) rfl (by decide) (by decide +kernel)
theorem XS4_1000130 (hN : ∀ w ∈ nlist, w.before args s = true) (hA : ∀ a : Nat, a < s.heap.size → ¬ hpA s a) : XS4 args s ("ClimbingHallLaw", 309, 1000130, 12) := XS4_of hN hA (sub_mem nl_1000130) rfl (by decide) (by decide +kernel)
theorem XS4_1000131 (hN : ∀ w ∈ nlist, w.before args s = true) (hA : ∀ a : Nat, a < s.heap.size → ¬ hpA s a) : XS4 args s ("ClimbingHallLaw", 311, 1000131, 12) := XS4_of hN hA (sub_mem nl_1000131) rfl (by decide) (by decide +kernel)
theorem XS4_1000132 (hN : ∀ w ∈ nlist, w.before args s = true) (hA : ∀ a : Nat, a < s.heap.size → ¬ hpA s a) : XS4 args s ("ClimbingHallLaw", 313, 1000132, 11) := XS4_of hN hA (sub_mem nl_1000132) rfl (by decide) (by decide +kernel)
theorem XS4_1000133 (hN : ∀ w ∈ nlist, w.before args s = true) (hA : ∀ a : Nat, a < s.heap.size → ¬ hpA s a) : XS4 args s ("ClimbingHallLaw", 315, 1000133, 17) := XS4_of hN hA (sub_mem nl_1000133) rfl (by decide) (by decide +kernel)
theorem XS4_1000134 (hN : ∀ w ∈ nlist, w.before args s = true) (hA : ∀ a : Nat, a < s.heap.size → ¬ hpA s a) : XS4 args s ("ClimbingHallLaw", 317, 1000134, 10) := XS4_of hN hA (sub_mem nl_1000134) rfl (by decide) (by decide +kernel)
theorem XS4_1000135 (hN : ∀ w ∈ nlist, w.before args s = true) (hA : ∀ a : Nat, a < s.heap.size → ¬ hpA s a) : XS4 args s ("ClimbingHallLaw", 319, 1000135, 10) := XS4_of hN hA (sub_mem nl_1000135) rfl (by decide) (by decide +kernel)
theorem XS4_1000136 (hN : ∀ w ∈ nlist, w.before args s = true) (hA : ∀ a : Nat, a < s.heap.size → ¬ hpA s a) : XS4 args s ("ClimbingHallLaw", 321, 1000136, 11) := XS4_of hN hA (sub_mem nl_1000136) rfl (by decide) (by decide +kernel)
theorem XS4_1000137 (hN : ∀ w ∈ nlist, w.before args s = true) (hA : ∀ a : Nat, a < s.heap.size → ¬ hpA s a) : XS4 args s ("ClimbingHallLaw", 323, 1000137, 11) := XS4_of hN hA (sub_mem nl_1000137) rfl (by decide) (by decide +kernel)
theorem XS4_1000138 (hN : ∀ w ∈ nlist, w.before args s = true) (hA : ∀ a : Nat, a < s.heap.size → ¬ hpA s a) : XS4 args s ("ClimbingHallLaw", 325, 1000138, 13) := XS4_of hN hA (sub_mem nl_1000138) rfl (by decide) (by decide +kernel)
theorem XS4_1000139 (hN : ∀ w ∈ nlist, w.before args s = true) (hA : ∀ a : Nat, a < s.heap.size → ¬ hpA s a) : XS4 args s ("ClimbingHallLaw", 327, 1000139, 10) := XS4_of hN hA (sub_mem nl_1000139) rfl (by decide) (by decide +kernel)
theorem XS4_1000140 (hN : ∀ w ∈ nlist, w.before args s = true) (hA : ∀ a : Nat, a < s.heap.size → ¬ hpA s a) : XS4 args s ("ClimbingHallLaw", 329, 1000140, 12) := XS4_of hN hA (sub_mem nl_1000140) rfl (by decide) (by decide +kernel)
theorem XS4_1000141 (hN : ∀ w ∈ nlist, w.before args s = true) (hA : ∀ a : Nat, a < s.heap.size → ¬ hpA s a) : XS4 args s ("ClimbingHallLaw", 331, 1000141, 13) := XS4_of hN hA (sub_mem nl_1000141) rfl (by decide) (by decide +kernel)
theorem XS4_1000142 (hN : ∀ w ∈ nlist, w.before args s = true) (hA : ∀ a : Nat, a < s.heap.size → ¬ hpA s a) : XS4 args s ("ClimbingHallLaw", 333, 1000142, 14) := XS4_of hN hA (sub_mem nl_1000142) rfl (by decide) (by decide +kernel)
theorem XS4_1000143 (hN : ∀ w ∈ nlist, w.before args s = true) (hA : ∀ a : Nat, a < s.heap.size → ¬ hpA s a) : XS4 args s ("ClimbingHallLaw", 335, 1000143, 13) := XS4_of hN hA (sub_mem nl_1000143) rfl (by decide) (by decide +kernel)
theorem XS4_1000144 (hN : ∀ w ∈ nlist, w.before args s = true) (hA : ∀ a : Nat, a < s.heap.size → ¬ hpA s a) : XS4 args s ("ClimbingHallLaw", 337, 1000144, 13) := XS4_of hN hA (sub_mem nl_1000144) rfl (by decide) (by decide +kernel)
theorem XS4_1000145 (hN : ∀ w ∈ nlist, w.before args s = true) (hA : ∀ a : Nat, a < s.heap.size → ¬ hpA s a) : XS4 args s ("ClimbingHallLaw", 339, 1000145, 11) := XS4_of hN hA (sub_mem nl_1000145) rfl (by decide) (by decide +kernel)
theorem XS4_1000146 (hN : ∀ w ∈ nlist, w.before args s = true) (hA : ∀ a : Nat, a < s.heap.size → ¬ hpA s a) : XS4 args s ("ClimbingHallLaw", 341, 1000146, 8) := XS4_of hN hA (sub_mem nl_1000146) rfl (by decide) (by decide +kernel)
theorem XS4_1000147 (hN : ∀ w ∈ nlist, w.before args s = true) (hA : ∀ a : Nat, a < s.heap.size → ¬ hpA s a) : XS4 args s ("ClimbingHallLaw", 343, 1000147, 12) := XS4_of hN hA (sub_mem nl_1000147) rfl (by decide) (by decide +kernel)
theorem XS4_all (hN : ∀ w ∈ nlist, w.before args s = true) (hA : ∀ a : Nat, a < s.heap.size → ¬ hpA s a) : ∀ q ∈ xl4, XS4 args s q := by
  unfold xl4
  exact List.forall_mem_cons.mpr ⟨XS4_1000100 hN hA, List.forall_mem_cons.mpr ⟨XS4_1000101 hN hA, List.forall_mem_cons.mpr ⟨XS4_1000102 hN hA, List.forall_mem_cons.mpr ⟨XS4_1000103 hN hA, List.forall_mem_cons.mpr ⟨XS4_1000104 hN hA, List.forall_mem_cons.mpr ⟨XS4_1000105 hN hA, List.forall_mem_cons.mpr ⟨XS4_1000106 hN hA, List.forall_mem_cons.mpr ⟨XS4_1000107 hN hA, List.forall_mem_cons.mpr ⟨XS4_1000108 hN hA, List.forall_mem_cons.mpr ⟨XS4_1000109 hN hA, List.forall_mem_cons.mpr ⟨XS4_1000110 hN hA, List.forall_mem_cons.mpr ⟨XS4_1000111 hN hA, List.forall_mem_cons.mpr ⟨XS4_1000112 hN hA, List.forall_mem_cons.mpr ⟨XS4_1000113 hN hA, List.forall_mem_cons.mpr ⟨XS4_1000114 hN hA, List.forall_mem_cons.mpr ⟨XS4_1000115 hN hA, List.forall_mem_cons.mpr ⟨XS4_1000116 hN hA, List.forall_mem_cons.mpr ⟨XS4_1000117 hN hA, List.forall_mem_cons.mpr ⟨XS4_1000118 hN hA, List.forall_mem_cons.mpr ⟨XS4_1000119 hN hA, List.forall_mem_cons.mpr ⟨XS4_1000120 hN hA, List.forall_mem_cons.mpr ⟨XS4_1000121 hN hA, List.forall_mem_cons.mpr ⟨XS4_1000122 hN hA, List.forall_mem_cons.mpr ⟨XS4_1000123 hN hA, List.forall_mem_cons.mpr ⟨XS4_1000124 hN hA, List.forall_mem_cons.mpr ⟨XS4_1000125 hN hA, List.forall_mem_cons.mpr ⟨XS4_1000126 hN hA, List.forall_mem_cons.mpr ⟨XS4_1000127 hN hA, List.forall_mem_cons.mpr ⟨XS4_1000128 hN hA, List.forall_mem_cons.mpr ⟨XS4_1000129 hN hA, List.forall_mem_cons.mpr ⟨XS4_1000130 hN hA, List.forall_mem_cons.mpr ⟨XS4_1000131 hN hA, List.forall_mem_cons.mpr ⟨XS4_1000132 hN hA, List.forall_mem_cons.mpr ⟨XS4_1000133 hN hA, List.forall_mem_cons.mpr ⟨XS4_1000134 hN hA, List.forall_mem_cons.mpr ⟨XS4_1000135 hN hA, List.forall_mem_cons.mpr ⟨XS4_1000136 hN hA, List.forall_mem_cons.mpr ⟨XS4_1000137 hN hA, List.forall_mem_cons.mpr ⟨XS4_1000138 hN hA, List.forall_mem_cons.mpr ⟨XS4_1000139 hN hA, List.forall_mem_cons.mpr ⟨XS4_1000140 hN hA, List.forall_mem_cons.mpr ⟨XS4_1000141 hN hA, List.forall_mem_cons.mpr ⟨XS4_1000142 hN hA, List.forall_mem_cons.mpr ⟨XS4_1000143 hN hA, List.forall_mem_cons.mpr ⟨XS4_1000144 hN hA, List.forall_mem_cons.mpr ⟨XS4_1000145 hN hA, List.forall_mem_cons.mpr ⟨XS4_1000146 hN hA, List.forall_mem_cons.mpr ⟨XS4_1000147 hN hA, fun _ h => absurd h List.not_mem_nil⟩⟩⟩⟩⟩⟩⟩⟩⟩⟩⟩⟩⟩⟩⟩⟩⟩⟩⟩⟩⟩⟩⟩⟩⟩⟩⟩⟩⟩⟩⟩⟩⟩⟩⟩⟩⟩⟩⟩⟩⟩⟩⟩⟩⟩⟩⟩⟩
theorem kr_1000001 : ∀ j : Nat, j < 5 → ([3, 3, 2, 2, 3] : List Int32).getD j 0 = iN (zKC 1000001 (j : Int)) := by decide +kernel
theorem kr_1000002 : ∀ j : Nat, j < 15 → ([0, 0, 1, 3, 0, 1, 0, 1, 0, 0, 0, 0, 1, 1, 0] : List Int32).getD j 0 = iN (zKC 1000002 (j : Int)) := by decide +kernel
theorem kr_1000003 : ∀ j : Nat, j < 15 → ([40, 10, 200, 30, 5, 60, 3, 365, 0, 3, 5, 0, 5, 12, 200] : List Int32).getD j 0 = iN (zKC 1000003 (j : Int)) := by decide +kernel
theorem kr_1000010 : ∀ j : Nat, j < 100 → ([48, 48, 48, 48, 48, 48, 48, 48, 48, 48, 49, 49, 49, 49, 49, 49, 49, 49, 49, 49, 50, 50, 50, 50, 50, 50, 50, 50, 50, 50, 51, 51, 51, 51, 51, 51, 51, 51, 51, 51, 52, 52, 52, 52, 52, 52, 52, 52, 52, 52, 53, 53, 53, 53, 53, 53, 53, 53, 53, 53, 54, 54, 54, 54, 54, 54, 54, 54, 54, 54, 55, 55, 55, 55, 55, 55, 55, 55, 55, 55, 56, 56, 56, 56, 56, 56, 56, 56, 56, 56, 57, 57, 57, 57, 57, 57, 57, 57, 57, 57] : List Int32).getD j 0 = iN (zKC 1000010 (j : Int)) := by decide +kernel
theorem kr_1000011 : ∀ j : Nat, j < 100 → ([48, 49, 50, 51, 52, 53, 54, 55, 56, 57, 48, 49, 50, 51, 52, 53, 54, 55, 56, 57, 48, 49, 50, 51, 52, 53, 54, 55, 56, 57, 48, 49, 50, 51, 52, 53, 54, 55, 56, 57, 48, 49, 50, 51, 52, 53, 54, 55, 56, 57, 48, 49, 50, 51, 52, 53, 54, 55, 56, 57, 48, 49, 50, 51, 52, 53, 54, 55, 56, 57, 48, 49, 50, 51, 52, 53, 54, 55, 56, 57, 48, 49, 50, 51, 52, 53, 54, 55, 56, 57, 48, 49, 50, 51, 52, 53, 54, 55, 56, 57] : List Int32).getD j 0 = iN (zKC 1000011 (j : Int)) := by decide +kernel
theorem xk_1000000 : xTm.lookup 1000000 = some (Jvm.Term.arg 0) := by decide +kernel
theorem xk_1000050 : xTm.lookup 1000050 = some (Jvm.Term.static "jdk/internal/util/Preconditions" "SIOOBE_FORMATTER" "Ljava/util/function/BiFunction;") := by decide +kernel
theorem xk_1000012 : xTm.lookup 1000012 = some (Jvm.Term.static "java/util/ArrayList" "DEFAULTCAPACITY_EMPTY_ELEMENTDATA" "[Ljava/lang/Object;") := by decide +kernel
theorem xk_1000299 : xTm.lookup 1000299 = some (Jvm.Term.static "java/lang/Integer$IntegerCache" "cache" "[Ljava/lang/Integer;") := by decide +kernel
theorem xk_1000001 : xTm.lookup 1000001 = some (Jvm.Term.static RX3 "NUMBERS" "[I") := by decide +kernel
theorem xk_1000002 : xTm.lookup 1000002 = some (Jvm.Term.static RX3 "LEAST" "[I") := by decide +kernel
theorem xk_1000003 : xTm.lookup 1000003 = some (Jvm.Term.static RX3 "GREATEST" "[I") := by decide +kernel
theorem xk_1000010 : xTm.lookup 1000010 = some (Jvm.Term.static "java/lang/Integer" "DigitTens" "[B") := by decide +kernel
theorem xk_1000011 : xTm.lookup 1000011 = some (Jvm.Term.static "java/lang/Integer" "DigitOnes" "[B") := by decide +kernel
theorem xk_13 : xTm.lookup 1000013 = none := by decide +kernel
set_option maxHeartbeats 4000000 in
theorem x_start {ln b : Nat} {xs : Nat → Int32} (ha : args = #[.ref b]) (hts : ∀ w ∈ lw_tbl, w.before args s = true) (hgv : (Jvm.Cond.and given_1 narrow_1).before args s = true) (hX : va_X b ln xs s s.heap) (hbl : b < s.heap.size) :
    ∃ g : xG, gB g = s.heap.size ∧ gV g 1000000 = .ref b ∧ gS g = zSH (ln, D00) ∧ gH g = zCTC (zS0 ln xs) ∧ xSF g s s.heap := by
  obtain ⟨dC, dI, hC⟩ := x_classes hts
  obtain ⟨gA, hAr⟩ := x_arrays hts
  have hN : ∀ w ∈ nlist, w.before args s = true := flat_of_before _ hgv
  have hA : ∀ a : Nat, a < s.heap.size → ¬ hpA s a := fun a h => Nat.not_le.mpr h
  obtain ⟨t1000001, e1000001, T1000001⟩ := st_arr (A := hpA s) (fun w hw => hN w (sub_mem nl_NUMBERS w hw)) (by decide) hA
  obtain ⟨t1000002, e1000002, T1000002⟩ := st_arr (A := hpA s) (fun w hw => hN w (sub_mem nl_LEAST w hw)) (by decide) hA
  obtain ⟨t1000003, e1000003, T1000003⟩ := st_arr (A := hpA s) (fun w hw => hN w (sub_mem nl_GREATEST w hw)) (by decide) hA
  obtain ⟨t1000010, e1000010, T1000010⟩ := st_dig (A := hpA s) (fun w hw => hN w (sub_mem nl_DigitTens w hw)) (by decide) hA
  obtain ⟨t1000011, e1000011, T1000011⟩ := st_dig (A := hpA s) (fun w hw => hN w (sub_mem nl_DigitOnes w hw)) (by decide) hA
  obtain ⟨ad, hB, hBv, t1000299, e1000299, T1000299⟩ := x_box hN hA
  obtain ⟨t1000012, e1000012, T1000012⟩ := x_emp hN (fun j => .int (iN 0)) hA
  obtain ⟨mi, hMi⟩ := va_Mi.of (hN _ nl_mi)
  have h4 := XS4_all hN hA
  have hE : ∀ q ∈ xstr, ∃ t : Nat, (Jvm.Term.string q.1 q.2.1).eval args s none [] s = some (.ref t) := fun q hq => by
    obtain ⟨t, c, cA, kA, q1, -⟩ := Cond.exactly_spec (args := args) (first := s) (o := none) (s := s) (idx := []) (t := .string q.1 q.2.1) (cls := "java/lang/String") (hN _ (idx_mem nl_ex q hq))
    exact ⟨t, q1⟩
  have eb : (Jvm.Term.arg 0).eval args s none [] s = some (.ref b) := by rw [ha]; rfl
  have hS := st_ref (hN _ nl_sf)
  have hT : ∀ p ∈ xTm, (p.2.eval args s none [] s = some .null ∨ ∃ t, p.2.eval args s none [] s = some (.ref t)) := by
    unfold xTm
    rw [xl4_0]
    refine List.forall_mem_append.mpr ⟨List.forall_mem_append.mpr ⟨?_, List.forall_mem_append.mpr ⟨?_, ?_⟩⟩, ?_⟩
    · show ∀ p ∈ [(1000000, Jvm.Term.arg 0), _, _, _, _, _, _, _, _], _
      exact List.forall_mem_cons.mpr ⟨Or.inr ⟨_, eb⟩, List.forall_mem_cons.mpr ⟨Or.inr ⟨_, e1000001⟩, List.forall_mem_cons.mpr ⟨Or.inr ⟨_, e1000002⟩, List.forall_mem_cons.mpr ⟨Or.inr ⟨_, e1000003⟩, List.forall_mem_cons.mpr ⟨hS, List.forall_mem_cons.mpr ⟨Or.inr ⟨_, e1000010⟩, List.forall_mem_cons.mpr ⟨Or.inr ⟨_, e1000011⟩, List.forall_mem_cons.mpr ⟨Or.inr ⟨_, e1000012⟩, List.forall_mem_cons.mpr ⟨Or.inr ⟨_, e1000299⟩, fun _ h => absurd h List.not_mem_nil⟩⟩⟩⟩⟩⟩⟩⟩⟩
    · intro p hp
      obtain ⟨q, hq, rfl⟩ := List.mem_map.mp hp
      obtain ⟨t, v, e1, -⟩ := h4 q hq
      exact Or.inr ⟨t, e1⟩
    · intro p hp
      obtain ⟨q, hq, rfl⟩ := List.mem_map.mp hp
      obtain ⟨t, v, -, e1, -⟩ := h4 q hq
      exact Or.inr ⟨v, e1⟩
    · intro p hp
      obtain ⟨i, hi, rfl⟩ := List.mem_map.mp hp
      exact Or.inr ⟨_, (hBv i (List.mem_range.mp hi)).1⟩
  have sv : ∀ (k : Nat) (t : Jvm.Term) (v : Value), xTm.lookup k = some t → t.eval args s none [] s = some v → (if k = 1000013 then Value.ref mi else xGV args s k) = v := fun k t v h e => by
    rw [if_neg (fun q => by rw [q, xk_13] at h; cases h)]
    exact xGV_at h e
  refine ⟨(s.heap.size, dC, dI, gA, (fun k => if k = 1000013 then Value.ref mi else xGV args s k), zSH (ln, D00), zCTC (zS0 ln xs)), rfl, sv 1000000 (.arg 0) (.ref b) xk_1000000 eb, rfl, rfl, hC, fun t a b => hAr t a b, fun k n hk hs => ?_, fun k n hk hs => ?_, fun k n hk hs => ?_, fun q hq => ?_, fun q hq => ?_, fun w hw hx => va_Nw.of (x_tabs hx) (hts w hw), fun q hq => va_Nc.of (hN _ (List.mem_of_mem_drop (idx_mem nl_nc q hq))), ⟨vx_Zqof (hts _ lay_U) (hts _ (tw1 (List.mem_of_getElem? (i := 8) (by decide +kernel)))) (hN _ nl_us) hA, vx_Zqof (hts _ lay_S) (hts _ (tw1 (List.mem_of_getElem? (i := 8) (by decide +kernel)))) (hN _ nl_ss) hA⟩, fun k hk => ?_, Nat.le_refl _, va_AO.of (hts _ (tw1 (List.mem_of_getElem? (i := 191) (by decide +kernel)))), va_AO.of (hts _ (tw3 (List.mem_of_getElem? (i := 112) (by decide +kernel)))), fun k n hk hs => ?_, fun k n hk hs => ?_, ⟨mi, (show (if (1000013 : Nat) = 1000013 then Value.ref mi else xGV args s 1000013) = .ref mi from if_pos rfl), hMi⟩, x_xifs hts, x_xpsel hts⟩
  · by_cases ek : k = 1000000
    · subst ek
      have hn : (30, ln) = (30, n) := (shS (ln, D00)).symm.trans hs
      cases hn
      obtain ⟨scr, h1, h2, h3, h4', h5⟩ := hX
      refine ⟨b, sv 1000000 (.arg 0) (.ref b) xk_1000000 eb, scr, h1, h2, h3, by omega, (by rw [h4'] <;> rfl), fun j hj => ?_, hA b hbl⟩
      rw [h5 j hj]
      have e0 : zS0 ln xs 1000000 (j : Int) = (xs j).toInt := if_pos ⟨rfl, by omega, by omega⟩
      show some (Value.int (xs j)) = some (xv _ (zCTC (zS0 ln xs) 1000000 j))
      rw [zv30s, e0, iN_of]
      rfl
    · have hz := zv_st hk hs
      rcases zST_30 _ (zST_mem (by omega) (by decide) (by decide) (by decide) hs) rfl with h | h | h
      · cases h
        refine ⟨t1000001, sv 1000001 _ _ xk_1000001 e1000001, va_T_congr T1000001 (fun j hj => ?_)⟩
        show Value.int _ = xv _ (zCTC (zS0 ln xs) 1000001 j)
        rw [zv30 hz (by decide), kr_1000001 j hj]
        rfl
      · cases h
        refine ⟨t1000002, sv 1000002 _ _ xk_1000002 e1000002, va_T_congr T1000002 (fun j hj => ?_)⟩
        show Value.int _ = xv _ (zCTC (zS0 ln xs) 1000002 j)
        rw [zv30 hz (by decide), kr_1000002 j hj]
        rfl
      · cases h
        refine ⟨t1000003, sv 1000003 _ _ xk_1000003 e1000003, va_T_congr T1000003 (fun j hj => ?_)⟩
        show Value.int _ = xv _ (zCTC (zS0 ln xs) 1000003 j)
        rw [zv30 hz (by decide), kr_1000003 j hj]
        rfl
  · have hk1 : 1000000 < k := by
      rcases Nat.lt_or_eq_of_le hk with h | h
      · exact h
      · subst h
        cases (shS (ln, D00)).symm.trans hs
    have hz := zv_st hk hs
    rcases xl4_32 _ (zST_mem hk1 (by decide) (by decide) (by decide) hs) rfl with h | h | ⟨q, hq, h⟩
    · cases h
      refine ⟨t1000010, sv 1000010 _ _ xk_1000010 e1000010, va_T_congr T1000010 (fun j hj => ?_)⟩
      show Value.int _ = xv _ (zCTC (zS0 ln xs) 1000010 j)
      rw [zv32 hz, kr_1000010 j hj]
      rfl
    · cases h
      refine ⟨t1000011, sv 1000011 _ _ xk_1000011 e1000011, va_T_congr T1000011 (fun j hj => ?_)⟩
      show Value.int _ = xv _ (zCTC (zS0 ln xs) 1000011 j)
      rw [zv32 hz, kr_1000011 j hj]
      rfl
    · cases h
      obtain ⟨t, v, e1, e2, -, -, -, T⟩ := h4 q hq
      refine ⟨v, sv _ _ _ (xl4_tm q hq).2.1 e2, va_T_congr T (fun j hj => ?_)⟩
      show Value.int _ = xv _ (zCTC (zS0 ln xs) _ j)
      rw [zv32 hz]
      rfl
  · have hk1 : 1000000 < k := by
      rcases Nat.lt_or_eq_of_le hk with h | h
      · exact h
      · subst h
        cases (shS (ln, D00)).symm.trans hs
    have hz := zv_st hk hs
    obtain ⟨q, hq, h⟩ := xl4_31 _ (zST_mem hk1 (by decide) (by decide) (by decide) hs) rfl
    cases h
    obtain ⟨t, v, e1, e2, o1, c1, w1, T⟩ := h4 q hq
    refine ⟨t, sv _ _ _ (xl4_tm q hq).1 e1, o1, ?_, ?_⟩
    · show va_OF "java/lang/String" "value" "[B" (xv _ (zCTC (zS0 ln xs) _ 0)) _ _ _ _
      rw [(zv31 hz).1, xv_stat _ (by omega)]
      show va_OF "java/lang/String" "value" "[B" (if q.2.2.1 + 100 = 1000013 then Value.ref mi else xGV args s (q.2.2.1 + 100)) _ _ _ _
      rw [sv _ _ _ (xl4_tm q hq).2.1 e2]
      exact w1
    · show va_OF "java/lang/String" "coder" "B" (xv _ (zCTC (zS0 ln xs) _ 1)) _ _ _ _
      rw [(zv31 hz).2]
      exact c1
  · have z1 : ∀ q ∈ xstat, va_Z q.1 q.2.1 q.2.2.1 (match q.2.2.2 with
        | .ref a => (if a = 1000013 then Value.ref mi else xGV args s a)
        | v => v) (hpA s) s s.heap := by
      unfold xstat
      refine List.forall_mem_cons.mpr ⟨?_, List.forall_mem_cons.mpr ⟨?_, List.forall_mem_cons.mpr ⟨?_, List.forall_mem_cons.mpr ⟨?_, List.forall_mem_cons.mpr ⟨?_, List.forall_mem_cons.mpr ⟨?_, List.forall_mem_cons.mpr ⟨?_, List.forall_mem_cons.mpr ⟨?_, List.forall_mem_cons.mpr ⟨?_, List.forall_mem_cons.mpr ⟨?_, fun _ h => absurd h List.not_mem_nil⟩⟩⟩⟩⟩⟩⟩⟩⟩⟩
      · show va_Z _ _ _ (if 1000001 = 1000013 then Value.ref mi else xGV args s 1000001) _ _ _
        rw [sv 1000001 _ _ xk_1000001 e1000001]
        exact va_Zof (hts _ lay_N) (hts _ (tw1 (List.mem_of_getElem? (i := 6) (by decide +kernel)))) e1000001 hA
      · show va_Z _ _ _ (if 1000002 = 1000013 then Value.ref mi else xGV args s 1000002) _ _ _
        rw [sv 1000002 _ _ xk_1000002 e1000002]
        exact va_Zof (hts _ lay_L) (hts _ (tw1 (List.mem_of_getElem? (i := 6) (by decide +kernel)))) e1000002 hA
      · show va_Z _ _ _ (if 1000003 = 1000013 then Value.ref mi else xGV args s 1000003) _ _ _
        rw [sv 1000003 _ _ xk_1000003 e1000003]
        exact va_Zof (hts _ lay_G) (hts _ (tw1 (List.mem_of_getElem? (i := 6) (by decide +kernel)))) e1000003 hA
      · exact va_Zof (hts _ lay_C) (hts _ (tw1 (List.mem_of_getElem? (i := 13) (by decide +kernel)))) (va_eqi (hN _ nl_cs)) hA
      · show va_Z _ _ _ (if 1000050 = 1000013 then Value.ref mi else xGV args s 1000050) _ _ _
        rcases hS with h | ⟨t, h⟩
        · rw [sv 1000050 _ _ xk_1000050 h]
          exact va_Zof (hts _ lay_F) (hts _ (tw1 (List.mem_of_getElem? (i := 15) (by decide +kernel)))) h hA
        · rw [sv 1000050 _ _ xk_1000050 h]
          exact va_Zof (hts _ lay_F) (hts _ (tw1 (List.mem_of_getElem? (i := 15) (by decide +kernel)))) h hA
      · show va_Z _ _ _ (if 1000012 = 1000013 then Value.ref mi else xGV args s 1000012) _ _ _
        rw [sv 1000012 _ _ xk_1000012 e1000012]
        exact va_Zof (hts _ lay_D) (hts _ (tw1 (List.mem_of_getElem? (i := 23) (by decide +kernel)))) e1000012 hA
      · show va_Z _ _ _ (if 1000011 = 1000013 then Value.ref mi else xGV args s 1000011) _ _ _
        rw [sv 1000011 _ _ xk_1000011 e1000011]
        exact va_Zof (hts _ lay_DO) (hts _ (tw1 (List.mem_of_getElem? (i := 35) (by decide +kernel)))) e1000011 hA
      · show va_Z _ _ _ (if 1000010 = 1000013 then Value.ref mi else xGV args s 1000010) _ _ _
        rw [sv 1000010 _ _ xk_1000010 e1000010]
        exact va_Zof (hts _ lay_DT) (hts _ (tw1 (List.mem_of_getElem? (i := 35) (by decide +kernel)))) e1000010 hA
      · exact va_Zof (hts _ lay_HI) (hts _ (tw1 (List.mem_of_getElem? (i := 36) (by decide +kernel)))) (va_eqi (hN _ nl_hi)) hA
      · show va_Z _ _ _ (if 1000299 = 1000013 then Value.ref mi else xGV args s 1000299) _ _ _
        rw [sv 1000299 _ _ xk_1000299 e1000299]
        exact va_Zof (hts _ lay_CA) (hts _ (tw1 (List.mem_of_getElem? (i := 36) (by decide +kernel)))) e1000299 hA
    have z2 := z1 q hq
    have z3 : ∀ q ∈ xstat, (match q.2.2.2 with
        | .ref a => (if a = 1000013 then Value.ref mi else xGV args s a)
        | v => v) = xv (s.heap.size, dC, dI, gA, (fun k => if k = 1000013 then Value.ref mi else xGV args s k), zSH (ln, D00), zCTC (zS0 ln xs)) q.2.2.2 := by
      unfold xstat
      exact List.forall_mem_cons.mpr ⟨rfl, List.forall_mem_cons.mpr ⟨rfl, List.forall_mem_cons.mpr ⟨rfl, List.forall_mem_cons.mpr ⟨rfl, List.forall_mem_cons.mpr ⟨rfl, List.forall_mem_cons.mpr ⟨rfl, List.forall_mem_cons.mpr ⟨rfl, List.forall_mem_cons.mpr ⟨rfl, List.forall_mem_cons.mpr ⟨rfl, List.forall_mem_cons.mpr ⟨rfl, fun _ h => absurd h List.not_mem_nil⟩⟩⟩⟩⟩⟩⟩⟩⟩⟩
    rw [z3 q hq] at z2
    exact z2
  · obtain ⟨t, e⟩ := hE q hq
    exact ⟨t, sv _ _ _ (xTm_str q hq) e, vk_R.of (hts _ (List.mem_append_right _ (idx_mem nl_sr q hq))) e⟩
  · show (if k = 1000013 then Value.ref mi else xGV args s k) = .null ∨ ∃ t, (if k = 1000013 then Value.ref mi else xGV args s k) = .ref t
    by_cases e13 : k = 1000013
    · exact Or.inr ⟨mi, if_pos e13⟩
    cases h : xTm.lookup k with
    | none =>
      refine Or.inl ?_
      rw [if_neg e13]
      unfold xGV
      rw [h]
    | some t =>
      have hm : (k, t) ∈ xTm := by
        obtain ⟨l1, l2, h5, -⟩ := List.lookup_eq_some_iff.mp h
        rw [h5]
        simp
      rcases hT _ hm with e | ⟨a, e⟩
      · exact Or.inl (sv _ _ _ h e)
      · exact Or.inr ⟨a, sv _ _ _ h e⟩
  · obtain ⟨hk1, hst⟩ := zSH_stw hk (by decide) hs
    rcases zST_get (by decide) hst with ⟨e1, -, e3⟩ | ⟨e1, -, e3⟩ | ⟨-, -, e2, -⟩ | h
    · subst e1 e3
      exact ⟨t1000012, sv 1000012 _ _ xk_1000012 e1000012, va_T_congr T1000012 (fun j hj => absurd hj (Nat.not_lt_zero j))⟩
    · subst e1 e3
      refine ⟨t1000299, sv 1000299 _ _ xk_1000299 e1000299, va_T_congr T1000299 (fun j hj => ?_)⟩
      show Value.ref (ad j) = xv _ (zCTC (zS0 ln xs) 1000299 j)
      rw [zv35, xv_stat _ (by omega)]
      exact (sv _ _ _ (xTm_box j hj) (hBv j hj).1).symm
    · cases e2
    · exact absurd rfl (zST_n35 _ h).1
  · obtain ⟨hk1, hst⟩ := zSH_stw hk (by decide) hs
    have hz := zv_st hk hs
    rcases zST_get (by decide) hst with ⟨-, e2, -⟩ | ⟨-, e2, -⟩ | ⟨e1, e2, -, -⟩ | h
    · cases e2
    · cases e2
    · obtain ⟨j, rfl⟩ : ∃ j, k = 1000300 + j := ⟨k - 1000300, by omega⟩
      have hj : j < 256 := by omega
      refine ⟨ad j, sv _ _ _ (xTm_box j hj) (hBv j hj).1, hB.1 j hj, ?_⟩
      show va_OF "java/lang/Integer" "value" "I" (xv _ (zCTC (zS0 ln xs) (1000300 + j) 0)) _ _ _ _
      rw [zv33 hz, ← key33 j hj]
      exact hB.2 j hj
    · exact absurd rfl (zST_n35 _ h).2
end XT

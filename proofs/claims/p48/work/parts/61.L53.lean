set_option maxRecDepth 20000
/-! the invalid texts -/
def TF (z z' : ZZ) : Prop := (∀ a, a ≠ 16 → a ≠ 30 → a ≠ 31 → ¬ (17 ≤ a ∧ a ≤ 29) → z' a = z a) ∧ ∀ j, j ≠ 1 → j ≠ 4 → j ≠ 5 → j ≠ 6 → z' 16 j = z 16 j
theorem TF_rfl {z : ZZ} : TF z z := ⟨fun _ _ _ _ _ => rfl, fun _ _ _ _ _ => rfl⟩
theorem TF_tr {a b c : ZZ} (h1 : TF a b) (h2 : TF b c) : TF a c := ⟨fun x p q r s => (h2.1 x p q r s).trans (h1.1 x p q r s), fun j p q r s => (h2.2 j p q r s).trans (h1.2 j p q r s)⟩
theorem TF_A {a b : ZZ} (h : AF a b) : TF a b := ⟨fun x p q _ _ => h.1 x p q, fun j p _ _ _ => h.2 j p⟩
theorem TF_C {a b : ZZ} (h : CF a b) : TF a b := ⟨fun x p _ q r => h.1 x p q r, fun j _ p q r => h.2 j p q r⟩
section IW
variable {ln : Nat} {D : DD} {z : ZZ}
theorem l_wrong {k : Nat} {x : Int} (hk : k < 48) (hq : (1000100 + k, x) ∈ wrongL) (hx : x ≠ -1) (hz : 0 ≤ z 16 1) : ∃ z', fL_isWrong ((1000100 + k : Nat) : Int) x ln z D = some (1, z') ∧ TF z z' ∧ 0 ≤ z' 16 1 := by
  obtain ⟨w1, w2⟩ := wrong_ch _ hq
  have hT := TXT_bT w1 w2
  have hp := isAt_e (wrong_ok _ hq)
  have hS : Src D ((1000100 + k : Nat) : Int) (sch (1000100 + k)) := Src.st hk
  have hl : chL (sch (1000100 + k)) := fun c hc => by have := w2 c hc; have := hS.2.1 c hc; omega
  obtain ⟨z1, a1, a2, a3⟩ := l_type (ln := ln) (z := z) hS hl hz
  obtain ⟨z2, b1, b2, b3⟩ := (c_draft hT a2 R0_P).1 x hp
  have T2 := TC_f a2 b3
  obtain ⟨z3, c1, c2, c3⟩ := (c_draft hT T2 R0_P).1 x hp
  have T3 := TC_f T2 c3
  refine ⟨z3, ?_, TF_tr (TF_A a3) (TF_tr (TF_C b3) (TF_C c3)), by rw [T3.1]; omega⟩
  unfold fL_isWrong fX5_errorPosition fL_load fX5_load
  rw [a1, Option.bind_some]
  dsimp only
  rw [if_neg (by decide), b1]
  simp only [Option.bind_some, if_true]
  rw [c1]
  simp only [Option.bind_some]
  rw [if_neg hx]
  rfl
theorem l_texts (hz : 0 ≤ z 16 1) : ∃ z', fL_texts ln z D = some (1, z') ∧ TF z z' := by
  obtain ⟨z1, a1, f1, g1⟩ := l_wrong (ln := ln) (D := D) (z := z) (k := 29) (x := 0) (by decide) (by decide) (by decide) hz
  have a1 : fL_isWrong 1000129 0 ln z D = some (1, z1) := a1
  obtain ⟨z2, a2, f2, g2⟩ := l_wrong (ln := ln) (D := (djn 1 D)) (z := z1) (k := 30) (x := 6) (by decide) (by decide) (by decide) g1
  have a2 : fL_isWrong 1000130 6 ln z1 (djn 1 D) = some (1, z2) := a2
  obtain ⟨z3, a3, f3, g3⟩ := l_wrong (ln := ln) (D := (djn 2 D)) (z := z2) (k := 31) (x := 8) (by decide) (by decide) (by decide) g2
  have a3 : fL_isWrong 1000131 8 ln z2 (djn 2 D) = some (1, z3) := a3
  obtain ⟨z4, a4, f4, g4⟩ := l_wrong (ln := ln) (D := (djn 3 D)) (z := z3) (k := 32) (x := 10) (by decide) (by decide) (by decide) g3
  have a4 : fL_isWrong 1000132 10 ln z3 (djn 3 D) = some (1, z4) := a4
  obtain ⟨z5, a5, f5, g5⟩ := l_wrong (ln := ln) (D := (djn 4 D)) (z := z4) (k := 33) (x := 12) (by decide) (by decide) (by decide) g4
  have a5 : fL_isWrong 1000133 12 ln z4 (djn 4 D) = some (1, z5) := a5
  obtain ⟨z6, a6, f6, g6⟩ := l_wrong (ln := ln) (D := (djn 5 D)) (z := z5) (k := 34) (x := 5) (by decide) (by decide) (by decide) g5
  have a6 : fL_isWrong 1000134 5 ln z5 (djn 5 D) = some (1, z6) := a6
  obtain ⟨z7, a7, f7, g7⟩ := l_wrong (ln := ln) (D := (djn 6 D)) (z := z6) (k := 35) (x := 7) (by decide) (by decide) (by decide) g6
  have a7 : fL_isWrong 1000135 7 ln z6 (djn 6 D) = some (1, z7) := a7
  obtain ⟨z8, a8, f8, g8⟩ := l_wrong (ln := ln) (D := (djn 7 D)) (z := z7) (k := 36) (x := 9) (by decide) (by decide) (by decide) g7
  have a8 : fL_isWrong 1000136 9 ln z7 (djn 7 D) = some (1, z8) := a8
  obtain ⟨z9, a9, f9, g9⟩ := l_wrong (ln := ln) (D := (djn 8 D)) (z := z8) (k := 37) (x := 8) (by decide) (by decide) (by decide) g8
  have a9 : fL_isWrong 1000137 8 ln z8 (djn 8 D) = some (1, z9) := a9
  obtain ⟨z10, a10, f10, g10⟩ := l_wrong (ln := ln) (D := (djn 9 D)) (z := z9) (k := 38) (x := 10) (by decide) (by decide) (by decide) g9
  have a10 : fL_isWrong 1000138 10 ln z9 (djn 9 D) = some (1, z10) := a10
  obtain ⟨z11, a11, f11, g11⟩ := l_wrong (ln := ln) (D := (djn 10 D)) (z := z10) (k := 39) (x := 9) (by decide) (by decide) (by decide) g10
  have a11 : fL_isWrong 1000139 9 ln z10 (djn 10 D) = some (1, z11) := a11
  obtain ⟨z12, a12, f12, g12⟩ := l_wrong (ln := ln) (D := (djn 11 D)) (z := z11) (k := 40) (x := 7) (by decide) (by decide) (by decide) g11
  have a12 : fL_isWrong 1000140 7 ln z11 (djn 11 D) = some (1, z12) := a12
  obtain ⟨z13, a13, f13, g13⟩ := l_wrong (ln := ln) (D := (djn 12 D)) (z := z12) (k := 41) (x := 9) (by decide) (by decide) (by decide) g12
  have a13 : fL_isWrong 1000141 9 ln z12 (djn 12 D) = some (1, z13) := a13
  obtain ⟨z14, a14, f14, g14⟩ := l_wrong (ln := ln) (D := (djn 13 D)) (z := z13) (k := 42) (x := 11) (by decide) (by decide) (by decide) g13
  have a14 : fL_isWrong 1000142 11 ln z13 (djn 13 D) = some (1, z14) := a14
  obtain ⟨z15, a15, f15, g15⟩ := l_wrong (ln := ln) (D := (djn 14 D)) (z := z14) (k := 43) (x := 13) (by decide) (by decide) (by decide) g14
  have a15 : fL_isWrong 1000143 13 ln z14 (djn 14 D) = some (1, z15) := a15
  obtain ⟨z16, a16, f16, g16⟩ := l_wrong (ln := ln) (D := (djn 15 D)) (z := z15) (k := 44) (x := 5) (by decide) (by decide) (by decide) g15
  have a16 : fL_isWrong 1000144 5 ln z15 (djn 15 D) = some (1, z16) := a16
  obtain ⟨z17, a17, f17, g17⟩ := l_wrong (ln := ln) (D := (djn 16 D)) (z := z16) (k := 45) (x := 0) (by decide) (by decide) (by decide) g16
  have a17 : fL_isWrong 1000145 0 ln z16 (djn 16 D) = some (1, z17) := a17
  obtain ⟨z18, a18, f18, g18⟩ := l_wrong (ln := ln) (D := (djn 17 D)) (z := z17) (k := 46) (x := 8) (by decide) (by decide) (by decide) g17
  have a18 : fL_isWrong 1000146 8 ln z17 (djn 17 D) = some (1, z18) := a18
  obtain ⟨z19, a19, f19, g19⟩ := l_wrong (ln := ln) (D := (djn 18 D)) (z := z18) (k := 47) (x := 11) (by decide) (by decide) (by decide) g18
  have a19 : fL_isWrong 1000147 11 ln z18 (djn 18 D) = some (1, z19) := a19
  refine ⟨z19, ?_, (TF_tr f1 (TF_tr f2 (TF_tr f3 (TF_tr f4 (TF_tr f5 (TF_tr f6 (TF_tr f7 (TF_tr f8 (TF_tr f9 (TF_tr f10 (TF_tr f11 (TF_tr f12 (TF_tr f13 (TF_tr f14 (TF_tr f15 (TF_tr f16 (TF_tr f17 (TF_tr f18 f19))))))))))))))))))⟩
  unfold fL_texts
  rw [a1, Option.bind_some]
  dsimp only
  rw [if_neg (by decide)]
  rw [a2, Option.bind_some]
  dsimp only
  rw [if_neg (by decide)]
  rw [a3, Option.bind_some]
  dsimp only
  rw [if_neg (by decide)]
  rw [a4, Option.bind_some]
  dsimp only
  rw [if_neg (by decide)]
  rw [a5, Option.bind_some]
  dsimp only
  rw [if_neg (by decide)]
  (try rw [if_neg (by decide)])
  rw [a6, Option.bind_some]
  dsimp only
  rw [if_neg (by decide)]
  rw [a7, Option.bind_some]
  dsimp only
  rw [if_neg (by decide)]
  rw [a8, Option.bind_some]
  dsimp only
  rw [if_neg (by decide)]
  rw [a9, Option.bind_some]
  dsimp only
  rw [if_neg (by decide)]
  rw [a10, Option.bind_some]
  dsimp only
  rw [if_neg (by decide)]
  (try rw [if_neg (by decide)])
  rw [a11, Option.bind_some]
  dsimp only
  rw [if_neg (by decide)]
  rw [a12, Option.bind_some]
  dsimp only
  rw [if_neg (by decide)]
  rw [a13, Option.bind_some]
  dsimp only
  rw [if_neg (by decide)]
  rw [a14, Option.bind_some]
  dsimp only
  rw [if_neg (by decide)]
  rw [a15, Option.bind_some]
  dsimp only
  rw [if_neg (by decide)]
  (try rw [if_neg (by decide)])
  rw [a16, Option.bind_some]
  dsimp only
  rw [if_neg (by decide)]
  rw [a17, Option.bind_some]
  dsimp only
  rw [if_neg (by decide)]
  rw [a18, Option.bind_some]
  dsimp only
  rw [if_neg (by decide)]
  rw [a19, Option.bind_some]
  dsimp only
  rw [if_neg (by decide)]

end IW

/-! the law's cases that ask -/
theorem ask_case {r : Row} {A M0 M : ZZ → Option (Int × ZZ)} (h : Ask r A M0) {z : ZZ} (hR : RC z r) (hM : z 154 = r) (hE : ∀ y : ZZ, y 1000000 = z 1000000 → M y = M0 y) : ∃ z', tail A M z = some (1, z') ∧ Qt z z' := by
  obtain ⟨z', e, f⟩ := ask_tail h hR hM
  refine ⟨z', ?_, f⟩
  obtain ⟨c, v, h1, h2⟩ := h
  obtain ⟨z1, e1, f1, g1⟩ := h1 z hR
  rw [← e]
  unfold tail
  rw [e1]
  simp only [Option.bind_some]
  rw [hE z1 (f1.1 1000000 (by decide))]
section CA
variable {z : ZZ} {r : Row} {B v : Int} {ln : Nat}
theorem a_c20 (hI : IH B r) (hR : RC z r) (hM : z 154 = r) (h5 : 0 ≤ v ∧ v + 5 < ln) : ∃ z', fL_c20 ln v z = some (1, z') ∧ Qt z z' := by
  obtain ⟨z', e, f⟩ := ask_case (k_count hI (z 1000000 (v + 1))) (M := fun y => fX6_count (y 1000000 (v + 1)) y) hR hM (fun y hy => by rw [hy])
  refine ⟨z', ?_, f⟩
  unfold fL_c20
  rw [if_pos (by omega)]
  exact e
theorem a_c21 (hI : IH B r) (hR : RC z r) (hM : z 154 = r) (h5 : 0 ≤ v ∧ v + 5 < ln) : ∃ z', fL_c21 ln v z = some (1, z') ∧ Qt z z' := by
  obtain ⟨z', e, f⟩ := ask_case (k_wall hI (z 1000000 (v + 1)) (z 1000000 (v + 2))) (M := fun y => fX6_wall (y 1000000 (v + 1)) (y 1000000 (v + 2)) y) hR hM (fun y hy => by rw [hy])
  refine ⟨z', ?_, f⟩
  unfold fL_c21
  rw [if_pos (by omega), if_pos (by omega)]
  exact e
theorem a_c22 (hI : IH B r) (hR : RC z r) (hM : z 154 = r) (h5 : 0 ≤ v ∧ v + 5 < ln) : ∃ z', fL_c22 ln v z = some (1, z') ∧ Qt z z' := by
  obtain ⟨z', e, f⟩ := ask_case (k_route hI (z 1000000 (v + 1)) (z 1000000 (v + 2))) (M := fun y => fX6_route (y 1000000 (v + 1)) (y 1000000 (v + 2)) y) hR hM (fun y hy => by rw [hy])
  refine ⟨z', ?_, f⟩
  unfold fL_c22
  rw [if_pos (by omega), if_pos (by omega)]
  exact e
theorem a_c23 (hI : IH B r) (hR : RC z r) (hM : z 154 = r) (h5 : 0 ≤ v ∧ v + 5 < ln) : ∃ z', fL_c23 ln v z = some (1, z') ∧ Qt z z' := by
  obtain ⟨z', e, f⟩ := ask_case (k_archived hI (z 1000000 (v + 1)) (z 1000000 (v + 2))) (M := fun y => fX6_archived (y 1000000 (v + 1)) (y 1000000 (v + 2)) y) hR hM (fun y hy => by rw [hy])
  refine ⟨z', ?_, f⟩
  unfold fL_c23
  rw [if_pos (by omega), if_pos (by omega)]
  exact e
theorem a_c24 (hI : IH B r) (hR : RC z r) (hM : z 154 = r) (h5 : 0 ≤ v ∧ v + 5 < ln) : ∃ z', fL_c24 ln v z = some (1, z') ∧ Qt z z' := by
  obtain ⟨z', e, f⟩ := ask_case (k_member hI (z 1000000 (v + 1)) (z 1000000 (v + 2))) (M := fun y => fX6_member (y 1000000 (v + 1)) (y 1000000 (v + 2)) y) hR hM (fun y hy => by rw [hy])
  refine ⟨z', ?_, f⟩
  unfold fL_c24
  rw [if_pos (by omega), if_pos (by omega)]
  exact e
theorem a_c25 (hI : IH B r) (hR : RC z r) (hM : z 154 = r) (h5 : 0 ≤ v ∧ v + 5 < ln) : ∃ z', fL_c25 ln v z = some (1, z') ∧ Qt z z' := by
  obtain ⟨z', e, f⟩ := ask_case (k_harness hI (z 1000000 (v + 1)) (z 1000000 (v + 2))) (M := fun y => fX6_harness (y 1000000 (v + 1)) (y 1000000 (v + 2)) y) hR hM (fun y hy => by rw [hy])
  refine ⟨z', ?_, f⟩
  unfold fL_c25
  rw [if_pos (by omega), if_pos (by omega)]
  exact e
theorem a_c26 (hI : IH B r) (hR : RC z r) (hM : z 154 = r) (h5 : 0 ≤ v ∧ v + 5 < ln) : ∃ z', fL_c26 ln v z = some (1, z') ∧ Qt z z' := by
  obtain ⟨z', e, f⟩ := ask_case (k_course hI (z 1000000 (v + 1)) (z 1000000 (v + 2))) (M := fun y => fX6_course (y 1000000 (v + 1)) (y 1000000 (v + 2)) y) hR hM (fun y hy => by rw [hy])
  refine ⟨z', ?_, f⟩
  unfold fL_c26
  rw [if_pos (by omega), if_pos (by omega)]
  exact e
theorem a_c27 (hI : IH B r) (hR : RC z r) (hM : z 154 = r) (h5 : 0 ≤ v ∧ v + 5 < ln) : ∃ z', fL_c27 ln v z = some (1, z') ∧ Qt z z' := by
  obtain ⟨z', e, f⟩ := ask_case (k_bill hI (z 1000000 (v + 1)) (z 1000000 (v + 2)) (z 1000000 (v + 3))) (M := fun y => fX6_bill (y 1000000 (v + 1)) (y 1000000 (v + 2)) (y 1000000 (v + 3)) y) hR hM (fun y hy => by rw [hy])
  refine ⟨z', ?_, f⟩
  unfold fL_c27
  rw [if_pos (by omega), if_pos (by omega), if_pos (by omega)]
  exact e
theorem a_c28 (hI : IH B r) (hR : RC z r) (hM : z 154 = r) (h5 : 0 ≤ v ∧ v + 5 < ln) : ∃ z', fL_c28 ln v z = some (1, z') ∧ Qt z z' := by
  obtain ⟨z', e, f⟩ := ask_case (k_grade hI (z 1000000 (v + 1))) (M := fun y => fX6_grade (y 1000000 (v + 1)) y) hR hM (fun y hy => by rw [hy])
  refine ⟨z', ?_, f⟩
  unfold fL_c28
  rw [if_pos (by omega)]
  exact e
theorem a_c30 (hI : IH B r) (hR : RC z r) (hM : z 154 = r) (h5 : 0 ≤ v ∧ v + 5 < ln) : ∃ z', fL_c30 ln v z = some (1, z') ∧ Qt z z' := by
  obtain ⟨z', e, f⟩ := ask_case (k_voteOf hI (z 1000000 (v + 1)) (z 1000000 (v + 2))) (M := fun y => fX6_voteOf (y 1000000 (v + 1)) (y 1000000 (v + 2)) y) hR hM (fun y hy => by rw [hy])
  refine ⟨z', ?_, f⟩
  unfold fL_c30
  rw [if_pos (by omega), if_pos (by omega)]
  exact e
theorem a_c31 (hI : IH B r) (hR : RC z r) (hM : z 154 = r) (h5 : 0 ≤ v ∧ v + 5 < ln) : ∃ z', fL_c31 ln v z = some (1, z') ∧ Qt z z' := by
  obtain ⟨z', e, f⟩ := ask_case (k_gradeWith hI (z 1000000 (v + 1)) (z 1000000 (v + 2)) (z 1000000 (v + 3))) (M := fun y => fX6_gradeWith (y 1000000 (v + 1)) (y 1000000 (v + 2)) (y 1000000 (v + 3)) y) hR hM (fun y hy => by rw [hy])
  refine ⟨z', ?_, f⟩
  unfold fL_c31
  rw [if_pos (by omega), if_pos (by omega), if_pos (by omega)]
  exact e
theorem a_c32 (hI : IH B r) (hR : RC z r) (hM : z 154 = r) (h5 : 0 ≤ v ∧ v + 5 < ln) : ∃ z', fL_c32 ln v z = some (1, z') ∧ Qt z z' := by
  obtain ⟨z', e, f⟩ := ask_case (k_votesTo hI (z 1000000 (v + 1)) (z 1000000 (v + 2))) (M := fun y => fX6_votesTo (y 1000000 (v + 1)) (y 1000000 (v + 2)) y) hR hM (fun y hy => by rw [hy])
  refine ⟨z', ?_, f⟩
  unfold fL_c32
  rw [if_pos (by omega), if_pos (by omega)]
  exact e
theorem a_c33 (hI : IH B r) (hR : RC z r) (hM : z 154 = r) (h5 : 0 ≤ v ∧ v + 5 < ln) : ∃ z', fL_c33 ln v z = some (1, z') ∧ Qt z z' := by
  obtain ⟨z', e, f⟩ := ask_case (k_disputed hI) (M := fun y => fX6_disputed y) hR hM (fun y hy => rfl)
  refine ⟨z', ?_, f⟩
  unfold fL_c33
  exact e
theorem a_c34 (hI : IH B r) (hR : RC z r) (hM : z 154 = r) (h5 : 0 ≤ v ∧ v + 5 < ln) : ∃ z', fL_c34 ln v z = some (1, z') ∧ Qt z z' := by
  obtain ⟨z', e, f⟩ := ask_case (k_hardest hI (z 1000000 (v + 1))) (M := fun y => fX6_hardest (y 1000000 (v + 1)) y) hR hM (fun y hy => by rw [hy])
  refine ⟨z', ?_, f⟩
  unfold fL_c34
  rw [if_pos (by omega)]
  exact e
theorem a_c35 (hI : IH B r) (hR : RC z r) (hM : z 154 = r) (h5 : 0 ≤ v ∧ v + 5 < ln) : ∃ z', fL_c35 ln v z = some (1, z') ∧ Qt z z' := by
  obtain ⟨z', e, f⟩ := ask_case (k_climbsLeft hI (z 1000000 (v + 1))) (M := fun y => fX6_climbsLeft (y 1000000 (v + 1)) y) hR hM (fun y hy => by rw [hy])
  refine ⟨z', ?_, f⟩
  unfold fL_c35
  rw [if_pos (by omega)]
  exact e
theorem a_c37 (hI : IH B r) (hR : RC z r) (hM : z 154 = r) (h5 : 0 ≤ v ∧ v + 5 < ln) : ∃ z', fL_c37 ln v z = some (1, z') ∧ Qt z z' := by
  obtain ⟨z', e, f⟩ := ask_case (k_openWalls hI (z 1000000 (v + 1))) (M := fun y => fX6_openWalls (y 1000000 (v + 1)) y) hR hM (fun y hy => by rw [hy])
  refine ⟨z', ?_, f⟩
  unfold fL_c37
  rw [if_pos (by omega)]
  exact e
theorem a_c38 (hI : IH B r) (hR : RC z r) (hM : z 154 = r) (h5 : 0 ≤ v ∧ v + 5 < ln) : ∃ z', fL_c38 ln v z = some (1, z') ∧ Qt z z' := by
  obtain ⟨z', e, f⟩ := ask_case (k_worstDay hI (z 1000000 (v + 1))) (M := fun y => fX6_worstDay (y 1000000 (v + 1)) y) hR hM (fun y hy => by rw [hy])
  refine ⟨z', ?_, f⟩
  unfold fL_c38
  rw [if_pos (by omega)]
  exact e
theorem a_c39 (hI : IH B r) (hR : RC z r) (hM : z 154 = r) (h5 : 0 ≤ v ∧ v + 5 < ln) : ∃ z', fL_c39 ln v z = some (1, z') ∧ Qt z z' := by
  obtain ⟨z', e, f⟩ := ask_case (k_shiftFor hI (z 1000000 (v + 1))) (M := fun y => fX6_shiftFor (y 1000000 (v + 1)) y) hR hM (fun y hy => by rw [hy])
  refine ⟨z', ?_, f⟩
  unfold fL_c39
  rw [if_pos (by omega)]
  exact e
theorem a_c40 (hI : IH B r) (hR : RC z r) (hM : z 154 = r) (h5 : 0 ≤ v ∧ v + 5 < ln) : ∃ z', fL_c40 ln v z = some (1, z') ∧ Qt z z' := by
  obtain ⟨z', e, f⟩ := ask_case (k_lendable hI (z 1000000 (v + 1))) (M := fun y => fX6_lendable (y 1000000 (v + 1)) y) hR hM (fun y hy => by rw [hy])
  refine ⟨z', ?_, f⟩
  unfold fL_c40
  rw [if_pos (by omega)]
  exact e
theorem a_c41 (hI : IH B r) (hR : RC z r) (hM : z 154 = r) (h5 : 0 ≤ v ∧ v + 5 < ln) : ∃ z', fL_c41 ln v z = some (1, z') ∧ Qt z z' := by
  obtain ⟨z', e, f⟩ := ask_case (k_lapsing hI (z 1000000 (v + 1))) (M := fun y => fX6_lapsing (y 1000000 (v + 1)) y) hR hM (fun y hy => by rw [hy])
  refine ⟨z', ?_, f⟩
  unfold fL_c41
  rw [if_pos (by omega)]
  exact e
theorem a_c42 (hI : IH B r) (hR : RC z r) (hM : z 154 = r) (h5 : 0 ≤ v ∧ v + 5 < ln) : ∃ z', fL_c42 ln v z = some (1, z') ∧ Qt z z' := by
  obtain ⟨z', e, f⟩ := ask_case (k_checksNeeded hI (z 1000000 (v + 1)) (z 1000000 (v + 2))) (M := fun y => fX6_checksNeeded (y 1000000 (v + 1)) (y 1000000 (v + 2)) y) hR hM (fun y hy => by rw [hy])
  refine ⟨z', ?_, f⟩
  unfold fL_c42
  rw [if_pos (by omega), if_pos (by omega)]
  exact e
theorem a_c43 (hI : IH B r) (hR : RC z r) (hM : z 154 = r) (h5 : 0 ≤ v ∧ v + 5 < ln) : ∃ z', fL_c43 ln v z = some (1, z') ∧ Qt z z' := by
  obtain ⟨z', e, f⟩ := ask_case (k_allowedRoutes hI (z 1000000 (v + 1))) (M := fun y => fX6_allowedRoutes (y 1000000 (v + 1)) y) hR hM (fun y hy => by rw [hy])
  refine ⟨z', ?_, f⟩
  unfold fL_c43
  rw [if_pos (by omega)]
  exact e
theorem a_c44 (hI : IH B r) (hR : RC z r) (hM : z 154 = r) (h5 : 0 ≤ v ∧ v + 5 < ln) : ∃ z', fL_c44 ln v z = some (1, z') ∧ Qt z z' := by
  obtain ⟨z', e, f⟩ := ask_case (k_ladder hI (z 1000000 (v + 1)) (z 1000000 (v + 2))) (M := fun y => fX6_ladder (y 1000000 (v + 1)) (y 1000000 (v + 2)) y) hR hM (fun y hy => by rw [hy])
  refine ⟨z', ?_, f⟩
  unfold fL_c44
  rw [if_pos (by omega), if_pos (by omega)]
  exact e
theorem a_c29 (hI : IH B r) (hR : RC z r) (hM : z 154 = r) (h5 : 0 ≤ v ∧ v + 5 < ln) : ∃ z', fL_c29 ln v z = some (1, z') ∧ Qt z z' := by
  have key : ∀ w : Int, (z 1000000 (v + 2) = 0 → w = 0) → (¬ z 1000000 (v + 2) = 0 → w = 1) → ∃ z', fL_law_b1988 ln v (z 1000000 (v + 1)) w z = some (1, z') ∧ Qt z z' := by
    intro w w1 w2
    obtain ⟨c, x, h1, h2⟩ := k_meanGrade hI (z 1000000 (v + 1)) w
    obtain ⟨z1, e1, f1, g1⟩ := h1 z hR
    obtain ⟨y, z2, e2, f2, f3, g2, g3⟩ := h2 z1 ((f1.1 154 (by decide)).trans hM)
    have es : z1 1000000 = z 1000000 := f1.1 1000000 (by decide)
    have fin : fL_law_b2015 ln v c (z 1000000 (v + 1)) w z1 = some (1, z2) := by
      unfold fL_law_b2015
      rw [e2]
      simp only [Option.bind_some]
      rw [show fX6_thrown z2 = some (z2 151 0) from rfl]
      simp only [Option.bind_some]
      rw [if_pos g2]
      by_cases q : c = 0
      · rw [if_pos q, f3, g1 q, g3 q, zcmp_eq, if_pos rfl]
      · rw [if_neg q]
    refine ⟨z2, ?_, Qt_tr f1 f2⟩
    unfold fL_law_b1988
    rw [e1]
    simp only [Option.bind_some]
    rw [if_pos (by omega), if_pos (by omega), es]
    by_cases q : z 1000000 (v + 2) = 0
    · rw [if_pos q]
      have e := w1 q
      subst e
      exact fin
    · rw [if_neg q]
      have e := w2 q
      subst e
      exact fin
  unfold fL_c29
  rw [if_pos (by omega), if_pos (by omega)]
  by_cases q : z 1000000 (v + 2) = 0
  · rw [if_pos q]
    exact key 0 (fun _ => rfl) (fun x => absurd q x)
  · rw [if_neg q]
    exact key 1 (fun x => absurd x q) (fun _ => rfl)
theorem a_c17 (hu : z 32 1 = z 151 12) : ∃ z', fL_c17 ln v z = some (1, z') ∧ Qt z z' := by
  refine ⟨zup z 151 0 0, ?_, Qt_e⟩
  unfold fL_c17 fX5_undoCount fX6_undoCount zl
  simp only [Option.bind_some]
  rw [zup_at, if_neg (show ¬ (12 : Int) = 0 by decide), if_pos hu]
end CA

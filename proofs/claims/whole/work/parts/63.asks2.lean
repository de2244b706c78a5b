/-! the other asking methods -/
theorem min_or (P : Int → Prop) : ∀ n : Nat, (∃ i, 0 ≤ i ∧ i < (n : Int) ∧ P i ∧ ∀ j, 0 ≤ j → j < i → ¬ P j) ∨ ∀ i, 0 ≤ i → i < (n : Int) → ¬ P i
  | 0 => Or.inr (fun i a b => by omega)
  | n + 1 => by
    rcases min_or P n with ⟨i, a, b, c, d⟩ | h
    · exact Or.inl ⟨i, a, by omega, c, d⟩
    · by_cases q : P n
      · exact Or.inl ⟨n, by omega, by omega, q, h⟩
      · refine Or.inr (fun i a b => ?_)
        by_cases e : i = n
        · rw [e]; exact q
        · exact h i a (by omega)
theorem min_eq {P : Int → Prop} {i j : Int} (h1 : 0 ≤ i ∧ P i ∧ ∀ k, 0 ≤ k → k < i → ¬ P k) (h2 : 0 ≤ j ∧ P j ∧ ∀ k, 0 ≤ k → k < j → ¬ P k) : i = j := by
  rcases (by omega : i < j ∨ j < i ∨ i = j) with q | q | q
  · exact absurd h1.2.1 (h2.2.2 i h1.1 q)
  · exact absurd h2.2.1 (h1.2.2 j h2.1 q)
  · exact q
section QV
variable {z : ZZ} {r : Row} {B v : Int}
theorem n_int : fX5_needInt v z = some (if -2147483648 ≤ v ∧ v ≤ 2147483647 then .inl 0 else .inr 4) := by
  unfold fX5_needInt fX5_needInt_b16
  simp only [zcmp_lt, zcmp_gt]
  by_cases h : v < -2147483648
  · rw [if_pos h, if_neg (by omega)]
  · rw [if_neg h]
    by_cases h2 : 2147483647 < v
    · rw [if_pos h2, if_neg (by omega)]
    · rw [if_neg h2, if_pos (by omega)]
theorem mi_int : fX6_isInt v z = some (bI (-2147483648 ≤ v ∧ v ≤ 2147483647)) := by
  unfold fX6_isInt
  rw [m_in]
  rfl
theorem k_voteOf (hI : IH B r) (v1 v2 : Int) : Ask r (fL_voteOf v1 v2) (fX6_voteOf v1 v2) := by
  have hn := hI.1
  unfold IHn at hn
  by_cases q1 : 0 ≤ v1 ∧ v1 < r 546
  · by_cases q2 : 0 ≤ v2 ∧ v2 < r 37
    · have g6 : inR (6 + v1) := inR_s (by omega)
      by_cases q3 : r (38 + 18 * v2 + (6 + v1)) = -1
      · refine ask_er 2 (by decide) (fun z hR => ⟨z, ?_, fun _ _ => rfl⟩) (fun z hM => ⟨0, zup z 151 0 0, ?_, FM_rf _⟩)
        · simp only [fL_voteOf, fX5_voteOf, n_row, n_btw, n_fnd, RCn hR, if_pos q1, if_pos q2, Option.bind_some, if_true, if_pos g6, cg6 hR hI q2 (c := 6 + v1) (by omega), if_pos q3] <;> rfl
        · have hM1 := zup_154 (e := 0) hM
          simp only [fX6_voteOf, zl, hM1, mi_wall hM1 hI, mi_route hM1 hI, mi_harness hM1 hI, mi_member hM1 hI, mi_course hM1 hI, mi_grade, m_in, m_failsb, if_pos q1, if_pos q2, Option.bind_some, if_true, fX6_voteOf_b26, fX6_voteOf_b27, fX6_voteOf_b57, ite_bI, m_fails0, m_fails1, if_pos g6, mg6 hM1 (k := v2) (c := 6 + v1) (by omega), if_pos q3] <;> rfl
      · refine ask_ok (r (38 + 18 * v2 + (6 + v1))) (fun z hR => ⟨z, ?_, fun _ _ => rfl⟩) (fun z hM => ⟨zup z 151 0 0, ?_, FM_rf _⟩)
        · simp only [fL_voteOf, fX5_voteOf, n_row, n_btw, n_fnd, RCn hR, if_pos q1, if_pos q2, Option.bind_some, if_true, if_pos g6, cg6 hR hI q2 (c := 6 + v1) (by omega), if_neg q3]
        · have hM1 := zup_154 (e := 0) hM
          simp only [fX6_voteOf, zl, hM1, mi_wall hM1 hI, mi_route hM1 hI, mi_harness hM1 hI, mi_member hM1 hI, mi_course hM1 hI, mi_grade, m_in, m_failsb, if_pos q1, if_pos q2, Option.bind_some, if_true, fX6_voteOf_b26, fX6_voteOf_b27, fX6_voteOf_b57, ite_bI, m_fails0, m_fails1, if_pos g6, mg6 hM1 (k := v2) (c := 6 + v1) (by omega), if_neg q3]
    · refine ask_er 1 (by decide) (fun z hR => ⟨z, ?_, fun _ _ => rfl⟩) (fun z hM => ⟨0, zup z 151 0 0, ?_, FM_rf _⟩)
      · simp only [fL_voteOf, fX5_voteOf, n_row, n_btw, n_fnd, RCn hR, if_pos q1, if_neg q2, Option.bind_some, if_true] <;> rfl
      · have hM1 := zup_154 (e := 0) hM
        simp only [fX6_voteOf, zl, hM1, mi_wall hM1 hI, mi_route hM1 hI, mi_harness hM1 hI, mi_member hM1 hI, mi_course hM1 hI, mi_grade, m_in, m_failsb, if_pos q1, if_neg q2, Option.bind_some, if_true, fX6_voteOf_b26, fX6_voteOf_b27, fX6_voteOf_b57, ite_bI, m_fails0, m_fails1] <;> rfl
  · refine ask_er 1 (by decide) (fun z hR => ⟨z, ?_, fun _ _ => rfl⟩) (fun z hM => ⟨0, zup z 151 0 0, ?_, FM_rf _⟩)
    · simp only [fL_voteOf, fX5_voteOf, n_row, n_btw, n_fnd, RCn hR, if_neg q1, Option.bind_some, if_true] <;> rfl
    · have hM1 := zup_154 (e := 0) hM
      simp only [fX6_voteOf, zl, hM1, mi_wall hM1 hI, mi_route hM1 hI, mi_harness hM1 hI, mi_member hM1 hI, mi_course hM1 hI, mi_grade, m_in, m_failsb, if_neg q1, Option.bind_some, if_true, fX6_voteOf_b26, fX6_voteOf_b27, fX6_voteOf_b57, ite_bI, m_fails0, m_fails1] <;> rfl
theorem k_disputed (hI : IH B r) : Ask r (fL_disputed) (fX6_disputed) := by
  have hn := hI.1
  unfold IHn at hn
  by_cases q3 : (sMost r).1 = -1
  · refine ask_er 1 (by decide) (fun z hR => ⟨z, ?_, fun _ _ => rfl⟩) (fun z hM => ⟨0, zup z 151 0 0, ?_, FM_rf _⟩)
    · simp only [fL_disputed, fX5_disputed, n_row, n_btw, n_fnd, RCn hR, Option.bind_some, if_true, c_most hR hI, if_pos q3] <;> rfl
    · have hM1 := zup_154 (e := 0) hM
      simp only [fX6_disputed, zl, hM1, mi_wall hM1 hI, mi_route hM1 hI, mi_harness hM1 hI, mi_member hM1 hI, mi_course hM1 hI, mi_grade, m_in, m_failsb, Option.bind_some, if_true, fX6_disputed_b57, m_fails0, m_fails1, m_most hM1 hI, if_pos q3] <;> rfl
  · refine ask_ok ((sMost r).1) (fun z hR => ⟨z, ?_, fun _ _ => rfl⟩) (fun z hM => ⟨zup z 151 0 0, ?_, FM_rf _⟩)
    · simp only [fL_disputed, fX5_disputed, n_row, n_btw, n_fnd, RCn hR, Option.bind_some, if_true, c_most hR hI, if_neg q3]
    · have hM1 := zup_154 (e := 0) hM
      simp only [fX6_disputed, zl, hM1, mi_wall hM1 hI, mi_route hM1 hI, mi_harness hM1 hI, mi_member hM1 hI, mi_course hM1 hI, mi_grade, m_in, m_failsb, Option.bind_some, if_true, fX6_disputed_b57, m_fails0, m_fails1, m_most hM1 hI, if_neg q3]
theorem k_bill (hI : IH B r) (v1 v2 v3 : Int) : Ask r (fL_bill v1 v2 v3) (fX6_bill v1 v2 v3) := by
  have hn := hI.1
  unfold IHn at hn
  by_cases q1 : 0 ≤ v1 ∧ v1 < r 546
  · by_cases q2 : -2147483648 ≤ r (547 + 6 * v1 + 2) * v2 ∧ r (547 + 6 * v1 + 2) * v2 ≤ 2147483647
    · by_cases q3 : -2147483648 ≤ r (547 + 6 * v1 + 5) * v3 ∧ r (547 + 6 * v1 + 5) * v3 ≤ 2147483647
      · have gl : inL (r (547 + 6 * v1 + 2) * v2 + r (547 + 6 * v1 + 5) * v3) := ⟨by omega, by omega⟩
        by_cases q4 : -2147483648 ≤ r (547 + 6 * v1 + 2) * v2 + r (547 + 6 * v1 + 5) * v3 ∧ r (547 + 6 * v1 + 2) * v2 + r (547 + 6 * v1 + 5) * v3 ≤ 2147483647
        · have gr : inR (r (547 + 6 * v1 + 2) * v2 + r (547 + 6 * v1 + 5) * v3) := ⟨by omega, by omega⟩
          refine ask_ok (r (547 + 6 * v1 + 2) * v2 + r (547 + 6 * v1 + 5) * v3) (fun z hR => ⟨z, ?_, fun _ _ => rfl⟩) (fun z hM => ⟨zup z 151 0 0, ?_, FM_rf _⟩)
          · simp only [fL_bill, fX5_bill, n_row, n_btw, n_fnd, RCn hR, if_pos q1, Option.bind_some, if_true, n_int, cg12 hR hI q1 (c := 2) (by omega), cg12 hR hI q1 (c := 5) (by omega), if_pos q2, if_pos q3, if_pos gl, if_pos q4, if_pos gr]
          · have hM1 := zup_154 (e := 0) hM
            simp only [fX6_bill, zl, hM1, mi_wall hM1 hI, mi_route hM1 hI, mi_harness hM1 hI, mi_member hM1 hI, mi_course hM1 hI, mi_grade, m_in, m_failsb, if_pos q1, Option.bind_some, if_true, mi_int, fX6_bill_b76, fX6_bill_b77, ite_bI, m_fails0, m_fails1, mg12 hM1 (k := v1) (c := 2) (by omega), mg12 hM1 (k := v1) (c := 5) (by omega), if_pos q2, if_pos q3, if_pos gl, if_pos q4, if_pos gr]
        · refine ask_er 2 (by decide) (fun z hR => ⟨z, ?_, fun _ _ => rfl⟩) (fun z hM => ⟨0, zup z 151 0 0, ?_, FM_rf _⟩)
          · simp only [fL_bill, fX5_bill, n_row, n_btw, n_fnd, RCn hR, if_pos q1, Option.bind_some, if_true, n_int, cg12 hR hI q1 (c := 2) (by omega), cg12 hR hI q1 (c := 5) (by omega), if_pos q2, if_pos q3, if_pos gl, if_neg q4] <;> rfl
          · have hM1 := zup_154 (e := 0) hM
            simp only [fX6_bill, zl, hM1, mi_wall hM1 hI, mi_route hM1 hI, mi_harness hM1 hI, mi_member hM1 hI, mi_course hM1 hI, mi_grade, m_in, m_failsb, if_pos q1, Option.bind_some, if_true, mi_int, fX6_bill_b76, fX6_bill_b77, ite_bI, m_fails0, m_fails1, mg12 hM1 (k := v1) (c := 2) (by omega), mg12 hM1 (k := v1) (c := 5) (by omega), if_pos q2, if_pos q3, if_pos gl, if_neg q4] <;> rfl
      · refine ask_er 2 (by decide) (fun z hR => ⟨z, ?_, fun _ _ => rfl⟩) (fun z hM => ⟨0, zup z 151 0 0, ?_, FM_rf _⟩)
        · simp only [fL_bill, fX5_bill, n_row, n_btw, n_fnd, RCn hR, if_pos q1, Option.bind_some, if_true, n_int, cg12 hR hI q1 (c := 2) (by omega), cg12 hR hI q1 (c := 5) (by omega), if_pos q2, if_neg q3] <;> rfl
        · have hM1 := zup_154 (e := 0) hM
          simp only [fX6_bill, zl, hM1, mi_wall hM1 hI, mi_route hM1 hI, mi_harness hM1 hI, mi_member hM1 hI, mi_course hM1 hI, mi_grade, m_in, m_failsb, if_pos q1, Option.bind_some, if_true, mi_int, fX6_bill_b76, fX6_bill_b77, ite_bI, m_fails0, m_fails1, mg12 hM1 (k := v1) (c := 2) (by omega), mg12 hM1 (k := v1) (c := 5) (by omega), if_pos q2, if_neg q3] <;> rfl
    · refine ask_er 2 (by decide) (fun z hR => ⟨z, ?_, fun _ _ => rfl⟩) (fun z hM => ⟨0, zup z 151 0 0, ?_, FM_rf _⟩)
      · simp only [fL_bill, fX5_bill, n_row, n_btw, n_fnd, RCn hR, if_pos q1, Option.bind_some, if_true, n_int, cg12 hR hI q1 (c := 2) (by omega), cg12 hR hI q1 (c := 5) (by omega), if_neg q2] <;> rfl
      · have hM1 := zup_154 (e := 0) hM
        simp only [fX6_bill, zl, hM1, mi_wall hM1 hI, mi_route hM1 hI, mi_harness hM1 hI, mi_member hM1 hI, mi_course hM1 hI, mi_grade, m_in, m_failsb, if_pos q1, Option.bind_some, if_true, mi_int, fX6_bill_b76, fX6_bill_b77, ite_bI, m_fails0, m_fails1, mg12 hM1 (k := v1) (c := 2) (by omega), mg12 hM1 (k := v1) (c := 5) (by omega), if_neg q2] <;> rfl
  · refine ask_er 1 (by decide) (fun z hR => ⟨z, ?_, fun _ _ => rfl⟩) (fun z hM => ⟨0, zup z 151 0 0, ?_, FM_rf _⟩)
    · simp only [fL_bill, fX5_bill, n_row, n_btw, n_fnd, RCn hR, if_neg q1, Option.bind_some, if_true, n_int] <;> rfl
    · have hM1 := zup_154 (e := 0) hM
      simp only [fX6_bill, zl, hM1, mi_wall hM1 hI, mi_route hM1 hI, mi_harness hM1 hI, mi_member hM1 hI, mi_course hM1 hI, mi_grade, m_in, m_failsb, if_neg q1, Option.bind_some, if_true, mi_int, fX6_bill_b76, fX6_bill_b77, ite_bI, m_fails0, m_fails1] <;> rfl
theorem k_count (hI : IH B r) (v1 : Int) : Ask r (fL_count v1) (fX6_count v1) := by
  have hn := hI.1
  unfold IHn at hn
  by_cases q1 : 0 ≤ v1 ∧ v1 ≤ 9
  · rcases (by omega : v1 = 0 ∨ v1 = 1 ∨ v1 = 2 ∨ v1 = 3 ∨ v1 = 4 ∨ v1 = 5 ∨ v1 = 6 ∨ v1 = 7 ∨ v1 = 8 ∨ v1 = 9) with e | e | e | e | e | e | e | e | e | e
    · subst e
      refine ask_ok (r 4) (fun z hR => ⟨z, ?_, fun _ _ => rfl⟩) (fun z hM => ⟨zup z 151 0 0, ?_, FM_rf _⟩)
      · simp only [fL_count, fX5_count, n_row, n_btw, n_fnd, RCn hR, if_pos q1, Option.bind_some, if_true] <;> rfl
      · have hM1 := zup_154 (e := 0) hM
        simp only [fX6_count, zl, hM1, mi_wall hM1 hI, mi_route hM1 hI, mi_harness hM1 hI, mi_member hM1 hI, mi_course hM1 hI, mi_grade, m_in, m_failsb, if_pos q1, Option.bind_some, if_true] <;> rfl
    · subst e
      refine ask_ok (r 37) (fun z hR => ⟨z, ?_, fun _ _ => rfl⟩) (fun z hM => ⟨zup z 151 0 0, ?_, FM_rf _⟩)
      · simp only [fL_count, fX5_count, n_row, n_btw, n_fnd, RCn hR, if_pos q1, Option.bind_some, if_true] <;> rfl
      · have hM1 := zup_154 (e := 0) hM
        simp only [fX6_count, zl, hM1, mi_wall hM1 hI, mi_route hM1 hI, mi_harness hM1 hI, mi_member hM1 hI, mi_course hM1 hI, mi_grade, m_in, m_failsb, if_pos q1, Option.bind_some, if_true] <;> rfl
    · subst e
      refine ask_ok (r 470) (fun z hR => ⟨z, ?_, fun _ _ => rfl⟩) (fun z hM => ⟨zup z 151 0 0, ?_, FM_rf _⟩)
      · simp only [fL_count, fX5_count, n_row, n_btw, n_fnd, RCn hR, if_pos q1, Option.bind_some, if_true] <;> rfl
      · have hM1 := zup_154 (e := 0) hM
        simp only [fX6_count, zl, hM1, mi_wall hM1 hI, mi_route hM1 hI, mi_harness hM1 hI, mi_member hM1 hI, mi_course hM1 hI, mi_grade, m_in, m_failsb, if_pos q1, Option.bind_some, if_true] <;> rfl
    · subst e
      refine ask_ok (r 546) (fun z hR => ⟨z, ?_, fun _ _ => rfl⟩) (fun z hM => ⟨zup z 151 0 0, ?_, FM_rf _⟩)
      · simp only [fL_count, fX5_count, n_row, n_btw, n_fnd, RCn hR, if_pos q1, Option.bind_some, if_true] <;> rfl
      · have hM1 := zup_154 (e := 0) hM
        simp only [fX6_count, zl, hM1, mi_wall hM1 hI, mi_route hM1 hI, mi_harness hM1 hI, mi_member hM1 hI, mi_course hM1 hI, mi_grade, m_in, m_failsb, if_pos q1, Option.bind_some, if_true] <;> rfl
    · subst e
      refine ask_ok (r 619) (fun z hR => ⟨z, ?_, fun _ _ => rfl⟩) (fun z hM => ⟨zup z 151 0 0, ?_, FM_rf _⟩)
      · simp only [fL_count, fX5_count, n_row, n_btw, n_fnd, RCn hR, if_pos q1, Option.bind_some, if_true] <;> rfl
      · have hM1 := zup_154 (e := 0) hM
        simp only [fX6_count, zl, hM1, mi_wall hM1 hI, mi_route hM1 hI, mi_harness hM1 hI, mi_member hM1 hI, mi_course hM1 hI, mi_grade, m_in, m_failsb, if_pos q1, Option.bind_some, if_true] <;> rfl
    · subst e
      refine ask_ok (r 644) (fun z hR => ⟨z, ?_, fun _ _ => rfl⟩) (fun z hM => ⟨zup z 151 0 0, ?_, FM_rf _⟩)
      · simp only [fL_count, fX5_count, n_row, n_btw, n_fnd, RCn hR, if_pos q1, Option.bind_some, if_true] <;> rfl
      · have hM1 := zup_154 (e := 0) hM
        simp only [fX6_count, zl, hM1, mi_wall hM1 hI, mi_route hM1 hI, mi_harness hM1 hI, mi_member hM1 hI, mi_course hM1 hI, mi_grade, m_in, m_failsb, if_pos q1, Option.bind_some, if_true] <;> rfl
    · subst e
      refine ask_ok (r 3) (fun z hR => ⟨z, ?_, fun _ _ => rfl⟩) (fun z hM => ⟨zup z 151 0 0, ?_, FM_rf _⟩)
      · simp only [fL_count, fX5_count, n_row, n_btw, n_fnd, RCn hR, if_pos q1, Option.bind_some, if_true] <;> rfl
      · have hM1 := zup_154 (e := 0) hM
        simp only [fX6_count, zl, hM1, mi_wall hM1 hI, mi_route hM1 hI, mi_harness hM1 hI, mi_member hM1 hI, mi_course hM1 hI, mi_grade, m_in, m_failsb, if_pos q1, Option.bind_some, if_true] <;> rfl
    · subst e
      refine ask_ok (r 0) (fun z hR => ⟨z, ?_, fun _ _ => rfl⟩) (fun z hM => ⟨zup z 151 0 0, ?_, FM_rf _⟩)
      · simp only [fL_count, fX5_count, n_row, n_btw, n_fnd, RCn hR, if_pos q1, Option.bind_some, if_true] <;> rfl
      · have hM1 := zup_154 (e := 0) hM
        simp only [fX6_count, zl, hM1, mi_wall hM1 hI, mi_route hM1 hI, mi_harness hM1 hI, mi_member hM1 hI, mi_course hM1 hI, mi_grade, m_in, m_failsb, if_pos q1, Option.bind_some, if_true] <;> rfl
    · subst e
      refine ask_ok (r 1) (fun z hR => ⟨z, ?_, fun _ _ => rfl⟩) (fun z hM => ⟨zup z 151 0 0, ?_, FM_rf _⟩)
      · simp only [fL_count, fX5_count, n_row, n_btw, n_fnd, RCn hR, if_pos q1, Option.bind_some, if_true] <;> rfl
      · have hM1 := zup_154 (e := 0) hM
        simp only [fX6_count, zl, hM1, mi_wall hM1 hI, mi_route hM1 hI, mi_harness hM1 hI, mi_member hM1 hI, mi_course hM1 hI, mi_grade, m_in, m_failsb, if_pos q1, Option.bind_some, if_true] <;> rfl
    · subst e
      refine ask_ok (r 2) (fun z hR => ⟨z, ?_, fun _ _ => rfl⟩) (fun z hM => ⟨zup z 151 0 0, ?_, FM_rf _⟩)
      · simp only [fL_count, fX5_count, n_row, n_btw, n_fnd, RCn hR, if_pos q1, Option.bind_some, if_true] <;> rfl
      · have hM1 := zup_154 (e := 0) hM
        simp only [fX6_count, zl, hM1, mi_wall hM1 hI, mi_route hM1 hI, mi_harness hM1 hI, mi_member hM1 hI, mi_course hM1 hI, mi_grade, m_in, m_failsb, if_pos q1, Option.bind_some, if_true] <;> rfl
  · refine ask_er 1 (by decide) (fun z hR => ⟨z, ?_, fun _ _ => rfl⟩) (fun z hM => ⟨0, zup z 151 0 0, ?_, FM_rf _⟩)
    · simp only [fL_count, fX5_count, n_row, n_btw, n_fnd, RCn hR, if_neg q1, Option.bind_some, if_true] <;> rfl
    · have hM1 := zup_154 (e := 0) hM
      simp only [fX6_count, zl, hM1, mi_wall hM1 hI, mi_route hM1 hI, mi_harness hM1 hI, mi_member hM1 hI, mi_course hM1 hI, mi_grade, m_in, m_failsb, if_neg q1, Option.bind_some, if_true, if_neg (show ¬ v1 = 0 by omega), if_neg (show ¬ v1 = 1 by omega), if_neg (show ¬ v1 = 2 by omega), if_neg (show ¬ v1 = 3 by omega), if_neg (show ¬ v1 = 4 by omega), if_neg (show ¬ v1 = 5 by omega), if_neg (show ¬ v1 = 6 by omega), if_neg (show ¬ v1 = 7 by omega), if_neg (show ¬ v1 = 8 by omega), if_neg (show ¬ v1 = 9 by omega)] <;> rfl
theorem k_grade (hI : IH B r) (v1 : Int) : Ask r (fL_grade v1) (fX6_grade v1) := by
  have hn := hI.1
  unfold IHn at hn
  by_cases q1 : 0 ≤ v1 ∧ v1 < r 37
  · refine ask_ok (sGr r v1) (fun z hR => ?_) (fun z hM => ?_)
    · obtain ⟨z', e, f⟩ := c_gradeOf hR hI q1
      refine ⟨z', ?_, f⟩
      simp only [fL_grade, fX5_grade, n_row, n_btw, n_fnd, RCn hR, if_pos q1, Option.bind_some, if_true, e]
    · have hM1 := zup_154 (e := 0) hM
      obtain ⟨z', e, f⟩ := m_gradeOf hM1 hI q1
      refine ⟨z', ?_, f⟩
      simp only [fX6_grade, zl, hM1, mi_wall hM1 hI, mi_route hM1 hI, mi_harness hM1 hI, mi_member hM1 hI, mi_course hM1 hI, mi_grade, m_in, m_failsb, if_pos q1, Option.bind_some, if_true, e]
  · refine ask_er 1 (by decide) (fun z hR => ⟨z, ?_, fun _ _ => rfl⟩) (fun z hM => ⟨0, zup z 151 0 0, ?_, FM_rf _⟩)
    · simp only [fL_grade, fX5_grade, n_row, n_btw, n_fnd, RCn hR, if_neg q1, Option.bind_some, if_true] <;> rfl
    · have hM1 := zup_154 (e := 0) hM
      simp only [fX6_grade, zl, hM1, mi_wall hM1 hI, mi_route hM1 hI, mi_harness hM1 hI, mi_member hM1 hI, mi_course hM1 hI, mi_grade, m_in, m_failsb, if_neg q1, Option.bind_some, if_true] <;> rfl
theorem k_gradeWith (hI : IH B r) (v1 v2 v3 : Int) : Ask r (fL_gradeWith v1 v2 v3) (fX6_gradeWith v1 v2 v3) := by
  have hn := hI.1
  unfold IHn at hn
  by_cases q1 : 0 ≤ v1 ∧ v1 < r 37
  · by_cases q2 : 0 ≤ v2 ∧ v2 ≤ 29
    · by_cases q3 : 1 ≤ v3 ∧ v3 ≤ 20
      · refine ask_ok (sG r v1 v2 v3) (fun z hR => ?_) (fun z hM => ?_)
        · obtain ⟨z', e, f⟩ := c_gradeBy hR hI q1 (gr := v2) (mo := v3) (by omega) (by omega)
          refine ⟨z', ?_, f⟩
          simp only [fL_gradeWith, fX5_gradeWith, n_row, n_btw, n_fnd, RCn hR, if_pos q1, if_pos q2, if_pos q3, Option.bind_some, if_true, e]
        · have hM1 := zup_154 (e := 0) hM
          obtain ⟨z', e, f⟩ := m_gradeBy hM1 hI q1 (gr := v2) (mo := v3) (by omega) (by omega)
          refine ⟨z', ?_, f⟩
          simp only [fX6_gradeWith, zl, hM1, mi_wall hM1 hI, mi_route hM1 hI, mi_harness hM1 hI, mi_member hM1 hI, mi_course hM1 hI, mi_grade, m_in, m_failsb, if_pos q1, if_pos q2, if_pos q3, Option.bind_some, if_true, fX6_gradeWith_b42, fX6_gradeWith_b43, ite_bI, m_fails0, m_fails1, e]
      · refine ask_er 2 (by decide) (fun z hR => ⟨z, ?_, fun _ _ => rfl⟩) (fun z hM => ⟨0, zup z 151 0 0, ?_, FM_rf _⟩)
        · simp only [fL_gradeWith, fX5_gradeWith, n_row, n_btw, n_fnd, RCn hR, if_pos q1, if_pos q2, if_neg q3, Option.bind_some, if_true] <;> rfl
        · have hM1 := zup_154 (e := 0) hM
          simp only [fX6_gradeWith, zl, hM1, mi_wall hM1 hI, mi_route hM1 hI, mi_harness hM1 hI, mi_member hM1 hI, mi_course hM1 hI, mi_grade, m_in, m_failsb, if_pos q1, if_pos q2, if_neg q3, Option.bind_some, if_true, fX6_gradeWith_b42, fX6_gradeWith_b43, ite_bI, m_fails0, m_fails1] <;> rfl
    · refine ask_er 2 (by decide) (fun z hR => ⟨z, ?_, fun _ _ => rfl⟩) (fun z hM => ⟨0, zup z 151 0 0, ?_, FM_rf _⟩)
      · simp only [fL_gradeWith, fX5_gradeWith, n_row, n_btw, n_fnd, RCn hR, if_pos q1, if_neg q2, Option.bind_some, if_true] <;> rfl
      · have hM1 := zup_154 (e := 0) hM
        simp only [fX6_gradeWith, zl, hM1, mi_wall hM1 hI, mi_route hM1 hI, mi_harness hM1 hI, mi_member hM1 hI, mi_course hM1 hI, mi_grade, m_in, m_failsb, if_pos q1, if_neg q2, Option.bind_some, if_true, fX6_gradeWith_b42, fX6_gradeWith_b43, ite_bI, m_fails0, m_fails1] <;> rfl
  · refine ask_er 1 (by decide) (fun z hR => ⟨z, ?_, fun _ _ => rfl⟩) (fun z hM => ⟨0, zup z 151 0 0, ?_, FM_rf _⟩)
    · simp only [fL_gradeWith, fX5_gradeWith, n_row, n_btw, n_fnd, RCn hR, if_neg q1, Option.bind_some, if_true] <;> rfl
    · have hM1 := zup_154 (e := 0) hM
      simp only [fX6_gradeWith, zl, hM1, mi_wall hM1 hI, mi_route hM1 hI, mi_harness hM1 hI, mi_member hM1 hI, mi_course hM1 hI, mi_grade, m_in, m_failsb, if_neg q1, Option.bind_some, if_true, fX6_gradeWith_b42, fX6_gradeWith_b43, ite_bI, m_fails0, m_fails1] <;> rfl
theorem k_climbsLeft (hI : IH B r) (v1 : Int) : Ask r (fL_climbsLeft v1) (fX6_climbsLeft v1) := by
  have hn := hI.1
  unfold IHn at hn
  by_cases q1 : 0 ≤ v1 ∧ v1 < r 37
  · have hgr := sGr_ok hI q1
    have hrr := hI.2.2.1 v1 q1.1 q1.2
    have g1 : inR (1 + sGr r v1 / 10) := inR_s (by omega)
    have g2 : inR (r 2 - r (38 + 18 * v1 + 3)) := inR_s (by omega)
    have g3 : (0 : Int) ≤ sGr r v1 ∧ (0 : Int) < 10 := ⟨hgr.1, by decide⟩
    refine ask_ok (sLeft r v1) (fun z hR => ?_) (fun z hM => ?_)
    · obtain ⟨z', e, f⟩ := c_left hR hI q1
      refine ⟨z', ?_, f⟩
      simp only [fL_climbsLeft, fX5_climbsLeft, n_row, n_btw, n_fnd, RCn hR, if_pos q1, Option.bind_some, if_true, e]
    · have hM1 := zup_154 (e := 0) hM
      obtain ⟨z', e, f⟩ := m_gradeOf hM1 hI q1
      refine ⟨z', ?_, f⟩
      simp only [fX6_climbsLeft, zl, hM1, mi_wall hM1 hI, mi_route hM1 hI, mi_harness hM1 hI, mi_member hM1 hI, mi_course hM1 hI, mi_grade, m_in, m_failsb, if_pos q1, Option.bind_some, if_true, e, FM_154 f hM1, mg6 (FM_154 f hM1) (k := v1) (c := 3) (by omega), if_pos g1, if_pos g2, if_pos g3, m_left hI q1]
  · refine ask_er 1 (by decide) (fun z hR => ⟨z, ?_, fun _ _ => rfl⟩) (fun z hM => ⟨0, zup z 151 0 0, ?_, FM_rf _⟩)
    · simp only [fL_climbsLeft, fX5_climbsLeft, n_row, n_btw, n_fnd, RCn hR, if_neg q1, Option.bind_some, if_true] <;> rfl
    · have hM1 := zup_154 (e := 0) hM
      simp only [fX6_climbsLeft, zl, hM1, mi_wall hM1 hI, mi_route hM1 hI, mi_harness hM1 hI, mi_member hM1 hI, mi_course hM1 hI, mi_grade, m_in, m_failsb, if_neg q1, Option.bind_some, if_true] <;> rfl
theorem k_meanGrade (hI : IH B r) (v1 v2 : Int) : Ask r (fL_meanGrade v1 v2) (fX6_meanGrade v1 v2) := by
  have hn := hI.1
  unfold IHn at hn
  by_cases q1 : 0 ≤ v1 ∧ v1 < r 37
  · have hs := sS_ok hI q1 (gr := 0) (mo := 0) (by omega) (by omega)
    have hgc := sGcd_ok (a := sS r v1 0 0) hs.2.2.1
    refine ask_ok (sMean r v1 v2) (fun z hR => ?_) (fun z hM => ?_)
    · obtain ⟨z', e, f⟩ := c_mean (v := v2) hR hI q1
      refine ⟨z', ?_, f⟩
      simp only [fL_meanGrade, fX5_meanGrade, n_row, n_btw, n_fnd, RCn hR, if_pos q1, Option.bind_some, if_true, e]
    · have hM1 := zup_154 (e := 0) hM
      obtain ⟨z', e, f, e17, e18⟩ := m_layMean hM1 hI q1 (gr := 0) (mo := 0) (by omega) (by omega)
      refine ⟨z', ?_, f⟩
      simp only [fX6_meanGrade, zl, hM1, mi_wall hM1 hI, mi_route hM1 hI, mi_harness hM1 hI, mi_member hM1 hI, mi_course hM1 hI, mi_grade, m_in, m_failsb, if_pos q1, Option.bind_some, if_true, e, e17, e18, m_common (z := z') hs.1 (show 0 ≤ sK r v1 0 ∧ sK r v1 0 < 1000 by omega)]
      unfold sMean
      by_cases q : v2 = 0
      · rw [if_pos q, if_pos q, if_pos ⟨hs.1, by omega⟩]
      · rw [if_neg q, if_neg q, if_pos ⟨by omega, by omega⟩]
  · refine ask_er 1 (by decide) (fun z hR => ⟨z, ?_, fun _ _ => rfl⟩) (fun z hM => ⟨0, zup z 151 0 0, ?_, FM_rf _⟩)
    · simp only [fL_meanGrade, fX5_meanGrade, n_row, n_btw, n_fnd, RCn hR, if_neg q1, Option.bind_some, if_true] <;> rfl
    · have hM1 := zup_154 (e := 0) hM
      simp only [fX6_meanGrade, zl, hM1, mi_wall hM1 hI, mi_route hM1 hI, mi_harness hM1 hI, mi_member hM1 hI, mi_course hM1 hI, mi_grade, m_in, m_failsb, if_neg q1, Option.bind_some, if_true] <;> rfl
theorem k_hardest (hI : IH B r) (v1 : Int) : Ask r (fL_hardest v1) (fX6_hardest v1) := by
  have hn := hI.1
  unfold IHn at hn
  by_cases q1 : 0 ≤ v1 ∧ v1 < r 4
  · by_cases q3 : (sHard r v1).1 = -1
    · refine ask_er 2 (by decide) (fun z hR => ?_) (fun z hM => ?_)
      · obtain ⟨z', e, f⟩ := c_hard (w := v1) hR hI
        refine ⟨z', ?_, f⟩
        simp only [fL_hardest, fX5_hardest, n_row, n_btw, n_fnd, RCn hR, if_pos q1, Option.bind_some, if_true, e, if_pos q3] <;> rfl
      · have hM1 := zup_154 (e := 0) hM
        obtain ⟨z', e, f⟩ := m_hard (w := v1) hM1 hI
        refine ⟨0, z', ?_, f⟩
        simp only [fX6_hardest, zl, hM1, mi_wall hM1 hI, mi_route hM1 hI, mi_harness hM1 hI, mi_member hM1 hI, mi_course hM1 hI, mi_grade, m_in, m_failsb, if_pos q1, Option.bind_some, if_true, fX6_hardest_b91, m_fails0, m_fails1, e, if_pos q3] <;> rfl
    · refine ask_ok ((sHard r v1).1) (fun z hR => ?_) (fun z hM => ?_)
      · obtain ⟨z', e, f⟩ := c_hard (w := v1) hR hI
        refine ⟨z', ?_, f⟩
        simp only [fL_hardest, fX5_hardest, n_row, n_btw, n_fnd, RCn hR, if_pos q1, Option.bind_some, if_true, e, if_neg q3]
      · have hM1 := zup_154 (e := 0) hM
        obtain ⟨z', e, f⟩ := m_hard (w := v1) hM1 hI
        refine ⟨z', ?_, f⟩
        simp only [fX6_hardest, zl, hM1, mi_wall hM1 hI, mi_route hM1 hI, mi_harness hM1 hI, mi_member hM1 hI, mi_course hM1 hI, mi_grade, m_in, m_failsb, if_pos q1, Option.bind_some, if_true, fX6_hardest_b91, m_fails0, m_fails1, e, if_neg q3]
  · refine ask_er 1 (by decide) (fun z hR => ⟨z, ?_, fun _ _ => rfl⟩) (fun z hM => ⟨0, zup z 151 0 0, ?_, FM_rf _⟩)
    · simp only [fL_hardest, fX5_hardest, n_row, n_btw, n_fnd, RCn hR, if_neg q1, Option.bind_some, if_true] <;> rfl
    · have hM1 := zup_154 (e := 0) hM
      simp only [fX6_hardest, zl, hM1, mi_wall hM1 hI, mi_route hM1 hI, mi_harness hM1 hI, mi_member hM1 hI, mi_course hM1 hI, mi_grade, m_in, m_failsb, if_neg q1, Option.bind_some, if_true, fX6_hardest_b91, m_fails0, m_fails1] <;> rfl
end QV

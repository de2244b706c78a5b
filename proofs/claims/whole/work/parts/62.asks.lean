/-! the asking methods -/
section QU
variable {r : Row} {B : Int}
theorem k_wall (hI : IH B r) (v1 v2 : Int) : Ask r (fL_wall v1 v2) (fX6_wall v1 v2) := by
  have hn := hI.1
  unfold IHn at hn
  by_cases q1 : 0 ≤ v1 ∧ v1 < r 4
  · by_cases q2 : 0 ≤ v2 ∧ v2 ≤ 5
    · rcases (by omega : v2 = 4 ∨ v2 = 5 ∨ v2 < 4) with e | e | e
      · subst e
        refine ask_ok (sCnt (r 37) (fun k => r (38 + 18 * k + 0) = v1)) (fun z hR => ⟨z, ?_, fun _ _ => rfl⟩) (fun z hM => ⟨zup z 151 0 0, ?_, FM_rf _⟩)
        · simp only [fL_wall, fX5_wall, n_row, n_btw, n_fnd, RCn hR, if_pos q1, if_pos q2, Option.bind_some, if_true, c_routesOn hR hI] <;> rfl
        · have hM1 := zup_154 (e := 0) hM
          simp only [fX6_wall, zl, hM1, mi_wall hM1 hI, mi_route hM1 hI, mi_harness hM1 hI, mi_member hM1 hI, mi_course hM1 hI, mi_grade, m_in, m_failsb, if_pos q1, if_pos q2, Option.bind_some, if_true, m_onWall hM1 hI] <;> rfl
      · subst e
        refine ask_ok (bI (sClosed r v1)) (fun z hR => ⟨z, ?_, fun _ _ => rfl⟩) (fun z hM => ⟨zup z 151 0 0, ?_, FM_rf _⟩)
        · simp only [fL_wall, fX5_wall, n_row, n_btw, n_fnd, RCn hR, if_pos q1, if_pos q2, Option.bind_some, if_true, c_isClosed hR hI q1, ite_bI]
          by_cases q : sClosed r v1
          · rw [if_pos q, bI_t q]
            rfl
          · rw [if_neg q, bI_f q]
            rfl
        · have hM1 := zup_154 (e := 0) hM
          simp only [fX6_wall, zl, hM1, mi_wall hM1 hI, mi_route hM1 hI, mi_harness hM1 hI, mi_member hM1 hI, mi_course hM1 hI, mi_grade, m_in, m_failsb, if_pos q1, if_pos q2, Option.bind_some, if_true, m_isClosed hM1 hI q1, ite_bI]
          by_cases q : sClosed r v1
          · rw [if_pos q, bI_t q]
            rfl
          · rw [if_neg q, bI_f q]
            rfl
      · refine ask_ok (r (5 + 4 * v1 + v2)) (fun z hR => ⟨z, ?_, fun _ _ => rfl⟩) (fun z hM => ⟨zup z 151 0 0, ?_, FM_rf _⟩)
        · simp only [fL_wall, fX5_wall, n_row, n_btw, n_fnd, RCn hR, if_pos q1, if_pos q2, Option.bind_some, if_true, cg4 hR hI q1 (c := v2) (by omega), if_neg (show ¬ v2 = 4 by omega), if_neg (show ¬ v2 = 5 by omega)]
        · have hM1 := zup_154 (e := 0) hM
          simp only [fX6_wall, zl, hM1, mi_wall hM1 hI, mi_route hM1 hI, mi_harness hM1 hI, mi_member hM1 hI, mi_course hM1 hI, mi_grade, m_in, m_failsb, if_pos q1, if_pos q2, Option.bind_some, if_true, mg4 hM1 (k := v1) (c := v2) (by omega), if_neg (show ¬ 3 < v2 by omega)]
    · refine ask_er 2 (by decide) (fun z hR => ⟨z, ?_, fun _ _ => rfl⟩) (fun z hM => ⟨0, zup z 151 0 0, ?_, FM_rf _⟩)
      · simp only [fL_wall, fX5_wall, n_row, n_btw, n_fnd, RCn hR, if_pos q1, if_neg q2, Option.bind_some, if_true] <;> rfl
      · have hM1 := zup_154 (e := 0) hM
        simp only [fX6_wall, zl, hM1, mi_wall hM1 hI, mi_route hM1 hI, mi_harness hM1 hI, mi_member hM1 hI, mi_course hM1 hI, mi_grade, m_in, m_failsb, if_pos q1, if_neg q2, Option.bind_some, if_true] <;> rfl
  · refine ask_er 1 (by decide) (fun z hR => ⟨z, ?_, fun _ _ => rfl⟩) (fun z hM => ⟨0, zup z 151 0 0, ?_, FM_rf _⟩)
    · simp only [fL_wall, fX5_wall, n_row, n_btw, n_fnd, RCn hR, if_neg q1, Option.bind_some, if_true] <;> rfl
    · have hM1 := zup_154 (e := 0) hM
      simp only [fX6_wall, zl, hM1, mi_wall hM1 hI, mi_route hM1 hI, mi_harness hM1 hI, mi_member hM1 hI, mi_course hM1 hI, mi_grade, m_in, m_failsb, if_neg q1, Option.bind_some, if_true] <;> rfl
theorem k_route (hI : IH B r) (v1 v2 : Int) : Ask r (fL_route v1 v2) (fX6_route v1 v2) := by
  have hn := hI.1
  unfold IHn at hn
  by_cases q1 : 0 ≤ v1 ∧ v1 < r 37
  · by_cases q2 : 0 ≤ v2 ∧ v2 ≤ 6
    · rcases (by omega : v2 = 5 ∨ v2 = 6 ∨ v2 < 5) with e | e | e
      · subst e
        refine ask_ok (sVotes r v1) (fun z hR => ⟨z, ?_, fun _ _ => rfl⟩) (fun z hM => ⟨zup z 151 0 0, ?_, FM_rf _⟩)
        · simp only [fL_route, fX5_route, n_row, n_btw, n_fnd, RCn hR, if_pos q1, if_pos q2, Option.bind_some, if_true, c_votesFor hR hI q1] <;> rfl
        · have hM1 := zup_154 (e := 0) hM
          simp only [fX6_route, zl, hM1, mi_wall hM1 hI, mi_route hM1 hI, mi_harness hM1 hI, mi_member hM1 hI, mi_course hM1 hI, mi_grade, m_in, m_failsb, if_pos q1, if_pos q2, Option.bind_some, if_true, m_votesOf hM1 hI q1] <;> rfl
      · subst e
        refine ask_ok (bI (sWorn r v1)) (fun z hR => ⟨z, ?_, fun _ _ => rfl⟩) (fun z hM => ⟨zup z 151 0 0, ?_, FM_rf _⟩)
        · simp only [fL_route, fX5_route, n_row, n_btw, n_fnd, RCn hR, if_pos q1, if_pos q2, Option.bind_some, if_true, c_isWorn hR hI q1, ite_bI]
          by_cases q : sWorn r v1
          · rw [if_pos q, bI_t q]
            rfl
          · rw [if_neg q, bI_f q]
            rfl
        · have hM1 := zup_154 (e := 0) hM
          simp only [fX6_route, zl, hM1, mi_wall hM1 hI, mi_route hM1 hI, mi_harness hM1 hI, mi_member hM1 hI, mi_course hM1 hI, mi_grade, m_in, m_failsb, if_pos q1, if_pos q2, Option.bind_some, if_true, m_isWorn hM1 hI q1, ite_bI]
          by_cases q : sWorn r v1
          · rw [if_pos q, bI_t q]
            rfl
          · rw [if_neg q, bI_f q]
            rfl
      · refine ask_ok (r (38 + 18 * v1 + v2)) (fun z hR => ⟨z, ?_, fun _ _ => rfl⟩) (fun z hM => ⟨zup z 151 0 0, ?_, FM_rf _⟩)
        · simp only [fL_route, fX5_route, n_row, n_btw, n_fnd, RCn hR, if_pos q1, if_pos q2, Option.bind_some, if_true, cg6 hR hI q1 (c := v2) (by omega), if_neg (show ¬ v2 = 5 by omega), if_neg (show ¬ v2 = 6 by omega)]
        · have hM1 := zup_154 (e := 0) hM
          simp only [fX6_route, zl, hM1, mi_wall hM1 hI, mi_route hM1 hI, mi_harness hM1 hI, mi_member hM1 hI, mi_course hM1 hI, mi_grade, m_in, m_failsb, if_pos q1, if_pos q2, Option.bind_some, if_true, mg6 hM1 (k := v1) (c := v2) (by omega), if_neg (show ¬ 4 < v2 by omega)]
    · refine ask_er 2 (by decide) (fun z hR => ⟨z, ?_, fun _ _ => rfl⟩) (fun z hM => ⟨0, zup z 151 0 0, ?_, FM_rf _⟩)
      · simp only [fL_route, fX5_route, n_row, n_btw, n_fnd, RCn hR, if_pos q1, if_neg q2, Option.bind_some, if_true] <;> rfl
      · have hM1 := zup_154 (e := 0) hM
        simp only [fX6_route, zl, hM1, mi_wall hM1 hI, mi_route hM1 hI, mi_harness hM1 hI, mi_member hM1 hI, mi_course hM1 hI, mi_grade, m_in, m_failsb, if_pos q1, if_neg q2, Option.bind_some, if_true] <;> rfl
  · refine ask_er 1 (by decide) (fun z hR => ⟨z, ?_, fun _ _ => rfl⟩) (fun z hM => ⟨0, zup z 151 0 0, ?_, FM_rf _⟩)
    · simp only [fL_route, fX5_route, n_row, n_btw, n_fnd, RCn hR, if_neg q1, Option.bind_some, if_true] <;> rfl
    · have hM1 := zup_154 (e := 0) hM
      simp only [fX6_route, zl, hM1, mi_wall hM1 hI, mi_route hM1 hI, mi_harness hM1 hI, mi_member hM1 hI, mi_course hM1 hI, mi_grade, m_in, m_failsb, if_neg q1, Option.bind_some, if_true] <;> rfl
theorem k_member (hI : IH B r) (v1 v2 : Int) : Ask r (fL_member v1 v2) (fX6_member v1 v2) := by
  have hn := hI.1
  unfold IHn at hn
  by_cases q1 : 0 ≤ v1 ∧ v1 < r 546
  · by_cases q2 : 0 ≤ v2 ∧ v2 ≤ 5
    · refine ask_ok (r (547 + 6 * v1 + v2)) (fun z hR => ⟨z, ?_, fun _ _ => rfl⟩) (fun z hM => ⟨zup z 151 0 0, ?_, FM_rf _⟩)
      · simp only [fL_member, fX5_member, n_row, n_btw, n_fnd, RCn hR, if_pos q1, if_pos q2, Option.bind_some, if_true, cg12 hR hI q1 (c := v2) (by omega)]
      · have hM1 := zup_154 (e := 0) hM
        simp only [fX6_member, zl, hM1, mi_wall hM1 hI, mi_route hM1 hI, mi_harness hM1 hI, mi_member hM1 hI, mi_course hM1 hI, mi_grade, m_in, m_failsb, if_pos q1, if_pos q2, Option.bind_some, if_true, mg12 hM1 (k := v1) (c := v2) (by omega)]
    · refine ask_er 2 (by decide) (fun z hR => ⟨z, ?_, fun _ _ => rfl⟩) (fun z hM => ⟨0, zup z 151 0 0, ?_, FM_rf _⟩)
      · simp only [fL_member, fX5_member, n_row, n_btw, n_fnd, RCn hR, if_pos q1, if_neg q2, Option.bind_some, if_true] <;> rfl
      · have hM1 := zup_154 (e := 0) hM
        simp only [fX6_member, zl, hM1, mi_wall hM1 hI, mi_route hM1 hI, mi_harness hM1 hI, mi_member hM1 hI, mi_course hM1 hI, mi_grade, m_in, m_failsb, if_pos q1, if_neg q2, Option.bind_some, if_true] <;> rfl
  · refine ask_er 1 (by decide) (fun z hR => ⟨z, ?_, fun _ _ => rfl⟩) (fun z hM => ⟨0, zup z 151 0 0, ?_, FM_rf _⟩)
    · simp only [fL_member, fX5_member, n_row, n_btw, n_fnd, RCn hR, if_neg q1, Option.bind_some, if_true] <;> rfl
    · have hM1 := zup_154 (e := 0) hM
      simp only [fX6_member, zl, hM1, mi_wall hM1 hI, mi_route hM1 hI, mi_harness hM1 hI, mi_member hM1 hI, mi_course hM1 hI, mi_grade, m_in, m_failsb, if_neg q1, Option.bind_some, if_true] <;> rfl
theorem k_harness (hI : IH B r) (v1 v2 : Int) : Ask r (fL_harness v1 v2) (fX6_harness v1 v2) := by
  have hn := hI.1
  unfold IHn at hn
  by_cases q1 : 0 ≤ v1 ∧ v1 < r 470
  · by_cases q2 : 0 ≤ v2 ∧ v2 ≤ 5
    · rcases (by omega : v2 = 3 ∨ v2 = 4 ∨ v2 = 5 ∨ v2 < 3) with e | e | e | e
      · subst e
        refine ask_ok (sLapse r v1) (fun z hR => ⟨z, ?_, fun _ _ => rfl⟩) (fun z hM => ⟨zup z 151 0 0, ?_, FM_rf _⟩)
        · simp only [fL_harness, fX5_harness, n_row, n_btw, n_fnd, RCn hR, if_pos q1, if_pos q2, Option.bind_some, if_true, c_lapseOf hR hI q1] <;> rfl
        · have hM1 := zup_154 (e := 0) hM
          simp only [fX6_harness, zl, hM1, mi_wall hM1 hI, mi_route hM1 hI, mi_harness hM1 hI, mi_member hM1 hI, mi_course hM1 hI, mi_grade, m_in, m_failsb, if_pos q1, if_pos q2, Option.bind_some, if_true, m_lapse hM1 hI q1] <;> rfl
      · subst e
        refine ask_ok (if sRet r v1 then 2 else if sLent r v1 then 1 else 0) (fun z hR => ⟨z, ?_, fun _ _ => rfl⟩) (fun z hM => ⟨zup z 151 0 0, ?_, FM_rf _⟩)
        · simp only [fL_harness, fX5_harness, n_row, n_btw, n_fnd, RCn hR, if_pos q1, if_pos q2, Option.bind_some, if_true, c_stateOf hR hI q1] <;> rfl
        · have hM1 := zup_154 (e := 0) hM
          simp only [fX6_harness, zl, hM1, mi_wall hM1 hI, mi_route hM1 hI, mi_harness hM1 hI, mi_member hM1 hI, mi_course hM1 hI, mi_grade, m_in, m_failsb, if_pos q1, if_pos q2, Option.bind_some, if_true, m_isRetired hM1 hI q1, m_isLent hM1 hI q1, ite_bI]
          by_cases q : sRet r v1
          · rw [if_pos q, if_pos q]
            rfl
          · rw [if_neg q, if_neg q]
            by_cases p : sLent r v1
            · rw [if_pos p, if_pos p]
              rfl
            · rw [if_neg p, if_neg p]
              rfl
      · subst e
        refine ask_ok (bI (sForce r v1 (r 3))) (fun z hR => ⟨z, ?_, fun _ _ => rfl⟩) (fun z hM => ⟨zup z 151 0 0, ?_, FM_rf _⟩)
        · simp only [fL_harness, fX5_harness, n_row, n_btw, n_fnd, RCn hR, if_pos q1, if_pos q2, Option.bind_some, if_true, c_isInForce hR hI q1, ite_bI]
          by_cases q : sForce r v1 (r 3)
          · rw [if_pos q, bI_t q]
            rfl
          · rw [if_neg q, bI_f q]
            rfl
        · have hM1 := zup_154 (e := 0) hM
          simp only [fX6_harness, zl, hM1, mi_wall hM1 hI, mi_route hM1 hI, mi_harness hM1 hI, mi_member hM1 hI, mi_course hM1 hI, mi_grade, m_in, m_failsb, if_pos q1, if_pos q2, Option.bind_some, if_true, m_isInForce hM1 hI q1, ite_bI]
          by_cases q : sForce r v1 (r 3)
          · rw [if_pos q, bI_t q]
            rfl
          · rw [if_neg q, bI_f q]
            rfl
      · refine ask_ok (r (471 + 5 * v1 + v2)) (fun z hR => ⟨z, ?_, fun _ _ => rfl⟩) (fun z hM => ⟨zup z 151 0 0, ?_, FM_rf _⟩)
        · simp only [fL_harness, fX5_harness, n_row, n_btw, n_fnd, RCn hR, if_pos q1, if_pos q2, Option.bind_some, if_true, cg10 hR hI q1 (c := v2) (by omega), if_neg (show ¬ v2 = 3 by omega), if_neg (show ¬ v2 = 4 by omega), if_neg (show ¬ v2 = 5 by omega)]
        · have hM1 := zup_154 (e := 0) hM
          simp only [fX6_harness, zl, hM1, mi_wall hM1 hI, mi_route hM1 hI, mi_harness hM1 hI, mi_member hM1 hI, mi_course hM1 hI, mi_grade, m_in, m_failsb, if_pos q1, if_pos q2, Option.bind_some, if_true, mg10 hM1 (k := v1) (c := v2) (by omega), if_neg (show ¬ v2 = 3 by omega), if_neg (show ¬ v2 = 4 by omega), if_neg (show ¬ v2 = 5 by omega)]
    · refine ask_er 2 (by decide) (fun z hR => ⟨z, ?_, fun _ _ => rfl⟩) (fun z hM => ⟨0, zup z 151 0 0, ?_, FM_rf _⟩)
      · simp only [fL_harness, fX5_harness, n_row, n_btw, n_fnd, RCn hR, if_pos q1, if_neg q2, Option.bind_some, if_true] <;> rfl
      · have hM1 := zup_154 (e := 0) hM
        simp only [fX6_harness, zl, hM1, mi_wall hM1 hI, mi_route hM1 hI, mi_harness hM1 hI, mi_member hM1 hI, mi_course hM1 hI, mi_grade, m_in, m_failsb, if_pos q1, if_neg q2, Option.bind_some, if_true] <;> rfl
  · refine ask_er 1 (by decide) (fun z hR => ⟨z, ?_, fun _ _ => rfl⟩) (fun z hM => ⟨0, zup z 151 0 0, ?_, FM_rf _⟩)
    · simp only [fL_harness, fX5_harness, n_row, n_btw, n_fnd, RCn hR, if_neg q1, Option.bind_some, if_true] <;> rfl
    · have hM1 := zup_154 (e := 0) hM
      simp only [fX6_harness, zl, hM1, mi_wall hM1 hI, mi_route hM1 hI, mi_harness hM1 hI, mi_member hM1 hI, mi_course hM1 hI, mi_grade, m_in, m_failsb, if_neg q1, Option.bind_some, if_true] <;> rfl
theorem k_course (hI : IH B r) (v1 v2 : Int) : Ask r (fL_course v1 v2) (fX6_course v1 v2) := by
  have hn := hI.1
  unfold IHn at hn
  by_cases q1 : 0 ≤ v1 ∧ v1 < r 619
  · by_cases q2 : 0 ≤ v2 ∧ v2 ≤ 3
    · rcases (by omega : v2 = 3 ∨ v2 < 3) with e | e
      · subst e
        refine ask_ok (sIn r v1) (fun z hR => ⟨z, ?_, fun _ _ => rfl⟩) (fun z hM => ⟨zup z 151 0 0, ?_, FM_rf _⟩)
        · simp only [fL_course, fX5_course, n_row, n_btw, n_fnd, RCn hR, if_pos q1, if_pos q2, Option.bind_some, if_true, c_membersIn hR hI]
        · have hM1 := zup_154 (e := 0) hM
          simp only [fX6_course, zl, hM1, mi_wall hM1 hI, mi_route hM1 hI, mi_harness hM1 hI, mi_member hM1 hI, mi_course hM1 hI, mi_grade, m_in, m_failsb, if_pos q1, if_pos q2, Option.bind_some, if_true, m_inCourse hM1 hI]
      · refine ask_ok (r (620 + 3 * v1 + v2)) (fun z hR => ⟨z, ?_, fun _ _ => rfl⟩) (fun z hM => ⟨zup z 151 0 0, ?_, FM_rf _⟩)
        · simp only [fL_course, fX5_course, n_row, n_btw, n_fnd, RCn hR, if_pos q1, if_pos q2, Option.bind_some, if_true, cg14 hR hI q1 (c := v2) (by omega), if_neg (show ¬ v2 = 3 by omega)]
        · have hM1 := zup_154 (e := 0) hM
          simp only [fX6_course, zl, hM1, mi_wall hM1 hI, mi_route hM1 hI, mi_harness hM1 hI, mi_member hM1 hI, mi_course hM1 hI, mi_grade, m_in, m_failsb, if_pos q1, if_pos q2, Option.bind_some, if_true, mg14 hM1 (k := v1) (c := v2) (by omega), if_neg (show ¬ v2 = 3 by omega)]
    · refine ask_er 2 (by decide) (fun z hR => ⟨z, ?_, fun _ _ => rfl⟩) (fun z hM => ⟨0, zup z 151 0 0, ?_, FM_rf _⟩)
      · simp only [fL_course, fX5_course, n_row, n_btw, n_fnd, RCn hR, if_pos q1, if_neg q2, Option.bind_some, if_true] <;> rfl
      · have hM1 := zup_154 (e := 0) hM
        simp only [fX6_course, zl, hM1, mi_wall hM1 hI, mi_route hM1 hI, mi_harness hM1 hI, mi_member hM1 hI, mi_course hM1 hI, mi_grade, m_in, m_failsb, if_pos q1, if_neg q2, Option.bind_some, if_true] <;> rfl
  · refine ask_er 1 (by decide) (fun z hR => ⟨z, ?_, fun _ _ => rfl⟩) (fun z hM => ⟨0, zup z 151 0 0, ?_, FM_rf _⟩)
    · simp only [fL_course, fX5_course, n_row, n_btw, n_fnd, RCn hR, if_neg q1, Option.bind_some, if_true] <;> rfl
    · have hM1 := zup_154 (e := 0) hM
      simp only [fX6_course, zl, hM1, mi_wall hM1 hI, mi_route hM1 hI, mi_harness hM1 hI, mi_member hM1 hI, mi_course hM1 hI, mi_grade, m_in, m_failsb, if_neg q1, Option.bind_some, if_true] <;> rfl
theorem k_allowedRoutes (hI : IH B r) (v1 : Int) : Ask r (fL_allowedRoutes v1) (fX6_allowedRoutes v1) := by
  have hn := hI.1
  unfold IHn at hn
  by_cases q1 : 0 ≤ v1 ∧ v1 < r 546
  · refine ask_ok (sSet (r 37) (fun k => sMay r v1 k)) (fun z hR => ⟨z, ?_, fun _ _ => rfl⟩) (fun z hM => ⟨zup z 151 0 0, ?_, FM_rf _⟩)
    · simp only [fL_allowedRoutes, fX5_allowedRoutes, n_row, n_btw, n_fnd, RCn hR, if_pos q1, Option.bind_some, if_true, c_routesFor hR hI q1]
    · have hM1 := zup_154 (e := 0) hM
      simp only [fX6_allowedRoutes, zl, hM1, mi_wall hM1 hI, mi_route hM1 hI, mi_harness hM1 hI, mi_member hM1 hI, mi_course hM1 hI, mi_grade, m_in, m_failsb, if_pos q1, Option.bind_some, if_true, m_routesFor hM1 hI q1]
  · refine ask_er 1 (by decide) (fun z hR => ⟨z, ?_, fun _ _ => rfl⟩) (fun z hM => ⟨0, zup z 151 0 0, ?_, FM_rf _⟩)
    · simp only [fL_allowedRoutes, fX5_allowedRoutes, n_row, n_btw, n_fnd, RCn hR, if_neg q1, Option.bind_some, if_true] <;> rfl
    · have hM1 := zup_154 (e := 0) hM
      simp only [fX6_allowedRoutes, zl, hM1, mi_wall hM1 hI, mi_route hM1 hI, mi_harness hM1 hI, mi_member hM1 hI, mi_course hM1 hI, mi_grade, m_in, m_failsb, if_neg q1, Option.bind_some, if_true] <;> rfl
theorem k_openWalls (hI : IH B r) (v1 : Int) : Ask r (fL_openWalls v1) (fX6_openWalls v1) := by
  have hn := hI.1
  unfold IHn at hn
  by_cases q1 : r 3 ≤ v1 ∧ v1 ≤ 9999
  · refine ask_ok (sSet (r 4) (fun w => ¬ sClosedOn r w v1)) (fun z hR => ⟨z, ?_, fun _ _ => rfl⟩) (fun z hM => ⟨zup z 151 0 0, ?_, FM_rf _⟩)
    · simp only [fL_openWalls, fX5_openWalls, n_row, n_btw, n_fnd, RCn hR, if_pos q1, Option.bind_some, if_true, c_openOn hR hI (d := v1) (by omega)]
    · have hM1 := zup_154 (e := 0) hM
      simp only [fX6_openWalls, zl, hM1, mi_wall hM1 hI, mi_route hM1 hI, mi_harness hM1 hI, mi_member hM1 hI, mi_course hM1 hI, mi_grade, m_in, m_failsb, if_pos q1, Option.bind_some, if_true, m_openOn hM1 hI (d := v1) (by omega)]
  · refine ask_er 1 (by decide) (fun z hR => ⟨z, ?_, fun _ _ => rfl⟩) (fun z hM => ⟨0, zup z 151 0 0, ?_, FM_rf _⟩)
    · simp only [fL_openWalls, fX5_openWalls, n_row, n_btw, n_fnd, RCn hR, if_neg q1, Option.bind_some, if_true] <;> rfl
    · have hM1 := zup_154 (e := 0) hM
      simp only [fX6_openWalls, zl, hM1, mi_wall hM1 hI, mi_route hM1 hI, mi_harness hM1 hI, mi_member hM1 hI, mi_course hM1 hI, mi_grade, m_in, m_failsb, if_neg q1, Option.bind_some, if_true] <;> rfl
theorem k_worstDay (hI : IH B r) (v1 : Int) : Ask r (fL_worstDay v1) (fX6_worstDay v1) := by
  have hn := hI.1
  unfold IHn at hn
  by_cases q1 : 1 ≤ v1 ∧ v1 ≤ 365
  · refine ask_ok (sWorst r v1) (fun z hR => ⟨z, ?_, fun _ _ => rfl⟩) (fun z hM => ⟨zup z 151 0 0, ?_, FM_rf _⟩)
    · simp only [fL_worstDay, fX5_worstDay, n_row, n_btw, n_fnd, RCn hR, if_pos q1, Option.bind_some, if_true, c_worst hR hI q1]
    · have hM1 := zup_154 (e := 0) hM
      simp only [fX6_worstDay, zl, hM1, mi_wall hM1 hI, mi_route hM1 hI, mi_harness hM1 hI, mi_member hM1 hI, mi_course hM1 hI, mi_grade, m_in, m_failsb, if_pos q1, Option.bind_some, if_true, m_worst hM1 hI q1, if_pos (inR_s (show -1000000000 ≤ r 3 + 1 ∧ r 3 + 1 ≤ 1000000000 by omega))]
  · refine ask_er 1 (by decide) (fun z hR => ⟨z, ?_, fun _ _ => rfl⟩) (fun z hM => ⟨0, zup z 151 0 0, ?_, FM_rf _⟩)
    · simp only [fL_worstDay, fX5_worstDay, n_row, n_btw, n_fnd, RCn hR, if_neg q1, Option.bind_some, if_true] <;> rfl
    · have hM1 := zup_154 (e := 0) hM
      simp only [fX6_worstDay, zl, hM1, mi_wall hM1 hI, mi_route hM1 hI, mi_harness hM1 hI, mi_member hM1 hI, mi_course hM1 hI, mi_grade, m_in, m_failsb, if_neg q1, Option.bind_some, if_true] <;> rfl
theorem k_lendable (hI : IH B r) (v1 : Int) : Ask r (fL_lendable v1) (fX6_lendable v1) := by
  have hn := hI.1
  unfold IHn at hn
  by_cases q1 : 0 ≤ v1 ∧ v1 ≤ 3
  · refine ask_ok (sSet (r 470) (fun k => r (471 + 5 * k + 0) = v1 ∧ sLendable r k)) (fun z hR => ⟨z, ?_, fun _ _ => rfl⟩) (fun z hM => ⟨zup z 151 0 0, ?_, FM_rf _⟩)
    · simp only [fL_lendable, fX5_lendable, n_row, n_btw, n_fnd, RCn hR, if_pos q1, Option.bind_some, if_true, c_lendableOf hR hI]
    · have hM1 := zup_154 (e := 0) hM
      simp only [fX6_lendable, zl, hM1, mi_wall hM1 hI, mi_route hM1 hI, mi_harness hM1 hI, mi_member hM1 hI, mi_course hM1 hI, mi_grade, m_in, m_failsb, if_pos q1, Option.bind_some, if_true, m_lendable hM1 hI]
  · refine ask_er 1 (by decide) (fun z hR => ⟨z, ?_, fun _ _ => rfl⟩) (fun z hM => ⟨0, zup z 151 0 0, ?_, FM_rf _⟩)
    · simp only [fL_lendable, fX5_lendable, n_row, n_btw, n_fnd, RCn hR, if_neg q1, Option.bind_some, if_true] <;> rfl
    · have hM1 := zup_154 (e := 0) hM
      simp only [fX6_lendable, zl, hM1, mi_wall hM1 hI, mi_route hM1 hI, mi_harness hM1 hI, mi_member hM1 hI, mi_course hM1 hI, mi_grade, m_in, m_failsb, if_neg q1, Option.bind_some, if_true] <;> rfl
theorem k_lapsing (hI : IH B r) (v1 : Int) : Ask r (fL_lapsing v1) (fX6_lapsing v1) := by
  have hn := hI.1
  unfold IHn at hn
  by_cases q1 : 0 ≤ v1 ∧ v1 ≤ 365
  · refine ask_ok (sSet (r 470) (fun k => ¬ sRet r k ∧ ¬ sForce r k (r 3 + v1))) (fun z hR => ⟨z, ?_, fun _ _ => rfl⟩) (fun z hM => ⟨zup z 151 0 0, ?_, FM_rf _⟩)
    · simp only [fL_lapsing, fX5_lapsing, n_row, n_btw, n_fnd, RCn hR, if_pos q1, Option.bind_some, if_true, c_lapsedOn hR hI, if_pos (inR_s (show -1000000000 ≤ r 3 + v1 ∧ r 3 + v1 ≤ 1000000000 by omega))]
    · have hM1 := zup_154 (e := 0) hM
      simp only [fX6_lapsing, zl, hM1, mi_wall hM1 hI, mi_route hM1 hI, mi_harness hM1 hI, mi_member hM1 hI, mi_course hM1 hI, mi_grade, m_in, m_failsb, if_pos q1, Option.bind_some, if_true, m_lapsing hM1 hI q1]
  · refine ask_er 1 (by decide) (fun z hR => ⟨z, ?_, fun _ _ => rfl⟩) (fun z hM => ⟨0, zup z 151 0 0, ?_, FM_rf _⟩)
    · simp only [fL_lapsing, fX5_lapsing, n_row, n_btw, n_fnd, RCn hR, if_neg q1, Option.bind_some, if_true] <;> rfl
    · have hM1 := zup_154 (e := 0) hM
      simp only [fX6_lapsing, zl, hM1, mi_wall hM1 hI, mi_route hM1 hI, mi_harness hM1 hI, mi_member hM1 hI, mi_course hM1 hI, mi_grade, m_in, m_failsb, if_neg q1, Option.bind_some, if_true] <;> rfl
end QU

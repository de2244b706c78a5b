/-! the simple changing methods: a change, or an error on both sides -/
section KC
variable {r : Row} {B : Int}
theorem k_leaveCourse (hI : IH B r) (hB : B ≤ 900000) (v1 : Int) : (∃ r' v, Chg r r' v (fL_leaveCourse v1) (fX6_leaveCourse v1) ∧ IH (B + 60) r') ∨ Ask r (fL_leaveCourse v1) (fX6_leaveCourse v1) := by
  have hn := hI.1
  unfold IHn at hn
  by_cases q1 : 0 ≤ v1 ∧ v1 < r 546
  · by_cases q3 : r (547 + 6 * v1 + 4) = -1
    · refine Or.inr ?_
      refine ask_er 2 (by decide) (fun z hR => ⟨z, ?_, fun _ _ => rfl⟩) (fun z hM => ⟨0, zup z 151 0 0, ?_, FM_rf _⟩)
      · simp only [fL_leaveCourse, fX5_leaveCourse, n_row, n_btw, n_fnd, RCn hR, if_pos q1, Option.bind_some, if_true, cg12 hR hI q1 (c := 4) (by omega), if_pos q3] <;> rfl
      · have hM1 := zup_154 (e := 0) hM
        simp only [fX6_leaveCourse, zl, hM1, mi_wall hM1 hI, mi_route hM1 hI, mi_harness hM1 hI, mi_member hM1 hI, mi_course hM1 hI, mi_grade, m_in, m_failsb, if_pos q1, Option.bind_some, if_true, fX6_leaveCourse_b34, m_fails0, m_fails1, ite_bI, mg12 hM1 (k := v1) (c := 4) (by omega), if_pos q3] <;> rfl
    · exact Or.inl ⟨_, _, g_leave hI q1 q3, IH_mono (IH_up12 hI q1 (by omega) (by omega) ⟨fun e => by omega, fun e => by omega, fun _ => by omega, fun e => by omega⟩) (by omega) (by omega)⟩
  · refine Or.inr ?_
    refine ask_er 1 (by decide) (fun z hR => ⟨z, ?_, fun _ _ => rfl⟩) (fun z hM => ⟨0, zup z 151 0 0, ?_, FM_rf _⟩)
    · simp only [fL_leaveCourse, fX5_leaveCourse, n_row, n_btw, n_fnd, RCn hR, if_neg q1, Option.bind_some, if_true] <;> rfl
    · have hM1 := zup_154 (e := 0) hM
      simp only [fX6_leaveCourse, zl, hM1, mi_wall hM1 hI, mi_route hM1 hI, mi_harness hM1 hI, mi_member hM1 hI, mi_course hM1 hI, mi_grade, m_in, m_failsb, if_neg q1, Option.bind_some, if_true, fX6_leaveCourse_b34, m_fails0, m_fails1, ite_bI] <;> rfl
theorem k_giveBack (hI : IH B r) (hB : B ≤ 900000) (v1 : Int) : (∃ r' v, Chg r r' v (fL_giveBack v1) (fX6_giveBack v1) ∧ IH (B + 60) r') ∨ Ask r (fL_giveBack v1) (fX6_giveBack v1) := by
  have hn := hI.1
  unfold IHn at hn
  by_cases q1 : 0 ≤ v1 ∧ v1 < r 546
  · by_cases q3 : r (547 + 6 * v1 + 3) = -1
    · refine Or.inr ?_
      refine ask_er 2 (by decide) (fun z hR => ⟨z, ?_, fun _ _ => rfl⟩) (fun z hM => ⟨0, zup z 151 0 0, ?_, FM_rf _⟩)
      · simp only [fL_giveBack, fX5_giveBack, n_row, n_btw, n_fnd, RCn hR, if_pos q1, Option.bind_some, if_true, c_harnessOf hR hI q1, if_pos q3] <;> rfl
      · have hM1 := zup_154 (e := 0) hM
        simp only [fX6_giveBack, zl, hM1, mi_wall hM1 hI, mi_route hM1 hI, mi_harness hM1 hI, mi_member hM1 hI, mi_course hM1 hI, mi_grade, m_in, m_failsb, if_pos q1, Option.bind_some, if_true, fX6_giveBack_b34, m_fails0, m_fails1, ite_bI, mg12 hM1 (k := v1) (c := 3) (by omega), if_pos q3] <;> rfl
    · obtain ⟨r', v, h1, h2⟩ := g_back hI q1 q3
      exact Or.inl ⟨r', v, h1, IH_mono h2 (by omega) (by omega)⟩
  · refine Or.inr ?_
    refine ask_er 1 (by decide) (fun z hR => ⟨z, ?_, fun _ _ => rfl⟩) (fun z hM => ⟨0, zup z 151 0 0, ?_, FM_rf _⟩)
    · simp only [fL_giveBack, fX5_giveBack, n_row, n_btw, n_fnd, RCn hR, if_neg q1, Option.bind_some, if_true] <;> rfl
    · have hM1 := zup_154 (e := 0) hM
      simp only [fX6_giveBack, zl, hM1, mi_wall hM1 hI, mi_route hM1 hI, mi_harness hM1 hI, mi_member hM1 hI, mi_course hM1 hI, mi_grade, m_in, m_failsb, if_neg q1, Option.bind_some, if_true, fX6_giveBack_b34, m_fails0, m_fails1, ite_bI] <;> rfl
theorem k_postpone (hI : IH B r) (hB : B ≤ 900000) (v1 v2 : Int) : (∃ r' v, Chg r r' v (fL_postpone v1 v2) (fX6_postpone v1 v2) ∧ IH (B + 60) r') ∨ Ask r (fL_postpone v1 v2) (fX6_postpone v1 v2) := by
  have hn := hI.1
  unfold IHn at hn
  by_cases q1 : 0 ≤ v1 ∧ v1 < r 4
  · by_cases q2 : 1 ≤ v2 ∧ v2 ≤ 14
    · have hx := (hI.2.1 v1 q1.1 q1.2).2.2
      exact Or.inl ⟨_, _, g_postpone hI hB q1 q2, IH_up4 (IH_mono hI (by omega) (by omega)) q1 (by omega)⟩
    · refine Or.inr ?_
      refine ask_er 2 (by decide) (fun z hR => ⟨z, ?_, fun _ _ => rfl⟩) (fun z hM => ⟨0, zup z 151 0 0, ?_, FM_rf _⟩)
      · simp only [fL_postpone, fX5_postpone, n_row, n_btw, n_fnd, RCn hR, if_pos q1, if_neg q2, Option.bind_some, if_true] <;> rfl
      · have hM1 := zup_154 (e := 0) hM
        simp only [fX6_postpone, zl, hM1, mi_wall hM1 hI, mi_route hM1 hI, mi_harness hM1 hI, mi_member hM1 hI, mi_course hM1 hI, mi_grade, m_in, m_failsb, if_pos q1, if_neg q2, Option.bind_some, if_true] <;> rfl
  · refine Or.inr ?_
    refine ask_er 1 (by decide) (fun z hR => ⟨z, ?_, fun _ _ => rfl⟩) (fun z hM => ⟨0, zup z 151 0 0, ?_, FM_rf _⟩)
    · simp only [fL_postpone, fX5_postpone, n_row, n_btw, n_fnd, RCn hR, if_neg q1, Option.bind_some, if_true] <;> rfl
    · have hM1 := zup_154 (e := 0) hM
      simp only [fX6_postpone, zl, hM1, mi_wall hM1 hI, mi_route hM1 hI, mi_harness hM1 hI, mi_member hM1 hI, mi_course hM1 hI, mi_grade, m_in, m_failsb, if_neg q1, Option.bind_some, if_true] <;> rfl
theorem k_enroll (hI : IH B r) (hB : B ≤ 900000) (v1 v2 : Int) : (∃ r' v, Chg r r' v (fL_enroll v1 v2) (fX6_enroll v1 v2) ∧ IH (B + 60) r') ∨ Ask r (fL_enroll v1 v2) (fX6_enroll v1 v2) := by
  have hn := hI.1
  unfold IHn at hn
  by_cases q1 : 0 ≤ v1 ∧ v1 < r 546
  · by_cases q2 : 0 ≤ v2 ∧ v2 < r 619
    · by_cases q3 : sEnroll r v1 v2
      · exact Or.inl ⟨_, _, g_enroll hI q1 q2 q3, IH_mono (IH_up12 hI q1 (by omega) (by omega) ⟨fun e => by omega, fun e => by omega, fun _ => by omega, fun e => by omega⟩) (by omega) (by omega)⟩
      · refine Or.inr ?_
        refine ask_er 2 (by decide) (fun z hR => ⟨z, ?_, fun _ _ => rfl⟩) (fun z hM => ⟨0, zup z 151 0 0, ?_, FM_rf _⟩)
        · simp only [fL_enroll, fX5_enroll, n_row, n_btw, n_fnd, RCn hR, if_pos q1, if_pos q2, Option.bind_some, if_true, c_mayEnroll hR hI q1 q2, ite_bI, if_neg q3] <;> rfl
        · have hM1 := zup_154 (e := 0) hM
          simp only [fX6_enroll, zl, hM1, mi_wall hM1 hI, mi_route hM1 hI, mi_harness hM1 hI, mi_member hM1 hI, mi_course hM1 hI, mi_grade, m_in, m_failsb, if_pos q1, if_pos q2, Option.bind_some, if_true, fX6_enroll_b26, fX6_enroll_b27, m_fails0, m_fails1, ite_bI, m_mayEnroll hM1 hI q1 q2, if_neg q3] <;> rfl
    · refine Or.inr ?_
      refine ask_er 1 (by decide) (fun z hR => ⟨z, ?_, fun _ _ => rfl⟩) (fun z hM => ⟨0, zup z 151 0 0, ?_, FM_rf _⟩)
      · simp only [fL_enroll, fX5_enroll, n_row, n_btw, n_fnd, RCn hR, if_pos q1, if_neg q2, Option.bind_some, if_true] <;> rfl
      · have hM1 := zup_154 (e := 0) hM
        simp only [fX6_enroll, zl, hM1, mi_wall hM1 hI, mi_route hM1 hI, mi_harness hM1 hI, mi_member hM1 hI, mi_course hM1 hI, mi_grade, m_in, m_failsb, if_pos q1, if_neg q2, Option.bind_some, if_true, fX6_enroll_b26, fX6_enroll_b27, m_fails0, m_fails1, ite_bI] <;> rfl
  · refine Or.inr ?_
    refine ask_er 1 (by decide) (fun z hR => ⟨z, ?_, fun _ _ => rfl⟩) (fun z hM => ⟨0, zup z 151 0 0, ?_, FM_rf _⟩)
    · simp only [fL_enroll, fX5_enroll, n_row, n_btw, n_fnd, RCn hR, if_neg q1, Option.bind_some, if_true] <;> rfl
    · have hM1 := zup_154 (e := 0) hM
      simp only [fX6_enroll, zl, hM1, mi_wall hM1 hI, mi_route hM1 hI, mi_harness hM1 hI, mi_member hM1 hI, mi_course hM1 hI, mi_grade, m_in, m_failsb, if_neg q1, Option.bind_some, if_true, fX6_enroll_b26, fX6_enroll_b27, m_fails0, m_fails1, ite_bI] <;> rfl
theorem k_climb (hI : IH B r) (hB : B ≤ 900000) (v1 v2 : Int) : (∃ r' v, Chg r r' v (fL_climb v1 v2) (fX6_climb v1 v2) ∧ IH (B + 60) r') ∨ Ask r (fL_climb v1 v2) (fX6_climb v1 v2) := by
  have hn := hI.1
  unfold IHn at hn
  by_cases q1 : 0 ≤ v1 ∧ v1 < r 546
  · by_cases q2 : 0 ≤ v2 ∧ v2 < r 37
    · by_cases q3 : sMay r v1 v2
      · exact Or.inl (g_climb hI hB q1 q2 q3)
      · refine Or.inr ?_
        refine ask_er 2 (by decide) (fun z hR => ⟨z, ?_, fun _ _ => rfl⟩) (fun z hM => ⟨0, zup z 151 0 0, ?_, FM_rf _⟩)
        · simp only [fL_climb, fX5_climb, n_row, n_btw, n_fnd, RCn hR, if_pos q1, if_pos q2, Option.bind_some, if_true, c_mayClimb hR hI q1 q2, ite_bI, if_neg q3] <;> rfl
        · have hM1 := zup_154 (e := 0) hM
          simp only [fX6_climb, zl, hM1, mi_wall hM1 hI, mi_route hM1 hI, mi_harness hM1 hI, mi_member hM1 hI, mi_course hM1 hI, mi_grade, m_in, m_failsb, if_pos q1, if_pos q2, Option.bind_some, if_true, fX6_climb_b26, fX6_climb_b27, m_fails0, m_fails1, ite_bI, m_mayClimb hM1 hI q1 q2, if_neg q3] <;> rfl
    · refine Or.inr ?_
      refine ask_er 1 (by decide) (fun z hR => ⟨z, ?_, fun _ _ => rfl⟩) (fun z hM => ⟨0, zup z 151 0 0, ?_, FM_rf _⟩)
      · simp only [fL_climb, fX5_climb, n_row, n_btw, n_fnd, RCn hR, if_pos q1, if_neg q2, Option.bind_some, if_true] <;> rfl
      · have hM1 := zup_154 (e := 0) hM
        simp only [fX6_climb, zl, hM1, mi_wall hM1 hI, mi_route hM1 hI, mi_harness hM1 hI, mi_member hM1 hI, mi_course hM1 hI, mi_grade, m_in, m_failsb, if_pos q1, if_neg q2, Option.bind_some, if_true, fX6_climb_b26, fX6_climb_b27, m_fails0, m_fails1, ite_bI] <;> rfl
  · refine Or.inr ?_
    refine ask_er 1 (by decide) (fun z hR => ⟨z, ?_, fun _ _ => rfl⟩) (fun z hM => ⟨0, zup z 151 0 0, ?_, FM_rf _⟩)
    · simp only [fL_climb, fX5_climb, n_row, n_btw, n_fnd, RCn hR, if_neg q1, Option.bind_some, if_true] <;> rfl
    · have hM1 := zup_154 (e := 0) hM
      simp only [fX6_climb, zl, hM1, mi_wall hM1 hI, mi_route hM1 hI, mi_harness hM1 hI, mi_member hM1 hI, mi_course hM1 hI, mi_grade, m_in, m_failsb, if_neg q1, Option.bind_some, if_true, fX6_climb_b26, fX6_climb_b27, m_fails0, m_fails1, ite_bI] <;> rfl
theorem k_vote (hI : IH B r) (hB : B ≤ 900000) (v1 v2 v3 : Int) : (∃ r' v, Chg r r' v (fL_vote v1 v2 v3) (fX6_vote v1 v2 v3) ∧ IH (B + 60) r') ∨ Ask r (fL_vote v1 v2 v3) (fX6_vote v1 v2 v3) := by
  have hn := hI.1
  unfold IHn at hn
  by_cases q1 : 0 ≤ v1 ∧ v1 < r 546
  · by_cases q2 : 0 ≤ v2 ∧ v2 < r 37
    · by_cases q3 : 0 ≤ v3 ∧ v3 ≤ 29
      · have hx := (hI.2.2.1 v2 q2.1 q2.2).2.2.2.2.1
        by_cases q4 : sBit (r (38 + 18 * v2 + 5)) v1
        · obtain ⟨r', v, h1, h2⟩ := g_vote hI q1 q2 q3 q4
          exact Or.inl ⟨r', v, h1, IH_mono h2 (by omega) (by omega)⟩
        · refine Or.inr ?_
          refine ask_er 3 (by decide) (fun z hR => ⟨z, ?_, fun _ _ => rfl⟩) (fun z hM => ⟨0, zup z 151 0 0, ?_, FM_rf _⟩)
          · simp only [fL_vote, fX5_vote, n_row, n_btw, n_fnd, RCn hR, if_pos q1, if_pos q2, if_pos q3, Option.bind_some, if_true, c_hasClimbed hR hI q2, ite_bI, if_neg q4] <;> rfl
          · have hM1 := zup_154 (e := 0) hM
            simp only [fX6_vote, zl, hM1, mi_wall hM1 hI, mi_route hM1 hI, mi_harness hM1 hI, mi_member hM1 hI, mi_course hM1 hI, mi_grade, m_in, m_failsb, if_pos q1, if_pos q2, if_pos q3, Option.bind_some, if_true, fX6_vote_b26, fX6_vote_b27, m_fails0, m_fails1, ite_bI, mg6 hM1 (k := v2) (c := 5) (by omega), m_has hx (k := v1) (by omega), if_neg q4] <;> rfl
      · refine Or.inr ?_
        refine ask_er 2 (by decide) (fun z hR => ⟨z, ?_, fun _ _ => rfl⟩) (fun z hM => ⟨0, zup z 151 0 0, ?_, FM_rf _⟩)
        · simp only [fL_vote, fX5_vote, n_row, n_btw, n_fnd, RCn hR, if_pos q1, if_pos q2, if_neg q3, Option.bind_some, if_true] <;> rfl
        · have hM1 := zup_154 (e := 0) hM
          simp only [fX6_vote, zl, hM1, mi_wall hM1 hI, mi_route hM1 hI, mi_harness hM1 hI, mi_member hM1 hI, mi_course hM1 hI, mi_grade, m_in, m_failsb, if_pos q1, if_pos q2, if_neg q3, Option.bind_some, if_true, fX6_vote_b26, fX6_vote_b27, m_fails0, m_fails1, ite_bI] <;> rfl
    · refine Or.inr ?_
      refine ask_er 1 (by decide) (fun z hR => ⟨z, ?_, fun _ _ => rfl⟩) (fun z hM => ⟨0, zup z 151 0 0, ?_, FM_rf _⟩)
      · simp only [fL_vote, fX5_vote, n_row, n_btw, n_fnd, RCn hR, if_pos q1, if_neg q2, Option.bind_some, if_true] <;> rfl
      · have hM1 := zup_154 (e := 0) hM
        simp only [fX6_vote, zl, hM1, mi_wall hM1 hI, mi_route hM1 hI, mi_harness hM1 hI, mi_member hM1 hI, mi_course hM1 hI, mi_grade, m_in, m_failsb, if_pos q1, if_neg q2, Option.bind_some, if_true, fX6_vote_b26, fX6_vote_b27, m_fails0, m_fails1, ite_bI] <;> rfl
  · refine Or.inr ?_
    refine ask_er 1 (by decide) (fun z hR => ⟨z, ?_, fun _ _ => rfl⟩) (fun z hM => ⟨0, zup z 151 0 0, ?_, FM_rf _⟩)
    · simp only [fL_vote, fX5_vote, n_row, n_btw, n_fnd, RCn hR, if_neg q1, Option.bind_some, if_true] <;> rfl
    · have hM1 := zup_154 (e := 0) hM
      simp only [fX6_vote, zl, hM1, mi_wall hM1 hI, mi_route hM1 hI, mi_harness hM1 hI, mi_member hM1 hI, mi_course hM1 hI, mi_grade, m_in, m_failsb, if_neg q1, Option.bind_some, if_true, fX6_vote_b26, fX6_vote_b27, m_fails0, m_fails1, ite_bI] <;> rfl
theorem k_check (hI : IH B r) (hB : B ≤ 900000) (v1 v2 : Int) : (∃ r' v, Chg r r' v (fL_check v1 v2) (fX6_check v1 v2) ∧ IH (B + 60) r') ∨ Ask r (fL_check v1 v2) (fX6_check v1 v2) := by
  have hn := hI.1
  unfold IHn at hn
  by_cases q1 : 0 ≤ v1 ∧ v1 < r 470
  · by_cases q2 : sRet r v1
    · refine Or.inr ?_
      refine ask_er 2 (by decide) (fun z hR => ⟨z, ?_, fun _ _ => rfl⟩) (fun z hM => ⟨0, zup z 151 0 0, ?_, FM_rf _⟩)
      · simp only [fL_check, fX5_check, n_row, n_btw, n_fnd, RCn hR, if_pos q1, Option.bind_some, if_true, c_stateOf hR hI q1, if_pos q2, if_neg (show ¬ (2 : Int) = 0 by decide)] <;> rfl
      · have hM1 := zup_154 (e := 0) hM
        simp only [fX6_check, zl, hM1, mi_wall hM1 hI, mi_route hM1 hI, mi_harness hM1 hI, mi_member hM1 hI, mi_course hM1 hI, mi_grade, m_in, m_failsb, if_pos q1, Option.bind_some, if_true, m_fails0, m_fails1, ite_bI, m_isLent hM1 hI q1, m_isRetired hM1 hI q1, if_pos q2, ite_self, fX6_check_b39, fX6_check_b40] <;> rfl
    · by_cases q3 : sLent r v1
      · refine Or.inr ?_
        refine ask_er 2 (by decide) (fun z hR => ⟨z, ?_, fun _ _ => rfl⟩) (fun z hM => ⟨0, zup z 151 0 0, ?_, FM_rf _⟩)
        · simp only [fL_check, fX5_check, n_row, n_btw, n_fnd, RCn hR, if_pos q1, Option.bind_some, if_true, c_stateOf hR hI q1, if_neg q2, if_pos q3, if_neg (show ¬ (1 : Int) = 0 by decide)] <;> rfl
        · have hM1 := zup_154 (e := 0) hM
          simp only [fX6_check, zl, hM1, mi_wall hM1 hI, mi_route hM1 hI, mi_harness hM1 hI, mi_member hM1 hI, mi_course hM1 hI, mi_grade, m_in, m_failsb, if_pos q1, Option.bind_some, if_true, m_fails0, m_fails1, ite_bI, m_isLent hM1 hI q1, if_pos q3, fX6_check_b39, fX6_check_b40] <;> rfl
      · obtain ⟨r', v, h1, h2⟩ := g_check (v2 := v2) hI q1 q2 q3
        exact Or.inl ⟨r', v, h1, IH_mono h2 (by omega) (by omega)⟩
  · refine Or.inr ?_
    refine ask_er 1 (by decide) (fun z hR => ⟨z, ?_, fun _ _ => rfl⟩) (fun z hM => ⟨0, zup z 151 0 0, ?_, FM_rf _⟩)
    · simp only [fL_check, fX5_check, n_row, n_btw, n_fnd, RCn hR, if_neg q1, Option.bind_some, if_true] <;> rfl
    · have hM1 := zup_154 (e := 0) hM
      simp only [fX6_check, zl, hM1, mi_wall hM1 hI, mi_route hM1 hI, mi_harness hM1 hI, mi_member hM1 hI, mi_course hM1 hI, mi_grade, m_in, m_failsb, if_neg q1, Option.bind_some, if_true, m_fails0, m_fails1, ite_bI] <;> rfl
end KC

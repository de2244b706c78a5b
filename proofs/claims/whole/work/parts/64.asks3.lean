/-! the last asking methods -/
section QW
variable {z : ZZ} {r : Row} {B v : Int}
theorem n_row8 (hR : RC z r) : fX5_needRow 8 v z = some (if 0 ≤ v ∧ v ≤ r 644 - 1 then .inl 0 else .inr 0) := by
  rw [n_row, (RCn hR).2.2.1]
  by_cases h : 0 ≤ v ∧ v < r 644
  · rw [if_pos h, if_pos (by omega)]
  · rw [if_neg h, if_neg (by omega)]
theorem k_archived (hI : IH B r) (v1 v2 : Int) : Ask r (fL_archived v1 v2) (fX6_archived v1 v2) := by
  have hn := hI.1
  unfold IHn at hn
  by_cases q1 : 0 ≤ v1 ∧ v1 ≤ r 644 - 1
  · by_cases q2 : 0 ≤ v2 ∧ v2 ≤ 3
    · refine ask_ok (r (645 + 4 * v1 + v2)) (fun z hR => ⟨z, ?_, fun _ _ => rfl⟩) (fun z hM => ⟨zup z 151 0 0, ?_, FM_rf _⟩)
      · simp only [fL_archived, fX5_archived, n_row8 hR, n_btw, if_pos q1, if_pos q2, Option.bind_some, if_true, cg8 hR hI (show 0 ≤ v1 ∧ v1 < r 644 by omega) (c := v2) (by omega)]
      · have hM1 := zup_154 (e := 0) hM
        simp only [fX6_archived, zl, hM1, mi_wall hM1 hI, mi_route hM1 hI, mi_harness hM1 hI, mi_member hM1 hI, mi_course hM1 hI, mi_grade, m_in, m_failsb, if_pos q1, if_pos q2, Option.bind_some, if_true, if_pos (inR_s (show -1000000000 ≤ r 644 - 1 ∧ r 644 - 1 ≤ 1000000000 by omega)), if_pos (show 0 ≤ 645 + 4 * v1 + v2 ∧ 645 + 4 * v1 + v2 < 765 by omega)]
    · refine ask_er 2 (by decide) (fun z hR => ⟨z, ?_, fun _ _ => rfl⟩) (fun z hM => ⟨0, zup z 151 0 0, ?_, FM_rf _⟩)
      · simp only [fL_archived, fX5_archived, n_row8 hR, n_btw, if_pos q1, if_neg q2, Option.bind_some, if_true] <;> rfl
      · have hM1 := zup_154 (e := 0) hM
        simp only [fX6_archived, zl, hM1, mi_wall hM1 hI, mi_route hM1 hI, mi_harness hM1 hI, mi_member hM1 hI, mi_course hM1 hI, mi_grade, m_in, m_failsb, if_pos q1, if_neg q2, Option.bind_some, if_true, if_pos (inR_s (show -1000000000 ≤ r 644 - 1 ∧ r 644 - 1 ≤ 1000000000 by omega))] <;> rfl
  · refine ask_er 1 (by decide) (fun z hR => ⟨z, ?_, fun _ _ => rfl⟩) (fun z hM => ⟨0, zup z 151 0 0, ?_, FM_rf _⟩)
    · simp only [fL_archived, fX5_archived, n_row8 hR, n_btw, if_neg q1, Option.bind_some, if_true] <;> rfl
    · have hM1 := zup_154 (e := 0) hM
      simp only [fX6_archived, zl, hM1, mi_wall hM1 hI, mi_route hM1 hI, mi_harness hM1 hI, mi_member hM1 hI, mi_course hM1 hI, mi_grade, m_in, m_failsb, if_neg q1, Option.bind_some, if_true, if_pos (inR_s (show -1000000000 ≤ r 644 - 1 ∧ r 644 - 1 ≤ 1000000000 by omega))] <;> rfl
theorem k_shiftFor (hI : IH B r) (v1 : Int) : Ask r (fL_shiftFor v1) (fX6_shiftFor v1) := by
  have hn := hI.1
  unfold IHn at hn
  by_cases q1 : 0 ≤ v1 ∧ v1 < r 4
  · rcases min_or (fun i => sFree r v1 i) 15 with ⟨i, i1, i2, i3, i4⟩ | hno
    · refine ask_ok i (fun z hR => ⟨z, ?_, fun _ _ => rfl⟩) (fun z hM => ⟨zup z 151 0 0, ?_, FM_rf _⟩)
      · rcases c_shift hR hI q1 with ⟨j, j1, j2, j3, j4, e⟩ | ⟨h, e⟩
        · have ij := min_eq (P := fun i => sFree r v1 i) ⟨i1, i3, i4⟩ ⟨j1, j3, j4⟩
          subst ij
          simp only [fL_shiftFor, fX5_shiftFor, n_row, n_btw, n_fnd, RCn hR, if_pos q1, Option.bind_some, if_true, e, if_neg (show ¬ i = -1 by omega)]
        · exact absurd i3 (h i i1 i2)
      · have hM1 := zup_154 (e := 0) hM
        rcases m_shift hM1 hI q1 with ⟨j, j1, j2, j3, j4, e⟩ | ⟨h, e⟩
        · have ij := min_eq (P := fun i => sFree r v1 i) ⟨i1, i3, i4⟩ ⟨j1, j3, j4⟩
          subst ij
          simp only [fX6_shiftFor, zl, hM1, mi_wall hM1 hI, mi_route hM1 hI, mi_harness hM1 hI, mi_member hM1 hI, mi_course hM1 hI, mi_grade, m_in, m_failsb, if_pos q1, Option.bind_some, if_true, e, if_neg (show ¬ 14 < i by omega), fX6_shiftFor_b62, m_fails1]
        · exact absurd i3 (h i i1 i2)
    · refine ask_er 2 (by decide) (fun z hR => ⟨z, ?_, fun _ _ => rfl⟩) (fun z hM => ⟨0, zup z 151 0 0, ?_, FM_rf _⟩)
      · rcases c_shift hR hI q1 with ⟨j, j1, j2, j3, j4, e⟩ | ⟨h, e⟩
        · exact absurd j3 (hno j j1 j2)
        · simp only [fL_shiftFor, fX5_shiftFor, n_row, n_btw, n_fnd, RCn hR, if_pos q1, Option.bind_some, if_true, e] <;> rfl
      · have hM1 := zup_154 (e := 0) hM
        rcases m_shift hM1 hI q1 with ⟨j, j1, j2, j3, j4, e⟩ | ⟨h, e⟩
        · exact absurd j3 (hno j j1 j2)
        · simp only [fX6_shiftFor, zl, hM1, mi_wall hM1 hI, mi_route hM1 hI, mi_harness hM1 hI, mi_member hM1 hI, mi_course hM1 hI, mi_grade, m_in, m_failsb, if_pos q1, Option.bind_some, if_true, e, if_pos (show (14 : Int) < 15 by decide), fX6_shiftFor_b62, m_fails0] <;> rfl
  · refine ask_er 1 (by decide) (fun z hR => ⟨z, ?_, fun _ _ => rfl⟩) (fun z hM => ⟨0, zup z 151 0 0, ?_, FM_rf _⟩)
    · simp only [fL_shiftFor, fX5_shiftFor, n_row, n_btw, n_fnd, RCn hR, if_neg q1, Option.bind_some, if_true] <;> rfl
    · have hM1 := zup_154 (e := 0) hM
      simp only [fX6_shiftFor, zl, hM1, mi_wall hM1 hI, mi_route hM1 hI, mi_harness hM1 hI, mi_member hM1 hI, mi_course hM1 hI, mi_grade, m_in, m_failsb, if_neg q1, Option.bind_some, if_true] <;> rfl
theorem k_votesTo (hI : IH B r) (v1 v2 : Int) : Ask r (fL_votesTo v1 v2) (fX6_votesTo v1 v2) := by
  have hn := hI.1
  unfold IHn at hn
  by_cases q1 : 0 ≤ v1 ∧ v1 < r 37
  · by_cases q2 : 0 ≤ v2 ∧ v2 ≤ 29
    · rcases min_or (fun i => sG r v1 v2 i = v2) 21 with ⟨i, i1, i2, i3, i4⟩ | hno
      · refine ask_ok i (fun z hR => ?_) (fun z hM => ?_)
        · rcases c_vt hR hI q1 (show 0 ≤ v2 ∧ v2 < 30 by omega) with ⟨j, z', j1, j2, j3, j4, f, e⟩ | ⟨h, z', f, e⟩
          · have ij := min_eq (P := fun i => sG r v1 v2 i = v2) ⟨i1, i3, i4⟩ ⟨j1, j3, j4⟩
            subst ij
            refine ⟨z', ?_, f⟩
            simp only [fL_votesTo, fX5_votesTo, n_row, n_btw, n_fnd, RCn hR, if_pos q1, if_pos q2, Option.bind_some, if_true, e]
          · exact absurd i3 (h i i1 i2)
        · have hM1 := zup_154 (e := 0) hM
          rcases m_vt hM1 hI q1 (show 0 ≤ v2 ∧ v2 < 30 by omega) with ⟨j, z', j1, j2, j3, j4, f, e⟩ | ⟨h, z', f, e⟩
          · have ij := min_eq (P := fun i => sG r v1 v2 i = v2) ⟨i1, i3, i4⟩ ⟨j1, j3, j4⟩
            subst ij
            refine ⟨z', ?_, f⟩
            simp only [fX6_votesTo, zl, hM1, mi_wall hM1 hI, mi_route hM1 hI, mi_harness hM1 hI, mi_member hM1 hI, mi_course hM1 hI, mi_grade, m_in, m_failsb, if_pos q1, if_pos q2, Option.bind_some, if_true, e, if_neg (show ¬ 20 < i by omega), fX6_votesTo_b69, m_fails1]
          · exact absurd i3 (h i i1 i2)
      · refine ask_er 3 (by decide) (fun z hR => ?_) (fun z hM => ?_)
        · rcases c_vt hR hI q1 (show 0 ≤ v2 ∧ v2 < 30 by omega) with ⟨j, z', j1, j2, j3, j4, f, e⟩ | ⟨h, z', f, e⟩
          · exact absurd j3 (hno j j1 j2)
          · refine ⟨z', ?_, f⟩
            simp only [fL_votesTo, fX5_votesTo, n_row, n_btw, n_fnd, RCn hR, if_pos q1, if_pos q2, Option.bind_some, if_true, e] <;> rfl
        · have hM1 := zup_154 (e := 0) hM
          rcases m_vt hM1 hI q1 (show 0 ≤ v2 ∧ v2 < 30 by omega) with ⟨j, z', j1, j2, j3, j4, f, e⟩ | ⟨h, z', f, e⟩
          · exact absurd j3 (hno j j1 j2)
          · refine ⟨0, z', ?_, f⟩
            simp only [fX6_votesTo, zl, hM1, mi_wall hM1 hI, mi_route hM1 hI, mi_harness hM1 hI, mi_member hM1 hI, mi_course hM1 hI, mi_grade, m_in, m_failsb, if_pos q1, if_pos q2, Option.bind_some, if_true, e, if_pos (show (20 : Int) < 21 by decide), fX6_votesTo_b69, m_fails0] <;> rfl
    · refine ask_er 2 (by decide) (fun z hR => ⟨z, ?_, fun _ _ => rfl⟩) (fun z hM => ⟨0, zup z 151 0 0, ?_, FM_rf _⟩)
      · simp only [fL_votesTo, fX5_votesTo, n_row, n_btw, n_fnd, RCn hR, if_pos q1, if_neg q2, Option.bind_some, if_true] <;> rfl
      · have hM1 := zup_154 (e := 0) hM
        simp only [fX6_votesTo, zl, hM1, mi_wall hM1 hI, mi_route hM1 hI, mi_harness hM1 hI, mi_member hM1 hI, mi_course hM1 hI, mi_grade, m_in, m_failsb, if_pos q1, if_neg q2, Option.bind_some, if_true] <;> rfl
  · refine ask_er 1 (by decide) (fun z hR => ⟨z, ?_, fun _ _ => rfl⟩) (fun z hM => ⟨0, zup z 151 0 0, ?_, FM_rf _⟩)
    · simp only [fL_votesTo, fX5_votesTo, n_row, n_btw, n_fnd, RCn hR, if_neg q1, Option.bind_some, if_true] <;> rfl
    · have hM1 := zup_154 (e := 0) hM
      simp only [fX6_votesTo, zl, hM1, mi_wall hM1 hI, mi_route hM1 hI, mi_harness hM1 hI, mi_member hM1 hI, mi_course hM1 hI, mi_grade, m_in, m_failsb, if_neg q1, Option.bind_some, if_true] <;> rfl
theorem k_ladder (hI : IH B r) (v1 v2 : Int) : Ask r (fL_ladder v1 v2) (fX6_ladder v1 v2) := by
  have hn := hI.1
  unfold IHn at hn
  by_cases q1 : 0 ≤ v1 ∧ v1 < r 546
  · by_cases q2 : 0 ≤ v2 ∧ v2 ≤ 5
    · have hx := hI.2.2.2.2.1 v1 q1.1 q1.2
      have g1 : inR (r (547 + 6 * v1 + 1) + 1) := inR_s (by omega)
      have eN : v2 - r (547 + 6 * v1 + 1) = v2 - r (547 + 6 * v1 + 1) := rfl
      by_cases qE : ∃ i, r (547 + 6 * v1 + 1) + 1 ≤ i ∧ i ≤ v2 ∧ sNeed r i = -1
      · obtain ⟨i, i1, i2, i3⟩ := qE
        refine ask_er 3 (by decide) (fun z hR => ⟨z, ?_, fun _ _ => rfl⟩) (fun z hM => ⟨0, zup z 151 0 0, ?_, FM_rf _⟩)
        · rcases c_ladder hR hI q1 q2 with ⟨_, _, _, _, e⟩ | ⟨h, _⟩
          · simp only [fL_ladder, fX5_ladder, n_row, n_btw, n_fnd, RCn hR, if_pos q1, if_pos q2, Option.bind_some, if_true, cg12 hR hI q1 (c := 1) (by omega), if_pos g1, e] <;> rfl
          · exact absurd i3 (h i i1 i2)
        · have hM1 := zup_154 (e := 0) hM
          rcases m_ladder hM1 hI q1 q2 with ⟨_, _, _, _, e⟩ | ⟨h, _⟩
          · simp only [fX6_ladder, zl, hM1, mi_wall hM1 hI, mi_route hM1 hI, mi_harness hM1 hI, mi_member hM1 hI, mi_course hM1 hI, mi_grade, m_in, m_failsb, if_pos q1, if_pos q2, Option.bind_some, if_true, mg12 hM1 (k := v1) (c := 1) (by omega), if_pos g1, e] <;> rfl
          · exact absurd i3 (h i i1 i2)
      · refine ask_ok (max 0 (ita (fun k t => max t (sNeed r k)) (v2 - r (547 + 6 * v1 + 1)).toNat (r (547 + 6 * v1 + 1) + 1) 0 - r (547 + 6 * v1 + 2))) (fun z hR => ⟨z, ?_, fun _ _ => rfl⟩) (fun z hM => ⟨zup z 151 0 0, ?_, FM_rf _⟩)
        · rcases c_ladder hR hI q1 q2 with ⟨i, i1, i2, i3, _⟩ | ⟨h, e, b1, b2⟩
          · exact absurd ⟨i, i1, i2, i3⟩ qE
          · have g2 : inR (ita (fun k t => max t (sNeed r k)) (v2 - r (547 + 6 * v1 + 1)).toNat (r (547 + 6 * v1 + 1) + 1) 0 - r (547 + 6 * v1 + 2)) := inR_s (by omega)
            simp only [fL_ladder, fX5_ladder, n_row, n_btw, n_fnd, RCn hR, if_pos q1, if_pos q2, Option.bind_some, if_true, cg12 hR hI q1 (c := 1) (by omega), cg12 hR hI q1 (c := 2) (by omega), if_pos g1, e, if_pos g2]
        · have hM1 := zup_154 (e := 0) hM
          rcases m_ladder hM1 hI q1 q2 with ⟨i, i1, i2, i3, _⟩ | ⟨h, e⟩
          · exact absurd ⟨i, i1, i2, i3⟩ qE
          · rw [← lad_eq hx.2.1.1]
            simp only [fX6_ladder, zl, hM1, mi_wall hM1 hI, mi_route hM1 hI, mi_harness hM1 hI, mi_member hM1 hI, mi_course hM1 hI, mi_grade, m_in, m_failsb, if_pos q1, if_pos q2, Option.bind_some, if_true, mg12 hM1 (k := v1) (c := 1) (by omega), if_pos g1, e]
    · refine ask_er 2 (by decide) (fun z hR => ⟨z, ?_, fun _ _ => rfl⟩) (fun z hM => ⟨0, zup z 151 0 0, ?_, FM_rf _⟩)
      · simp only [fL_ladder, fX5_ladder, n_row, n_btw, n_fnd, RCn hR, if_pos q1, if_neg q2, Option.bind_some, if_true] <;> rfl
      · have hM1 := zup_154 (e := 0) hM
        simp only [fX6_ladder, zl, hM1, mi_wall hM1 hI, mi_route hM1 hI, mi_harness hM1 hI, mi_member hM1 hI, mi_course hM1 hI, mi_grade, m_in, m_failsb, if_pos q1, if_neg q2, Option.bind_some, if_true] <;> rfl
  · refine ask_er 1 (by decide) (fun z hR => ⟨z, ?_, fun _ _ => rfl⟩) (fun z hM => ⟨0, zup z 151 0 0, ?_, FM_rf _⟩)
    · simp only [fL_ladder, fX5_ladder, n_row, n_btw, n_fnd, RCn hR, if_neg q1, Option.bind_some, if_true] <;> rfl
    · have hM1 := zup_154 (e := 0) hM
      simp only [fX6_ladder, zl, hM1, mi_wall hM1 hI, mi_route hM1 hI, mi_harness hM1 hI, mi_member hM1 hI, mi_course hM1 hI, mi_grade, m_in, m_failsb, if_neg q1, Option.bind_some, if_true] <;> rfl
theorem k_checksNeeded (hI : IH B r) (v1 v2 : Int) : Ask r (fL_checksNeeded v1 v2) (fX6_checksNeeded v1 v2) := by
  have hn := hI.1
  unfold IHn at hn
  by_cases q1 : 0 ≤ v1 ∧ v1 ≤ 3
  · by_cases q2 : 1 ≤ v2 ∧ v2 ≤ 365
    · by_cases q3 : sLongest r v1 = -1
      · refine ask_er 2 (by decide) (fun z hR => ⟨z, ?_, fun _ _ => rfl⟩) (fun z hM => ⟨0, zup z 151 0 0, ?_, FM_rf _⟩)
        · simp only [fL_checksNeeded, fX5_checksNeeded, n_row, n_btw, n_fnd, RCn hR, if_pos q1, if_pos q2, Option.bind_some, if_true, c_longest hR hI, if_pos q3] <;> rfl
        · have hM1 := zup_154 (e := 0) hM
          simp only [fX6_checksNeeded, zl, hM1, mi_wall hM1 hI, mi_route hM1 hI, mi_harness hM1 hI, mi_member hM1 hI, mi_course hM1 hI, mi_grade, m_in, m_failsb, if_pos q1, if_pos q2, Option.bind_some, if_true, fX6_checksNeeded_b34, fX6_checksNeeded_b35, fX6_checksNeeded_b61, ite_bI, m_fails0, m_fails1, m_longest hM1 hI, if_pos q3] <;> rfl
      · have hL := (sLongest_ok hI (s := v1)).resolve_left q3
        refine ⟨0, (sChk r (sLongest r v1) v2).2, fun z hR => ⟨zup z 159 0 (sChk r (sLongest r v1) v2).2, ?_, Qt_159, fun _ => by rw [zup_at, if_pos rfl]⟩, fun z hM => ?_⟩
        · simp only [fL_checksNeeded, fX5_checksNeeded, n_row, n_btw, n_fnd, RCn hR, if_pos q1, if_pos q2, Option.bind_some, if_true, c_longest hR hI, if_neg q3, c_checks hR hI ⟨hL.1, hL.2.1⟩ q2]
        · have hM1 := zup_154 (e := 0) hM
          obtain ⟨z2, e2, f2, l2⟩ := m_lapses (s := v1) (n := v2) (b := sLongest r v1) hM1 hI
          have hM2 : z2 154 = r := (f2 154 (by decide)).trans hM1
          obtain ⟨z3, e3, f3⟩ := m_checks (s := v1) (n := v2) (b := sLongest r v1) hM2 hI ⟨hL.1, hL.2.1⟩ hL.2.2 q2 l2
          refine ⟨_, z3, ?_, Qt_tr Qt_e (Qt_tr (Qt_158 f2) (Qt_158 f3)), ?_, ?_, fun _ => rfl⟩
          · simp only [fX6_checksNeeded, zl, hM1, mi_wall hM1 hI, mi_route hM1 hI, mi_harness hM1 hI, mi_member hM1 hI, mi_course hM1 hI, mi_grade, m_in, m_failsb, if_pos q1, if_pos q2, Option.bind_some, if_true, fX6_checksNeeded_b34, fX6_checksNeeded_b35, fX6_checksNeeded_b61, ite_bI, m_fails0, m_fails1, m_longest hM1 hI, if_neg q3, e2, hM2, e3]
          · rw [f3 159 (by decide), f2 159 (by decide), zup_ne (by decide)]
          · rw [f3 151 (by decide), f2 151 (by decide), zup_at, if_pos rfl]
    · refine ask_er 1 (by decide) (fun z hR => ⟨z, ?_, fun _ _ => rfl⟩) (fun z hM => ⟨0, zup z 151 0 0, ?_, FM_rf _⟩)
      · simp only [fL_checksNeeded, fX5_checksNeeded, n_row, n_btw, n_fnd, RCn hR, if_pos q1, if_neg q2, Option.bind_some, if_true] <;> rfl
      · have hM1 := zup_154 (e := 0) hM
        simp only [fX6_checksNeeded, zl, hM1, mi_wall hM1 hI, mi_route hM1 hI, mi_harness hM1 hI, mi_member hM1 hI, mi_course hM1 hI, mi_grade, m_in, m_failsb, if_pos q1, if_neg q2, Option.bind_some, if_true, fX6_checksNeeded_b34, fX6_checksNeeded_b35, fX6_checksNeeded_b61, ite_bI, m_fails0, m_fails1] <;> rfl
  · refine ask_er 1 (by decide) (fun z hR => ⟨z, ?_, fun _ _ => rfl⟩) (fun z hM => ⟨0, zup z 151 0 0, ?_, FM_rf _⟩)
    · simp only [fL_checksNeeded, fX5_checksNeeded, n_row, n_btw, n_fnd, RCn hR, if_neg q1, Option.bind_some, if_true] <;> rfl
    · have hM1 := zup_154 (e := 0) hM
      simp only [fX6_checksNeeded, zl, hM1, mi_wall hM1 hI, mi_route hM1 hI, mi_harness hM1 hI, mi_member hM1 hI, mi_course hM1 hI, mi_grade, m_in, m_failsb, if_neg q1, Option.bind_some, if_true, fX6_checksNeeded_b34, fX6_checksNeeded_b35, fX6_checksNeeded_b61, ite_bI, m_fails0, m_fails1] <;> rfl
theorem k_averageGrade (hI : IH B r) (hR : RC z r) (hM : z 154 = r) {ln : Nat} : ∃ z', fL_c36 ln v z = some (1, z') ∧ Qt z z' := by
  have hn := hI.1
  unfold IHn at hn
  by_cases h0 : 0 < r 37
  · obtain ⟨z1, e1, f1⟩ := c_avg hR hI h0
    have hM1 : (zup (zup z1 160 0 (((sAvg r).toNat : Nat) : Int)) 151 0 0) 154 = r := by
      rw [zup_ne (by decide), zup_ne (by decide), f1 154 (by decide)]
      exact hM
    obtain ⟨z2, e2, f2⟩ := m_avg hM1 hI h0
    refine ⟨z2, ?_, Qt_tr (Qt_F12 f1) (Qt_tr Qt_160 (Qt_tr Qt_e (Qt_FM f2)))⟩
    have a1 : fL_averageGrade z = some (0, zup z1 160 0 (((sAvg r).toNat : Nat) : Int)) := by
      unfold fL_averageGrade
      rw [e1]
      rfl
    have a2 : fX6_averageGrade (zup z1 160 0 (((sAvg r).toNat : Nat) : Int)) = some (sAvg r, z2) := by
      unfold fX6_averageGrade zl
      dsimp only
      rw [hM1, if_pos h0, e2]
    have a3 : z2 151 0 = 0 := by rw [f2.2 0 (by decide) (by decide) (by decide), zup_at, if_pos rfl]
    have a4 : z2 160 0 = (((sAvg r).toNat : Nat) : Int) := by rw [f2.1 160 (by decide) (by decide), zup_ne (by decide), zup_at, if_pos rfl]
    have a5 : UInt64.ofNat (z2 160 0).toNat = sAvg r := by rw [a4, Int.toNat_natCast, UInt64.ofNat_toNat]
    unfold fL_c36
    rw [a1]
    simp only [Option.bind_some]
    rw [a2]
    simp only [Option.bind_some]
    rw [show fX6_thrown z2 = some (z2 151 0) from rfl, a3]
    simp only [Option.bind_some, if_true]
    rw [a5]
    by_cases q : zdcmp (sAvg r) (sAvg r) = 0
    · rw [if_pos q]
    · rw [if_neg q, if_neg q, if_neg q]
  · have a1 : fL_averageGrade z = some (1, z) := by
      unfold fL_averageGrade fX5_averageGrade
      rw [(RCn hR).2.1, if_neg h0]
      rfl
    have a2 : fX6_averageGrade z = some (0, zup (zup z 151 0 0) 151 0 1) := by
      unfold fX6_averageGrade fX6_averageGrade_b21 zl
      dsimp only
      rw [zup_154 hM, if_neg h0, m_fails0]
      rfl
    refine ⟨zup (zup z 151 0 0) 151 0 1, ?_, Qt_tr Qt_e Qt_e⟩
    unfold fL_c36
    rw [a1]
    simp only [Option.bind_some]
    rw [a2]
    simp only [Option.bind_some]
    rw [show fX6_thrown (zup (zup z 151 0 0) 151 0 1) = some 1 from rfl]
    rfl
end QW

/-! lending; the law's cases of the simple changes -/
section KL
variable {r : Row} {B : Int}
theorem k_lend (hI : IH B r) (hB : B ≤ 900000) (v1 v2 : Int) : (∃ r' v, Chg r r' v (fL_lend v1 v2) (fX6_lend v1 v2) ∧ IH (B + 60) r') ∨ Ask r (fL_lend v1 v2) (fX6_lend v1 v2) := by
  have hn := hI.1
  unfold IHn at hn
  by_cases q1 : 0 ≤ v1 ∧ v1 < r 546
  · by_cases q2 : 0 ≤ v2 ∧ v2 < r 470
    · by_cases q3 : sLend r v1 v2
      · obtain ⟨r', v, h1, h2⟩ := g_lend hI q1 q2 q3
        exact Or.inl ⟨r', v, h1, IH_mono h2 (by omega) (by omega)⟩
      · refine Or.inr ?_
        by_cases a : r (547 + 6 * v1 + 3) = -1
        · by_cases b : r (547 + 6 * v1 + 0) = r (471 + 5 * v2 + 0)
          · have c : ¬ sLendable r v2 := fun w => q3 ⟨a, b, w⟩
            refine ask_er 2 (by decide) (fun z hR => ⟨z, ?_, fun _ _ => rfl⟩) (fun z hM => ⟨0, zup z 151 0 0, ?_, FM_rf _⟩)
            · simp only [fL_lend, fX5_lend, n_row, n_btw, n_fnd, RCn hR, if_pos q1, if_pos q2, Option.bind_some, if_true, c_harnessOf hR hI q1, if_pos a, cg12 hR hI q1 (c := 0) (by omega), cg10 hR hI q2 (c := 0) (by omega), if_pos b, c_isLendable hR hI q2, ite_bI, if_neg c] <;> rfl
            · have hM1 := zup_154 (e := 0) hM
              simp only [fX6_lend, zl, hM1, mi_wall hM1 hI, mi_route hM1 hI, mi_harness hM1 hI, mi_member hM1 hI, mi_course hM1 hI, mi_grade, m_in, m_failsb, if_pos q1, if_pos q2, Option.bind_some, if_true, m_fails0, m_fails1, ite_bI, fX6_lend_b26, fX6_lend_b27, m_mayLend hM1 hI q1 q2, if_neg q3] <;> rfl
          · refine ask_er 2 (by decide) (fun z hR => ⟨z, ?_, fun _ _ => rfl⟩) (fun z hM => ⟨0, zup z 151 0 0, ?_, FM_rf _⟩)
            · simp only [fL_lend, fX5_lend, n_row, n_btw, n_fnd, RCn hR, if_pos q1, if_pos q2, Option.bind_some, if_true, c_harnessOf hR hI q1, if_pos a, cg12 hR hI q1 (c := 0) (by omega), cg10 hR hI q2 (c := 0) (by omega), if_neg b] <;> rfl
            · have hM1 := zup_154 (e := 0) hM
              simp only [fX6_lend, zl, hM1, mi_wall hM1 hI, mi_route hM1 hI, mi_harness hM1 hI, mi_member hM1 hI, mi_course hM1 hI, mi_grade, m_in, m_failsb, if_pos q1, if_pos q2, Option.bind_some, if_true, m_fails0, m_fails1, ite_bI, fX6_lend_b26, fX6_lend_b27, m_mayLend hM1 hI q1 q2, if_neg q3] <;> rfl
        · refine ask_er 2 (by decide) (fun z hR => ⟨z, ?_, fun _ _ => rfl⟩) (fun z hM => ⟨0, zup z 151 0 0, ?_, FM_rf _⟩)
          · simp only [fL_lend, fX5_lend, n_row, n_btw, n_fnd, RCn hR, if_pos q1, if_pos q2, Option.bind_some, if_true, c_harnessOf hR hI q1, if_neg a] <;> rfl
          · have hM1 := zup_154 (e := 0) hM
            simp only [fX6_lend, zl, hM1, mi_wall hM1 hI, mi_route hM1 hI, mi_harness hM1 hI, mi_member hM1 hI, mi_course hM1 hI, mi_grade, m_in, m_failsb, if_pos q1, if_pos q2, Option.bind_some, if_true, m_fails0, m_fails1, ite_bI, fX6_lend_b26, fX6_lend_b27, m_mayLend hM1 hI q1 q2, if_neg q3] <;> rfl
    · refine Or.inr ?_
      refine ask_er 1 (by decide) (fun z hR => ⟨z, ?_, fun _ _ => rfl⟩) (fun z hM => ⟨0, zup z 151 0 0, ?_, FM_rf _⟩)
      · simp only [fL_lend, fX5_lend, n_row, n_btw, n_fnd, RCn hR, if_pos q1, if_neg q2, Option.bind_some, if_true] <;> rfl
      · have hM1 := zup_154 (e := 0) hM
        simp only [fX6_lend, zl, hM1, mi_wall hM1 hI, mi_route hM1 hI, mi_harness hM1 hI, mi_member hM1 hI, mi_course hM1 hI, mi_grade, m_in, m_failsb, if_pos q1, if_neg q2, Option.bind_some, if_true, m_fails0, m_fails1, ite_bI, fX6_lend_b26, fX6_lend_b27] <;> rfl
  · refine Or.inr ?_
    refine ask_er 1 (by decide) (fun z hR => ⟨z, ?_, fun _ _ => rfl⟩) (fun z hM => ⟨0, zup z 151 0 0, ?_, FM_rf _⟩)
    · simp only [fL_lend, fX5_lend, n_row, n_btw, n_fnd, RCn hR, if_neg q1, Option.bind_some, if_true] <;> rfl
    · have hM1 := zup_154 (e := 0) hM
      simp only [fX6_lend, zl, hM1, mi_wall hM1 hI, mi_route hM1 hI, mi_harness hM1 hI, mi_member hM1 hI, mi_course hM1 hI, mi_grade, m_in, m_failsb, if_neg q1, Option.bind_some, if_true, m_fails0, m_fails1, ite_bI, fX6_lend_b26, fX6_lend_b27] <;> rfl
end KL
section WC
variable {z : ZZ} {B v : Int} {ln : Nat}
theorem w_of {A M0 M : ZZ → Option (Int × ZZ)} (hV : INV B z) (hB : B ≤ 900000) (h : (∃ r' v, Chg (z 154) r' v A M0 ∧ IH (B + 60) r') ∨ Ask (z 154) A M0) (hE : ∀ y : ZZ, y 1000000 = z 1000000 → M y = M0 y) : ∃ z', tail A M z = some (1, z') ∧ INV (B + 60) z' ∧ z' 1000000 = z 1000000 := by
  rcases h with ⟨r', w, h1, h2⟩ | h
  · exact chg_case h1 hV hB h2 hE
  · obtain ⟨z', e, f⟩ := ask_case h hV.1 rfl hE
    exact ⟨z', e, INV_mono (INV_Qt hV f) (by omega) (by omega), f.1 1000000 (by decide)⟩
theorem w_c6 (hV : INV B z) (hB : B ≤ 900000) (h5 : 0 ≤ v ∧ v + 5 < ln) : ∃ z', fL_c6 ln v z = some (1, z') ∧ INV (B + 60) z' ∧ z' 1000000 = z 1000000 := by
  obtain ⟨z', e, f⟩ := w_of hV hB (k_climb hV.2.1 hB (z 1000000 (v + 1)) (z 1000000 (v + 2))) (M := fun y => fX6_climb (y 1000000 (v + 1)) (y 1000000 (v + 2)) y) (fun y hy => by rw [hy])
  refine ⟨z', ?_, f⟩
  unfold fL_c6
  rw [if_pos (by omega), if_pos (by omega)]
  exact e
theorem w_c7 (hV : INV B z) (hB : B ≤ 900000) (h5 : 0 ≤ v ∧ v + 5 < ln) : ∃ z', fL_c7 ln v z = some (1, z') ∧ INV (B + 60) z' ∧ z' 1000000 = z 1000000 := by
  obtain ⟨z', e, f⟩ := w_of hV hB (k_vote hV.2.1 hB (z 1000000 (v + 1)) (z 1000000 (v + 2)) (z 1000000 (v + 3))) (M := fun y => fX6_vote (y 1000000 (v + 1)) (y 1000000 (v + 2)) (y 1000000 (v + 3)) y) (fun y hy => by rw [hy])
  refine ⟨z', ?_, f⟩
  unfold fL_c7
  rw [if_pos (by omega), if_pos (by omega), if_pos (by omega)]
  exact e
theorem w_c8 (hV : INV B z) (hB : B ≤ 900000) (h5 : 0 ≤ v ∧ v + 5 < ln) : ∃ z', fL_c8 ln v z = some (1, z') ∧ INV (B + 60) z' ∧ z' 1000000 = z 1000000 := by
  obtain ⟨z', e, f⟩ := w_of hV hB (k_lend hV.2.1 hB (z 1000000 (v + 1)) (z 1000000 (v + 2))) (M := fun y => fX6_lend (y 1000000 (v + 1)) (y 1000000 (v + 2)) y) (fun y hy => by rw [hy])
  refine ⟨z', ?_, f⟩
  unfold fL_c8
  rw [if_pos (by omega), if_pos (by omega)]
  exact e
theorem w_c9 (hV : INV B z) (hB : B ≤ 900000) (h5 : 0 ≤ v ∧ v + 5 < ln) : ∃ z', fL_c9 ln v z = some (1, z') ∧ INV (B + 60) z' ∧ z' 1000000 = z 1000000 := by
  obtain ⟨z', e, f⟩ := w_of hV hB (k_giveBack hV.2.1 hB (z 1000000 (v + 1))) (M := fun y => fX6_giveBack (y 1000000 (v + 1)) y) (fun y hy => by rw [hy])
  refine ⟨z', ?_, f⟩
  unfold fL_c9
  rw [if_pos (by omega)]
  exact e
theorem w_c11 (hV : INV B z) (hB : B ≤ 900000) (h5 : 0 ≤ v ∧ v + 5 < ln) : ∃ z', fL_c11 ln v z = some (1, z') ∧ INV (B + 60) z' ∧ z' 1000000 = z 1000000 := by
  obtain ⟨z', e, f⟩ := w_of hV hB (k_enroll hV.2.1 hB (z 1000000 (v + 1)) (z 1000000 (v + 2))) (M := fun y => fX6_enroll (y 1000000 (v + 1)) (y 1000000 (v + 2)) y) (fun y hy => by rw [hy])
  refine ⟨z', ?_, f⟩
  unfold fL_c11
  rw [if_pos (by omega), if_pos (by omega)]
  exact e
theorem w_c12 (hV : INV B z) (hB : B ≤ 900000) (h5 : 0 ≤ v ∧ v + 5 < ln) : ∃ z', fL_c12 ln v z = some (1, z') ∧ INV (B + 60) z' ∧ z' 1000000 = z 1000000 := by
  obtain ⟨z', e, f⟩ := w_of hV hB (k_leaveCourse hV.2.1 hB (z 1000000 (v + 1))) (M := fun y => fX6_leaveCourse (y 1000000 (v + 1)) y) (fun y hy => by rw [hy])
  refine ⟨z', ?_, f⟩
  unfold fL_c12
  rw [if_pos (by omega)]
  exact e
theorem w_c14 (hV : INV B z) (hB : B ≤ 900000) (h5 : 0 ≤ v ∧ v + 5 < ln) : ∃ z', fL_c14 ln v z = some (1, z') ∧ INV (B + 60) z' ∧ z' 1000000 = z 1000000 := by
  obtain ⟨z', e, f⟩ := w_of hV hB (k_postpone hV.2.1 hB (z 1000000 (v + 1)) (z 1000000 (v + 2))) (M := fun y => fX6_postpone (y 1000000 (v + 1)) (y 1000000 (v + 2)) y) (fun y hy => by rw [hy])
  refine ⟨z', ?_, f⟩
  unfold fL_c14
  rw [if_pos (by omega), if_pos (by omega)]
  exact e
end WC

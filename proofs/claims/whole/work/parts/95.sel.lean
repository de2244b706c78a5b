/-! the law's step, and the whole run -/
section SL
variable {z : ZZ} {B v : Int} {ln : Nat}
theorem w_sel (hV : INV B z) (hB : B ≤ 900000) (h5 : 0 ≤ v ∧ v + 5 < ln) : ∃ z', fL_sel ln v z = some (1, z') ∧ INV (B + 60) z' ∧ z' 1000000 = z 1000000 := by
  unfold fL_sel
  by_cases c0 : zand (z 1000000 v) 63 = 0
  · rw [if_pos c0]
    exact w_c0 hV hB h5
  rw [if_neg c0]
  by_cases c1 : zand (z 1000000 v) 63 = 1
  · rw [if_pos c1]
    exact w_c1 hV hB h5
  rw [if_neg c1]
  by_cases c2 : zand (z 1000000 v) 63 = 2
  · rw [if_pos c2]
    exact w_c2 hV hB
  rw [if_neg c2]
  by_cases c3 : zand (z 1000000 v) 63 = 3
  · rw [if_pos c3]
    exact w_c3 hV hB
  rw [if_neg c3]
  by_cases c4 : zand (z 1000000 v) 63 = 4
  · rw [if_pos c4]
    exact w_c4 hV hB h5
  rw [if_neg c4]
  by_cases c5 : zand (z 1000000 v) 63 = 5
  · rw [if_pos c5]
    exact w_c5 hV hB h5
  rw [if_neg c5]
  by_cases c6 : zand (z 1000000 v) 63 = 6
  · rw [if_pos c6]
    exact w_c6 hV hB h5
  rw [if_neg c6]
  by_cases c7 : zand (z 1000000 v) 63 = 7
  · rw [if_pos c7]
    exact w_c7 hV hB h5
  rw [if_neg c7]
  by_cases c8 : zand (z 1000000 v) 63 = 8
  · rw [if_pos c8]
    exact w_c8 hV hB h5
  rw [if_neg c8]
  by_cases c9 : zand (z 1000000 v) 63 = 9
  · rw [if_pos c9]
    exact w_c9 hV hB h5
  rw [if_neg c9]
  by_cases c10 : zand (z 1000000 v) 63 = 10
  · rw [if_pos c10]
    exact w_c10 hV hB h5
  rw [if_neg c10]
  by_cases c11 : zand (z 1000000 v) 63 = 11
  · rw [if_pos c11]
    exact w_c11 hV hB h5
  rw [if_neg c11]
  by_cases c12 : zand (z 1000000 v) 63 = 12
  · rw [if_pos c12]
    exact w_c12 hV hB h5
  rw [if_neg c12]
  by_cases c13 : zand (z 1000000 v) 63 = 13
  · rw [if_pos c13]
    exact w_c13 hV hB h5
  rw [if_neg c13]
  by_cases c14 : zand (z 1000000 v) 63 = 14
  · rw [if_pos c14]
    exact w_c14 hV hB h5
  rw [if_neg c14]
  by_cases c15 : zand (z 1000000 v) 63 = 15
  · rw [if_pos c15]
    exact w_c15 hV hB h5
  rw [if_neg c15]
  by_cases c16 : zand (z 1000000 v) 63 = 16
  · rw [if_pos c16]
    exact w_c16 hV hB
  rw [if_neg c16]
  by_cases c17 : zand (z 1000000 v) 63 = 17
  · rw [if_pos c17]
    exact w_ask hV hB (a_c17 hV.2.2.1.1.1)
  rw [if_neg c17]
  by_cases c18 : zand (z 1000000 v) 63 = 18
  · rw [if_pos c18]
    exact w_c18 hV hB
  rw [if_neg c18]
  by_cases c19 : zand (z 1000000 v) 63 = 19
  · rw [if_pos c19]
    exact w_c19 hV hB
  rw [if_neg c19]
  by_cases c20 : zand (z 1000000 v) 63 = 20
  · rw [if_pos c20]
    exact w_ask hV hB (a_c20 hV.2.1 hV.1 rfl h5)
  rw [if_neg c20]
  by_cases c21 : zand (z 1000000 v) 63 = 21
  · rw [if_pos c21]
    exact w_ask hV hB (a_c21 hV.2.1 hV.1 rfl h5)
  rw [if_neg c21]
  by_cases c22 : zand (z 1000000 v) 63 = 22
  · rw [if_pos c22]
    exact w_ask hV hB (a_c22 hV.2.1 hV.1 rfl h5)
  rw [if_neg c22]
  by_cases c23 : zand (z 1000000 v) 63 = 23
  · rw [if_pos c23]
    exact w_ask hV hB (a_c23 hV.2.1 hV.1 rfl h5)
  rw [if_neg c23]
  by_cases c24 : zand (z 1000000 v) 63 = 24
  · rw [if_pos c24]
    exact w_ask hV hB (a_c24 hV.2.1 hV.1 rfl h5)
  rw [if_neg c24]
  by_cases c25 : zand (z 1000000 v) 63 = 25
  · rw [if_pos c25]
    exact w_ask hV hB (a_c25 hV.2.1 hV.1 rfl h5)
  rw [if_neg c25]
  by_cases c26 : zand (z 1000000 v) 63 = 26
  · rw [if_pos c26]
    exact w_ask hV hB (a_c26 hV.2.1 hV.1 rfl h5)
  rw [if_neg c26]
  by_cases c27 : zand (z 1000000 v) 63 = 27
  · rw [if_pos c27]
    exact w_ask hV hB (a_c27 hV.2.1 hV.1 rfl h5)
  rw [if_neg c27]
  by_cases c28 : zand (z 1000000 v) 63 = 28
  · rw [if_pos c28]
    exact w_ask hV hB (a_c28 hV.2.1 hV.1 rfl h5)
  rw [if_neg c28]
  by_cases c29 : zand (z 1000000 v) 63 = 29
  · rw [if_pos c29]
    exact w_ask hV hB (a_c29 hV.2.1 hV.1 rfl h5)
  rw [if_neg c29]
  by_cases c30 : zand (z 1000000 v) 63 = 30
  · rw [if_pos c30]
    exact w_ask hV hB (a_c30 hV.2.1 hV.1 rfl h5)
  rw [if_neg c30]
  by_cases c31 : zand (z 1000000 v) 63 = 31
  · rw [if_pos c31]
    exact w_ask hV hB (a_c31 hV.2.1 hV.1 rfl h5)
  rw [if_neg c31]
  by_cases c32 : zand (z 1000000 v) 63 = 32
  · rw [if_pos c32]
    exact w_ask hV hB (a_c32 hV.2.1 hV.1 rfl h5)
  rw [if_neg c32]
  by_cases c33 : zand (z 1000000 v) 63 = 33
  · rw [if_pos c33]
    exact w_ask hV hB (a_c33 hV.2.1 hV.1 rfl h5)
  rw [if_neg c33]
  by_cases c34 : zand (z 1000000 v) 63 = 34
  · rw [if_pos c34]
    exact w_ask hV hB (a_c34 hV.2.1 hV.1 rfl h5)
  rw [if_neg c34]
  by_cases c35 : zand (z 1000000 v) 63 = 35
  · rw [if_pos c35]
    exact w_ask hV hB (a_c35 hV.2.1 hV.1 rfl h5)
  rw [if_neg c35]
  by_cases c36 : zand (z 1000000 v) 63 = 36
  · rw [if_pos c36]
    exact w_ask hV hB (k_averageGrade hV.2.1 hV.1 rfl)
  rw [if_neg c36]
  by_cases c37 : zand (z 1000000 v) 63 = 37
  · rw [if_pos c37]
    exact w_ask hV hB (a_c37 hV.2.1 hV.1 rfl h5)
  rw [if_neg c37]
  by_cases c38 : zand (z 1000000 v) 63 = 38
  · rw [if_pos c38]
    exact w_ask hV hB (a_c38 hV.2.1 hV.1 rfl h5)
  rw [if_neg c38]
  by_cases c39 : zand (z 1000000 v) 63 = 39
  · rw [if_pos c39]
    exact w_ask hV hB (a_c39 hV.2.1 hV.1 rfl h5)
  rw [if_neg c39]
  by_cases c40 : zand (z 1000000 v) 63 = 40
  · rw [if_pos c40]
    exact w_ask hV hB (a_c40 hV.2.1 hV.1 rfl h5)
  rw [if_neg c40]
  by_cases c41 : zand (z 1000000 v) 63 = 41
  · rw [if_pos c41]
    exact w_ask hV hB (a_c41 hV.2.1 hV.1 rfl h5)
  rw [if_neg c41]
  by_cases c42 : zand (z 1000000 v) 63 = 42
  · rw [if_pos c42]
    exact w_ask hV hB (a_c42 hV.2.1 hV.1 rfl h5)
  rw [if_neg c42]
  by_cases c43 : zand (z 1000000 v) 63 = 43
  · rw [if_pos c43]
    exact w_ask hV hB (a_c43 hV.2.1 hV.1 rfl h5)
  rw [if_neg c43]
  by_cases c44 : zand (z 1000000 v) 63 = 44
  · rw [if_pos c44]
    exact w_ask hV hB (a_c44 hV.2.1 hV.1 rfl h5)
  rw [if_neg c44]
  exact w_ask hV hB ⟨z, rfl, Qt_rf z⟩
theorem w_run (hln : ln ≤ 3072) : ∀ (n : Nat) (v B : Int) (z : ZZ), INV B z → 0 ≤ v → (ln : Int) - 6 - v < 6 * n → B + 60 * n ≤ 900000 → ∃ z', zlp (fun q => fL_step ln q.1 q.2) (n + 1) (v, z) = some (1, z')
  | 0, v, B, z, hV, h0, h1, h2 => by
    refine ⟨z, zlp_end (f := fun q : Int × ZZ => fL_step ln q.1 q.2) (s := (v, z)) ?_⟩
    show fL_step ln v z = _
    unfold fL_step
    rw [if_pos (inR_s (by omega)), if_pos (by omega)]
  | n + 1, v, B, z, hV, h0, h1, h2 => by
    by_cases c : (ln : Int) - 6 < v
    · refine ⟨z, zlp_end (f := fun q : Int × ZZ => fL_step ln q.1 q.2) (s := (v, z)) ?_⟩
      show fL_step ln v z = _
      unfold fL_step
      rw [if_pos (inR_s (by omega)), if_pos c]
    · obtain ⟨z1, e1, V1, s1⟩ := w_sel (ln := ln) hV (by omega) (v := v) (by omega)
      have st : fL_step ln v z = some (.inl (v + 6, z1)) := by
        unfold fL_step
        rw [if_pos (inR_s (by omega)), if_neg c, if_pos (by omega), e1]
        simp only [Option.bind_some]
        rw [if_neg (by decide), if_pos (by decide), if_pos (inR_s (by omega))]
      obtain ⟨z', e'⟩ := w_run hln n (v + 6) (B + 60) z1 V1 (by omega) (by omega) (by omega)
      exact ⟨z', by rw [zlp_next (f := fun q : Int × ZZ => fL_step ln q.1 q.2) (s := (v, z)) st]; exact e'⟩
end SL

/-! the law's case of truncating -/
section WT
variable {z : ZZ} {B v : Int} {ln : Nat}
theorem w_c1 (hV : INV B z) (hB : B ≤ 900000) (h5 : 0 ≤ v ∧ v + 5 < ln) : ∃ z', fL_c1 ln v z = some (1, z') ∧ INV (B + 60) z' ∧ z' 1000000 = z 1000000 := by
  obtain ⟨hR, hI, hH, hT⟩ := hV
  have hT' := hT
  obtain ⟨t1, t2, t3, t4⟩ := hT
  generalize hw : z 1000000 (v + 1) = w
  by_cases q : 0 ≤ w ∧ w ≤ z 16 1
  · have a1 : fL_truncate w z = some (0, zup (zup z 16 1 w) 159 0 w) := by
      unfold fL_truncate fX5_truncate zl
      rw [n_btw, if_pos q]
      rfl
    have a2 : fX6_truncate w (zup (zup z 16 1 w) 159 0 w) = some (w, zup (zup (zup (zup z 16 1 w) 159 0 w) 151 0 0) 151 2 w) := by
      unfold fX6_truncate zl
      dsimp only
      rw [show zup (zup (zup z 16 1 w) 159 0 w) 151 0 0 151 2 = z 16 1 by rw [zup_at, if_neg (by decide), zup_ne (by decide), zup_ne (by decide), t1], m_in]
      simp only [Option.bind_some]
      rw [m_failsb, if_pos q]
      simp only [Option.bind_some, if_true]
    refine ⟨zup (zup (zup (zup z 16 1 w) 159 0 w) 151 0 0) 151 2 w, ?_, ?_, ?_⟩
    · unfold fL_c1
      rw [if_pos (by omega), hw, a1]
      simp only [Option.bind_some]
      rw [show zup (zup z 16 1 w) 159 0 w 1000000 = z 1000000 by rw [zup_ne (by decide), zup_ne (by decide)], hw, a2]
      simp only [Option.bind_some]
      rw [show fX6_thrown (zup (zup (zup (zup z 16 1 w) 159 0 w) 151 0 0) 151 2 w) = some 0 by
        unfold fX6_thrown
        rw [zup_at, if_neg (by decide), zup_at, if_pos rfl]]
      simp only [Option.bind_some, if_true]
      rw [zup_ne (b := 159) (by decide), zup_ne (b := 159) (by decide), zup_at, if_pos rfl, zcmp_eq, if_pos rfl]
    · generalize hZ : zup (zup (zup (zup z 16 1 w) 159 0 w) 151 0 0) 151 2 w = Z
      have eZ : ∀ a, a ≠ 16 → a ≠ 151 → a ≠ 159 → Z a = z a := fun a p1 p2 p3 => by rw [← hZ, zup_ne p2, zup_ne p2, zup_ne p3, zup_ne p1]
      have e16 : Z 16 1 = w := by rw [← hZ, zup_ne (by decide), zup_ne (by decide), zup_ne (by decide), zup_at, if_pos rfl]
      have e151 : ∀ j, j ≠ 0 → j ≠ 2 → Z 151 j = z 151 j := fun j p q => by rw [← hZ, zup_at, if_neg q, zup_at, if_neg p, zup_ne (by decide), zup_ne (by decide)]
      have e2 : Z 151 2 = w := by rw [← hZ, zup_at, if_pos rfl]
      have e154 := eZ 154 (by decide) (by decide) (by decide)
      refine INV_mono (B := B) ⟨?_, by rw [e154]; exact hI, HT_fra hH (fun a p q => eZ a (by omega) (by omega) (by omega)) (eZ 155 (by decide) (by decide) (by decide)) (eZ 156 (by decide) (by decide) (by decide)) (e151 12 (by decide) (by decide)) (e151 13 (by decide) (by decide)), ⟨by rw [e16, e2], by rw [e16]; exact q.1, by rw [e16]; omega, fun k a b => ?_⟩⟩ (by omega) (by omega)
      · rw [e154]
        exact RH_fra (h := 3) (RC_iff.mp hR) (fun a p q => eZ a (by omega) (by omega) (by omega))
      · rw [e16] at b
        rw [eZ 30 (by decide) (by decide) (by decide), eZ 152 (by decide) (by decide) (by decide)]
        exact t4 k a (by omega)
    · rw [zup_ne (by decide), zup_ne (by decide), zup_ne (by decide), zup_ne (by decide)]
  · have a1 : fL_truncate w z = some (1, z) := by
      unfold fL_truncate fX5_truncate
      rw [n_btw, if_neg q]
      rfl
    have a2 : fX6_truncate w z = some (0, zup (zup z 151 0 0) 151 0 1) := by
      unfold fX6_truncate zl
      dsimp only
      rw [show zup z 151 0 0 151 2 = z 16 1 by rw [zup_at, if_neg (by decide), t1], m_in]
      simp only [Option.bind_some]
      rw [m_failsb, if_neg q]
      rfl
    refine w_ask ⟨hR, hI, hH, hT'⟩ hB ⟨zup (zup z 151 0 0) 151 0 1, ?_, Qt_tr Qt_e Qt_e⟩
    unfold fL_c1
    rw [if_pos (by omega), hw, a1]
    simp only [Option.bind_some]
    rw [hw, a2]
    simp only [Option.bind_some]
    rw [show fX6_thrown (zup (zup z 151 0 0) 151 0 1) = some 1 from rfl]
    rfl
end WT

/-! the law's case of restoring -/
section WR
variable {z : ZZ} {B v : Int} {ln : Nat}
theorem w_c19 (hV : INV B z) (hB : B ≤ 900000) : ∃ z', fL_c19 ln v z = some (1, z') ∧ INV (B + 60) z' ∧ z' 1000000 = z 1000000 := by
  obtain ⟨hR, hI, hH, hT⟩ := hV
  have hn := hI.1
  unfold IHn at hn
  have h4 := hH.2.2.1
  by_cases q : z 32 4 = 0
  · have a1 : fL_restore z = some (1, z) := by
      unfold fL_restore fX5_restore
      rw [if_pos q]
      rfl
    have a2 : fX6_restore z = some (0, zup (zup z 151 0 0) 151 0 1) := by
      unfold fX6_restore zl
      dsimp only
      rw [show zup z 151 0 0 151 13 = 0 by rw [zup_at, if_neg (by decide), ← h4.1, q], m_fails0]
      rfl
    refine w_ask ⟨hR, hI, hH, hT⟩ hB ⟨zup (zup z 151 0 0) 151 0 1, ?_, Qt_tr Qt_e Qt_e⟩
    unfold fL_c19
    rw [a1]
    simp only [Option.bind_some]
    rw [a2]
    simp only [Option.bind_some]
    rw [show fX6_thrown (zup (zup z 151 0 0) 151 0 1) = some 1 from rfl]
    rfl
  · have q1 : z 32 4 = 1 := h4.2.resolve_left q
    obtain ⟨hS, hSI⟩ := hH.2.2.2 q1
    obtain ⟨z1, e1, h1, f1⟩ := c_copy kH3 kH138 (by omega) hSI.1 hS
    have a1 : fL_restore z = some (0, zup (zup z1 32 1 0) 159 0 (z 155 3)) := by
      unfold fL_restore fX5_restore fX2_bringBackCopy zl
      rw [if_neg q, e1]
      simp only [Option.bind_some]
      rw [zup_ne (b := 3) (by decide), h1.2.2.2.2.2.2.1]
    generalize hy : zup (zup z1 32 1 0) 159 0 (z 155 3) = y at a1
    have fy : ∀ a, a ≠ 32 → a ≠ 159 → ¬ (3 ≤ a ∧ a ≤ 15) → y a = z a := fun a p1 p2 p3 => by rw [← hy, zup_ne p2, zup_ne p1, f1 a (by omega)]
    have a2 : fX6_restore y = some (z 155 3, zup (cpz (zup y 151 0 0) 154 0 (z 155) 765) 151 12 0) := by
      unfold fX6_restore zl
      dsimp only
      rw [show zup y 151 0 0 151 13 = 1 by rw [zup_at, if_neg (by decide), fy 151 (by omega) (by omega) (by omega), ← h4.1, q1], m_fails1]
      simp only [Option.bind_some, if_true]
      rw [m_restore_lp]
      simp only [Option.bind_some]
      rw [zup_ne (b := 154) (by decide), cpz_at, if_pos (by omega), zup_ne (b := 155) (by decide), fy 155 (by omega) (by omega) (by omega)]
      rfl
    refine ⟨zup (cpz (zup y 151 0 0) 154 0 (z 155) 765) 151 12 0, ?_, ?_, ?_⟩
    · unfold fL_c19
      rw [a1]
      simp only [Option.bind_some]
      rw [a2]
      simp only [Option.bind_some]
      rw [show fX6_thrown (zup (cpz (zup y 151 0 0) 154 0 (z 155) 765) 151 12 0) = some 0 by
        unfold fX6_thrown
        rw [zup_at, if_neg (by decide), cpz_ne (by decide), zup_at, if_pos rfl]]
      simp only [Option.bind_some, if_true]
      rw [zup_ne (b := 159) (by decide), cpz_ne (b := 159) (by decide), zup_ne (b := 159) (by decide), ← hy, zup_at, if_pos rfl, zcmp_eq, if_pos rfl]
    · generalize hZ : zup (cpz (zup y 151 0 0) 154 0 (z 155) 765) 151 12 0 = Z
      have eZ : ∀ a, a ≠ 32 → a ≠ 151 → a ≠ 154 → a ≠ 159 → ¬ (3 ≤ a ∧ a ≤ 15) → Z a = z a := fun a p1 p2 p3 p4 p5 => by rw [← hZ, zup_ne p2, cpz_ne p3, zup_ne p2, fy a p1 p4 p5]
      have e32 : ∀ j, Z 32 j = if j = 1 then 0 else z 32 j := fun j => by rw [← hZ, zup_ne (by decide), cpz_ne (by decide), zup_ne (by decide), ← hy, zup_ne (by decide), zup_at, f1 32 (by omega)]
      have e151 : ∀ j, j ≠ 0 → j ≠ 12 → Z 151 j = z 151 j := fun j p q => by rw [← hZ, zup_at, if_neg q, cpz_ne (by decide), zup_at, if_neg p, fy 151 (by omega) (by omega) (by omega)]
      have e12 : Z 151 12 = 0 := by rw [← hZ, zup_at, if_pos rfl]
      have e154 : ∀ i, 0 ≤ i → i < 765 → Z 154 i = z 155 i := fun i p q => by rw [← hZ, zup_ne (by decide), cpz_at, if_pos (by omega), Int.sub_zero]
      have e3 : ∀ a, 3 ≤ a → a ≤ 15 → Z a = z1 a := fun a p q => by rw [← hZ, zup_ne (by omega), cpz_ne (by omega), zup_ne (by omega), ← hy, zup_ne (by omega), zup_ne (by omega)]
      have e155 := eZ 155 (by omega) (by omega) (by omega) (by omega) (by omega)
      have g1 : Z 32 1 = 0 := by rw [e32, if_pos rfl]
      have g2 : Z 32 2 = z 32 2 := by rw [e32, if_neg (by decide)]
      have g4 : Z 32 4 = z 32 4 := by rw [e32, if_neg (by decide)]
      refine INV_mono (B := B) ⟨?_, IH_congr hSI e154, ⟨by rw [g1, g2, e12]; have := hH.1; omega, fun j a b => by rw [g1] at b; omega, ⟨by rw [g4, e151 13 (by decide) (by decide)]; exact h4.1, by rw [g4]; exact h4.2⟩, fun _ => ?_⟩, TX_fra hT (by rw [eZ 16 (by omega) (by omega) (by omega) (by omega) (by omega)]) (eZ 30 (by omega) (by omega) (by omega) (by omega) (by omega)) (e151 2 (by decide) (by decide)) (eZ 152 (by omega) (by omega) (by omega) (by omega) (by omega))⟩ (by omega) (by omega)
      · exact RH_congr (RH_fra (h := 3) h1 (fun a p q => e3 a p (by omega))) hSI.1 e154
      · rw [e155]
        exact ⟨RH_fra hS (fun a p q => eZ a (by omega) (by omega) (by omega) (by omega) (by omega)), hSI⟩
    · rw [zup_ne (by decide), cpz_ne (by decide), zup_ne (by decide), fy _ (by omega) (by omega) (by omega)]
end WR

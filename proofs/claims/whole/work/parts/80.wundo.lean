/-! the law's case of undoing -/
section WU
variable {z : ZZ} {B v : Int} {ln : Nat}
theorem w_c16 (hV : INV B z) (hB : B ≤ 900000) : ∃ z', fL_c16 ln v z = some (1, z') ∧ INV (B + 60) z' ∧ z' 1000000 = z 1000000 := by
  obtain ⟨hR, hI, hH, hT⟩ := hV
  have hn := hI.1
  unfold IHn at hn
  have h4 := hH.2.2.1
  obtain ⟨p0, p1, p2, p3, p4⟩ := hH.1
  by_cases q : z 32 1 = 0
  · have a1 : fL_undo z = some (1, z) := by
      unfold fL_undo fX5_undo
      rw [if_pos q]
      rfl
    have a2 : fX6_undo z = some (0, zup (zup z 151 0 0) 151 0 1) := by
      unfold fX6_undo fX6_undo_b18 zl
      dsimp only
      rw [show zup z 151 0 0 151 12 = 0 by rw [zup_at, if_neg (by decide), ← p0, q], if_neg (by decide), m_fails0]
      rfl
    refine w_ask ⟨hR, hI, hH, hT⟩ hB ⟨zup (zup z 151 0 0) 151 0 1, ?_, Qt_tr Qt_e Qt_e⟩
    unfold fL_c16
    rw [a1]
    simp only [Option.bind_some]
    rw [a2]
    simp only [Option.bind_some]
    rw [show fX6_thrown (zup (zup z 151 0 0) 151 0 1) = some 1 from rfl]
    rfl
  · obtain ⟨hS, hSI⟩ := hH.2.1 0 (by omega) (by omega)
    rw [show (z 32 2 - 0) % 8 = z 32 2 by omega] at hS
    have hk : (z 32 2).toNat < 8 := by omega
    obtain ⟨z1, e1, h1, f1⟩ := c_copy kH3 (isH_k _ hk) (by omega) hSI.1 hS
    have a1 : fL_undo z = some (0, zup (zup (zup z1 32 2 ((z 32 2 + 8 - 1) % 8)) 32 1 (z 32 1 - 1)) 159 0 (z 32 1 - 1)) := by
      have b1 : z1 32 = z 32 := f1 32 (by omega)
      unfold fL_undo fX5_undo fX2_takeBack fX2_latestHall fX2_takeBack_b14 zl
      dsimp only
      rw [if_neg q, if_neg (by omega), if_pos (by omega)]
      simp only [Option.bind_some]
      rw [e1]
      simp only [Option.bind_some]
      rw [b1, if_pos (inR_s (by omega)), if_pos (by omega), show zup z1 32 2 ((z 32 2 + 8 - 1) % 8) 32 1 = z 32 1 by rw [zup_at, if_neg (by decide), b1], if_pos (inR_s (by omega)), show max (z 32 1 - 1) 0 = z 32 1 - 1 by omega]
      simp only [Option.bind_some]
      rw [zup_at, if_pos rfl]
    generalize hy : zup (zup (zup z1 32 2 ((z 32 2 + 8 - 1) % 8)) 32 1 (z 32 1 - 1)) 159 0 (z 32 1 - 1) = y at a1
    have fy : ∀ a, a ≠ 32 → a ≠ 159 → ¬ (3 ≤ a ∧ a ≤ 15) → y a = z a := fun a p1 p2 p3 => by rw [← hy, zup_ne p2, zup_ne p1, zup_ne p1, f1 a (by omega)]
    have u12 : zup y 151 0 0 151 12 = z 32 1 := by rw [zup_at, if_neg (by decide), fy 151 (by omega) (by omega) (by omega), ← p0]
    have a2 : fX6_undo y = some (z 32 1 - 1, cpz (zup (zup y 151 0 0) 151 12 (z 32 1 - 1)) 154 0 (fun j => z 156 (765 * (z 32 1 - 1) + j)) 765) := by
      have ml := m_undo_lp (z := zup (zup y 151 0 0) 151 12 (z 32 1 - 1)) (u := z 32 1 - 1) (by rw [zup_at, if_pos rfl]) (by omega)
      rw [show zup (zup y 151 0 0) 151 12 (z 32 1 - 1) 156 = z 156 by rw [zup_ne (by decide), zup_ne (by decide), fy 156 (by omega) (by omega) (by omega)]] at ml
      unfold fX6_undo fX6_undo_b18 zl
      dsimp only
      rw [u12, if_pos (by omega), m_fails1]
      simp only [Option.bind_some, if_true]
      rw [u12, if_pos (inR_s (by omega)), ml]
      simp only [Option.bind_some]
      rw [cpz_ne (by decide), zup_at, if_pos rfl]
    refine ⟨cpz (zup (zup y 151 0 0) 151 12 (z 32 1 - 1)) 154 0 (fun j => z 156 (765 * (z 32 1 - 1) + j)) 765, ?_, ?_, ?_⟩
    · unfold fL_c16
      rw [a1]
      simp only [Option.bind_some]
      rw [a2]
      simp only [Option.bind_some]
      rw [show fX6_thrown (cpz (zup (zup y 151 0 0) 151 12 (z 32 1 - 1)) 154 0 (fun j => z 156 (765 * (z 32 1 - 1) + j)) 765) = some 0 by
        unfold fX6_thrown
        rw [cpz_ne (by decide), zup_at, if_neg (by decide), zup_at, if_pos rfl]]
      simp only [Option.bind_some, if_true]
      rw [cpz_ne (b := 159) (by decide), zup_ne (b := 159) (by decide), zup_ne (b := 159) (by decide), ← hy, zup_at, if_pos rfl, zcmp_eq, if_pos rfl]
    · generalize hZ : cpz (zup (zup y 151 0 0) 151 12 (z 32 1 - 1)) 154 0 (fun j => z 156 (765 * (z 32 1 - 1) + j)) 765 = Z
      have eZ : ∀ a, a ≠ 32 → a ≠ 151 → a ≠ 154 → a ≠ 159 → ¬ (3 ≤ a ∧ a ≤ 15) → Z a = z a := fun a p1 p2 p3 p4 p5 => by rw [← hZ, cpz_ne p3, zup_ne p2, zup_ne p2, fy a p1 p4 p5]
      have e32 : ∀ j, Z 32 j = if j = 1 then z 32 1 - 1 else if j = 2 then (z 32 2 + 8 - 1) % 8 else z 32 j := fun j => by rw [← hZ, cpz_ne (by decide), zup_ne (by decide), zup_ne (by decide), ← hy, zup_ne (by decide), zup_at, zup_at, f1 32 (by omega)]
      have e151 : ∀ j, j ≠ 0 → j ≠ 12 → Z 151 j = z 151 j := fun j p q => by rw [← hZ, cpz_ne (by decide), zup_at, if_neg q, zup_at, if_neg p, fy 151 (by omega) (by omega) (by omega)]
      have e12 : Z 151 12 = z 32 1 - 1 := by rw [← hZ, cpz_ne (by decide), zup_at, if_pos rfl]
      have e154 : ∀ i, 0 ≤ i → i < 765 → Z 154 i = hRow z (z 32 1) 0 i := fun i p q => by
        rw [← hZ, cpz_at, if_pos (by omega)]
        show z 156 _ = z 156 _
        congr 1
        omega
      have e3 : ∀ a, 3 ≤ a → a ≤ 15 → Z a = z1 a := fun a p q => by rw [← hZ, cpz_ne (by omega), zup_ne (by omega), zup_ne (by omega), ← hy, zup_ne (by omega), zup_ne (by omega), zup_ne (by omega)]
      have e155 := eZ 155 (by omega) (by omega) (by omega) (by omega) (by omega)
      have e156 := eZ 156 (by omega) (by omega) (by omega) (by omega) (by omega)
      have g1 : Z 32 1 = z 32 1 - 1 := by rw [e32, if_pos rfl]
      have g2 : Z 32 2 = (z 32 2 + 8 - 1) % 8 := by rw [e32, if_neg (by decide), if_pos rfl]
      have g4 : Z 32 4 = z 32 4 := by rw [e32, if_neg (by decide), if_neg (by decide)]
      refine INV_mono (B := B) ⟨?_, IH_congr hSI e154, ⟨by rw [g1, g2, e12]; omega, fun j a b => ?_, ⟨by rw [g4, e151 13 (by decide) (by decide)]; exact h4.1, by rw [g4]; exact h4.2⟩, fun w => ?_⟩, TX_fra hT (by rw [eZ 16 (by omega) (by omega) (by omega) (by omega) (by omega)]) (eZ 30 (by omega) (by omega) (by omega) (by omega) (by omega)) (e151 2 (by decide) (by decide)) (eZ 152 (by omega) (by omega) (by omega) (by omega) (by omega))⟩ (by omega) (by omega)
      · exact RH_congr (RH_fra (h := 3) h1 (fun a p q => e3 a p (by omega))) hSI.1 e154
      · rw [g1] at b
        rw [g1, g2]
        have ho := hH.2.1 (j + 1) (by omega) (by omega)
        have er : hRow Z (z 32 1 - 1) j = hRow z (z 32 1) (j + 1) := by
          funext i
          show Z 156 _ = z 156 _
          rw [e156]
          congr 1
          omega
        rw [er, show ((z 32 2 + 8 - 1) % 8 - j) % 8 = (z 32 2 - (j + 1)) % 8 by omega]
        exact ⟨RH_fra ho.1 (fun a p q => eZ a (by omega) (by omega) (by omega) (by omega) (by omega)), ho.2⟩
      · rw [g4] at w
        rw [e155]
        exact ⟨RH_fra (hH.2.2.2 w).1 (fun a p q => eZ a (by omega) (by omega) (by omega) (by omega) (by omega)), (hH.2.2.2 w).2⟩
    · rw [cpz_ne (by decide), zup_ne (by decide), zup_ne (by decide), fy _ (by omega) (by omega) (by omega)]
end WU

/-! the law's case of a check -/
section WK
variable {z : ZZ} {B v : Int} {ln : Nat}
theorem w_c10 (hV : INV B z) (hB : B ≤ 900000) (h5 : 0 ≤ v ∧ v + 5 < ln) : ∃ z', fL_c10 ln v z = some (1, z') ∧ INV (B + 60) z' ∧ z' 1000000 = z 1000000 := by
  have hg := hV.2.2.1.1
  have key : ∀ w : Int, (z 1000000 (v + 2) = 0 → w = 0) → (¬ z 1000000 (v + 2) = 0 → w = 1) → ∃ z', fL_law_b874 ln v (z 1000000 (v + 1)) w z = some (1, z') ∧ INV (B + 60) z' ∧ z' 1000000 = z 1000000 := by
    intro w w1 w2
    have hk := k_check hV.2.1 hB (z 1000000 (v + 1)) w
    obtain ⟨c, z1, e1, es⟩ : ∃ c z1, fL_check (z 1000000 (v + 1)) w z = some (c, z1) ∧ z1 1000000 = z 1000000 := by
      rcases hk with ⟨r', u, h1, h2⟩ | ⟨c, u, h1, h2⟩
      · obtain ⟨z1, e1, _, _, w3⟩ := h1.1 z hV.1 ⟨hg.2.1, hg.2.2.1⟩ ⟨hg.2.2.2.1, hg.2.2.2.2⟩
        exact ⟨0, z1, e1, w3.2.2.2.2 1000000 (by omega) (by omega) (by omega) (by omega) (by omega) (by omega) (by omega)⟩
      · obtain ⟨z1, e1, f1, _⟩ := h1 z hV.1
        exact ⟨c, z1, e1, f1.1 1000000 (by decide)⟩
    obtain ⟨z', e, f⟩ := w_of hV hB hk (M := fX6_check (z 1000000 (v + 1)) w) (fun y hy => rfl)
    refine ⟨z', ?_, f⟩
    unfold tail at e
    rw [e1] at e
    have fin : fL_law_b901 ln v c (z 1000000 (v + 1)) w z1 = some (1, z') := e
    unfold fL_law_b874
    rw [e1]
    simp only [Option.bind_some]
    rw [if_pos (by omega), if_pos (by omega), es]
    by_cases q : z 1000000 (v + 2) = 0
    · rw [if_pos q]
      have e := w1 q
      subst e
      exact fin
    · rw [if_neg q]
      have e := w2 q
      subst e
      exact fin
  unfold fL_c10
  rw [if_pos (by omega), if_pos (by omega)]
  by_cases q : z 1000000 (v + 2) = 0
  · rw [if_pos q]
    exact key 0 (fun _ => rfl) (fun x => absurd q x)
  · rw [if_neg q]
    exact key 1 (fun x => absurd x q) (fun _ => rfl)
theorem w_ask {X : Option (Int × ZZ)} (hV : INV B z) (hB : B ≤ 900000) (h : ∃ z', X = some (1, z') ∧ Qt z z') : ∃ z', X = some (1, z') ∧ INV (B + 60) z' ∧ z' 1000000 = z 1000000 := by
  obtain ⟨z', e, f⟩ := h
  exact ⟨z', e, INV_mono (INV_Qt hV f) (by omega) (by omega), f.1 1000000 (by decide)⟩
/-- saving a copy -/
theorem w_c18 (hV : INV B z) (hB : B ≤ 900000) : ∃ z', fL_c18 ln v z = some (1, z') ∧ INV (B + 60) z' ∧ z' 1000000 = z 1000000 := by
  obtain ⟨hR, hI, hH, hT⟩ := hV
  have hn := hI.1
  unfold IHn at hn
  obtain ⟨z1, e1, h1, f1⟩ := c_copy kH138 kH3 (by omega) hI.1 (RC_iff.mp hR)
  have c1 : fX5_save z = some (z 154 3, zup z1 32 4 1) := by
    unfold fX5_save fX2_keepCopy zl
    rw [e1]
    simp only [Option.bind_some]
    rw [zup_ne (by decide), f1 3 (by omega), (RCn hR).2.2.2.2.2.2.1]
  generalize hy : zup z1 32 4 1 = y at c1
  have fy : ∀ a, a ≠ 32 → ¬ (138 ≤ a ∧ a ≤ 150) → y a = z a := fun a p q => by rw [← hy, zup_ne p, f1 a (by omega)]
  have m1 : fX6_save y = some (z 154 3, zup (cpz (zup y 151 0 0) 155 0 (z 154) 765) 151 13 1) := by
    unfold fX6_save zl
    dsimp only
    rw [m_save_lp]
    simp only [Option.bind_some]
    rw [zup_ne (b := 154) (by decide), cpz_ne (b := 154) (by decide), zup_ne (b := 154) (by decide), fy 154 (by omega) (by omega)]
  refine ⟨zup (cpz (zup y 151 0 0) 155 0 (z 154) 765) 151 13 1, ?_, ?_, ?_⟩
  · unfold fL_c18
    rw [c1]
    simp only [Option.bind_some]
    rw [m1]
    simp only [Option.bind_some]
    rw [if_pos True.intro]
  · generalize hZ : zup (cpz (zup y 151 0 0) 155 0 (z 154) 765) 151 13 1 = Z
    have eZ : ∀ a, a ≠ 32 → a ≠ 151 → a ≠ 155 → ¬ (138 ≤ a ∧ a ≤ 150) → Z a = z a := fun a p1 p2 p3 p4 => by rw [← hZ, zup_ne p2, cpz_ne p3, zup_ne p2, fy a p1 p4]
    have e32 : ∀ j, Z 32 j = if j = 4 then 1 else z 32 j := fun j => by rw [← hZ, zup_ne (by decide), cpz_ne (by decide), zup_ne (by decide), ← hy, zup_at, f1 32 (by omega)]
    have e151 : ∀ j, j ≠ 0 → j ≠ 13 → Z 151 j = z 151 j := fun j p q => by rw [← hZ, zup_at, if_neg q, cpz_ne (by decide), zup_at, if_neg p, fy 151 (by omega) (by omega)]
    have e13 : Z 151 13 = 1 := by rw [← hZ, zup_at, if_pos rfl]
    have e155 : ∀ i, 0 ≤ i → i < 765 → Z 155 i = z 154 i := fun i p q => by rw [← hZ, zup_ne (by decide), cpz_at, if_pos (by omega), Int.sub_zero]
    have e138 : ∀ a, 138 ≤ a → a ≤ 150 → Z a = z1 a := fun a p q => by rw [← hZ, zup_ne (by omega), cpz_ne (by omega), zup_ne (by omega), ← hy, zup_ne (by omega)]
    have e154 := eZ 154 (by omega) (by omega) (by omega) (by omega)
    have g1 : Z 32 1 = z 32 1 := by rw [e32, if_neg (by decide)]
    have g2 : Z 32 2 = z 32 2 := by rw [e32, if_neg (by decide)]
    have g4 : Z 32 4 = 1 := by rw [e32, if_pos rfl]
    refine INV_mono (B := B) ⟨?_, by rw [e154]; exact hI, ⟨?_, fun j a b => ?_, ⟨by rw [g4, e13], Or.inr g4⟩, fun _ => ⟨?_, ?_⟩⟩, TX_fra hT (by rw [eZ 16 (by omega) (by omega) (by omega) (by omega)]) (eZ 30 (by omega) (by omega) (by omega) (by omega)) (e151 2 (by decide) (by decide)) (eZ 152 (by omega) (by omega) (by omega) (by omega))⟩ (by omega) (by omega)
    · rw [e154]
      exact RH_fra (h := 3) (RC_iff.mp hR) (fun a p q => eZ a (by omega) (by omega) (by omega) (by omega))
    · rw [g1, g2, e151 12 (by decide) (by decide)]
      exact hH.1
    · rw [g1] at b
      rw [g1, g2]
      have ho := hH.2.1 j a b
      unfold hRow at *
      rw [eZ 156 (by omega) (by omega) (by omega) (by omega)]
      exact ⟨RH_fra ho.1 (fun a p q => eZ a (by omega) (by omega) (by omega) (by omega)), ho.2⟩
    · exact RH_congr (RH_fra h1 (fun a p q => e138 a p q)) hI.1 e155
    · exact IH_congr hI e155
  · rw [zup_ne (by decide), cpz_ne (by decide), zup_ne (by decide), fy _ (by omega) (by omega)]
end WK

def fL_sel (ln : Nat) (v5 : Int) (z : ZZ) : Option (Int × ZZ) := (if zand (z 1000000 v5) 63 = 0 then fL_c0 ln v5 z else (if zand (z 1000000 v5) 63 = 1 then fL_c1 ln v5 z else (if zand (z 1000000 v5) 63 = 2 then fL_c2 ln v5 z else (if zand (z 1000000 v5) 63 = 3 then fL_c3 ln v5 z else (if zand (z 1000000 v5) 63 = 4 then fL_c4 ln v5 z else (if zand (z 1000000 v5) 63 = 5 then fL_c5 ln v5 z else (if zand (z 1000000 v5) 63 = 6 then fL_c6 ln v5 z else (if zand (z 1000000 v5) 63 = 7 then fL_c7 ln v5 z else (if zand (z 1000000 v5) 63 = 8 then fL_c8 ln v5 z else (if zand (z 1000000 v5) 63 = 9 then fL_c9 ln v5 z else (if zand (z 1000000 v5) 63 = 10 then fL_c10 ln v5 z else (if zand (z 1000000 v5) 63 = 11 then fL_c11 ln v5 z else (if zand (z 1000000 v5) 63 = 12 then fL_c12 ln v5 z else (if zand (z 1000000 v5) 63 = 13 then fL_c13 ln v5 z else (if zand (z 1000000 v5) 63 = 14 then fL_c14 ln v5 z else (if zand (z 1000000 v5) 63 = 15 then fL_c15 ln v5 z else (if zand (z 1000000 v5) 63 = 16 then fL_c16 ln v5 z else (if zand (z 1000000 v5) 63 = 17 then fL_c17 ln v5 z else (if zand (z 1000000 v5) 63 = 18 then fL_c18 ln v5 z else (if zand (z 1000000 v5) 63 = 19 then fL_c19 ln v5 z else (if zand (z 1000000 v5) 63 = 20 then fL_c20 ln v5 z else (if zand (z 1000000 v5) 63 = 21 then fL_c21 ln v5 z else (if zand (z 1000000 v5) 63 = 22 then fL_c22 ln v5 z else (if zand (z 1000000 v5) 63 = 23 then fL_c23 ln v5 z else (if zand (z 1000000 v5) 63 = 24 then fL_c24 ln v5 z else (if zand (z 1000000 v5) 63 = 25 then fL_c25 ln v5 z else (if zand (z 1000000 v5) 63 = 26 then fL_c26 ln v5 z else (if zand (z 1000000 v5) 63 = 27 then fL_c27 ln v5 z else (if zand (z 1000000 v5) 63 = 28 then fL_c28 ln v5 z else (if zand (z 1000000 v5) 63 = 29 then fL_c29 ln v5 z else (if zand (z 1000000 v5) 63 = 30 then fL_c30 ln v5 z else (if zand (z 1000000 v5) 63 = 31 then fL_c31 ln v5 z else (if zand (z 1000000 v5) 63 = 32 then fL_c32 ln v5 z else (if zand (z 1000000 v5) 63 = 33 then fL_c33 ln v5 z else (if zand (z 1000000 v5) 63 = 34 then fL_c34 ln v5 z else (if zand (z 1000000 v5) 63 = 35 then fL_c35 ln v5 z else (if zand (z 1000000 v5) 63 = 36 then fL_c36 ln v5 z else (if zand (z 1000000 v5) 63 = 37 then fL_c37 ln v5 z else (if zand (z 1000000 v5) 63 = 38 then fL_c38 ln v5 z else (if zand (z 1000000 v5) 63 = 39 then fL_c39 ln v5 z else (if zand (z 1000000 v5) 63 = 40 then fL_c40 ln v5 z else (if zand (z 1000000 v5) 63 = 41 then fL_c41 ln v5 z else (if zand (z 1000000 v5) 63 = 42 then fL_c42 ln v5 z else (if zand (z 1000000 v5) 63 = 43 then fL_c43 ln v5 z else (if zand (z 1000000 v5) 63 = 44 then fL_c44 ln v5 z else some (1, z))))))))))))))))))))))))))))))))))))))))))))))
def fL_step (ln : Nat) (v5 : Int) (z : ZZ) : Option ((Int × ZZ) ⊕ (Int × ZZ)) := if inR ((ln : Int) - 6) then (if (ln : Int) - 6 < v5 then some (.inr (1, z)) else (if 0 ≤ v5 ∧ v5 < (ln : Int) then Option.bind (fL_sel ln v5 z) fun q => match q with | (r, z1) => (if r = 0 then some (.inr (0, z1)) else (if r = 1 then (if inR (v5 + 6) then some (.inl (v5 + 6, z1)) else none) else none)) else none)) else none
set_option maxRecDepth 100000 in
theorem SL_law {ln N : Nat} {z : ZZ} {v5 : Int} {Nm c0 s0 c9 s9 : Nat} {Φ : xRes → xS → Prop} (hN : 161 ≤ N ∧ N < 999999) (hz : okz z) (hln : isLn ln) (rv5 : inR v5) {p : (Int × ZZ) ⊕ (Int × ZZ)} (h : fL_step ln v5 z = some p) (hR : N + 1 ≤ Nm ∧ c0 + 1 ≤ c9 ∧ s0 + 6 ≤ s9 ∧ Nm < 999999)
    (k1 : ∀ (N' : Nat) (v5' : Int) (z' : ZZ), p = .inl (v5', z') → 161 ≤ N' → N' ≤ Nm → inR v5' → okz z' → X mL_law 28 [some (.ref (1000000)), some (.ref (0)), some (.ref (151)), some (.ref (159)), some (.ref (160)), some (.int (iN (v5'))), none, none, none] [] (zmk ln N' z') c0 s0 Φ) (k0 : ∀ (N' : Nat) (r : Int) (z' : ZZ), p = .inr (r, z') → (r = 0 ∨ r = 1) → 161 ≤ N' → N' ≤ Nm → okz z' → Φ (.inl (some (.int (iN r)))) (zmk ln N' z')) : X mL_law 28 [some (.ref (1000000)), some (.ref (0)), some (.ref (151)), some (.ref (159)), some (.ref (160)), some (.int (iN (v5))), none, none, none] [] (zmk ln N z) c9 s9 Φ := by
  unfold fL_step at h
  refine X_iload (pc' := 30) dL_law_28 rfl rfl ?_
  refine X_aload_n (pc' := 31) dL_law_30 rfl rfl ?_
  refine X_alenS (pc' := 32) dL_law_31 rfl (by decide) (shS ln) (Or.inl rfl) ?_
  refine X_bipush (pc' := 34) dL_law_32 rfl (by decide) ?_
  refine X_isub (pc' := 35) dL_law_34 rfl ?_
  obtain ⟨g1, h⟩ := gs h
  refine X_icmp_gt dL_law_35 (tgt := 2966) rfl (pc' := 38) rfl ⟨rv5.1, rv5.2, g1.1, g1.2⟩ (fun c1 => ?_) (fun c1 => ?_)
  · have h := if_t c1 h
    refine X_iconst (pc' := 2967) dL_law_2966 rfl ?_
    cases h
    exact X_zret dL_law_2967 rfl (Or.inr rfl) (k0 _ _ _ rfl (Or.inr rfl) hN.1 (by omega) hz)
  have h := if_f (Int.not_lt.mpr c1) h
  obtain ⟨g2, h⟩ := gs h
  refine X_aload_n (pc' := 39) dL_law_38 rfl rfl ?_
  refine X_iload (pc' := 41) dL_law_39 rfl rfl ?_
  refine Y_ialdS (pc' := 42) dL_law_41 rfl (shS ln) hln g2 ?_
  refine X_bipush (pc' := 44) dL_law_42 rfl (by decide) ?_
  refine X_iand (pc' := 45) dL_law_44 rfl ?_
  obtain ⟨⟨r, z1⟩, q1, h⟩ := bs h
  have kk1 : ∀ (N' : Nat) (z' : ZZ), (r, z1) = (1, z') → 161 ≤ N' → N' ≤ Nm → okz z' → X mL_law 2960 [some (.ref (1000000)), some (.ref (0)), some (.ref (151)), some (.ref (159)), some (.ref (160)), some (.int (iN (v5))), none, none, none] [] (zmk ln N' z') c0 s0 Φ := by
    intro N' z' e a1 a2 a3
    cases e
    have h := if_t rfl (if_f (by decide) h)
    obtain ⟨g3, h⟩ := gs h
    cases h
    refine X_iinc (pc' := 2963) dL_law_2960 rfl rfl (Or.inr rfl) (L' := [some (.ref (1000000)), some (.ref (0)), some (.ref (151)), some (.ref (159)), some (.ref (160)), some (.int (iN (v5 + 6))), none, none, none]) rfl ?_
    refine X_goto dL_law_2963 (tgt := 28) rfl ?_
    exact k1 _ _ _ rfl a1 a2 g3 a3
  have kk0 : ∀ (N' : Nat) (z' : ZZ), (r, z1) = (0, z') → 161 ≤ N' → N' ≤ Nm → okz z' → Φ (.inl (some (.int (iN 0)))) (zmk ln N' z') := by
    intro N' z' e a1 a2 a3
    cases e
    have h := if_t rfl h
    cases h
    exact k0 _ _ _ rfl (Or.inl rfl) a1 a2 a3
  unfold fL_sel at q1
  by_cases c : zand (z 1000000 v5) 63 = 0
  · refine X_tableIn dL_law_45 (off := 195) (tgt := 240) (inR_zand _ _) (by rw [c]; decide) (by rw [c]; decide) (by rw [c]; rfl) rfl ?_
    exact TL_c0 hN hz hln rv5 (if_t c q1) hR kk1 kk0
  have q1 := if_f c q1
  have n0 := c
  clear c
  by_cases c : zand (z 1000000 v5) 63 = 1
  · refine X_tableIn dL_law_45 (off := 299) (tgt := 344) (inR_zand _ _) (by rw [c]; decide) (by rw [c]; decide) (by rw [c]; rfl) rfl ?_
    exact TL_c1 hN hz hln rv5 (if_t c q1) hR kk1 kk0
  have q1 := if_f c q1
  have n1 := c
  clear c
  by_cases c : zand (z 1000000 v5) 63 = 2
  · refine X_tableIn dL_law_45 (off := 355) (tgt := 400) (inR_zand _ _) (by rw [c]; decide) (by rw [c]; decide) (by rw [c]; rfl) rfl ?_
    exact TL_c2 hN hz hln rv5 (if_t c q1) hR kk1 kk0
  have q1 := if_f c q1
  have n2 := c
  clear c
  by_cases c : zand (z 1000000 v5) 63 = 3
  · refine X_tableIn dL_law_45 (off := 368) (tgt := 413) (inR_zand _ _) (by rw [c]; decide) (by rw [c]; decide) (by rw [c]; rfl) rfl ?_
    exact TL_c3 hN hz hln rv5 (if_t c q1) hR kk1 kk0
  have q1 := if_f c q1
  have n3 := c
  clear c
  by_cases c : zand (z 1000000 v5) 63 = 4
  · refine X_tableIn dL_law_45 (off := 412) (tgt := 457) (inR_zand _ _) (by rw [c]; decide) (by rw [c]; decide) (by rw [c]; rfl) rfl ?_
    exact TL_c4 hN hz hln rv5 (if_t c q1) hR kk1 kk0
  have q1 := if_f c q1
  have n4 := c
  clear c
  by_cases c : zand (z 1000000 v5) 63 = 5
  · refine X_tableIn dL_law_45 (off := 480) (tgt := 525) (inR_zand _ _) (by rw [c]; decide) (by rw [c]; decide) (by rw [c]; rfl) rfl ?_
    exact TL_c5 hN hz hln rv5 (if_t c q1) hR kk1 kk0
  have q1 := if_f c q1
  have n5 := c
  clear c
  by_cases c : zand (z 1000000 v5) 63 = 6
  · refine X_tableIn dL_law_45 (off := 536) (tgt := 581) (inR_zand _ _) (by rw [c]; decide) (by rw [c]; decide) (by rw [c]; rfl) rfl ?_
    exact TL_c6 hN hz hln rv5 (if_t c q1) hR kk1 kk0
  have q1 := if_f c q1
  have n6 := c
  clear c
  by_cases c : zand (z 1000000 v5) 63 = 7
  · refine X_tableIn dL_law_45 (off := 604) (tgt := 649) (inR_zand _ _) (by rw [c]; decide) (by rw [c]; decide) (by rw [c]; rfl) rfl ?_
    exact TL_c7 hN hz hln rv5 (if_t c q1) hR kk1 kk0
  have q1 := if_f c q1
  have n7 := c
  clear c
  by_cases c : zand (z 1000000 v5) 63 = 8
  · refine X_tableIn dL_law_45 (off := 684) (tgt := 729) (inR_zand _ _) (by rw [c]; decide) (by rw [c]; decide) (by rw [c]; rfl) rfl ?_
    exact TL_c8 hN hz hln rv5 (if_t c q1) hR kk1 kk0
  have q1 := if_f c q1
  have n8 := c
  clear c
  by_cases c : zand (z 1000000 v5) 63 = 9
  · refine X_tableIn dL_law_45 (off := 752) (tgt := 797) (inR_zand _ _) (by rw [c]; decide) (by rw [c]; decide) (by rw [c]; rfl) rfl ?_
    exact TL_c9 hN hz hln rv5 (if_t c q1) hR kk1 kk0
  have q1 := if_f c q1
  have n9 := c
  clear c
  by_cases c : zand (z 1000000 v5) 63 = 10
  · refine X_tableIn dL_law_45 (off := 808) (tgt := 853) (inR_zand _ _) (by rw [c]; decide) (by rw [c]; decide) (by rw [c]; rfl) rfl ?_
    exact TL_c10 hN hz hln rv5 (if_t c q1) hR kk1 kk0
  have q1 := if_f c q1
  have n10 := c
  clear c
  by_cases c : zand (z 1000000 v5) 63 = 11
  · refine X_tableIn dL_law_45 (off := 892) (tgt := 937) (inR_zand _ _) (by rw [c]; decide) (by rw [c]; decide) (by rw [c]; rfl) rfl ?_
    exact TL_c11 hN hz hln rv5 (if_t c q1) hR kk1 kk0
  have q1 := if_f c q1
  have n11 := c
  clear c
  by_cases c : zand (z 1000000 v5) 63 = 12
  · refine X_tableIn dL_law_45 (off := 960) (tgt := 1005) (inR_zand _ _) (by rw [c]; decide) (by rw [c]; decide) (by rw [c]; rfl) rfl ?_
    exact TL_c12 hN hz hln rv5 (if_t c q1) hR kk1 kk0
  have q1 := if_f c q1
  have n12 := c
  clear c
  by_cases c : zand (z 1000000 v5) 63 = 13
  · refine X_tableIn dL_law_45 (off := 1016) (tgt := 1061) (inR_zand _ _) (by rw [c]; decide) (by rw [c]; decide) (by rw [c]; rfl) rfl ?_
    exact TL_c13 hN hz hln rv5 (if_t c q1) hR kk1 kk0
  have q1 := if_f c q1
  have n13 := c
  clear c
  by_cases c : zand (z 1000000 v5) 63 = 14
  · refine X_tableIn dL_law_45 (off := 1084) (tgt := 1129) (inR_zand _ _) (by rw [c]; decide) (by rw [c]; decide) (by rw [c]; rfl) rfl ?_
    exact TL_c14 hN hz hln rv5 (if_t c q1) hR kk1 kk0
  have q1 := if_f c q1
  have n14 := c
  clear c
  by_cases c : zand (z 1000000 v5) 63 = 15
  · refine X_tableIn dL_law_45 (off := 1152) (tgt := 1197) (inR_zand _ _) (by rw [c]; decide) (by rw [c]; decide) (by rw [c]; rfl) rfl ?_
    exact TL_c15 hN hz hln rv5 (if_t c q1) hR kk1 kk0
  have q1 := if_f c q1
  have n15 := c
  clear c
  by_cases c : zand (z 1000000 v5) 63 = 16
  · refine X_tableIn dL_law_45 (off := 1208) (tgt := 1253) (inR_zand _ _) (by rw [c]; decide) (by rw [c]; decide) (by rw [c]; rfl) rfl ?_
    exact TL_c16 hN hz hln rv5 (if_t c q1) hR kk1 kk0
  have q1 := if_f c q1
  have n16 := c
  clear c
  by_cases c : zand (z 1000000 v5) 63 = 17
  · refine X_tableIn dL_law_45 (off := 1252) (tgt := 1297) (inR_zand _ _) (by rw [c]; decide) (by rw [c]; decide) (by rw [c]; rfl) rfl ?_
    exact TL_c17 hN hz hln rv5 (if_t c q1) hR kk1 kk0
  have q1 := if_f c q1
  have n17 := c
  clear c
  by_cases c : zand (z 1000000 v5) 63 = 18
  · refine X_tableIn dL_law_45 (off := 1265) (tgt := 1310) (inR_zand _ _) (by rw [c]; decide) (by rw [c]; decide) (by rw [c]; rfl) rfl ?_
    exact TL_c18 hN hz hln rv5 (if_t c q1) hR kk1 kk0
  have q1 := if_f c q1
  have n18 := c
  clear c
  by_cases c : zand (z 1000000 v5) 63 = 19
  · refine X_tableIn dL_law_45 (off := 1278) (tgt := 1323) (inR_zand _ _) (by rw [c]; decide) (by rw [c]; decide) (by rw [c]; rfl) rfl ?_
    exact TL_c19 hN hz hln rv5 (if_t c q1) hR kk1 kk0
  have q1 := if_f c q1
  have n19 := c
  clear c
  by_cases c : zand (z 1000000 v5) 63 = 20
  · refine X_tableIn dL_law_45 (off := 1322) (tgt := 1367) (inR_zand _ _) (by rw [c]; decide) (by rw [c]; decide) (by rw [c]; rfl) rfl ?_
    exact TL_c20 hN hz hln rv5 (if_t c q1) hR kk1 kk0
  have q1 := if_f c q1
  have n20 := c
  clear c
  by_cases c : zand (z 1000000 v5) 63 = 21
  · refine X_tableIn dL_law_45 (off := 1378) (tgt := 1423) (inR_zand _ _) (by rw [c]; decide) (by rw [c]; decide) (by rw [c]; rfl) rfl ?_
    exact TL_c21 hN hz hln rv5 (if_t c q1) hR kk1 kk0
  have q1 := if_f c q1
  have n21 := c
  clear c
  by_cases c : zand (z 1000000 v5) 63 = 22
  · refine X_tableIn dL_law_45 (off := 1446) (tgt := 1491) (inR_zand _ _) (by rw [c]; decide) (by rw [c]; decide) (by rw [c]; rfl) rfl ?_
    exact TL_c22 hN hz hln rv5 (if_t c q1) hR kk1 kk0
  have q1 := if_f c q1
  have n22 := c
  clear c
  by_cases c : zand (z 1000000 v5) 63 = 23
  · refine X_tableIn dL_law_45 (off := 1514) (tgt := 1559) (inR_zand _ _) (by rw [c]; decide) (by rw [c]; decide) (by rw [c]; rfl) rfl ?_
    exact TL_c23 hN hz hln rv5 (if_t c q1) hR kk1 kk0
  have q1 := if_f c q1
  have n23 := c
  clear c
  by_cases c : zand (z 1000000 v5) 63 = 24
  · refine X_tableIn dL_law_45 (off := 1582) (tgt := 1627) (inR_zand _ _) (by rw [c]; decide) (by rw [c]; decide) (by rw [c]; rfl) rfl ?_
    exact TL_c24 hN hz hln rv5 (if_t c q1) hR kk1 kk0
  have q1 := if_f c q1
  have n24 := c
  clear c
  by_cases c : zand (z 1000000 v5) 63 = 25
  · refine X_tableIn dL_law_45 (off := 1650) (tgt := 1695) (inR_zand _ _) (by rw [c]; decide) (by rw [c]; decide) (by rw [c]; rfl) rfl ?_
    exact TL_c25 hN hz hln rv5 (if_t c q1) hR kk1 kk0
  have q1 := if_f c q1
  have n25 := c
  clear c
  by_cases c : zand (z 1000000 v5) 63 = 26
  · refine X_tableIn dL_law_45 (off := 1718) (tgt := 1763) (inR_zand _ _) (by rw [c]; decide) (by rw [c]; decide) (by rw [c]; rfl) rfl ?_
    exact TL_c26 hN hz hln rv5 (if_t c q1) hR kk1 kk0
  have q1 := if_f c q1
  have n26 := c
  clear c
  by_cases c : zand (z 1000000 v5) 63 = 27
  · refine X_tableIn dL_law_45 (off := 1786) (tgt := 1831) (inR_zand _ _) (by rw [c]; decide) (by rw [c]; decide) (by rw [c]; rfl) rfl ?_
    exact TL_c27 hN hz hln rv5 (if_t c q1) hR kk1 kk0
  have q1 := if_f c q1
  have n27 := c
  clear c
  by_cases c : zand (z 1000000 v5) 63 = 28
  · refine X_tableIn dL_law_45 (off := 1866) (tgt := 1911) (inR_zand _ _) (by rw [c]; decide) (by rw [c]; decide) (by rw [c]; rfl) rfl ?_
    exact TL_c28 hN hz hln rv5 (if_t c q1) hR kk1 kk0
  have q1 := if_f c q1
  have n28 := c
  clear c
  by_cases c : zand (z 1000000 v5) 63 = 29
  · refine X_tableIn dL_law_45 (off := 1922) (tgt := 1967) (inR_zand _ _) (by rw [c]; decide) (by rw [c]; decide) (by rw [c]; rfl) rfl ?_
    exact TL_c29 hN hz hln rv5 (if_t c q1) hR kk1 kk0
  have q1 := if_f c q1
  have n29 := c
  clear c
  by_cases c : zand (z 1000000 v5) 63 = 30
  · refine X_tableIn dL_law_45 (off := 2006) (tgt := 2051) (inR_zand _ _) (by rw [c]; decide) (by rw [c]; decide) (by rw [c]; rfl) rfl ?_
    exact TL_c30 hN hz hln rv5 (if_t c q1) hR kk1 kk0
  have q1 := if_f c q1
  have n30 := c
  clear c
  by_cases c : zand (z 1000000 v5) 63 = 31
  · refine X_tableIn dL_law_45 (off := 2074) (tgt := 2119) (inR_zand _ _) (by rw [c]; decide) (by rw [c]; decide) (by rw [c]; rfl) rfl ?_
    exact TL_c31 hN hz hln rv5 (if_t c q1) hR kk1 kk0
  have q1 := if_f c q1
  have n31 := c
  clear c
  by_cases c : zand (z 1000000 v5) 63 = 32
  · refine X_tableIn dL_law_45 (off := 2154) (tgt := 2199) (inR_zand _ _) (by rw [c]; decide) (by rw [c]; decide) (by rw [c]; rfl) rfl ?_
    exact TL_c32 hN hz hln rv5 (if_t c q1) hR kk1 kk0
  have q1 := if_f c q1
  have n32 := c
  clear c
  by_cases c : zand (z 1000000 v5) 63 = 33
  · refine X_tableIn dL_law_45 (off := 2222) (tgt := 2267) (inR_zand _ _) (by rw [c]; decide) (by rw [c]; decide) (by rw [c]; rfl) rfl ?_
    exact TL_c33 hN hz hln rv5 (if_t c q1) hR kk1 kk0
  have q1 := if_f c q1
  have n33 := c
  clear c
  by_cases c : zand (z 1000000 v5) 63 = 34
  · refine X_tableIn dL_law_45 (off := 2266) (tgt := 2311) (inR_zand _ _) (by rw [c]; decide) (by rw [c]; decide) (by rw [c]; rfl) rfl ?_
    exact TL_c34 hN hz hln rv5 (if_t c q1) hR kk1 kk0
  have q1 := if_f c q1
  have n34 := c
  clear c
  by_cases c : zand (z 1000000 v5) 63 = 35
  · refine X_tableIn dL_law_45 (off := 2322) (tgt := 2367) (inR_zand _ _) (by rw [c]; decide) (by rw [c]; decide) (by rw [c]; rfl) rfl ?_
    exact TL_c35 hN hz hln rv5 (if_t c q1) hR kk1 kk0
  have q1 := if_f c q1
  have n35 := c
  clear c
  by_cases c : zand (z 1000000 v5) 63 = 36
  · refine X_tableIn dL_law_45 (off := 2378) (tgt := 2423) (inR_zand _ _) (by rw [c]; decide) (by rw [c]; decide) (by rw [c]; rfl) rfl ?_
    exact TL_c36 hN hz hln rv5 (if_t c q1) hR kk1 kk0
  have q1 := if_f c q1
  have n36 := c
  clear c
  by_cases c : zand (z 1000000 v5) 63 = 37
  · refine X_tableIn dL_law_45 (off := 2443) (tgt := 2488) (inR_zand _ _) (by rw [c]; decide) (by rw [c]; decide) (by rw [c]; rfl) rfl ?_
    exact TL_c37 hN hz hln rv5 (if_t c q1) hR kk1 kk0
  have q1 := if_f c q1
  have n37 := c
  clear c
  by_cases c : zand (z 1000000 v5) 63 = 38
  · refine X_tableIn dL_law_45 (off := 2499) (tgt := 2544) (inR_zand _ _) (by rw [c]; decide) (by rw [c]; decide) (by rw [c]; rfl) rfl ?_
    exact TL_c38 hN hz hln rv5 (if_t c q1) hR kk1 kk0
  have q1 := if_f c q1
  have n38 := c
  clear c
  by_cases c : zand (z 1000000 v5) 63 = 39
  · refine X_tableIn dL_law_45 (off := 2555) (tgt := 2600) (inR_zand _ _) (by rw [c]; decide) (by rw [c]; decide) (by rw [c]; rfl) rfl ?_
    exact TL_c39 hN hz hln rv5 (if_t c q1) hR kk1 kk0
  have q1 := if_f c q1
  have n39 := c
  clear c
  by_cases c : zand (z 1000000 v5) 63 = 40
  · refine X_tableIn dL_law_45 (off := 2611) (tgt := 2656) (inR_zand _ _) (by rw [c]; decide) (by rw [c]; decide) (by rw [c]; rfl) rfl ?_
    exact TL_c40 hN hz hln rv5 (if_t c q1) hR kk1 kk0
  have q1 := if_f c q1
  have n40 := c
  clear c
  by_cases c : zand (z 1000000 v5) 63 = 41
  · refine X_tableIn dL_law_45 (off := 2667) (tgt := 2712) (inR_zand _ _) (by rw [c]; decide) (by rw [c]; decide) (by rw [c]; rfl) rfl ?_
    exact TL_c41 hN hz hln rv5 (if_t c q1) hR kk1 kk0
  have q1 := if_f c q1
  have n41 := c
  clear c
  by_cases c : zand (z 1000000 v5) 63 = 42
  · refine X_tableIn dL_law_45 (off := 2723) (tgt := 2768) (inR_zand _ _) (by rw [c]; decide) (by rw [c]; decide) (by rw [c]; rfl) rfl ?_
    exact TL_c42 hN hz hln rv5 (if_t c q1) hR kk1 kk0
  have q1 := if_f c q1
  have n42 := c
  clear c
  by_cases c : zand (z 1000000 v5) 63 = 43
  · refine X_tableIn dL_law_45 (off := 2791) (tgt := 2836) (inR_zand _ _) (by rw [c]; decide) (by rw [c]; decide) (by rw [c]; rfl) rfl ?_
    exact TL_c43 hN hz hln rv5 (if_t c q1) hR kk1 kk0
  have q1 := if_f c q1
  have n43 := c
  clear c
  by_cases c : zand (z 1000000 v5) 63 = 44
  · refine X_tableIn dL_law_45 (off := 2847) (tgt := 2892) (inR_zand _ _) (by rw [c]; decide) (by rw [c]; decide) (by rw [c]; rfl) rfl ?_
    exact TL_c44 hN hz hln rv5 (if_t c q1) hR kk1 kk0
  have q1 := if_f c q1
  have n44 := c
  clear c
  refine X_tableOut dL_law_45 (tgt := 2960) (inR_zand _ _) (by omega) rfl ?_
  cases q1
  exact X_room (by omega) (by omega) (kk1 _ _ rfl hN.1 (by omega) hz)
theorem LL_law {ln : Nat} {Φ : xRes → xS → Prop} (hln : isLn ln) {r : Int × ZZ} (k0 : (r.1 = 0 ∨ r.1 = 1) → ∀ (N' : Nat), Φ (.inl (some (.int (iN r.1)))) (zmk ln N' r.2)) : ∀ (n N c9 s9 : Nat) (v5 : Int) (z : ZZ), 161 ≤ N → N + n < 999999 → n ≤ c9 → 6 * n ≤ s9 → inR v5 → okz z → zlp (fun q => fL_step ln q.1 q.2) n (v5, z) = some r → X mL_law 28 [some (.ref (1000000)), some (.ref (0)), some (.ref (151)), some (.ref (159)), some (.ref (160)), some (.int (iN (v5))), none, none, none] [] (zmk ln N z) c9 s9 Φ := by
  intro n
  induction n with
  | zero => intro N c9 s9 v5 z a1 a2 a3 a4 rv5 hz h; cases h
  | succ n ih =>
    intro N c9 s9 v5 z a1 a2 a3 a4 rv5 hz h
    rcases zlp_s h with ⟨⟨v5', z'⟩, e, h'⟩ | e
    · exact SL_law (Nm := N + 1) (c0 := n) (s0 := 6 * n) ⟨a1, by omega⟩ hz hln rv5 e ⟨by omega, by omega, by omega, by omega⟩ (fun N' v z hh b1 b2 b3 b4 => by cases hh; exact ih N' _ _ _ _ b1 (by omega) (Nat.le_refl _) (Nat.le_refl _) b3 b4 h') (fun N' r z hh => by cases hh)
    · exact SL_law (Nm := N + 1) (c0 := n) (s0 := 6 * n) ⟨a1, by omega⟩ hz hln rv5 e ⟨by omega, by omega, by omega, by omega⟩ (fun N' v z hh => by cases hh) (fun N' r z hh b1 b2 b3 b4 => by cases hh; exact k0 b1 N')

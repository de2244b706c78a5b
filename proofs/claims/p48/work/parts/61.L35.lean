set_option maxRecDepth 20000
/-! rows made and added -/
section GR
variable {col : Col} {D D1 : DD} {g n M a b c d e f : Int} {r : Row} {h : HLs}
theorem l_grow4 (H : RLp col D g (rC r a b c d e f) M h n) (hC : CBn (rC r a b c d e f)) (hv : a < 8) (hnn : n ≤ 12) (hM : M < 900000) (hT : dT D + 2 < 600000) (hS : dS D + 60 ≤ 7200000) (E : Ev (fun y => y = dT D) 1 4 D D1) (hb : dO D1 (dT D) 20 ∧ (dH D1 (dT D)).2 = 4) (hf : ∀ i : Nat, i < 4 → dW D1 (dT D) i = r (5 + 4 * a + i)) :
    ∃ D' col', fJx4a65c_add_9ea2d (dW D g 4) (dT D) D1 = some (1, D') ∧ dO D1 (dW D g 4) 9 ∧ RLp col' D' g (rC r (a + 1) b c d e f) (M + 1) ⟨h.lw ++ [dT D], h.lr, h.lh, h.lm, h.lc, h.la⟩ n ∧ (∀ y, y < dT D → col' y = col y) ∧ Ev (fun y => (col y).1 = g) 2 (4 + 48) D D' := by
  have hbl := hb.1.2.1
  have e1 := E.2.1
  have e2 := E.2.2.2.1
  have e0 := E.1
  generalize hB : dT D = B at *
  generalize hc : (fun y => if y = B then (g, 14) else col y : Col) = col1
  have c0 : ∀ y, y ≠ B → col1 y = col y := fun y hy => by rw [← hc]; exact if_neg hy
  have cb : col1 B = (g, 14) := by rw [← hc]; exact if_pos rfl
  have H1 : RLp col1 D1 g (rC r a b c d e f) M h n := H.keep E (fun y hy _ z => by omega) (fun y hy _ => c0 y (by omega))
  have gl := H.o.2.1
  have gj : dW D1 g 4 = dW D g 4 := E.at gl (by omega) 4
  obtain ⟨D', col', w1, w2, w3, w4⟩ := l_add4 (x := B) H1 hC hv hnn hM (by omega) (by omega) ⟨hb, cb, hf⟩ (fun q => by have := H.m4 B q; omega)
  rw [gj] at w1
  refine ⟨D', col', w1, E.dO H.e4.1.1.1, w2, fun y hy => by rw [w3 y (by omega), c0 y (by omega)], ?_⟩
  exact ((E.mono (P' := fun y => (col y).1 = g) (Int.le_refl _) (Int.le_refl _) (fun y hy z => by omega)).trans w4 (fun y hy z => by rw [← c0 y (by omega)]; exact z)).mono (by decide) (by omega) (fun _ _ z => z)
theorem l_grow6 (H : RLp col D g (rC r a b c d e f) M h n) (hC : CBn (rC r a b c d e f)) (hv : c < 15) (hnn : n ≤ 12) (hM : M < 900000) (hT : dT D + 2 < 600000) (hS : dS D + 60 ≤ 7200000) (E : Ev (fun y => y = dT D) 1 4 D D1) (hb : dO D1 (dT D) 20 ∧ (dH D1 (dT D)).2 = 4) (hf : ∀ i : Nat, i < 4 → dW D1 (dT D) i = r (471 + 5 * c + i)) :
    ∃ D' col', fJx4a65c_add_9ea2d (dW D g 6) (dT D) D1 = some (1, D') ∧ dO D1 (dW D g 6) 9 ∧ RLp col' D' g (rC r a b (c + 1) d e f) (M + 1) ⟨h.lw, h.lr, h.lh ++ [dT D], h.lm, h.lc, h.la⟩ n ∧ (∀ y, y < dT D → col' y = col y) ∧ Ev (fun y => (col y).1 = g) 2 (4 + 48) D D' := by
  have hbl := hb.1.2.1
  have e1 := E.2.1
  have e2 := E.2.2.2.1
  have e0 := E.1
  generalize hB : dT D = B at *
  generalize hc : (fun y => if y = B then (g, 16) else col y : Col) = col1
  have c0 : ∀ y, y ≠ B → col1 y = col y := fun y hy => by rw [← hc]; exact if_neg hy
  have cb : col1 B = (g, 16) := by rw [← hc]; exact if_pos rfl
  have H1 : RLp col1 D1 g (rC r a b c d e f) M h n := H.keep E (fun y hy _ z => by omega) (fun y hy _ => c0 y (by omega))
  have gl := H.o.2.1
  have gj : dW D1 g 6 = dW D g 6 := E.at gl (by omega) 6
  obtain ⟨D', col', w1, w2, w3, w4⟩ := l_add6 (x := B) H1 hC hv hnn hM (by omega) (by omega) ⟨hb, cb, hf⟩ (fun q => by have := H.m6 B q; omega)
  rw [gj] at w1
  refine ⟨D', col', w1, E.dO H.e6.1.1.1, w2, fun y hy => by rw [w3 y (by omega), c0 y (by omega)], ?_⟩
  exact ((E.mono (P' := fun y => (col y).1 = g) (Int.le_refl _) (Int.le_refl _) (fun y hy z => by omega)).trans w4 (fun y hy z => by rw [← c0 y (by omega)]; exact z)).mono (by decide) (by omega) (fun _ _ z => z)
theorem l_grow7 (H : RLp col D g (rC r a b c d e f) M h n) (hC : CBn (rC r a b c d e f)) (hv : d < 12) (hnn : n ≤ 12) (hM : M < 900000) (hT : dT D + 2 < 600000) (hS : dS D + 60 ≤ 7200000) (E : Ev (fun y => y = dT D) 1 6 D D1) (hb : dO D1 (dT D) 20 ∧ (dH D1 (dT D)).2 = 6) (hf : ∀ i : Nat, i < 6 → dW D1 (dT D) i = r (547 + 6 * d + i)) :
    ∃ D' col', fJx4a65c_add_9ea2d (dW D g 7) (dT D) D1 = some (1, D') ∧ dO D1 (dW D g 7) 9 ∧ RLp col' D' g (rC r a b c (d + 1) e f) (M + 1) ⟨h.lw, h.lr, h.lh, h.lm ++ [dT D], h.lc, h.la⟩ n ∧ (∀ y, y < dT D → col' y = col y) ∧ Ev (fun y => (col y).1 = g) 2 (6 + 48) D D' := by
  have hbl := hb.1.2.1
  have e1 := E.2.1
  have e2 := E.2.2.2.1
  have e0 := E.1
  generalize hB : dT D = B at *
  generalize hc : (fun y => if y = B then (g, 17) else col y : Col) = col1
  have c0 : ∀ y, y ≠ B → col1 y = col y := fun y hy => by rw [← hc]; exact if_neg hy
  have cb : col1 B = (g, 17) := by rw [← hc]; exact if_pos rfl
  have H1 : RLp col1 D1 g (rC r a b c d e f) M h n := H.keep E (fun y hy _ z => by omega) (fun y hy _ => c0 y (by omega))
  have gl := H.o.2.1
  have gj : dW D1 g 7 = dW D g 7 := E.at gl (by omega) 7
  obtain ⟨D', col', w1, w2, w3, w4⟩ := l_add7 (x := B) H1 hC hv hnn hM (by omega) (by omega) ⟨hb, cb, hf⟩ (fun q => by have := H.m7 B q; omega)
  rw [gj] at w1
  refine ⟨D', col', w1, E.dO H.e7.1.1.1, w2, fun y hy => by rw [w3 y (by omega), c0 y (by omega)], ?_⟩
  exact ((E.mono (P' := fun y => (col y).1 = g) (Int.le_refl _) (Int.le_refl _) (fun y hy z => by omega)).trans w4 (fun y hy z => by rw [← c0 y (by omega)]; exact z)).mono (by decide) (by omega) (fun _ _ z => z)
theorem l_grow8 (H : RLp col D g (rC r a b c d e f) M h n) (hC : CBn (rC r a b c d e f)) (hv : e < 8) (hnn : n ≤ 12) (hM : M < 900000) (hT : dT D + 2 < 600000) (hS : dS D + 60 ≤ 7200000) (E : Ev (fun y => y = dT D) 1 3 D D1) (hb : dO D1 (dT D) 20 ∧ (dH D1 (dT D)).2 = 3) (hf : ∀ i : Nat, i < 3 → dW D1 (dT D) i = r (620 + 3 * e + i)) :
    ∃ D' col', fJx4a65c_add_9ea2d (dW D g 8) (dT D) D1 = some (1, D') ∧ dO D1 (dW D g 8) 9 ∧ RLp col' D' g (rC r a b c d (e + 1) f) (M + 1) ⟨h.lw, h.lr, h.lh, h.lm, h.lc ++ [dT D], h.la⟩ n ∧ (∀ y, y < dT D → col' y = col y) ∧ Ev (fun y => (col y).1 = g) 2 (3 + 48) D D' := by
  have hbl := hb.1.2.1
  have e1 := E.2.1
  have e2 := E.2.2.2.1
  have e0 := E.1
  generalize hB : dT D = B at *
  generalize hc : (fun y => if y = B then (0, 0) else col y : Col) = col1
  have c0 : ∀ y, y ≠ B → col1 y = col y := fun y hy => by rw [← hc]; exact if_neg hy
  have cb : col1 B = (0, 0) := by rw [← hc]; exact if_pos rfl
  have H1 : RLp col1 D1 g (rC r a b c d e f) M h n := H.keep E (fun y hy _ z => by omega) (fun y hy _ => c0 y (by omega))
  have gl := H.o.2.1
  have gj : dW D1 g 8 = dW D g 8 := E.at gl (by omega) 8
  obtain ⟨D', col', w1, w2, w3, w4⟩ := l_add8 (x := B) H1 hC hv hnn hM (by omega) (by omega) ⟨hb, cb, hf⟩
  rw [gj] at w1
  refine ⟨D', col', w1, E.dO H.e8.1.1.1, w2, fun y hy => by rw [w3 y (by omega), c0 y (by omega)], ?_⟩
  exact ((E.mono (P' := fun y => (col y).1 = g) (Int.le_refl _) (Int.le_refl _) (fun y hy z => by omega)).trans w4 (fun y hy z => by rw [← c0 y (by omega)]; exact z)).mono (by decide) (by omega) (fun _ _ z => z)
theorem l_row3 {v0 v1 v2 : Int} (hb : 151 ≤ dT D) : Ev (fun y => y = dT D) 1 3 D (dup (dup (dup (dnew D 20 (3 : Int).toNat) (dT D) 0 v0) (dT D) 1 v1) (dT D) 2 v2) ∧ (dO (dup (dup (dup (dnew D 20 (3 : Int).toNat) (dT D) 0 v0) (dT D) 1 v1) (dT D) 2 v2) (dT D) 20 ∧ (dH (dup (dup (dup (dnew D 20 (3 : Int).toNat) (dT D) 0 v0) (dT D) 1 v1) (dT D) 2 v2) (dT D)).2 = 3) ∧ ∀ F : Int → Int, F 0 = v0 ∧ F 1 = v1 ∧ F 2 = v2 → ∀ i : Nat, i < 3 → dW (dup (dup (dup (dnew D 20 (3 : Int).toNat) (dT D) 0 v0) (dT D) 1 v1) (dT D) 2 v2) (dT D) i = F i := by
  refine ⟨?_, ⟨dO_nw hb, dH_nw⟩, fun F hF i hi => ?_⟩
  · exact ((((Ev.dnew (P := fun y => y = dT D) D (s := 20) (n := (3 : Int).toNat)).trans (Ev.dup (P := fun y => y = dT D) _ (fun _ => rfl)) (fun _ _ z => z)).trans (Ev.dup (P := fun y => y = dT D) _ (fun _ => rfl)) (fun _ _ z => z)).trans (Ev.dup (P := fun y => y = dT D) _ (fun _ => rfl)) (fun _ _ z => z)).mono (by decide) (by decide) (fun _ _ z => z)
  · have h : i = 0 ∨ i = 1 ∨ i = 2 := by omega
    rcases h with q | q | q <;> subst q
    · show dW (dup (dup (dup (dnew D 20 (3 : Int).toNat) (dT D) 0 v0) (dT D) 1 v1) (dT D) 2 v2) (dT D) 0 = F 0
      rw [dup_at, if_neg (by omega), dup_at, if_neg (by omega), dup_at, if_pos ⟨rfl, rfl⟩, hF.1]
    · show dW (dup (dup (dup (dnew D 20 (3 : Int).toNat) (dT D) 0 v0) (dT D) 1 v1) (dT D) 2 v2) (dT D) 1 = F 1
      rw [dup_at, if_neg (by omega), dup_at, if_pos ⟨rfl, rfl⟩, hF.2.1]
    · show dW (dup (dup (dup (dnew D 20 (3 : Int).toNat) (dT D) 0 v0) (dT D) 1 v1) (dT D) 2 v2) (dT D) 2 = F 2
      rw [dup_at, if_pos ⟨rfl, rfl⟩, hF.2.2]
theorem l_row4 {v0 v1 v2 v3 : Int} (hb : 151 ≤ dT D) : Ev (fun y => y = dT D) 1 4 D (dup (dup (dup (dup (dnew D 20 (4 : Int).toNat) (dT D) 0 v0) (dT D) 1 v1) (dT D) 2 v2) (dT D) 3 v3) ∧ (dO (dup (dup (dup (dup (dnew D 20 (4 : Int).toNat) (dT D) 0 v0) (dT D) 1 v1) (dT D) 2 v2) (dT D) 3 v3) (dT D) 20 ∧ (dH (dup (dup (dup (dup (dnew D 20 (4 : Int).toNat) (dT D) 0 v0) (dT D) 1 v1) (dT D) 2 v2) (dT D) 3 v3) (dT D)).2 = 4) ∧ ∀ F : Int → Int, F 0 = v0 ∧ F 1 = v1 ∧ F 2 = v2 ∧ F 3 = v3 → ∀ i : Nat, i < 4 → dW (dup (dup (dup (dup (dnew D 20 (4 : Int).toNat) (dT D) 0 v0) (dT D) 1 v1) (dT D) 2 v2) (dT D) 3 v3) (dT D) i = F i := by
  refine ⟨?_, ⟨dO_nw hb, dH_nw⟩, fun F hF i hi => ?_⟩
  · exact (((((Ev.dnew (P := fun y => y = dT D) D (s := 20) (n := (4 : Int).toNat)).trans (Ev.dup (P := fun y => y = dT D) _ (fun _ => rfl)) (fun _ _ z => z)).trans (Ev.dup (P := fun y => y = dT D) _ (fun _ => rfl)) (fun _ _ z => z)).trans (Ev.dup (P := fun y => y = dT D) _ (fun _ => rfl)) (fun _ _ z => z)).trans (Ev.dup (P := fun y => y = dT D) _ (fun _ => rfl)) (fun _ _ z => z)).mono (by decide) (by decide) (fun _ _ z => z)
  · have h : i = 0 ∨ i = 1 ∨ i = 2 ∨ i = 3 := by omega
    rcases h with q | q | q | q <;> subst q
    · show dW (dup (dup (dup (dup (dnew D 20 (4 : Int).toNat) (dT D) 0 v0) (dT D) 1 v1) (dT D) 2 v2) (dT D) 3 v3) (dT D) 0 = F 0
      rw [dup_at, if_neg (by omega), dup_at, if_neg (by omega), dup_at, if_neg (by omega), dup_at, if_pos ⟨rfl, rfl⟩, hF.1]
    · show dW (dup (dup (dup (dup (dnew D 20 (4 : Int).toNat) (dT D) 0 v0) (dT D) 1 v1) (dT D) 2 v2) (dT D) 3 v3) (dT D) 1 = F 1
      rw [dup_at, if_neg (by omega), dup_at, if_neg (by omega), dup_at, if_pos ⟨rfl, rfl⟩, hF.2.1]
    · show dW (dup (dup (dup (dup (dnew D 20 (4 : Int).toNat) (dT D) 0 v0) (dT D) 1 v1) (dT D) 2 v2) (dT D) 3 v3) (dT D) 2 = F 2
      rw [dup_at, if_neg (by omega), dup_at, if_pos ⟨rfl, rfl⟩, hF.2.2.1]
    · show dW (dup (dup (dup (dup (dnew D 20 (4 : Int).toNat) (dT D) 0 v0) (dT D) 1 v1) (dT D) 2 v2) (dT D) 3 v3) (dT D) 3 = F 3
      rw [dup_at, if_pos ⟨rfl, rfl⟩, hF.2.2.2]
theorem l_row6 {v0 v1 v2 v3 v4 v5 : Int} (hb : 151 ≤ dT D) : Ev (fun y => y = dT D) 1 6 D (dup (dup (dup (dup (dup (dup (dnew D 20 (6 : Int).toNat) (dT D) 0 v0) (dT D) 1 v1) (dT D) 2 v2) (dT D) 3 v3) (dT D) 4 v4) (dT D) 5 v5) ∧ (dO (dup (dup (dup (dup (dup (dup (dnew D 20 (6 : Int).toNat) (dT D) 0 v0) (dT D) 1 v1) (dT D) 2 v2) (dT D) 3 v3) (dT D) 4 v4) (dT D) 5 v5) (dT D) 20 ∧ (dH (dup (dup (dup (dup (dup (dup (dnew D 20 (6 : Int).toNat) (dT D) 0 v0) (dT D) 1 v1) (dT D) 2 v2) (dT D) 3 v3) (dT D) 4 v4) (dT D) 5 v5) (dT D)).2 = 6) ∧ ∀ F : Int → Int, F 0 = v0 ∧ F 1 = v1 ∧ F 2 = v2 ∧ F 3 = v3 ∧ F 4 = v4 ∧ F 5 = v5 → ∀ i : Nat, i < 6 → dW (dup (dup (dup (dup (dup (dup (dnew D 20 (6 : Int).toNat) (dT D) 0 v0) (dT D) 1 v1) (dT D) 2 v2) (dT D) 3 v3) (dT D) 4 v4) (dT D) 5 v5) (dT D) i = F i := by
  refine ⟨?_, ⟨dO_nw hb, dH_nw⟩, fun F hF i hi => ?_⟩
  · exact (((((((Ev.dnew (P := fun y => y = dT D) D (s := 20) (n := (6 : Int).toNat)).trans (Ev.dup (P := fun y => y = dT D) _ (fun _ => rfl)) (fun _ _ z => z)).trans (Ev.dup (P := fun y => y = dT D) _ (fun _ => rfl)) (fun _ _ z => z)).trans (Ev.dup (P := fun y => y = dT D) _ (fun _ => rfl)) (fun _ _ z => z)).trans (Ev.dup (P := fun y => y = dT D) _ (fun _ => rfl)) (fun _ _ z => z)).trans (Ev.dup (P := fun y => y = dT D) _ (fun _ => rfl)) (fun _ _ z => z)).trans (Ev.dup (P := fun y => y = dT D) _ (fun _ => rfl)) (fun _ _ z => z)).mono (by decide) (by decide) (fun _ _ z => z)
  · have h : i = 0 ∨ i = 1 ∨ i = 2 ∨ i = 3 ∨ i = 4 ∨ i = 5 := by omega
    rcases h with q | q | q | q | q | q <;> subst q
    · show dW (dup (dup (dup (dup (dup (dup (dnew D 20 (6 : Int).toNat) (dT D) 0 v0) (dT D) 1 v1) (dT D) 2 v2) (dT D) 3 v3) (dT D) 4 v4) (dT D) 5 v5) (dT D) 0 = F 0
      rw [dup_at, if_neg (by omega), dup_at, if_neg (by omega), dup_at, if_neg (by omega), dup_at, if_neg (by omega), dup_at, if_neg (by omega), dup_at, if_pos ⟨rfl, rfl⟩, hF.1]
    · show dW (dup (dup (dup (dup (dup (dup (dnew D 20 (6 : Int).toNat) (dT D) 0 v0) (dT D) 1 v1) (dT D) 2 v2) (dT D) 3 v3) (dT D) 4 v4) (dT D) 5 v5) (dT D) 1 = F 1
      rw [dup_at, if_neg (by omega), dup_at, if_neg (by omega), dup_at, if_neg (by omega), dup_at, if_neg (by omega), dup_at, if_pos ⟨rfl, rfl⟩, hF.2.1]
    · show dW (dup (dup (dup (dup (dup (dup (dnew D 20 (6 : Int).toNat) (dT D) 0 v0) (dT D) 1 v1) (dT D) 2 v2) (dT D) 3 v3) (dT D) 4 v4) (dT D) 5 v5) (dT D) 2 = F 2
      rw [dup_at, if_neg (by omega), dup_at, if_neg (by omega), dup_at, if_neg (by omega), dup_at, if_pos ⟨rfl, rfl⟩, hF.2.2.1]
    · show dW (dup (dup (dup (dup (dup (dup (dnew D 20 (6 : Int).toNat) (dT D) 0 v0) (dT D) 1 v1) (dT D) 2 v2) (dT D) 3 v3) (dT D) 4 v4) (dT D) 5 v5) (dT D) 3 = F 3
      rw [dup_at, if_neg (by omega), dup_at, if_neg (by omega), dup_at, if_pos ⟨rfl, rfl⟩, hF.2.2.2.1]
    · show dW (dup (dup (dup (dup (dup (dup (dnew D 20 (6 : Int).toNat) (dT D) 0 v0) (dT D) 1 v1) (dT D) 2 v2) (dT D) 3 v3) (dT D) 4 v4) (dT D) 5 v5) (dT D) 4 = F 4
      rw [dup_at, if_neg (by omega), dup_at, if_pos ⟨rfl, rfl⟩, hF.2.2.2.2.1]
    · show dW (dup (dup (dup (dup (dup (dup (dnew D 20 (6 : Int).toNat) (dT D) 0 v0) (dT D) 1 v1) (dT D) 2 v2) (dT D) 3 v3) (dT D) 4 v4) (dT D) 5 v5) (dT D) 5 = F 5
      rw [dup_at, if_pos ⟨rfl, rfl⟩, hF.2.2.2.2.2]
theorem l_wall {x1 x2 x3 : Int} (H : RLp col D g (rC r a b c d e f) M h n) (hC : CBn (rC r a b c d e f)) (hv : a < 8) (hnn : n ≤ 12) (hM : M < 900000) (hT : dT D + 2 < 600000) (hS : dS D + 60 ≤ 7200000) (hf : r (5 + 4 * a + 0) = x1 ∧ r (5 + 4 * a + 1) = x2 ∧ r (5 + 4 * a + 2) = x3 ∧ r (5 + 4 * a + 3) = x3) :
    ∃ D' col', fX6_wall g x1 x2 x3 D = some D' ∧ RLp col' D' g (rC r (a + 1) b c d e f) (M + 1) ⟨h.lw ++ [dT D], h.lr, h.lh, h.lm, h.lc, h.la⟩ n ∧ (∀ y, y < dT D → col' y = col y) ∧ Ev (fun y => (col y).1 = g) 2 54 D D' := by
  have hb := dO_gt H.o
  obtain ⟨E, hb2, hr⟩ := l_row4 (D := D) (v0 := x1) (v1 := x2) (v2 := x3) (v3 := x3) hb
  obtain ⟨D', col', w1, w2, w3, w4, w5⟩ := l_grow4 H hC hv hnn hM hT hS E hb2 (hr (fun i => r (5 + 4 * a + i)) hf)
  have z1 : (dH (dnew D 20 (4 : Int).toNat) (dT D)).2 = 4 := dH_nw
  unfold fX6_wall
  rw [if_pos H.o, if_pos ⟨⟨by decide, by decide⟩, by omega, by omega⟩, zl_eq, if_pos ⟨by decide, by show (0 : Int) < ((dH (dnew D 20 (4 : Int).toNat) (dT D)).2 : Int); rw [z1]; decide⟩, zl_eq, if_pos ⟨by decide, by show (1 : Int) < ((dH (dnew D 20 (4 : Int).toNat) (dT D)).2 : Int); rw [z1]; decide⟩, zl_eq, if_pos ⟨by decide, by show (2 : Int) < ((dH (dnew D 20 (4 : Int).toNat) (dT D)).2 : Int); rw [z1]; decide⟩, zl_eq, if_pos ⟨by decide, by show (3 : Int) < ((dH (dnew D 20 (4 : Int).toNat) (dT D)).2 : Int); rw [z1]; decide⟩, zl_eq, w1]
  simp only [Option.bind_some]
  rw [if_pos w2]
  exact ⟨D', col', rfl, w3, w4, w5.mono (by decide) (by decide) (fun _ _ z => z)⟩
theorem l_harness {x1 x2 : Int} (H : RLp col D g (rC r a b c d e f) M h n) (hC : CBn (rC r a b c d e f)) (hv : c < 15) (hnn : n ≤ 12) (hM : M < 900000) (hT : dT D + 2 < 600000) (hS : dS D + 60 ≤ 7200000) (hf : r (471 + 5 * c + 0) = x1 ∧ r (471 + 5 * c + 1) = x2 ∧ r (471 + 5 * c + 2) = 0 ∧ r (471 + 5 * c + 3) = 0) :
    ∃ D' col', fX6_harness g x1 x2 D = some D' ∧ RLp col' D' g (rC r a b (c + 1) d e f) (M + 1) ⟨h.lw, h.lr, h.lh ++ [dT D], h.lm, h.lc, h.la⟩ n ∧ (∀ y, y < dT D → col' y = col y) ∧ Ev (fun y => (col y).1 = g) 2 54 D D' := by
  have hb := dO_gt H.o
  obtain ⟨E, hb2, hr⟩ := l_row4 (D := D) (v0 := x1) (v1 := x2) (v2 := 0) (v3 := 0) hb
  obtain ⟨D', col', w1, w2, w3, w4, w5⟩ := l_grow6 H hC hv hnn hM hT hS E hb2 (hr (fun i => r (471 + 5 * c + i)) hf)
  have z1 : (dH (dnew D 20 (4 : Int).toNat) (dT D)).2 = 4 := dH_nw
  unfold fX6_harness
  rw [if_pos H.o, if_pos ⟨⟨by decide, by decide⟩, by omega, by omega⟩, zl_eq, if_pos ⟨by decide, by show (0 : Int) < ((dH (dnew D 20 (4 : Int).toNat) (dT D)).2 : Int); rw [z1]; decide⟩, zl_eq, if_pos ⟨by decide, by show (1 : Int) < ((dH (dnew D 20 (4 : Int).toNat) (dT D)).2 : Int); rw [z1]; decide⟩, zl_eq, if_pos ⟨by decide, by show (2 : Int) < ((dH (dnew D 20 (4 : Int).toNat) (dT D)).2 : Int); rw [z1]; decide⟩, zl_eq, if_pos ⟨by decide, by show (3 : Int) < ((dH (dnew D 20 (4 : Int).toNat) (dT D)).2 : Int); rw [z1]; decide⟩, zl_eq, w1]
  simp only [Option.bind_some]
  rw [if_pos w2]
  exact ⟨D', col', rfl, w3, w4, w5.mono (by decide) (by decide) (fun _ _ z => z)⟩
theorem l_member {x1 x2 : Int} (H : RLp col D g (rC r a b c d e f) M h n) (hC : CBn (rC r a b c d e f)) (hv : d < 12) (hnn : n ≤ 12) (hM : M < 900000) (hT : dT D + 2 < 600000) (hS : dS D + 60 ≤ 7200000) (hf : r (547 + 6 * d + 0) = x1 ∧ r (547 + 6 * d + 1) = x2 ∧ r (547 + 6 * d + 2) = 0 ∧ r (547 + 6 * d + 3) = (-1) ∧ r (547 + 6 * d + 4) = (-1) ∧ r (547 + 6 * d + 5) = 0) :
    ∃ D' col', fX6_member g x1 x2 D = some D' ∧ RLp col' D' g (rC r a b c (d + 1) e f) (M + 1) ⟨h.lw, h.lr, h.lh, h.lm ++ [dT D], h.lc, h.la⟩ n ∧ (∀ y, y < dT D → col' y = col y) ∧ Ev (fun y => (col y).1 = g) 2 54 D D' := by
  have hb := dO_gt H.o
  obtain ⟨E, hb2, hr⟩ := l_row6 (D := D) (v0 := x1) (v1 := x2) (v2 := 0) (v3 := (-1)) (v4 := (-1)) (v5 := 0) hb
  obtain ⟨D', col', w1, w2, w3, w4, w5⟩ := l_grow7 H hC hv hnn hM hT hS E hb2 (hr (fun i => r (547 + 6 * d + i)) hf)
  have z1 : (dH (dnew D 20 (6 : Int).toNat) (dT D)).2 = 6 := dH_nw
  unfold fX6_member
  rw [if_pos H.o, if_pos ⟨⟨by decide, by decide⟩, by omega, by omega⟩, zl_eq, if_pos ⟨by decide, by show (0 : Int) < ((dH (dnew D 20 (6 : Int).toNat) (dT D)).2 : Int); rw [z1]; decide⟩, zl_eq, if_pos ⟨by decide, by show (1 : Int) < ((dH (dnew D 20 (6 : Int).toNat) (dT D)).2 : Int); rw [z1]; decide⟩, zl_eq, if_pos ⟨by decide, by show (2 : Int) < ((dH (dnew D 20 (6 : Int).toNat) (dT D)).2 : Int); rw [z1]; decide⟩, zl_eq, if_pos ⟨by decide, by show (3 : Int) < ((dH (dnew D 20 (6 : Int).toNat) (dT D)).2 : Int); rw [z1]; decide⟩, zl_eq, if_pos ⟨by decide, by show (4 : Int) < ((dH (dnew D 20 (6 : Int).toNat) (dT D)).2 : Int); rw [z1]; decide⟩, zl_eq, if_pos ⟨by decide, by show (5 : Int) < ((dH (dnew D 20 (6 : Int).toNat) (dT D)).2 : Int); rw [z1]; decide⟩, zl_eq, w1]
  simp only [Option.bind_some]
  rw [if_pos w2]
  exact ⟨D', col', rfl, w3, w4, w5.mono (by decide) (by decide) (fun _ _ z => z)⟩
end GR

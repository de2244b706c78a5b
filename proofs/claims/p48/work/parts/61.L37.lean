set_option maxRecDepth 20000
/-! halls made from a setup -/
def Bd (col0 : Col) (D0 : DD) (g : Int) (r : Row) (a b c d e f n M cc ss : Int) (D : DD) : Prop := ∃ col' h, RLp col' D g (rC r a b c d e f) M h n ∧ (∀ y, y < dT D0 → (col0 y).1 ≠ g → col' y = col0 y) ∧ (∀ y, y < dT D0 → (col' y).1 ≠ g) ∧ Ev (fun _ => False) cc ss D0 D
section BL
variable {col0 : Col} {D D0 : DD} {g a b c d e f n M cc ss : Int} {r : Row}
theorem Bd.mono {cc' ss' : Int} (h : Bd col0 D0 g r a b c d e f n M cc ss D) (h1 : cc ≤ cc') (h2 : ss ≤ ss') : Bd col0 D0 g r a b c d e f n M cc' ss' D := by
  obtain ⟨col', hh, a1, a2, a3, a4⟩ := h
  exact ⟨col', hh, a1, a2, a3, a4.mono h1 h2 (fun _ _ z => z)⟩
theorem Bd.o (h : Bd col0 D0 g r a b c d e f n M cc ss D) : dO D g 7 := by
  obtain ⟨col', hh, a1, a2, a3, a4⟩ := h
  exact a1.o
theorem Bd.l8 (h : Bd col0 D0 g r a b c d e f n M cc ss D) : dO D (dW D g 8) 9 := by
  obtain ⟨col', hh, a1, a2, a3, a4⟩ := h
  exact a1.e8.1.1.1
theorem Bd.wall {x1 x2 x3 : Int} (h : Bd col0 D0 g r a b c d e f n M cc ss D) (hC : CBn (rC r a b c d e f)) (hv : a < 8) (hnn : n ≤ 12) (hM : M < 900000) (hT : dT D0 + cc + 4 < 600000) (hS : dS D0 + ss + 70 ≤ 7200000) (hf : r (5 + 4 * a + 0) = x1 ∧ r (5 + 4 * a + 1) = x2 ∧ r (5 + 4 * a + 2) = x3 ∧ r (5 + 4 * a + 3) = x3) :
    ∃ D', fX6_wall g x1 x2 x3 D = some D' ∧ Bd col0 D0 g r (a + 1) b c d e f n (M + 1) (cc + 2) (ss + 54) D' := by
  obtain ⟨col', hh, a1, a2, a3, a4⟩ := h
  have t := a4.1
  obtain ⟨D', col2, w1, w2, w3, w4⟩ := l_wall a1 hC hv hnn hM (by have := a4.2.1; omega) (by have := a4.2.2.2.1; omega) hf
  exact ⟨D', w1, col2, _, w2, fun y hy q => (w3 y (by omega)).trans (a2 y hy q), fun y hy => by rw [w3 y (by omega)]; exact a3 y hy, a4.trans w4 (fun y hy z => a3 y hy z)⟩
theorem Bd.harness {x1 x2 : Int} (h : Bd col0 D0 g r a b c d e f n M cc ss D) (hC : CBn (rC r a b c d e f)) (hv : c < 15) (hnn : n ≤ 12) (hM : M < 900000) (hT : dT D0 + cc + 4 < 600000) (hS : dS D0 + ss + 70 ≤ 7200000) (hf : r (471 + 5 * c + 0) = x1 ∧ r (471 + 5 * c + 1) = x2 ∧ r (471 + 5 * c + 2) = 0 ∧ r (471 + 5 * c + 3) = 0) :
    ∃ D', fX6_harness g x1 x2 D = some D' ∧ Bd col0 D0 g r a b (c + 1) d e f n (M + 1) (cc + 2) (ss + 54) D' := by
  obtain ⟨col', hh, a1, a2, a3, a4⟩ := h
  have t := a4.1
  obtain ⟨D', col2, w1, w2, w3, w4⟩ := l_harness a1 hC hv hnn hM (by have := a4.2.1; omega) (by have := a4.2.2.2.1; omega) hf
  exact ⟨D', w1, col2, _, w2, fun y hy q => (w3 y (by omega)).trans (a2 y hy q), fun y hy => by rw [w3 y (by omega)]; exact a3 y hy, a4.trans w4 (fun y hy z => a3 y hy z)⟩
theorem Bd.member {x1 x2 : Int} (h : Bd col0 D0 g r a b c d e f n M cc ss D) (hC : CBn (rC r a b c d e f)) (hv : d < 12) (hnn : n ≤ 12) (hM : M < 900000) (hT : dT D0 + cc + 4 < 600000) (hS : dS D0 + ss + 70 ≤ 7200000) (hf : r (547 + 6 * d + 0) = x1 ∧ r (547 + 6 * d + 1) = x2 ∧ r (547 + 6 * d + 2) = 0 ∧ r (547 + 6 * d + 3) = (-1) ∧ r (547 + 6 * d + 4) = (-1) ∧ r (547 + 6 * d + 5) = 0) :
    ∃ D', fX6_member g x1 x2 D = some D' ∧ Bd col0 D0 g r a b c (d + 1) e f n (M + 1) (cc + 2) (ss + 54) D' := by
  obtain ⟨col', hh, a1, a2, a3, a4⟩ := h
  have t := a4.1
  obtain ⟨D', col2, w1, w2, w3, w4⟩ := l_member a1 hC hv hnn hM (by have := a4.2.1; omega) (by have := a4.2.2.2.1; omega) hf
  exact ⟨D', w1, col2, _, w2, fun y hy q => (w3 y (by omega)).trans (a2 y hy q), fun y hy => by rw [w3 y (by omega)]; exact a3 y hy, a4.trans w4 (fun y hy z => a3 y hy z)⟩
/-- a course's row: filled, then added -/
theorem Bd.course {x1 x2 x3 : Int} (h : Bd col0 D0 g r a b c d e f n M cc ss D) (hC : CBn (rC r a b c d e f)) (hv : e < 8) (hnn : n ≤ 12) (hM : M < 900000) (hT : dT D0 + cc + 4 < 600000) (hS : dS D0 + ss + 70 ≤ 7200000) (hf : r (620 + 3 * e + 0) = x1 ∧ r (620 + 3 * e + 1) = x2 ∧ r (620 + 3 * e + 2) = x3) :
    ∃ D', fJx4a65c_add_9ea2d (dW D g 8) (dT D) (dup (dup (dup (dnew D 20 (3 : Int).toNat) (dT D) 0 x1) (dT D) 1 x2) (dT D) 2 x3) = some (1, D') ∧ dO (dup (dup (dup (dnew D 20 (3 : Int).toNat) (dT D) 0 x1) (dT D) 1 x2) (dT D) 2 x3) (dW D g 8) 9 ∧ Bd col0 D0 g r a b c d (e + 1) f n (M + 1) (cc + 2) (ss + 54) D' := by
  obtain ⟨col', hh, a1, a2, a3, a4⟩ := h
  have t := a4.1
  obtain ⟨E, hb2, hr⟩ := l_row3 (D := D) (v0 := x1) (v1 := x2) (v2 := x3) (dO_gt a1.o)
  obtain ⟨D', col2, w1, w2, w3, w4, w5⟩ := l_grow8 a1 hC hv hnn hM (by have := a4.2.1; omega) (by have := a4.2.2.2.1; omega) E hb2 (hr (fun i => r (620 + 3 * e + i)) hf)
  exact ⟨D', w1, w2, col2, _, w3, fun y hy q => (w4 y (by omega)).trans (a2 y hy q), fun y hy => by rw [w4 y (by omega)]; exact a3 y hy, (a4.trans w5 (fun y hy z => a3 y hy z)).mono (by omega) (by omega) (fun _ _ z => z)⟩
theorem Bd.done (h : Bd col0 D0 g r (r 4) (r 37) (r 470) (r 546) (r 619) (r 644) (r 546) M cc ss D) : ∃ col' h', RLh col' D g r M h' ∧ (∀ y, y < dT D0 → (col0 y).1 ≠ g → col' y = col0 y) ∧ (∀ y, y < dT D0 → (col' y).1 ≠ g) ∧ Ev (fun _ => False) cc ss D0 D := by
  obtain ⟨col', hh, a1, a2, a3, a4⟩ := h
  rw [rC_self] at a1
  exact ⟨col', hh, a1.to, a2, a3, a4⟩
end BL
/-- the first steps: the hall itself, its empty lists -/
theorem Bd.zero {col0 : Col} {D0 : DD} {r : Row} {n : Int} (hb : 151 ≤ dT D0) (h3 : r 3 = 0) (hr : r 0 = 20 ∧ r 1 = 2 ∧ r 2 = 50) (hT : dT D0 + 20 < 600000) (hS : dS D0 + 60 ≤ 7200000) : ∃ B, fX6_init (dT D0) (dnew D0 7 10) = some B ∧ Bd col0 D0 (dT D0) r 0 0 0 0 0 0 n 0 7 28 B := by
  have hg : dO (dnew D0 7 10) (dT D0) 7 := dO_nw hb
  have E1 : Ev (fun _ => False) 1 10 D0 (dnew D0 7 10) := Ev.dnew D0
  have t1 : dT (dnew D0 7 10) = dT D0 + 1 := rfl
  have s1 : dS (dnew D0 7 10) = dS D0 + 10 := rfl
  obtain ⟨B, col', w1, w2, w3, w4, w5⟩ := l_initH (col := fun y => if (col0 y).1 = dT D0 then (-1, -1) else col0 y) (n := n) (r := r) hg (by rw [dnew_at, if_pos rfl, h3]) hr (by omega) (by omega)
  refine ⟨B, w1, col', _, w2, fun y hy q => ?_, fun y hy => ?_, (E1.trans w5 (fun y hy z => by have z : y = dT D0 := z; omega)).mono (by decide) (by decide) (fun _ _ z => z)⟩
  · rw [w3 y (by omega) (by omega)]
    exact if_neg q
  · rw [w3 y (by omega) (by omega)]
    show (if (col0 y).1 = dT D0 then ((-1, -1) : Int × Int) else col0 y).1 ≠ dT D0
    by_cases c : (col0 y).1 = dT D0
    · rw [if_pos c]
      show (-1 : Int) ≠ dT D0
      omega
    · rw [if_neg c]
      exact c
theorem Bd.fields {col0 : Col} {D0 D D' : DD} {g n M cc ss : Int} {r r' : Row} {x0 x1 x2 : Int} (h : Bd col0 D0 g r 0 0 0 0 0 0 n M cc ss D) (hr : r' 0 = x0 ∧ r' 1 = x1 ∧ r' 2 = x2 ∧ r' 3 = r 3) (hT : dT D0 + cc < 1000000) (hD : D' = dup (dup (dup D g 0 x0) g 1 x1) g 2 x2) : Bd col0 D0 g r' 0 0 0 0 0 0 n M cc ss D' := by
  obtain ⟨col', hh, a1, a2, a3, a4⟩ := h
  subst hD
  have E0 : Ev (fun a => a = g) 0 0 D (dup (dup (dup D g 0 x0) g 1 x1) g 2 x2) := (((Ev.dup (P := fun a => a = g) D (fun _ => rfl)).trans (Ev.dup (P := fun a => a = g) _ (fun _ => rfl)) (fun _ _ z => z)).trans (Ev.dup (P := fun a => a = g) _ (fun _ => rfl)) (fun _ _ z => z)).mono (by decide) (by decide) (fun _ _ z => z)
  obtain ⟨i1, i2, f0, f1, f2, f3, l4, l5, l6, l7, l8, l9, n4, n5, n6, n7, n8, n9, d4, d5, d6, d7, e4, e5, e6, e7, e8, e9⟩ := a1
  have z4 : hh.lw.length = 0 := by have n4 : (hh.lw.length : Int) = 0 := n4; omega
  have z5 : hh.lr.length = 0 := by have n4 : (hh.lr.length : Int) = 0 := n5; omega
  have z6 : hh.lh.length = 0 := by have n4 : (hh.lh.length : Int) = 0 := n6; omega
  have z7 : hh.lm.length = 0 := by have n4 : (hh.lm.length : Int) = 0 := n7; omega
  have z8 : hh.lc.length = 0 := by have n4 : (hh.lc.length : Int) = 0 := n8; omega
  have z9 : hh.la.length = 0 := by have n4 : (hh.la.length : Int) = 0 := n9; omega
  have el : ∀ j l, 4 ≤ j → HL col' D g j l M → HL col' (dup (dup (dup D g 0 x0) g 1 x1) g 2 x2) g j l M := fun j l hj q => by
    have ej : dW (dup (dup (dup D g 0 x0) g 1 x1) g 2 x2) g j = dW D g j := by rw [dup_at, if_neg (by omega), dup_at, if_neg (by omega), dup_at, if_neg (by omega)]
    have gl : dW D g j ≠ g := fun p => by
      have := q.2.1
      rw [p, i2] at this
      have : (0 : Int) = j := congrArg Prod.snd this
      omega
    have ga : dW D (dW D g j) 1 ≠ g := fun p => by
      rcases q.2.2 with w | w
      · have := i1.2.1
        have := a4.2.1
        omega
      · rw [p, i2] at w
        have : (0 : Int) = j := congrArg Prod.snd w
        omega
    refine ⟨by rw [ej]; exact q.1.ev E0 gl ga, by rw [ej]; exact q.2.1, ?_⟩
    rw [ej, E0.at q.1.1.2.1 gl]
    exact q.2.2
  have s0 : dW (dup (dup (dup D g 0 x0) g 1 x1) g 2 x2) g 0 = x0 := by rw [dup_at, if_neg (by omega), dup_at, if_neg (by omega), dup_at, if_pos ⟨rfl, rfl⟩]
  have s1 : dW (dup (dup (dup D g 0 x0) g 1 x1) g 2 x2) g 1 = x1 := by rw [dup_at, if_neg (by omega), dup_at, if_pos ⟨rfl, rfl⟩]
  have s2 : dW (dup (dup (dup D g 0 x0) g 1 x1) g 2 x2) g 2 = x2 := by rw [dup_at, if_pos ⟨rfl, rfl⟩]
  have s3 : dW (dup (dup (dup D g 0 x0) g 1 x1) g 2 x2) g 3 = r' 3 := by
    rw [dup_at, if_neg (by omega), dup_at, if_neg (by omega), dup_at, if_neg (by omega), hr.2.2.2]
    exact f3
  refine ⟨col', hh, ⟨E0.dO i1, i2, by rw [s0]; exact hr.1.symm, by rw [s1]; exact hr.2.1.symm, by rw [s2]; exact hr.2.2.1.symm, s3, el _ _ (by decide) l4, el _ _ (by decide) l5, el _ _ (by decide) l6, el _ _ (by decide) l7, el _ _ (by decide) l8, el _ _ (by decide) l9, n4, n5, n6, n7, n8, n9, d4, d5, d6, d7, fun k hk => by omega, fun k hk => by omega, fun k hk => by omega, fun k hk => by omega, fun k hk => by omega, fun k hk => by omega⟩, a2, a3, (a4.trans E0 (fun y hy z => a3 y hy (by have z : y = g := z; rw [z, i2]))).mono (by omega) (by omega) (fun _ _ z => z)⟩

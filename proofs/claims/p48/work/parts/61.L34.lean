set_option maxRecDepth 20000
/-! a new hall -/
def sixF (D B : DD) (g : Int) : Prop := (dT B = dT D + 6 ∧ dS B = dS D + 18) ∧ (∀ j : Int, 0 ≤ j → j < 6 → AL B (dT D + j) [] 0 ∧ dW B (dT D + j) 1 = 1000012 ∧ dW B g (4 + j) = dT D + j) ∧ (∀ i, i < 4 → dW B g i = dW D g i) ∧ Ev (fun a => a = g) 6 18 D B
theorem l_nl {D : DD} {g j : Int} (hg : dO D g 7) (hT : dT D < 600000) (hS : dS D + 3 ≤ 7200000) : ∃ A, fJx4a65c_init_da8c8 (dT D) (dnew D 9 3) = some A ∧ AL (dup A g j (dT D)) (dT D) [] 0 ∧ dW (dup A g j (dT D)) (dT D) 1 = 1000012 ∧ dW (dup A g j (dT D)) g j = dT D ∧ (∀ i, i ≠ j → dW (dup A g j (dT D)) g i = dW D g i) ∧ (dT (dup A g j (dT D)) = dT D + 1 ∧ dS (dup A g j (dT D)) = dS D + 3) ∧ Ev (fun a => a = g) 1 3 D (dup A g j (dT D)) := by
  have hb := dO_gt hg
  have n1 : dO (dnew D 9 3) (dT D) 9 := dO_nw hb
  have E1 : Ev (fun a => a = g) 1 3 D (dnew D 9 3) := Ev.dnew D
  have z0 : ∀ j, dW (dnew D 9 3) (dT D) j = 0 := fun j => by rw [dnew_at, if_pos rfl]
  obtain ⟨D3, a1, a2, a3, a4⟩ := s_alInit n1
  have a2 := a2 (z0 0) (z0 2)
  have hgl := hg.2.1
  have gne : dT D ≠ g := by omega
  have E3 : Ev (fun a => a = g) 0 0 D3 (dup D3 g j (dT D)) := Ev.dup (P := fun a => a = g) D3 (fun _ => rfl)
  have t1 : dT (dnew D 9 3) = dT D + 1 := rfl
  have u1 : dS (dnew D 9 3) = dS D + 3 := rfl
  have t3 := a3.1
  have t4 := a3.2.1
  have u3 := a3.2.2.1
  have u4 := a3.2.2.2.1
  refine ⟨D3, a1, a2.ev E3 gne (by rw [a4]; omega), ?_, ?_, fun i hi => ?_, ⟨?_, ?_⟩, ((E1.trans a3 (fun a ha z => by omega)).trans E3 (fun _ _ z => z)).mono (by decide) (by decide) (fun _ _ z => z)⟩
  · rw [dup_at, if_neg (fun q => gne q.1)]; exact a4
  · rw [dup_at, if_pos ⟨rfl, rfl⟩]
  · rw [dup_at, if_neg (fun q => hi q.2), a3.at (by omega) (fun z => by omega), dnew_at, if_neg (by omega)]
  · show dT D3 = dT D + 1
    omega
  · show dS D3 = dS D + 3
    omega
theorem l_six {D : DD} {g : Int} (hg : dO D g 7) (hT : dT D + 10 < 600000) (hS : dS D + 40 ≤ 7200000) : ∃ A1 A2 A3 A4 A5 A6 : DD, (fJx4a65c_init_da8c8 (dT D) (dnew D 9 3) = some A1 ∧ dT D = dT D + 0 ∧ dS D = dS D + 0) ∧ (fJx4a65c_init_da8c8 (dT (dup A1 g 4 (dT D + 0))) (dnew (dup A1 g 4 (dT D + 0)) 9 3) = some A2 ∧ dT (dup A1 g 4 (dT D + 0)) = dT D + 1 ∧ dS (dup A1 g 4 (dT D + 0)) = dS D + 3) ∧ (fJx4a65c_init_da8c8 (dT (dup A2 g 5 (dT D + 1))) (dnew (dup A2 g 5 (dT D + 1)) 9 3) = some A3 ∧ dT (dup A2 g 5 (dT D + 1)) = dT D + 2 ∧ dS (dup A2 g 5 (dT D + 1)) = dS D + 6) ∧ (fJx4a65c_init_da8c8 (dT (dup A3 g 6 (dT D + 2))) (dnew (dup A3 g 6 (dT D + 2)) 9 3) = some A4 ∧ dT (dup A3 g 6 (dT D + 2)) = dT D + 3 ∧ dS (dup A3 g 6 (dT D + 2)) = dS D + 9) ∧ (fJx4a65c_init_da8c8 (dT (dup A4 g 7 (dT D + 3))) (dnew (dup A4 g 7 (dT D + 3)) 9 3) = some A5 ∧ dT (dup A4 g 7 (dT D + 3)) = dT D + 4 ∧ dS (dup A4 g 7 (dT D + 3)) = dS D + 12) ∧ (fJx4a65c_init_da8c8 (dT (dup A5 g 8 (dT D + 4))) (dnew (dup A5 g 8 (dT D + 4)) 9 3) = some A6 ∧ dT (dup A5 g 8 (dT D + 4)) = dT D + 5 ∧ dS (dup A5 g 8 (dT D + 4)) = dS D + 15) ∧ sixF D (dup A6 g 9 (dT D + 5)) g := by
  obtain ⟨A1, a1, b1, c1, d1, e1, f1, E1⟩ := l_nl (D := D) (g := g) (j := 4) hg (by omega) (by omega)
  have t1 : dT D = dT D + 0 := by omega
  have z1 : dT D = dT D + 0 := by omega
  have x1 : dup A1 g 4 (dT D) = dup A1 g 4 (dT D + 0) := by rw [← z1]
  rw [x1] at b1 c1 d1 e1 f1 E1
  have hg1 := E1.dO hg
  have T1 : dT (dup A1 g 4 (dT D + 0)) = dT D + 1 := by omega
  have S1 : dS (dup A1 g 4 (dT D + 0)) = dS D + 3 := by omega
  obtain ⟨A2, a2, b2, c2, d2, e2, f2, E2⟩ := l_nl (D := (dup A1 g 4 (dT D + 0))) (g := g) (j := 5) hg1 (by omega) (by omega)
  have t2 : dT (dup A1 g 4 (dT D + 0)) = dT D + 1 := by omega
  rw [t2] at b2 c2 d2 e2 f2 E2
  have hg2 := E2.dO hg1
  have T2 : dT (dup A2 g 5 (dT D + 1)) = dT D + 2 := by omega
  have S2 : dS (dup A2 g 5 (dT D + 1)) = dS D + 6 := by omega
  obtain ⟨A3, a3, b3, c3, d3, e3, f3, E3⟩ := l_nl (D := (dup A2 g 5 (dT D + 1))) (g := g) (j := 6) hg2 (by omega) (by omega)
  have t3 : dT (dup A2 g 5 (dT D + 1)) = dT D + 2 := by omega
  rw [t3] at b3 c3 d3 e3 f3 E3
  have hg3 := E3.dO hg2
  have T3 : dT (dup A3 g 6 (dT D + 2)) = dT D + 3 := by omega
  have S3 : dS (dup A3 g 6 (dT D + 2)) = dS D + 9 := by omega
  obtain ⟨A4, a4, b4, c4, d4, e4, f4, E4⟩ := l_nl (D := (dup A3 g 6 (dT D + 2))) (g := g) (j := 7) hg3 (by omega) (by omega)
  have t4 : dT (dup A3 g 6 (dT D + 2)) = dT D + 3 := by omega
  rw [t4] at b4 c4 d4 e4 f4 E4
  have hg4 := E4.dO hg3
  have T4 : dT (dup A4 g 7 (dT D + 3)) = dT D + 4 := by omega
  have S4 : dS (dup A4 g 7 (dT D + 3)) = dS D + 12 := by omega
  obtain ⟨A5, a5, b5, c5, d5, e5, f5, E5⟩ := l_nl (D := (dup A4 g 7 (dT D + 3))) (g := g) (j := 8) hg4 (by omega) (by omega)
  have t5 : dT (dup A4 g 7 (dT D + 3)) = dT D + 4 := by omega
  rw [t5] at b5 c5 d5 e5 f5 E5
  have hg5 := E5.dO hg4
  have T5 : dT (dup A5 g 8 (dT D + 4)) = dT D + 5 := by omega
  have S5 : dS (dup A5 g 8 (dT D + 4)) = dS D + 15 := by omega
  obtain ⟨A6, a6, b6, c6, d6, e6, f6, E6⟩ := l_nl (D := (dup A5 g 8 (dT D + 4))) (g := g) (j := 9) hg5 (by omega) (by omega)
  have t6 : dT (dup A5 g 8 (dT D + 4)) = dT D + 5 := by omega
  rw [t6] at b6 c6 d6 e6 f6 E6
  have hg6 := E6.dO hg5
  have T6 : dT (dup A6 g 9 (dT D + 5)) = dT D + 6 := by omega
  have S6 : dS (dup A6 g 9 (dT D + 5)) = dS D + 18 := by omega
  refine ⟨A1, A2, A3, A4, A5, A6, ⟨a1, by omega, by omega⟩, ⟨a2, T1, S1⟩, ⟨a3, T2, S2⟩, ⟨a4, T3, S3⟩, ⟨a5, T4, S4⟩, ⟨a6, T5, S5⟩, ⟨T6, S6⟩, fun j j0 j1 => ?_, fun i hi => ?_, ?_⟩
  · have hgl := hg.2.1
    have gn : ∀ i : Int, 0 ≤ i → dT D + i ≠ g := fun i h => by omega
    have h6 : j = 0 ∨ j = 1 ∨ j = 2 ∨ j = 3 ∨ j = 4 ∨ j = 5 := by omega
    have up : ∀ {X Y : DD} (k : Int), 0 ≤ k → Ev (fun a => a = g) 1 3 X Y → AL X (dT D + k) [] 0 → dW X (dT D + k) 1 = 1000012 → AL Y (dT D + k) [] 0 ∧ dW Y (dT D + k) 1 = 1000012 := fun {X Y} k k0 E h1 h2 => ⟨h1.ev E (gn k k0) (by rw [h2]; omega), by rw [E.at h1.1.2.1 (gn k k0)]; exact h2⟩
    rcases h6 with q | q | q | q | q | q <;> subst q
    · have u : AL (dup A1 g 4 (dT D + 0)) (dT D + 0) [] 0 ∧ dW (dup A1 g 4 (dT D + 0)) (dT D + 0) 1 = 1000012 := by rw [Int.add_zero] at b1 c1 ⊢; exact ⟨b1, c1⟩
      have u := up 0 (by decide) E2 u.1 u.2
      have u := up 0 (by decide) E3 u.1 u.2
      have u := up 0 (by decide) E4 u.1 u.2
      have u := up 0 (by decide) E5 u.1 u.2
      have u := up 0 (by decide) E6 u.1 u.2
      refine ⟨u.1, u.2, ?_⟩
      show dW _ g 4 = _
      rw [e6 4 (by decide), e5 4 (by decide), e4 4 (by decide), e3 4 (by decide), e2 4 (by decide)]; exact (by simpa using d1)
    · have u := (⟨b2, c2⟩ : AL _ (dT D + 1) [] 0 ∧ dW _ (dT D + 1) 1 = 1000012)
      have u := up 1 (by decide) E3 u.1 u.2
      have u := up 1 (by decide) E4 u.1 u.2
      have u := up 1 (by decide) E5 u.1 u.2
      have u := up 1 (by decide) E6 u.1 u.2
      refine ⟨u.1, u.2, ?_⟩
      show dW _ g 5 = _
      rw [e6 5 (by decide), e5 5 (by decide), e4 5 (by decide), e3 5 (by decide)]; exact d2
    · have u := (⟨b3, c3⟩ : AL _ (dT D + 2) [] 0 ∧ dW _ (dT D + 2) 1 = 1000012)
      have u := up 2 (by decide) E4 u.1 u.2
      have u := up 2 (by decide) E5 u.1 u.2
      have u := up 2 (by decide) E6 u.1 u.2
      refine ⟨u.1, u.2, ?_⟩
      show dW _ g 6 = _
      rw [e6 6 (by decide), e5 6 (by decide), e4 6 (by decide)]; exact d3
    · have u := (⟨b4, c4⟩ : AL _ (dT D + 3) [] 0 ∧ dW _ (dT D + 3) 1 = 1000012)
      have u := up 3 (by decide) E5 u.1 u.2
      have u := up 3 (by decide) E6 u.1 u.2
      refine ⟨u.1, u.2, ?_⟩
      show dW _ g 7 = _
      rw [e6 7 (by decide), e5 7 (by decide)]; exact d4
    · have u := (⟨b5, c5⟩ : AL _ (dT D + 4) [] 0 ∧ dW _ (dT D + 4) 1 = 1000012)
      have u := up 4 (by decide) E6 u.1 u.2
      refine ⟨u.1, u.2, ?_⟩
      show dW _ g 8 = _
      rw [e6 8 (by decide)]; exact d5
    · have u := (⟨b6, c6⟩ : AL _ (dT D + 5) [] 0 ∧ dW _ (dT D + 5) 1 = 1000012)
      refine ⟨u.1, u.2, ?_⟩
      show dW _ g 9 = _
      exact d6
  · rw [e6 i (by omega), e5 i (by omega), e4 i (by omega), e3 i (by omega), e2 i (by omega), e1 i (by omega)]
  · exact (((((E1.trans E2 (fun _ _ z => z)).trans E3 (fun _ _ z => z)).trans E4 (fun _ _ z => z)).trans E5 (fun _ _ z => z)).trans E6 (fun _ _ z => z)).mono (by decide) (by decide) (fun _ _ z => z)
theorem l_hall0 {col : Col} {D B : DD} {g n : Int} {r : Row} (hg : dO D g 7) (h6 : sixF D B g) (hf : ∀ i, 0 ≤ i → i < 4 → dW D g i = r i) : ∃ col', RLp col' B g (rC r 0 0 0 0 0 0) 0 ⟨[], [], [], [], [], []⟩ n ∧ (∀ a, a < dT D → a ≠ g → col' a = col a) ∧ ∀ a, dT B ≤ a → col' a = (-1, -1) := by
  obtain ⟨⟨t1, t2⟩, h1, h2, E⟩ := h6
  have hgl := hg.2.1
  have hg1 := hg.1
  generalize hc : (fun a => if a = g then (g, 0) else if dT D ≤ a ∧ a < dT D + 6 then (g, 4 + (a - dT D)) else if a < dT D then col a else (-1, -1) : Col) = col'
  have cg : col' g = (g, 0) := by rw [← hc]; exact if_pos rfl
  have cj : ∀ j, 0 ≤ j → j < 6 → col' (dT D + j) = (g, 4 + j) := fun j j0 j1 => by
    rw [← hc]
    show (if dT D + j = g then _ else if dT D ≤ dT D + j ∧ dT D + j < dT D + 6 then (g, 4 + (dT D + j - dT D)) else _) = _
    rw [if_neg (by omega), if_pos (by omega), show dT D + j - dT D = j by omega]
  have hl : ∀ j : Int, 0 ≤ j → j < 6 → HL col' B g (4 + j) [] 0 := fun j j0 j1 => by
    obtain ⟨k1, k2, k3⟩ := h1 j j0 j1
    refine ⟨by rw [k3]; exact k1, by rw [k3]; exact cj j j0 j1, by rw [k3]; exact Or.inl k2⟩
  have fe : ∀ i, 0 ≤ i → i < 4 → dW B g i = rC r 0 0 0 0 0 0 i := fun i i0 i1 => by
    by_cases c : i < 4
    · rw [h2 i c, hf i i0 i1, rC_o (by unfold isC; omega)]
    · omega
  refine ⟨col', ⟨E.dO hg, cg, fe 0 (by decide) (by decide), fe 1 (by decide) (by decide), fe 2 (by decide) (by decide), fe 3 (by decide) (by decide), hl 0 (by decide) (by decide), hl 1 (by decide) (by decide), hl 2 (by decide) (by decide), hl 3 (by decide) (by decide), hl 4 (by decide) (by decide), hl 5 (by decide) (by decide), rfl, rfl, rfl, rfl, rfl, rfl, List.nodup_nil, List.nodup_nil, List.nodup_nil, List.nodup_nil, fun k hk => absurd hk (Nat.not_lt_zero k), fun k hk => absurd hk (Nat.not_lt_zero k), fun k hk => absurd hk (Nat.not_lt_zero k), fun k hk => absurd hk (Nat.not_lt_zero k), fun k hk => absurd hk (Nat.not_lt_zero k), fun k hk => absurd hk (Nat.not_lt_zero k)⟩, fun a ha hne => ?_, fun a ha => ?_⟩
  · rw [← hc]
    show (if a = g then _ else if dT D ≤ a ∧ a < dT D + 6 then _ else if a < dT D then col a else _) = _
    rw [if_neg hne, if_neg (by omega), if_pos ha]
  · rw [← hc]
    show (if a = g then _ else if dT D ≤ a ∧ a < dT D + 6 then _ else if a < dT D then col a else _) = _
    rw [if_neg (by omega), if_neg (by omega), if_neg (by omega)]
/-- new Hall() -/
theorem l_initH {col : Col} {D : DD} {g n : Int} {r : Row} (hg : dO D g 7) (h3 : dW D g 3 = r 3) (hr : r 0 = 20 ∧ r 1 = 2 ∧ r 2 = 50) (hT : dT D + 10 < 600000) (hS : dS D + 40 ≤ 7200000) : ∃ B col', fX6_init g D = some B ∧ RLp col' B g (rC r 0 0 0 0 0 0) 0 ⟨[], [], [], [], [], []⟩ n ∧ (∀ a, a < dT D → a ≠ g → col' a = col a) ∧ (∀ a, dT B ≤ a → col' a = (-1, -1)) ∧ Ev (fun a => a = g) 6 18 D B := by
  have E0 : Ev (fun a => a = g) 0 0 D (dup (dup (dup D g 0 20) g 1 2) g 2 50) := (((Ev.dup (P := fun a => a = g) D (fun _ => rfl)).trans (Ev.dup (P := fun a => a = g) _ (fun _ => rfl)) (fun _ _ z => z)).trans (Ev.dup (P := fun a => a = g) _ (fun _ => rfl)) (fun _ _ z => z)).mono (by decide) (by decide) (fun _ _ z => z)
  have hg0 := E0.dO hg
  obtain ⟨A1, A2, A3, A4, A5, A6, ⟨a1, t1, s1⟩, ⟨a2, t2, s2⟩, ⟨a3, t3, s3⟩, ⟨a4, t4, s4⟩, ⟨a5, t5, s5⟩, ⟨a6, t6, s6⟩, fin⟩ := l_six hg0 hT hS
  have x0 : dT (dup (dup (dup D g 0 20) g 1 2) g 2 50) = dT D := rfl
  have y0 : dS (dup (dup (dup D g 0 20) g 1 2) g 2 50) = dS D := rfl
  have hf : ∀ i, 0 ≤ i → i < 4 → dW (dup (dup (dup D g 0 20) g 1 2) g 2 50) g i = r i := fun i i0 i1 => by
    rw [dup_at, dup_at, dup_at]
    have h4 : i = 0 ∨ i = 1 ∨ i = 2 ∨ i = 3 := by omega
    rcases h4 with q | q | q | q <;> subst q
    · rw [if_neg (by omega), if_neg (by omega), if_pos ⟨rfl, rfl⟩, hr.1]
    · rw [if_neg (by omega), if_pos ⟨rfl, rfl⟩, hr.2.1]
    · rw [if_pos ⟨rfl, rfl⟩, hr.2.2]
    · rw [if_neg (by omega), if_neg (by omega), if_neg (by omega), h3]
  obtain ⟨col', R, c1, c2⟩ := l_hall0 (col := col) (n := n) hg0 fin hf
  obtain ⟨⟨u1, u2⟩, -, -, E6⟩ := fin
  unfold fX6_init
  rw [if_pos ⟨hg.1, hg.2.1, trivial⟩, if_pos hg, zl_eq, zl_eq, zl_eq]
  generalize hD0 : dup (dup (dup D g 0 20) g 1 2) g 2 50 = D0 at *
  rw [if_pos ⟨by omega, by omega⟩, zl_eq, a1]
  simp only [Option.bind_some]
  rw [zl_eq, t1]
  rw [if_pos ⟨by omega, by omega⟩, zl_eq, a2]
  simp only [Option.bind_some]
  rw [zl_eq, t2]
  rw [if_pos ⟨by omega, by omega⟩, zl_eq, a3]
  simp only [Option.bind_some]
  rw [zl_eq, t3]
  rw [if_pos ⟨by omega, by omega⟩, zl_eq, a4]
  simp only [Option.bind_some]
  rw [zl_eq, t4]
  rw [if_pos ⟨by omega, by omega⟩, zl_eq, a5]
  simp only [Option.bind_some]
  rw [zl_eq, t5]
  rw [if_pos ⟨by omega, by omega⟩, zl_eq, a6]
  simp only [Option.bind_some]
  rw [zl_eq, t6]
  refine ⟨_, col', rfl, R, fun a ha hne => c1 a (by omega) hne, c2, (E0.trans E6 (fun _ _ z => z)).mono (by decide) (by decide) (fun _ _ z => z)⟩

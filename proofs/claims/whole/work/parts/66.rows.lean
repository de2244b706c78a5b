/-! rows that agree; halls copied -/
theorem IH_congr {B : Int} {r r' : Row} (h : IH B r) (e : ∀ i, 0 ≤ i → i < 765 → r' i = r i) : IH B r' := by
  have hn := h.1
  unfold IHn at hn
  have e4 := e 4 (by omega) (by omega)
  have e37 := e 37 (by omega) (by omega)
  have e470 := e 470 (by omega) (by omega)
  have e546 := e 546 (by omega) (by omega)
  have e619 := e 619 (by omega) (by omega)
  have e644 := e 644 (by omega) (by omega)
  refine ⟨?_, fun k a b => ?_, fun k a b => ?_, fun k a b => ?_, fun k a b => ?_, fun k a b => ?_⟩
  · unfold IHn
    rw [e4, e37, e470, e546, e619, e644, e 3 (by omega) (by omega), e 0 (by omega) (by omega), e 1 (by omega) (by omega), e 2 (by omega) (by omega)]
    exact h.1
  · rw [e4] at b
    rw [e (5 + 4 * k + 1) (by omega) (by omega), e (5 + 4 * k + 2) (by omega) (by omega), e (5 + 4 * k + 3) (by omega) (by omega)]
    exact h.2.1 k a b
  · rw [e37] at b
    have := h.2.2.1 k a b
    rw [e (38 + 18 * k + 0) (by omega) (by omega), e (38 + 18 * k + 1) (by omega) (by omega), e (38 + 18 * k + 3) (by omega) (by omega), e (38 + 18 * k + 4) (by omega) (by omega), e (38 + 18 * k + 5) (by omega) (by omega), e4]
    refine ⟨this.1, this.2.1, this.2.2.1, this.2.2.2.1, this.2.2.2.2.1, fun m c d => ?_⟩
    rw [e (38 + 18 * k + (6 + m)) (by omega) (by omega)]
    exact this.2.2.2.2.2 m c d
  · rw [e470] at b
    have := h.2.2.2.1 k a b
    rw [e (471 + 5 * k + 1) (by omega) (by omega), e (471 + 5 * k + 2) (by omega) (by omega), e (471 + 5 * k + 3) (by omega) (by omega), e (471 + 5 * k + 4) (by omega) (by omega), e546]
    refine ⟨this.1, this.2.1, this.2.2.1, this.2.2.2.1, this.2.2.2.2.trans ⟨?_, ?_⟩⟩
    · rintro ⟨m, c, d, f⟩
      exact ⟨m, c, d, by rw [e (547 + 6 * m + 3) (by omega) (by omega)]; exact f⟩
    · rintro ⟨m, c, d, f⟩
      rw [e (547 + 6 * m + 3) (by omega) (by omega)] at f
      exact ⟨m, c, d, f⟩
  · rw [e546] at b
    have := h.2.2.2.2.1 k a b
    rw [e (547 + 6 * k + 1) (by omega) (by omega), e (547 + 6 * k + 2) (by omega) (by omega), e (547 + 6 * k + 3) (by omega) (by omega), e (547 + 6 * k + 4) (by omega) (by omega), e (547 + 6 * k + 5) (by omega) (by omega), e546, e470, e619]
    refine ⟨this.1, this.2.1, this.2.2.1, this.2.2.2.1, this.2.2.2.2.1, fun m c d => ?_⟩
    rw [e (547 + 6 * m + 3) (by omega) (by omega)]
    exact this.2.2.2.2.2 m c d
  · rw [e619] at b
    rw [e (620 + 3 * k + 0) (by omega) (by omega), e (620 + 3 * k + 1) (by omega) (by omega), e (620 + 3 * k + 2) (by omega) (by omega)]
    exact h.2.2.2.2.2 k a b
theorem RH_congr {B : Int} {z : ZZ} {h : Nat} {r r' : Row} (hR : RH z h r) (hI : IHn B r) (e : ∀ i, 0 ≤ i → i < 765 → r' i = r i) : RH z h r' := by
  unfold IHn at hI
  have e4 := e 4 (by omega) (by omega)
  have e37 := e 37 (by omega) (by omega)
  have e470 := e 470 (by omega) (by omega)
  have e546 := e 546 (by omega) (by omega)
  have e619 := e 619 (by omega) (by omega)
  have e644 := e 644 (by omega) (by omega)
  obtain ⟨h1, h2, h3, h4, h5, h6, h7⟩ := hR
  refine ⟨⟨by rw [e4]; exact h1.1, fun j a b => ?_⟩, ⟨by rw [e37]; exact h2.1, fun j a b => ?_⟩, ⟨by rw [e644]; exact h3.1, fun j a b => ?_⟩, ⟨by rw [e470]; exact h4.1, fun k c a b p q => ?_⟩, ⟨by rw [e546]; exact h5.1, fun j a b => ?_⟩, ⟨by rw [e619]; exact h6.1, fun j a b => ?_⟩, ?_⟩
  · rw [e4] at b; rw [e _ (by omega) (by omega)]; exact h1.2 j a b
  · rw [e37] at b; rw [e _ (by omega) (by omega)]; exact h2.2 j a b
  · rw [e644] at b; rw [e _ (by omega) (by omega)]; exact h3.2 j a b
  · rw [e470] at b; rw [e _ (by omega) (by omega)]; exact h4.2 k c a b p q
  · rw [e546] at b; rw [e _ (by omega) (by omega)]; exact h5.2 j a b
  · rw [e619] at b; rw [e _ (by omega) (by omega)]; exact h6.2 j a b
  · rw [e 3 (by omega) (by omega), e 0 (by omega) (by omega), e 1 (by omega) (by omega), e 2 (by omega) (by omega)]
    exact h7
theorem RH_fra {z z' : ZZ} {h : Nat} {r : Row} (hR : RH z h r) (e : ∀ a, h ≤ a → a ≤ h + 12 → z' a = z a) : RH z' h r := by
  unfold RH TL TH at *
  rw [e h (by omega) (by omega), e (h + 1) (by omega) (by omega), e (h + 1 + 1) (by omega) (by omega), e (h + 3) (by omega) (by omega), e (h + 3 + 1) (by omega) (by omega), e (h + 5) (by omega) (by omega), e (h + 5 + 1) (by omega) (by omega), e (h + 7) (by omega) (by omega), e (h + 7 + 1) (by omega) (by omega), e (h + 9) (by omega) (by omega), e (h + 9 + 1) (by omega) (by omega), e (h + 11) (by omega) (by omega), e (h + 11 + 1) (by omega) (by omega)]
  exact hR
theorem c_cpT {t t2 : Nat} {z : ZZ} (hs : zTS t2 = zTS t) (h1 : t2 + 1 ≠ t) : ∃ z', fX4_copyFrom t t2 z = some z' ∧ z' t 3 = z t2 3 ∧ (∀ j, 0 ≤ j → j < (zTS t : Int) → z' (t + 1) j = z (t2 + 1) j) ∧ ∀ a, a ≠ t → a ≠ t + 1 → z' a = z a := by
  refine ⟨zcp (zup z t 3 (z t2 3)) (t2 + 1) (t + 1) 0 0 (zTS t), ?_, ?_, fun j a b => ?_, fun a p q => ?_⟩
  · unfold fX4_copyFrom zl
    dsimp only
    rw [hs, Int.min_self, if_pos ⟨by omega, by omega, by omega, by omega, by omega⟩]
  · show (if t = t + 1 ∧ _ then _ else zup z t 3 (z t2 3) t 3) = _
    rw [if_neg (by omega), zup_at, if_pos rfl]
  · show (if t + 1 = t + 1 ∧ 0 ≤ j ∧ j < 0 + (zTS t : Int) then zup z t 3 (z t2 3) (t2 + 1) (0 + (j - 0)) else _) = _
    rw [if_pos ⟨rfl, a, by omega⟩, zup_ne h1, show 0 + (j - 0) = j by omega]
  · funext j
    show (if a = t + 1 ∧ _ then _ else zup z t 3 (z t2 3) a j) = _
    rw [if_neg (fun w => q w.1), zup_ne p]
theorem isH_ts : ∀ h, isH h → zTS (h + 1) = 32 ∧ zTS (h + 3) = 432 ∧ zTS (h + 5) = 120 ∧ zTS (h + 7) = 60 ∧ zTS (h + 9) = 72 ∧ zTS (h + 11) = 24 := by
  unfold isH
  decide +kernel
theorem isH_apart : ∀ h, isH h → ∀ g, isH g → h = g ∨ h + 13 ≤ g ∨ g + 13 ≤ h := by
  unfold isH
  decide +kernel
theorem c_copy {B : Int} {z : ZZ} {h g : Nat} {r : Row} (hh : isH h) (hg : isH g) (hne : h ≠ g) (hn : IHn B r) (hR : RH z g r) : ∃ z', fX1_copyFrom h g z = some z' ∧ RH z' h r ∧ Fra (fun a => h ≤ a ∧ a ≤ h + 12) z z' := by
  unfold IHn at hn
  have hA := isH_apart h hh g hg
  obtain ⟨s1, s2, s3, s4, s5, s6⟩ := isH_ts h hh
  obtain ⟨u1, u2, u3, u4, u5, u6⟩ := isH_ts g hg
  obtain ⟨z1, e1, a1, b1, f1⟩ := c_cpT (t := h + 1) (t2 := g + 1) (z := z) (by rw [s1, u1]) (by omega)
  obtain ⟨z2, e2, a2, b2, f2⟩ := c_cpT (t := h + 3) (t2 := g + 3) (z := z1) (by rw [s2, u2]) (by omega)
  obtain ⟨z3, e3, a3, b3, f3⟩ := c_cpT (t := h + 5) (t2 := g + 5) (z := z2) (by rw [s3, u3]) (by omega)
  obtain ⟨z4, e4, a4, b4, f4⟩ := c_cpT (t := h + 7) (t2 := g + 7) (z := z3) (by rw [s4, u4]) (by omega)
  obtain ⟨z5, e5, a5, b5, f5⟩ := c_cpT (t := h + 9) (t2 := g + 9) (z := z4) (by rw [s5, u5]) (by omega)
  obtain ⟨z6, e6, a6, b6, f6⟩ := c_cpT (t := h + 11) (t2 := g + 11) (z := z5) (by rw [s6, u6]) (by omega)
  rw [s1] at b1
  rw [s2] at b2
  rw [s3] at b3
  rw [s4] at b4
  rw [s5] at b5
  rw [s6] at b6
  have F : ∀ a, ¬ (h ≤ a ∧ a ≤ h + 12) → z6 a = z a := fun a q => by
    rw [f6 a (by omega) (by omega), f5 a (by omega) (by omega), f4 a (by omega) (by omega), f3 a (by omega) (by omega), f2 a (by omega) (by omega), f1 a (by omega) (by omega)]
  have G2 : ∀ a, g ≤ a → a ≤ g + 12 → z1 a = z a := fun a p q => f1 a (by omega) (by omega)
  have G3 : ∀ a, g ≤ a → a ≤ g + 12 → z2 a = z a := fun a p q => (f2 a (by omega) (by omega)).trans (G2 a p q)
  have G4 : ∀ a, g ≤ a → a ≤ g + 12 → z3 a = z a := fun a p q => (f3 a (by omega) (by omega)).trans (G3 a p q)
  have G5 : ∀ a, g ≤ a → a ≤ g + 12 → z4 a = z a := fun a p q => (f4 a (by omega) (by omega)).trans (G4 a p q)
  have G6 : ∀ a, g ≤ a → a ≤ g + 12 → z5 a = z a := fun a p q => (f5 a (by omega) (by omega)).trans (G5 a p q)
  have hgz : ∀ j, z6 g j = z g j := fun j => by rw [F g (by omega)]
  obtain ⟨h1, h2, h3, h4, h5, h6, h7⟩ := hR
  refine ⟨zup (zup (zup (zup z6 h 7 (z g 7)) h 8 (z g 8)) h 9 (z g 9)) h 10 (z g 10), ?_, ?_, fun a q => ?_⟩
  · have k7 : zup z6 h 7 (z g 7) g = z g := by rw [zup_ne (by omega), F g (by omega)]
    unfold fX1_copyFrom fX1_setRules zl
    dsimp only
    rw [e1]
    simp only [Option.bind_some]
    rw [e2]
    simp only [Option.bind_some]
    rw [e3]
    simp only [Option.bind_some]
    rw [e4]
    simp only [Option.bind_some]
    rw [e5]
    simp only [Option.bind_some]
    rw [e6]
    simp only [Option.bind_some]
    rw [hgz, k7]
  · have K : ∀ a, a ≠ h → zup (zup (zup (zup z6 h 7 (z g 7)) h 8 (z g 8)) h 9 (z g 9)) h 10 (z g 10) a = z6 a := fun a q => by rw [zup_ne q, zup_ne q, zup_ne q, zup_ne q]
    refine ⟨⟨?_, fun j a b => ?_⟩, ⟨?_, fun j a b => ?_⟩, ⟨?_, fun j a b => ?_⟩, ⟨?_, fun k c a b p q => ?_⟩, ⟨?_, fun j a b => ?_⟩, ⟨?_, fun j a b => ?_⟩, ?_⟩
    · rw [K _ (by omega), f6 _ (by omega) (by omega), f5 _ (by omega) (by omega), f4 _ (by omega) (by omega), f3 _ (by omega) (by omega), f2 _ (by omega) (by omega), a1]
      exact h1.1
    · rw [K _ (by omega), f6 _ (by omega) (by omega), f5 _ (by omega) (by omega), f4 _ (by omega) (by omega), f3 _ (by omega) (by omega), f2 _ (by omega) (by omega), b1 j a (by omega)]
      exact h1.2 j a b
    · rw [K _ (by omega), f6 _ (by omega) (by omega), f5 _ (by omega) (by omega), f4 _ (by omega) (by omega), f3 _ (by omega) (by omega), a2, G2 _ (by omega) (by omega)]
      exact h2.1
    · rw [K _ (by omega), f6 _ (by omega) (by omega), f5 _ (by omega) (by omega), f4 _ (by omega) (by omega), f3 _ (by omega) (by omega), b2 j a (by omega), G2 _ (by omega) (by omega)]
      exact h2.2 j a b
    · rw [K _ (by omega), f6 _ (by omega) (by omega), f5 _ (by omega) (by omega), f4 _ (by omega) (by omega), a3, G3 _ (by omega) (by omega)]
      exact h3.1
    · rw [K _ (by omega), f6 _ (by omega) (by omega), f5 _ (by omega) (by omega), f4 _ (by omega) (by omega), b3 j a (by omega), G3 _ (by omega) (by omega)]
      exact h3.2 j a b
    · rw [K _ (by omega), f6 _ (by omega) (by omega), f5 _ (by omega) (by omega), a4, G4 _ (by omega) (by omega)]
      exact h4.1
    · rw [K _ (by omega), f6 _ (by omega) (by omega), f5 _ (by omega) (by omega), b4 _ (by omega) (by omega), G4 _ (by omega) (by omega)]
      exact h4.2 k c a b p q
    · rw [K _ (by omega), f6 _ (by omega) (by omega), a5, G5 _ (by omega) (by omega)]
      exact h5.1
    · rw [K _ (by omega), f6 _ (by omega) (by omega), b5 j a (by omega), G5 _ (by omega) (by omega)]
      exact h5.2 j a b
    · rw [K _ (by omega), a6, G6 _ (by omega) (by omega)]
      exact h6.1
    · rw [K _ (by omega), b6 j a (by omega), G6 _ (by omega) (by omega)]
      exact h6.2 j a b
    · simp only [zup_at]
      exact h7
  · rw [zup_ne (by omega), zup_ne (by omega), zup_ne (by omega), zup_ne (by omega), F a q]

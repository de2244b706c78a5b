/-! the class changes -/
section AS
variable {z : ZZ} {r : Row} {B : Int} {v lo hi : Int} {t : Nat}
theorem n_row : fX5_needRow t v z = some (if 0 ≤ v ∧ v < z t 3 then .inl 0 else .inr 0) := by
  unfold fX5_needRow fX4_hasRow
  by_cases h : v < 0
  · rw [if_pos h, if_neg (by omega)]
    rfl
  · rw [if_neg h]
    by_cases h2 : v < z t 3
    · rw [if_pos h2, if_pos ⟨by omega, h2⟩]
      rfl
    · rw [if_neg h2, if_neg (fun x => h2 x.2)]
      rfl
theorem n_btw : fX5_needBetween v lo hi z = some (if lo ≤ v ∧ v ≤ hi then .inl 0 else .inr 1) := by
  unfold fX5_needBetween fX5_needBetween_b10
  by_cases h : v < lo
  · rw [if_pos h, if_neg (by omega)]
  · rw [if_neg h]
    by_cases h2 : hi < v
    · rw [if_pos h2, if_neg (by omega)]
    · rw [if_neg h2, if_pos (by omega)]
end AS

theorem IH_congr {B : Int} {r r' : Row} (h : IH B r) (e : ∀ i, 0 ≤ i → i < 765 → r' i = r i) : IH B r' := by
  have hn := h.1
  unfold IHn at hn
  have e4 := e 4 (by omega) (by omega)
  have e37 := e 37 (by omega) (by omega)
  have e470 := e 470 (by omega) (by omega)
  have e546 := e 546 (by omega) (by omega)
  have e619 := e 619 (by omega) (by omega)
  have e644 := e 644 (by omega) (by omega)
  refine ⟨?_, fun k a b => ?_, fun k a b => ?_, fun k a b => ?_, fun k a b => ?_, fun k a b => ?_⟩
  · unfold IHn
    rw [e4, e37, e470, e546, e619, e644, e 3 (by omega) (by omega), e 0 (by omega) (by omega), e 1 (by omega) (by omega), e 2 (by omega) (by omega)]
    exact h.1
  · rw [e4] at b
    rw [e (5 + 4 * k + 1) (by omega) (by omega), e (5 + 4 * k + 2) (by omega) (by omega), e (5 + 4 * k + 3) (by omega) (by omega)]
    exact h.2.1 k a b
  · rw [e37] at b
    have := h.2.2.1 k a b
    rw [e (38 + 18 * k + 0) (by omega) (by omega), e (38 + 18 * k + 1) (by omega) (by omega), e (38 + 18 * k + 3) (by omega) (by omega), e (38 + 18 * k + 4) (by omega) (by omega), e (38 + 18 * k + 5) (by omega) (by omega), e4]
    refine ⟨this.1, this.2.1, this.2.2.1, this.2.2.2.1, this.2.2.2.2.1, fun m c d => ?_⟩
    rw [e (38 + 18 * k + (6 + m)) (by omega) (by omega)]
    exact this.2.2.2.2.2 m c d
  · rw [e470] at b
    have := h.2.2.2.1 k a b
    rw [e (471 + 5 * k + 1) (by omega) (by omega), e (471 + 5 * k + 2) (by omega) (by omega), e (471 + 5 * k + 3) (by omega) (by omega), e (471 + 5 * k + 4) (by omega) (by omega), e546]
    refine ⟨this.1, this.2.1, this.2.2.1, this.2.2.2.1, this.2.2.2.2.trans ⟨?_, ?_⟩⟩
    · rintro ⟨m, c, d, f⟩
      exact ⟨m, c, d, by rw [e (547 + 6 * m + 3) (by omega) (by omega)]; exact f⟩
    · rintro ⟨m, c, d, f⟩
      rw [e (547 + 6 * m + 3) (by omega) (by omega)] at f
      exact ⟨m, c, d, f⟩
  · rw [e546] at b
    have := h.2.2.2.2.1 k a b
    rw [e (547 + 6 * k + 1) (by omega) (by omega), e (547 + 6 * k + 2) (by omega) (by omega), e (547 + 6 * k + 3) (by omega) (by omega), e (547 + 6 * k + 4) (by omega) (by omega), e (547 + 6 * k + 5) (by omega) (by omega), e546, e470, e619]
    refine ⟨this.1, this.2.1, this.2.2.1, this.2.2.2.1, this.2.2.2.2.1, fun m c d => ?_⟩
    rw [e (547 + 6 * m + 3) (by omega) (by omega)]
    exact this.2.2.2.2.2 m c d
  · rw [e619] at b
    rw [e (620 + 3 * k + 0) (by omega) (by omega), e (620 + 3 * k + 1) (by omega) (by omega), e (620 + 3 * k + 2) (by omega) (by omega)]
    exact h.2.2.2.2.2 k a b
theorem RH_congr {B : Int} {z : ZZ} {h : Nat} {r r' : Row} (hR : RH z h r) (hI : IHn B r) (e : ∀ i, 0 ≤ i → i < 765 → r' i = r i) : RH z h r' := by
  unfold IHn at hI
  have e4 := e 4 (by omega) (by omega)
  have e37 := e 37 (by omega) (by omega)
  have e470 := e 470 (by omega) (by omega)
  have e546 := e 546 (by omega) (by omega)
  have e619 := e 619 (by omega) (by omega)
  have e644 := e 644 (by omega) (by omega)
  obtain ⟨h1, h2, h3, h4, h5, h6, h7⟩ := hR
  refine ⟨⟨by rw [e4]; exact h1.1, fun j a b => ?_⟩, ⟨by rw [e37]; exact h2.1, fun j a b => ?_⟩, ⟨by rw [e644]; exact h3.1, fun j a b => ?_⟩, ⟨by rw [e470]; exact h4.1, fun k c a b p q => ?_⟩, ⟨by rw [e546]; exact h5.1, fun j a b => ?_⟩, ⟨by rw [e619]; exact h6.1, fun j a b => ?_⟩, ?_⟩
  · rw [e4] at b; rw [e _ (by omega) (by omega)]; exact h1.2 j a b
  · rw [e37] at b; rw [e _ (by omega) (by omega)]; exact h2.2 j a b
  · rw [e644] at b; rw [e _ (by omega) (by omega)]; exact h3.2 j a b
  · rw [e470] at b; rw [e _ (by omega) (by omega)]; exact h4.2 k c a b p q
  · rw [e546] at b; rw [e _ (by omega) (by omega)]; exact h5.2 j a b
  · rw [e619] at b; rw [e _ (by omega) (by omega)]; exact h6.2 j a b
  · rw [e 3 (by omega) (by omega), e 0 (by omega) (by omega), e 1 (by omega) (by omega), e 2 (by omega) (by omega)]
    exact h7
theorem RH_fra {z z' : ZZ} {h : Nat} {r : Row} (hR : RH z h r) (e : ∀ a, h ≤ a → a ≤ h + 12 → z' a = z a) : RH z' h r := by
  unfold RH TL TH at *
  rw [e h (by omega) (by omega), e (h + 1) (by omega) (by omega), e (h + 1 + 1) (by omega) (by omega), e (h + 3) (by omega) (by omega), e (h + 3 + 1) (by omega) (by omega), e (h + 5) (by omega) (by omega), e (h + 5 + 1) (by omega) (by omega), e (h + 7) (by omega) (by omega), e (h + 7 + 1) (by omega) (by omega), e (h + 9) (by omega) (by omega), e (h + 9 + 1) (by omega) (by omega), e (h + 11) (by omega) (by omega), e (h + 11 + 1) (by omega) (by omega)]
  exact hR
theorem c_cpT {t t2 : Nat} {z : ZZ} (hs : zTS t2 = zTS t) (h1 : t2 + 1 ≠ t) : ∃ z', fX4_copyFrom t t2 z = some z' ∧ z' t 3 = z t2 3 ∧ (∀ j, 0 ≤ j → j < (zTS t : Int) → z' (t + 1) j = z (t2 + 1) j) ∧ ∀ a, a ≠ t → a ≠ t + 1 → z' a = z a := by
  refine ⟨zcp (zup z t 3 (z t2 3)) (t2 + 1) (t + 1) 0 0 (zTS t), ?_, ?_, fun j a b => ?_, fun a p q => ?_⟩
  · unfold fX4_copyFrom zl
    dsimp only
    rw [hs, Int.min_self, if_pos ⟨by omega, by omega, by omega, by omega, by omega⟩]
  · show (if t = t + 1 ∧ _ then _ else zup z t 3 (z t2 3) t 3) = _
    rw [if_neg (by omega), zup_at, if_pos rfl]
  · show (if t + 1 = t + 1 ∧ 0 ≤ j ∧ j < 0 + (zTS t : Int) then zup z t 3 (z t2 3) (t2 + 1) (0 + (j - 0)) else _) = _
    rw [if_pos ⟨rfl, a, by omega⟩, zup_ne h1, show 0 + (j - 0) = j by omega]
  · funext j
    show (if a = t + 1 ∧ _ then _ else zup z t 3 (z t2 3) a j) = _
    rw [if_neg (fun w => q w.1), zup_ne p]
theorem isH_ts : ∀ h, isH h → zTS (h + 1) = 32 ∧ zTS (h + 3) = 432 ∧ zTS (h + 5) = 120 ∧ zTS (h + 7) = 60 ∧ zTS (h + 9) = 72 ∧ zTS (h + 11) = 24 := by
  unfold isH
  decide +kernel
theorem isH_apart : ∀ h, isH h → ∀ g, isH g → h = g ∨ h + 13 ≤ g ∨ g + 13 ≤ h := by
  unfold isH
  decide +kernel
theorem c_copy {B : Int} {z : ZZ} {h g : Nat} {r : Row} (hh : isH h) (hg : isH g) (hne : h ≠ g) (hn : IHn B r) (hR : RH z g r) : ∃ z', fX1_copyFrom h g z = some z' ∧ RH z' h r ∧ Fra (fun a => h ≤ a ∧ a ≤ h + 12) z z' := by
  unfold IHn at hn
  have hA := isH_apart h hh g hg
  obtain ⟨s1, s2, s3, s4, s5, s6⟩ := isH_ts h hh
  obtain ⟨u1, u2, u3, u4, u5, u6⟩ := isH_ts g hg
  obtain ⟨z1, e1, a1, b1, f1⟩ := c_cpT (t := h + 1) (t2 := g + 1) (z := z) (by rw [s1, u1]) (by omega)
  obtain ⟨z2, e2, a2, b2, f2⟩ := c_cpT (t := h + 3) (t2 := g + 3) (z := z1) (by rw [s2, u2]) (by omega)
  obtain ⟨z3, e3, a3, b3, f3⟩ := c_cpT (t := h + 5) (t2 := g + 5) (z := z2) (by rw [s3, u3]) (by omega)
  obtain ⟨z4, e4, a4, b4, f4⟩ := c_cpT (t := h + 7) (t2 := g + 7) (z := z3) (by rw [s4, u4]) (by omega)
  obtain ⟨z5, e5, a5, b5, f5⟩ := c_cpT (t := h + 9) (t2 := g + 9) (z := z4) (by rw [s5, u5]) (by omega)
  obtain ⟨z6, e6, a6, b6, f6⟩ := c_cpT (t := h + 11) (t2 := g + 11) (z := z5) (by rw [s6, u6]) (by omega)
  rw [s1] at b1
  rw [s2] at b2
  rw [s3] at b3
  rw [s4] at b4
  rw [s5] at b5
  rw [s6] at b6
  have F : ∀ a, ¬ (h ≤ a ∧ a ≤ h + 12) → z6 a = z a := fun a q => by
    rw [f6 a (by omega) (by omega), f5 a (by omega) (by omega), f4 a (by omega) (by omega), f3 a (by omega) (by omega), f2 a (by omega) (by omega), f1 a (by omega) (by omega)]
  have G2 : ∀ a, g ≤ a → a ≤ g + 12 → z1 a = z a := fun a p q => f1 a (by omega) (by omega)
  have G3 : ∀ a, g ≤ a → a ≤ g + 12 → z2 a = z a := fun a p q => (f2 a (by omega) (by omega)).trans (G2 a p q)
  have G4 : ∀ a, g ≤ a → a ≤ g + 12 → z3 a = z a := fun a p q => (f3 a (by omega) (by omega)).trans (G3 a p q)
  have G5 : ∀ a, g ≤ a → a ≤ g + 12 → z4 a = z a := fun a p q => (f4 a (by omega) (by omega)).trans (G4 a p q)
  have G6 : ∀ a, g ≤ a → a ≤ g + 12 → z5 a = z a := fun a p q => (f5 a (by omega) (by omega)).trans (G5 a p q)
  have hgz : ∀ j, z6 g j = z g j := fun j => by rw [F g (by omega)]
  obtain ⟨h1, h2, h3, h4, h5, h6, h7⟩ := hR
  refine ⟨zup (zup (zup (zup z6 h 7 (z g 7)) h 8 (z g 8)) h 9 (z g 9)) h 10 (z g 10), ?_, ?_, fun a q => ?_⟩
  · have k7 : zup z6 h 7 (z g 7) g = z g := by rw [zup_ne (by omega), F g (by omega)]
    unfold fX1_copyFrom fX1_setRules zl
    dsimp only
    rw [e1]
    simp only [Option.bind_some]
    rw [e2]
    simp only [Option.bind_some]
    rw [e3]
    simp only [Option.bind_some]
    rw [e4]
    simp only [Option.bind_some]
    rw [e5]
    simp only [Option.bind_some]
    rw [e6]
    simp only [Option.bind_some]
    rw [hgz, k7]
  · have K : ∀ a, a ≠ h → zup (zup (zup (zup z6 h 7 (z g 7)) h 8 (z g 8)) h 9 (z g 9)) h 10 (z g 10) a = z6 a := fun a q => by rw [zup_ne q, zup_ne q, zup_ne q, zup_ne q]
    refine ⟨⟨?_, fun j a b => ?_⟩, ⟨?_, fun j a b => ?_⟩, ⟨?_, fun j a b => ?_⟩, ⟨?_, fun k c a b p q => ?_⟩, ⟨?_, fun j a b => ?_⟩, ⟨?_, fun j a b => ?_⟩, ?_⟩
    · rw [K _ (by omega), f6 _ (by omega) (by omega), f5 _ (by omega) (by omega), f4 _ (by omega) (by omega), f3 _ (by omega) (by omega), f2 _ (by omega) (by omega), a1]
      exact h1.1
    · rw [K _ (by omega), f6 _ (by omega) (by omega), f5 _ (by omega) (by omega), f4 _ (by omega) (by omega), f3 _ (by omega) (by omega), f2 _ (by omega) (by omega), b1 j a (by omega)]
      exact h1.2 j a b
    · rw [K _ (by omega), f6 _ (by omega) (by omega), f5 _ (by omega) (by omega), f4 _ (by omega) (by omega), f3 _ (by omega) (by omega), a2, G2 _ (by omega) (by omega)]
      exact h2.1
    · rw [K _ (by omega), f6 _ (by omega) (by omega), f5 _ (by omega) (by omega), f4 _ (by omega) (by omega), f3 _ (by omega) (by omega), b2 j a (by omega), G2 _ (by omega) (by omega)]
      exact h2.2 j a b
    · rw [K _ (by omega), f6 _ (by omega) (by omega), f5 _ (by omega) (by omega), f4 _ (by omega) (by omega), a3, G3 _ (by omega) (by omega)]
      exact h3.1
    · rw [K _ (by omega), f6 _ (by omega) (by omega), f5 _ (by omega) (by omega), f4 _ (by omega) (by omega), b3 j a (by omega), G3 _ (by omega) (by omega)]
      exact h3.2 j a b
    · rw [K _ (by omega), f6 _ (by omega) (by omega), f5 _ (by omega) (by omega), a4, G4 _ (by omega) (by omega)]
      exact h4.1
    · rw [K _ (by omega), f6 _ (by omega) (by omega), f5 _ (by omega) (by omega), b4 _ (by omega) (by omega), G4 _ (by omega) (by omega)]
      exact h4.2 k c a b p q
    · rw [K _ (by omega), f6 _ (by omega) (by omega), a5, G5 _ (by omega) (by omega)]
      exact h5.1
    · rw [K _ (by omega), f6 _ (by omega) (by omega), b5 j a (by omega), G5 _ (by omega) (by omega)]
      exact h5.2 j a b
    · rw [K _ (by omega), a6, G6 _ (by omega) (by omega)]
      exact h6.1
    · rw [K _ (by omega), b6 j a (by omega), G6 _ (by omega) (by omega)]
      exact h6.2 j a b
    · simp only [zup_at]
      exact h7
  · rw [zup_ne (by omega), zup_ne (by omega), zup_ne (by omega), zup_ne (by omega), F a q]

/-! what is remembered -/
theorem isH_k : ∀ k, k < 8 → isH (34 + 13 * k) := by
  unfold isH
  decide +kernel
/-- the class remembers -/
theorem c_remember {B : Int} {z : ZZ} {r : Row} (hR : RC z r) (hI : IH B r) (hu : 0 ≤ z 32 1 ∧ z 32 1 ≤ 8) (hl : 0 ≤ z 32 2 ∧ z 32 2 < 8) : ∃ z', fX2_remember z = some z' ∧ z' 32 1 = min (z 32 1 + 1) 8 ∧ z' 32 2 = (z 32 2 + 1) % 8 ∧ z' 32 4 = z 32 4 ∧ RH z' (34 + 13 * ((z 32 2 + 1) % 8).toNat) r ∧
    ∀ a, a ≠ 32 → ¬ (34 + 13 * ((z 32 2 + 1) % 8).toNat ≤ a ∧ a ≤ 34 + 13 * ((z 32 2 + 1) % 8).toNat + 12) → z' a = z a := by
  have hk : ((z 32 2 + 1) % 8).toNat < 8 := by omega
  have hR2 : RH (zup (zup z 32 2 ((z 32 2 + 1) % 8)) 32 1 (min (z 32 1 + 1) 8)) 3 r := RH_fra (RC_iff.mp hR) (fun a p q => by rw [zup_ne (by omega), zup_ne (by omega)])
  obtain ⟨z', e, h1, h2⟩ := c_copy (isH_k _ hk) kH3 (by omega) hI.1 hR2
  have e32 : z' 32 = (zup (zup z 32 2 ((z 32 2 + 1) % 8)) 32 1 (min (z 32 1 + 1) 8)) 32 := h2 32 (by omega)
  refine ⟨z', ?_, ?_, ?_, ?_, h1, fun a p q => ?_⟩
  · unfold fX2_remember fX2_latestHall zl
    rw [if_pos (inR_s (by omega)), if_pos (by omega)]
    have a1 : zup z 32 2 ((z 32 2 + 1) % 8) 32 1 = z 32 1 := by rw [zup_at, if_neg (by decide)]
    have a2 : zup (zup z 32 2 ((z 32 2 + 1) % 8)) 32 1 (min (z 32 1 + 1) 8) 32 2 = (z 32 2 + 1) % 8 := by rw [zup_at, if_neg (by decide), zup_at, if_pos rfl]
    dsimp only
    rw [a1, if_pos (inR_s (by omega)), a2, if_neg (by omega), if_pos (by omega)]
    simp only [Option.bind_some]
    rw [e]
    rfl
  · rw [e32, zup_at, if_pos rfl]
  · rw [e32, zup_at, if_neg (by decide), zup_at, if_pos rfl]
  · rw [e32, zup_at, if_neg (by decide), zup_at, if_neg (by decide)]
  · rw [h2 a q, zup_ne p, zup_ne p]

theorem IH_mono {B B' : Int} {r : Row} (h : IH B r) (h1 : B ≤ B') (h2 : B' ≤ 1000000) : IH B' r := by
  obtain ⟨hn, hw, hr, hh, hm, hc⟩ := h
  refine ⟨?_, fun k a b => ?_, fun k a b => ?_, hh, fun k a b => ?_, hc⟩
  · unfold IHn at *
    omega
  · have := hw k a b
    omega
  · have := hr k a b
    exact ⟨this.1, this.2.1, by omega, by omega, this.2.2.2.2.1, this.2.2.2.2.2⟩
  · have := hm k a b
    exact ⟨this.1, by omega, this.2.2.1, this.2.2.2.1, by omega, this.2.2.2.2.2⟩
/-- the class has remembered r and changed its hall -/
def CW (z z' : ZZ) (r : Row) : Prop := z' 32 1 = min (z 32 1 + 1) 8 ∧ z' 32 2 = (z 32 2 + 1) % 8 ∧ z' 32 4 = z 32 4 ∧ RH z' (34 + 13 * ((z 32 2 + 1) % 8).toNat) r ∧ ∀ a, a ≠ 1 → a ≠ 2 → a ≠ 32 → a ≠ 159 → a ≠ 160 → ¬ (3 ≤ a ∧ a ≤ 15) → ¬ (34 + 13 * ((z 32 2 + 1) % 8).toNat ≤ a ∧ a ≤ 34 + 13 * ((z 32 2 + 1) % 8).toNat + 12) → z' a = z a
theorem rup_ne {r : Row} {k v j : Int} (h : j ≠ k) : rup r k v j = r j := if_neg h
theorem TL_o {z : ZZ} {t d : Nat} {r : Row} {n b s p q v : Int} (h : TL z t r n b s) (hd : d ≠ t) (hd2 : d ≠ t + 1) (hn : n ≠ p) (hp : ∀ j, 0 ≤ j → j < s * r n → b + j ≠ p) : TL (zup z d q v) t (rup r p v) n b s := by
  refine ⟨?_, fun j a c => ?_⟩
  · rw [zup_ne (fun e => hd e.symm), rup_ne hn]; exact h.1
  · rw [rup_ne hn] at c
    rw [zup_ne (fun e => hd2 e.symm), rup_ne (hp j a c)]
    exact h.2 j a c
theorem TL_s {z : ZZ} {t : Nat} {r : Row} {n b s q v : Int} (h : TL z t r n b s) (hn : n ≠ b + q) : TL (zup z (t + 1) q v) t (rup r (b + q) v) n b s := by
  refine ⟨?_, fun j a c => ?_⟩
  · rw [zup_ne (by omega), rup_ne hn]; exact h.1
  · rw [rup_ne hn] at c
    rw [zup_at]
    by_cases e : j = q
    · rw [if_pos e, e, rup_at, if_pos rfl]
    · rw [if_neg e, rup_ne (by omega)]
      exact h.2 j a c
theorem TL_r {z : ZZ} {t : Nat} {r : Row} {n b s p v : Int} (h : TL z t r n b s) (hn : n ≠ p) (hp : ∀ j, 0 ≤ j → j < s * r n → b + j ≠ p) : TL z t (rup r p v) n b s := by
  refine ⟨?_, fun j a c => ?_⟩
  · rw [rup_ne hn]; exact h.1
  · rw [rup_ne hn] at c
    rw [rup_ne (hp j a c)]
    exact h.2 j a c
theorem TH_o {z : ZZ} {t d : Nat} {r : Row} {p q v : Int} (h : TH z t r) (hd : d ≠ t) (hd2 : d ≠ t + 1) (hn : 470 ≠ p) (hp : ∀ j, 0 ≤ j → j < 5 * r 470 → 471 + j ≠ p) : TH (zup z d q v) t (rup r p v) := by
  refine ⟨?_, fun k c a b e f => ?_⟩
  · rw [zup_ne (fun e => hd e.symm), rup_ne hn]; exact h.1
  · rw [rup_ne hn] at b
    rw [zup_ne (fun e => hd2 e.symm), rup_ne (by have := hp (5 * k + c) (by omega) (by omega); omega)]
    exact h.2 k c a b e f
theorem TH_s {z : ZZ} {t : Nat} {r : Row} {k c v : Int} (h : TH z t r) (hk : 0 ≤ k) (hc : 0 ≤ c ∧ c < 4) : TH (zup z (t + 1) (k * 4 + c) v) t (rup r (471 + 5 * k + c) v) := by
  refine ⟨?_, fun k' c' a b e f => ?_⟩
  · rw [zup_ne (by omega), rup_ne (by omega)]; exact h.1
  · rw [rup_ne (by omega)] at b
    rw [zup_at]
    by_cases q : k' * 4 + c' = k * 4 + c
    · rw [if_pos q, show 471 + 5 * k' + c' = 471 + 5 * k + c by omega, rup_at, if_pos rfl]
    · rw [if_neg q, rup_ne (by omega)]
      exact h.2 k' c' a b e f
section UP
variable {z : ZZ} {r : Row} {B : Int} {k c v : Int}
theorem RC_up4 (hR : RC z r) (hn : IHn B r) (hk : 0 ≤ k ∧ k < r 4) (hc : 0 ≤ c ∧ c < 4) : RC (zup z 5 (k * 4 + c) v) (rup r (5 + 4 * k + c) v) := by
  unfold IHn at hn
  obtain ⟨h1, h2, h3, h4, h5, h6, h7⟩ := hR
  refine ⟨?_, TL_o h2 (by decide) (by decide) (by omega) (fun j a b => by omega), TL_o h3 (by decide) (by decide) (by omega) (fun j a b => by omega), TH_o h4 (by decide) (by decide) (by omega) (fun j a b => by omega), TL_o h5 (by decide) (by decide) (by omega) (fun j a b => by omega), TL_o h6 (by decide) (by decide) (by omega) (fun j a b => by omega), ?_⟩
  · rw [show 5 + 4 * k + c = 5 + (k * 4 + c) by omega]
    exact TL_s h1 (by omega)
  · rw [zup_ne (by decide), rup_ne (by omega), rup_ne (by omega), rup_ne (by omega), rup_ne (by omega)]
    exact h7
theorem RC_up6 (hR : RC z r) (hn : IHn B r) (hk : 0 ≤ k ∧ k < r 37) (hc : 0 ≤ c ∧ c < 18) : RC (zup z 7 (k * 18 + c) v) (rup r (38 + 18 * k + c) v) := by
  unfold IHn at hn
  obtain ⟨h1, h2, h3, h4, h5, h6, h7⟩ := hR
  refine ⟨TL_o h1 (by decide) (by decide) (by omega) (fun j a b => by omega), ?_, TL_o h3 (by decide) (by decide) (by omega) (fun j a b => by omega), TH_o h4 (by decide) (by decide) (by omega) (fun j a b => by omega), TL_o h5 (by decide) (by decide) (by omega) (fun j a b => by omega), TL_o h6 (by decide) (by decide) (by omega) (fun j a b => by omega), ?_⟩
  · rw [show 38 + 18 * k + c = 38 + (k * 18 + c) by omega]
    exact TL_s h2 (by omega)
  · rw [zup_ne (by decide), rup_ne (by omega), rup_ne (by omega), rup_ne (by omega), rup_ne (by omega)]
    exact h7
theorem RC_up10 (hR : RC z r) (hn : IHn B r) (hk : 0 ≤ k ∧ k < r 470) (hc : 0 ≤ c ∧ c < 4) : RC (zup z 11 (k * 4 + c) v) (rup r (471 + 5 * k + c) v) := by
  unfold IHn at hn
  obtain ⟨h1, h2, h3, h4, h5, h6, h7⟩ := hR
  refine ⟨TL_o h1 (by decide) (by decide) (by omega) (fun j a b => by omega), TL_o h2 (by decide) (by decide) (by omega) (fun j a b => by omega), TL_o h3 (by decide) (by decide) (by omega) (fun j a b => by omega), TH_s h4 hk.1 hc, TL_o h5 (by decide) (by decide) (by omega) (fun j a b => by omega), TL_o h6 (by decide) (by decide) (by omega) (fun j a b => by omega), ?_⟩
  rw [zup_ne (by decide), rup_ne (by omega), rup_ne (by omega), rup_ne (by omega), rup_ne (by omega)]
  exact h7
theorem RC_up12 (hR : RC z r) (hn : IHn B r) (hk : 0 ≤ k ∧ k < r 546) (hc : 0 ≤ c ∧ c < 6) : RC (zup z 13 (k * 6 + c) v) (rup r (547 + 6 * k + c) v) := by
  unfold IHn at hn
  obtain ⟨h1, h2, h3, h4, h5, h6, h7⟩ := hR
  refine ⟨TL_o h1 (by decide) (by decide) (by omega) (fun j a b => by omega), TL_o h2 (by decide) (by decide) (by omega) (fun j a b => by omega), TL_o h3 (by decide) (by decide) (by omega) (fun j a b => by omega), TH_o h4 (by decide) (by decide) (by omega) (fun j a b => by omega), ?_, TL_o h6 (by decide) (by decide) (by omega) (fun j a b => by omega), ?_⟩
  · rw [show 547 + 6 * k + c = 547 + (k * 6 + c) by omega]
    exact TL_s h5 (by omega)
  · rw [zup_ne (by decide), rup_ne (by omega), rup_ne (by omega), rup_ne (by omega), rup_ne (by omega)]
    exact h7
/-- the model's mark that a harness is lent: the class has none -/
theorem RC_lent (hR : RC z r) (hn : IHn B r) (hk : 0 ≤ k ∧ k < r 470) : RC z (rup r (471 + 5 * k + 4) v) := by
  unfold IHn at hn
  obtain ⟨h1, h2, h3, h4, h5, h6, h7⟩ := hR
  refine ⟨TL_r h1 (by omega) (fun j a b => by omega), TL_r h2 (by omega) (fun j a b => by omega), TL_r h3 (by omega) (fun j a b => by omega), ⟨by rw [rup_ne (by omega)]; exact h4.1, fun k' c' a b e f => ?_⟩, TL_r h5 (by omega) (fun j a b => by omega), TL_r h6 (by omega) (fun j a b => by omega), ?_⟩
  · rw [rup_ne (by omega)] at b
    rw [rup_ne (by omega)]
    exact h4.2 k' c' a b e f
  · rw [rup_ne (by omega), rup_ne (by omega), rup_ne (by omega), rup_ne (by omega)]
    exact h7
end UP

theorem c_rem {B : Int} {z : ZZ} {r : Row} (hR : RC z r) (hI : IH B r) (hu : 0 ≤ z 32 1 ∧ z 32 1 ≤ 8) (hl : 0 ≤ z 32 2 ∧ z 32 2 < 8) : ∃ z1, fX2_remember z = some z1 ∧ RC z1 r ∧ ∀ z2 : ZZ, (∀ a, a ≠ 1 → a ≠ 2 → a ≠ 159 → a ≠ 160 → ¬ (3 ≤ a ∧ a ≤ 15) → z2 a = z1 a) → CW z z2 r := by
  obtain ⟨z1, e, h1, h2, h3, h4, h5⟩ := c_remember hR hI hu hl
  have hk : ((z 32 2 + 1) % 8).toNat < 8 := by omega
  refine ⟨z1, e, RH_fra (h := 3) (RC_iff.mp hR) (fun a p q => h5 a (by omega) (by omega)), fun z2 f => ?_⟩
  have e32 : z2 32 = z1 32 := f 32 (by omega) (by omega) (by omega) (by omega) (by omega)
  refine ⟨by rw [e32]; exact h1, by rw [e32]; exact h2, by rw [e32]; exact h3, RH_fra h4 (fun a p q => f a (by omega) (by omega) (by omega) (by omega) (by omega)), fun a q1 q2 q3 q4 q5 q6 q7 => ?_⟩
  rw [f a q1 q2 q4 q5 q6, h5 a q3 q7]
section IU
variable {r : Row} {B k c v : Int}
theorem IH_up12 (h : IH B r) (hk : 0 ≤ k ∧ k < r 546) (hc : 0 ≤ c ∧ c < 6) (h3 : c ≠ 3) (hv : (c = 1 → 0 ≤ v ∧ v ≤ 5) ∧ (c = 2 → 0 ≤ v ∧ v ≤ B) ∧ (c = 4 → -1 ≤ v ∧ v < r 619) ∧ (c = 5 → 0 ≤ v ∧ v ≤ B)) : IH B (rup r (547 + 6 * k + c) v) := by
  obtain ⟨hn, hw, hr, hh, hm, hcc⟩ := h
  have hn' := hn
  unfold IHn at hn'
  have e4 : rup r (547 + 6 * k + c) v 4 = r 4 := rup_ne (by omega)
  have e37 : rup r (547 + 6 * k + c) v 37 = r 37 := rup_ne (by omega)
  have e470 : rup r (547 + 6 * k + c) v 470 = r 470 := rup_ne (by omega)
  have e546 : rup r (547 + 6 * k + c) v 546 = r 546 := rup_ne (by omega)
  have e619 : rup r (547 + 6 * k + c) v 619 = r 619 := rup_ne (by omega)
  have e644 : rup r (547 + 6 * k + c) v 644 = r 644 := rup_ne (by omega)
  have e3 : ∀ m, 0 ≤ m → m < r 546 → rup r (547 + 6 * k + c) v (547 + 6 * m + 3) = r (547 + 6 * m + 3) := fun m a b => rup_ne (by omega)
  refine ⟨?_, fun i a b => ?_, fun i a b => ?_, fun i a b => ?_, fun i a b => ?_, fun i a b => ?_⟩
  · unfold IHn
    rw [e4, e37, e470, e546, e619, e644, rup_ne (by omega), rup_ne (by omega), rup_ne (by omega), rup_ne (by omega)]
    exact hn
  · rw [e4] at b
    rw [rup_ne (by omega), rup_ne (by omega), rup_ne (by omega)]
    exact hw i a b
  · rw [e37] at b
    have q := hr i a b
    rw [e4, rup_ne (by omega), rup_ne (by omega), rup_ne (by omega), rup_ne (by omega), rup_ne (by omega)]
    refine ⟨q.1, q.2.1, q.2.2.1, q.2.2.2.1, q.2.2.2.2.1, fun m x y => ?_⟩
    rw [rup_ne (by omega)]
    exact q.2.2.2.2.2 m x y
  · rw [e470] at b
    have q := hh i a b
    rw [e546, rup_ne (by omega), rup_ne (by omega), rup_ne (by omega), rup_ne (by omega)]
    refine ⟨q.1, q.2.1, q.2.2.1, q.2.2.2.1, q.2.2.2.2.trans ⟨?_, ?_⟩⟩
    · rintro ⟨m, x, y, w⟩
      exact ⟨m, x, y, by rw [e3 m x y]; exact w⟩
    · rintro ⟨m, x, y, w⟩
      rw [e3 m x y] at w
      exact ⟨m, x, y, w⟩
  · rw [e546] at b
    have q := hm i a b
    rw [e470, e546, e619, e3 i a b]
    refine ⟨?_, ?_, q.2.2.1, ?_, ?_, fun m x y => ?_⟩
    · rw [rup_at]
      split
      · exact hv.1 (by omega)
      · exact q.1
    · rw [rup_at]
      split
      · exact hv.2.1 (by omega)
      · exact q.2.1
    · rw [rup_at]
      split
      · exact hv.2.2.1 (by omega)
      · exact q.2.2.2.1
    · rw [rup_at]
      split
      · exact hv.2.2.2 (by omega)
      · exact q.2.2.2.2.1
    · rw [e3 m x y]
      exact q.2.2.2.2.2 m x y
  · rw [e619] at b
    rw [rup_ne (by omega), rup_ne (by omega), rup_ne (by omega)]
    exact hcc i a b
end IU

/-- a change by the class: its answer, the new row -/
def ChgW (r r' : Row) (v : Int) (A : ZZ → Option (Int × ZZ)) : Prop := ∀ z, RC z r → 0 ≤ z 32 1 ∧ z 32 1 ≤ 8 → 0 ≤ z 32 2 ∧ z 32 2 < 8 → ∃ z', A z = some (0, z') ∧ z' 159 0 = v ∧ RC z' r' ∧ CW z z' r
def ChgC (r r' : Row) (v : Int) (A : ZZ → Option ((Int ⊕ Nat) × ZZ)) : Prop := ∀ z, RC z r → 0 ≤ z 32 1 ∧ z 32 1 ≤ 8 → 0 ≤ z 32 2 ∧ z 32 2 < 8 → ∃ z', A z = some (.inl v, z') ∧ RC z' r' ∧ CW z z' r
def AskE (r : Row) (E : Nat) (A : ZZ → Option ((Int ⊕ Nat) × ZZ)) : Prop := ∀ z, RC z r → ∃ z', A z = some (.inr E, z') ∧ Fra F12 z z'
def wrp (A : Option ((Int ⊕ Nat) × ZZ)) : Option (Int × ZZ) := Option.bind A fun q => match q with | (.inl r, z1) => some (0, zup z1 159 0 r) | (.inr E, z1) => some ((E : Int) + 1, z1)
theorem ChgC_of {r r' : Row} {v : Int} {A : ZZ → Option ((Int ⊕ Nat) × ZZ)} (h : ChgW r r' v (fun z => wrp (A z))) : ChgC r r' v A := by
  intro z hR hu hl
  obtain ⟨z', e, v1, R1, w1⟩ := h z hR hu hl
  have e : wrp (A z) = some (0, z') := e
  unfold wrp at e
  cases hA : A z with
  | none => rw [hA] at e; cases e
  | some q =>
    obtain ⟨q, z1⟩ := q
    rw [hA] at e
    cases q with
    | inr E =>
      have e : some ((E : Int) + 1, z1) = some (0, z') := e
      have e : ((E : Int) + 1, z1) = (0, z') := Option.some.inj e
      have := congrArg Prod.fst e
      have : (E : Int) + 1 = 0 := this
      omega
    | inl u =>
      have e : some ((0 : Int), zup z1 159 0 u) = some (0, z') := e
      have e := congrArg Prod.snd (Option.some.inj e)
      have e : zup z1 159 0 u = z' := e
      subst e
      have hv : u = v := by rw [← v1, zup_at, if_pos rfl]
      subst hv
      obtain ⟨c1, c2, c3, c4, c5⟩ := w1
      refine ⟨z1, rfl, RH_fra (h := 3) (RC_iff.mp R1) (fun a p q => (zup_ne (by omega)).symm), ?_, ?_, ?_, ?_, fun a p1 p2 p3 p4 p5 p6 p7 => ?_⟩
      · rw [← c1, zup_ne (by decide)]
      · rw [← c2, zup_ne (by decide)]
      · rw [← c3, zup_ne (by decide)]
      · refine RH_fra c4 (fun a p q => (zup_ne ?_).symm)
        have : ((z 32 2 + 1) % 8).toNat < 8 := by omega
        omega
      · rw [← c5 a p1 p2 p3 p4 p5 p6 p7, zup_ne p4]
abbrev QtC (z z' : ZZ) : Prop := ∀ a, a ≠ 1 → a ≠ 2 → a ≠ 159 → a ≠ 160 → z' a = z a
theorem Qt_RC {z z' : ZZ} {r : Row} (h : QtC z z') (hR : RC z r) : RC z' r := RH_fra (h := 3) (RC_iff.mp hR) (fun a p q => h a (by omega) (by omega) (by omega) (by omega))
theorem Qt_159 {z : ZZ} {v : Int} : QtC z (zup z 159 0 v) := fun a _ _ q _ => zup_ne q
abbrev fW_leaveCourse (v1 : Int) : ZZ → Option (Int × ZZ) := fun z => wrp (fX5_leaveCourse v1 z)
abbrev fW_postpone (v1 v2 : Int) : ZZ → Option (Int × ZZ) := fun z => wrp (fX5_postpone v1 v2 z)
abbrev fW_enroll (v1 v2 : Int) : ZZ → Option (Int × ZZ) := fun z => wrp (fX5_enroll v1 v2 z)
abbrev fW_check (v1 v2 : Int) : ZZ → Option (Int × ZZ) := fun z => wrp (fX5_check v1 v2 z)
abbrev fW_lend (v1 v2 : Int) : ZZ → Option (Int × ZZ) := fun z => wrp (fX5_lend v1 v2 z)
abbrev fW_giveBack (v1 : Int) : ZZ → Option (Int × ZZ) := fun z => wrp (fX5_giveBack v1 z)
abbrev fW_climb (v1 v2 : Int) : ZZ → Option (Int × ZZ) := fun z => wrp (fX5_climb v1 v2 z)
abbrev fW_vote (v1 v2 v3 : Int) : ZZ → Option (Int × ZZ) := fun z => wrp (fX5_vote v1 v2 v3 z)
abbrev fW_setRoute (v1 v2 : Int) : ZZ → Option (Int × ZZ) := fun z => wrp (fX5_setRoute v1 v2 z)
abbrev fW_removeRoute (v1 : Int) : ZZ → Option (Int × ZZ) := fun z => wrp (fX5_removeRoute v1 z)
abbrev fW_endDays (v1 : Int) : ZZ → Option (Int × ZZ) := fun z => wrp (fX5_endDays v1 z)
abbrev fW_finish (v1 v2 : Int) : ZZ → Option (Int × ZZ) := fun z => wrp (fX5_finish v1 v2 z)
section IU
variable {r : Row} {B k c v : Int}
theorem IH_up4 (h : IH B r) (hk : 0 ≤ k ∧ k < r 4) (hv : 0 ≤ v ∧ v ≤ B) : IH B (rup r (5 + 4 * k + 3) v) := by
  obtain ⟨hn, hw, hr, hh, hm, hcc⟩ := h
  have hn' := hn
  unfold IHn at hn'
  have e4 : rup r (5 + 4 * k + 3) v 4 = r 4 := rup_ne (by omega)
  have e37 : rup r (5 + 4 * k + 3) v 37 = r 37 := rup_ne (by omega)
  have e470 : rup r (5 + 4 * k + 3) v 470 = r 470 := rup_ne (by omega)
  have e546 : rup r (5 + 4 * k + 3) v 546 = r 546 := rup_ne (by omega)
  have e619 : rup r (5 + 4 * k + 3) v 619 = r 619 := rup_ne (by omega)
  have e644 : rup r (5 + 4 * k + 3) v 644 = r 644 := rup_ne (by omega)
  have eX : ∀ i, 37 ≤ i → rup r (5 + 4 * k + 3) v i = r i := fun m a => rup_ne (by omega)
  refine ⟨?_, fun i a b => ?_, fun i a b => ?_, fun i a b => ?_, fun i a b => ?_, fun i a b => ?_⟩
  · unfold IHn
    rw [e4, e37, e470, e546, e619, e644, rup_ne (by omega), rup_ne (by omega), rup_ne (by omega), rup_ne (by omega)]
    exact hn
  · rw [e4] at b
    have q := hw i a b
    rw [rup_ne (by omega), rup_ne (by omega), rup_at]
    refine ⟨q.1, q.2.1, ?_⟩
    split
    · exact hv
    · exact q.2.2
  · rw [e37] at b
    have q := hr i a b
    rw [e4, eX _ (by omega), eX _ (by omega), eX _ (by omega), eX _ (by omega), eX _ (by omega)]
    refine ⟨q.1, q.2.1, q.2.2.1, q.2.2.2.1, q.2.2.2.2.1, fun m x y => ?_⟩
    rw [eX _ (by omega)]
    exact q.2.2.2.2.2 m x y
  · rw [e470] at b
    have q := hh i a b
    rw [e546, eX _ (by omega), eX _ (by omega), eX _ (by omega), eX _ (by omega)]
    refine ⟨q.1, q.2.1, q.2.2.1, q.2.2.2.1, q.2.2.2.2.trans ⟨?_, ?_⟩⟩
    · rintro ⟨m, x, y, w⟩
      exact ⟨m, x, y, by rw [eX _ (by omega)]; exact w⟩
    · rintro ⟨m, x, y, w⟩
      rw [eX _ (by omega)] at w
      exact ⟨m, x, y, w⟩
  · rw [e546] at b
    have q := hm i a b
    rw [e470, e546, e619, eX _ (by omega), eX _ (by omega), eX _ (by omega), eX _ (by omega), eX _ (by omega)]
    refine ⟨q.1, q.2.1, q.2.2.1, q.2.2.2.1, q.2.2.2.2.1, fun m x y => ?_⟩
    rw [eX _ (by omega)]
    exact q.2.2.2.2.2 m x y
  · rw [e619] at b
    rw [eX _ (by omega), eX _ (by omega), eX _ (by omega)]
    exact hcc i a b
end IU
section CH
variable {r : Row} {B v1 v2 v3 : Int}
end CH

section CH
variable {r : Row} {B v1 v2 v3 : Int}
/-- leaving a course -/
theorem g_leave (hI : IH B r) (q1 : 0 ≤ v1 ∧ v1 < r 546) (q2 : r (547 + 6 * v1 + 4) ≠ -1) : ChgW r (rup r (547 + 6 * v1 + 4) (-1)) (r (547 + 6 * v1 + 4)) (fW_leaveCourse v1) := by
  have hn := hI.1
  unfold IHn at hn
  refine fun z hR hu hl => ?_
  · obtain ⟨z1, e1, R1, w1⟩ := c_rem hR hI hu hl
    have es : fX4_set 12 v1 4 (-1) z1 = some (zup z1 13 (v1 * 6 + 4) (-1)) := set_ok kT12 (by rw [(RCn R1).2.2.2.2.1]; exact q1) (by rw [(RCn R1).2.2.2.2.1]; show r 546 ≤ 12; omega) (show 0 ≤ 4 ∧ 4 < 6 by omega)
    refine ⟨zup (zup z1 13 (v1 * 6 + 4) (-1)) 159 0 (r (547 + 6 * v1 + 4)), ?_, ?_, ?_, w1 _ (fun a p1 p2 p3 p4 p5 => ?_)⟩
    · simp only [fW_leaveCourse, wrp, fX5_leaveCourse, n_row, (RCn hR).2.2.2.2.1, if_pos q1, Option.bind_some, cg12 hR hI q1 (c := 4) (by omega), if_neg q2, e1, es]
    · rw [zup_at, if_pos rfl]
    · exact Qt_RC Qt_159 (RC_up12 R1 hI.1 q1 (by omega))
    · rw [zup_ne p3, zup_ne (by omega)]
/-- putting off a wall -/
theorem g_postpone (hI : IH B r) (hB : B ≤ 900000) (q1 : 0 ≤ v1 ∧ v1 < r 4) (q2 : 1 ≤ v2 ∧ v2 ≤ 14) : ChgW r (rup r (5 + 4 * v1 + 3) (r (5 + 4 * v1 + 3) + v2)) (r (5 + 4 * v1 + 3) + v2) (fW_postpone v1 v2) := by
  have hn := hI.1
  unfold IHn at hn
  have hx := (hI.2.1 v1 q1.1 q1.2).2.2
  refine fun z hR hu hl => ?_
  · obtain ⟨z1, e1, R1, w1⟩ := c_rem hR hI hu hl
    have ez : z1 5 (v1 * 4 + 3) = r (5 + 4 * v1 + 3) := by
      rw [show z1 5 (v1 * 4 + 3) = _ from R1.1.2 (v1 * 4 + 3) (by omega) (by omega)]
      congr 1
      omega
    have es : fX4_add 4 v1 3 v2 z1 = some (zup z1 5 (v1 * 4 + 3) (r (5 + 4 * v1 + 3) + v2)) := by
      have := add_ok (z := z1) (v := v2) kT4 (by rw [(RCn R1).1]; exact q1) (by rw [(RCn R1).1]; show r 4 ≤ 8; omega) (show 0 ≤ 3 ∧ 3 < 4 by omega) (by show inR (z1 5 (v1 * 4 + 3) + v2); rw [ez]; exact inR_s (by omega))
      rw [show z1 (4 + 1) (v1 * zCO 4 + 3) = r (5 + 4 * v1 + 3) from ez] at this
      exact this
    have R2 := RC_up4 (v := r (5 + 4 * v1 + 3) + v2) R1 hI.1 q1 (c := 3) (by omega)
    have I2 := IH_up4 (v := r (5 + 4 * v1 + 3) + v2) (IH_mono (B' := B + 60) hI (by omega) (by omega)) q1 (by omega)
    refine ⟨zup (zup z1 5 (v1 * 4 + 3) (r (5 + 4 * v1 + 3) + v2)) 159 0 (r (5 + 4 * v1 + 3) + v2), ?_, ?_, Qt_RC Qt_159 R2, w1 _ (fun a p1 p2 p3 p4 p5 => ?_)⟩
    · have eg := cg4 R2 I2 (k := v1) (c := 3) (by rw [rup_ne (by omega)]; exact q1) (by omega)
      rw [rup_at, if_pos rfl] at eg
      simp only [fW_postpone, wrp, fX5_postpone, n_row, n_btw, (RCn hR).1, if_pos q1, if_pos q2, Option.bind_some, e1, es, eg]
    · rw [zup_at, if_pos rfl]
    · rw [zup_ne p3, zup_ne (by omega)]
/-- joining a course -/
theorem g_enroll (hI : IH B r) (q1 : 0 ≤ v1 ∧ v1 < r 546) (q2 : 0 ≤ v2 ∧ v2 < r 619) (q3 : sEnroll r v1 v2) : ChgW r (rup r (547 + 6 * v1 + 4) v2) ((pcn (sIn (rup r (547 + 6 * v1 + 4) v2) v2).toNat : Nat) : Int) (fW_enroll v1 v2) := by
  have hn := hI.1
  unfold IHn at hn
  have I2 : IH B (rup r (547 + 6 * v1 + 4) v2) := IH_up12 hI q1 (by omega) (by omega) ⟨fun e => by omega, fun e => by omega, fun _ => by omega, fun e => by omega⟩
  refine fun z hR hu hl => ?_
  · obtain ⟨z1, e1, R1, w1⟩ := c_rem hR hI hu hl
    have es : fX4_set 12 v1 4 v2 z1 = some (zup z1 13 (v1 * 6 + 4) v2) := set_ok kT12 (by rw [(RCn R1).2.2.2.2.1]; exact q1) (by rw [(RCn R1).2.2.2.2.1]; show r 546 ≤ 12; omega) (show 0 ≤ 4 ∧ 4 < 6 by omega)
    have R2 := RC_up12 (v := v2) R1 hI.1 q1 (c := 4) (by omega)
    refine ⟨zup (zup z1 13 (v1 * 6 + 4) v2) 159 0 ((pcn (sIn (rup r (547 + 6 * v1 + 4) v2) v2).toNat : Nat) : Int), ?_, ?_, ?_, w1 _ (fun a p1 p2 p3 p4 p5 => ?_)⟩
    · simp only [fW_enroll, wrp, fX5_enroll, n_row, (RCn hR).2.2.2.2.1, (RCn hR).2.2.2.2.2.1, if_pos q1, if_pos q2, Option.bind_some, c_mayEnroll hR hI q1 q2, ite_bI, if_pos q3, e1, es, c_membersIn R2 I2, c_bits (sIn_ok I2)]
    · rw [zup_at, if_pos rfl]
    · exact Qt_RC Qt_159 R2
    · rw [zup_ne p3, zup_ne (by omega)]
end CH
section IU
variable {r : Row} {B k c v : Int}
theorem IH_up10 (h : IH B r) (hk : 0 ≤ k ∧ k < r 470) (hc : c = 2 ∨ c = 3) (hv : (c = 2 → 0 ≤ v ∧ v ≤ 9999) ∧ (c = 3 → v = 0 ∨ v = 1)) : IH B (rup r (471 + 5 * k + c) v) := by
  obtain ⟨hn, hw, hr, hh, hm, hcc⟩ := h
  have hn' := hn
  unfold IHn at hn'
  have eX : ∀ i, i < 471 ∨ 546 ≤ i → rup r (471 + 5 * k + c) v i = r i := fun m a => rup_ne (by omega)
  refine ⟨?_, fun i a b => ?_, fun i a b => ?_, fun i a b => ?_, fun i a b => ?_, fun i a b => ?_⟩
  · unfold IHn
    rw [eX _ (by omega), eX _ (by omega), eX _ (by omega), eX _ (by omega), eX _ (by omega), eX _ (by omega), eX _ (by omega), eX _ (by omega), eX _ (by omega), eX _ (by omega)]
    exact hn
  · rw [eX _ (by omega)] at b
    rw [eX _ (by omega), eX _ (by omega), eX _ (by omega)]
    exact hw i a b
  · rw [eX _ (by omega)] at b
    have q := hr i a b
    rw [eX _ (by omega), eX _ (by omega), eX _ (by omega), eX _ (by omega), eX _ (by omega), eX _ (by omega)]
    refine ⟨q.1, q.2.1, q.2.2.1, q.2.2.2.1, q.2.2.2.2.1, fun m x y => ?_⟩
    rw [eX _ (by omega)]
    exact q.2.2.2.2.2 m x y
  · rw [eX _ (by omega)] at b
    have q := hh i a b
    rw [eX 546 (by omega), rup_ne (j := 471 + 5 * i + 1) (by omega), rup_ne (j := 471 + 5 * i + 4) (by omega)]
    refine ⟨q.1, ?_, ?_, q.2.2.2.1, q.2.2.2.2.trans ⟨?_, ?_⟩⟩
    · rw [rup_at]
      split
      · exact hv.1 (by clear q; omega)
      · exact q.2.1
    · rw [rup_at]
      split
      · exact hv.2 (by clear q; omega)
      · exact q.2.2.1
    · rintro ⟨m, x, y, w⟩
      exact ⟨m, x, y, by rw [eX _ (by omega)]; exact w⟩
    · rintro ⟨m, x, y, w⟩
      rw [eX _ (by omega)] at w
      exact ⟨m, x, y, w⟩
  · rw [eX _ (by omega)] at b
    have q := hm i a b
    rw [eX 470 (by omega), eX 546 (by omega), eX 619 (by omega), eX _ (by omega), eX _ (by omega), eX _ (by omega), eX _ (by omega), eX _ (by omega)]
    refine ⟨q.1, q.2.1, q.2.2.1, q.2.2.2.1, q.2.2.2.2.1, fun m x y => ?_⟩
    rw [eX _ (by omega)]
    exact q.2.2.2.2.2 m x y
  · rw [eX _ (by omega)] at b
    rw [eX _ (by omega), eX _ (by omega), eX _ (by omega)]
    exact hcc i a b
/-- a harness is lent, or given back -/
theorem IH_hand {x w y : Int} (h : IH B r) (hk : 0 ≤ k ∧ k < r 546) (hw : 0 ≤ w ∧ w < r 470) (hx : -1 ≤ x ∧ x < r 470) (hy : y = 0 ∨ y = 1)
    (hA : ∀ i, 0 ≤ i → i < r 470 → ((if i = w then y else r (471 + 5 * i + 4)) = 1 ↔ ∃ m, 0 ≤ m ∧ m < r 546 ∧ (if m = k then x else r (547 + 6 * m + 3)) = i))
    (hB : ∀ m m', 0 ≤ m → m < r 546 → 0 ≤ m' → m' < r 546 → m ≠ m' → (if m = k then x else r (547 + 6 * m + 3)) = (if m' = k then x else r (547 + 6 * m' + 3)) → (if m = k then x else r (547 + 6 * m + 3)) = -1) :
    IH B (rup (rup r (547 + 6 * k + 3) x) (471 + 5 * w + 4) y) := by
  obtain ⟨hn, hww, hr, hh, hm, hcc⟩ := h
  have hn' := hn
  unfold IHn at hn'
  have eX : ∀ i, i ≠ 547 + 6 * k + 3 → i ≠ 471 + 5 * w + 4 → rup (rup r (547 + 6 * k + 3) x) (471 + 5 * w + 4) y i = r i := fun i p q => by rw [rup_ne q, rup_ne p]
  have e3 : ∀ m, 0 ≤ m → rup (rup r (547 + 6 * k + 3) x) (471 + 5 * w + 4) y (547 + 6 * m + 3) = if m = k then x else r (547 + 6 * m + 3) := fun m hm0 => by
    by_cases e : m = k
    · rw [if_pos e, e, rup_ne (by omega), rup_at, if_pos rfl]
    · rw [if_neg e, eX _ (by omega) (by omega)]
  have e4 : ∀ i, i < r 470 → rup (rup r (547 + 6 * k + 3) x) (471 + 5 * w + 4) y (471 + 5 * i + 4) = if i = w then y else r (471 + 5 * i + 4) := fun i hi => by
    by_cases e : i = w
    · rw [if_pos e, e, rup_at, if_pos rfl]
    · rw [if_neg e, eX _ (by omega) (by omega)]
  refine ⟨?_, fun i a b => ?_, fun i a b => ?_, fun i a b => ?_, fun i a b => ?_, fun i a b => ?_⟩
  · unfold IHn
    rw [eX _ (by omega) (by omega), eX _ (by omega) (by omega), eX _ (by omega) (by omega), eX _ (by omega) (by omega), eX _ (by omega) (by omega), eX _ (by omega) (by omega), eX _ (by omega) (by omega), eX _ (by omega) (by omega), eX _ (by omega) (by omega), eX _ (by omega) (by omega)]
    exact hn
  · rw [eX _ (by omega) (by omega)] at b
    rw [eX _ (by omega) (by omega), eX _ (by omega) (by omega), eX _ (by omega) (by omega)]
    exact hww i a b
  · rw [eX _ (by omega) (by omega)] at b
    have q := hr i a b
    rw [eX _ (by omega) (by omega), eX _ (by omega) (by omega), eX _ (by omega) (by omega), eX _ (by omega) (by omega), eX _ (by omega) (by omega), eX _ (by omega) (by omega)]
    refine ⟨q.1, q.2.1, q.2.2.1, q.2.2.2.1, q.2.2.2.2.1, fun m s t => ?_⟩
    rw [eX _ (by omega) (by omega)]
    exact q.2.2.2.2.2 m s t
  · rw [eX _ (by omega) (by omega)] at b
    have q := hh i a b
    have q2 := q.2.1
    have q3 := q.2.2.1
    have q1 := q.1
    clear q
    rw [eX 546 (by omega) (by omega), e4 i b, eX _ (by omega) (by omega), eX _ (by omega) (by omega), eX _ (by omega) (by omega)]
    refine ⟨q1, q2, q3, ?_, (hA i a b).trans ⟨?_, ?_⟩⟩
    · have q4 := (hh i a b).2.2.2.1
      split
      · exact hy
      · exact q4
    · rintro ⟨m, s, t, u⟩
      exact ⟨m, s, t, by rw [e3 m s]; exact u⟩
    · rintro ⟨m, s, t, u⟩
      rw [e3 m s] at u
      exact ⟨m, s, t, u⟩
  · rw [eX _ (by omega) (by omega)] at b
    have q := hm i a b
    rw [eX 470 (by omega) (by omega), eX 546 (by omega) (by omega), eX 619 (by omega) (by omega), e3 i a, eX _ (by omega) (by omega), eX _ (by omega) (by omega), eX _ (by omega) (by omega), eX _ (by omega) (by omega)]
    refine ⟨q.1, q.2.1, ?_, q.2.2.2.1, q.2.2.2.2.1, fun m s t u => ?_⟩
    · have q3 := q.2.2.1
      split
      · exact hx
      · exact q3
    · rw [e3 m s]
      exact hB i m a b s t u
  · rw [eX _ (by omega) (by omega)] at b
    rw [eX _ (by omega) (by omega), eX _ (by omega) (by omega), eX _ (by omega) (by omega)]
    exact hcc i a b
end IU
section CH
variable {r : Row} {B v1 v2 v3 : Int}
theorem rup_same {p v : Int} (h : r p = v) : rup r p v = r := by
  funext j
  rw [rup_at]
  split
  · rename_i e; rw [e, h]
  · rfl
end CH


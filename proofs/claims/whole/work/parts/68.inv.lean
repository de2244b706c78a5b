/-! what holds between the calls -/
theorem IH_mono {B B' : Int} {r : Row} (h : IH B r) (h1 : B ≤ B') (h2 : B' ≤ 1000000) : IH B' r := by
  obtain ⟨hn, hw, hr, hh, hm, hc⟩ := h
  refine ⟨?_, fun k a b => ?_, fun k a b => ?_, hh, fun k a b => ?_, hc⟩
  · unfold IHn at *
    omega
  · have := hw k a b
    omega
  · have := hr k a b
    exact ⟨this.1, this.2.1, by omega, by omega, this.2.2.2.2.1, this.2.2.2.2.2⟩
  · have := hm k a b
    exact ⟨this.1, by omega, this.2.2.1, this.2.2.2.1, by omega, this.2.2.2.2.2⟩
abbrev hRow (z : ZZ) (u j : Int) : Row := fun i => z 156 (765 * (u - 1 - j) + i)
def HT (B : Int) (z : ZZ) : Prop := (z 32 1 = z 151 12 ∧ 0 ≤ z 32 1 ∧ z 32 1 ≤ 8 ∧ 0 ≤ z 32 2 ∧ z 32 2 < 8) ∧ (∀ j, 0 ≤ j → j < z 32 1 → RH z (34 + 13 * ((z 32 2 - j) % 8).toNat) (hRow z (z 32 1) j) ∧ IH B (hRow z (z 32 1) j)) ∧ (z 32 4 = z 151 13 ∧ (z 32 4 = 0 ∨ z 32 4 = 1)) ∧ (z 32 4 = 1 → RH z 138 (z 155) ∧ IH B (z 155))
def TX (z : ZZ) : Prop := z 16 1 = z 151 2 ∧ 0 ≤ z 16 1 ∧ z 16 1 ≤ 600 ∧ ∀ k, 0 ≤ k → k < z 16 1 → z 30 k = z 152 k ∧ 1 ≤ z 30 k ∧ z 30 k ≤ 255
def INV (B : Int) (z : ZZ) : Prop := RC z (z 154) ∧ IH B (z 154) ∧ HT B z ∧ TX z
theorem HT_mono {B B' : Int} {z : ZZ} (h : HT B z) (h1 : B ≤ B') (h2 : B' ≤ 1000000) : HT B' z :=
  ⟨h.1, fun j a b => ⟨(h.2.1 j a b).1, IH_mono (h.2.1 j a b).2 h1 h2⟩, h.2.2.1, fun q => ⟨(h.2.2.2 q).1, IH_mono (h.2.2.2 q).2 h1 h2⟩⟩
theorem INV_mono {B B' : Int} {z : ZZ} (h : INV B z) (h1 : B ≤ B') (h2 : B' ≤ 1000000) : INV B' z := ⟨h.1, IH_mono h.2.1 h1 h2, HT_mono h.2.2.1 h1 h2, h.2.2.2⟩
theorem HT_fra {B : Int} {z z' : ZZ} (h : HT B z) (e : ∀ a, 32 ≤ a → a ≤ 150 → z' a = z a) (e5 : z' 155 = z 155) (e6 : z' 156 = z 156) (e12 : z' 151 12 = z 151 12) (e13 : z' 151 13 = z 151 13) : HT B z' := by
  obtain ⟨h1, h2, h3, h4⟩ := h
  have e32 := e 32 (by omega) (by omega)
  refine ⟨by rw [e32, e12]; exact h1, fun j a b => ?_, by rw [e32, e13]; exact h3, fun q => ?_⟩
  · rw [e32] at b
    rw [e32]
    have := h2 j a b
    unfold hRow at *
    rw [e6]
    refine ⟨RH_fra this.1 (fun a p q => e a (by omega) (by omega)), this.2⟩
  · rw [e32] at q
    rw [e5]
    exact ⟨RH_fra (h4 q).1 (fun a p q => e a (by omega) (by omega)), (h4 q).2⟩
theorem TX_fra {z z' : ZZ} (h : TX z) (e1 : z' 16 1 = z 16 1) (e2 : z' 30 = z 30) (e3 : z' 151 2 = z 151 2) (e4 : z' 152 = z 152) : TX z' := by
  unfold TX at *
  rw [e1, e2, e3, e4]
  exact h
theorem INV_Qt {B : Int} {z z' : ZZ} (h : INV B z) (q : Qt z z') : INV B z' := by
  have e154 := q.1 154 (by decide)
  refine ⟨by rw [e154]; exact Qt_RC q h.1, by rw [e154]; exact h.2.1, HT_fra h.2.2.1 (fun a p w => q.1 a (by omega)) (q.1 155 (by decide)) (q.1 156 (by decide)) (q.2 12 (by decide) (by decide) (by decide) (by decide)) (q.2 13 (by decide) (by decide) (by decide) (by decide)), TX_fra h.2.2.2 (by rw [q.1 16 (by decide)]) (q.1 30 (by decide)) (q.2 2 (by decide) (by decide) (by decide) (by decide)) (q.1 152 (by decide))⟩
/-- the class has remembered r and changed its hall -/
def CW (z z' : ZZ) (r : Row) : Prop := z' 32 1 = min (z 32 1 + 1) 8 ∧ z' 32 2 = (z 32 2 + 1) % 8 ∧ z' 32 4 = z 32 4 ∧ RH z' (34 + 13 * ((z 32 2 + 1) % 8).toNat) r ∧ ∀ a, a ≠ 1 → a ≠ 2 → a ≠ 32 → a ≠ 159 → a ≠ 160 → ¬ (3 ≤ a ∧ a ≤ 15) → ¬ (34 + 13 * ((z 32 2 + 1) % 8).toNat ≤ a ∧ a ≤ 34 + 13 * ((z 32 2 + 1) % 8).toNat + 12) → z' a = z a
/-- the model has recorded r and changed its row -/
def MW (z z' : ZZ) (r : Row) : Prop := z' 151 0 = 0 ∧ z' 151 12 = min (z 151 12 + 1) 8 ∧ (∀ a, a ≠ 151 → a ≠ 154 → a ≠ 156 → a ≠ 157 → a ≠ 158 → z' a = z a) ∧ (∀ j, j ≠ 0 → j ≠ 12 → j ≠ 16 → j ≠ 17 → j ≠ 18 → z' 151 j = z 151 j) ∧
  (∀ i, 0 ≤ i → i < 765 → z' 156 (765 * (min (z 151 12 + 1) 8 - 1) + i) = r i) ∧ ∀ j, 1 ≤ j → j < min (z 151 12 + 1) 8 → ∀ i, 0 ≤ i → i < 765 → z' 156 (765 * (min (z 151 12 + 1) 8 - 1 - j) + i) = z 156 (765 * (z 151 12 - 1 - (j - 1)) + i)
theorem HT_new {B : Int} {z z1 z2 : ZZ} {r : Row} (h : HT B z) (hI : IH B r) (hc : CW z z1 r) (hm : MW z1 z2 r) : HT B z2 := by
  obtain ⟨⟨g1, g2, g3, g4, g5⟩, h2, h3, h4⟩ := h
  obtain ⟨c1, c2, c3, c4, c5⟩ := hc
  obtain ⟨m0, m1, m2, m3, m4, m5⟩ := hm
  have e151 : z1 151 = z 151 := c5 151 (by omega) (by omega) (by omega) (by omega) (by omega) (by omega) (by omega)
  have e156 : z1 156 = z 156 := c5 156 (by omega) (by omega) (by omega) (by omega) (by omega) (by omega) (by omega)
  have e155 : z2 155 = z 155 := (m2 155 (by omega) (by omega) (by omega) (by omega) (by omega)).trans (c5 155 (by omega) (by omega) (by omega) (by omega) (by omega) (by omega) (by omega))
  have e32 : z2 32 = z1 32 := m2 32 (by omega) (by omega) (by omega) (by omega) (by omega)
  have hN : ∀ g, RH z1 g r → g ≤ 138 → RH z2 g r := fun g hg hl => RH_fra hg (fun a p q => m2 a (by omega) (by omega) (by omega) (by omega) (by omega))
  rw [e151] at m1 m4 m5
  rw [e156] at m5
  rw [← g1] at m1 m4 m5
  refine ⟨⟨?_, ?_, ?_, ?_, ?_⟩, fun j a b => ?_, ⟨?_, ?_⟩, fun q => ?_⟩
  · rw [e32, c1, m1]
  · rw [e32, c1]; omega
  · rw [e32, c1]; omega
  · rw [e32, c2]; omega
  · rw [e32, c2]; omega
  · rw [e32, c1] at b
    rw [e32, c1, c2]
    by_cases q : j = 0
    · have er : ∀ i, 0 ≤ i → i < 765 → hRow z2 (min (z 32 1 + 1) 8) j i = r i := fun i p w => by
        rw [← m4 i p w]
        show z2 156 _ = _
        congr 1
        omega
      refine ⟨RH_congr ?_ hI.1 er, IH_congr hI er⟩
      rw [show ((z 32 2 + 1) % 8 - j) % 8 = (z 32 2 + 1) % 8 by omega]
      exact hN _ c4 (by omega)
    · have ho := h2 (j - 1) (by omega) (by omega)
      have er : ∀ i, 0 ≤ i → i < 765 → hRow z2 (min (z 32 1 + 1) 8) j i = hRow z (z 32 1) (j - 1) i := fun i p w => m5 j (by omega) b i p w
      refine ⟨RH_congr ?_ ho.2.1 er, IH_congr ho.2 er⟩
      have ek : ((z 32 2 + 1) % 8 - j) % 8 = (z 32 2 - (j - 1)) % 8 := by omega
      have hk : ((z 32 2 - (j - 1)) % 8).toNat ≠ ((z 32 2 + 1) % 8).toNat := by omega
      have hb1 : ((z 32 2 - (j - 1)) % 8).toNat < 8 := by omega
      have hb2 : ((z 32 2 + 1) % 8).toNat < 8 := by omega
      rw [ek]
      refine RH_fra ho.1 (fun a p w => ?_)
      rw [m2 a (by omega) (by omega) (by omega) (by omega) (by omega), c5 a (by omega) (by omega) (by omega) (by omega) (by omega) (by omega) (by omega)]
  · rw [e32, c3, m3 13 (by omega) (by omega) (by omega) (by omega) (by omega), e151]
    exact h3.1
  · rw [e32, c3]
    exact h3.2
  · rw [e32, c3] at q
    rw [e155]
    refine ⟨RH_fra (h4 q).1 (fun a p w => ?_), (h4 q).2⟩
    rw [m2 a (by omega) (by omega) (by omega) (by omega) (by omega), c5 a (by omega) (by omega) (by omega) (by omega) (by omega) (by omega) (by omega)]
/-- a change: the same answer, the same new row -/
def Chg (r r' : Row) (v : Int) (A M : ZZ → Option (Int × ZZ)) : Prop := (∀ z, RC z r → 0 ≤ z 32 1 ∧ z 32 1 ≤ 8 → 0 ≤ z 32 2 ∧ z 32 2 < 8 → ∃ z', A z = some (0, z') ∧ z' 159 0 = v ∧ RC z' r' ∧ CW z z' r) ∧ (∀ z, z 154 = r → 0 ≤ z 151 12 ∧ z 151 12 ≤ 8 → ∃ z', M z = some (v, z') ∧ z' 154 = r' ∧ MW z z' r)
theorem chg_case {B : Int} {z : ZZ} {r' : Row} {v : Int} {A M0 M : ZZ → Option (Int × ZZ)} (h : Chg (z 154) r' v A M0) (hV : INV B z) (hB : B ≤ 900000) (hI' : IH (B + 60) r') (hE : ∀ y : ZZ, y 1000000 = z 1000000 → M y = M0 y) : ∃ z', tail A M z = some (1, z') ∧ INV (B + 60) z' ∧ z' 1000000 = z 1000000 := by
  obtain ⟨hR, hI, hH, hT⟩ := hV
  have hg := hH.1
  obtain ⟨z1, e1, v1, R1, w1⟩ := h.1 z hR ⟨hg.2.1, hg.2.2.1⟩ ⟨hg.2.2.2.1, hg.2.2.2.2⟩
  have c5 := w1.2.2.2.2
  have e151 : z1 151 = z 151 := c5 151 (by omega) (by omega) (by omega) (by omega) (by omega) (by omega) (by omega)
  have es : z1 1000000 = z 1000000 := c5 1000000 (by omega) (by omega) (by omega) (by omega) (by omega) (by omega) (by omega)
  obtain ⟨z2, e2, r2, w2⟩ := h.2 z1 (c5 154 (by omega) (by omega) (by omega) (by omega) (by omega) (by omega) (by omega)) (by rw [e151, ← hg.1]; exact ⟨hg.2.1, hg.2.2.1⟩)
  have m2 := w2.2.2.1
  refine ⟨z2, ?_, ⟨?_, by rw [r2]; exact hI', HT_mono (HT_new hH hI w1 w2) (by omega) (by omega), ?_⟩, ?_⟩
  · unfold tail
    rw [e1]
    simp only [Option.bind_some]
    rw [hE z1 es, e2]
    simp only [Option.bind_some]
    rw [show fX6_thrown z2 = some (z2 151 0) from rfl]
    simp only [Option.bind_some]
    rw [if_pos w2.1, if_pos True.intro, m2 159 (by omega) (by omega) (by omega) (by omega) (by omega), v1, zcmp_eq, if_pos rfl]
  · rw [r2]
    exact RH_fra (h := 3) (RC_iff.mp R1) (fun a p q => m2 a (by omega) (by omega) (by omega) (by omega) (by omega))
  · refine TX_fra hT ?_ ?_ ?_ ?_
    · rw [m2 16 (by omega) (by omega) (by omega) (by omega) (by omega), c5 16 (by omega) (by omega) (by omega) (by omega) (by omega) (by omega) (by omega)]
    · rw [m2 30 (by omega) (by omega) (by omega) (by omega) (by omega), c5 30 (by omega) (by omega) (by omega) (by omega) (by omega) (by omega) (by omega)]
    · rw [w2.2.2.2.1 2 (by omega) (by omega) (by omega) (by omega) (by omega), e151]
    · rw [m2 152 (by omega) (by omega) (by omega) (by omega) (by omega), c5 152 (by omega) (by omega) (by omega) (by omega) (by omega) (by omega) (by omega)]
  · rw [m2 1000000 (by omega) (by omega) (by omega) (by omega) (by omega), es]

/-! changes: what both sides share -/
theorem c_rem {B : Int} {z : ZZ} {r : Row} (hR : RC z r) (hI : IH B r) (hu : 0 ≤ z 32 1 ∧ z 32 1 ≤ 8) (hl : 0 ≤ z 32 2 ∧ z 32 2 < 8) : ∃ z1, fX2_remember z = some z1 ∧ RC z1 r ∧ ∀ z2 : ZZ, (∀ a, a ≠ 1 → a ≠ 2 → a ≠ 159 → a ≠ 160 → ¬ (3 ≤ a ∧ a ≤ 15) → z2 a = z1 a) → CW z z2 r := by
  obtain ⟨z1, e, h1, h2, h3, h4, h5⟩ := c_remember hR hI hu hl
  have hk : ((z 32 2 + 1) % 8).toNat < 8 := by omega
  refine ⟨z1, e, RH_fra (h := 3) (RC_iff.mp hR) (fun a p q => h5 a (by omega) (by omega)), fun z2 f => ?_⟩
  have e32 : z2 32 = z1 32 := f 32 (by omega) (by omega) (by omega) (by omega) (by omega)
  refine ⟨by rw [e32]; exact h1, by rw [e32]; exact h2, by rw [e32]; exact h3, RH_fra h4 (fun a p q => f a (by omega) (by omega) (by omega) (by omega) (by omega)), fun a q1 q2 q3 q4 q5 q6 q7 => ?_⟩
  rw [f a q1 q2 q4 q5 q6, h5 a q3 q7]
theorem m_rec {z z0 : ZZ} {r : Row} (hM : z0 154 = r) (h8 : 0 ≤ z0 151 12 ∧ z0 151 12 ≤ 8) (hf : FM (zup z0 151 0 0) z) : ∃ z1, fX6_record z = some z1 ∧ z1 154 = r ∧ ∀ z2 : ZZ, (∀ a, a ≠ 151 → a ≠ 154 → a ≠ 157 → a ≠ 158 → z2 a = z1 a) → (∀ j, j ≠ 16 → j ≠ 17 → j ≠ 18 → z2 151 j = z1 151 j) → MW z0 z2 r := by
  have e12 : z 151 12 = z0 151 12 := by rw [hf.2 12 (by decide) (by decide) (by decide), zup_at, if_neg (by decide)]
  have ez : ∀ a, a ≠ 151 → a ≠ 157 → z a = z0 a := fun a p q => (hf.1 a p q).trans (zup_ne p)
  obtain ⟨z1, e, h1, h2, h3, h4, h5⟩ := m_record e12 h8
  rw [ez 154 (by decide) (by decide), hM] at h4
  rw [ez 156 (by decide) (by decide)] at h5
  refine ⟨z1, e, by rw [h2 154 (by decide) (by decide), ez 154 (by decide) (by decide), hM], fun z2 f g => ⟨?_, ?_, fun a p1 p2 p3 p4 p5 => ?_, fun j p1 p2 p3 p4 p5 => ?_, fun i p q => ?_, fun j p q i s t => ?_⟩⟩
  · rw [g 0 (by decide) (by decide) (by decide), h3 0 (by decide), hf.2 0 (by decide) (by decide) (by decide), zup_at, if_pos rfl]
  · rw [g 12 (by decide) (by decide) (by decide), h1]
  · rw [f a p1 p2 p4 p5, h2 a p1 p3, ez a p1 p4]
  · rw [g j p3 p4 p5, h3 j p2, hf.2 j p3 p4 p5, zup_at, if_neg p1]
  · rw [f 156 (by decide) (by decide) (by decide) (by decide)]
    exact h4 i p q
  · rw [f 156 (by decide) (by decide) (by decide) (by decide)]
    exact h5 j p q i s t
section IU
variable {r : Row} {B k c v : Int}
theorem IH_up12 (h : IH B r) (hk : 0 ≤ k ∧ k < r 546) (hc : 0 ≤ c ∧ c < 6) (h3 : c ≠ 3) (hv : (c = 1 → 0 ≤ v ∧ v ≤ 5) ∧ (c = 2 → 0 ≤ v ∧ v ≤ B) ∧ (c = 4 → -1 ≤ v ∧ v < r 619) ∧ (c = 5 → 0 ≤ v ∧ v ≤ B)) : IH B (rup r (547 + 6 * k + c) v) := by
  obtain ⟨hn, hw, hr, hh, hm, hcc⟩ := h
  have hn' := hn
  unfold IHn at hn'
  have e4 : rup r (547 + 6 * k + c) v 4 = r 4 := rup_ne (by omega)
  have e37 : rup r (547 + 6 * k + c) v 37 = r 37 := rup_ne (by omega)
  have e470 : rup r (547 + 6 * k + c) v 470 = r 470 := rup_ne (by omega)
  have e546 : rup r (547 + 6 * k + c) v 546 = r 546 := rup_ne (by omega)
  have e619 : rup r (547 + 6 * k + c) v 619 = r 619 := rup_ne (by omega)
  have e644 : rup r (547 + 6 * k + c) v 644 = r 644 := rup_ne (by omega)
  have e3 : ∀ m, 0 ≤ m → m < r 546 → rup r (547 + 6 * k + c) v (547 + 6 * m + 3) = r (547 + 6 * m + 3) := fun m a b => rup_ne (by omega)
  refine ⟨?_, fun i a b => ?_, fun i a b => ?_, fun i a b => ?_, fun i a b => ?_, fun i a b => ?_⟩
  · unfold IHn
    rw [e4, e37, e470, e546, e619, e644, rup_ne (by omega), rup_ne (by omega), rup_ne (by omega), rup_ne (by omega)]
    exact hn
  · rw [e4] at b
    rw [rup_ne (by omega), rup_ne (by omega), rup_ne (by omega)]
    exact hw i a b
  · rw [e37] at b
    have q := hr i a b
    rw [e4, rup_ne (by omega), rup_ne (by omega), rup_ne (by omega), rup_ne (by omega), rup_ne (by omega)]
    refine ⟨q.1, q.2.1, q.2.2.1, q.2.2.2.1, q.2.2.2.2.1, fun m x y => ?_⟩
    rw [rup_ne (by omega)]
    exact q.2.2.2.2.2 m x y
  · rw [e470] at b
    have q := hh i a b
    rw [e546, rup_ne (by omega), rup_ne (by omega), rup_ne (by omega), rup_ne (by omega)]
    refine ⟨q.1, q.2.1, q.2.2.1, q.2.2.2.1, q.2.2.2.2.trans ⟨?_, ?_⟩⟩
    · rintro ⟨m, x, y, w⟩
      exact ⟨m, x, y, by rw [e3 m x y]; exact w⟩
    · rintro ⟨m, x, y, w⟩
      rw [e3 m x y] at w
      exact ⟨m, x, y, w⟩
  · rw [e546] at b
    have q := hm i a b
    rw [e470, e546, e619, e3 i a b]
    refine ⟨?_, ?_, q.2.2.1, ?_, ?_, fun m x y => ?_⟩
    · rw [rup_at]
      split
      · exact hv.1 (by omega)
      · exact q.1
    · rw [rup_at]
      split
      · exact hv.2.1 (by omega)
      · exact q.2.1
    · rw [rup_at]
      split
      · exact hv.2.2.1 (by omega)
      · exact q.2.2.2.1
    · rw [rup_at]
      split
      · exact hv.2.2.2 (by omega)
      · exact q.2.2.2.2.1
    · rw [e3 m x y]
      exact q.2.2.2.2.2 m x y
  · rw [e619] at b
    rw [rup_ne (by omega), rup_ne (by omega), rup_ne (by omega)]
    exact hcc i a b
end IU

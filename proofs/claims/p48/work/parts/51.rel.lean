/-! the class's hall at h shows the row r; what holds of every row -/
def TL (z : ZZ) (t : Nat) (r : Row) (n b s : Int) : Prop := z t 3 = r n ∧ ∀ j, 0 ≤ j → j < s * r n → z (t + 1) j = r (b + j)
def TH (z : ZZ) (t : Nat) (r : Row) : Prop := z t 3 = r 470 ∧ ∀ k c, 0 ≤ k → k < r 470 → 0 ≤ c → c < 4 → z (t + 1) (k * 4 + c) = r (471 + 5 * k + c)
def RH (z : ZZ) (h : Nat) (r : Row) : Prop := TL z (h + 1) r 4 5 4 ∧ TL z (h + 3) r 37 38 18 ∧ TL z (h + 5) r 644 645 4 ∧ TH z (h + 7) r ∧ TL z (h + 9) r 546 547 6 ∧ TL z (h + 11) r 619 620 3 ∧ z h 7 = r 3 ∧ z h 8 = r 0 ∧ z h 9 = r 1 ∧ z h 10 = r 2
def IHn (B : Int) (r : Row) : Prop := 0 ≤ r 4 ∧ r 4 ≤ 8 ∧ 0 ≤ r 37 ∧ r 37 ≤ 24 ∧ 0 ≤ r 470 ∧ r 470 ≤ 15 ∧ 0 ≤ r 546 ∧ r 546 ≤ 12 ∧ 0 ≤ r 619 ∧ r 619 ≤ 8 ∧ 0 ≤ r 644 ∧ r 644 ≤ 30 ∧ 0 ≤ r 3 ∧ r 3 ≤ 9999 ∧ 0 ≤ r 0 ∧ r 0 ≤ 40 ∧ 0 ≤ r 1 ∧ r 1 ≤ 10 ∧ 1 ≤ r 2 ∧ r 2 ≤ 200 ∧ 20000 ≤ B ∧ B ≤ 1000000
def IHw (B : Int) (r : Row) : Prop := ∀ k, 0 ≤ k → k < r 4 → (0 ≤ r (5 + 4 * k + 1) ∧ r (5 + 4 * k + 1) ≤ 5) ∧ (1 ≤ r (5 + 4 * k + 2) ∧ r (5 + 4 * k + 2) ≤ 60) ∧ (0 ≤ r (5 + 4 * k + 3) ∧ r (5 + 4 * k + 3) ≤ B)
def IHr (B : Int) (r : Row) : Prop := ∀ k, 0 ≤ k → k < r 37 → (0 ≤ r (38 + 18 * k + 0) ∧ r (38 + 18 * k + 0) < r 4) ∧ (0 ≤ r (38 + 18 * k + 1) ∧ r (38 + 18 * k + 1) ≤ 29) ∧ (0 ≤ r (38 + 18 * k + 3) ∧ r (38 + 18 * k + 3) ≤ B) ∧ (0 ≤ r (38 + 18 * k + 4) ∧ r (38 + 18 * k + 4) ≤ B) ∧ (0 ≤ r (38 + 18 * k + 5) ∧ r (38 + 18 * k + 5) < 4096) ∧ ∀ m, 0 ≤ m → m < 12 → -1 ≤ r (38 + 18 * k + (6 + m)) ∧ r (38 + 18 * k + (6 + m)) ≤ 29
def IHh (r : Row) : Prop := ∀ k, 0 ≤ k → k < r 470 → (1 ≤ r (471 + 5 * k + 1) ∧ r (471 + 5 * k + 1) ≤ 365) ∧ (0 ≤ r (471 + 5 * k + 2) ∧ r (471 + 5 * k + 2) ≤ 9999) ∧ (r (471 + 5 * k + 3) = 0 ∨ r (471 + 5 * k + 3) = 1) ∧ (r (471 + 5 * k + 4) = 0 ∨ r (471 + 5 * k + 4) = 1) ∧ (r (471 + 5 * k + 4) = 1 ↔ ∃ m, 0 ≤ m ∧ m < r 546 ∧ r (547 + 6 * m + 3) = k)
def IHm (B : Int) (r : Row) : Prop := ∀ m, 0 ≤ m → m < r 546 → (0 ≤ r (547 + 6 * m + 1) ∧ r (547 + 6 * m + 1) ≤ 5) ∧ (0 ≤ r (547 + 6 * m + 2) ∧ r (547 + 6 * m + 2) ≤ B) ∧ (-1 ≤ r (547 + 6 * m + 3) ∧ r (547 + 6 * m + 3) < r 470) ∧ (-1 ≤ r (547 + 6 * m + 4) ∧ r (547 + 6 * m + 4) < r 619) ∧ (0 ≤ r (547 + 6 * m + 5) ∧ r (547 + 6 * m + 5) ≤ B) ∧ ∀ m', 0 ≤ m' → m' < r 546 → m ≠ m' → r (547 + 6 * m + 3) = r (547 + 6 * m' + 3) → r (547 + 6 * m + 3) = -1
def IHc (r : Row) : Prop := ∀ k, 0 ≤ k → k < r 619 → (1 ≤ r (620 + 3 * k + 0) ∧ r (620 + 3 * k + 0) ≤ 5) ∧ (1 ≤ r (620 + 3 * k + 1) ∧ r (620 + 3 * k + 1) ≤ 12) ∧ (0 ≤ r (620 + 3 * k + 2) ∧ r (620 + 3 * k + 2) ≤ 200)
def IH (B : Int) (r : Row) : Prop := IHn B r ∧ IHw B r ∧ IHr B r ∧ IHh r ∧ IHm B r ∧ IHc r
/-- the class's cells of the main hall -/
def RC (z : ZZ) (r : Row) : Prop := TL z 4 r 4 5 4 ∧ TL z 6 r 37 38 18 ∧ TL z 8 r 644 645 4 ∧ TH z 10 r ∧ TL z 12 r 546 547 6 ∧ TL z 14 r 619 620 3 ∧ z 3 7 = r 3 ∧ z 3 8 = r 0 ∧ z 3 9 = r 1 ∧ z 3 10 = r 2
theorem RC_iff {z : ZZ} {r : Row} : RC z r ↔ RH z 3 r := Iff.rfl
section RD
variable {z : ZZ} {r : Row} {B : Int} {k c d m : Int}
theorem cg4 (hR : RC z r) (hI : IH B r) (hk : 0 ≤ k ∧ k < r 4) (hc : 0 ≤ c ∧ c < 4) : fX4_get 4 k c z = some (r (5 + 4 * k + c)) := by
  obtain ⟨h1, h2⟩ := hR.1
  have hn := hI.1
  unfold IHn at hn
  rw [get_ok kT4 (by rw [h1]; exact hk) (by rw [h1]; show r 4 ≤ 8; omega) hc]
  show some (z 5 (k * 4 + c)) = _
  have := h2 (k * 4 + c) (by omega) (by omega)
  rw [show z 5 (k * 4 + c) = _ from this]
  congr 2; omega
theorem cg6 (hR : RC z r) (hI : IH B r) (hk : 0 ≤ k ∧ k < r 37) (hc : 0 ≤ c ∧ c < 18) : fX4_get 6 k c z = some (r (38 + 18 * k + c)) := by
  obtain ⟨h1, h2⟩ := hR.2.1
  have hn := hI.1
  unfold IHn at hn
  rw [get_ok kT6 (by rw [h1]; exact hk) (by rw [h1]; show r 37 ≤ 24; omega) hc]
  show some (z 7 (k * 18 + c)) = _
  have := h2 (k * 18 + c) (by omega) (by omega)
  rw [show z 7 (k * 18 + c) = _ from this]
  congr 2; omega
theorem cg8 (hR : RC z r) (hI : IH B r) (hk : 0 ≤ k ∧ k < r 644) (hc : 0 ≤ c ∧ c < 4) : fX4_get 8 k c z = some (r (645 + 4 * k + c)) := by
  obtain ⟨h1, h2⟩ := hR.2.2.1
  have hn := hI.1
  unfold IHn at hn
  rw [get_ok kT8 (by rw [h1]; exact hk) (by rw [h1]; show r 644 ≤ 30; omega) hc]
  show some (z 9 (k * 4 + c)) = _
  have := h2 (k * 4 + c) (by omega) (by omega)
  rw [show z 9 (k * 4 + c) = _ from this]
  congr 2; omega
theorem cg10 (hR : RC z r) (hI : IH B r) (hk : 0 ≤ k ∧ k < r 470) (hc : 0 ≤ c ∧ c < 4) : fX4_get 10 k c z = some (r (471 + 5 * k + c)) := by
  obtain ⟨h1, h2⟩ := hR.2.2.2.1
  have hn := hI.1
  unfold IHn at hn
  rw [get_ok kT10 (by rw [h1]; exact hk) (by rw [h1]; show r 470 ≤ 15; omega) hc]
  show some (z 11 (k * 4 + c)) = _
  rw [show z 11 (k * 4 + c) = _ from h2 k c hk.1 hk.2 hc.1 hc.2]
theorem cg12 (hR : RC z r) (hI : IH B r) (hk : 0 ≤ k ∧ k < r 546) (hc : 0 ≤ c ∧ c < 6) : fX4_get 12 k c z = some (r (547 + 6 * k + c)) := by
  obtain ⟨h1, h2⟩ := hR.2.2.2.2.1
  have hn := hI.1
  unfold IHn at hn
  rw [get_ok kT12 (by rw [h1]; exact hk) (by rw [h1]; show r 546 ≤ 12; omega) hc]
  show some (z 13 (k * 6 + c)) = _
  have := h2 (k * 6 + c) (by omega) (by omega)
  rw [show z 13 (k * 6 + c) = _ from this]
  congr 2; omega
theorem cg14 (hR : RC z r) (hI : IH B r) (hk : 0 ≤ k ∧ k < r 619) (hc : 0 ≤ c ∧ c < 3) : fX4_get 14 k c z = some (r (620 + 3 * k + c)) := by
  obtain ⟨h1, h2⟩ := hR.2.2.2.2.2.1
  have hn := hI.1
  unfold IHn at hn
  rw [get_ok kT14 (by rw [h1]; exact hk) (by rw [h1]; show r 619 ≤ 8; omega) hc]
  show some (z 15 (k * 3 + c)) = _
  have := h2 (k * 3 + c) (by omega) (by omega)
  rw [show z 15 (k * 3 + c) = _ from this]
  congr 2; omega
theorem RCn (hR : RC z r) : z 4 3 = r 4 ∧ z 6 3 = r 37 ∧ z 8 3 = r 644 ∧ z 10 3 = r 470 ∧ z 12 3 = r 546 ∧ z 14 3 = r 619 ∧ z 3 7 = r 3 ∧ z 3 8 = r 0 ∧ z 3 9 = r 1 ∧ z 3 10 = r 2 := ⟨hR.1.1, hR.2.1.1, hR.2.2.1.1, hR.2.2.2.1.1, hR.2.2.2.2.1.1, hR.2.2.2.2.2.1.1, hR.2.2.2.2.2.2⟩
/-! the model's readings -/
/-! harnesses -/
abbrev sRet (r : Row) (k : Int) : Prop := r (471 + 5 * k + 3) = 1
abbrev sLapse (r : Row) (k : Int) : Int := r (471 + 5 * k + 2) + r (471 + 5 * k + 1)
abbrev sForce (r : Row) (k d : Int) : Prop := ¬ sRet r k ∧ d < sLapse r k
abbrev sLent (r : Row) (k : Int) : Prop := r (471 + 5 * k + 4) = 1
theorem c_isRetired (hR : RC z r) (hI : IH B r) (hk : 0 ≤ k ∧ k < r 470) : fX1_isRetired k z = some (bI (sRet r k)) := by
  have h := (hI.2.2.2.1 k hk.1 hk.2).2.2.1
  unfold fX1_isRetired
  rw [cg10 hR hI hk (by omega)]
  show (if r (471 + 5 * k + 3) = 0 then some 0 else some 1) = _
  rcases h with h | h
  · rw [if_pos h, bI_f (by unfold sRet; omega)]
  · rw [if_neg (by omega), bI_t h]
theorem c_lapseOf (hR : RC z r) (hI : IH B r) (hk : 0 ≤ k ∧ k < r 470) : fX1_lapseOf k z = some (sLapse r k) := by
  have h := hI.2.2.2.1 k hk.1 hk.2
  unfold fX1_lapseOf
  rw [cg10 hR hI hk (by omega), cg10 hR hI hk (by omega)]
  show (if _ then _ else _) = _
  rw [if_pos (inR_s (by omega))]
theorem c_isInForce (hR : RC z r) (hI : IH B r) (hk : 0 ≤ k ∧ k < r 470) : fX1_isInForce k d z = some (bI (sForce r k d)) := by
  unfold fX1_isInForce
  rw [c_isRetired hR hI hk, c_lapseOf hR hI hk]
  simp only [Option.bind_some, bI_eq0]
  by_cases h : sRet r k
  · rw [if_neg (fun q => q h), bI_f (fun q => q.1 h)]
  · rw [if_pos h]
    unfold bI
    by_cases h2 : d < sLapse r k
    · rw [if_pos h2, if_pos ⟨h, h2⟩]
    · rw [if_neg h2, if_neg (fun q => h2 q.2)]
theorem c_harnessOf (hR : RC z r) (hI : IH B r) (hk : 0 ≤ m ∧ m < r 546) : fX1_harnessOf m z = some (r (547 + 6 * m + 3)) := by
  unfold fX1_harnessOf
  rw [cg12 hR hI hk (by omega)]
  rfl
theorem c_isLent (hR : RC z r) (hI : IH B r) (hk : 0 ≤ k ∧ k < r 470) : fX1_isLent k z = some (bI (sLent r k)) := by
  have hn := hI.1
  unfold IHn at hn
  have hl := (hI.2.2.2.1 k hk.1 hk.2).2.2.2.2
  unfold fX1_isLent
  have key := lp_find (step := fun q => fX1_isLent_s2 k q z) (fun i => i) (fun i => r (547 + 6 * i + 3) = k) (fun _ => Sum.inr 1) (Sum.inl ()) (r 546) (r 546).toNat 0 FU (FU_lt (by omega)) (by omega) (fun i h1 h2 h3 => by
      show fX1_isLent_s2 k i z = _
      unfold fX1_isLent_s2
      rw [(RCn hR).2.2.2.2.1, if_pos h2, c_harnessOf hR hI ⟨h1, h2⟩]
      show (if _ then _ else _) = _
      rw [if_neg h3, if_pos (inR_s (by omega))]) (fun i h1 h2 h3 => by
      show fX1_isLent_s2 k i z = _
      unfold fX1_isLent_s2
      rw [(RCn hR).2.2.2.2.1, if_pos h2, c_harnessOf hR hI ⟨h1, h2⟩]
      show (if _ then _ else _) = _
      rw [if_pos h3]) (by
      show fX1_isLent_s2 k (r 546) z = _
      unfold fX1_isLent_s2
      rw [(RCn hR).2.2.2.2.1, if_neg (by omega)])
  rcases key with ⟨i, h1, h2, h3, -, h5⟩ | ⟨h1, h2⟩
  · rw [h5, bI_t (hl.mpr ⟨i, h1, h2, h3⟩)]; rfl
  · rw [h2, bI_f (fun q => by
      obtain ⟨i, a, b, e⟩ := hl.mp q
      exact h1 i a b e)]; rfl
theorem c_stateOf (hR : RC z r) (hI : IH B r) (hk : 0 ≤ k ∧ k < r 470) : fX1_stateOf k z = some (if sRet r k then 2 else if sLent r k then 1 else 0) := by
  unfold fX1_stateOf
  rw [c_isRetired hR hI hk, c_isLent hR hI hk]
  simp only [Option.bind_some, bI_eq0]
  by_cases h : sRet r k
  · rw [if_neg (fun q => q h), if_pos h]
  · rw [if_pos h, if_neg h]
    by_cases h2 : sLent r k
    · rw [if_neg (fun q => q h2), if_pos h2]
    · rw [if_pos h2, if_neg h2]
abbrev sLendable (r : Row) (k : Int) : Prop := ¬ sLent r k ∧ sForce r k (r 3)
theorem c_isLendable (hR : RC z r) (hI : IH B r) (hk : 0 ≤ k ∧ k < r 470) : fX1_isLendable k z = some (bI (sLendable r k)) := by
  unfold fX1_isLendable
  rw [c_stateOf hR hI hk, (RCn hR).2.2.2.2.2.2.1, c_isInForce hR hI hk]
  simp only [Option.bind_some, bI_eq0]
  by_cases h : sRet r k
  · rw [if_pos h, if_neg (by omega), bI_f (fun q => q.2.1 h)]
  · rw [if_neg h]
    by_cases h2 : sLent r k
    · rw [if_pos h2, if_neg (by omega), bI_f (fun q => q.1 h2)]
    · rw [if_neg h2, if_pos rfl]
      by_cases h3 : sForce r k (r 3)
      · rw [if_neg (fun q => q h3), bI_t ⟨h2, h3⟩]
      · rw [if_pos h3, bI_f (fun q => h3 q.2)]
end RD
theorem zor_0 {a : Int} (h : inR a) : zor a 0 = a := by
  unfold zor
  rw [show iN a ||| iN 0 = iN a from by rw [iN_0]; exact Int32.or_zero, iN_toInt h]

/-! a statement, as the class reads it -/
def rulesR (r : Row) (u v w : Int) : Row := rup (rup (rup r 0 u) 1 v) 2 w
def wallR (r : Row) (u v w : Int) : Row := rup (rup (rup (rup (rup r (5 + 4 * r 4 + 0) u) (5 + 4 * r 4 + 1) v) (5 + 4 * r 4 + 2) w) (5 + 4 * r 4 + 3) w) 4 (r 4 + 1)
def harnR (r : Row) (u v : Int) : Row := rup (rup (rup (rup (rup (rup r (471 + 5 * r 470 + 0) u) (471 + 5 * r 470 + 1) v) (471 + 5 * r 470 + 2) 0) (471 + 5 * r 470 + 3) 0) (471 + 5 * r 470 + 4) 0) 470 (r 470 + 1)
def membR (r : Row) (u v : Int) : Row := rup (rup (rup (rup (rup (rup (rup r (547 + 6 * r 546 + 0) u) (547 + 6 * r 546 + 1) v) (547 + 6 * r 546 + 2) 0) (547 + 6 * r 546 + 3) (-1)) (547 + 6 * r 546 + 4) (-1)) (547 + 6 * r 546 + 5) 0) 546 (r 546 + 1)
def courR (r : Row) (u v w : Int) : Row := rup (rup (rup (rup r (620 + 3 * r 619 + 0) u) (620 + 3 * r 619 + 1) v) (620 + 3 * r 619 + 2) w) 619 (r 619 + 1)
/-- what holds of a draft -/
def PR (r : Row) : Prop := IHn 20000 r ∧ (r 37 = 0 ∧ r 644 = 0 ∧ r 3 = 0) ∧
  (∀ k, 0 ≤ k → k < r 4 → (0 ≤ r (5 + 4 * k + 1) ∧ r (5 + 4 * k + 1) ≤ 5) ∧ (1 ≤ r (5 + 4 * k + 2) ∧ r (5 + 4 * k + 2) ≤ 60) ∧ (0 ≤ r (5 + 4 * k + 3) ∧ r (5 + 4 * k + 3) ≤ 60)) ∧
  (∀ k, 0 ≤ k → k < r 470 → (1 ≤ r (471 + 5 * k + 1) ∧ r (471 + 5 * k + 1) ≤ 365) ∧ r (471 + 5 * k + 2) = 0 ∧ r (471 + 5 * k + 3) = 0 ∧ r (471 + 5 * k + 4) = 0) ∧
  (∀ m, 0 ≤ m → m < r 546 → (0 ≤ r (547 + 6 * m + 1) ∧ r (547 + 6 * m + 1) ≤ 5) ∧ r (547 + 6 * m + 2) = 0 ∧ r (547 + 6 * m + 3) = -1 ∧ r (547 + 6 * m + 4) = -1 ∧ r (547 + 6 * m + 5) = 0) ∧
  (∀ k, 0 ≤ k → k < r 619 → (1 ≤ r (620 + 3 * k + 0) ∧ r (620 + 3 * k + 0) ≤ 5) ∧ (1 ≤ r (620 + 3 * k + 1) ∧ r (620 + 3 * k + 1) ≤ 12) ∧ (0 ≤ r (620 + 3 * k + 2) ∧ r (620 + 3 * k + 2) ≤ 200))
theorem PR_IH {r : Row} (h : PR r) : IH 20000 r := by
  obtain ⟨h1, h2, h3, h4, h5, h6⟩ := h
  have hn := h1
  unfold IHn at hn
  refine ⟨h1, fun k a c => ?_, fun k a c => by omega, fun k a c => ?_, fun m a c => ?_, h6⟩
  · have := h3 k a c
    exact ⟨this.1, this.2.1, by omega⟩
  · have := h4 k a c
    refine ⟨this.1, by omega, Or.inl this.2.2.1, Or.inl this.2.2.2, ⟨fun x => by omega, ?_⟩⟩
    rintro ⟨m, x, y, w⟩
    have := h5 m x y
    omega
  · have := h5 m a c
    exact ⟨this.1, by omega, by omega, by omega, by omega, fun m' x y _ _ => this.2.2.1⟩
def stm (b : Int → Int) (L p : Int) (r : Row) (h : Int) : Int ⊕ (Int × Row × Int) :=
  if wK b (tS b p) (tE b L (tS b p)) = 0 then (if h = 0 then (match n3 b L 0 40 0 10 1 200 (tE b L (tS b p)) with
    | .inl x => .inl x
    | .inr (u, v, w, q) => .inr (q, rulesR r u v w, 1)) else .inl (tS b p))
  else if wK b (tS b p) (tE b L (tS b p)) = 1 then (if r 4 < 8 then (match n3 b L 3 30 0 5 1 60 (tE b L (tS b p)) with
    | .inl x => .inl x
    | .inr (u, v, w, q) => .inr (q, wallR r u v w, h)) else .inl (tS b p))
  else if wK b (tS b p) (tE b L (tS b p)) = 2 then (if r 470 < 15 then (match n2 b L 0 3 1 365 (tE b L (tS b p)) with
    | .inl x => .inl x
    | .inr (u, v, q) => .inr (q, harnR r u v, h)) else .inl (tS b p))
  else if wK b (tS b p) (tE b L (tS b p)) = 3 then (if r 546 < 12 then (match n2 b L 0 3 0 5 (tE b L (tS b p)) with
    | .inl x => .inl x
    | .inr (u, v, q) => .inr (q, membR r u v, h)) else .inl (tS b p))
  else if wK b (tS b p) (tE b L (tS b p)) = 4 then (if r 619 < 8 then (match n3 b L 1 5 1 12 0 200 (tE b L (tS b p)) with
    | .inl x => .inl x
    | .inr (u, v, w, q) => .inr (q, courR r u v w, h)) else .inl (tS b p))
  else .inl (tS b p)
section PRs
variable {r : Row} {u v w : Int}
theorem PR_rules (h : PR r) (hu : 0 ≤ u ∧ u ≤ 40) (hv : 0 ≤ v ∧ v ≤ 10) (hw : 1 ≤ w ∧ w ≤ 200) : PR (rulesR r u v w) := by
  obtain ⟨h1, h2, h3, h4, h5, h6⟩ := h
  have hn := h1
  unfold IHn at hn
  have eX : ∀ i, 3 ≤ i → rulesR r u v w i = r i := fun i hi => by
    unfold rulesR
    rw [rup_ne (by omega), rup_ne (by omega), rup_ne (by omega)]
  have e0 : rulesR r u v w 0 = u := by
    unfold rulesR
    rw [rup_ne (by omega), rup_ne (by omega), rup_at, if_pos rfl]
  have e1 : rulesR r u v w 1 = v := by
    unfold rulesR
    rw [rup_ne (by omega), rup_at, if_pos rfl]
  have e2 : rulesR r u v w 2 = w := by
    unfold rulesR
    rw [rup_at, if_pos rfl]
  refine ⟨?_, ?_, fun k a c => ?_, fun k a c => ?_, fun k a c => ?_, fun k a c => ?_⟩
  · unfold IHn
    rw [e0, e1, e2, eX 3 (by omega), eX 4 (by omega), eX 37 (by omega), eX 470 (by omega), eX 546 (by omega), eX 619 (by omega), eX 644 (by omega)]
    omega
  · rw [eX 3 (by omega), eX 37 (by omega), eX 644 (by omega)]
    exact h2
  · rw [eX 4 (by omega)] at c
    rw [eX _ (by omega), eX _ (by omega), eX _ (by omega)]
    exact h3 k a c
  · rw [eX 470 (by omega)] at c
    rw [eX _ (by omega), eX _ (by omega), eX _ (by omega), eX _ (by omega)]
    exact h4 k a c
  · rw [eX 546 (by omega)] at c
    rw [eX _ (by omega), eX _ (by omega), eX _ (by omega), eX _ (by omega), eX _ (by omega)]
    exact h5 k a c
  · rw [eX 619 (by omega)] at c
    rw [eX _ (by omega), eX _ (by omega), eX _ (by omega)]
    exact h6 k a c
theorem wallR_o {i : Int} (h4 : i ≠ 4) (h : ¬ (5 + 4 * r 4 ≤ i ∧ i < 9 + 4 * r 4)) : wallR r u v w i = r i := by
  unfold wallR
  rw [rup_ne h4, rup_ne (by omega), rup_ne (by omega), rup_ne (by omega), rup_ne (by omega)]
theorem wallR_n (h0 : 0 ≤ r 4) : wallR r u v w 4 = r 4 + 1 ∧ wallR r u v w (5 + 4 * r 4 + 0) = u ∧ wallR r u v w (5 + 4 * r 4 + 1) = v ∧ wallR r u v w (5 + 4 * r 4 + 2) = w ∧ wallR r u v w (5 + 4 * r 4 + 3) = w := by
  unfold wallR
  refine ⟨by rw [rup_at, if_pos rfl], ?_, ?_, ?_, ?_⟩
  · rw [rup_ne (by omega), rup_ne (by omega), rup_ne (by omega), rup_ne (by omega), rup_at, if_pos rfl]
  · rw [rup_ne (by omega), rup_ne (by omega), rup_ne (by omega), rup_at, if_pos rfl]
  · rw [rup_ne (by omega), rup_ne (by omega), rup_at, if_pos rfl]
  · rw [rup_ne (by omega), rup_at, if_pos rfl]
theorem PR_wall (h : PR r) (h8 : r 4 < 8) (hv : 0 ≤ v ∧ v ≤ 5) (hw : 1 ≤ w ∧ w ≤ 60) : PR (wallR r u v w) := by
  obtain ⟨h1, h2, h3, h4, h5, h6⟩ := h
  have hn := h1
  unfold IHn at hn
  obtain ⟨n4, m0, m1, m2, m3⟩ := wallR_n (r := r) (u := u) (v := v) (w := w) hn.1
  have eX : ∀ i, i < 4 ∨ 37 ≤ i → wallR r u v w i = r i := fun i hi => wallR_o (by omega) (by omega)
  refine ⟨?_, ?_, fun k a c => ?_, fun k a c => ?_, fun k a c => ?_, fun k a c => ?_⟩
  · unfold IHn
    rw [n4, eX 0 (by omega), eX 1 (by omega), eX 2 (by omega), eX 3 (by omega), eX 37 (by omega), eX 470 (by omega), eX 546 (by omega), eX 619 (by omega), eX 644 (by omega)]
    omega
  · rw [eX 3 (by omega), eX 37 (by omega), eX 644 (by omega)]
    exact h2
  · rw [n4] at c
    by_cases e : k = r 4
    · rw [e, m1, m2, m3]
      omega
    · rw [wallR_o (by omega) (by omega), wallR_o (by omega) (by omega), wallR_o (by omega) (by omega)]
      exact h3 k a (by omega)
  · rw [eX 470 (by omega)] at c
    rw [eX _ (by omega), eX _ (by omega), eX _ (by omega), eX _ (by omega)]
    exact h4 k a c
  · rw [eX 546 (by omega)] at c
    rw [eX _ (by omega), eX _ (by omega), eX _ (by omega), eX _ (by omega), eX _ (by omega)]
    exact h5 k a c
  · rw [eX 619 (by omega)] at c
    rw [eX _ (by omega), eX _ (by omega), eX _ (by omega)]
    exact h6 k a c
theorem harnR_o {i : Int} (h4 : i ≠ 470) (h : ¬ (471 + 5 * r 470 ≤ i ∧ i < 476 + 5 * r 470)) : harnR r u v i = r i := by
  unfold harnR
  rw [rup_ne h4, rup_ne (by omega), rup_ne (by omega), rup_ne (by omega), rup_ne (by omega), rup_ne (by omega)]
theorem harnR_n (h0 : 0 ≤ r 470) : harnR r u v 470 = r 470 + 1 ∧ harnR r u v (471 + 5 * r 470 + 0) = u ∧ harnR r u v (471 + 5 * r 470 + 1) = v ∧ harnR r u v (471 + 5 * r 470 + 2) = 0 ∧ harnR r u v (471 + 5 * r 470 + 3) = 0 ∧ harnR r u v (471 + 5 * r 470 + 4) = 0 := by
  unfold harnR
  refine ⟨by rw [rup_at, if_pos rfl], ?_, ?_, ?_, ?_, ?_⟩
  · rw [rup_ne (by omega), rup_ne (by omega), rup_ne (by omega), rup_ne (by omega), rup_ne (by omega), rup_at, if_pos rfl]
  · rw [rup_ne (by omega), rup_ne (by omega), rup_ne (by omega), rup_ne (by omega), rup_at, if_pos rfl]
  · rw [rup_ne (by omega), rup_ne (by omega), rup_ne (by omega), rup_at, if_pos rfl]
  · rw [rup_ne (by omega), rup_ne (by omega), rup_at, if_pos rfl]
  · rw [rup_ne (by omega), rup_at, if_pos rfl]
theorem PR_harn (h : PR r) (h8 : r 470 < 15) (hv : 1 ≤ v ∧ v ≤ 365) : PR (harnR r u v) := by
  obtain ⟨h1, h2, h3, h4, h5, h6⟩ := h
  have hn := h1
  unfold IHn at hn
  obtain ⟨n4, m0, m1, m2, m3, m4⟩ := harnR_n (r := r) (u := u) (v := v) hn.2.2.2.2.1
  have eX : ∀ i, i < 470 ∨ 546 ≤ i → harnR r u v i = r i := fun i hi => harnR_o (by omega) (by omega)
  refine ⟨?_, ?_, fun k a c => ?_, fun k a c => ?_, fun k a c => ?_, fun k a c => ?_⟩
  · unfold IHn
    rw [n4, eX 0 (by omega), eX 1 (by omega), eX 2 (by omega), eX 3 (by omega), eX 4 (by omega), eX 37 (by omega), eX 546 (by omega), eX 619 (by omega), eX 644 (by omega)]
    omega
  · rw [eX 3 (by omega), eX 37 (by omega), eX 644 (by omega)]
    exact h2
  · rw [eX 4 (by omega)] at c
    rw [eX _ (by omega), eX _ (by omega), eX _ (by omega)]
    exact h3 k a c
  · rw [n4] at c
    by_cases e : k = r 470
    · rw [e, m1, m2, m3, m4]
      omega
    · rw [harnR_o (by omega) (by omega), harnR_o (by omega) (by omega), harnR_o (by omega) (by omega), harnR_o (by omega) (by omega)]
      exact h4 k a (by omega)
  · rw [eX 546 (by omega)] at c
    rw [eX _ (by omega), eX _ (by omega), eX _ (by omega), eX _ (by omega), eX _ (by omega)]
    exact h5 k a c
  · rw [eX 619 (by omega)] at c
    rw [eX _ (by omega), eX _ (by omega), eX _ (by omega)]
    exact h6 k a c
theorem membR_o {i : Int} (h4 : i ≠ 546) (h : ¬ (547 + 6 * r 546 ≤ i ∧ i < 553 + 6 * r 546)) : membR r u v i = r i := by
  unfold membR
  rw [rup_ne h4, rup_ne (by omega), rup_ne (by omega), rup_ne (by omega), rup_ne (by omega), rup_ne (by omega), rup_ne (by omega)]
theorem membR_n (h0 : 0 ≤ r 546) : membR r u v 546 = r 546 + 1 ∧ membR r u v (547 + 6 * r 546 + 0) = u ∧ membR r u v (547 + 6 * r 546 + 1) = v ∧ membR r u v (547 + 6 * r 546 + 2) = 0 ∧ membR r u v (547 + 6 * r 546 + 3) = -1 ∧ membR r u v (547 + 6 * r 546 + 4) = -1 ∧ membR r u v (547 + 6 * r 546 + 5) = 0 := by
  unfold membR
  refine ⟨by rw [rup_at, if_pos rfl], ?_, ?_, ?_, ?_, ?_, ?_⟩
  · rw [rup_ne (by omega), rup_ne (by omega), rup_ne (by omega), rup_ne (by omega), rup_ne (by omega), rup_ne (by omega), rup_at, if_pos rfl]
  · rw [rup_ne (by omega), rup_ne (by omega), rup_ne (by omega), rup_ne (by omega), rup_ne (by omega), rup_at, if_pos rfl]
  · rw [rup_ne (by omega), rup_ne (by omega), rup_ne (by omega), rup_ne (by omega), rup_at, if_pos rfl]
  · rw [rup_ne (by omega), rup_ne (by omega), rup_ne (by omega), rup_at, if_pos rfl]
  · rw [rup_ne (by omega), rup_ne (by omega), rup_at, if_pos rfl]
  · rw [rup_ne (by omega), rup_at, if_pos rfl]
theorem PR_memb (h : PR r) (h8 : r 546 < 12) (hv : 0 ≤ v ∧ v ≤ 5) : PR (membR r u v) := by
  obtain ⟨h1, h2, h3, h4, h5, h6⟩ := h
  have hn := h1
  unfold IHn at hn
  obtain ⟨n4, m0, m1, m2, m3, m4, m5⟩ := membR_n (r := r) (u := u) (v := v) hn.2.2.2.2.2.2.1
  have eX : ∀ i, i < 546 ∨ 619 ≤ i → membR r u v i = r i := fun i hi => membR_o (by omega) (by omega)
  refine ⟨?_, ?_, fun k a c => ?_, fun k a c => ?_, fun k a c => ?_, fun k a c => ?_⟩
  · unfold IHn
    rw [n4, eX 0 (by omega), eX 1 (by omega), eX 2 (by omega), eX 3 (by omega), eX 4 (by omega), eX 37 (by omega), eX 470 (by omega), eX 619 (by omega), eX 644 (by omega)]
    omega
  · rw [eX 3 (by omega), eX 37 (by omega), eX 644 (by omega)]
    exact h2
  · rw [eX 4 (by omega)] at c
    rw [eX _ (by omega), eX _ (by omega), eX _ (by omega)]
    exact h3 k a c
  · rw [eX 470 (by omega)] at c
    rw [eX _ (by omega), eX _ (by omega), eX _ (by omega), eX _ (by omega)]
    exact h4 k a c
  · rw [n4] at c
    by_cases e : k = r 546
    · rw [e, m1, m2, m3, m4, m5]
      omega
    · rw [membR_o (by omega) (by omega), membR_o (by omega) (by omega), membR_o (by omega) (by omega), membR_o (by omega) (by omega), membR_o (by omega) (by omega)]
      exact h5 k a (by omega)
  · rw [eX 619 (by omega)] at c
    rw [eX _ (by omega), eX _ (by omega), eX _ (by omega)]
    exact h6 k a c
theorem courR_o {i : Int} (h4 : i ≠ 619) (h : ¬ (620 + 3 * r 619 ≤ i ∧ i < 623 + 3 * r 619)) : courR r u v w i = r i := by
  unfold courR
  rw [rup_ne h4, rup_ne (by omega), rup_ne (by omega), rup_ne (by omega)]
theorem courR_n (h0 : 0 ≤ r 619) : courR r u v w 619 = r 619 + 1 ∧ courR r u v w (620 + 3 * r 619 + 0) = u ∧ courR r u v w (620 + 3 * r 619 + 1) = v ∧ courR r u v w (620 + 3 * r 619 + 2) = w := by
  unfold courR
  refine ⟨by rw [rup_at, if_pos rfl], ?_, ?_, ?_⟩
  · rw [rup_ne (by omega), rup_ne (by omega), rup_ne (by omega), rup_at, if_pos rfl]
  · rw [rup_ne (by omega), rup_ne (by omega), rup_at, if_pos rfl]
  · rw [rup_ne (by omega), rup_at, if_pos rfl]
theorem PR_cour (h : PR r) (h8 : r 619 < 8) (hu : 1 ≤ u ∧ u ≤ 5) (hv : 1 ≤ v ∧ v ≤ 12) (hw : 0 ≤ w ∧ w ≤ 200) : PR (courR r u v w) := by
  obtain ⟨h1, h2, h3, h4, h5, h6⟩ := h
  have hn := h1
  unfold IHn at hn
  obtain ⟨n4, m0, m1, m2⟩ := courR_n (r := r) (u := u) (v := v) (w := w) (by omega)
  have eX : ∀ i, i < 619 ∨ 644 ≤ i → courR r u v w i = r i := fun i hi => courR_o (by omega) (by omega)
  refine ⟨?_, ?_, fun k a c => ?_, fun k a c => ?_, fun k a c => ?_, fun k a c => ?_⟩
  · unfold IHn
    rw [n4, eX 0 (by omega), eX 1 (by omega), eX 2 (by omega), eX 3 (by omega), eX 4 (by omega), eX 37 (by omega), eX 470 (by omega), eX 546 (by omega), eX 644 (by omega)]
    omega
  · rw [eX 3 (by omega), eX 37 (by omega), eX 644 (by omega)]
    exact h2
  · rw [eX 4 (by omega)] at c
    rw [eX _ (by omega), eX _ (by omega), eX _ (by omega)]
    exact h3 k a c
  · rw [eX 470 (by omega)] at c
    rw [eX _ (by omega), eX _ (by omega), eX _ (by omega), eX _ (by omega)]
    exact h4 k a c
  · rw [eX 546 (by omega)] at c
    rw [eX _ (by omega), eX _ (by omega), eX _ (by omega), eX _ (by omega), eX _ (by omega)]
    exact h5 k a c
  · rw [n4] at c
    by_cases e : k = r 619
    · rw [e, m0, m1, m2]
      omega
    · rw [courR_o (by omega) (by omega), courR_o (by omega) (by omega), courR_o (by omega) (by omega)]
      exact h6 k a (by omega)
end PRs
/-! the class's draft -/
theorem TL_add {z z' : ZZ} {t : Nat} {r r' : Row} {n b s : Int} (h : TL z t r n b s) (e0 : z' t 3 = z t 3 + 1) (e1 : r' n = r n + 1) (e2 : ∀ j, 0 ≤ j → j < s * r n → z' (t + 1) j = z (t + 1) j) (e3 : ∀ j, 0 ≤ j → j < s * r n → r' (b + j) = r (b + j)) (e4 : ∀ c, 0 ≤ c → c < s → z' (t + 1) (s * r n + c) = r' (b + s * r n + c)) : TL z' t r' n b s := by
  refine ⟨by rw [e0, e1, h.1], fun j a c => ?_⟩
  rw [e1, Int.mul_add, Int.mul_one] at c
  by_cases q : j < s * r n
  · rw [e2 j a q, e3 j a q]
    exact h.2 j a q
  · have := e4 (j - s * r n) (by omega) (by omega)
    rw [show s * r n + (j - s * r n) = j by omega, show b + s * r n + (j - s * r n) = b + j by omega] at this
    exact this
section DR
variable {z : ZZ} {r : Row} {u v w : Int}
theorem D_rules (hR : RH z 17 r) (hP : PR r) : ∃ z', fX1_setRules 17 u v w z = some z' ∧ RH z' 17 (rulesR r u v w) ∧ ∀ a, a ≠ 17 → z' a = z a := by
  have hn := hP.1
  unfold IHn at hn
  obtain ⟨h1, h2, h3, h4, h5, h6, h7, h8, h9, h10⟩ := hR
  have eX : ∀ i, 3 ≤ i → rulesR r u v w i = r i := fun i hi => by
    unfold rulesR
    rw [rup_ne (by omega), rup_ne (by omega), rup_ne (by omega)]
  have k : ∀ a, a ≠ 17 → zup (zup (zup z 17 8 u) 17 9 v) 17 10 w a = z a := fun a p => by rw [zup_ne p, zup_ne p, zup_ne p]
  refine ⟨_, rfl, ⟨TL_k h1 (k _ (by decide)) (k _ (by decide)) (eX _ (by omega)) (fun j a b => eX _ (by omega)), TL_k h2 (k _ (by decide)) (k _ (by decide)) (eX _ (by omega)) (fun j a b => eX _ (by omega)), TL_k h3 (k _ (by decide)) (k _ (by decide)) (eX _ (by omega)) (fun j a b => eX _ (by omega)), TH_k h4 (k _ (by decide)) (k _ (by decide)) (eX _ (by omega)) (fun j a b => eX _ (by omega)), TL_k h5 (k _ (by decide)) (k _ (by decide)) (eX _ (by omega)) (fun j a b => eX _ (by omega)), TL_k h6 (k _ (by decide)) (k _ (by decide)) (eX _ (by omega)) (fun j a b => eX _ (by omega)), ?_, ?_, ?_, ?_⟩, k⟩
  · rw [eX 3 (by omega), zup_at, if_neg (by decide), zup_at, if_neg (by decide), zup_at, if_neg (by decide)]
    exact h7
  · rw [zup_at, if_neg (by decide), zup_at, if_neg (by decide), zup_at, if_pos rfl]
    unfold rulesR
    rw [rup_ne (by omega), rup_ne (by omega), rup_at, if_pos rfl]
  · rw [zup_at, if_neg (by decide), zup_at, if_pos rfl]
    unfold rulesR
    rw [rup_ne (by omega), rup_at, if_pos rfl]
  · rw [zup_at, if_pos rfl]
    unfold rulesR
    rw [rup_at, if_pos rfl]
theorem D_wall (hR : RH z 17 r) (hP : PR r) (h8 : r 4 < 8) : ∃ z', fX1_addWall 17 u v w z = some z' ∧ RH z' 17 (wallR r u v w) ∧ ∀ a, a ≠ 18 → a ≠ 19 → z' a = z a := by
  have hn := hP.1
  unfold IHn at hn
  obtain ⟨h1, h2, h3, h4, h5, h6, h7⟩ := hR
  have n18 : z 18 3 = r 4 := h1.1
  obtain ⟨x, ex, x1, x2, x3⟩ := c_addRow (z := z) kT18 (by rw [n18]; exact ⟨hn.1, h8⟩)
  rw [n18] at ex x1 x2
  have x2' : ∀ j, x 19 j = if r 4 * 4 ≤ j ∧ j < r 4 * 4 + 4 then 0 else z 19 j := x2
  have st : ∀ (y : ZZ) (c a : Int), y 18 3 = r 4 + 1 → 0 ≤ c ∧ c < 4 → fX4_set 18 (r 4) c a y = some (zup y 19 (r 4 * 4 + c) a) := fun y c a hy hc => set_ok kT18 (by rw [hy]; omega) (by rw [hy]; show r 4 + 1 ≤ 8; omega) (show 0 ≤ c ∧ c < 4 from hc)
  have t0 := st x 0 u x1 (by omega)
  have t1 := st (zup x 19 (r 4 * 4 + 0) u) 1 v (by rw [zup_ne (by decide)]; exact x1) (by omega)
  have t2 := st (zup (zup x 19 (r 4 * 4 + 0) u) 19 (r 4 * 4 + 1) v) 2 w (by rw [zup_ne (by decide), zup_ne (by decide)]; exact x1) (by omega)
  have t3 := st (zup (zup (zup x 19 (r 4 * 4 + 0) u) 19 (r 4 * 4 + 1) v) 19 (r 4 * 4 + 2) w) 3 w (by rw [zup_ne (by decide), zup_ne (by decide), zup_ne (by decide)]; exact x1) (by omega)
  generalize hy : zup (zup (zup (zup x 19 (r 4 * 4 + 0) u) 19 (r 4 * 4 + 1) v) 19 (r 4 * 4 + 2) w) 19 (r 4 * 4 + 3) w = y at t3
  have yo : ∀ a, a ≠ 18 → a ≠ 19 → y a = z a := fun a p q => by rw [← hy, zup_ne q, zup_ne q, zup_ne q, zup_ne q, x3 a p q]
  have y18 : y 18 3 = r 4 + 1 := by rw [← hy, zup_ne (by decide), zup_ne (by decide), zup_ne (by decide), zup_ne (by decide), x1]
  have y19 : ∀ j, y 19 j = if j = r 4 * 4 + 3 then w else if j = r 4 * 4 + 2 then w else if j = r 4 * 4 + 1 then v else if j = r 4 * 4 + 0 then u else if r 4 * 4 ≤ j ∧ j < r 4 * 4 + 4 then 0 else z 19 j := fun j => by rw [← hy, zup_at, zup_at, zup_at, zup_at, x2']
  obtain ⟨n4, m0, m1, m2, m3⟩ := wallR_n (r := r) (u := u) (v := v) (w := w) hn.1
  have eX : ∀ i, i < 4 ∨ 37 ≤ i → wallR r u v w i = r i := fun i hi => wallR_o (by omega) (by omega)
  refine ⟨y, ?_, ⟨TL_add h1 (by rw [n18]; exact y18) n4 (fun j a c => ?_) (fun j a c => wallR_o (by omega) (by omega)) (fun c a d => ?_), TL_k h2 (yo _ (by decide) (by decide)) (yo _ (by decide) (by decide)) (eX _ (by omega)) (fun j a c => eX _ (by omega)), TL_k h3 (yo _ (by decide) (by decide)) (yo _ (by decide) (by decide)) (eX _ (by omega)) (fun j a c => eX _ (by omega)), TH_k h4 (yo _ (by decide) (by decide)) (yo _ (by decide) (by decide)) (eX _ (by omega)) (fun j a c => eX _ (by omega)), TL_k h5 (yo _ (by decide) (by decide)) (yo _ (by decide) (by decide)) (eX _ (by omega)) (fun j a c => eX _ (by omega)), TL_k h6 (yo _ (by decide) (by decide)) (yo _ (by decide) (by decide)) (eX _ (by omega)) (fun j a c => eX _ (by omega)), ?_⟩, yo⟩
  · simp only [fX1_addWall, ex, Option.bind_some, t0, t1, t2, t3]
  · show y 19 j = z 19 j
    rw [y19, if_neg (by omega), if_neg (by omega), if_neg (by omega), if_neg (by omega), if_neg (by omega)]
  · show y 19 _ = _
    rw [y19]
    by_cases c3 : c = 3
    · subst c3; rw [if_pos (by omega), m3]
    · rw [if_neg (by omega)]
      by_cases c2 : c = 2
      · subst c2; rw [if_pos (by omega), m2]
      · rw [if_neg (by omega)]
        by_cases c1 : c = 1
        · subst c1; rw [if_pos (by omega), m1]
        · have c0 : c = 0 := by omega
          subst c0
          rw [if_neg (by omega), if_pos (by omega), m0]
  · rw [yo 17 (by decide) (by decide), eX 3 (by omega), eX 0 (by omega), eX 1 (by omega), eX 2 (by omega)]
    exact h7
theorem D_cour (hR : RH z 17 r) (hP : PR r) (h8 : r 619 < 8) : ∃ z', fX1_addCourse 17 u v w z = some z' ∧ RH z' 17 (courR r u v w) ∧ ∀ a, a ≠ 28 → a ≠ 29 → z' a = z a := by
  have hn := hP.1
  unfold IHn at hn
  obtain ⟨h1, h2, h3, h4, h5, h6, h7⟩ := hR
  have n18 : z 28 3 = r 619 := h6.1
  obtain ⟨x, ex, x1, x2, x3⟩ := c_addRow (z := z) kT28 (by rw [n18]; exact ⟨by omega, h8⟩)
  rw [n18] at ex x1 x2
  have x2' : ∀ j, x 29 j = if r 619 * 3 ≤ j ∧ j < r 619 * 3 + 3 then 0 else z 29 j := x2
  have st : ∀ (y : ZZ) (c a : Int), y 28 3 = r 619 + 1 → 0 ≤ c ∧ c < 3 → fX4_set 28 (r 619) c a y = some (zup y 29 (r 619 * 3 + c) a) := fun y c a hy hc => set_ok kT28 (by rw [hy]; omega) (by rw [hy]; show r 619 + 1 ≤ 8; omega) (show 0 ≤ c ∧ c < 3 from hc)
  have t0 := st x 0 u x1 (by omega)
  have t1 := st (zup x 29 (r 619 * 3 + 0) u) 1 v (by rw [zup_ne (by decide)]; exact x1) (by omega)
  have t2 := st (zup (zup x 29 (r 619 * 3 + 0) u) 29 (r 619 * 3 + 1) v) 2 w (by rw [zup_ne (by decide), zup_ne (by decide)]; exact x1) (by omega)
  generalize hy : zup (zup (zup x 29 (r 619 * 3 + 0) u) 29 (r 619 * 3 + 1) v) 29 (r 619 * 3 + 2) w = y at t2
  have yo : ∀ a, a ≠ 28 → a ≠ 29 → y a = z a := fun a p q => by rw [← hy, zup_ne q, zup_ne q, zup_ne q, x3 a p q]
  have y18 : y 28 3 = r 619 + 1 := by rw [← hy, zup_ne (by decide), zup_ne (by decide), zup_ne (by decide), x1]
  have y19 : ∀ j, y 29 j = if j = r 619 * 3 + 2 then w else if j = r 619 * 3 + 1 then v else if j = r 619 * 3 + 0 then u else if r 619 * 3 ≤ j ∧ j < r 619 * 3 + 3 then 0 else z 29 j := fun j => by rw [← hy, zup_at, zup_at, zup_at, x2']
  obtain ⟨n4, m0, m1, m2⟩ := courR_n (r := r) (u := u) (v := v) (w := w) (by omega)
  have eX : ∀ i, i < 619 ∨ 644 ≤ i → courR r u v w i = r i := fun i hi => courR_o (by omega) (by omega)
  refine ⟨y, ?_, ⟨TL_k h1 (yo _ (by decide) (by decide)) (yo _ (by decide) (by decide)) (eX _ (by omega)) (fun j a c => eX _ (by omega)), TL_k h2 (yo _ (by decide) (by decide)) (yo _ (by decide) (by decide)) (eX _ (by omega)) (fun j a c => eX _ (by omega)), TL_k h3 (yo _ (by decide) (by decide)) (yo _ (by decide) (by decide)) (eX _ (by omega)) (fun j a c => eX _ (by omega)), TH_k h4 (yo _ (by decide) (by decide)) (yo _ (by decide) (by decide)) (eX _ (by omega)) (fun j a c => eX _ (by omega)), TL_k h5 (yo _ (by decide) (by decide)) (yo _ (by decide) (by decide)) (eX _ (by omega)) (fun j a c => eX _ (by omega)), TL_add h6 (by rw [n18]; exact y18) n4 (fun j a c => ?_) (fun j a c => courR_o (by omega) (by omega)) (fun c a d => ?_), ?_⟩, yo⟩
  · simp only [fX1_addCourse, ex, Option.bind_some, t0, t1, t2]
  · show y 29 j = z 29 j
    rw [y19, if_neg (by omega), if_neg (by omega), if_neg (by omega), if_neg (by omega)]
  · show y 29 _ = _
    rw [y19]
    by_cases c2 : c = 2
    · subst c2; rw [if_pos (by omega), m2]
    · rw [if_neg (by omega)]
      by_cases c1 : c = 1
      · subst c1; rw [if_pos (by omega), m1]
      · have c0 : c = 0 := by omega
        subst c0
        rw [if_neg (by omega), if_pos (by omega), m0]
  · rw [yo 17 (by decide) (by decide), eX 3 (by omega), eX 0 (by omega), eX 1 (by omega), eX 2 (by omega)]
    exact h7
theorem D_memb (hR : RH z 17 r) (hP : PR r) (h8 : r 546 < 12) : ∃ z', fX1_addMember 17 u v z = some z' ∧ RH z' 17 (membR r u v) ∧ ∀ a, a ≠ 26 → a ≠ 27 → z' a = z a := by
  have hn := hP.1
  unfold IHn at hn
  obtain ⟨h1, h2, h3, h4, h5, h6, h7⟩ := hR
  have n18 : z 26 3 = r 546 := h5.1
  obtain ⟨x, ex, x1, x2, x3⟩ := c_addRow (z := z) kT26 (by rw [n18]; exact ⟨by omega, h8⟩)
  rw [n18] at ex x1 x2
  have x2' : ∀ j, x 27 j = if r 546 * 6 ≤ j ∧ j < r 546 * 6 + 6 then 0 else z 27 j := x2
  have st : ∀ (y : ZZ) (c a : Int), y 26 3 = r 546 + 1 → 0 ≤ c ∧ c < 6 → fX4_set 26 (r 546) c a y = some (zup y 27 (r 546 * 6 + c) a) := fun y c a hy hc => set_ok kT26 (by rw [hy]; omega) (by rw [hy]; show r 546 + 1 ≤ 12; omega) (show 0 ≤ c ∧ c < 6 from hc)
  have t0 := st x 0 u x1 (by omega)
  have t1 := st (zup x 27 (r 546 * 6 + 0) u) 1 v (by rw [zup_ne (by decide)]; exact x1) (by omega)
  have t2 := st (zup (zup x 27 (r 546 * 6 + 0) u) 27 (r 546 * 6 + 1) v) 3 (-1) (by rw [zup_ne (by decide), zup_ne (by decide)]; exact x1) (by omega)
  have t3 := st (zup (zup (zup x 27 (r 546 * 6 + 0) u) 27 (r 546 * 6 + 1) v) 27 (r 546 * 6 + 3) (-1)) 4 (-1) (by rw [zup_ne (by decide), zup_ne (by decide), zup_ne (by decide)]; exact x1) (by omega)
  generalize hy : zup (zup (zup (zup x 27 (r 546 * 6 + 0) u) 27 (r 546 * 6 + 1) v) 27 (r 546 * 6 + 3) (-1)) 27 (r 546 * 6 + 4) (-1) = y at t3
  have yo : ∀ a, a ≠ 26 → a ≠ 27 → y a = z a := fun a p q => by rw [← hy, zup_ne q, zup_ne q, zup_ne q, zup_ne q, x3 a p q]
  have y18 : y 26 3 = r 546 + 1 := by rw [← hy, zup_ne (by decide), zup_ne (by decide), zup_ne (by decide), zup_ne (by decide), x1]
  have y19 : ∀ j, y 27 j = if j = r 546 * 6 + 4 then -1 else if j = r 546 * 6 + 3 then -1 else if j = r 546 * 6 + 1 then v else if j = r 546 * 6 + 0 then u else if r 546 * 6 ≤ j ∧ j < r 546 * 6 + 6 then 0 else z 27 j := fun j => by rw [← hy, zup_at, zup_at, zup_at, zup_at, x2']
  obtain ⟨n4, m0, m1, m2, m3, m4, m5⟩ := membR_n (r := r) (u := u) (v := v) (by omega)
  have eX : ∀ i, i < 546 ∨ 619 ≤ i → membR r u v i = r i := fun i hi => membR_o (by omega) (by omega)
  refine ⟨y, ?_, ⟨TL_k h1 (yo _ (by decide) (by decide)) (yo _ (by decide) (by decide)) (eX _ (by omega)) (fun j a c => eX _ (by omega)), TL_k h2 (yo _ (by decide) (by decide)) (yo _ (by decide) (by decide)) (eX _ (by omega)) (fun j a c => eX _ (by omega)), TL_k h3 (yo _ (by decide) (by decide)) (yo _ (by decide) (by decide)) (eX _ (by omega)) (fun j a c => eX _ (by omega)), TH_k h4 (yo _ (by decide) (by decide)) (yo _ (by decide) (by decide)) (eX _ (by omega)) (fun j a c => eX _ (by omega)), TL_add h5 (by rw [n18]; exact y18) n4 (fun j a c => ?_) (fun j a c => membR_o (by omega) (by omega)) (fun c a d => ?_), TL_k h6 (yo _ (by decide) (by decide)) (yo _ (by decide) (by decide)) (eX _ (by omega)) (fun j a c => eX _ (by omega)), ?_⟩, yo⟩
  · simp only [fX1_addMember, ex, Option.bind_some, t0, t1, t2, t3]
  · show y 27 j = z 27 j
    rw [y19, if_neg (by omega), if_neg (by omega), if_neg (by omega), if_neg (by omega), if_neg (by omega)]
  · show y 27 _ = _
    rw [y19]
    by_cases c4 : c = 4
    · subst c4; rw [if_pos (by omega), m4]
    · rw [if_neg (by omega)]
      by_cases c3 : c = 3
      · subst c3; rw [if_pos (by omega), m3]
      · rw [if_neg (by omega)]
        by_cases c1 : c = 1
        · subst c1; rw [if_pos (by omega), m1]
        · rw [if_neg (by omega)]
          by_cases c0 : c = 0
          · subst c0; rw [if_pos (by omega), m0]
          · rw [if_neg (by omega), if_pos (by omega)]
            by_cases c2 : c = 2
            · subst c2; rw [m2]
            · have c5 : c = 5 := by omega
              subst c5
              rw [m5]
  · rw [yo 17 (by decide) (by decide), eX 3 (by omega), eX 0 (by omega), eX 1 (by omega), eX 2 (by omega)]
    exact h7
theorem D_harn (hR : RH z 17 r) (hP : PR r) (h8 : r 470 < 15) : ∃ z', fX1_addHarness 17 u v z = some z' ∧ RH z' 17 (harnR r u v) ∧ ∀ a, a ≠ 24 → a ≠ 25 → z' a = z a := by
  have hn := hP.1
  unfold IHn at hn
  obtain ⟨h1, h2, h3, h4, h5, h6, h7⟩ := hR
  have n18 : z 24 3 = r 470 := h4.1
  obtain ⟨x, ex, x1, x2, x3⟩ := c_addRow (z := z) kT24 (by rw [n18]; exact ⟨by omega, h8⟩)
  rw [n18] at ex x1 x2
  have x2' : ∀ j, x 25 j = if r 470 * 4 ≤ j ∧ j < r 470 * 4 + 4 then 0 else z 25 j := x2
  have st : ∀ (y : ZZ) (c a : Int), y 24 3 = r 470 + 1 → 0 ≤ c ∧ c < 4 → fX4_set 24 (r 470) c a y = some (zup y 25 (r 470 * 4 + c) a) := fun y c a hy hc => set_ok kT24 (by rw [hy]; omega) (by rw [hy]; show r 470 + 1 ≤ 15; omega) (show 0 ≤ c ∧ c < 4 from hc)
  have t0 := st x 0 u x1 (by omega)
  have t1 := st (zup x 25 (r 470 * 4 + 0) u) 1 v (by rw [zup_ne (by decide)]; exact x1) (by omega)
  generalize hy : zup (zup x 25 (r 470 * 4 + 0) u) 25 (r 470 * 4 + 1) v = y at t1
  have yo : ∀ a, a ≠ 24 → a ≠ 25 → y a = z a := fun a p q => by rw [← hy, zup_ne q, zup_ne q, x3 a p q]
  have y18 : y 24 3 = r 470 + 1 := by rw [← hy, zup_ne (by decide), zup_ne (by decide), x1]
  have y19 : ∀ j, y 25 j = if j = r 470 * 4 + 1 then v else if j = r 470 * 4 + 0 then u else if r 470 * 4 ≤ j ∧ j < r 470 * 4 + 4 then 0 else z 25 j := fun j => by rw [← hy, zup_at, zup_at, x2']
  obtain ⟨n4, m0, m1, m2, m3, m4⟩ := harnR_n (r := r) (u := u) (v := v) (by omega)
  have eX : ∀ i, i < 470 ∨ 546 ≤ i → harnR r u v i = r i := fun i hi => harnR_o (by omega) (by omega)
  refine ⟨y, ?_, ⟨TL_k h1 (yo _ (by decide) (by decide)) (yo _ (by decide) (by decide)) (eX _ (by omega)) (fun j a c => eX _ (by omega)), TL_k h2 (yo _ (by decide) (by decide)) (yo _ (by decide) (by decide)) (eX _ (by omega)) (fun j a c => eX _ (by omega)), TL_k h3 (yo _ (by decide) (by decide)) (yo _ (by decide) (by decide)) (eX _ (by omega)) (fun j a c => eX _ (by omega)), ⟨by rw [n4]; exact y18, fun k c a d e f => ?_⟩, TL_k h5 (yo _ (by decide) (by decide)) (yo _ (by decide) (by decide)) (eX _ (by omega)) (fun j a c => eX _ (by omega)), TL_k h6 (yo _ (by decide) (by decide)) (yo _ (by decide) (by decide)) (eX _ (by omega)) (fun j a c => eX _ (by omega)), ?_⟩, yo⟩
  · simp only [fX1_addHarness, ex, Option.bind_some, t0, t1]
  · rw [n4] at d
    show y 25 _ = _
    rw [y19]
    by_cases ek : k = r 470
    · subst ek
      by_cases c1 : c = 1
      · subst c1; rw [if_pos rfl, m1]
      · rw [if_neg (by omega)]
        by_cases c0 : c = 0
        · subst c0; rw [if_pos rfl, m0]
        · rw [if_neg (by omega), if_pos (by omega)]
          by_cases c2 : c = 2
          · subst c2; rw [m2]
          · have c3 : c = 3 := by omega
            subst c3
            rw [m3]
    · rw [if_neg (by omega), if_neg (by omega), if_neg (by omega), harnR_o (by omega) (by omega)]
      exact h4.2 k c a (by omega) e f
  · rw [yo 17 (by decide) (by decide), eX 3 (by omega), eX 0 (by omega), eX 1 (by omega), eX 2 (by omega)]
    exact h7
end DR

/-! one place of the hall changed -/
theorem rup_ne {r : Row} {k v j : Int} (h : j ≠ k) : rup r k v j = r j := if_neg h
theorem TL_o {z : ZZ} {t d : Nat} {r : Row} {n b s p q v : Int} (h : TL z t r n b s) (hd : d ≠ t) (hd2 : d ≠ t + 1) (hn : n ≠ p) (hp : ∀ j, 0 ≤ j → j < s * r n → b + j ≠ p) : TL (zup z d q v) t (rup r p v) n b s := by
  refine ⟨?_, fun j a c => ?_⟩
  · rw [zup_ne (fun e => hd e.symm), rup_ne hn]; exact h.1
  · rw [rup_ne hn] at c
    rw [zup_ne (fun e => hd2 e.symm), rup_ne (hp j a c)]
    exact h.2 j a c
theorem TL_s {z : ZZ} {t : Nat} {r : Row} {n b s q v : Int} (h : TL z t r n b s) (hn : n ≠ b + q) : TL (zup z (t + 1) q v) t (rup r (b + q) v) n b s := by
  refine ⟨?_, fun j a c => ?_⟩
  · rw [zup_ne (by omega), rup_ne hn]; exact h.1
  · rw [rup_ne hn] at c
    rw [zup_at]
    by_cases e : j = q
    · rw [if_pos e, e, rup_at, if_pos rfl]
    · rw [if_neg e, rup_ne (by omega)]
      exact h.2 j a c
theorem TL_r {z : ZZ} {t : Nat} {r : Row} {n b s p v : Int} (h : TL z t r n b s) (hn : n ≠ p) (hp : ∀ j, 0 ≤ j → j < s * r n → b + j ≠ p) : TL z t (rup r p v) n b s := by
  refine ⟨?_, fun j a c => ?_⟩
  · rw [rup_ne hn]; exact h.1
  · rw [rup_ne hn] at c
    rw [rup_ne (hp j a c)]
    exact h.2 j a c
theorem TH_o {z : ZZ} {t d : Nat} {r : Row} {p q v : Int} (h : TH z t r) (hd : d ≠ t) (hd2 : d ≠ t + 1) (hn : 470 ≠ p) (hp : ∀ j, 0 ≤ j → j < 5 * r 470 → 471 + j ≠ p) : TH (zup z d q v) t (rup r p v) := by
  refine ⟨?_, fun k c a b e f => ?_⟩
  · rw [zup_ne (fun e => hd e.symm), rup_ne hn]; exact h.1
  · rw [rup_ne hn] at b
    rw [zup_ne (fun e => hd2 e.symm), rup_ne (by have := hp (5 * k + c) (by omega) (by omega); omega)]
    exact h.2 k c a b e f
theorem TH_s {z : ZZ} {t : Nat} {r : Row} {k c v : Int} (h : TH z t r) (hk : 0 ≤ k) (hc : 0 ≤ c ∧ c < 4) : TH (zup z (t + 1) (k * 4 + c) v) t (rup r (471 + 5 * k + c) v) := by
  refine ⟨?_, fun k' c' a b e f => ?_⟩
  · rw [zup_ne (by omega), rup_ne (by omega)]; exact h.1
  · rw [rup_ne (by omega)] at b
    rw [zup_at]
    by_cases q : k' * 4 + c' = k * 4 + c
    · rw [if_pos q, show 471 + 5 * k' + c' = 471 + 5 * k + c by omega, rup_at, if_pos rfl]
    · rw [if_neg q, rup_ne (by omega)]
      exact h.2 k' c' a b e f
section UP
variable {z : ZZ} {r : Row} {B : Int} {k c v : Int}
theorem RC_up4 (hR : RC z r) (hn : IHn B r) (hk : 0 ≤ k ∧ k < r 4) (hc : 0 ≤ c ∧ c < 4) : RC (zup z 5 (k * 4 + c) v) (rup r (5 + 4 * k + c) v) := by
  unfold IHn at hn
  obtain ⟨h1, h2, h3, h4, h5, h6, h7⟩ := hR
  refine ⟨?_, TL_o h2 (by decide) (by decide) (by omega) (fun j a b => by omega), TL_o h3 (by decide) (by decide) (by omega) (fun j a b => by omega), TH_o h4 (by decide) (by decide) (by omega) (fun j a b => by omega), TL_o h5 (by decide) (by decide) (by omega) (fun j a b => by omega), TL_o h6 (by decide) (by decide) (by omega) (fun j a b => by omega), ?_⟩
  · rw [show 5 + 4 * k + c = 5 + (k * 4 + c) by omega]
    exact TL_s h1 (by omega)
  · rw [zup_ne (by decide), rup_ne (by omega), rup_ne (by omega), rup_ne (by omega), rup_ne (by omega)]
    exact h7
theorem RC_up6 (hR : RC z r) (hn : IHn B r) (hk : 0 ≤ k ∧ k < r 37) (hc : 0 ≤ c ∧ c < 18) : RC (zup z 7 (k * 18 + c) v) (rup r (38 + 18 * k + c) v) := by
  unfold IHn at hn
  obtain ⟨h1, h2, h3, h4, h5, h6, h7⟩ := hR
  refine ⟨TL_o h1 (by decide) (by decide) (by omega) (fun j a b => by omega), ?_, TL_o h3 (by decide) (by decide) (by omega) (fun j a b => by omega), TH_o h4 (by decide) (by decide) (by omega) (fun j a b => by omega), TL_o h5 (by decide) (by decide) (by omega) (fun j a b => by omega), TL_o h6 (by decide) (by decide) (by omega) (fun j a b => by omega), ?_⟩
  · rw [show 38 + 18 * k + c = 38 + (k * 18 + c) by omega]
    exact TL_s h2 (by omega)
  · rw [zup_ne (by decide), rup_ne (by omega), rup_ne (by omega), rup_ne (by omega), rup_ne (by omega)]
    exact h7
theorem RC_up10 (hR : RC z r) (hn : IHn B r) (hk : 0 ≤ k ∧ k < r 470) (hc : 0 ≤ c ∧ c < 4) : RC (zup z 11 (k * 4 + c) v) (rup r (471 + 5 * k + c) v) := by
  unfold IHn at hn
  obtain ⟨h1, h2, h3, h4, h5, h6, h7⟩ := hR
  refine ⟨TL_o h1 (by decide) (by decide) (by omega) (fun j a b => by omega), TL_o h2 (by decide) (by decide) (by omega) (fun j a b => by omega), TL_o h3 (by decide) (by decide) (by omega) (fun j a b => by omega), TH_s h4 hk.1 hc, TL_o h5 (by decide) (by decide) (by omega) (fun j a b => by omega), TL_o h6 (by decide) (by decide) (by omega) (fun j a b => by omega), ?_⟩
  rw [zup_ne (by decide), rup_ne (by omega), rup_ne (by omega), rup_ne (by omega), rup_ne (by omega)]
  exact h7
theorem RC_up12 (hR : RC z r) (hn : IHn B r) (hk : 0 ≤ k ∧ k < r 546) (hc : 0 ≤ c ∧ c < 6) : RC (zup z 13 (k * 6 + c) v) (rup r (547 + 6 * k + c) v) := by
  unfold IHn at hn
  obtain ⟨h1, h2, h3, h4, h5, h6, h7⟩ := hR
  refine ⟨TL_o h1 (by decide) (by decide) (by omega) (fun j a b => by omega), TL_o h2 (by decide) (by decide) (by omega) (fun j a b => by omega), TL_o h3 (by decide) (by decide) (by omega) (fun j a b => by omega), TH_o h4 (by decide) (by decide) (by omega) (fun j a b => by omega), ?_, TL_o h6 (by decide) (by decide) (by omega) (fun j a b => by omega), ?_⟩
  · rw [show 547 + 6 * k + c = 547 + (k * 6 + c) by omega]
    exact TL_s h5 (by omega)
  · rw [zup_ne (by decide), rup_ne (by omega), rup_ne (by omega), rup_ne (by omega), rup_ne (by omega)]
    exact h7
/-- the model's mark that a harness is lent: the class has none -/
theorem RC_lent (hR : RC z r) (hn : IHn B r) (hk : 0 ≤ k ∧ k < r 470) : RC z (rup r (471 + 5 * k + 4) v) := by
  unfold IHn at hn
  obtain ⟨h1, h2, h3, h4, h5, h6, h7⟩ := hR
  refine ⟨TL_r h1 (by omega) (fun j a b => by omega), TL_r h2 (by omega) (fun j a b => by omega), TL_r h3 (by omega) (fun j a b => by omega), ⟨by rw [rup_ne (by omega)]; exact h4.1, fun k' c' a b e f => ?_⟩, TL_r h5 (by omega) (fun j a b => by omega), TL_r h6 (by omega) (fun j a b => by omega), ?_⟩
  · rw [rup_ne (by omega)] at b
    rw [rup_ne (by omega)]
    exact h4.2 k' c' a b e f
  · rw [rup_ne (by omega), rup_ne (by omega), rup_ne (by omega), rup_ne (by omega)]
    exact h7
end UP

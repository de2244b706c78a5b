theorem ita_map {A C : Type} {f : Int → A → A} {g : Int → C → C} (π : A → C) (h : ∀ i a, π (f i a) = g i (π a)) : ∀ (n : Nat) (lo : Int) (a : A), π (ita f n lo a) = ita g n lo (π a)
  | 0, _, _ => rfl
  | n + 1, lo, a => by
    show π (ita f n (lo + 1) (f lo a)) = ita g n (lo + 1) (g lo (π a))
    rw [ita_map π h n, h]
theorem some_sub0 {A : Type} (f : Int → A → A) (n : Int) (a : A) : ita f (n - 0).toNat 0 a = ita f n.toNat 0 a := by rw [Int.sub_zero]
abbrev sNum (r : Row) (d : Int) : Int := ((pcn (sSet (r 4) (fun w => ¬ sClosedOn r w d)).toNat : Nat) : Int)
def sWorst (r : Row) (n : Int) : Int := ita (fun i b => if sNum r (r 3 + i) < sNum r b then r 3 + i else b) (n - 1).toNat 1 (r 3)
abbrev sIn (r : Row) (c : Int) : Int := sSet (r 546) (fun m => r (547 + 6 * m + 4) = c)
abbrev sEnroll (r : Row) (m c : Int) : Prop := r (547 + 6 * m + 4) = -1 ∧ r (547 + 6 * m + 1) = r (620 + 3 * c + 0) - 1 ∧ r (620 + 3 * c + 2) ≤ r (547 + 6 * m + 2) ∧ ((pcn (sIn r c).toNat : Nat) : Int) < r (620 + 3 * c + 1)
abbrev sUse (r : Row) (s k : Int) : Prop := r (471 + 5 * k + 0) = s ∧ ¬ sRet r k
def sLongest (r : Row) (s : Int) : Int := ita (fun k b => if sUse r s k ∧ (b = -1 ∨ r (471 + 5 * b + 1) < r (471 + 5 * k + 1)) then k else b) (r 470).toNat 0 (-1)
def sNeed (r : Row) (l : Int) : Int := ita (fun k b => if r (620 + 3 * k + 0) = l ∧ (b = -1 ∨ r (620 + 3 * k + 2) < b) then r (620 + 3 * k + 2) else b) (r 619).toNat 0 (-1)
section RF
variable {z : ZZ} {r : Row} {B : Int} {k c d m w s l n : Int}
theorem sNum_ok (hI : IH B r) : 0 ≤ sSet (r 4) (fun w => ¬ sClosedOn r w d) ∧ sSet (r 4) (fun w => ¬ sClosedOn r w d) < 4096 := by
  have hn := hI.1
  unfold IHn at hn
  exact sSet_lt ⟨by omega, by omega⟩ _
theorem sNum_le (hI : IH B r) : 0 ≤ sNum r d ∧ sNum r d ≤ 12 := by
  have h := sNum_ok (d := d) hI
  have := pcn_le' (x := (sSet (r 4) (fun w => ¬ sClosedOn r w d)).toNat) (by omega)
  unfold sNum
  omega
theorem sWorst_le (hI : IH B r) (hn : 1 ≤ n) : r 3 ≤ sWorst r n ∧ sWorst r n < r 3 + n := by
  have := ita_P (f := fun i b => if sNum r (r 3 + i) < sNum r b then r 3 + i else b) (fun i b => r 3 ≤ b ∧ b < r 3 + i) (n - 1).toNat 1 (r 3) (by omega) (fun i a h1 h2 h => by
    (try dsimp only)
    split <;> omega)
  have e : (1 : Int) + ((n - 1).toNat : Nat) = n := by omega
  rw [e] at this
  exact this
theorem sIn_ok (hI : IH B r) : 0 ≤ sIn r c ∧ sIn r c < 4096 := by
  have hn := hI.1
  unfold IHn at hn
  exact sSet_lt ⟨by omega, by omega⟩ _
theorem c_mayEnroll (hR : RC z r) (hI : IH B r) (hm : 0 ≤ m ∧ m < r 546) (hc : 0 ≤ c ∧ c < r 619) : fX1_mayEnroll m c z = some (bI (sEnroll r m c)) := by
  have h1 := hI.2.2.2.2.2 c hc.1 hc.2
  have g : inR (r (620 + 3 * c + 0) - 1) := inR_s (by omega)
  unfold fX1_mayEnroll
  simp only [cg12 hR hI hm (c := 4) (by omega), cg12 hR hI hm (c := 1) (by omega), cg12 hR hI hm (c := 2) (by omega), cg14 hR hI hc (c := 0) (by omega), cg14 hR hI hc (c := 1) (by omega), cg14 hR hI hc (c := 2) (by omega), c_membersIn hR hI, c_bits (sIn_ok hI), Option.bind_some, if_pos g]
  by_cases q1 : r (547 + 6 * m + 4) = -1
  · rw [if_pos q1]
    by_cases q2 : r (547 + 6 * m + 1) = r (620 + 3 * c + 0) - 1
    · rw [if_pos q2]
      by_cases q3 : r (547 + 6 * m + 2) < r (620 + 3 * c + 2)
      · rw [if_pos q3, bI_f (fun q => by have := q.2.2.1; omega)]
      · rw [if_neg q3]
        by_cases q4 : ((pcn (sIn r c).toNat : Nat) : Int) < r (620 + 3 * c + 1)
        · rw [if_pos q4, bI_t ⟨q1, q2, by omega, q4⟩]
        · rw [if_neg q4, bI_f (fun q => q4 q.2.2.2)]
    · rw [if_neg q2, bI_f (fun q => q2 q.2.1)]
  · rw [if_neg q1, bI_f (fun q => q1 q.1)]
theorem sLongest_ok (hI : IH B r) : sLongest r s = -1 ∨ (0 ≤ sLongest r s ∧ sLongest r s < r 470 ∧ sUse r s (sLongest r s)) := by
  have hn := hI.1
  unfold IHn at hn
  have := ita_P (f := fun k b => if sUse r s k ∧ (b = -1 ∨ r (471 + 5 * b + 1) < r (471 + 5 * k + 1)) then k else b) (fun i b => b = -1 ∨ (0 ≤ b ∧ b < i ∧ sUse r s b)) (r 470).toNat 0 (-1) (Or.inl rfl) (fun i a h1 h2 h => by
    (try dsimp only)
    split
    · next q => exact Or.inr ⟨h1, by omega, q.1⟩
    · rcases h with h | h
      · exact Or.inl h
      · exact Or.inr ⟨h.1, by omega, h.2.2⟩)
  rw [show (0 : Int) + ((r 470).toNat : Nat) = r 470 by omega] at this
  exact this
theorem sNeed_ok (hI : IH B r) : -1 ≤ sNeed r l ∧ sNeed r l ≤ 200 := by
  have hn := hI.1
  unfold IHn at hn
  have := ita_P (f := fun k b => if r (620 + 3 * k + 0) = l ∧ (b = -1 ∨ r (620 + 3 * k + 2) < b) then r (620 + 3 * k + 2) else b) (fun i b => -1 ≤ b ∧ b ≤ 200) (r 619).toNat 0 (-1) (by omega) (fun i a h1 h2 h => by
    have hc := hI.2.2.2.2.2 i h1 (by omega)
    (try dsimp only)
    split <;> omega)
  exact this
end RF

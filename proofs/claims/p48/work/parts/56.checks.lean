def sLast (r : Row) (s : Int) : Int := ita (fun k m => if sUse r s k then max m (sLapse r k) else m) (r 470).toNat 0 0
def sChk (r : Row) (b n : Int) : Int × Int := ita (fun i (q : Int × Int) => if q.1 ≤ r 3 + i then (r 3 + i + r (471 + 5 * b + 1), q.2 + 1) else q) n.toNat 0 (sLast r (r (471 + 5 * b + 0)), 0)
abbrev Fra (A : Nat → Prop) (z z' : ZZ) : Prop := ∀ a, ¬ A a → z' a = z a
theorem zup_ne {z : ZZ} {a b : Nat} {k v : Int} (h : b ≠ a) : zup z a k v b = z b := by
  funext j
  simp only [zup]
  rw [if_neg (fun q => h q.1)]
theorem zup_at {z : ZZ} {a : Nat} {k v j : Int} : zup z a k v a j = if j = k then v else z a j := by
  simp only [zup, true_and]
section RH1
variable {z : ZZ} {r : Row} {B : Int} {k c d m w s l n b : Int}
theorem sLast_ok (hI : IH B r) : (∀ k, 0 ≤ k → k < r 470 → sUse r s k → sLapse r k ≤ sLast r s) ∧ (sLast r s = 0 ∨ ∃ k, 0 ≤ k ∧ k < r 470 ∧ sUse r s k ∧ sLapse r k = sLast r s) ∧ 0 ≤ sLast r s ∧ sLast r s ≤ 10400 := by
  have hn := hI.1
  unfold IHn at hn
  have := ita_P (f := fun k m => if sUse r s k then max m (sLapse r k) else m) (fun i m => (∀ k, 0 ≤ k → k < i → sUse r s k → sLapse r k ≤ m) ∧ (m = 0 ∨ ∃ k, 0 ≤ k ∧ k < i ∧ sUse r s k ∧ sLapse r k = m) ∧ 0 ≤ m ∧ m ≤ 10400) (r 470).toNat 0 0 ⟨fun k a b => by omega, Or.inl rfl, by omega, by omega⟩ (fun i a h1 h2 h => by
    have hx := hI.2.2.2.1 i h1 (by omega)
    obtain ⟨p1, p2, p3⟩ := h
    by_cases q : sUse r s i
    · have e : (if sUse r s i then max a (sLapse r i) else a) = max a (sLapse r i) := if_pos q
      show (∀ k, 0 ≤ k → k < i + 1 → sUse r s k → sLapse r k ≤ (if sUse r s i then max a (sLapse r i) else a)) ∧ ((if sUse r s i then max a (sLapse r i) else a) = 0 ∨ _) ∧ _
      rw [e]
      refine ⟨fun k b1 b2 b3 => ?_, ?_, ?_⟩
      · by_cases ek : k = i
        · rw [ek]; omega
        · have := p1 k b1 (by omega) b3; omega
      · by_cases hm : a ≤ sLapse r i
        · exact Or.inr ⟨i, h1, by omega, q, by omega⟩
        · rcases p2 with p2 | ⟨k, b1, b2, b3, b4⟩
          · omega
          · exact Or.inr ⟨k, b1, by omega, b3, by omega⟩
      · unfold sLapse; omega
    · have e : (if sUse r s i then max a (sLapse r i) else a) = a := if_neg q
      show (∀ k, 0 ≤ k → k < i + 1 → sUse r s k → sLapse r k ≤ (if sUse r s i then max a (sLapse r i) else a)) ∧ ((if sUse r s i then max a (sLapse r i) else a) = 0 ∨ _) ∧ _
      rw [e]
      refine ⟨fun k b1 b2 b3 => ?_, ?_, ?_⟩
      · by_cases ek : k = i
        · rw [ek] at b3; exact absurd b3 q
        · exact p1 k b1 (by omega) b3
      · rcases p2 with p2 | ⟨k, b1, b2, b3⟩
        · exact Or.inl p2
        · exact Or.inr ⟨k, b1, by omega, b3⟩
      · exact p3)
  rw [show (0 : Int) + ((r 470).toNat : Nat) = r 470 by omega] at this
  exact this
end RH1

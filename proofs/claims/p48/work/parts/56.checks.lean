def sLast (r : Row) (s : Int) : Int := ita (fun k m => if sUse r s k then max m (sLapse r k) else m) (r 470).toNat 0 0
def sChk (r : Row) (b n : Int) : Int × Int := ita (fun i (q : Int × Int) => if q.1 ≤ r 3 + i then (r 3 + i + r (471 + 5 * b + 1), q.2 + 1) else q) n.toNat 0 (sLast r (r (471 + 5 * b + 0)), 0)
abbrev Fra (A : Nat → Prop) (z z' : ZZ) : Prop := ∀ a, ¬ A a → z' a = z a
theorem zup_ne {z : ZZ} {a b : Nat} {k v : Int} (h : b ≠ a) : zup z a k v b = z b := by
  funext j
  simp only [zup]
  rw [if_neg (fun q => h q.1)]
theorem zup_at {z : ZZ} {a : Nat} {k v j : Int} : zup z a k v a j = if j = k then v else z a j := by
  simp only [zup, true_and]
section RH1
variable {z : ZZ} {r : Row} {B : Int} {k c d m w s l n b : Int}
theorem sLast_ok (hI : IH B r) : (∀ k, 0 ≤ k → k < r 470 → sUse r s k → sLapse r k ≤ sLast r s) ∧ (sLast r s = 0 ∨ ∃ k, 0 ≤ k ∧ k < r 470 ∧ sUse r s k ∧ sLapse r k = sLast r s) ∧ 0 ≤ sLast r s ∧ sLast r s ≤ 10400 := by
  have hn := hI.1
  unfold IHn at hn
  have := ita_P (f := fun k m => if sUse r s k then max m (sLapse r k) else m) (fun i m => (∀ k, 0 ≤ k → k < i → sUse r s k → sLapse r k ≤ m) ∧ (m = 0 ∨ ∃ k, 0 ≤ k ∧ k < i ∧ sUse r s k ∧ sLapse r k = m) ∧ 0 ≤ m ∧ m ≤ 10400) (r 470).toNat 0 0 ⟨fun k a b => by omega, Or.inl rfl, by omega, by omega⟩ (fun i a h1 h2 h => by
    have hx := hI.2.2.2.1 i h1 (by omega)
    obtain ⟨p1, p2, p3⟩ := h
    by_cases q : sUse r s i
    · have e : (if sUse r s i then max a (sLapse r i) else a) = max a (sLapse r i) := if_pos q
      show (∀ k, 0 ≤ k → k < i + 1 → sUse r s k → sLapse r k ≤ (if sUse r s i then max a (sLapse r i) else a)) ∧ ((if sUse r s i then max a (sLapse r i) else a) = 0 ∨ _) ∧ _
      rw [e]
      refine ⟨fun k b1 b2 b3 => ?_, ?_, ?_⟩
      · by_cases ek : k = i
        · rw [ek]; omega
        · have := p1 k b1 (by omega) b3; omega
      · by_cases hm : a ≤ sLapse r i
        · exact Or.inr ⟨i, h1, by omega, q, by omega⟩
        · rcases p2 with p2 | ⟨k, b1, b2, b3, b4⟩
          · omega
          · exact Or.inr ⟨k, b1, by omega, b3, by omega⟩
      · unfold sLapse; omega
    · have e : (if sUse r s i then max a (sLapse r i) else a) = a := if_neg q
      show (∀ k, 0 ≤ k → k < i + 1 → sUse r s k → sLapse r k ≤ (if sUse r s i then max a (sLapse r i) else a)) ∧ ((if sUse r s i then max a (sLapse r i) else a) = 0 ∨ _) ∧ _
      rw [e]
      refine ⟨fun k b1 b2 b3 => ?_, ?_, ?_⟩
      · by_cases ek : k = i
        · rw [ek] at b3; exact absurd b3 q
        · exact p1 k b1 (by omega) b3
      · rcases p2 with p2 | ⟨k, b1, b2, b3⟩
        · exact Or.inl p2
        · exact Or.inr ⟨k, b1, by omega, b3⟩
      · exact p3)
  rw [show (0 : Int) + ((r 470).toNat : Nat) = r 470 by omega] at this
  exact this
theorem c_last (hR : RC z r) (hI : IH B r) : fX1_lastLapse s z = some (sLast r s) := by
  have hn := hI.1
  unfold IHn at hn
  unfold fX1_lastLapse
  rw [(lp_forI (step := fun q => fX1_lastLapse_s4 s q.1 q.2 z) (fun i (a : Int) => (a, i)) (fun k m => if sUse r s k then max m (sLapse r k) else m) (fun a => a) (fun _ _ => True) 0 (r 470) 0 (by omega) (by omega) trivial ?_ ?_).1]
  · rw [some_sub0]
    rfl
  · intro i a h1 h2 _
    refine ⟨?_, trivial⟩
    have g : inR (i + 1) := inR_s (by omega)
    show fX1_lastLapse_s4 s a i z = _
    simp only [fX1_lastLapse_s4, fX1_lastLapse_b46, (RCn hR).2.2.2.1, if_pos h2, if_pos g, cg10 hR hI ⟨h1, h2⟩ (c := 0) (by omega), c_isRetired hR hI ⟨h1, h2⟩, c_lapseOf hR hI ⟨h1, h2⟩, Option.bind_some, ite_bI]
    by_cases q1 : r (471 + 5 * i + 0) = s
    · rw [if_pos q1]
      by_cases q2 : sRet r i
      · rw [if_pos q2, if_neg (show ¬ sUse r s i from fun q => q.2 q2)]
      · rw [if_neg q2, if_pos (show sUse r s i from ⟨q1, q2⟩)]
    · rw [if_neg q1, if_neg (show ¬ sUse r s i from fun q => q1 q.1)]
  · intro a _
    show fX1_lastLapse_s4 s a (r 470) z = _
    simp only [fX1_lastLapse_s4, (RCn hR).2.2.2.1, if_neg (Int.lt_irrefl (r 470))]
theorem c_checks (hR : RC z r) (hI : IH B r) (hb : 0 ≤ b ∧ b < r 470) (hd : 1 ≤ n ∧ n ≤ 365) : fX1_checksBy b n z = some (sChk r b n).2 := by
  have hn := hI.1
  unfold IHn at hn
  have hx := (hI.2.2.2.1 b hb.1 hb.2).1
  have hl := sLast_ok (s := r (471 + 5 * b + 0)) hI
  unfold fX1_checksBy
  simp only [cg10 hR hI hb (c := 0) (by omega), c_last hR hI, Option.bind_some]
  have key := (lp_forI (step := fun q => fX1_checksBy_s20 b n q.1 q.2.1 q.2.2 z) (fun i (q : Int × Int) => (q.1, q.2, i)) (fun i (q : Int × Int) => if q.1 ≤ r 3 + i then (r 3 + i + r (471 + 5 * b + 1), q.2 + 1) else q) (fun a => a.2) (fun i q => 0 ≤ q.2 ∧ q.2 ≤ i) 0 n (sLast r (r (471 + 5 * b + 0)), 0) (by omega) (by omega) ⟨Int.le_refl 0, Int.le_refl 0⟩ (fun i a h1 h2 h => by
    have g : inR (i + 1) := inR_s (by omega)
    have g2 : inR (r 3 + i) := inR_s (by omega)
    have g3 : inR (r 3 + i + r (471 + 5 * b + 1)) := inR_s (by omega)
    have g4 : inR (a.2 + 1) := inR_s (by omega)
    refine ⟨?_, ?_⟩
    · show fX1_checksBy_s20 b n a.1 a.2 i z = _
      simp only [fX1_checksBy_s20, fX1_checksBy_b58, (RCn hR).2.2.2.2.2.2.1, if_pos h2, if_pos g, if_pos g2, if_pos g3, if_pos g4, cg10 hR hI hb (c := 1) (by omega), Option.bind_some]
      by_cases q : r 3 + i < a.1
      · rw [if_pos q, if_neg (show ¬ a.1 ≤ r 3 + i by omega)]
      · rw [if_neg q, if_pos (show a.1 ≤ r 3 + i by omega)]
    · (try dsimp only)
      split
      · show 0 ≤ a.2 + 1 ∧ a.2 + 1 ≤ i + 1
        omega
      · omega) (fun a _ => by
    show fX1_checksBy_s20 b n a.1 a.2 n z = _
    simp only [fX1_checksBy_s20, if_neg (Int.lt_irrefl n)])).1
  rw [show zlp (fun q => fX1_checksBy_s20 b n q.1 q.2.1 q.2.2 z) FU (sLast r (r (471 + 5 * b + 0)), 0, 0) = _ from key, some_sub0]
  rfl
end RH1

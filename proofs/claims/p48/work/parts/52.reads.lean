theorem ite_bI {α : Type} {p : Prop} [Decidable p] {x y : α} : (if bI p = 0 then x else y) = if p then y else x := by
  by_cases h : p
  · rw [if_pos h, if_neg (by rw [bI_t h]; decide)]
  · rw [if_neg h, if_pos (bI_f h)]
abbrev sClosed (r : Row) (w : Int) : Prop := r (5 + 4 * w + 3) = r 3
abbrev sClosedOn (r : Row) (w d : Int) : Prop := 0 ≤ d - r (5 + 4 * w + 3) ∧ (d - r (5 + 4 * w + 3)) % r (5 + 4 * w + 2) = 0
abbrev sWorn (r : Row) (k : Int) : Prop := r 2 ≤ r (38 + 18 * k + 3)
abbrev sMay (r : Row) (m k : Int) : Prop := ¬ sClosed r (r (38 + 18 * k + 0)) ∧ r (5 + 4 * r (38 + 18 * k + 0) + 1) ≤ r (547 + 6 * m + 1) ∧ r (547 + 6 * m + 3) ≠ -1 ∧ sForce r (r (547 + 6 * m + 3)) (r 3) ∧ ¬ sWorn r k
/-- a set by folding -/
def sSet (n : Int) (p : Int → Prop) [∀ k, Decidable (p k)] : Int := ita (fun k s => if p k then zor s (zshl 1 k) else s) n.toNat 0 0
def sCnt (n : Int) (p : Int → Prop) [∀ k, Decidable (p k)] : Int := ita (fun k s => if p k then s + 1 else s) n.toNat 0 0
section RE
variable {z : ZZ} {r : Row} {B : Int} {k c d m w : Int}
theorem c_isClosed (hR : RC z r) (hI : IH B r) (hk : 0 ≤ w ∧ w < r 4) : fX1_isClosed w z = some (bI (sClosed r w)) := by
  unfold fX1_isClosed
  simp only [cg4 hR hI hk (c := 3) (by omega), Option.bind_some, (RCn hR).2.2.2.2.2.2.1, bI]
  split <;> rfl
theorem inR_set {p : Int → Prop} [∀ k, Decidable (p k)] (n : Nat) : inR (ita (fun k s => if p k then zor s (zshl 1 k) else s) n 0 0) := by
  have := ita_P (f := fun k s => if p k then zor s (zshl 1 k) else s) (fun _ s => inR s) n 0 0 (inR_c rfl) (fun i a _ _ h => by
    show inR (if p i then _ else _)
    split
    · exact inR_zor _ _
    · exact h)
  exact this
theorem c_isWorn (hR : RC z r) (hI : IH B r) (hk : 0 ≤ k ∧ k < r 37) : fX1_isWorn k z = some (bI (sWorn r k)) := by
  unfold fX1_isWorn
  simp only [cg6 hR hI hk (c := 3) (by omega), Option.bind_some, (RCn hR).2.2.2.2.2.2.2.2.2, bI]
  by_cases h : r (38 + 18 * k + 3) < r 2
  · rw [if_pos h, if_neg (by omega)]
  · rw [if_neg h, if_pos (by omega)]
theorem c_mayClimb (hR : RC z r) (hI : IH B r) (hm : 0 ≤ m ∧ m < r 546) (hk : 0 ≤ k ∧ k < r 37) : fX1_mayClimb m k z = some (bI (sMay r m k)) := by
  have hr := (hI.2.2.1 k hk.1 hk.2).1
  have hh := (hI.2.2.2.2.1 m hm.1 hm.2).2.2.1
  unfold fX1_mayClimb
  simp only [cg6 hR hI hk (c := 0) (by omega), c_harnessOf hR hI hm, c_isClosed hR hI hr, cg12 hR hI hm (c := 1) (by omega), cg4 hR hI hr (c := 1) (by omega), c_isWorn hR hI hk, (RCn hR).2.2.2.2.2.2.1, Option.bind_some, ite_bI]
  by_cases h1 : sClosed r (r (38 + 18 * k + 0))
  · rw [if_pos h1, bI_f (fun q => q.1 h1)]
  rw [if_neg h1]
  by_cases h2 : r (547 + 6 * m + 1) < r (5 + 4 * r (38 + 18 * k + 0) + 1)
  · rw [if_pos h2, bI_f (fun q => by have := q.2.1; omega)]
  rw [if_neg h2]
  by_cases h3 : r (547 + 6 * m + 3) = -1
  · rw [if_pos h3, bI_f (fun q => q.2.2.1 h3)]
  rw [if_neg h3, c_isInForce hR hI ⟨by omega, hh.2⟩]
  simp only [Option.bind_some, ite_bI]
  by_cases h4 : sForce r (r (547 + 6 * m + 3)) (r 3)
  · rw [if_pos h4]
    by_cases h5 : sWorn r k
    · rw [if_pos h5, bI_f (fun q => q.2.2.2.2 h5)]
    · rw [if_neg h5, bI_t ⟨h1, by omega, h3, h4, h5⟩]
  · rw [if_neg h4, bI_f (fun q => h4 q.2.2.2.1)]
theorem c_routesOn (hR : RC z r) (hI : IH B r) : fX1_routesOn w z = some (sCnt (r 37) (fun k => r (38 + 18 * k + 0) = w)) := by
  have hn := hI.1
  unfold IHn at hn
  unfold fX1_routesOn
  rw [(lp_forI (step := fun q => fX1_routesOn_s4 w q.1 q.2 z) (fun i (a : Int) => (a, i)) (fun k s => if r (38 + 18 * k + 0) = w then s + 1 else s) (fun a => a) (fun i a => 0 ≤ a ∧ a ≤ i) 0 (r 37) 0 (by omega) (by omega) (by omega) ?_ ?_).1]
  · show some (ita _ (r 37 - 0).toNat 0 0) = _
    rw [Int.sub_zero]
    rfl
  · intro i a h1 h2 ha
    have g : inR (i + 1) := inR_s (by omega)
    have g2 : inR (a + 1) := inR_s (by omega)
    refine ⟨?_, ?_⟩
    · show fX1_routesOn_s4 w a i z = _
      simp only [fX1_routesOn_s4, fX1_routesOn_b31, (RCn hR).2.1, if_pos h2, if_pos g, if_pos g2, cg6 hR hI ⟨h1, h2⟩ (c := 0) (by omega), Option.bind_some]
      split <;> rfl
    · split <;> omega
  · intro a _
    show fX1_routesOn_s4 w a (r 37) z = _
    simp only [fX1_routesOn_s4, (RCn hR).2.1, if_neg (Int.lt_irrefl (r 37))]
theorem c_votesFor (hR : RC z r) (hI : IH B r) (hk : 0 ≤ k ∧ k < r 37) : fX1_votesFor k z = some (sCnt (r 546) (fun m => r (38 + 18 * k + (6 + m)) ≠ -1)) := by
  have hn := hI.1
  unfold IHn at hn
  unfold fX1_votesFor
  rw [(lp_forI (step := fun q => fX1_votesFor_s4 k q.1 q.2 z) (fun i (a : Int) => (a, i)) (fun m s => if r (38 + 18 * k + (6 + m)) ≠ -1 then s + 1 else s) (fun a => a) (fun i a => 0 ≤ a ∧ a ≤ i) 0 (r 546) 0 (by omega) (by omega) (by omega) ?_ ?_).1]
  · show some (ita _ (r 546 - 0).toNat 0 0) = _
    rw [Int.sub_zero]
    rfl
  · intro i a h1 h2 ha
    have g : inR (i + 1) := inR_s (by omega)
    have g2 : inR (a + 1) := inR_s (by omega)
    have g3 : inR (6 + i) := inR_s (by omega)
    refine ⟨?_, ?_⟩
    · show fX1_votesFor_s4 k a i z = _
      simp only [fX1_votesFor_s4, fX1_votesFor_b34, (RCn hR).2.2.2.2.1, if_pos h2, if_pos g, if_pos g2, if_pos g3, cg6 hR hI hk (c := 6 + i) (by omega), Option.bind_some, ite_not, Ne]
      split <;> rfl
    · split <;> omega
  · intro a _
    show fX1_votesFor_s4 k a (r 546) z = _
    simp only [fX1_votesFor_s4, (RCn hR).2.2.2.2.1, if_neg (Int.lt_irrefl (r 546))]
theorem c_membersIn (hR : RC z r) (hI : IH B r) : fX1_membersIn c z = some (sSet (r 546) (fun m => r (547 + 6 * m + 4) = c)) := by
  have hn := hI.1
  unfold IHn at hn
  unfold fX1_membersIn
  rw [(lp_forI (step := fun q => fX1_membersIn_s4 c q.1 q.2 z) (fun i (a : Int) => (a, i)) (fun m s => if r (547 + 6 * m + 4) = c then zor s (zshl 1 m) else s) (fun a => a) (fun _ _ => True) 0 (r 546) 0 (by omega) (by omega) trivial ?_ ?_).1]
  · show some (ita _ (r 546 - 0).toNat 0 0) = _
    rw [Int.sub_zero]
    rfl
  · intro i a h1 h2 _
    refine ⟨?_, trivial⟩
    have g : inR (i + 1) := inR_s (by omega)
    show fX1_membersIn_s4 c a i z = _
    simp only [fX1_membersIn_s4, fX1_membersIn_b34, (RCn hR).2.2.2.2.1, if_pos h2, if_pos g, cg12 hR hI ⟨h1, h2⟩ (c := 4) (by omega), Option.bind_some]
    split <;> rfl
  · intro a _
    show fX1_membersIn_s4 c a (r 546) z = _
    simp only [fX1_membersIn_s4, (RCn hR).2.2.2.2.1, if_neg (Int.lt_irrefl (r 546))]
end RE

set_option maxRecDepth 20000
/-! the class's readings -/
section CR
variable {z : ZZ} {r : Row} {B k i : Int}
theorem x_row {t : Nat} {n : Int} (h : z t 3 = n) (hk : 0 ≤ k ∧ k < n) : fX5_needRow t k z = some (.inl 0) := by
  rw [n_row, if_pos (by rw [h]; exact hk)]
theorem x_btw {lo hi : Int} (h : lo ≤ i ∧ i ≤ hi) : fX5_needBetween i lo hi z = some (.inl 0) := by rw [n_btw, if_pos h]
theorem bI_in {p : Prop} [Decidable p] : (if bI p = 0 then some (.inl 0) else some (.inl 1) : Option (Int ⊕ Nat)) = some (.inl (bI p)) := by
  unfold bI
  by_cases h : p
  · rw [if_pos h, if_neg (by decide)]
  · rw [if_neg h, if_pos rfl]
def cntOf (r : Row) (k : Int) : Int := if k = 0 then r 4 else if k = 1 then r 37 else if k = 2 then r 470 else if k = 3 then r 546 else if k = 4 then r 619 else if k = 5 then r 644 else if k = 6 then r 3 else if k = 7 then r 0 else if k = 8 then r 1 else r 2
theorem x_count (hR : RC z r) (hk : 0 ≤ k ∧ k ≤ 9) : fX5_count k z = some (.inl (cntOf r k)) := by
  obtain ⟨h1, h2, h3, h4, h5, h6, h7, h8, h9, h10⟩ := hR
  unfold fX5_count cntOf
  rw [x_btw hk]
  simp only [Option.bind_some]
  rw [h1.1, h2.1, h3.1, h4.1, h5.1, h6.1, h7, h8, h9, h10]
  split
  · rfl
  split
  · rfl
  split
  · rfl
  split
  · rfl
  split
  · rfl
  split
  · rfl
  split
  · rfl
  split
  · rfl
  split
  · rfl
  rfl
def wallOf (r : Row) (k i : Int) : Int := if i = 4 then sCnt (r 37) (fun j => r (38 + 18 * j + 0) = k) else if i = 5 then bI (sClosed r k) else r (5 + 4 * k + i)
theorem x_wall (hR : RC z r) (hI : IH B r) (hk : 0 ≤ k ∧ k < r 4) (hi : 0 ≤ i ∧ i ≤ 5) : fX5_wall k i z = some (.inl (wallOf r k i)) := by
  unfold fX5_wall wallOf
  rw [x_row hR.1.1 hk]
  simp only [Option.bind_some]
  rw [x_btw hi]
  simp only [Option.bind_some]
  by_cases c4 : i = 4
  · rw [if_pos c4, if_pos c4, c_routesOn hR hI]; rfl
  · rw [if_neg c4, if_neg c4]
    by_cases c5 : i = 5
    · rw [if_pos c5, if_pos c5, c_isClosed hR hI hk]
      simp only [Option.bind_some]
      exact bI_in
    · rw [if_neg c5, if_neg c5, cg4 hR hI hk (by omega)]; rfl
def routeOf (r : Row) (k i : Int) : Int := if i = 5 then sVotes r k else if i = 6 then bI (sWorn r k) else r (38 + 18 * k + i)
theorem x_route (hR : RC z r) (hI : IH B r) (hk : 0 ≤ k ∧ k < r 37) (hi : 0 ≤ i ∧ i ≤ 6) : fX5_route k i z = some (.inl (routeOf r k i)) := by
  unfold fX5_route routeOf
  rw [x_row hR.2.1.1 hk]
  simp only [Option.bind_some]
  rw [x_btw hi]
  simp only [Option.bind_some]
  by_cases c4 : i = 5
  · rw [if_pos c4, if_pos c4, c_votesFor hR hI hk]; rfl
  · rw [if_neg c4, if_neg c4]
    by_cases c5 : i = 6
    · rw [if_pos c5, if_pos c5, c_isWorn hR hI hk]
      simp only [Option.bind_some]
      exact bI_in
    · rw [if_neg c5, if_neg c5, cg6 hR hI hk (by omega)]; rfl
def harnOf (r : Row) (k i : Int) : Int := if i = 3 then sLapse r k else if i = 4 then (if sRet r k then 2 else if sLent r k then 1 else 0) else if i = 5 then bI (sForce r k (r 3)) else r (471 + 5 * k + i)
theorem x_harn (hR : RC z r) (hI : IH B r) (hk : 0 ≤ k ∧ k < r 470) (hi : 0 ≤ i ∧ i ≤ 5) : fX5_harness k i z = some (.inl (harnOf r k i)) := by
  unfold fX5_harness harnOf
  rw [x_row hR.2.2.2.1.1 hk]
  simp only [Option.bind_some]
  rw [x_btw hi]
  simp only [Option.bind_some]
  by_cases c3 : i = 3
  · rw [if_pos c3, if_pos c3, c_lapseOf hR hI hk]; rfl
  · rw [if_neg c3, if_neg c3]
    by_cases c4 : i = 4
    · rw [if_pos c4, if_pos c4, c_stateOf hR hI hk]; rfl
    · rw [if_neg c4, if_neg c4]
      by_cases c5 : i = 5
      · rw [if_pos c5, if_pos c5, c_isInForce hR hI hk, hR.2.2.2.2.2.2.1]
        simp only [Option.bind_some]
        exact bI_in
      · rw [if_neg c5, if_neg c5, cg10 hR hI hk (by omega)]; rfl
theorem x_memb (hR : RC z r) (hI : IH B r) (hk : 0 ≤ k ∧ k < r 546) (hi : 0 ≤ i ∧ i ≤ 5) : fX5_member k i z = some (.inl (r (547 + 6 * k + i))) := by
  unfold fX5_member
  rw [x_row hR.2.2.2.2.1.1 hk]
  simp only [Option.bind_some]
  rw [x_btw hi]
  simp only [Option.bind_some]
  rw [cg12 hR hI hk (by omega)]; rfl
def courOf (r : Row) (k i : Int) : Int := if i = 3 then sSet (r 546) (fun m => r (547 + 6 * m + 4) = k) else r (620 + 3 * k + i)
theorem x_cour (hR : RC z r) (hI : IH B r) (hk : 0 ≤ k ∧ k < r 619) (hi : 0 ≤ i ∧ i ≤ 3) : fX5_course k i z = some (.inl (courOf r k i)) := by
  unfold fX5_course courOf
  rw [x_row hR.2.2.2.2.2.1.1 hk]
  simp only [Option.bind_some]
  rw [x_btw hi]
  simp only [Option.bind_some]
  by_cases c : i = 3
  · rw [if_pos c, if_pos c, c_membersIn hR hI]; rfl
  · rw [if_neg c, if_neg c, cg14 hR hI hk (by omega)]; rfl
theorem x_arch (hR : RC z r) (hI : IH B r) (hk : 0 ≤ k ∧ k < r 644) (hi : 0 ≤ i ∧ i ≤ 3) : fX5_archived k i z = some (.inl (r (645 + 4 * k + i))) := by
  unfold fX5_archived
  rw [x_row hR.2.2.1.1 hk]
  simp only [Option.bind_some]
  rw [x_btw hi]
  simp only [Option.bind_some]
  rw [cg8 hR hI hk (by omega)]; rfl
theorem x_grade (hR : RC z r) (hI : IH B r) (hk : 0 ≤ k ∧ k < r 37) : ∃ z', fX5_grade k z = some (.inl (sGr r k), z') ∧ Fra F12 z z' := by
  obtain ⟨z', e, f⟩ := c_gradeOf hR hI hk
  refine ⟨z', ?_, f⟩
  unfold fX5_grade
  rw [x_row hR.2.1.1 hk]
  simp only [Option.bind_some]
  rw [e]
  rfl
end CR

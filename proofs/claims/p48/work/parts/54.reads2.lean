theorem ita_map {A C : Type} {f : Int → A → A} {g : Int → C → C} (π : A → C) (h : ∀ i a, π (f i a) = g i (π a)) : ∀ (n : Nat) (lo : Int) (a : A), π (ita f n lo a) = ita g n lo (π a)
  | 0, _, _ => rfl
  | n + 1, lo, a => by
    show π (ita f n (lo + 1) (f lo a)) = ita g n (lo + 1) (g lo (π a))
    rw [ita_map π h n, h]
theorem some_sub0 {A : Type} (f : Int → A → A) (n : Int) (a : A) : ita f (n - 0).toNat 0 a = ita f n.toNat 0 a := by rw [Int.sub_zero]
abbrev sNum (r : Row) (d : Int) : Int := ((pcn (sSet (r 4) (fun w => ¬ sClosedOn r w d)).toNat : Nat) : Int)
def sWorst (r : Row) (n : Int) : Int := ita (fun i b => if sNum r (r 3 + i) < sNum r b then r 3 + i else b) (n - 1).toNat 1 (r 3)
abbrev sIn (r : Row) (c : Int) : Int := sSet (r 546) (fun m => r (547 + 6 * m + 4) = c)
abbrev sEnroll (r : Row) (m c : Int) : Prop := r (547 + 6 * m + 4) = -1 ∧ r (547 + 6 * m + 1) = r (620 + 3 * c + 0) - 1 ∧ r (620 + 3 * c + 2) ≤ r (547 + 6 * m + 2) ∧ ((pcn (sIn r c).toNat : Nat) : Int) < r (620 + 3 * c + 1)
abbrev sUse (r : Row) (s k : Int) : Prop := r (471 + 5 * k + 0) = s ∧ ¬ sRet r k
def sLongest (r : Row) (s : Int) : Int := ita (fun k b => if sUse r s k ∧ (b = -1 ∨ r (471 + 5 * b + 1) < r (471 + 5 * k + 1)) then k else b) (r 470).toNat 0 (-1)
def sNeed (r : Row) (l : Int) : Int := ita (fun k b => if r (620 + 3 * k + 0) = l ∧ (b = -1 ∨ r (620 + 3 * k + 2) < b) then r (620 + 3 * k + 2) else b) (r 619).toNat 0 (-1)
section RF
variable {z : ZZ} {r : Row} {B : Int} {k c d m w s l n : Int}
theorem sNum_ok (hI : IH B r) : 0 ≤ sSet (r 4) (fun w => ¬ sClosedOn r w d) ∧ sSet (r 4) (fun w => ¬ sClosedOn r w d) < 4096 := by
  have hn := hI.1
  unfold IHn at hn
  exact sSet_lt ⟨by omega, by omega⟩ _
theorem sNum_le (hI : IH B r) : 0 ≤ sNum r d ∧ sNum r d ≤ 12 := by
  have h := sNum_ok (d := d) hI
  have := pcn_le' (x := (sSet (r 4) (fun w => ¬ sClosedOn r w d)).toNat) (by omega)
  unfold sNum
  omega
theorem sWorst_le (hI : IH B r) (hn : 1 ≤ n) : r 3 ≤ sWorst r n ∧ sWorst r n < r 3 + n := by
  have := ita_P (f := fun i b => if sNum r (r 3 + i) < sNum r b then r 3 + i else b) (fun i b => r 3 ≤ b ∧ b < r 3 + i) (n - 1).toNat 1 (r 3) (by omega) (fun i a h1 h2 h => by
    (try dsimp only)
    split <;> omega)
  have e : (1 : Int) + ((n - 1).toNat : Nat) = n := by omega
  rw [e] at this
  exact this
theorem c_worst (hR : RC z r) (hI : IH B r) (hd : 1 ≤ n ∧ n ≤ 365) : fX1_dayWithFewestOpen n z = some (sWorst r n) := by
  have hn := hI.1
  unfold IHn at hn
  unfold fX1_dayWithFewestOpen
  simp only [(RCn hR).2.2.2.2.2.2.1, c_openOn hR hI (d := r 3) (by omega), c_bits (sNum_ok hI), Option.bind_some]
  rw [(lp_forI (step := fun q => fX1_dayWithFewestOpen_s20 n q.1 q.2.1 q.2.2 z) (fun i (b : Int) => (b, sNum r b, i)) (fun i b => if sNum r (r 3 + i) < sNum r b then r 3 + i else b) (fun a => a) (fun _ _ => True) 1 n (r 3) (by omega) (by omega) trivial ?_ ?_).1]
  · rfl
  · intro i a h1 h2 _
    refine ⟨?_, trivial⟩
    have g : inR (i + 1) := inR_s (by omega)
    have g2 : inR (r 3 + i) := inR_s (by omega)
    show fX1_dayWithFewestOpen_s20 n a (sNum r a) i z = _
    simp only [fX1_dayWithFewestOpen_s20, fX1_dayWithFewestOpen_b59, (RCn hR).2.2.2.2.2.2.1, if_pos h2, if_pos g, if_pos g2, c_openOn hR hI (d := r 3 + i) (by omega), c_bits (sNum_ok hI), Option.bind_some]
    split <;> rfl
  · intro a _
    show fX1_dayWithFewestOpen_s20 n a (sNum r a) n z = _
    simp only [fX1_dayWithFewestOpen_s20, if_neg (Int.lt_irrefl n)]
theorem sIn_ok (hI : IH B r) : 0 ≤ sIn r c ∧ sIn r c < 4096 := by
  have hn := hI.1
  unfold IHn at hn
  exact sSet_lt ⟨by omega, by omega⟩ _
theorem c_mayEnroll (hR : RC z r) (hI : IH B r) (hm : 0 ≤ m ∧ m < r 546) (hc : 0 ≤ c ∧ c < r 619) : fX1_mayEnroll m c z = some (bI (sEnroll r m c)) := by
  have h1 := hI.2.2.2.2.2 c hc.1 hc.2
  have g : inR (r (620 + 3 * c + 0) - 1) := inR_s (by omega)
  unfold fX1_mayEnroll
  simp only [cg12 hR hI hm (c := 4) (by omega), cg12 hR hI hm (c := 1) (by omega), cg12 hR hI hm (c := 2) (by omega), cg14 hR hI hc (c := 0) (by omega), cg14 hR hI hc (c := 1) (by omega), cg14 hR hI hc (c := 2) (by omega), c_membersIn hR hI, c_bits (sIn_ok hI), Option.bind_some, if_pos g]
  by_cases q1 : r (547 + 6 * m + 4) = -1
  · rw [if_pos q1]
    by_cases q2 : r (547 + 6 * m + 1) = r (620 + 3 * c + 0) - 1
    · rw [if_pos q2]
      by_cases q3 : r (547 + 6 * m + 2) < r (620 + 3 * c + 2)
      · rw [if_pos q3, bI_f (fun q => by have := q.2.2.1; omega)]
      · rw [if_neg q3]
        by_cases q4 : ((pcn (sIn r c).toNat : Nat) : Int) < r (620 + 3 * c + 1)
        · rw [if_pos q4, bI_t ⟨q1, q2, by omega, q4⟩]
        · rw [if_neg q4, bI_f (fun q => q4 q.2.2.2)]
    · rw [if_neg q2, bI_f (fun q => q2 q.2.1)]
  · rw [if_neg q1, bI_f (fun q => q1 q.1)]
theorem c_lendableOf (hR : RC z r) (hI : IH B r) : fX1_lendableOf s z = some (sSet (r 470) (fun k => r (471 + 5 * k + 0) = s ∧ sLendable r k)) := by
  have hn := hI.1
  unfold IHn at hn
  unfold fX1_lendableOf
  rw [(lp_forI (step := fun q => fX1_lendableOf_s4 s q.1 q.2 z) (fun i (a : Int) => (a, i)) (fun k t => if r (471 + 5 * k + 0) = s ∧ sLendable r k then zor t (zshl 1 k) else t) (fun a => a) (fun _ _ => True) 0 (r 470) 0 (by omega) (by omega) trivial ?_ ?_).1]
  · show some (ita _ (r 470 - 0).toNat 0 0) = _
    rw [Int.sub_zero]
    rfl
  · intro i a h1 h2 _
    refine ⟨?_, trivial⟩
    have g : inR (i + 1) := inR_s (by omega)
    show fX1_lendableOf_s4 s a i z = _
    simp only [fX1_lendableOf_s4, fX1_lendableOf_b42, (RCn hR).2.2.2.1, if_pos h2, if_pos g, cg10 hR hI ⟨h1, h2⟩ (c := 0) (by omega), c_isLendable hR hI ⟨h1, h2⟩, Option.bind_some, ite_bI]
    by_cases q1 : r (471 + 5 * i + 0) = s
    · rw [if_pos q1]
      by_cases q2 : sLendable r i
      · rw [if_pos q2, if_pos ⟨q1, q2⟩]
      · rw [if_neg q2, if_neg (fun q => q2 q.2)]
    · rw [if_neg q1, if_neg (fun q => q1 q.1)]
  · intro a _
    show fX1_lendableOf_s4 s a (r 470) z = _
    simp only [fX1_lendableOf_s4, (RCn hR).2.2.2.1, if_neg (Int.lt_irrefl (r 470))]
theorem c_lapsedOn (hR : RC z r) (hI : IH B r) : fX1_lapsedOn d z = some (sSet (r 470) (fun k => ¬ sRet r k ∧ ¬ sForce r k d)) := by
  have hn := hI.1
  unfold IHn at hn
  unfold fX1_lapsedOn
  rw [(lp_forI (step := fun q => fX1_lapsedOn_s4 d q.1 q.2 z) (fun i (a : Int) => (a, i)) (fun k t => if ¬ sRet r k ∧ ¬ sForce r k d then zor t (zshl 1 k) else t) (fun a => a) (fun _ _ => True) 0 (r 470) 0 (by omega) (by omega) trivial ?_ ?_).1]
  · show some (ita _ (r 470 - 0).toNat 0 0) = _
    rw [Int.sub_zero]
    rfl
  · intro i a h1 h2 _
    refine ⟨?_, trivial⟩
    have g : inR (i + 1) := inR_s (by omega)
    show fX1_lapsedOn_s4 d a i z = _
    simp only [fX1_lapsedOn_s4, fX1_lapsedOn_b38, (RCn hR).2.2.2.1, if_pos h2, if_pos g, c_isRetired hR hI ⟨h1, h2⟩, c_isInForce hR hI ⟨h1, h2⟩, Option.bind_some, ite_bI]
    by_cases q1 : sRet r i
    · rw [if_pos q1, if_neg (fun q => q.1 q1)]
    · rw [if_neg q1]
      by_cases q2 : sForce r i d
      · rw [if_pos q2, if_neg (fun q => q.2 q2)]
      · rw [if_neg q2, if_pos ⟨q1, q2⟩]
  · intro a _
    show fX1_lapsedOn_s4 d a (r 470) z = _
    simp only [fX1_lapsedOn_s4, (RCn hR).2.2.2.1, if_neg (Int.lt_irrefl (r 470))]
theorem c_longest (hR : RC z r) (hI : IH B r) : fX1_longestValid s z = some (sLongest r s) := by
  have hn := hI.1
  unfold IHn at hn
  unfold fX1_longestValid
  have key : zlp (fun q => fX1_longestValid_s7 s q.1 q.2.1 q.2.2 z) FU (-1, 0, 0) = some (sLongest r s) := by
   refine Eq.trans (lp_forI (step := fun q => fX1_longestValid_s7 s q.1 q.2.1 q.2.2 z) (fun i (b : Int) => (b, (if b = -1 then 0 else r (471 + 5 * b + 1)), i)) (fun k b => if sUse r s k ∧ (b = -1 ∨ r (471 + 5 * b + 1) < r (471 + 5 * k + 1)) then k else b) (fun a => a) (fun i b => -1 ≤ b ∧ b < i) 0 (r 470) (-1) (by omega) (by omega) (by omega) ?_ ?_).1 (by rw [some_sub0]; rfl)
   · intro i a h1 h2 ha
     have hv := (hI.2.2.2.1 i h1 h2).1
     have g : inR (i + 1) := inR_s (by omega)
     refine ⟨?_, ?_⟩
     · show fX1_longestValid_s7 s a (if a = -1 then 0 else r (471 + 5 * a + 1)) i z = _
       simp only [fX1_longestValid_s7, fX1_longestValid_b66, (RCn hR).2.2.2.1, if_pos h2, if_pos g, cg10 hR hI ⟨h1, h2⟩ (c := 0) (by omega), cg10 hR hI ⟨h1, h2⟩ (c := 1) (by omega), c_isRetired hR hI ⟨h1, h2⟩, Option.bind_some, ite_bI]
       by_cases q1 : r (471 + 5 * i + 0) = s
       · rw [if_pos q1]
         by_cases q2 : sRet r i
         · rw [if_pos q2, if_neg (show ¬ (sUse r s i ∧ (a = -1 ∨ r (471 + 5 * a + 1) < r (471 + 5 * i + 1))) from fun q => q.1.2 q2)]
         · rw [if_neg q2]
           by_cases q3 : a = -1 ∨ r (471 + 5 * a + 1) < r (471 + 5 * i + 1)
           · rw [if_pos (show (sUse r s i ∧ (a = -1 ∨ r (471 + 5 * a + 1) < r (471 + 5 * i + 1))) from ⟨⟨q1, q2⟩, q3⟩), if_pos (show (if a = -1 then 0 else r (471 + 5 * a + 1)) < r (471 + 5 * i + 1) from by split <;> omega), if_neg (show ¬ i = -1 by omega)]
           · rw [if_neg (show ¬ (sUse r s i ∧ (a = -1 ∨ r (471 + 5 * a + 1) < r (471 + 5 * i + 1))) from fun q => q3 q.2), if_neg (by rw [if_neg (fun q => q3 (Or.inl q))]; exact fun q => q3 (Or.inr q))]
       · rw [if_neg q1, if_neg (show ¬ (sUse r s i ∧ (a = -1 ∨ r (471 + 5 * a + 1) < r (471 + 5 * i + 1))) from fun q => q1 q.1.1)]
     · split <;> omega
   · intro a _
     show fX1_longestValid_s7 s a (if a = -1 then 0 else r (471 + 5 * a + 1)) (r 470) z = _
     simp only [fX1_longestValid_s7, (RCn hR).2.2.2.1, if_neg (Int.lt_irrefl (r 470))]
  rw [key]
  rfl
theorem sLongest_ok (hI : IH B r) : sLongest r s = -1 ∨ (0 ≤ sLongest r s ∧ sLongest r s < r 470 ∧ sUse r s (sLongest r s)) := by
  have hn := hI.1
  unfold IHn at hn
  have := ita_P (f := fun k b => if sUse r s k ∧ (b = -1 ∨ r (471 + 5 * b + 1) < r (471 + 5 * k + 1)) then k else b) (fun i b => b = -1 ∨ (0 ≤ b ∧ b < i ∧ sUse r s b)) (r 470).toNat 0 (-1) (Or.inl rfl) (fun i a h1 h2 h => by
    (try dsimp only)
    split
    · next q => exact Or.inr ⟨h1, by omega, q.1⟩
    · rcases h with h | h
      · exact Or.inl h
      · exact Or.inr ⟨h.1, by omega, h.2.2⟩)
  rw [show (0 : Int) + ((r 470).toNat : Nat) = r 470 by omega] at this
  exact this
theorem c_need (hR : RC z r) (hI : IH B r) : fX1_leastClimbs l z = some (sNeed r l) := by
  have hn := hI.1
  unfold IHn at hn
  unfold fX1_leastClimbs
  rw [(lp_forI (step := fun q => fX1_leastClimbs_s4 l q.1 q.2 z) (fun i (b : Int) => (b, i)) (fun k b => if r (620 + 3 * k + 0) = l ∧ (b = -1 ∨ r (620 + 3 * k + 2) < b) then r (620 + 3 * k + 2) else b) (fun a => a) (fun _ _ => True) 0 (r 619) (-1) (by omega) (by omega) trivial ?_ ?_).1]
  · rw [some_sub0]
    rfl
  · intro i a h1 h2 _
    refine ⟨?_, trivial⟩
    have g : inR (i + 1) := inR_s (by omega)
    show fX1_leastClimbs_s4 l a i z = _
    simp only [fX1_leastClimbs_s4, fX1_leastClimbs_b53, fX1_leastClimbs_b50, (RCn hR).2.2.2.2.2.1, if_pos h2, if_pos g, cg14 hR hI ⟨h1, h2⟩ (c := 0) (by omega), cg14 hR hI ⟨h1, h2⟩ (c := 2) (by omega), Option.bind_some]
    by_cases q1 : r (620 + 3 * i + 0) = l
    · rw [if_pos q1]
      by_cases q2 : a = -1
      · rw [if_pos q2, if_pos ⟨q1, Or.inl q2⟩]
      · rw [if_neg q2]
        by_cases q3 : r (620 + 3 * i + 2) < a
        · rw [if_pos q3, if_pos ⟨q1, Or.inr q3⟩]
        · rw [if_neg q3, if_neg (fun q => q.2.elim q2 q3)]
    · rw [if_neg q1, if_neg (fun q => q1 q.1)]
  · intro a _
    show fX1_leastClimbs_s4 l a (r 619) z = _
    simp only [fX1_leastClimbs_s4, (RCn hR).2.2.2.2.2.1, if_neg (Int.lt_irrefl (r 619))]
theorem sNeed_ok (hI : IH B r) : -1 ≤ sNeed r l ∧ sNeed r l ≤ 200 := by
  have hn := hI.1
  unfold IHn at hn
  have := ita_P (f := fun k b => if r (620 + 3 * k + 0) = l ∧ (b = -1 ∨ r (620 + 3 * k + 2) < b) then r (620 + 3 * k + 2) else b) (fun i b => -1 ≤ b ∧ b ≤ 200) (r 619).toNat 0 (-1) (by omega) (fun i a h1 h2 h => by
    have hc := hI.2.2.2.2.2 i h1 (by omega)
    (try dsimp only)
    split <;> omega)
  exact this
end RF

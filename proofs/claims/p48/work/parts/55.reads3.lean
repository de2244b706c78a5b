/-- a loop with a fold that stops at the first place with Q -/
theorem lp_scan {S R A : Type} {step : S → Option (S ⊕ R)} (e : Int → A → S) (f : Int → A → A) (Q : Int → Prop) (x : Int → A → R) (out : A → R) (P : Int → A → Prop) (hi : Int) : ∀ (n : Nat) (lo : Int) (a : A) (fuel : Nat), n < fuel → lo + n = hi → P lo a →
    (∀ i a, lo ≤ i → i < hi → P i a → ¬ Q i → step (e i a) = some (.inl (e (i + 1) (f i a))) ∧ P (i + 1) (f i a)) → (∀ i a, lo ≤ i → i < hi → P i a → Q i → step (e i a) = some (.inr (x i a))) → (∀ a, P hi a → step (e hi a) = some (.inr (out a))) →
    (∃ i b, lo ≤ i ∧ i < hi ∧ Q i ∧ (∀ j, lo ≤ j → j < i → ¬ Q j) ∧ P i b ∧ zlp step fuel (e lo a) = some (x i b)) ∨ ((∀ i, lo ≤ i → i < hi → ¬ Q i) ∧ P hi (ita f n lo a) ∧ zlp step fuel (e lo a) = some (out (ita f n lo a)))
  | 0, lo, a, fuel, hf, hh, hP, _, _, h3 => by
    obtain ⟨m, rfl⟩ : ∃ m, fuel = m + 1 := ⟨fuel - 1, by omega⟩
    have e0 : lo = hi := by omega
    subst e0
    exact Or.inr ⟨fun i a b => by omega, hP, zlp_end (h3 a hP)⟩
  | n + 1, lo, a, fuel, hf, hh, hP, h1, h2, h3 => by
    obtain ⟨m, rfl⟩ : ∃ m, fuel = m + 1 := ⟨fuel - 1, by omega⟩
    by_cases hq : Q lo
    · exact Or.inl ⟨lo, a, Int.le_refl _, by omega, hq, fun j a b => by omega, hP, zlp_end (h2 lo a (Int.le_refl _) (by omega) hP hq)⟩
    · have h0 := h1 lo a (Int.le_refl _) (by omega) hP hq
      rw [zlp_next h0.1]
      rcases lp_scan e f Q x out P hi n (lo + 1) (f lo a) m (by omega) (by omega) h0.2 (fun i a b => h1 i a (by omega)) (fun i a b => h2 i a (by omega)) h3 with ⟨i, b, a1, a2, a3, a4, a5, a6⟩ | ⟨a1, a2, a3⟩
      · refine Or.inl ⟨i, b, by omega, a2, a3, fun j b1 b2 => ?_, a5, a6⟩
        by_cases ej : j = lo
        · rw [ej]; exact hq
        · exact a4 j (by omega) b2
      · refine Or.inr ⟨fun j b1 b2 => ?_, a2, a3⟩
        by_cases ej : j = lo
        · rw [ej]; exact hq
        · exact a1 j (by omega) b2
def dF (v : Int → Int) (i : Int) (q : Int × Int) : Int × Int := if v i = -1 then q else (min q.1 (v i), max q.2 (v i))
theorem sCnt_0 (p : Int → Prop) [∀ k, Decidable (p k)] : sCnt ((0 : Nat) : Int) p = 0 := rfl
theorem sCnt_succ (n : Nat) (p : Int → Prop) [∀ k, Decidable (p k)] : sCnt ((n + 1 : Nat) : Int) p = if p n then sCnt n p + 1 else sCnt n p := by
  unfold sCnt
  rw [Int.toNat_natCast, Int.toNat_natCast, ita_succ, Int.zero_add]
theorem disp_eq {v : Int → Int} : ∀ n : Nat, (∀ m : Int, 0 ≤ m → m < (n : Int) → -1 ≤ v m ∧ v m ≤ 29) →
    (sCnt (n : Int) (fun m => v m ≠ -1) = 0 ∧ ita (dF v) n 0 (29, 0) = (29, 0) ∧ ita (dF v) n 0 (30, -1) = (30, -1)) ∨
    (0 < sCnt (n : Int) (fun m => v m ≠ -1) ∧ ita (dF v) n 0 (29, 0) = ita (dF v) n 0 (30, -1) ∧ 0 ≤ (ita (dF v) n 0 (29, 0)).1 ∧ (ita (dF v) n 0 (29, 0)).1 ≤ 29 ∧ 0 ≤ (ita (dF v) n 0 (29, 0)).2 ∧ (ita (dF v) n 0 (29, 0)).2 ≤ 29)
  | 0, _ => Or.inl ⟨rfl, rfl, rfl⟩
  | n + 1, h => by
    have ih := disp_eq (v := v) n (fun m a b => h m a (by omega))
    have hn := h n (by omega) (by omega)
    rw [sCnt_succ, ita_succ, ita_succ, Int.zero_add]
    by_cases q : v n = -1
    · have e1 : ∀ s, dF v n s = s := fun s => if_pos q
      rw [e1, e1, if_neg (fun w => w q)]
      exact ih
    · have e1 : ∀ s, dF v n s = (min s.1 (v n), max s.2 (v n)) := fun s => if_neg q
      rw [e1, e1, if_pos q]
      right
      rcases ih with ⟨i1, i2, i3⟩ | ⟨i1, i2, i3⟩
      · rw [i1, i2, i3]
        refine ⟨by decide, ?_, ?_⟩
        · show (min 29 (v n), max 0 (v n)) = (min 30 (v n), max (-1) (v n))
          rw [show min 29 (v n) = min 30 (v n) by omega, show max 0 (v n) = max (-1) (v n) by omega]
        · show 0 ≤ min 29 (v n) ∧ min 29 (v n) ≤ 29 ∧ 0 ≤ max 0 (v n) ∧ max 0 (v n) ≤ 29
          omega
      · refine ⟨by omega, by rw [i2], ?_⟩
        show 0 ≤ min (ita (dF v) n 0 (29, 0)).1 (v n) ∧ min (ita (dF v) n 0 (29, 0)).1 (v n) ≤ 29 ∧ 0 ≤ max (ita (dF v) n 0 (29, 0)).2 (v n) ∧ max (ita (dF v) n 0 (29, 0)).2 (v n) ≤ 29
        omega
abbrev sVote (r : Row) (k m : Int) : Int := r (38 + 18 * k + (6 + m))
abbrev sVotes (r : Row) (k : Int) : Int := sCnt (r 546) (fun m => r (38 + 18 * k + (6 + m)) ≠ -1)
def sDisp (r : Row) (k : Int) : Int := if sVotes r k < 2 then -1 else (ita (dF (sVote r k)) (r 546).toNat 0 (29, 0)).2 - (ita (dF (sVote r k)) (r 546).toNat 0 (29, 0)).1
def sMost (r : Row) : Int × Int := ita (fun k q => if q.2 < sDisp r k then (k, sDisp r k) else q) (r 37).toNat 0 (-1, -1)
abbrev sAno (r : Row) (w d : Int) : Prop := ∃ o, 0 ≤ o ∧ o < r 4 ∧ o ≠ w ∧ sClosedOn r o d
section RG
variable {z : ZZ} {r : Row} {B : Int} {k c d m w s l n : Int}
theorem c_disp (hR : RC z r) (hI : IH B r) (hk : 0 ≤ k ∧ k < r 37) : fX1_disputeOf k z = some (sDisp r k) := by
  have hn := hI.1
  unfold IHn at hn
  have hv := (hI.2.2.1 k hk.1 hk.2).2.2.2.2.2
  unfold fX1_disputeOf
  have key := (lp_forI (step := fun q => fX1_disputeOf_s8 k q.1 q.2.1 q.2.2 z) (fun i (q : Int × Int) => (q.1, q.2, i)) (dF (sVote r k)) (fun a => a) (fun _ _ => True) 0 (r 546) (29, 0) (by omega) (by omega) trivial (fun i a h1 h2 _ => by
    refine ⟨?_, trivial⟩
    have g : inR (i + 1) := inR_s (by omega)
    have g3 : inR (6 + i) := inR_s (by omega)
    show fX1_disputeOf_s8 k a.1 a.2 i z = some (Sum.inl ((dF (sVote r k) i a).1, (dF (sVote r k) i a).2, i + 1))
    simp only [fX1_disputeOf_s8, fX1_disputeOf_b55, (RCn hR).2.2.2.2.1, if_pos h2, if_pos g, if_pos g3, cg6 hR hI hk (c := 6 + i) (by omega), Option.bind_some, dF, sVote]
    split <;> rfl) (fun a _ => by
    show fX1_disputeOf_s8 k a.1 a.2 (r 546) z = _
    simp only [fX1_disputeOf_s8, (RCn hR).2.2.2.2.1, if_neg (Int.lt_irrefl (r 546))])).1
  rw [show zlp (fun q => fX1_disputeOf_s8 k q.1 q.2.1 q.2.2 z) FU (29, 0, 0) = _ from key, c_votesFor hR hI hk, some_sub0]
  have he := disp_eq (v := sVote r k) (r 546).toNat (fun m a b => hv m a (by omega))
  rw [Int.toNat_of_nonneg (show 0 ≤ r 546 by omega)] at he
  simp only [Option.bind_some]
  unfold sDisp
  by_cases q : sVotes r k < 2
  · rw [if_pos q, if_pos q]
  · rw [if_neg q, if_neg q]
    rcases he with ⟨i1, -⟩ | ⟨-, -, i3⟩
    · exact absurd (show sVotes r k < 2 from by rw [show sVotes r k = 0 from i1]; decide) q
    · rw [if_pos (inR_s (by omega))]
theorem c_most (hR : RC z r) (hI : IH B r) : fX1_mostDisputed z = some (sMost r).1 := by
  have hn := hI.1
  unfold IHn at hn
  unfold fX1_mostDisputed
  have key := (lp_forI (step := fun q => fX1_mostDisputed_s6 q.1 q.2.1 q.2.2 z) (fun i (q : Int × Int) => (q.1, q.2, i)) (fun k q => if q.2 < sDisp r k then (k, sDisp r k) else q) (fun a => a.1) (fun _ _ => True) 0 (r 37) (-1, -1) (by omega) (by omega) trivial (fun i a h1 h2 _ => by
    refine ⟨?_, trivial⟩
    have g : inR (i + 1) := inR_s (by omega)
    show fX1_mostDisputed_s6 a.1 a.2 i z = _
    simp only [fX1_mostDisputed_s6, fX1_mostDisputed_b35, (RCn hR).2.1, if_pos h2, if_pos g, c_disp hR hI ⟨h1, h2⟩, Option.bind_some]
    split <;> rfl) (fun a _ => by
    show fX1_mostDisputed_s6 a.1 a.2 (r 37) z = _
    simp only [fX1_mostDisputed_s6, (RCn hR).2.1, if_neg (Int.lt_irrefl (r 37))])).1
  rw [show zlp (fun q => fX1_mostDisputed_s6 q.1 q.2.1 q.2.2 z) FU ((-1), (-1), 0) = _ from key, some_sub0]
  rfl
theorem c_ano (hR : RC z r) (hI : IH B r) (hd : 0 ≤ d ∧ d ≤ 10000000) : (sAno r w d ∧ fX1_isAnotherClosedOn w d z = some 1) ∨ (¬ sAno r w d ∧ fX1_isAnotherClosedOn w d z = some 0) := by
  have hn := hI.1
  unfold IHn at hn
  have key := lp_find (step := fun q => fX1_isAnotherClosedOn_s2 w d q z) (fun i => i) (fun i => i ≠ w ∧ sClosedOn r i d) (fun _ => Sum.inr 1) (Sum.inl ()) (r 4) (r 4).toNat 0 FU (FU_lt (by omega)) (by omega) (fun i h1 h2 h3 => by
      have g : inR (i + 1) := inR_s (by omega)
      show fX1_isAnotherClosedOn_s2 w d i z = _
      simp only [fX1_isAnotherClosedOn_s2, fX1_isAnotherClosedOn_b29, (RCn hR).1, if_pos h2, if_pos g, c_isClosedOn hR hI ⟨h1, h2⟩ hd, Option.bind_some, ite_bI]
      by_cases q1 : i = w
      · rw [if_pos q1]
      · rw [if_neg q1, if_neg (fun q => h3 ⟨q1, q⟩)]) (fun i h1 h2 h3 => by
      have g : inR (i + 1) := inR_s (by omega)
      show fX1_isAnotherClosedOn_s2 w d i z = _
      simp only [fX1_isAnotherClosedOn_s2, fX1_isAnotherClosedOn_b29, (RCn hR).1, if_pos h2, if_pos g, c_isClosedOn hR hI ⟨h1, h2⟩ hd, Option.bind_some, ite_bI]
      rw [if_neg h3.1, if_pos h3.2]) (by
      show fX1_isAnotherClosedOn_s2 w d (r 4) z = _
      simp only [fX1_isAnotherClosedOn_s2, (RCn hR).1, if_neg (Int.lt_irrefl (r 4))])
  unfold fX1_isAnotherClosedOn
  rcases key with ⟨i, h1, h2, h3, -, h5⟩ | ⟨h1, h2⟩
  · exact Or.inl ⟨⟨i, h1, h2, h3.1, h3.2⟩, by rw [h5]; rfl⟩
  · refine Or.inr ⟨?_, by rw [h2]; rfl⟩
    rintro ⟨o, a, b, c, e⟩
    exact h1 o a b ⟨c, e⟩
theorem zand01 : zand 0 0 = 0 ∧ zand 0 1 = 0 ∧ zand 1 0 = 0 ∧ zand 1 1 = 1 ∧ zor 0 0 = 0 ∧ zor 0 1 = 1 ∧ zor 1 0 = 1 ∧ zor 1 1 = 1 := by decide +kernel
abbrev sFree (r : Row) (w i : Int) : Prop := ¬ sAno r w (r (5 + 4 * w + 3) + i)
theorem c_shift (hR : RC z r) (hI : IH B r) (hw : 0 ≤ w ∧ w < r 4) : (∃ i, 0 ≤ i ∧ i < 15 ∧ sFree r w i ∧ (∀ j, 0 ≤ j → j < i → ¬ sFree r w j) ∧ fX1_leastShift w z = some i) ∨ ((∀ i, 0 ≤ i → i < 15 → ¬ sFree r w i) ∧ fX1_leastShift w z = some (-1)) := by
  have hn := hI.1
  unfold IHn at hn
  have hx := (hI.2.1 w hw.1 hw.2).2.2
  have key := lp_find (step := fun q => fX1_leastShift_s2 w q z) (fun i => i) (fun i => sFree r w i) (fun i => Sum.inr i) (Sum.inl ()) 15 15 0 FU (FU_lt (by omega)) (by omega) (fun i h1 h2 h3 => by
      have g : inR (i + 1) := inR_s (by omega)
      have g2 : inR (r (5 + 4 * w + 3) + i) := inR_s (by omega)
      show fX1_leastShift_s2 w i z = _
      simp only [fX1_leastShift_s2, if_neg (show ¬ 14 < i by omega), cg4 hR hI hw (c := 3) (by omega), if_pos g, if_pos g2, Option.bind_some]
      rcases c_ano (w := w) hR hI (d := r (5 + 4 * w + 3) + i) (by omega) with ⟨p1, p2⟩ | ⟨p1, p2⟩
      · rw [p2]; rfl
      · exact absurd p1 h3) (fun i h1 h2 h3 => by
      have g : inR (i + 1) := inR_s (by omega)
      have g2 : inR (r (5 + 4 * w + 3) + i) := inR_s (by omega)
      show fX1_leastShift_s2 w i z = _
      simp only [fX1_leastShift_s2, if_neg (show ¬ 14 < i by omega), cg4 hR hI hw (c := 3) (by omega), if_pos g, if_pos g2, Option.bind_some]
      rcases c_ano (w := w) hR hI (d := r (5 + 4 * w + 3) + i) (by omega) with ⟨p1, p2⟩ | ⟨p1, p2⟩
      · exact absurd p1 h3
      · rw [p2]; rfl) (by
      show fX1_leastShift_s2 w 15 z = _
      unfold fX1_leastShift_s2
      rw [if_pos (by omega)])
  unfold fX1_leastShift
  rcases key with ⟨i, h1, h2, h3, h4, h5⟩ | ⟨h1, h2⟩
  · exact Or.inl ⟨i, h1, h2, h3, h4, by rw [h5]; rfl⟩
  · exact Or.inr ⟨h1, by rw [h2]; rfl⟩
/-! the model's little things -/
theorem zcmp_lt {a b : Int} : zcmp a b < 0 ↔ a < b := by
  unfold zcmp
  by_cases h : b < a
  · rw [if_pos h]; omega
  · rw [if_neg h]
    by_cases h2 : a = b
    · rw [if_pos h2]; omega
    · rw [if_neg h2]; omega
theorem zcmp_gt {a b : Int} : 0 < zcmp a b ↔ b < a := by
  unfold zcmp
  by_cases h : b < a
  · rw [if_pos h]; omega
  · rw [if_neg h]
    by_cases h2 : a = b
    · rw [if_pos h2]; omega
    · rw [if_neg h2]; omega
/-! the ladder -/
theorem lad_eq {v : Int → Int} {c : Int} (hc : 0 ≤ c) : ∀ (n : Nat) (lo : Int), ita (fun k m => max m (v k - c)) n lo 0 = max 0 (ita (fun k m => max m (v k)) n lo 0 - c)
  | 0, lo => by
    show (0 : Int) = max 0 (0 - c)
    omega
  | n + 1, lo => by
    rw [ita_succ, ita_succ, lad_eq hc n lo]
    omega
theorem c_ladder (hR : RC z r) (hI : IH B r) (hm : 0 ≤ m ∧ m < r 546) (hl : 0 ≤ l ∧ l ≤ 5) : (∃ i, r (547 + 6 * m + 1) + 1 ≤ i ∧ i ≤ l ∧ sNeed r i = -1 ∧ zlp (fun q => fX5_ladder_s35 m l q.1 q.2 z) FU (0, (r (547 + 6 * m + 1) + 1)) = some (.inr (.inr 3))) ∨
    ((∀ i, r (547 + 6 * m + 1) + 1 ≤ i → i ≤ l → sNeed r i ≠ -1) ∧ zlp (fun q => fX5_ladder_s35 m l q.1 q.2 z) FU (0, (r (547 + 6 * m + 1) + 1)) = some (.inl (ita (fun k t => max t (sNeed r k)) (l - r (547 + 6 * m + 1)).toNat (r (547 + 6 * m + 1) + 1) 0)) ∧ 0 ≤ ita (fun k t => max t (sNeed r k)) (l - r (547 + 6 * m + 1)).toNat (r (547 + 6 * m + 1) + 1) 0 ∧ ita (fun k t => max t (sNeed r k)) (l - r (547 + 6 * m + 1)).toNat (r (547 + 6 * m + 1) + 1) 0 ≤ 200) := by
  have hx := (hI.2.2.2.2.1 m hm.1 hm.2).1
  by_cases hlo : l < r (547 + 6 * m + 1) + 1
  · right
    have e0 : (l - r (547 + 6 * m + 1)).toNat = 0 := by omega
    rw [e0]
    refine ⟨fun i a b => by omega, ?_, Int.le_refl 0, show (0 : Int) ≤ 200 by decide⟩
    refine zlp_end (n := 99999) ?_
    show fX5_ladder_s35 m l 0 (r (547 + 6 * m + 1) + 1) z = _
    unfold fX5_ladder_s35
    rw [if_pos hlo]
    rfl
  · have key := lp_scan (step := fun q => fX5_ladder_s35 m l q.1 q.2 z) (fun i (a : Int) => (a, i)) (fun k t => max t (sNeed r k)) (fun i => sNeed r i = -1) (fun _ _ => Sum.inr (Sum.inr 3)) (fun a => Sum.inl a) (fun _ a => 0 ≤ a ∧ a ≤ 200) (l + 1) (l - r (547 + 6 * m + 1)).toNat (r (547 + 6 * m + 1) + 1) 0 FU (FU_lt (by omega)) (by omega) (by omega) (fun i a h1 h2 h3 h4 => by
        have hq := sNeed_ok (l := i) hI
        have g : inR (i + 1) := inR_s (by omega)
        refine ⟨?_, by omega⟩
        show fX5_ladder_s35 m l a i z = _
        simp only [fX5_ladder_s35, if_neg (show ¬ l < i by omega), c_need hR hI, fX5_needFound, Option.bind_some, if_neg h4, if_pos g]) (fun i a h1 h2 h3 h4 => by
        show fX5_ladder_s35 m l a i z = _
        simp only [fX5_ladder_s35, if_neg (show ¬ l < i by omega), c_need hR hI, fX5_needFound, Option.bind_some, if_pos h4]) (fun a h3 => by
        show fX5_ladder_s35 m l a (l + 1) z = _
        unfold fX5_ladder_s35
        rw [if_pos (by omega)])
    rcases key with ⟨i, b, h1, h2, h3, -, -, h6⟩ | ⟨h1, h2, h3⟩
    · exact Or.inl ⟨i, h1, by omega, h3, h6⟩
    · exact Or.inr ⟨fun i a b => h1 i a (by omega), h3, h2.1, h2.2⟩
end RG

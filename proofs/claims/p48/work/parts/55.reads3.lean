/-- a loop with a fold that stops at the first place with Q -/
theorem lp_scan {S R A : Type} {step : S → Option (S ⊕ R)} (e : Int → A → S) (f : Int → A → A) (Q : Int → Prop) (x : Int → A → R) (out : A → R) (P : Int → A → Prop) (hi : Int) : ∀ (n : Nat) (lo : Int) (a : A) (fuel : Nat), n < fuel → lo + n = hi → P lo a →
    (∀ i a, lo ≤ i → i < hi → P i a → ¬ Q i → step (e i a) = some (.inl (e (i + 1) (f i a))) ∧ P (i + 1) (f i a)) → (∀ i a, lo ≤ i → i < hi → P i a → Q i → step (e i a) = some (.inr (x i a))) → (∀ a, P hi a → step (e hi a) = some (.inr (out a))) →
    (∃ i b, lo ≤ i ∧ i < hi ∧ Q i ∧ (∀ j, lo ≤ j → j < i → ¬ Q j) ∧ P i b ∧ zlp step fuel (e lo a) = some (x i b)) ∨ ((∀ i, lo ≤ i → i < hi → ¬ Q i) ∧ P hi (ita f n lo a) ∧ zlp step fuel (e lo a) = some (out (ita f n lo a)))
  | 0, lo, a, fuel, hf, hh, hP, _, _, h3 => by
    obtain ⟨m, rfl⟩ : ∃ m, fuel = m + 1 := ⟨fuel - 1, by omega⟩
    have e0 : lo = hi := by omega
    subst e0
    exact Or.inr ⟨fun i a b => by omega, hP, zlp_end (h3 a hP)⟩
  | n + 1, lo, a, fuel, hf, hh, hP, h1, h2, h3 => by
    obtain ⟨m, rfl⟩ : ∃ m, fuel = m + 1 := ⟨fuel - 1, by omega⟩
    by_cases hq : Q lo
    · exact Or.inl ⟨lo, a, Int.le_refl _, by omega, hq, fun j a b => by omega, hP, zlp_end (h2 lo a (Int.le_refl _) (by omega) hP hq)⟩
    · have h0 := h1 lo a (Int.le_refl _) (by omega) hP hq
      rw [zlp_next h0.1]
      rcases lp_scan e f Q x out P hi n (lo + 1) (f lo a) m (by omega) (by omega) h0.2 (fun i a b => h1 i a (by omega)) (fun i a b => h2 i a (by omega)) h3 with ⟨i, b, a1, a2, a3, a4, a5, a6⟩ | ⟨a1, a2, a3⟩
      · refine Or.inl ⟨i, b, by omega, a2, a3, fun j b1 b2 => ?_, a5, a6⟩
        by_cases ej : j = lo
        · rw [ej]; exact hq
        · exact a4 j (by omega) b2
      · refine Or.inr ⟨fun j b1 b2 => ?_, a2, a3⟩
        by_cases ej : j = lo
        · rw [ej]; exact hq
        · exact a1 j (by omega) b2
def dF (v : Int → Int) (i : Int) (q : Int × Int) : Int × Int := if v i = -1 then q else (min q.1 (v i), max q.2 (v i))
theorem sCnt_0 (p : Int → Prop) [∀ k, Decidable (p k)] : sCnt ((0 : Nat) : Int) p = 0 := rfl
theorem sCnt_succ (n : Nat) (p : Int → Prop) [∀ k, Decidable (p k)] : sCnt ((n + 1 : Nat) : Int) p = if p n then sCnt n p + 1 else sCnt n p := by
  unfold sCnt
  rw [Int.toNat_natCast, Int.toNat_natCast, ita_succ, Int.zero_add]
theorem disp_eq {v : Int → Int} : ∀ n : Nat, (∀ m : Int, 0 ≤ m → m < (n : Int) → -1 ≤ v m ∧ v m ≤ 29) →
    (sCnt (n : Int) (fun m => v m ≠ -1) = 0 ∧ ita (dF v) n 0 (29, 0) = (29, 0) ∧ ita (dF v) n 0 (30, -1) = (30, -1)) ∨
    (0 < sCnt (n : Int) (fun m => v m ≠ -1) ∧ ita (dF v) n 0 (29, 0) = ita (dF v) n 0 (30, -1) ∧ 0 ≤ (ita (dF v) n 0 (29, 0)).1 ∧ (ita (dF v) n 0 (29, 0)).1 ≤ 29 ∧ 0 ≤ (ita (dF v) n 0 (29, 0)).2 ∧ (ita (dF v) n 0 (29, 0)).2 ≤ 29)
  | 0, _ => Or.inl ⟨rfl, rfl, rfl⟩
  | n + 1, h => by
    have ih := disp_eq (v := v) n (fun m a b => h m a (by omega))
    have hn := h n (by omega) (by omega)
    rw [sCnt_succ, ita_succ, ita_succ, Int.zero_add]
    by_cases q : v n = -1
    · have e1 : ∀ s, dF v n s = s := fun s => if_pos q
      rw [e1, e1, if_neg (fun w => w q)]
      exact ih
    · have e1 : ∀ s, dF v n s = (min s.1 (v n), max s.2 (v n)) := fun s => if_neg q
      rw [e1, e1, if_pos q]
      right
      rcases ih with ⟨i1, i2, i3⟩ | ⟨i1, i2, i3⟩
      · rw [i1, i2, i3]
        refine ⟨by decide, ?_, ?_⟩
        · show (min 29 (v n), max 0 (v n)) = (min 30 (v n), max (-1) (v n))
          rw [show min 29 (v n) = min 30 (v n) by omega, show max 0 (v n) = max (-1) (v n) by omega]
        · show 0 ≤ min 29 (v n) ∧ min 29 (v n) ≤ 29 ∧ 0 ≤ max 0 (v n) ∧ max 0 (v n) ≤ 29
          omega
      · refine ⟨by omega, by rw [i2], ?_⟩
        show 0 ≤ min (ita (dF v) n 0 (29, 0)).1 (v n) ∧ min (ita (dF v) n 0 (29, 0)).1 (v n) ≤ 29 ∧ 0 ≤ max (ita (dF v) n 0 (29, 0)).2 (v n) ∧ max (ita (dF v) n 0 (29, 0)).2 (v n) ≤ 29
        omega
abbrev sVote (r : Row) (k m : Int) : Int := r (38 + 18 * k + (6 + m))
abbrev sVotes (r : Row) (k : Int) : Int := sCnt (r 546) (fun m => r (38 + 18 * k + (6 + m)) ≠ -1)
def sDisp (r : Row) (k : Int) : Int := if sVotes r k < 2 then -1 else (ita (dF (sVote r k)) (r 546).toNat 0 (29, 0)).2 - (ita (dF (sVote r k)) (r 546).toNat 0 (29, 0)).1
def sMost (r : Row) : Int × Int := ita (fun k q => if q.2 < sDisp r k then (k, sDisp r k) else q) (r 37).toNat 0 (-1, -1)
abbrev sAno (r : Row) (w d : Int) : Prop := ∃ o, 0 ≤ o ∧ o < r 4 ∧ o ≠ w ∧ sClosedOn r o d
section RG
variable {z : ZZ} {r : Row} {B : Int} {k c d m w s l n : Int}
theorem zand01 : zand 0 0 = 0 ∧ zand 0 1 = 0 ∧ zand 1 0 = 0 ∧ zand 1 1 = 1 ∧ zor 0 0 = 0 ∧ zor 0 1 = 1 ∧ zor 1 0 = 1 ∧ zor 1 1 = 1 := by decide +kernel
abbrev sFree (r : Row) (w i : Int) : Prop := ¬ sAno r w (r (5 + 4 * w + 3) + i)
/-! the model's little things -/
theorem zcmp_lt {a b : Int} : zcmp a b < 0 ↔ a < b := by
  unfold zcmp
  by_cases h : b < a
  · rw [if_pos h]; omega
  · rw [if_neg h]
    by_cases h2 : a = b
    · rw [if_pos h2]; omega
    · rw [if_neg h2]; omega
theorem zcmp_gt {a b : Int} : 0 < zcmp a b ↔ b < a := by
  unfold zcmp
  by_cases h : b < a
  · rw [if_pos h]; omega
  · rw [if_neg h]
    by_cases h2 : a = b
    · rw [if_pos h2]; omega
    · rw [if_neg h2]; omega
/-! the ladder -/
theorem lad_eq {v : Int → Int} {c : Int} (hc : 0 ≤ c) : ∀ (n : Nat) (lo : Int), ita (fun k m => max m (v k - c)) n lo 0 = max 0 (ita (fun k m => max m (v k)) n lo 0 - c)
  | 0, lo => by
    show (0 : Int) = max 0 (0 - c)
    omega
  | n + 1, lo => by
    rw [ita_succ, ita_succ, lad_eq hc n lo]
    omega
end RG

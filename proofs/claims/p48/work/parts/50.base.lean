/-! the mathematics: a hall as a row of numbers (the model's places) -/
abbrev Row : Type := Int → Int
def rup (r : Row) (k v : Int) : Row := fun j => if j = k then v else r j
def bI (p : Prop) [Decidable p] : Int := if p then 1 else 0
theorem bI_t {p : Prop} [Decidable p] (h : p) : bI p = 1 := if_pos h
theorem bI_f {p : Prop} [Decidable p] (h : ¬ p) : bI p = 0 := if_neg h
theorem bI_01 (p : Prop) [Decidable p] : bI p = 0 ∨ bI p = 1 := by unfold bI; split <;> simp
theorem bI_eq0 (p : Prop) [Decidable p] : (bI p = 0) ↔ ¬ p := by unfold bI; split <;> simp [*]
theorem bI_eq1 (p : Prop) [Decidable p] : (bI p = 1) ↔ p := by unfold bI; split <;> simp [*]
theorem bI_congr {p q : Prop} [Decidable p] [Decidable q] (h : p ↔ q) : bI p = bI q := by
  unfold bI
  by_cases hp : p
  · rw [if_pos hp, if_pos (h.mp hp)]
  · rw [if_neg hp, if_neg (fun hq => hp (h.mpr hq))]
theorem inR_s {a : Int} (h : -1000000000 ≤ a ∧ a ≤ 1000000000) : inR a := ⟨by omega, by omega⟩
/-- loops: a fold from lo on, n times -/
def ita {A : Type} (f : Int → A → A) : Nat → Int → A → A
  | 0, _, a => a
  | n + 1, i, a => ita f n (i + 1) (f i a)
theorem ita_congr {A : Type} {f g : Int → A → A} (P : Int → A → Prop) : ∀ (n : Nat) (lo : Int) (a : A), P lo a → (∀ i a, lo ≤ i → i < lo + n → P i a → f i a = g i a ∧ P (i + 1) (g i a)) → ita f n lo a = ita g n lo a
  | 0, _, _, _, _ => rfl
  | n + 1, lo, a, hP, h => by
    show ita f n (lo + 1) (f lo a) = ita g n (lo + 1) (g lo a)
    have h0 := h lo a (Int.le_refl _) (by omega) hP
    rw [h0.1]
    exact ita_congr P n (lo + 1) (g lo a) h0.2 (fun i a h1 h2 => h i a (by omega) (by omega))
theorem ita_P {A : Type} {f : Int → A → A} (P : Int → A → Prop) : ∀ (n : Nat) (lo : Int) (a : A), P lo a → (∀ i a, lo ≤ i → i < lo + n → P i a → P (i + 1) (f i a)) → P (lo + n) (ita f n lo a)
  | 0, lo, a, hP, _ => by simpa [ita] using hP
  | n + 1, lo, a, hP, h => by
    have := ita_P P n (lo + 1) (f lo a) (h lo a (Int.le_refl _) (by omega) hP) (fun i a h1 h2 => h i a (by omega) (by omega))
    rw [show lo + (n + 1 : Nat) = lo + 1 + n by omega]
    exact this
theorem ita_succ {A : Type} {f : Int → A → A} : ∀ (n : Nat) (lo : Int) (a : A), ita f (n + 1) lo a = f (lo + n) (ita f n lo a)
  | 0, lo, a => by simp [ita]
  | n + 1, lo, a => by
    show ita f (n + 1) (lo + 1) (f lo a) = f (lo + (n + 1 : Nat)) (ita f n (lo + 1) (f lo a))
    rw [ita_succ n (lo + 1) (f lo a), show lo + (n + 1 : Nat) = lo + 1 + n by omega]
theorem zlp_next {S R : Type} {f : S → Option (S ⊕ R)} {n : Nat} {s s' : S} (h : f s = some (.inl s')) : zlp f (n + 1) s = zlp f n s' := by simp [zlp, h]
theorem zlp_end {S R : Type} {f : S → Option (S ⊕ R)} {n : Nat} {s : S} {r : R} (h : f s = some (.inr r)) : zlp f (n + 1) s = some r := by simp [zlp, h]
/-- a loop that counts from lo on, n times -/
theorem lp_for {S R A : Type} {step : S → Option (S ⊕ R)} (e : Int → A → S) (f : Int → A → A) (out : A → R) (P : Int → A → Prop) : ∀ (n : Nat) (lo : Int) (a : A) (fuel : Nat), n < fuel → P lo a →
    (∀ i a, lo ≤ i → i < lo + n → P i a → step (e i a) = some (.inl (e (i + 1) (f i a))) ∧ P (i + 1) (f i a)) → (∀ a, P (lo + n) a → step (e (lo + n) a) = some (.inr (out a))) →
    zlp step fuel (e lo a) = some (out (ita f n lo a)) ∧ P (lo + n) (ita f n lo a)
  | 0, lo, a, fuel, hf, hP, _, h2 => by
    obtain ⟨m, rfl⟩ : ∃ m, fuel = m + 1 := ⟨fuel - 1, by omega⟩
    have e0 : lo + (0 : Nat) = lo := by omega
    rw [e0] at h2 ⊢
    exact ⟨zlp_end (h2 a hP), hP⟩
  | n + 1, lo, a, fuel, hf, hP, h1, h2 => by
    obtain ⟨m, rfl⟩ : ∃ m, fuel = m + 1 := ⟨fuel - 1, by omega⟩
    have h0 := h1 lo a (Int.le_refl _) (by omega) hP
    rw [zlp_next h0.1]
    have e0 : lo + (n + 1 : Nat) = lo + 1 + n := by omega
    rw [e0] at h2 ⊢
    exact lp_for e f out P n (lo + 1) (f lo a) m (by omega) h0.2 (fun i a q1 q2 => h1 i a (by omega) (by omega)) h2
theorem FU_lt {n : Nat} (h : n < 100000) : n < FU := h
/-- .. with bounds given as numbers -/
theorem lp_forI {S R A : Type} {step : S → Option (S ⊕ R)} (e : Int → A → S) (f : Int → A → A) (out : A → R) (P : Int → A → Prop) (lo hi : Int) (a : A) (hl : lo ≤ hi) (hb : hi - lo < 100000) (hP : P lo a)
    (h1 : ∀ i a, lo ≤ i → i < hi → P i a → step (e i a) = some (.inl (e (i + 1) (f i a))) ∧ P (i + 1) (f i a)) (h2 : ∀ a, P hi a → step (e hi a) = some (.inr (out a))) :
    zlp step FU (e lo a) = some (out (ita f (hi - lo).toNat lo a)) ∧ P hi (ita f (hi - lo).toNat lo a) := by
  have e0 : lo + ((hi - lo).toNat : Nat) = hi := by omega
  have := lp_for (step := step) e f out P (hi - lo).toNat lo a FU (FU_lt (by omega)) hP (fun i a q1 q2 => h1 i a q1 (by omega)) (by rw [e0]; exact h2)
  rw [e0] at this
  exact this
/-- a loop that looks for the first place with Q, else goes on to hi -/
theorem lp_find {S R : Type} {step : S → Option (S ⊕ R)} (e : Int → S) (Q : Int → Prop) (x : Int → R) (out : R) (hi : Int) : ∀ (n : Nat) (lo : Int) (fuel : Nat), n < fuel → lo + n = hi →
    (∀ i, lo ≤ i → i < hi → ¬ Q i → step (e i) = some (.inl (e (i + 1)))) → (∀ i, lo ≤ i → i < hi → Q i → step (e i) = some (.inr (x i))) → step (e hi) = some (.inr out) →
    (∃ i, lo ≤ i ∧ i < hi ∧ Q i ∧ (∀ j, lo ≤ j → j < i → ¬ Q j) ∧ zlp step fuel (e lo) = some (x i)) ∨ ((∀ i, lo ≤ i → i < hi → ¬ Q i) ∧ zlp step fuel (e lo) = some out)
  | 0, lo, fuel, hf, hh, _, _, h3 => by
    obtain ⟨m, rfl⟩ : ∃ m, fuel = m + 1 := ⟨fuel - 1, by omega⟩
    have e0 : lo = hi := by omega
    subst e0
    exact Or.inr ⟨fun i a b => by omega, zlp_end h3⟩
  | n + 1, lo, fuel, hf, hh, h1, h2, h3 => by
    obtain ⟨m, rfl⟩ : ∃ m, fuel = m + 1 := ⟨fuel - 1, by omega⟩
    by_cases hq : Q lo
    · exact Or.inl ⟨lo, Int.le_refl _, by omega, hq, fun j a b => by omega, zlp_end (h2 lo (Int.le_refl _) (by omega) hq)⟩
    · rw [zlp_next (h1 lo (Int.le_refl _) (by omega) hq)]
      rcases lp_find e Q x out hi n (lo + 1) m (by omega) (by omega) (fun i a b => h1 i (by omega) b) (fun i a b => h2 i (by omega) b) h3 with ⟨i, a1, a2, a3, a4, a5⟩ | ⟨a1, a2⟩
      · refine Or.inl ⟨i, by omega, a2, a3, fun j b1 b2 => ?_, a5⟩
        by_cases ej : j = lo
        · rw [ej]; exact hq
        · exact a4 j (by omega) b2
      · refine Or.inr ⟨fun j b1 b2 => ?_, a2⟩
        by_cases ej : j = lo
        · rw [ej]; exact hq
        · exact a1 j (by omega) b2
/-! tables -/
theorem tab_place {t : Nat} (ht : isT t) {k c : Int} (hk : 0 ≤ k ∧ k < zMR t) (hc : 0 ≤ c ∧ c < zCO t) : 0 ≤ k * zCO t + c ∧ k * zCO t + c < (zTS t : Int) ∧ inR (k * zCO t + c) := by
  have h := isT_all t ht.1 ht.2
  have h1 : 0 ≤ k * zCO t := Int.mul_nonneg hk.1 h.2.2.2.2.2.1
  have h2 : k * zCO t + zCO t ≤ zMR t * zCO t := by
    have : (k + 1) * zCO t ≤ zMR t * zCO t := Int.mul_le_mul_of_nonneg_right (by omega) h.2.2.2.2.2.1
    rw [Int.add_mul, Int.one_mul] at this
    exact this
  rw [h.2.2.2.2.2.2.2] at h2
  refine ⟨by omega, by omega, by constructor <;> omega⟩
theorem get_ok {z : ZZ} {t : Nat} {k c : Int} (ht : isT t) (hk : 0 ≤ k ∧ k < z t 3) (hm : z t 3 ≤ zMR t) (hc : 0 ≤ c ∧ c < zCO t) : fX4_get t k c z = some (z (t + 1) (k * zCO t + c)) := by
  have h := tab_place ht ⟨hk.1, by omega⟩ hc
  unfold fX4_get
  rw [if_neg (by omega), if_pos hk.2, if_neg (by omega), if_pos hc.2, if_pos h.2.2, if_neg (by omega), if_pos h.2.1]
theorem get_out {z : ZZ} {t : Nat} {k c : Int} (hk : k < 0 ∨ z t 3 ≤ k) : fX4_get t k c z = some 0 := by
  unfold fX4_get
  by_cases h : k < 0
  · rw [if_pos h]
  · rw [if_neg h, if_neg (by omega)]
theorem set_ok {z : ZZ} {t : Nat} {k c v : Int} (ht : isT t) (hk : 0 ≤ k ∧ k < z t 3) (hm : z t 3 ≤ zMR t) (hc : 0 ≤ c ∧ c < zCO t) : fX4_set t k c v z = some (zup z (t + 1) (k * zCO t + c) v) := by
  have h := tab_place ht ⟨hk.1, by omega⟩ hc
  unfold fX4_set zl
  rw [if_neg (by omega), if_pos hk.2, if_neg (by omega), if_pos hc.2, if_pos h.2.2, if_neg (by omega), if_pos h.2.1]
theorem add_ok {z : ZZ} {t : Nat} {k c v : Int} (ht : isT t) (hk : 0 ≤ k ∧ k < z t 3) (hm : z t 3 ≤ zMR t) (hc : 0 ≤ c ∧ c < zCO t) (hr : inR (z (t + 1) (k * zCO t + c) + v)) : fX4_add t k c v z = some (zup z (t + 1) (k * zCO t + c) (z (t + 1) (k * zCO t + c) + v)) := by
  unfold fX4_add
  rw [get_ok ht hk hm hc]
  show (if _ then _ else _) = _
  rw [if_pos hr, set_ok ht hk hm hc]
  rfl

/-! reasoning on what the law has made -/
theorem zlp_l {S R : Type} {f : S → Option (S ⊕ R)} {n : Nat} {s s' : S} (h : f s = some (.inl s')) : zlp f (n + 1) s = zlp f n s' := by
  show (match f s with | none => none | some (.inl s') => zlp f n s' | some (.inr r) => some r) = _
  rw [h]
theorem zlp_r {S R : Type} {f : S → Option (S ⊕ R)} {n : Nat} {s : S} {r : R} (h : f s = some (.inr r)) : zlp f (n + 1) s = some r := by
  show (match f s with | none => none | some (.inl s') => zlp f n s' | some (.inr r) => some r) = _
  rw [h]
theorem lp_inv {S R : Type} {f : S → Option (S ⊕ R)} (I : Nat → S → Prop) (Q : R → Prop) (n : Nat)
    (hs : ∀ i s, i < n → I i s → (∃ s', f s = some (.inl s') ∧ I (i + 1) s') ∨ ∃ r, f s = some (.inr r) ∧ Q r)
    (he : ∀ s, I n s → ∃ r, f s = some (.inr r) ∧ Q r) : ∀ (m i : Nat) (s : S), i ≤ n → n < m + i → I i s → ∃ r, zlp f m s = some r ∧ Q r
  | 0, i, s, h1, h2, _ => absurd h2 (by omega)
  | m + 1, i, s, h1, h2, h => by
    show ∃ r, (match f s with | none => none | some (.inl s') => zlp f m s' | some (.inr r) => some r) = some r ∧ Q r
    by_cases c : i = n
    · subst c
      obtain ⟨r, q1, q2⟩ := he s h
      exact ⟨r, by rw [q1], q2⟩
    · rcases hs i s (by omega) h with ⟨s', q1, q2⟩ | ⟨r, q1, q2⟩
      · obtain ⟨r, q3, q4⟩ := lp_inv I Q n hs he m (i + 1) s' (by omega) (by omega) q2
        exact ⟨r, by rw [q1]; exact q3, q4⟩
      · exact ⟨r, by rw [q1], q2⟩
theorem lp_FU {S R : Type} {f : S → Option (S ⊕ R)} (I : Nat → S → Prop) (Q : R → Prop) (n : Nat) (hn : n < 100000)
    (hs : ∀ i s, i < n → I i s → (∃ s', f s = some (.inl s') ∧ I (i + 1) s') ∨ ∃ r, f s = some (.inr r) ∧ Q r)
    (he : ∀ s, I n s → ∃ r, f s = some (.inr r) ∧ Q r) (s : S) (h : I 0 s) : ∃ r, zlp f FU s = some r ∧ Q r :=
  lp_inv I Q n hs he FU 0 s (Nat.zero_le _) (by unfold FU; omega) h
/-- from D to D' only what P says was written, no more than c things of s slots were made -/
def Ev (P : Int → Prop) (c s : Int) (D D' : DD) : Prop :=
  dT D ≤ dT D' ∧ dT D' ≤ dT D + c ∧ dS D ≤ dS D' ∧ dS D' ≤ dS D + s ∧ (∀ a, a < dT D → dH D' a = dH D a) ∧ ∀ a k, a < dT D → ¬ P a → dW D' a k = dW D a k
theorem Ev.refl (P : Int → Prop) (D : DD) : Ev P 0 0 D D := ⟨by omega, by omega, by omega, by omega, fun _ _ => rfl, fun _ _ _ _ => rfl⟩
theorem Ev.trans {P P' : Int → Prop} {c s c' s' : Int} {A B C : DD} (h : Ev P c s A B) (h' : Ev P' c' s' B C) (hP : ∀ a, a < dT A → P' a → P a) : Ev P (c + c') (s + s') A C := by
  obtain ⟨a1, a2, a3, a4, a5, a6⟩ := h
  obtain ⟨b1, b2, b3, b4, b5, b6⟩ := h'
  refine ⟨by omega, by omega, by omega, by omega, fun a ha => (b5 a (by omega)).trans (a5 a ha), fun a k ha hp => (b6 a k (by omega) (fun q => hp (hP a ha q))).trans (a6 a k ha hp)⟩
theorem Ev.mono {P P' : Int → Prop} {c s c' s' : Int} {A B : DD} (h : Ev P c s A B) (hc : c ≤ c') (hs : s ≤ s') (hP : ∀ a, a < dT A → P a → P' a) : Ev P' c' s' A B := by
  obtain ⟨a1, a2, a3, a4, a5, a6⟩ := h
  exact ⟨a1, by omega, a3, by omega, a5, fun a k ha hp => a6 a k ha (fun q => hp (hP a ha q))⟩
theorem Ev.dup {P : Int → Prop} (D : DD) {e k v : Int} (h : e < dT D → P e) : Ev P 0 0 D (dup D e k v) := by
  refine ⟨Int.le_refl _, by show dT D ≤ dT D + 0; omega, Int.le_refl _, by show dS D ≤ dS D + 0; omega, fun _ _ => rfl, fun a j ha hp => ?_⟩
  show (if a = e ∧ j = k then v else dW D a j) = _
  rw [if_neg]
  rintro ⟨rfl, -⟩
  exact hp (h ha)
theorem Ev.dnew {P : Int → Prop} (D : DD) {s n : Nat} : Ev P 1 n D (dnew D s n) := by
  refine ⟨by show dT D ≤ dT D + 1; omega, Int.le_refl _, by show dS D ≤ dS D + n; omega, Int.le_refl _, fun a ha => ?_, fun a j ha hp => ?_⟩
  · show (if a = dT D then _ else dH D a) = _
    rw [if_neg (by omega)]
  · show (if a = dT D then 0 else dW D a j) = _
    rw [if_neg (by omega)]
theorem Ev.dcln {P : Int → Prop} (D : DD) {e : Int} {n : Nat} : Ev P 1 n D (dcln D e n) := by
  refine ⟨by show dT D ≤ dT D + 1; omega, Int.le_refl _, by show dS D ≤ dS D + n; omega, Int.le_refl _, fun a ha => ?_, fun a j ha hp => ?_⟩
  · show (if a = dT D then _ else dH D a) = _
    rw [if_neg (by omega)]
  · show (if a = dT D then _ else dW D a j) = _
    rw [if_neg (by omega)]
theorem Ev.dclb {P : Int → Prop} (D : DD) {e : Int} {n : Nat} : Ev P 1 n D (dclb D e n) := by
  refine ⟨by show dT D ≤ dT D + 1; omega, Int.le_refl _, by show dS D ≤ dS D + n; omega, Int.le_refl _, fun a ha => ?_, fun a j ha hp => ?_⟩
  · show (if a = dT D then _ else dH D a) = _
    rw [if_neg (by omega)]
  · show (if a = dT D then _ else dW D a j) = _
    rw [if_neg (by omega)]
theorem Ev.dcpy {P : Int → Prop} (D : DD) {a0 a1 sp dp n : Int} (h : a1 < dT D → P a1) : Ev P 0 0 D (dcpy D a0 a1 sp dp n) := by
  refine ⟨Int.le_refl _, by show dT D ≤ dT D + 0; omega, Int.le_refl _, by show dS D ≤ dS D + 0; omega, fun _ _ => rfl, fun a j ha hp => ?_⟩
  show (if a = a1 ∧ dp ≤ j ∧ j < dp + n then _ else dW D a j) = _
  rw [if_neg]
  rintro ⟨rfl, -⟩
  exact hp (h ha)
theorem Ev.dcps {P : Int → Prop} (D : DD) {a0 a1 sp dp n : Int} (h : a1 < dT D → P a1) : Ev P 0 0 D (dcps D a0 a1 sp dp n) := by
  refine ⟨Int.le_refl _, by show dT D ≤ dT D + 0; omega, Int.le_refl _, by show dS D ≤ dS D + 0; omega, fun _ _ => rfl, fun a j ha hp => ?_⟩
  show (if a = a1 ∧ dp ≤ j ∧ j < dp + n then _ else dW D a j) = _
  rw [if_neg]
  rintro ⟨rfl, -⟩
  exact hp (h ha)
abbrev yO (D : DD) (e : Int) (s : Nat) : Prop := dO D e s
abbrev yE (D : DD) (v : Int) : Prop := gdE D v
abbrev yV (D : DD) (v : Int) : Prop := gdV D v
theorem Ev.dO {P : Int → Prop} {c s : Int} {D D' : DD} (h : Ev P c s D D') {e : Int} {sh : Nat} (hO : dO D e sh) : dO D' e sh := ⟨hO.1, Int.lt_of_lt_of_le hO.2.1 h.1, by rw [h.2.2.2.2.1 e hO.2.1]; exact hO.2.2⟩
theorem Ev.sz {P : Int → Prop} {c s : Int} {D D' : DD} (h : Ev P c s D D') {e : Int} {sh : Nat} (hO : yO D e sh) : (dH D' e).2 = (dH D e).2 := by rw [h.2.2.2.2.1 e hO.2.1]
theorem Ev.at {P : Int → Prop} {c s : Int} {D D' : DD} (h : Ev P c s D D') {e : Int} (he : e < dT D) (hp : ¬ P e) (k : Int) : dW D' e k = dW D e k := h.2.2.2.2.2 e k he hp
theorem Ev.gdE {P : Int → Prop} {c s : Int} {D D' : DD} (h : Ev P c s D D') {v : Int} (hv : yE D v) : yE D' v := by
  rcases hv with hv | ⟨h1, h2, h3⟩ | hv
  · exact Or.inl hv
  · exact Or.inr (Or.inl ⟨h1, Int.lt_of_lt_of_le h2 h.1, by rw [h.2.2.2.2.1 v h2]; exact h3⟩)
  · exact Or.inr (Or.inr hv)
theorem Ev.gdV {P : Int → Prop} {c s : Int} {D D' : DD} (h : Ev P c s D D') {v : Int} (hv : yV D v) : yV D' v := hv.elim (fun q => Or.inl (h.gdE q)) Or.inr
/-- equations -/
theorem dup_at (D : DD) (e k v b j : Int) : dW (dup D e k v) b j = if b = e ∧ j = k then v else dW D b j := rfl
theorem dnew_at (D : DD) (s n : Nat) (b j : Int) : dW (dnew D s n) b j = if b = dT D then 0 else dW D b j := rfl
theorem dcpy_at (D : DD) (a0 a1 sp dp n b j : Int) : dW (dcpy D a0 a1 sp dp n) b j = if b = a1 ∧ dp ≤ j ∧ j < dp + n then dW D a0 (sp + (j - dp)) else dW D b j := rfl
theorem dnew_H (D : DD) (s n : Nat) (b : Int) : dH (dnew D s n) b = if b = dT D then (s, n) else dH D b := rfl
theorem zl_eq {α β : Type} (x : α) (f : α → β) : zl x f = f x := rfl
theorem zshr1_rng : ∀ n : Nat, n < 200 → zshr n 1 = (n : Int) / 2 := by decide +kernel
theorem zshr1 {x : Int} (h : 0 ≤ x ∧ x < 200) : zshr x 1 = x / 2 := by
  have := zshr1_rng x.toNat (by omega)
  rw [Int.toNat_of_nonneg h.1] at this
  exact this
theorem zshr0 {x : Int} (h : inR x) : zshr x 0 = x := by
  unfold zshr
  have e : iN 0 &&& 31 = 0 := by decide
  rw [e, show iN x >>> 0 = iN x by simp]
  exact iN_toInt h
theorem zshl0 {x : Int} (h : inR x) : zshl x 0 = x := by
  unfold zshl
  have e : iN 0 &&& 31 = 0 := by decide
  rw [e, show iN x <<< 0 = iN x by simp]
  exact iN_toInt h
theorem dO_nw {D : DD} {s n : Nat} (h : 151 ≤ dT D) : dO (dnew D s n) (dT D) s := by
  refine ⟨h, ?_, ?_⟩
  · show dT D < dT D + 1
    omega
  · show (if dT D = dT D then (s, n) else dH D (dT D)).1 = s
    rw [if_pos rfl]
theorem dH_nw {D : DD} {s n : Nat} : (dH (dnew D s n) (dT D)).2 = n := by
  show (if dT D = dT D then (s, n) else dH D (dT D)).2 = n
  rw [if_pos rfl]
theorem dO_gt {D : DD} {e : Int} {s : Nat} (h : dO D e s) : 151 ≤ dT D := by have := h.1; have := h.2.1; omega
theorem dO_ne {D : DD} {e e' : Int} {s s' : Nat} (h : dO D e s) (h' : dO D e' s') (hs : s ≠ s') : e ≠ e' := by
  intro q
  subst q
  exact hs (h.2.2.symm.trans h'.2.2)

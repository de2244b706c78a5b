set_option maxRecDepth 20000
/-! halls under way: lists that grow -/
abbrev RLp (col : Col) (D : DD) (g : Int) (r : Row) (M : Int) (h : HLs) (n : Int) : Prop :=
  (dO D g 7) ∧
  (col g = (g, 0)) ∧
  (dW D g 0 = r 0) ∧
  (dW D g 1 = r 1) ∧
  (dW D g 2 = r 2) ∧
  (dW D g 3 = r 3) ∧
  (HL col D g 4 h.lw M) ∧
  (HL col D g 5 h.lr M) ∧
  (HL col D g 6 h.lh M) ∧
  (HL col D g 7 h.lm M) ∧
  (HL col D g 8 h.lc M) ∧
  (HL col D g 9 h.la M) ∧
  ((h.lw.length : Int) = r 4) ∧
  ((h.lr.length : Int) = r 37) ∧
  ((h.lh.length : Int) = r 470) ∧
  ((h.lm.length : Int) = r 546) ∧
  ((h.lc.length : Int) = r 619) ∧
  ((h.la.length : Int) = r 644) ∧
  (h.lw.Nodup) ∧
  (h.lr.Nodup) ∧
  (h.lh.Nodup) ∧
  (h.lm.Nodup) ∧
  (∀ k : Nat, k < h.lw.length → RW col (g, 14) D (h.lw.getD k 0) 4 (fun i => r (5 + 4 * k + i))) ∧
  (∀ k : Nat, k < h.lr.length → RR col D g (h.lr.getD k 0) (fun i => r (38 + 18 * k + i)) n M) ∧
  (∀ k : Nat, k < h.lh.length → RW col (g, 16) D (h.lh.getD k 0) 4 (fun i => r (471 + 5 * k + i))) ∧
  (∀ k : Nat, k < h.lm.length → RW col (g, 17) D (h.lm.getD k 0) 6 (fun i => r (547 + 6 * k + i))) ∧
  (∀ k : Nat, k < h.lc.length → RW col (0, 0) D (h.lc.getD k 0) 3 (fun i => r (620 + 3 * k + i))) ∧
  (∀ k : Nat, k < h.la.length → RW col (0, 0) D (h.la.getD k 0) 4 (fun i => r (645 + 4 * k + i)))
theorem RLp.to {col : Col} {D : DD} {g : Int} {r : Row} {M : Int} {h : HLs} (H : RLp col D g r M h (r 546)) : RLh col D g r M h := H
theorem RLh.to {col : Col} {D : DD} {g : Int} {r : Row} {M : Int} {h : HLs} (H : RLh col D g r M h) : RLp col D g r M h (r 546) := H
def CBn (r : Row) : Prop := (0 ≤ r 4 ∧ r 4 ≤ 8) ∧ (0 ≤ r 37 ∧ r 37 ≤ 24) ∧ (0 ≤ r 470 ∧ r 470 ≤ 15) ∧ (0 ≤ r 546 ∧ r 546 ≤ 12) ∧ (0 ≤ r 619 ∧ r 619 ≤ 8) ∧ (0 ≤ r 644 ∧ r 644 ≤ 30)
abbrev isC (p : Int) : Prop := p = 4 ∨ p = 37 ∨ p = 470 ∨ p = 546 ∨ p = 619 ∨ p = 644
theorem RLp.app {col : Col} {D D' : DD} {g q n : Int} {r r' : Row} {M M' : Int} {h h' : HLs} {P : Int → Prop} {c s : Int} (H : RLp col D g r M h n) (hC : CBn r) (E : Ev P c s D D') (hP : ∀ a, a < dT D → P a → col a = (g, q)) (hq : 4 ≤ q ∧ q ≤ 9) (hM : M ≤ M') (hM9 : M' < 1000000) (hr : ∀ p, 0 ≤ p → ¬ isC p → r' p = r p) (hnn : n ≤ 12)
    (h4 : (q ≠ 4 ∧ h'.lw = h.lw ∧ r' 4 = r 4) ∨ (HL col D' g 4 h'.lw M' ∧ (h'.lw.length : Int) = r' 4 ∧ h'.lw.Nodup ∧ ∀ k : Nat, k < h'.lw.length → RW col (g, 14) D' (h'.lw.getD k 0) 4 (fun i => r' (5 + 4 * k + i))))
    (h5 : (q ≠ 5 ∧ h'.lr = h.lr ∧ r' 37 = r 37) ∨ (HL col D' g 5 h'.lr M' ∧ (h'.lr.length : Int) = r' 37 ∧ h'.lr.Nodup ∧ ∀ k : Nat, k < h'.lr.length → RR col D' g (h'.lr.getD k 0) (fun i => r' (38 + 18 * k + i)) n M'))
    (h6 : (q ≠ 6 ∧ h'.lh = h.lh ∧ r' 470 = r 470) ∨ (HL col D' g 6 h'.lh M' ∧ (h'.lh.length : Int) = r' 470 ∧ h'.lh.Nodup ∧ ∀ k : Nat, k < h'.lh.length → RW col (g, 16) D' (h'.lh.getD k 0) 4 (fun i => r' (471 + 5 * k + i))))
    (h7 : (q ≠ 7 ∧ h'.lm = h.lm ∧ r' 546 = r 546) ∨ (HL col D' g 7 h'.lm M' ∧ (h'.lm.length : Int) = r' 546 ∧ h'.lm.Nodup ∧ ∀ k : Nat, k < h'.lm.length → RW col (g, 17) D' (h'.lm.getD k 0) 6 (fun i => r' (547 + 6 * k + i))))
    (h8 : (q ≠ 8 ∧ h'.lc = h.lc ∧ r' 619 = r 619) ∨ (HL col D' g 8 h'.lc M' ∧ (h'.lc.length : Int) = r' 619 ∧ ∀ k : Nat, k < h'.lc.length → RW col (0, 0) D' (h'.lc.getD k 0) 3 (fun i => r' (620 + 3 * k + i))))
    (h9 : (q ≠ 9 ∧ h'.la = h.la ∧ r' 644 = r 644) ∨ (HL col D' g 9 h'.la M' ∧ (h'.la.length : Int) = r' 644 ∧ ∀ k : Nat, k < h'.la.length → RW col (0, 0) D' (h'.la.getD k 0) 4 (fun i => r' (645 + 4 * k + i)))) : RLp col D' g r' M' h' n := by
  obtain ⟨i1, i2, f0, f1, f2, f3, l4, l5, l6, l7, l8, l9, n4, n5, n6, n7, n8, n9, d4, d5, d6, d7, e4, e5, e6, e7, e8, e9⟩ := H
  unfold CBn at hC
  have g151 := i1.1
  have hg0 := i1.2.1
  have gno : ¬ P g := fun p => by
    have := hP g hg0 p
    rw [i2] at this
    have : (0 : Int) = q := congrArg Prod.snd this
    omega
  have at' : ∀ j, dW D' g j = dW D g j := E.at hg0 gno
  have el : ∀ j l, j ≠ q → HL col D g j l M → HL col D' g j l M' := fun j l hj h1 => by
    obtain ⟨h1, h2, h3⟩ := h1.mono hM hM9
    have e : dW D' g j = dW D g j := at' j
    have hq' : ∀ a, a < dT D → col a = (g, j) → ¬ P a := fun a ha q1 p => by have := hP a ha p; rw [q1] at this; exact hj (congrArg Prod.snd this)
    have h4 : dW D' (dW D g j) 1 = dW D (dW D g j) 1 := E.at h1.1.2.1 (hq' _ h1.1.2.1 h2) 1
    refine ⟨?_, by rw [e]; exact h2, by rw [e, h4]; exact h3⟩
    rw [e]
    obtain ⟨a1, a2, a3, a4, a5⟩ := h1
    have a := fun k => E.at a1.2.1 (hq' _ a1.2.1 h2) k
    refine ⟨E.dO a1, by rw [a]; exact a2, by rw [a]; exact a3, a4, ?_⟩
    rw [a]
    rcases a5 with q | q
    · exact Or.inl q
    · refine Or.inr (q.ev E (hq' _ q.1.1.2.1 (h3.resolve_left (fun q' => ?_))))
      have := q.1.2
      have := q.1.1.2.1
      omega
  have ew : ∀ x a m f f', (x.2 < 4 ∨ 9 < x.2) → (∀ i : Nat, i < m → f' i = f i) → RW col x D a m f → RW col x D' a m f' := fun x a m f f' hj hf h => by
    have := h.ev E (fun p => by have := hP a h.1.1.2.1 p; rw [h.2.1] at this; rw [this] at hj; have hj : q < 4 ∨ 9 < q := hj; omega)
    exact ⟨this.1, this.2.1, fun i hi => by rw [this.2.2 i hi, hf i hi]⟩
  have k4 : HL col D' g 4 h'.lw M' ∧ (h'.lw.length : Int) = r' 4 ∧ h'.lw.Nodup ∧ ∀ k : Nat, k < h'.lw.length → RW col (g, 14) D' (h'.lw.getD k 0) 4 (fun i => r' (5 + 4 * k + i)) := by
    rcases h4 with ⟨a1, a2, a3⟩ | p
    · rw [a2, a3]
      exact ⟨el 4 _ (fun e => a1 e.symm) l4, n4, d4, fun k hk => ew _ _ _ _ _ (Or.inr (by show (9 : Int) < 14; decide)) (fun i hi => hr _ (by omega) (by unfold isC; omega)) (e4 k hk)⟩
    · exact p
  have k5 : HL col D' g 5 h'.lr M' ∧ (h'.lr.length : Int) = r' 37 ∧ h'.lr.Nodup ∧ ∀ k : Nat, k < h'.lr.length → RR col D' g (h'.lr.getD k 0) (fun i => r' (38 + 18 * k + i)) n M' := by
    rcases h5 with ⟨a1, a2, a3⟩ | p
    · rw [a2, a3]
      refine ⟨el 5 _ (fun e => a1 e.symm) l5, n5, d5, fun k hk => ?_⟩
      have x := e5 k hk
      obtain ⟨g1, g2, g3, L', g4, g5, g6, g7⟩ := (x.mono hM).ev E (fun p => by have := hP _ x.1.2.1 p; rw [x.2.1] at this; have : (15 : Int) = q := congrArg Prod.snd this; omega) (fun a ha p p' => by
        have p' := hP a ha p'
        rw [p] at p'
        have : h.lr.getD k 0 = q := congrArg Prod.snd p'
        have := x.1.1
        omega)
      have hr' : ∀ i : Int, 0 ≤ i → i < 18 → r' (38 + 18 * k + i) = r (38 + 18 * k + i) := fun i a b => hr _ (by omega) (by unfold isC; omega)
      refine ⟨g1, g2, fun j hj => by rw [g3 j hj]; exact (hr' j (by omega) (by omega)).symm, L', g4, g5, g6, fun m v m0 m1 => ?_⟩
      rw [g7 m v m0 m1]
      show (r (38 + 18 * k + (6 + m)) = v ∧ v ≠ -1) ↔ (r' (38 + 18 * k + (6 + m)) = v ∧ v ≠ -1)
      by_cases c : m < 12
      · rw [hr' (6 + m) (by omega) (by omega)]
      · exact absurd m1 (by have := hnn; omega)
    · exact p
  have k6 : HL col D' g 6 h'.lh M' ∧ (h'.lh.length : Int) = r' 470 ∧ h'.lh.Nodup ∧ ∀ k : Nat, k < h'.lh.length → RW col (g, 16) D' (h'.lh.getD k 0) 4 (fun i => r' (471 + 5 * k + i)) := by
    rcases h6 with ⟨a1, a2, a3⟩ | p
    · rw [a2, a3]
      exact ⟨el 6 _ (fun e => a1 e.symm) l6, n6, d6, fun k hk => ew _ _ _ _ _ (Or.inr (by show (9 : Int) < 16; decide)) (fun i hi => hr _ (by omega) (by unfold isC; omega)) (e6 k hk)⟩
    · exact p
  have k7 : HL col D' g 7 h'.lm M' ∧ (h'.lm.length : Int) = r' 546 ∧ h'.lm.Nodup ∧ ∀ k : Nat, k < h'.lm.length → RW col (g, 17) D' (h'.lm.getD k 0) 6 (fun i => r' (547 + 6 * k + i)) := by
    rcases h7 with ⟨a1, a2, a3⟩ | p
    · rw [a2, a3]
      exact ⟨el 7 _ (fun e => a1 e.symm) l7, n7, d7, fun k hk => ew _ _ _ _ _ (Or.inr (by show (9 : Int) < 17; decide)) (fun i hi => hr _ (by omega) (by unfold isC; omega)) (e7 k hk)⟩
    · exact p
  have k8 : HL col D' g 8 h'.lc M' ∧ (h'.lc.length : Int) = r' 619 ∧ ∀ k : Nat, k < h'.lc.length → RW col (0, 0) D' (h'.lc.getD k 0) 3 (fun i => r' (620 + 3 * k + i)) := by
    rcases h8 with ⟨a1, a2, a3⟩ | p
    · rw [a2, a3]
      exact ⟨el 8 _ (fun e => a1 e.symm) l8, n8, fun k hk => ew _ _ _ _ _ (by decide) (fun i hi => hr _ (by omega) (by unfold isC; omega)) (e8 k hk)⟩
    · exact p
  have k9 : HL col D' g 9 h'.la M' ∧ (h'.la.length : Int) = r' 644 ∧ ∀ k : Nat, k < h'.la.length → RW col (0, 0) D' (h'.la.getD k 0) 4 (fun i => r' (645 + 4 * k + i)) := by
    rcases h9 with ⟨a1, a2, a3⟩ | p
    · rw [a2, a3]
      exact ⟨el 9 _ (fun e => a1 e.symm) l9, n9, fun k hk => ew _ _ _ _ _ (by decide) (fun i hi => hr _ (by omega) (by unfold isC; omega)) (e9 k hk)⟩
    · exact p
  have r0 : ∀ p, 0 ≤ p → p < 4 → r' p = r p := fun p a b => hr p a (by unfold isC; omega)
  exact ⟨E.dO i1, i2, by rw [at', r0 0 (by decide) (by decide)]; exact f0, by rw [at', r0 1 (by decide) (by decide)]; exact f1, by rw [at', r0 2 (by decide) (by decide)]; exact f2, by rw [at', r0 3 (by decide) (by decide)]; exact f3, k4.1, k5.1, k6.1, k7.1, k8.1, k9.1, k4.2.1, k5.2.1, k6.2.1, k7.2.1, k8.2.1, k9.2.1, k4.2.2.1, k5.2.2.1, k6.2.2.1, k7.2.2.1, k4.2.2.2, k5.2.2.2, k6.2.2.2, k7.2.2.2, k8.2.2, k9.2.2⟩
theorem RLp.keep {col col' : Col} {D D' : DD} {g n : Int} {r : Row} {M : Int} {h : HLs} {P : Int → Prop} {c s : Int} (H : RLp col D g r M h n) (E : Ev P c s D D') (hP : ∀ a, a < dT D → ((col a).1 = g ∨ col a = (0, 0)) → ¬ P a) (hc : ∀ a, a < dT D → ((col a).1 = g ∨ col a = (0, 0)) → col' a = col a) : RLp col' D' g r M h n := by
  obtain ⟨i1, i2, f0, f1, f2, f3, l4, l5, l6, l7, l8, l9, n4, n5, n6, n7, n8, n9, d4, d5, d6, d7, e4, e5, e6, e7, e8, e9⟩ := H
  have hg : ¬ P g := hP g i1.2.1 (Or.inl (by rw [i2]))
  have hq : ∀ j a, a < dT D → col a = (g, j) → ¬ P a := fun j a ha q => hP a ha (Or.inl (by rw [q]))
  have el : ∀ j l, HL col D g j l M → HL col' D' g j l M := fun j l q => by
    have q2 := q.ev E i1.2.1 hg (hq j)
    obtain ⟨h1, h2, h3⟩ := q
    have e : dW D' g j = dW D g j := E.at i1.2.1 hg j
    have e1 : dW D' (dW D g j) 1 = dW D (dW D g j) 1 := E.at h1.1.2.1 (hq j _ h1.1.2.1 h2) 1
    obtain ⟨p1, p2, p3⟩ := q2
    refine ⟨p1, ?_, ?_⟩
    · rw [e, hc _ h1.1.2.1 (Or.inl (by rw [h2]))]; exact h2
    · rw [e, e1]
      rcases h1.arrlt with w | w
      · exact Or.inl w
      · exact h3.imp id (fun p => by rw [hc _ w (Or.inl (by rw [p]))]; exact p)
  have ew : ∀ q a m f, (q.1 = g ∨ q = (0, 0)) → RW col q D a m f → RW col' q D' a m f := fun q a m f hq h => by
    have hx : (col a).1 = g ∨ col a = (0, 0) := by rw [h.2.1]; exact hq
    have := h.ev E (hP a h.1.1.2.1 hx)
    exact ⟨this.1, by rw [hc a h.1.1.2.1 hx]; exact h.2.1, this.2.2⟩
  have at' : ∀ j, dW D' g j = dW D g j := fun j => E.at i1.2.1 hg j
  refine ⟨E.dO i1, by rw [hc g i1.2.1 (Or.inl (by rw [i2]))]; exact i2, by rw [at']; exact f0, by rw [at']; exact f1, by rw [at']; exact f2, by rw [at']; exact f3, el _ _ l4, el _ _ l5, el _ _ l6, el _ _ l7, el _ _ l8, el _ _ l9, n4, n5, n6, n7, n8, n9, d4, d5, d6, d7,
    fun k hk => ew _ _ _ _ (Or.inl rfl) (e4 k hk), fun k hk => ?_, fun k hk => ew _ _ _ _ (Or.inl rfl) (e6 k hk), fun k hk => ew _ _ _ _ (Or.inl rfl) (e7 k hk), fun k hk => ew _ _ _ _ (Or.inr rfl) (e8 k hk), fun k hk => ew _ _ _ _ (Or.inr rfl) (e9 k hk)⟩
  have q := e5 k hk
  have qe : (col (h.lr.getD k 0)).1 = g := by rw [q.2.1]
  obtain ⟨g1, g2, g3, L', g4, g5⟩ := q.ev E (hP _ q.1.2.1 (Or.inl qe)) (fun a ha p => hq _ a ha p)
  obtain ⟨o1, o2, o3, Lo, o4, o5⟩ := q
  have e6' : dW D' (h.lr.getD k 0) 6 = dW D (h.lr.getD k 0) 6 := E.at o1.2.1 (hP _ o1.2.1 (Or.inl qe)) 6
  refine ⟨g1, by rw [hc _ o1.2.1 (Or.inl qe)]; exact o2, g3, Lo, ?_, o5⟩
  rw [e6']
  refine ((o4.mono (c' := fun a => col a = (g, h.lr.getD k 0) ∧ col' a = (g, h.lr.getD k 0)) (fun a ha p => ?_) (Int.le_refl _)).ev E (fun a ha p => hq _ a ha p.1)).mono (fun a _ p => p.2) (Int.le_refl _)
  have p : col a = (g, h.lr.getD k 0) := p
  exact ⟨p, by rw [hc a ha (Or.inl (by rw [p]))]; exact p⟩


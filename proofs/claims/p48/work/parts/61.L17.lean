set_option maxRecDepth 20000
/-! the law's hall changed -/
def pl (q p : Int) : Prop := (q = 0 ∧ p < 4) ∨ (q = 14 ∧ 5 ≤ p ∧ p < 37) ∨ ((q = 15 ∨ q = 5) ∧ 37 ≤ p ∧ p < 470) ∨ (q = 16 ∧ 471 ≤ p ∧ p < 546) ∨ (q = 17 ∧ 547 ≤ p ∧ p < 619) ∨ (q = 9 ∧ 644 ≤ p)
theorem RLh.upd {col : Col} {D D' : DD} {g q : Int} {r r' : Row} {M M' B : Int} {h h' : HLs} {P : Int → Prop} {c s : Int} (H : RLh col D g r M h) (hn : IHn B r) (E : Ev P c s D D') (hP : ∀ a, a < dT D → P a → col a = (g, q)) (hq : q < 18) (hM : M ≤ M') (hM9 : M' < 1000000)
    (hr : ∀ p, 0 ≤ p → ¬ pl q p → r' p = r p)
    (h0 : q ≠ 0 ∨ ((dW D' g 0 = r' 0 ∧ dW D' g 1 = r' 1 ∧ dW D' g 2 = r' 2 ∧ dW D' g 3 = r' 3) ∧ ∀ j, 4 ≤ j → j < 10 → dW D' g j = dW D g j))
    (hw : q ≠ 14 ∨ ∀ k : Nat, k < h.lw.length → RW col (g, 14) D' (h.lw.getD k 0) 4 (fun i => r' (5 + 4 * k + i)))
    (hR : (q ≠ 15 ∧ q ≠ 5 ∧ h'.lr = h.lr) ∨ (HL col D' g 5 h'.lr M' ∧ (h'.lr.length : Int) = r' 37 ∧ h'.lr.Nodup ∧ ∀ k : Nat, k < h'.lr.length → RR col D' g (h'.lr.getD k 0) (fun i => r' (38 + 18 * k + i)) (r 546) M'))
    (hh : q ≠ 16 ∨ ∀ k : Nat, k < h.lh.length → RW col (g, 16) D' (h.lh.getD k 0) 4 (fun i => r' (471 + 5 * k + i)))
    (hm : q ≠ 17 ∨ ∀ k : Nat, k < h.lm.length → RW col (g, 17) D' (h.lm.getD k 0) 6 (fun i => r' (547 + 6 * k + i)))
    (hA : (q ≠ 9 ∧ h'.la = h.la) ∨ (HL col D' g 9 h'.la M' ∧ (h'.la.length : Int) = r' 644 ∧ ∀ k : Nat, k < h'.la.length → RW col (0, 0) D' (h'.la.getD k 0) 4 (fun i => r' (645 + 4 * k + i))))
    (he : h'.lw = h.lw ∧ h'.lh = h.lh ∧ h'.lm = h.lm ∧ h'.lc = h.lc) (hql : q = 0 ∨ q = 5 ∨ q = 9 ∨ 13 < q) : RLh col D' g r' M' h' := by
  have H1 := H.mono hM hM9
  obtain ⟨e1, e2, e3, e4⟩ := he
  have g151 := H.o.1
  have hg0 := H.o.2.1
  have at' : ∀ j, 4 ≤ j → j < 10 → dW D' g j = dW D g j := fun j a b => by
    rcases h0 with h0 | h0
    · exact E.at hg0 (fun p => h0 (by have := hP g hg0 p; rw [H.co] at this; exact (congrArg Prod.snd this).symm)) j
    · exact h0.2 j a b
  have f' : dW D' g 0 = r' 0 ∧ dW D' g 1 = r' 1 ∧ dW D' g 2 = r' 2 ∧ dW D' g 3 = r' 3 := by
    rcases h0 with h0 | h0
    · have q1 : ∀ j, dW D' g j = dW D g j := E.at hg0 (fun p => h0 (by have := hP g hg0 p; rw [H.co] at this; exact (congrArg Prod.snd this).symm))
      have q2 : ∀ p, 0 ≤ p → p < 4 → r' p = r p := fun p a b => hr p a (by unfold pl; omega)
      rw [q1, q1, q1, q1, q2 0 (by omega) (by omega), q2 1 (by omega) (by omega), q2 2 (by omega) (by omega), q2 3 (by omega) (by omega)]
      exact ⟨H.f0, H.f1, H.f2, H.f3⟩
    · exact h0.1
  have el : ∀ j l, 4 ≤ j → j < 10 → j ≠ q → HL col D g j l M' → HL col D' g j l M' := fun j l a b hj h1 => by
    obtain ⟨h1, h2, h3⟩ := h1
    have e : dW D' g j = dW D g j := at' j a b
    have hq' : ∀ a, a < dT D → col a = (g, j) → ¬ P a := fun a ha q1 p => by have := hP a ha p; rw [q1] at this; exact hj (congrArg Prod.snd this)
    have h4 : dW D' (dW D g j) 1 = dW D (dW D g j) 1 := E.at h1.1.2.1 (hq' _ h1.1.2.1 h2) 1
    refine ⟨?_, by rw [e]; exact h2, by rw [e, h4]; exact h3⟩
    rw [e]
    obtain ⟨a1, a2, a3, a4, a5⟩ := h1
    have a := fun k => E.at a1.2.1 (hq' _ a1.2.1 h2) k
    refine ⟨E.dO a1, by rw [a]; exact a2, by rw [a]; exact a3, a4, ?_⟩
    rw [a]
    rcases a5 with q | q
    · exact Or.inl q
    · refine Or.inr (q.ev E (hq' _ q.1.1.2.1 (h3.resolve_left (fun q' => ?_))))
      have := q.1.2
      have := q.1.1.2.1
      omega
  have ew : ∀ x a n f f', x ≠ (g, q) → (∀ i : Nat, i < n → f' i = f i) → RW col x D a n f → RW col x D' a n f' := fun x a n f f' hj hf h => by
    have := h.ev E (fun p => by have := hP a h.1.1.2.1 p; rw [h.2.1] at this; exact hj this)
    exact ⟨this.1, this.2.1, fun i hi => by rw [this.2.2 i hi, hf i hi]⟩
  have nw := H.nw
  have nr := H.nr
  have nh := H.nh
  have nm := H.nm
  have nc := H.nc
  have na := H.na
  have hn' := hn
  unfold IHn at hn'
  have p4 : r' 4 = r 4 := hr 4 (by omega) (by unfold pl; omega)
  have p470 : r' 470 = r 470 := hr 470 (by omega) (by unfold pl; omega)
  have p546 : r' 546 = r 546 := hr 546 (by omega) (by unfold pl; omega)
  have p619 : r' 619 = r 619 := hr 619 (by omega) (by unfold pl; omega)
  have ne0 : ((0, 0) : Int × Int) ≠ (g, q) := fun e => by have : (0 : Int) = g := congrArg Prod.fst e; omega
  have hRR : HL col D' g 5 h'.lr M' ∧ (h'.lr.length : Int) = r' 37 ∧ h'.lr.Nodup ∧ ∀ k : Nat, k < h'.lr.length → RR col D' g (h'.lr.getD k 0) (fun i => r' (38 + 18 * k + i)) (r 546) M' := by
    rcases hR with ⟨a1, a2, a3⟩ | hR
    · rw [a3]
      refine ⟨el 5 _ (by omega) (by omega) (fun e => a2 e.symm) H1.rt, by rw [hr 37 (by omega) (by unfold pl; omega)]; exact H.nr, H.dr, fun k hk => ?_⟩
      have x := H1.er k hk
      obtain ⟨g1, g2, g3, L', g4, g5, g6, g7⟩ := x.ev E (fun p => by have := hP _ x.1.2.1 p; rw [x.2.1] at this; exact a1 (congrArg Prod.snd this).symm) (fun a ha p p' => by
        have p' := hP a ha p'
        rw [p] at p'
        have : h.lr.getD k 0 = q := congrArg Prod.snd p'
        have := x.1.1
        omega)
      have hr' : ∀ i : Int, 0 ≤ i → i < 18 → r' (38 + 18 * k + i) = r (38 + 18 * k + i) := fun i a b => hr _ (by omega) (by unfold pl; omega)
      refine ⟨g1, g2, fun j hj => by rw [g3 j hj]; exact (hr' j (by omega) (by omega)).symm, L', g4, g5, g6, fun m v m0 m1 => ?_⟩
      rw [g7 m v m0 m1]
      show (r (38 + 18 * k + (6 + m)) = v ∧ v ≠ -1) ↔ (r' (38 + 18 * k + (6 + m)) = v ∧ v ≠ -1)
      rw [hr' (6 + m) (by omega) (by omega)]
    · exact hR
  have hAA : HL col D' g 9 h'.la M' ∧ (h'.la.length : Int) = r' 644 ∧ ∀ k : Nat, k < h'.la.length → RW col (0, 0) D' (h'.la.getD k 0) 4 (fun i => r' (645 + 4 * k + i)) := by
    rcases hA with ⟨a1, a2⟩ | hA
    · rw [a2]
      exact ⟨el 9 _ (by omega) (by omega) (fun e => a1 e.symm) H1.ar, by rw [hr 644 (by omega) (by unfold pl; omega)]; exact H.na, fun k hk => ew _ _ _ _ _ ne0 (fun j hj => hr _ (by omega) (by unfold pl; omega)) (H.ea k hk)⟩
    · exact hA
  refine ⟨E.dO H.o, H.co, f'.1, f'.2.1, f'.2.2.1, f'.2.2.2, ?_, hRR.1, ?_, ?_, ?_, hAA.1, by rw [e1, p4]; exact H.nw, hRR.2.1, by rw [e2, p470]; exact H.nh, by rw [e3, p546]; exact H.nm, by rw [e4, p619]; exact H.nc, hAA.2.1, by rw [e1]; exact H.dw, hRR.2.2.1, by rw [e2]; exact H.dh, by rw [e3]; exact H.dm, ?_, ?_, ?_, ?_, ?_, hAA.2.2⟩
  · rw [e1]; exact el 4 _ (by omega) (by omega) (by omega) H1.w
  · rw [e2]; exact el 6 _ (by omega) (by omega) (by omega) H1.hs
  · rw [e3]; exact el 7 _ (by omega) (by omega) (by omega) H1.mb
  · rw [e4]; exact el 8 _ (by omega) (by omega) (by omega) H1.cs
  · rw [e1]
    intro k hk
    rcases hw with hw | hw
    · exact ew _ _ _ _ _ (fun e => hw (congrArg Prod.snd e).symm) (fun j hj => hr _ (by omega) (by unfold pl; omega)) (H.ew k hk)
    · exact hw k hk
  · intro k hk
    rw [p546]
    exact hRR.2.2.2 k hk
  · rw [e2]
    intro k hk
    rcases hh with hw | hw
    · exact ew _ _ _ _ _ (fun e => hw (congrArg Prod.snd e).symm) (fun j hj => hr _ (by omega) (by unfold pl; omega)) (H.eh k hk)
    · exact hw k hk
  · rw [e3]
    intro k hk
    rcases hm with hw | hw
    · exact ew _ _ _ _ _ (fun e => hw (congrArg Prod.snd e).symm) (fun j hj => hr _ (by omega) (by unfold pl; omega)) (H.em k hk)
    · exact hw k hk
  · rw [e4]
    intro k hk
    exact ew _ _ _ _ _ ne0 (fun j hj => hr _ (by omega) (by unfold pl; omega)) (H.ec k hk)
theorem rup_neq {r : Row} {k v j : Int} (h : j ≠ k) : rup r k v j = r j := if_neg h
theorem rup_eq {r : Row} {k v : Int} : rup r k v k = v := if_pos rfl
/-- a cell of a row -/
theorem RW.cell {col : Col} {q : Int × Int} {D : DD} {a b j v : Int} {n : Nat} {f f' : Int → Int} (h : RW col q D a n f) (hf : ∀ i : Nat, i < n → f' i = if a = b ∧ (i : Int) = j then v else f i) : RW col q (dup D b j v) a n f' :=
  ⟨h.1, h.2.1, fun i hi => by rw [dup_at, hf i hi, h.2.2 i hi]⟩
section CE
variable {col : Col} {D : DD} {g : Int} {r : Row} {M B : Int} {h : HLs} {k j v : Int}
theorem RLh.wcell (H : RLh col D g r M h) (hn : IHn B r) (hk : 0 ≤ k ∧ k < r 4) (hj : 0 ≤ j ∧ j < 4) : RLh col (dup D (h.lw.getD k.toNat 0) j v) g (rup r (5 + 4 * k + j) v) M h := by
  have hn' := hn
  unfold IHn at hn'
  have hN := H.nw
  have ek : ((k.toNat : Nat) : Int) = k := Int.toNat_of_nonneg hk.1
  have hkl : k.toNat < h.lw.length := by omega
  have p := H.ew k.toNat hkl
  refine H.upd (q := 14) hn (Ev.dup (P := fun a => a = h.lw.getD k.toNat 0) D (fun _ => rfl)) (fun a _ e => by rw [e]; exact p.2.1) (by decide) (Int.le_refl _) H.w.1.2.2.1.2.2 (fun x a b => rup_neq (by unfold pl at b; omega)) (Or.inl (by decide)) (Or.inr fun i hi => ?_) (Or.inl ⟨by decide, by decide, rfl⟩) (Or.inl (by decide)) (Or.inl (by decide)) (Or.inl ⟨by decide, rfl⟩) ⟨rfl, rfl, rfl, rfl⟩ (by decide)
  refine (H.ew i hi).cell (fun x hx => ?_)
  show (if 5 + 4 * (i : Int) + x = 5 + 4 * k + j then v else r _) = _
  by_cases c : i = k.toNat
  · subst c
    by_cases c2 : (x : Int) = j
    · rw [if_pos (by omega), if_pos ⟨rfl, c2⟩]
    · rw [if_neg (by omega), if_neg (fun q => c2 q.2)]
  · rw [if_neg (by omega), if_neg (fun q => nodup_getD H.dw hi hkl c q.1)]
theorem RLh.hcell (H : RLh col D g r M h) (hn : IHn B r) (hk : 0 ≤ k ∧ k < r 470) (hj : 0 ≤ j ∧ j < 4) : RLh col (dup D (h.lh.getD k.toNat 0) j v) g (rup r (471 + 5 * k + j) v) M h := by
  have hn' := hn
  unfold IHn at hn'
  have hN := H.nh
  have ek : ((k.toNat : Nat) : Int) = k := Int.toNat_of_nonneg hk.1
  have hkl : k.toNat < h.lh.length := by omega
  have p := H.eh k.toNat hkl
  refine H.upd (q := 16) hn (Ev.dup (P := fun a => a = h.lh.getD k.toNat 0) D (fun _ => rfl)) (fun a _ e => by rw [e]; exact p.2.1) (by decide) (Int.le_refl _) H.w.1.2.2.1.2.2 (fun x a b => rup_neq (by unfold pl at b; omega)) (Or.inl (by decide)) (Or.inl (by decide)) (Or.inl ⟨by decide, by decide, rfl⟩) (Or.inr fun i hi => ?_) (Or.inl (by decide)) (Or.inl ⟨by decide, rfl⟩) ⟨rfl, rfl, rfl, rfl⟩ (by decide)
  refine (H.eh i hi).cell (fun x hx => ?_)
  show (if 471 + 5 * (i : Int) + x = 471 + 5 * k + j then v else r _) = _
  by_cases c : i = k.toNat
  · subst c
    by_cases c2 : (x : Int) = j
    · rw [if_pos (by omega), if_pos ⟨rfl, c2⟩]
    · rw [if_neg (by omega), if_neg (fun q => c2 q.2)]
  · rw [if_neg (by omega), if_neg (fun q => nodup_getD H.dh hi hkl c q.1)]
theorem RLh.mcell (H : RLh col D g r M h) (hn : IHn B r) (hk : 0 ≤ k ∧ k < r 546) (hj : 0 ≤ j ∧ j < 6) : RLh col (dup D (h.lm.getD k.toNat 0) j v) g (rup r (547 + 6 * k + j) v) M h := by
  have hn' := hn
  unfold IHn at hn'
  have hN := H.nm
  have ek : ((k.toNat : Nat) : Int) = k := Int.toNat_of_nonneg hk.1
  have hkl : k.toNat < h.lm.length := by omega
  have p := H.em k.toNat hkl
  refine H.upd (q := 17) hn (Ev.dup (P := fun a => a = h.lm.getD k.toNat 0) D (fun _ => rfl)) (fun a _ e => by rw [e]; exact p.2.1) (by decide) (Int.le_refl _) H.w.1.2.2.1.2.2 (fun x a b => rup_neq (by unfold pl at b; omega)) (Or.inl (by decide)) (Or.inl (by decide)) (Or.inl ⟨by decide, by decide, rfl⟩) (Or.inl (by decide)) (Or.inr fun i hi => ?_) (Or.inl ⟨by decide, rfl⟩) ⟨rfl, rfl, rfl, rfl⟩ (by decide)
  refine (H.em i hi).cell (fun x hx => ?_)
  show (if 547 + 6 * (i : Int) + x = 547 + 6 * k + j then v else r _) = _
  by_cases c : i = k.toNat
  · subst c
    by_cases c2 : (x : Int) = j
    · rw [if_pos (by omega), if_pos ⟨rfl, c2⟩]
    · rw [if_neg (by omega), if_neg (fun q => c2 q.2)]
  · rw [if_neg (by omega), if_neg (fun q => nodup_getD H.dm hi hkl c q.1)]
/-- a number of a route -/
theorem RLh.rcell (H : RLh col D g r M h) (hn : IHn B r) (hk : 0 ≤ k ∧ k < r 37) (hj : 0 ≤ j ∧ j < 6) : RLh col (dup D (h.lr.getD k.toNat 0) j v) g (rup r (38 + 18 * k + j) v) M h := by
  have hn' := hn
  unfold IHn at hn'
  have hN := H.nr
  have ek : ((k.toNat : Nat) : Int) = k := Int.toNat_of_nonneg hk.1
  have hkl : k.toNat < h.lr.length := by omega
  have p := (H.er k.toNat hkl).2.1
  have E : Ev (fun a => a = h.lr.getD k.toNat 0) 0 0 D (dup D (h.lr.getD k.toNat 0) j v) := Ev.dup (P := fun a => a = h.lr.getD k.toNat 0) D (fun _ => rfl)
  have n15 : ∀ x l, x < 15 → HL col D g x l M → HL col (dup D (h.lr.getD k.toNat 0) j v) g x l M := fun x l hx q => q.ev E H.o.2.1 (fun e => by rw [← e, H.co] at p; have : (0 : Int) = 15 := congrArg Prod.snd p; omega) (fun a _ c e => by rw [← e, c] at p; have : (x : Int) = 15 := congrArg Prod.snd p; omega)
  refine H.upd (q := 15) hn E (fun a _ e => by rw [e]; exact p) (by decide) (Int.le_refl _) H.w.1.2.2.1.2.2 (fun x a b => rup_neq (by unfold pl at b; omega)) (Or.inl (by decide)) (Or.inl (by decide)) (Or.inr ⟨n15 5 _ (by decide) H.rt, by rw [rup_neq (by omega)]; exact H.nr, H.dr, fun i hi => ?_⟩) (Or.inl (by decide)) (Or.inl (by decide)) (Or.inl ⟨by decide, rfl⟩) ⟨rfl, rfl, rfl, rfl⟩ (by decide)
  obtain ⟨g1, g2, g3, L, g4, g5, g6, g7⟩ := H.er i hi
  have e6 : dW (dup D (h.lr.getD k.toNat 0) j v) (h.lr.getD i 0) 6 = dW D (h.lr.getD i 0) 6 := by rw [dup_at, if_neg (by omega)]
  refine ⟨g1, g2, fun x hx => ?_, L, ?_, g5, g6, fun m v' m0 m1 => ?_⟩
  · rw [dup_at, g3 x hx]
    show _ = (if 38 + 18 * (i : Int) + x = 38 + 18 * k + j then v else r _)
    by_cases c : i = k.toNat
    · subst c
      by_cases c2 : (x : Int) = j
      · rw [if_pos ⟨rfl, c2⟩, if_pos (by omega)]
      · rw [if_neg (fun q => c2 q.2), if_neg (by omega)]
    · rw [if_neg (fun q => nodup_getD H.dr hi hkl c q.1), if_neg (by omega)]
  · rw [e6]
    exact g4.ev E (fun a _ c e => by
      have c : col a = (g, h.lr.getD i 0) := c
      have e : a = h.lr.getD k.toNat 0 := e
      rw [← e, c] at p
      have : h.lr.getD i 0 = 15 := congrArg Prod.snd p
      have := g1.1
      omega)
  · rw [g7 m v' m0 m1]
    show (r (38 + 18 * i + (6 + m)) = v' ∧ v' ≠ -1) ↔ (rup r (38 + 18 * k + j) v (38 + 18 * i + (6 + m)) = v' ∧ v' ≠ -1)
    rw [rup_neq (by omega)]
theorem RLh.day (H : RLh col D g r M h) (hn : IHn B r) : RLh col (dup D g 3 v) g (rup r 3 v) M h := by
  refine H.upd (q := 0) hn (Ev.dup (P := fun a => a = g) D (fun _ => rfl)) (fun a _ e => by rw [e]; exact H.co) (by decide) (Int.le_refl _) H.w.1.2.2.1.2.2 (fun x a b => rup_neq (by unfold pl at b; omega)) (Or.inr ⟨⟨?_, ?_, ?_, ?_⟩, fun j a b => ?_⟩) (Or.inl (by decide)) (Or.inl ⟨by decide, by decide, rfl⟩) (Or.inl (by decide)) (Or.inl (by decide)) (Or.inl ⟨by decide, rfl⟩) ⟨rfl, rfl, rfl, rfl⟩ (by decide)
  · rw [dup_at, if_neg (by omega), rup_neq (by omega)]; exact H.f0
  · rw [dup_at, if_neg (by omega), rup_neq (by omega)]; exact H.f1
  · rw [dup_at, if_neg (by omega), rup_neq (by omega)]; exact H.f2
  · rw [dup_at, if_pos ⟨rfl, rfl⟩, rup_eq]
  · rw [dup_at, if_neg (by omega)]
end CE

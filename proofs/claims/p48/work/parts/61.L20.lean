set_option maxRecDepth 20000
/-! lists: taken out, emptied (where the row stays) -/
theorem s_rem {D : DD} {e : Int} {l : List Int} {m : Int} {i : Nat} (h : AL D e l m) (hi : i < l.length) (hm : m < 999999) :
    ∃ D', fJx4a65c_remove_915e3 e i D = some (l.getD i 0, D') ∧ AL D' e (l.eraseIdx i) (m + 1) ∧ Ev (FA D e) 0 0 D D' ∧ dW D' e 1 = dW D e 1 := by
  have hA := h.arr (by intro q; rw [q] at hi; cases hi)
  obtain ⟨h1, h2, h3, h4, h5⟩ := h
  have hne : e ≠ dW D e 1 := dO_ne h1 hA.1.1 (by decide)
  have hn : (l.length : Int) - 1 < ((dH D (dW D e 1)).2 : Int) := by have := hA.2.1; omega
  unfold fJx4a65c_remove_915e3
  rw [if_pos h1, h2, s_chk ⟨by omega, by omega⟩]
  simp only [Option.bind_some]
  rw [if_pos hA.1.1, if_pos ⟨by omega, by have := hA.2.1; omega⟩, hA.2.2.2.2 i hi]
  unfold fJx4a65c_fastRemove_b59b0
  rw [if_pos h1, if_pos (by constructor <;> omega), zl_eq]
  have w2 : dW (dup D e 0 (dW D e 0 + 1)) e 2 = l.length := by rw [dup_at, if_neg (by omega), h2]
  rw [w2, if_pos (by constructor <;> omega)]
  -- the last slot emptied
  have key : ∀ (D2 : DD), Ev (FA D e) 0 0 D D2 → dW D2 e 0 = dW D e 0 + 1 → dW D2 e 1 = dW D e 1 → (∀ j : Nat, j < l.length - 1 → dW D2 (dW D e 1) j = (l.eraseIdx i).getD j 0) → ∃ D', fJx4a65c_fastRemove_b59b0_b34 e (dW D e 1) ((l.length : Int) - 1) D2 = some D' ∧ AL D' e (l.eraseIdx i) (m + 1) ∧ Ev (FA D e) 0 0 D D' ∧ dW D' e 1 = dW D e 1 := by
    intro D2 E2 g0 g1 g2
    have hO2 : dO D2 (dW D e 1) 22 := E2.dO hA.1.1
    have hS2 : (dH D2 (dW D e 1)).2 = (dH D (dW D e 1)).2 := E2.sz hA.1.1
    have hlen : (l.eraseIdx i).length = l.length - 1 := List.length_eraseIdx_of_lt hi
    unfold fJx4a65c_fastRemove_b59b0_b34
    rw [if_pos (E2.dO h1), zl_eq, if_pos (show dO (dup D2 e 2 ((l.length : Int) - 1)) (dW D e 1) 22 from hO2), if_pos ⟨by omega, by show (l.length : Int) - 1 < ((dH D2 (dW D e 1)).2 : Int); rw [hS2]; exact hn⟩, if_pos (show gdE _ 0 from Or.inl rfl), zl_eq]
    refine ⟨dup (dup D2 e 2 ((l.length : Int) - 1)) (dW D e 1) ((l.length : Int) - 1) 0, rfl, ⟨E2.dO h1, ?_, ⟨?_, ?_, ?_⟩, ?_, Or.inr ?_⟩, ?_, by rw [dup_at, if_neg (fun q => hne q.1), dup_at, if_neg (by omega), g1]⟩
    · rw [dup_at, if_neg (fun q => hne q.1), dup_at, if_pos ⟨rfl, rfl⟩, hlen]; omega
    · rw [dup_at, if_neg (fun q => hne q.1), dup_at, if_neg (by omega), g0]; omega
    · rw [dup_at, if_neg (fun q => hne q.1), dup_at, if_neg (by omega), g0]; omega
    · omega
    · omega
    · rw [dup_at, if_neg (fun q => hne q.1), dup_at, if_neg (by omega), g1]
      refine ⟨⟨hO2, hA.1.2⟩, ?_, ?_, ?_, fun j hj => ?_⟩
      · show (((l.eraseIdx i).length : Nat) : Int) ≤ ((dH D2 (dW D e 1)).2 : Int)
        rw [hS2, hlen]; omega
      · show 10 ≤ (dH D2 (dW D e 1)).2
        rw [hS2]; exact hA.2.2.1
      · show (dH D2 (dW D e 1)).2 ≤ 48
        rw [hS2]; exact hA.2.2.2.1
      · rw [hlen] at hj
        rw [dup_at, if_neg (by omega), dup_at, if_neg (fun q => hne q.1.symm)]
        exact g2 j hj
    · exact ((E2.trans (Ev.dup (P := FA D e) _ (fun _ => Or.inl rfl)) (fun _ _ h => h)).trans (Ev.dup (P := FA D e) _ (fun _ => Or.inr rfl)) (fun _ _ h => h)).mono (by omega) (by omega) (fun _ _ h => h)
  have E1 : Ev (FA D e) 0 0 D (dup D e 0 (dW D e 0 + 1)) := Ev.dup _ (fun _ => Or.inl rfl)
  have g0 : dW (dup D e 0 (dW D e 0 + 1)) e 0 = dW D e 0 + 1 := by rw [dup_at, if_pos ⟨rfl, rfl⟩]
  have g1 : dW (dup D e 0 (dW D e 0 + 1)) e 1 = dW D e 1 := by rw [dup_at, if_neg (by omega)]
  by_cases c : (i : Int) < (l.length : Int) - 1
  · rw [if_pos c, if_pos (show dO (dup D e 0 (dW D e 0 + 1)) (dW D e 1) 22 from hA.1.1), if_pos ⟨by omega, by omega, by omega, by show (i : Int) + 1 + ((l.length : Int) - 1 - i) ≤ ((dH D (dW D e 1)).2 : Int); omega, by show (i : Int) + ((l.length : Int) - 1 - i) ≤ ((dH D (dW D e 1)).2 : Int); omega⟩, zl_eq]
    obtain ⟨D', k1, k2, k3⟩ := key (dcpy (dup D e 0 (dW D e 0 + 1)) (dW D e 1) (dW D e 1) (i + 1) i ((l.length : Int) - 1 - i)) ((E1.trans (Ev.dcpy (P := FA D e) _ (fun _ => Or.inr rfl)) (fun _ _ h => h)).mono (by omega) (by omega) (fun _ _ h => h)) (by rw [dcpy_at, if_neg (fun q => hne q.1), g0]) (by rw [dcpy_at, if_neg (fun q => hne q.1), g1]) (fun j hj => by
      rw [dcpy_at]
      have x : ∀ j : Int, dW (dup D e 0 (dW D e 0 + 1)) (dW D e 1) j = dW D (dW D e 1) j := fun j => by rw [dup_at, if_neg (fun q => hne q.1.symm)]
      rw [x, x]
      by_cases cj : j < i
      · rw [if_neg (by omega), hA.2.2.2.2 j (by omega)]
        simp only [List.getD_eq_getElem?_getD, List.getElem?_eraseIdx, if_pos cj]
      · rw [if_pos ⟨rfl, by omega, by omega⟩]
        have := hA.2.2.2.2 (j + 1) (by omega)
        rw [show (i : Int) + 1 + ((j : Int) - i) = ((j + 1 : Nat) : Int) by omega, this]
        simp only [List.getD_eq_getElem?_getD, List.getElem?_eraseIdx, if_neg cj])
    rw [k1]
    exact ⟨D', rfl, k2, k3⟩
  · rw [if_neg c]
    obtain ⟨D', k1, k2, k3⟩ := key (dup D e 0 (dW D e 0 + 1)) E1 g0 g1 (fun j hj => by
      rw [dup_at, if_neg (fun q => hne q.1.symm), hA.2.2.2.2 j (by omega)]
      simp only [List.getD_eq_getElem?_getD, List.getElem?_eraseIdx, if_pos (show j < i by omega)])
    rw [k1]
    exact ⟨D', rfl, k2, k3⟩
theorem s_clr {D : DD} {e : Int} {l : List Int} {m : Int} (h : AL D e l m) (hm : m < 999999) :
    ∃ D', fJx4a65c_clear_da8c8 e D = some D' ∧ AL D' e [] (m + 1) ∧ Ev (FA D e) 0 0 D D' ∧ dW D' e 1 = dW D e 1 := by
  have h0 := h
  obtain ⟨h1, h2, h3, h4, h5⟩ := h
  unfold fJx4a65c_clear_da8c8
  rw [if_pos h1, if_pos (by constructor <;> omega), zl_eq, zl_eq]
  have w1 : dW (dup D e 0 (dW D e 0 + 1)) e 1 = dW D e 1 := by rw [dup_at, if_neg (by omega)]
  have w2 : dW (dup D e 0 (dW D e 0 + 1)) e 2 = l.length := by rw [dup_at, if_neg (by omega), h2]
  rw [w1, w2]
  have E1 : Ev (FA D e) 0 0 D (dup (dup D e 0 (dW D e 0 + 1)) e 2 0) := ((Ev.dup (P := FA D e) _ (fun _ => Or.inl rfl)).trans (Ev.dup (P := FA D e) _ (fun _ => Or.inl rfl)) (fun _ _ h => h)).mono (by omega) (by omega) (fun _ _ h => h)
  have loop := lp_FU (f := fun q => fJx4a65c_clear_da8c8_s27 (dW D e 1) (l.length : Int) q.1 q.2)
    (fun i q => q.1 = (i : Int) ∧ Ev (FA D e) 0 0 D q.2 ∧ ∀ k : Int, dW q.2 e k = dW (dup (dup D e 0 (dW D e 0 + 1)) e 2 0) e k)
    (fun q => Ev (FA D e) 0 0 D q ∧ ∀ k : Int, dW q e k = dW (dup (dup D e 0 (dW D e 0 + 1)) e 2 0) e k) l.length (by omega)
    (fun i q hi hI => by
      obtain ⟨i9, D2⟩ := q
      obtain ⟨k1, k2, k3⟩ := hI
      have k1 : i9 = (i : Int) := k1
      subst k1
      have hA := AL.arr (l := l) h0 (by intro q; rw [q] at hi; cases hi)
      have hne : e ≠ dW D e 1 := dO_ne h1 hA.1.1 (by decide)
      left
      show ∃ s', fJx4a65c_clear_da8c8_s27 (dW D e 1) (l.length : Int) (i : Int) D2 = some (.inl s') ∧ _
      unfold fJx4a65c_clear_da8c8_s27
      have k2' : Ev (FA D e) 0 0 D D2 := k2
      rw [if_pos (by omega), if_pos (k2'.dO hA.1.1), if_pos ⟨by omega, by rw [k2'.sz hA.1.1]; have := hA.2.1; omega⟩, if_pos (show gdE _ 0 from Or.inl rfl), zl_eq, if_pos (by constructor <;> omega)]
      refine ⟨_, rfl, by show (i : Int) + 1 = ((i + 1 : Nat) : Int); omega, (k2'.trans (Ev.dup (P := FA D e) _ (fun _ => Or.inr rfl)) (fun _ _ h => h)).mono (by omega) (by omega) (fun _ _ h => h), fun k => ?_⟩
      show dW (dup D2 (dW D e 1) i 0) e k = _
      rw [dup_at, if_neg (fun q => hne q.1)]
      exact k3 k)
    (fun q hI => by
      obtain ⟨i9, D2⟩ := q
      obtain ⟨k1, k2, k3⟩ := hI
      have k1 : i9 = (l.length : Int) := k1
      subst k1
      show ∃ s', fJx4a65c_clear_da8c8_s27 (dW D e 1) (l.length : Int) (l.length : Int) D2 = some (.inr s') ∧ _
      unfold fJx4a65c_clear_da8c8_s27
      rw [if_neg (by omega)]
      exact ⟨_, rfl, k2, k3⟩)
    (0, dup (dup D e 0 (dW D e 0 + 1)) e 2 0) ⟨rfl, E1, fun _ => rfl⟩
  obtain ⟨D', q1, q2, q3⟩ := loop
  refine ⟨D', by rw [q1]; rfl, ⟨q2.dO h1, ?_, ⟨?_, ?_, ?_⟩, by simp, ?_⟩, q2, by rw [q3, dup_at, if_neg (by omega), dup_at, if_neg (by omega)]⟩
  · rw [q3, dup_at, if_pos ⟨rfl, rfl⟩]; rfl
  · rw [q3, dup_at, if_neg (by omega), dup_at, if_pos ⟨rfl, rfl⟩]; omega
  · rw [q3, dup_at, if_neg (by omega), dup_at, if_pos ⟨rfl, rfl⟩]; omega
  · omega
  · rw [q3, dup_at, if_neg (by omega), dup_at, if_neg (by omega)]
    rcases h5 with ⟨q, -⟩ | q
    · exact Or.inl ⟨q, rfl⟩
    · refine Or.inr ⟨⟨q2.dO q.1.1, q.1.2⟩, ?_, ?_, ?_, fun i hi => absurd hi (by simp)⟩
      · show (((([] : List Int).length) : Nat) : Int) ≤ _
        simp
      · rw [q2.sz q.1.1]; exact q.2.2.1
      · rw [q2.sz q.1.1]; exact q.2.2.2.1


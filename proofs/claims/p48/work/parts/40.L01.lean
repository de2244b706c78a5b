set_option maxRecDepth 20000
/-! lists -/
def ALa (D : DD) (r : Int) (l : List Int) : Prop := (dO D r 22 ∧ r < 1000000) ∧ (l.length : Int) ≤ (dH D r).2 ∧ 10 ≤ (dH D r).2 ∧ (dH D r).2 ≤ 48 ∧ ∀ i : Nat, i < l.length → dW D r i = l.getD i 0
def AL (D : DD) (e : Int) (l : List Int) (m : Int) : Prop :=
  dO D e 9 ∧ dW D e 2 = l.length ∧ (0 ≤ dW D e 0 ∧ dW D e 0 ≤ m ∧ m < 1000000) ∧ l.length ≤ 40 ∧ ((dW D e 1 = 1000012 ∧ l = []) ∨ ALa D (dW D e 1) l)
abbrev FA (D : DD) (e : Int) : Int → Prop := fun a => a = e ∨ a = dW D e 1
theorem ALa.ev {P : Int → Prop} {c s : Int} {D D' : DD} (h : Ev P c s D D') {r : Int} {l : List Int} (hA : ALa D r l) (hp : ¬ P r) : ALa D' r l := by
  obtain ⟨⟨h1, h0⟩, h2, h3, h4, h5⟩ := hA
  refine ⟨⟨h.dO h1, h0⟩, ?_, ?_, ?_, fun i hi => ?_⟩
  · rw [h.sz h1]; exact h2
  · rw [h.sz h1]; exact h3
  · rw [h.sz h1]; exact h4
  · rw [h.at h1.2.1 hp]; exact h5 i hi
theorem AL.ev {P : Int → Prop} {c s : Int} {D D' : DD} (h : Ev P c s D D') {e : Int} {l : List Int} {m : Int} (hA : AL D e l m) (he : ¬ P e) (hr : ¬ P (dW D e 1)) : AL D' e l m := by
  obtain ⟨h1, h2, h3, h4, h5⟩ := hA
  have a := fun k => h.at h1.2.1 he k
  refine ⟨h.dO h1, by rw [a]; exact h2, by rw [a]; exact h3, h4, ?_⟩
  rw [a]
  exact h5.imp id (fun q => q.ev h hr)
theorem AL.isArr {D : DD} {e : Int} {l : List Int} {m : Int} (h : AL D e l m) : isArr D (dW D e 1) := by
  rcases h.2.2.2.2 with ⟨q, -⟩ | q
  · exact Or.inl q
  · exact Or.inr ⟨q.1.1.1, q.1.1.2.1, by rw [q.1.1.2.2]; decide⟩
theorem s_alInit {D : DD} {e : Int} (hO : dO D e 9) : ∃ D', fJx4a65c_init_da8c8 e D = some D' ∧ (dW D e 0 = 0 → dW D e 2 = 0 → AL D' e [] 0) ∧ Ev (fun a => a = e) 0 0 D D' ∧ dW D' e 1 = 1000012 := by
  refine ⟨dup (dup D e 0 0) e 1 1000012, ?_, fun h0 h2 => ?_, ?_, by simp [dup_at]⟩
  · unfold fJx4a65c_init_da8c8 fJxc12de_init_da8c8 fJxa1e45_init_da8c8
    have g : (151 : Int) ≤ e ∧ e < dT D ∧ True := ⟨hO.1, hO.2.1, trivial⟩
    rw [if_pos g]
    simp only [Option.bind_some, zl_eq]
    rw [if_pos g, if_pos hO]
    simp only [Option.bind_some]
    rw [if_pos g, if_pos (show dO (dup D e 0 0) e 9 from hO)]
  · refine ⟨hO, ?_, ?_, by decide, Or.inl ⟨?_, rfl⟩⟩
    · simp [dup_at, h2]
    · simp [dup_at]
    · simp [dup_at]
  · exact ((Ev.dup (P := fun a => a = e) D (fun _ => rfl)).trans (Ev.dup (P := fun a => a = e) _ (fun _ => rfl)) (fun _ _ h => h)).mono (by omega) (by omega) (fun _ _ h => h)
theorem s_grow {D : DD} {e : Int} {l : List Int} {m : Int} (h : AL D e l m) (hl : l.length ≤ 32) (hc : (l.length : Int) = alen D (dW D e 1)) (hT : dT D < 600000) (hS : dS D + 48 ≤ 7200000) :
    ∃ D', fJx4a65c_grow_d5877 e D = some (dT D, D') ∧ ALa D' (dT D) l ∧ (l.length : Int) < (dH D' (dT D)).2 ∧ dW D' e 1 = dT D ∧ dW D' e 0 = dW D e 0 ∧ dW D' e 2 = dW D e 2 ∧ Ev (fun a => a = e) 1 48 D D' := by
  obtain ⟨h1, h2, h3, h4, h5⟩ := h
  have hb := dO_gt h1
  have hs0 : inR (dW D e 2 + 1) := by rw [h2]; constructor <;> omega
  unfold fJx4a65c_grow_d5877
  rw [if_pos h1, if_pos hs0]
  unfold fJx4a65c_grow_92f84
  rw [if_pos h1]
  rcases h5 with ⟨q1, rfl⟩ | q
  · have ha : isArr D (dW D e 1) := Or.inl q1
    rw [if_pos ha, q1]
    have e0 : alen D 1000012 = 0 := by unfold alen; rw [if_pos rfl]
    have e1 : max (10 : Int) (dW D e 2 + 1) = 10 := by rw [h2]; show max (10 : Int) (((0 : Nat) : Int) + 1) = 10; omega
    rw [e0, e1, if_neg (by decide), if_pos (show cmpV D 1000012 from Or.inr (Or.inr rfl)), if_pos (show cmpV D 1000012 from Or.inr (Or.inr rfl)), if_pos rfl, if_pos ⟨⟨by decide, by decide⟩, hT, by omega⟩]
    have hne : e ≠ dT D := by have := h1.2.1; omega
    refine ⟨dup (dnew D 22 10) e 1 (dT D), rfl, ⟨⟨⟨hb, ?_, ?_⟩, by omega⟩, ?_, ?_, ?_, fun i hi => absurd hi (by simp)⟩, ?_, ?_, ?_, ?_, ?_⟩
    · show dT D < dT D + 1
      omega
    · show (if dT D = dT D then (22, 10) else _).1 = 22
      rw [if_pos rfl]
    all_goals first
      | (show _ ≤ (((if dT D = dT D then ((22 : Nat), (10 : Nat)) else _).2 : Nat) : Int); rw [if_pos rfl]; simp; done)
      | (show (if dT D = dT D then ((22 : Nat), (10 : Nat)) else _).2 ≤ _; rw [if_pos rfl]; decide; done)
      | (show _ ≤ (if dT D = dT D then ((22 : Nat), (10 : Nat)) else _).2; rw [if_pos rfl]; decide; done)
      | (show _ < (((if dT D = dT D then ((22 : Nat), (10 : Nat)) else _).2 : Nat) : Int); rw [if_pos rfl]; simp; done)
      | skip
    · simp [dup_at]
    · simp [dup_at, dnew_at, hne]
    · simp [dup_at, dnew_at, hne]
    · exact ((Ev.dnew D).trans (Ev.dup (P := fun a => a = e) _ (fun _ => rfl)) (fun _ _ h => h)).mono (by omega) (by omega) (fun _ _ h => h)
  · obtain ⟨⟨r1, r0⟩, r2, r3, r4, r5⟩ := q
    have ha : isArr D (dW D e 1) := Or.inr ⟨r1.1, r1.2.1, by rw [r1.2.2]; decide⟩
    have e0 : alen D (dW D e 1) = (dH D (dW D e 1)).2 := by unfold alen; rw [if_neg (by have := r1.2.1; omega)]
    rw [if_pos ha, if_pos (by rw [← hc]; omega)]
    unfold fJx4a65c_grow_92f84_b20
    have hz : zshr (alen D (dW D e 1)) 1 = (l.length : Int) / 2 := by rw [← hc]; exact zshr1 ⟨by omega, by omega⟩
    have hx : dW D e 2 + 1 - alen D (dW D e 1) = 1 := by rw [h2, ← hc]; omega
    rw [hx, if_pos (inR_c rfl), hz, ← hc]
    unfold fJ8_newLength_cabcc
    have hnl : inR ((l.length : Int) + max 1 ((l.length : Int) / 2)) := by constructor <;> omega
    rw [if_pos hnl, if_pos (by omega), if_neg (by omega)]
    simp only [Option.bind_some]
    rw [if_pos h1]
    unfold fJ7_copyOf_1904c
    rw [if_pos r1]
    unfold fJ7_copyOf_6403c
    generalize hn : (l.length : Int) + max 1 ((l.length : Int) / 2) = n
    have hn1 : (l.length : Int) < n := by omega
    have hn2 : n ≤ 48 := by omega
    rw [if_pos ⟨⟨by omega, by omega⟩, hT, by omega⟩]
    simp only [zl_eq]
    unfold fJ7_copyOf_6403c_b24
    have hne : dW D e 1 ≠ dT D := by have := r1.2.1; omega
    have hne' : e ≠ dT D := by have := h1.2.1; omega
    have nO : dO (dnew D 22 n.toNat) (dT D) 22 := dO_nw hb
    have nS : ((dH (dnew D 22 n.toNat) (dT D)).2 : Int) = n := dH_dnew (by omega)
    have oO : dO (dnew D 22 n.toNat) (dW D e 1) 22 := (Ev.dnew (P := fun _ => False) D).dO r1
    have oS : (dH (dnew D 22 n.toNat) (dW D e 1)).2 = (dH D (dW D e 1)).2 := (Ev.dnew (P := fun _ => False) D).sz r1
    have oA : alen (dnew D 22 n.toNat) (dW D e 1) = l.length := by
      unfold alen
      rw [if_neg (by have := r1.2.1; omega), oS, ← e0, ← hc]
    have hl' : ((dH D (dW D e 1)).2 : Int) = l.length := by rw [hc, e0]
    rw [if_pos (show isArr (dnew D 22 n.toNat) (dW D e 1) from Or.inr ⟨oO.1, oO.2.1, by rw [oO.2.2]; decide⟩), if_pos oO, if_pos nO, oA, show min (l.length : Int) n = l.length by omega, if_pos ⟨by decide, by decide, by omega, by rw [oS]; omega, by rw [nS]; omega⟩]
    refine ⟨dup (dcpy (dnew D 22 n.toNat) (dW D e 1) (dT D) 0 0 l.length) e 1 (dT D), rfl, ⟨⟨nO, by omega⟩, ?_, ?_, ?_, fun i hi => ?_⟩, ?_, ?_, ?_, ?_, ?_⟩
    · show (l.length : Int) ≤ ((dH (dnew D 22 n.toNat) (dT D)).2 : Int)
      rw [nS]; omega
    · show 10 ≤ (dH (dnew D 22 n.toNat) (dT D)).2
      omega
    · show (dH (dnew D 22 n.toNat) (dT D)).2 ≤ 48
      omega
    · rw [dup_at, if_neg (fun q => hne' q.1.symm), dcpy_at, if_pos ⟨rfl, by omega, by omega⟩, dnew_at, if_neg hne]
      rw [← r5 i hi]
      congr 1
      omega
    · show (l.length : Int) < ((dH (dnew D 22 n.toNat) (dT D)).2 : Int)
      rw [nS]; omega
    · simp [dup_at]
    · rw [dup_at, if_neg (by omega), dcpy_at, if_neg (fun q => hne' q.1), dnew_at, if_neg hne']
    · rw [dup_at, if_neg (by omega), dcpy_at, if_neg (fun q => hne' q.1), dnew_at, if_neg hne']
    · refine (((Ev.dnew (P := fun a => a = e) D).trans (Ev.dcpy (P := fun a => a = e ∨ a = dT D) (dnew D 22 n.toNat) (fun _ => Or.inr rfl)) (fun a ha q => ?_)).trans (Ev.dup (P := fun a => a = e) _ (fun _ => rfl)) (fun _ _ h => h)).mono (by omega) (by omega) (fun _ _ h => h)
      rcases q with q | q
      · exact q
      · omega
theorem s_add {D : DD} {e v : Int} {l : List Int} {m : Int} (h : AL D e l m) (hl : l.length ≤ 32) (hm : m < 999999) (hv : gdE D v) (hT : dT D < 600000) (hS : dS D + 48 ≤ 7200000) :
    ∃ D', fJx4a65c_add_9ea2d e v D = some (1, D') ∧ AL D' e (l ++ [v]) (m + 1) ∧ Ev (FA D e) 1 48 D D' ∧ (dW D' e 1 = dW D e 1 ∨ dT D ≤ dW D' e 1) := by
  have h0 := h
  obtain ⟨h1, h2, h3, h4, h5⟩ := h
  have hb := dO_gt h1
  unfold fJx4a65c_add_9ea2d
  rw [if_pos h1, if_pos (by constructor <;> omega)]
  simp only [zl_eq]
  generalize hD1 : dup D e 0 (dW D e 0 + 1) = D1
  have E1 : Ev (fun a => a = e) 0 0 D D1 := by rw [← hD1]; exact Ev.dup _ (fun _ => rfl)
  have w0 : dW D1 e 0 = dW D e 0 + 1 := by rw [← hD1]; simp [dup_at]
  have w1 : dW D1 e 1 = dW D e 1 := by rw [← hD1]; simp [dup_at]
  have w2 : dW D1 e 2 = dW D e 2 := by rw [← hD1]; simp [dup_at]
  have hT1 : dT D1 = dT D := by rw [← hD1]; rfl
  have hS1 : dS D1 = dS D := by rw [← hD1]; rfl
  have hA1 : AL D1 e l (m + 1) := by
    refine ⟨E1.dO h1, by rw [w2]; exact h2, ⟨by omega, by omega, by omega⟩, h4, ?_⟩
    rw [w1]
    exact h5.imp id (fun q => q.ev E1 (fun q' => dO_ne h1 q.1.1 (by decide) q'.symm))
  rw [w1, w2, h2]
  -- the array with room
  have key : ∀ (D2 : DD) (r : Int), dO D2 e 9 → ALa D2 r l → (l.length : Int) < (dH D2 r).2 → dW D2 e 1 = r → dW D2 e 0 = dW D e 0 + 1 → gdE D2 v → ∃ D', fJx4a65c_add_72be8_b11 e v r l.length D2 = some D' ∧ AL D' e (l ++ [v]) (m + 1) ∧ Ev (fun a => a = e ∨ a = r) 0 0 D2 D' ∧ dW D' e 1 = r := by
    intro D2 r g1 g2 g3 g4 g5 g6
    unfold fJx4a65c_add_72be8_b11
    have hne : e ≠ r := dO_ne g1 g2.1.1 (by decide)
    rw [if_pos g2.1.1, if_pos ⟨by omega, g3⟩, if_pos g6, zl_eq]
    rw [if_pos (show dO (dup D2 r l.length v) e 9 from g1), if_pos (by constructor <;> omega)]
    refine ⟨_, rfl, ⟨g1, ?_, ⟨?_, ?_, ?_⟩, ?_, Or.inr ?_⟩, ?_, ?_⟩
    · rw [dup_at, if_pos ⟨rfl, rfl⟩]; simp
    · rw [dup_at, if_neg (by omega), dup_at, if_neg (fun q => hne q.1), g5]; omega
    · rw [dup_at, if_neg (by omega), dup_at, if_neg (fun q => hne q.1), g5]; omega
    · omega
    · simp; omega
    · have e1 : dW (dup (dup D2 r l.length v) e 2 (l.length + 1)) e 1 = r := by rw [dup_at, if_neg (by omega), dup_at, if_neg (fun q => hne q.1), g4]
      rw [e1]
      refine ⟨g2.1, ?_, g2.2.2.1, g2.2.2.2.1, fun i hi => ?_⟩
      · show (((l ++ [v]).length : Nat) : Int) ≤ (dH D2 r).2
        simp; omega
      · rw [dup_at, if_neg (fun q => hne q.1.symm), dup_at]
        by_cases c : i = l.length
        · subst c
          rw [if_pos ⟨rfl, rfl⟩]
          simp
        · have hi' : i < l.length := by simp at hi; omega
          rw [if_neg (by omega), g2.2.2.2.2 i hi']
          simp [List.getD_eq_getElem?_getD, List.getElem?_append_left hi']
    · exact ((Ev.dup (P := fun a => a = e ∨ a = r) _ (fun _ => Or.inr rfl)).trans (Ev.dup (P := fun a => a = e ∨ a = r) _ (fun _ => Or.inl rfl)) (fun _ _ h => h)).mono (by omega) (by omega) (fun _ _ h => h)
    · rw [dup_at, if_neg (by omega), dup_at, if_neg (fun q => hne q.1), g4]
  unfold fJx4a65c_add_72be8
  rw [if_pos (by have := hA1.isArr; rw [w1] at this; exact this)]
  by_cases c : (l.length : Int) = alen D1 (dW D e 1)
  · rw [if_pos c]
    obtain ⟨D2, q1, q2, q3, q4, q5, q6, q7⟩ := s_grow hA1 hl (by rw [w1]; exact c) (by omega) (by omega)
    rw [q1]
    simp only [Option.bind_some]
    rw [if_pos (E1.dO h1)]
    obtain ⟨D3, k1, k2, k3, k4⟩ := key D2 (dT D1) (q7.dO (E1.dO h1)) q2 q3 q4 (by rw [q5, w0]) (q7.gdE (E1.gdE hv))
    refine ⟨D3, by rw [k1]; rfl, k2, (((E1.trans q7 (fun _ _ h => h)).mono (by omega) (by omega) (fun a _ q => Or.inl q)).trans (P := FA D e) (c := 1) (s := 48) k3 (fun a ha q => ?_)).mono (by omega) (by omega) (fun a _ q => q), Or.inr (by omega)⟩
    rcases q with q | q
    · exact Or.inl q
    · omega
  · rw [if_neg c]
    rcases hA1.2.2.2.2 with ⟨q1, q2⟩ | q
    · exfalso
      rw [w1] at q1
      rw [q1, q2] at c
      exact c rfl
    · rw [w1] at q
      have e0 : alen D1 (dW D e 1) = (dH D1 (dW D e 1)).2 := by unfold alen; rw [if_neg (by have := q.1.2; omega)]
      obtain ⟨D3, k1, k2, k3, k4⟩ := key D1 (dW D e 1) (E1.dO h1) q (by have := q.2.1; omega) w1 w0 (E1.gdE hv)
      exact ⟨D3, by rw [k1]; rfl, k2, ((E1.mono (Int.le_refl _) (Int.le_refl _) (fun a _ q => Or.inl q)).trans (P := FA D e) k3 (fun a ha q => q)).mono (by omega) (by omega) (fun a _ q => q), Or.inl k4⟩
theorem s_size {D : DD} {e : Int} {l : List Int} {m : Int} (h : AL D e l m) : fJx4a65c_size_8abf5 e D = some (l.length : Int) := by
  unfold fJx4a65c_size_8abf5
  rw [if_pos h.1, h.2.1]
theorem s_isEmpty {D : DD} {e : Int} {l : List Int} {m : Int} (h : AL D e l m) : fJx4a65c_isEmpty_aae02 e D = some (if l = [] then 1 else 0) := by
  unfold fJx4a65c_isEmpty_aae02
  rw [if_pos h.1, h.2.1]
  cases l with
  | nil => rfl
  | cons a l => rw [if_neg (by simp; omega), if_neg (by simp)]
theorem s_chk {D : DD} {i n : Int} (h : 0 ≤ i ∧ i < n) : fJ15_checkIndex_7cf53 i n D = some i := by
  unfold fJ15_checkIndex_7cf53 fJ3_checkIndex_8e157
  rw [if_neg (by omega), if_pos h.2]
  rfl
theorem AL.arr {D : DD} {e : Int} {l : List Int} {m : Int} (h : AL D e l m) (hl : l ≠ []) : ALa D (dW D e 1) l := by
  rcases h.2.2.2.2 with ⟨-, q⟩ | q
  · exact absurd q hl
  · exact q
theorem s_get {D : DD} {e : Int} {l : List Int} {m : Int} (h : AL D e l m) {i : Nat} (hi : i < l.length) : fJx4a65c_get_915e3 e i D = some (l.getD i 0) := by
  have hA := h.arr (by intro q; rw [q] at hi; cases hi)
  unfold fJx4a65c_get_915e3
  rw [if_pos h.1, h.2.1, s_chk ⟨by omega, by omega⟩]
  simp only [Option.bind_some]
  unfold fJx4a65c_elementData_915e3
  rw [if_pos h.1, if_pos hA.1.1, if_pos ⟨by omega, by have := hA.2.1; omega⟩, hA.2.2.2.2 i hi]
  rfl
/-- an iterator -/
def It (D : DD) (t e : Int) (i : Nat) : Prop := dO D t 10 ∧ dW D t 3 = e ∧ dW D t 0 = i ∧ dW D t 2 = dW D e 0
theorem s_iter {D : DD} {e : Int} {l : List Int} {m : Int} (h : AL D e l m) (hT : dT D < 600000) (hS : dS D + 4 ≤ 7200000) :
    ∃ D', fJx4a65c_iterator_32c93 e D = some (dT D, D') ∧ It D' (dT D) e 0 ∧ Ev (fun _ => False) 1 4 D D' := by
  have h1 := h.1
  have hb := dO_gt h1
  have hne : e ≠ dT D := by have := h1.2.1; omega
  unfold fJx4a65c_iterator_32c93
  rw [if_pos ⟨hT, hS⟩]
  simp only [zl_eq]
  unfold fJx35411_init_45d68
  have n1 : dO (dnew D 10 4) (dT D) 10 := dO_nw hb
  rw [if_pos n1]
  simp only [zl_eq]
  have e3 : dW (dup (dup (dnew D 10 4) (dT D) 3 e) (dT D) 1 (-1)) (dT D) 3 = e := by simp [dup_at]
  rw [e3, if_pos (show dO (dup (dup (dnew D 10 4) (dT D) 3 e) (dT D) 1 (-1)) e 9 from (Ev.dnew (P := fun _ => False) D).dO h1)]
  refine ⟨_, rfl, ⟨n1, ?_, ?_, ?_⟩, ?_⟩
  · simp [dup_at]
  · simp [dup_at, dnew_at]
  · simp [dup_at, dnew_at, hne]
  · refine ((((Ev.dnew (P := fun _ => False) D).trans (Ev.dup (P := fun a => a = dT D) _ (fun _ => rfl)) (fun a ha q => by omega)).trans (Ev.dup (P := fun a => a = dT D) _ (fun _ => rfl)) (fun a ha q => by omega)).trans (Ev.dup (P := fun a => a = dT D) _ (fun _ => rfl)) (fun a ha q => by omega)).mono (by omega) (by omega) (fun _ _ h => h)
theorem s_has {D : DD} {t e : Int} {l : List Int} {m : Int} {i : Nat} (h : AL D e l m) (hI : It D t e i) : fJx35411_hasNext_aae02 t D = some (if i = l.length then 0 else 1) := by
  obtain ⟨a1, a2, a3, a4⟩ := hI
  unfold fJx35411_hasNext_aae02
  rw [if_pos a1, a2, if_pos h.1, a3, h.2.1]
  by_cases c : i = l.length
  · rw [if_pos c, if_pos (by omega)]
  · rw [if_neg c, if_neg (by omega)]
theorem s_next {D : DD} {t e : Int} {l : List Int} {m : Int} {i : Nat} (h : AL D e l m) (hI : It D t e i) (hi : i < l.length) :
    ∃ D', fJx35411_next_0502b t D = some (l.getD i 0, D') ∧ It D' t e (i + 1) ∧ AL D' e l m ∧ Ev (fun a => a = t) 0 0 D D' := by
  have hA := h.arr (by intro q; rw [q] at hi; cases hi)
  have hI0 := hI
  obtain ⟨a1, a2, a3, a4⟩ := hI
  have ht : t ≠ e := dO_ne a1 h.1 (by decide)
  have htr : t ≠ dW D e 1 := dO_ne a1 hA.1.1 (by decide)
  have e0 : alen D (dW D e 1) = (dH D (dW D e 1)).2 := by
    unfold alen
    rw [if_neg (by have := hA.1.2; omega)]
  unfold fJx35411_next_0502b fJx35411_checkForComodification_da8c8
  rw [if_pos a1, a2, if_pos h.1, a4, if_pos rfl]
  simp only [Option.bind_some]
  rw [if_pos a1, if_pos h.1, a3, h.2.1, if_pos (by omega), if_pos h.isArr, e0, if_pos (by have := hA.2.1; omega), if_pos (by have := h.2.2.2.1; constructor <;> omega)]
  simp only [zl_eq]
  have E1 : Ev (fun a => a = t) 0 0 D (dup (dup D t 0 (i + 1)) t 1 i) := ((Ev.dup (P := fun a => a = t) _ (fun _ => rfl)).trans (Ev.dup (P := fun a => a = t) _ (fun _ => rfl)) (fun _ _ h => h)).mono (by omega) (by omega) (fun _ _ h => h)
  rw [if_pos (show dO (dup (dup D t 0 (i + 1)) t 1 i) (dW D e 1) 22 from hA.1.1), if_pos ⟨by omega, by have := hA.2.1; show (i : Int) < ((dH D (dW D e 1)).2 : Int); omega⟩]
  refine ⟨dup (dup D t 0 (i + 1)) t 1 i, ?_, ⟨a1, ?_, ?_, ?_⟩, h.ev E1 (fun q => ht q.symm) (fun q => htr q.symm), E1⟩
  · rw [E1.at hA.1.1.2.1 (fun q => htr q.symm), hA.2.2.2.2 i hi]
  · rw [dup_at, if_neg (by omega), dup_at, if_neg (by omega), a2]
  · rw [dup_at, if_neg (by omega), dup_at, if_pos ⟨rfl, rfl⟩]; omega
  · rw [dup_at, if_neg (by omega), dup_at, if_neg (by omega), a4, E1.at h.1.2.1 (fun q => ht q.symm)]
theorem s_remove {D : DD} {e : Int} {l : List Int} {m : Int} {i : Nat} (h : AL D e l m) (hi : i < l.length) (hm : m < 999999) :
    ∃ D', fJx4a65c_remove_915e3 e i D = some (l.getD i 0, D') ∧ AL D' e (l.eraseIdx i) (m + 1) ∧ Ev (FA D e) 0 0 D D' := by
  have hA := h.arr (by intro q; rw [q] at hi; cases hi)
  obtain ⟨h1, h2, h3, h4, h5⟩ := h
  have hne : e ≠ dW D e 1 := dO_ne h1 hA.1.1 (by decide)
  have hn : (l.length : Int) - 1 < ((dH D (dW D e 1)).2 : Int) := by have := hA.2.1; omega
  unfold fJx4a65c_remove_915e3
  rw [if_pos h1, h2, s_chk ⟨by omega, by omega⟩]
  simp only [Option.bind_some]
  rw [if_pos hA.1.1, if_pos ⟨by omega, by have := hA.2.1; omega⟩, hA.2.2.2.2 i hi]
  unfold fJx4a65c_fastRemove_b59b0
  rw [if_pos h1, if_pos (by constructor <;> omega), zl_eq]
  have w2 : dW (dup D e 0 (dW D e 0 + 1)) e 2 = l.length := by rw [dup_at, if_neg (by omega), h2]
  rw [w2, if_pos (by constructor <;> omega)]
  -- the last slot emptied
  have key : ∀ (D2 : DD), Ev (FA D e) 0 0 D D2 → dW D2 e 0 = dW D e 0 + 1 → dW D2 e 1 = dW D e 1 → (∀ j : Nat, j < l.length - 1 → dW D2 (dW D e 1) j = (l.eraseIdx i).getD j 0) → ∃ D', fJx4a65c_fastRemove_b59b0_b34 e (dW D e 1) ((l.length : Int) - 1) D2 = some D' ∧ AL D' e (l.eraseIdx i) (m + 1) ∧ Ev (FA D e) 0 0 D D' := by
    intro D2 E2 g0 g1 g2
    have hO2 : dO D2 (dW D e 1) 22 := E2.dO hA.1.1
    have hS2 : (dH D2 (dW D e 1)).2 = (dH D (dW D e 1)).2 := E2.sz hA.1.1
    have hlen : (l.eraseIdx i).length = l.length - 1 := List.length_eraseIdx_of_lt hi
    unfold fJx4a65c_fastRemove_b59b0_b34
    rw [if_pos (E2.dO h1), zl_eq, if_pos (show dO (dup D2 e 2 ((l.length : Int) - 1)) (dW D e 1) 22 from hO2), if_pos ⟨by omega, by show (l.length : Int) - 1 < ((dH D2 (dW D e 1)).2 : Int); rw [hS2]; exact hn⟩, if_pos (show gdE _ 0 from Or.inl rfl), zl_eq]
    refine ⟨dup (dup D2 e 2 ((l.length : Int) - 1)) (dW D e 1) ((l.length : Int) - 1) 0, rfl, ⟨E2.dO h1, ?_, ⟨?_, ?_, ?_⟩, ?_, Or.inr ?_⟩, ?_⟩
    · rw [dup_at, if_neg (fun q => hne q.1), dup_at, if_pos ⟨rfl, rfl⟩, hlen]; omega
    · rw [dup_at, if_neg (fun q => hne q.1), dup_at, if_neg (by omega), g0]; omega
    · rw [dup_at, if_neg (fun q => hne q.1), dup_at, if_neg (by omega), g0]; omega
    · omega
    · omega
    · rw [dup_at, if_neg (fun q => hne q.1), dup_at, if_neg (by omega), g1]
      refine ⟨⟨hO2, hA.1.2⟩, ?_, ?_, ?_, fun j hj => ?_⟩
      · show (((l.eraseIdx i).length : Nat) : Int) ≤ ((dH D2 (dW D e 1)).2 : Int)
        rw [hS2, hlen]; omega
      · show 10 ≤ (dH D2 (dW D e 1)).2
        rw [hS2]; exact hA.2.2.1
      · show (dH D2 (dW D e 1)).2 ≤ 48
        rw [hS2]; exact hA.2.2.2.1
      · rw [hlen] at hj
        rw [dup_at, if_neg (by omega), dup_at, if_neg (fun q => hne q.1.symm)]
        exact g2 j hj
    · exact ((E2.trans (Ev.dup (P := FA D e) _ (fun _ => Or.inl rfl)) (fun _ _ h => h)).trans (Ev.dup (P := FA D e) _ (fun _ => Or.inr rfl)) (fun _ _ h => h)).mono (by omega) (by omega) (fun _ _ h => h)
  have E1 : Ev (FA D e) 0 0 D (dup D e 0 (dW D e 0 + 1)) := Ev.dup _ (fun _ => Or.inl rfl)
  have g0 : dW (dup D e 0 (dW D e 0 + 1)) e 0 = dW D e 0 + 1 := by rw [dup_at, if_pos ⟨rfl, rfl⟩]
  have g1 : dW (dup D e 0 (dW D e 0 + 1)) e 1 = dW D e 1 := by rw [dup_at, if_neg (by omega)]
  by_cases c : (i : Int) < (l.length : Int) - 1
  · rw [if_pos c, if_pos (show dO (dup D e 0 (dW D e 0 + 1)) (dW D e 1) 22 from hA.1.1), if_pos ⟨by omega, by omega, by omega, by show (i : Int) + 1 + ((l.length : Int) - 1 - i) ≤ ((dH D (dW D e 1)).2 : Int); omega, by show (i : Int) + ((l.length : Int) - 1 - i) ≤ ((dH D (dW D e 1)).2 : Int); omega⟩, zl_eq]
    obtain ⟨D', k1, k2, k3⟩ := key (dcpy (dup D e 0 (dW D e 0 + 1)) (dW D e 1) (dW D e 1) (i + 1) i ((l.length : Int) - 1 - i)) ((E1.trans (Ev.dcpy (P := FA D e) _ (fun _ => Or.inr rfl)) (fun _ _ h => h)).mono (by omega) (by omega) (fun _ _ h => h)) (by rw [dcpy_at, if_neg (fun q => hne q.1), g0]) (by rw [dcpy_at, if_neg (fun q => hne q.1), g1]) (fun j hj => by
      rw [dcpy_at]
      have x : ∀ j : Int, dW (dup D e 0 (dW D e 0 + 1)) (dW D e 1) j = dW D (dW D e 1) j := fun j => by rw [dup_at, if_neg (fun q => hne q.1.symm)]
      rw [x, x]
      by_cases cj : j < i
      · rw [if_neg (by omega), hA.2.2.2.2 j (by omega)]
        simp only [List.getD_eq_getElem?_getD, List.getElem?_eraseIdx, if_pos cj]
      · rw [if_pos ⟨rfl, by omega, by omega⟩]
        have := hA.2.2.2.2 (j + 1) (by omega)
        rw [show (i : Int) + 1 + ((j : Int) - i) = ((j + 1 : Nat) : Int) by omega, this]
        simp only [List.getD_eq_getElem?_getD, List.getElem?_eraseIdx, if_neg cj])
    rw [k1]
    exact ⟨D', rfl, k2, k3⟩
  · rw [if_neg c]
    obtain ⟨D', k1, k2, k3⟩ := key (dup D e 0 (dW D e 0 + 1)) E1 g0 g1 (fun j hj => by
      rw [dup_at, if_neg (fun q => hne q.1.symm), hA.2.2.2.2 j (by omega)]
      simp only [List.getD_eq_getElem?_getD, List.getElem?_eraseIdx, if_pos (show j < i by omega)])
    rw [k1]
    exact ⟨D', rfl, k2, k3⟩
theorem s_clear {D : DD} {e : Int} {l : List Int} {m : Int} (h : AL D e l m) (hm : m < 999999) :
    ∃ D', fJx4a65c_clear_da8c8 e D = some D' ∧ AL D' e [] (m + 1) ∧ Ev (FA D e) 0 0 D D' := by
  have h0 := h
  obtain ⟨h1, h2, h3, h4, h5⟩ := h
  unfold fJx4a65c_clear_da8c8
  rw [if_pos h1, if_pos (by constructor <;> omega), zl_eq, zl_eq]
  have w1 : dW (dup D e 0 (dW D e 0 + 1)) e 1 = dW D e 1 := by rw [dup_at, if_neg (by omega)]
  have w2 : dW (dup D e 0 (dW D e 0 + 1)) e 2 = l.length := by rw [dup_at, if_neg (by omega), h2]
  rw [w1, w2]
  have E1 : Ev (FA D e) 0 0 D (dup (dup D e 0 (dW D e 0 + 1)) e 2 0) := ((Ev.dup (P := FA D e) _ (fun _ => Or.inl rfl)).trans (Ev.dup (P := FA D e) _ (fun _ => Or.inl rfl)) (fun _ _ h => h)).mono (by omega) (by omega) (fun _ _ h => h)
  have loop := lp_FU (f := fun q => fJx4a65c_clear_da8c8_s27 (dW D e 1) (l.length : Int) q.1 q.2)
    (fun i q => q.1 = (i : Int) ∧ Ev (FA D e) 0 0 D q.2 ∧ ∀ k : Int, dW q.2 e k = dW (dup (dup D e 0 (dW D e 0 + 1)) e 2 0) e k)
    (fun q => Ev (FA D e) 0 0 D q ∧ ∀ k : Int, dW q e k = dW (dup (dup D e 0 (dW D e 0 + 1)) e 2 0) e k) l.length (by omega)
    (fun i q hi hI => by
      obtain ⟨i9, D2⟩ := q
      obtain ⟨k1, k2, k3⟩ := hI
      have k1 : i9 = (i : Int) := k1
      subst k1
      have hA := AL.arr (l := l) h0 (by intro q; rw [q] at hi; cases hi)
      have hne : e ≠ dW D e 1 := dO_ne h1 hA.1.1 (by decide)
      left
      show ∃ s', fJx4a65c_clear_da8c8_s27 (dW D e 1) (l.length : Int) (i : Int) D2 = some (.inl s') ∧ _
      unfold fJx4a65c_clear_da8c8_s27
      have k2' : Ev (FA D e) 0 0 D D2 := k2
      rw [if_pos (by omega), if_pos (k2'.dO hA.1.1), if_pos ⟨by omega, by rw [k2'.sz hA.1.1]; have := hA.2.1; omega⟩, if_pos (show gdE _ 0 from Or.inl rfl), zl_eq, if_pos (by constructor <;> omega)]
      refine ⟨_, rfl, by show (i : Int) + 1 = ((i + 1 : Nat) : Int); omega, (k2'.trans (Ev.dup (P := FA D e) _ (fun _ => Or.inr rfl)) (fun _ _ h => h)).mono (by omega) (by omega) (fun _ _ h => h), fun k => ?_⟩
      show dW (dup D2 (dW D e 1) i 0) e k = _
      rw [dup_at, if_neg (fun q => hne q.1)]
      exact k3 k)
    (fun q hI => by
      obtain ⟨i9, D2⟩ := q
      obtain ⟨k1, k2, k3⟩ := hI
      have k1 : i9 = (l.length : Int) := k1
      subst k1
      show ∃ s', fJx4a65c_clear_da8c8_s27 (dW D e 1) (l.length : Int) (l.length : Int) D2 = some (.inr s') ∧ _
      unfold fJx4a65c_clear_da8c8_s27
      rw [if_neg (by omega)]
      exact ⟨_, rfl, k2, k3⟩)
    (0, dup (dup D e 0 (dW D e 0 + 1)) e 2 0) ⟨rfl, E1, fun _ => rfl⟩
  obtain ⟨D', q1, q2, q3⟩ := loop
  refine ⟨D', by rw [q1]; rfl, ⟨q2.dO h1, ?_, ⟨?_, ?_, ?_⟩, by simp, ?_⟩, q2⟩
  · rw [q3, dup_at, if_pos ⟨rfl, rfl⟩]; rfl
  · rw [q3, dup_at, if_neg (by omega), dup_at, if_pos ⟨rfl, rfl⟩]; omega
  · rw [q3, dup_at, if_neg (by omega), dup_at, if_pos ⟨rfl, rfl⟩]; omega
  · omega
  · rw [q3, dup_at, if_neg (by omega), dup_at, if_neg (by omega)]
    rcases h5 with ⟨q, -⟩ | q
    · exact Or.inl ⟨q, rfl⟩
    · refine Or.inr ⟨⟨q2.dO q.1.1, q.1.2⟩, ?_, ?_, ?_, fun i hi => absurd hi (by simp)⟩
      · show (((([] : List Int).length) : Nat) : Int) ≤ _
        simp
      · rw [q2.sz q.1.1]; exact q.2.2.1
      · rw [q2.sz q.1.1]; exact q.2.2.2.1

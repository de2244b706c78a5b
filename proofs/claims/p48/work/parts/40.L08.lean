set_option maxRecDepth 20000
/-! sorting -/
def AI (D : DD) (a : Int) (l : List Int) : Prop := dO D a 20 ∧ (dH D a).2 = l.length ∧ ∀ i : Nat, i < l.length → dW D a i = l.getD i 0
abbrev sorted (l : List Int) : Prop := l.Pairwise (· ≤ ·)
theorem AI.ev {P : Int → Prop} {c s : Int} {D D' : DD} {a : Int} {l : List Int} (h : AI D a l) (E : Ev P c s D D') (hp : ¬ P a) : AI D' a l := ⟨E.dO h.1, by rw [E.sz h.1]; exact h.2.1, fun i hi => by rw [E.at h.1.2.1 hp]; exact h.2.2 i hi⟩
theorem getD_app {A B : List Int} {i : Nat} : (A ++ B).getD i 0 = if i < A.length then A.getD i 0 else B.getD (i - A.length) 0 := by
  simp only [List.getD_eq_getElem?_getD, List.getElem?_append]
  split <;> rfl
theorem s_inner {D : DD} {a x : Int} {l : List Int} {i : Nat} (h : AI D a l) (hi : i < l.length) (hx : l.getD i 0 = x) (hR : ∀ y ∈ l, inR y) (hs : sorted (l.take i)) (hn : l.length < 1000) :
    ∃ (j : Nat) (D' : DD), zlp (fun q => fX11_insertionSort_s30 a 0 l.length i x q.1 q.2) FU ((i : Int), D) = some ((j : Int) - 1, D') ∧ j ≤ i ∧ (∀ y, y < j → l.getD y 0 ≤ x) ∧ (∀ y, j ≤ y → y < i → x < l.getD y 0) ∧ (dO D' a 20 ∧ (dH D' a).2 = l.length) ∧ (∀ y : Nat, y < l.length → y ≠ j → dW D' a y = if j < y ∧ y ≤ i then l.getD (y - 1) 0 else l.getD y 0) ∧ Ev (fun b => b = a) 0 0 D D' := by
  have hO := h.1
  have hmono : ∀ y z, y < z → z < i → l.getD y 0 ≤ l.getD z 0 := by
    intro y z h1 h2
    have := List.pairwise_iff_getElem.mp hs y z (by rw [List.length_take]; omega) (by rw [List.length_take]; omega) h1
    rw [List.getElem_take, List.getElem_take] at this
    rw [List.getD_eq_getElem?_getD, List.getD_eq_getElem?_getD, List.getElem?_eq_getElem (by omega), List.getElem?_eq_getElem (by omega)]
    exact this
  -- the loop: at step t the place is i - t
  have loop := lp_FU (f := fun q : Int × DD => fX11_insertionSort_s30 a 0 l.length i x q.1 q.2)
    (fun t q => t ≤ i ∧ q.1 = ((i - t : Nat) : Int) ∧ (∀ y, i - t ≤ y → y < i → x < l.getD y 0) ∧ Ev (fun b => b = a) 0 0 D q.2 ∧ ∀ y : Nat, y < l.length → y ≠ i - t → dW q.2 a y = if i - t < y ∧ y ≤ i then l.getD (y - 1) 0 else l.getD y 0)
    (fun q => ∃ j : Nat, q.1 = (j : Int) - 1 ∧ j ≤ i ∧ (∀ y, y < j → l.getD y 0 ≤ x) ∧ (∀ y, j ≤ y → y < i → x < l.getD y 0) ∧ Ev (fun b => b = a) 0 0 D q.2 ∧ ∀ y : Nat, y < l.length → y ≠ j → dW q.2 a y = if j < y ∧ y ≤ i then l.getD (y - 1) 0 else l.getD y 0)
    i (by omega)
    (fun t q ht hI => by
      obtain ⟨v, D2⟩ := q
      obtain ⟨k1, k2, k3, k4, k5⟩ := hI
      have k2 : v = ((i - t : Nat) : Int) := k2
      subst k2
      have k4' : Ev (fun b => b = a) 0 0 D D2 := k4
      show (∃ s', fX11_insertionSort_s30 a 0 l.length i x ((i - t : Nat) : Int) D2 = some (.inl s') ∧ _) ∨ ∃ r, fX11_insertionSort_s30 a 0 l.length i x ((i - t : Nat) : Int) D2 = some (.inr r) ∧ _
      have e1 : ((i - t : Nat) : Int) + (-1) = ((i - (t + 1) : Nat) : Int) := by omega
      have e2 : ((i - (t + 1) : Nat) : Int) + 1 = ((i - t : Nat) : Int) := by omega
      have hsz : ((dH D2 a).2 : Int) = l.length := by rw [k4'.sz hO, h.2.1]
      have w : dW D2 a ((i - (t + 1) : Nat) : Int) = l.getD (i - (t + 1)) 0 := by
        have := k5 (i - (t + 1)) (by omega) (by omega)
        rw [this, if_neg (by omega)]
      unfold fX11_insertionSort_s30
      rw [e1, if_pos (by constructor <;> omega), if_neg (by omega), if_pos (k4'.dO hO), if_pos ⟨by omega, by omega⟩, w, e2]
      by_cases c : x < l.getD (i - (t + 1)) 0
      · left
        rw [if_pos c, if_pos ⟨by omega, by omega⟩, zl_eq]
        refine ⟨_, rfl, by omega, rfl, fun y h1 h2 => ?_, (k4'.trans (Ev.dup (P := fun b => b = a) _ (fun _ => rfl)) (fun _ _ h => h)).mono (by omega) (by omega) (fun _ _ h => h), fun y h1 h2 => ?_⟩
        · by_cases e : y = i - (t + 1)
          · rw [e]; exact c
          · exact k3 y (by omega) h2
        · show dW (dup D2 a ((i - t : Nat) : Int) (l.getD (i - (t + 1)) 0)) a y = _
          by_cases e : y = i - t
          · subst e
            rw [dup_at, if_pos ⟨rfl, rfl⟩, if_pos ⟨by omega, by omega⟩, show i - t - 1 = i - (t + 1) by omega]
          · rw [dup_at, if_neg (by omega), k5 y h1 e]
            by_cases e2 : i - t < y ∧ y ≤ i
            · rw [if_pos e2, if_pos ⟨by omega, e2.2⟩]
            · rw [if_neg e2, if_neg (by omega)]
      · right
        rw [if_neg c]
        refine ⟨_, rfl, i - t, by show ((i - (t + 1) : Nat) : Int) = ((i - t : Nat) : Int) - 1; omega, by omega, fun y hy => ?_, k3, k4, k5⟩
        by_cases e : y = i - (t + 1)
        · rw [e]; omega
        · have := hmono y (i - (t + 1)) (by omega) (by omega)
          omega)
    (fun q hI => by
      obtain ⟨v, D2⟩ := q
      obtain ⟨k1, k2, k3, k4, k5⟩ := hI
      have k2 : v = ((i - i : Nat) : Int) := k2
      subst k2
      show ∃ r, fX11_insertionSort_s30 a 0 l.length i x ((i - i : Nat) : Int) D2 = some (.inr r) ∧ _
      have e1 : ((i - i : Nat) : Int) + (-1) = -1 := by omega
      unfold fX11_insertionSort_s30
      rw [e1, if_pos (by constructor <;> omega), if_pos (by omega)]
      refine ⟨_, rfl, 0, by show (-1 : Int) = ((0 : Nat) : Int) - 1; omega, by omega, fun y hy => by omega, fun y h1 h2 => k3 y (by omega) h2, k4, fun y h1 h2 => ?_⟩
      have := k5 y h1 (by omega)
      rw [show i - i = 0 by omega] at this
      exact this)
    ((i : Int), D) ⟨by omega, by show (i : Int) = ((i - 0 : Nat) : Int); omega, fun y h1 h2 => by omega, (Ev.refl _ D), fun y h1 h2 => by
      show dW D a y = _
      rw [if_neg (by omega), h.2.2 y h1]⟩
  obtain ⟨⟨v, D'⟩, q1, j, q2, q3, q4, q5, q6, q7⟩ := loop
  have q2 : v = (j : Int) - 1 := q2
  subst q2
  have q6' : Ev (fun b => b = a) 0 0 D D' := q6
  exact ⟨j, D', q1, q3, q4, q5, ⟨q6'.dO hO, by rw [q6'.sz hO]; exact h.2.1⟩, q7, q6⟩
theorem sorted_ins {A B : List Int} {x : Int} (hA : ∀ y ∈ A, y ≤ x) (hB : ∀ y ∈ B, x ≤ y) (h : sorted (A ++ B)) : sorted (A ++ x :: B) := by
  rw [sorted, List.pairwise_append] at h ⊢
  obtain ⟨h1, h2, h3⟩ := h
  refine ⟨h1, List.pairwise_cons.mpr ⟨hB, h2⟩, fun y hy z hz => ?_⟩
  rcases List.mem_cons.mp hz with rfl | hz
  · exact hA y hy
  · exact h3 y hy z hz
theorem getD_mem {l : List Int} {i : Nat} (h : i < l.length) : l.getD i 0 ∈ l := by
  rw [List.getD_eq_getElem?_getD, List.getElem?_eq_getElem h]
  exact List.getElem_mem h
theorem mem_getD {l : List Int} {y : Int} (h : y ∈ l) : ∃ i, i < l.length ∧ l.getD i 0 = y := by
  obtain ⟨i, h1, h2⟩ := List.mem_iff_getElem.mp h
  exact ⟨i, h1, by rw [List.getD_eq_getElem?_getD, List.getElem?_eq_getElem h1]; exact h2⟩
theorem take_getD {l : List Int} {n i : Nat} (h : i < n) : (l.take n).getD i 0 = l.getD i 0 := by
  simp only [List.getD_eq_getElem?_getD, List.getElem?_take, if_pos h]
theorem drop_getD {l : List Int} {n i : Nat} : (l.drop n).getD i 0 = l.getD (n + i) 0 := by
  simp only [List.getD_eq_getElem?_getD, List.getElem?_drop]
theorem s_insStep {D : DD} {a : Int} {l : List Int} {i : Nat} (h : AI D a l) (hi : i + 1 < l.length) (hR : ∀ y ∈ l, inR y) (hs : sorted (l.take (i + 1))) (hn : l.length < 1000) :
    ∃ D' l', fX11_insertionSort_s3 a 0 l.length i D = some (.inl ((i : Int) + 1, D')) ∧ AI D' a l' ∧ l'.Perm l ∧ sorted (l'.take (i + 2)) ∧ Ev (fun b => b = a) 0 0 D D' := by
  have hsz : ((dH D a).2 : Int) = l.length := by rw [h.2.1]
  have e1 : (i : Int) + 1 = ((i + 1 : Nat) : Int) := by omega
  have e2 : ((i + 1 : Nat) : Int) - 1 = (i : Int) := by omega
  have w1 := h.2.2 (i + 1) hi
  have w0 := h.2.2 i (by omega)
  have tk : l.take (i + 2) = l.take (i + 1) ++ [l.getD (i + 1) 0] := by
    rw [List.take_succ, List.getElem?_eq_getElem hi, List.getD_eq_getElem?_getD, List.getElem?_eq_getElem hi]
    rfl
  unfold fX11_insertionSort_s3
  rw [e1, if_pos (by constructor <;> omega), if_pos (by omega), if_pos h.1, if_pos ⟨by omega, by omega⟩, e2, if_pos ⟨by omega, by omega⟩, w1, w0]
  by_cases c : l.getD (i + 1) 0 < l.getD i 0
  · rw [if_pos c]
    obtain ⟨j, D2, q1, q2, q3, q4, q5, q6, q7⟩ := s_inner (i := i + 1) h hi rfl hR hs hn
    rw [q1]
    simp only [Option.bind_some]
    have e3 : (j : Int) - 1 + 1 = (j : Int) := by omega
    rw [e3, if_pos ⟨by omega, by rw [q5.2]; omega⟩, zl_eq]
    unfold fX11_insertionSort_b64
    -- the list that comes
    generalize hx : l.getD (i + 1) 0 = x at *
    have hl : l = l.take j ++ ((l.drop j).take (i + 1 - j) ++ x :: l.drop (i + 2)) := by
      apply List.ext_getElem?
      intro y
      rw [List.getElem?_append, List.getElem?_append, List.length_take, List.length_take, List.length_drop]
      by_cases y1 : y < j
      · rw [if_pos (by omega), List.getElem?_take, if_pos y1]
      · rw [if_neg (by omega)]
        by_cases y2 : y < i + 1
        · rw [if_pos (by omega), List.getElem?_take, if_pos (by omega), List.getElem?_drop]
          congr 1
          omega
        · rw [if_neg (by omega)]
          by_cases y3 : y = i + 1
          · subst y3
            rw [show i + 1 - min j l.length - min (i + 1 - j) (l.length - j) = 0 by omega, List.getElem?_cons_zero, ← hx, List.getD_eq_getElem?_getD, List.getElem?_eq_getElem hi]
            rfl
          · rw [show y - min j l.length - min (i + 1 - j) (l.length - j) = (y - (i + 2)) + 1 by omega, List.getElem?_cons_succ, List.getElem?_drop]
            congr 1
            omega
    generalize hA : l.take j = A at hl
    generalize hB : (l.drop j).take (i + 1 - j) = B at hl
    generalize hC : l.drop (i + 2) = C at hl
    have lA : A.length = j := by rw [← hA, List.length_take]; omega
    have lB : B.length = i + 1 - j := by rw [← hB, List.length_take, List.length_drop]; omega
    have lC : C.length = l.length - (i + 2) := by rw [← hC, List.length_drop]
    have gA : ∀ y, y < j → A.getD y 0 = l.getD y 0 := fun y hy => by rw [← hA, take_getD hy]
    have gB : ∀ y, y < i + 1 - j → B.getD y 0 = l.getD (j + y) 0 := fun y hy => by rw [← hB, take_getD hy, drop_getD]
    have gC : ∀ y, C.getD y 0 = l.getD (i + 2 + y) 0 := fun y => by rw [← hC, drop_getD]
    refine ⟨dup D2 a j x, A ++ (x :: B ++ C), rfl, ⟨q5.1, ?_, fun y hy => ?_⟩, ?_, ?_, (q7.trans (Ev.dup (P := fun b => b = a) _ (fun _ => rfl)) (fun _ _ h => h)).mono (by omega) (by omega) (fun _ _ h => h)⟩
    · show (dH D2 a).2 = _
      rw [q5.2]
      simp [lA, lB, lC]
      omega
    · have hy : y < l.length := by simp [lA, lB, lC] at hy; omega
      rw [dup_at, getD_app, lA]
      by_cases y0 : y = j
      · subst y0
        rw [if_pos ⟨rfl, rfl⟩, if_neg (by omega), show y - y = 0 by omega]
        rfl
      · rw [if_neg (by omega), q6 y hy y0]
        by_cases y1 : y < j
        · rw [if_neg (by omega), if_pos y1, gA y y1]
        · rw [if_neg y1]
          obtain ⟨z, rfl⟩ : ∃ z, y = j + 1 + z := ⟨y - j - 1, by omega⟩
          rw [show j + 1 + z - j = z + 1 by omega]
          show _ = (B ++ C).getD z 0
          rw [getD_app, lB]
          by_cases y2 : z < i + 1 - j
          · rw [if_pos (by omega), if_pos y2, gB z y2]
            congr 1
            omega
          · rw [if_neg (by omega), if_neg y2, gC]
            congr 1
            omega
    · refine List.Perm.trans ?_ (List.Perm.of_eq hl.symm)
      refine List.Perm.append_left A ?_
      show (x :: (B ++ C)).Perm (B ++ x :: C)
      exact List.perm_middle.symm
    · have : (A ++ (x :: B ++ C)).take (i + 2) = A ++ x :: B := by
        rw [show A ++ (x :: B ++ C) = (A ++ x :: B) ++ C by simp, List.take_left' (by simp [lA, lB]; omega)]
      rw [this]
      have hAB : l.take (i + 1) = A ++ B := by
        rw [hl, show A ++ (B ++ x :: C) = (A ++ B) ++ x :: C by simp, List.take_left' (by simp [lA, lB]; omega)]
      rw [hAB] at hs
      refine sorted_ins (fun y hy => ?_) (fun y hy => ?_) hs
      · obtain ⟨p, p1, p2⟩ := mem_getD hy
        rw [← p2, gA p (by omega)]
        exact q3 p (by omega)
      · obtain ⟨p, p1, p2⟩ := mem_getD hy
        rw [← p2, gB p (by omega)]
        exact Int.le_of_lt (q4 (j + p) (by omega) (by omega))
  · rw [if_neg c]
    unfold fX11_insertionSort_b64
    refine ⟨D, l, rfl, h, List.Perm.refl l, ?_, Ev.refl _ D⟩
    rw [tk]
    have : sorted (l.take (i + 1) ++ l.getD (i + 1) 0 :: []) := sorted_ins (fun y hy => ?_) (fun y hy => by cases hy) (by rw [List.append_nil]; exact hs)
    · exact this
    · obtain ⟨p, p1, p2⟩ := mem_getD hy
      rw [List.length_take] at p1
      rw [take_getD (by omega)] at p2
      rw [← p2]
      by_cases e : p = i
      · rw [e]; omega
      · have := List.pairwise_iff_getElem.mp hs p i (by rw [List.length_take]; omega) (by rw [List.length_take]; omega) (by omega)
        rw [List.getElem_take, List.getElem_take] at this
        have h1 : l.getD p 0 ≤ l.getD i 0 := by
          rw [List.getD_eq_getElem?_getD, List.getD_eq_getElem?_getD, List.getElem?_eq_getElem (by omega), List.getElem?_eq_getElem (by omega)]
          exact this
        omega
theorem s_sort {D : DD} {a : Int} {l : List Int} (h : AI D a l) (ha : a < 1000000) (hR : ∀ y ∈ l, inR y) (hn : l.length < 44) (h0 : l ≠ []) :
    ∃ D' l', fJ7_sort_2022b a D = some D' ∧ AI D' a l' ∧ l'.Perm l ∧ sorted l' ∧ Ev (fun b => b = a) 0 0 D D' := by
  have hl : 0 < l.length := List.length_pos_iff.mpr h0
  have loop := lp_FU (f := fun q : Int × DD => fX11_insertionSort_s3 a 0 l.length q.1 q.2)
    (fun t q => q.1 = (t : Int) ∧ Ev (fun b => b = a) 0 0 D q.2 ∧ ∃ l', AI q.2 a l' ∧ l'.Perm l ∧ sorted (l'.take (t + 1)))
    (fun q => Ev (fun b => b = a) 0 0 D q ∧ ∃ l', AI q a l' ∧ l'.Perm l ∧ sorted l') (l.length - 1) (by omega)
    (fun t q ht hI => by
      obtain ⟨v, D2⟩ := q
      obtain ⟨k1, k2, l', k3, k4, k5⟩ := hI
      have k1 : v = (t : Int) := k1
      subst k1
      left
      have k4l := k4.length_eq
      have k3' : AI D2 a l' := k3
      obtain ⟨D3, l3, w1, w2, w3, w4, w5⟩ := s_insStep (i := t) k3' (by omega) (fun y hy => hR y (k4.mem_iff.mp hy)) k5 (by omega)
      rw [k4l] at w1
      refine ⟨((t : Int) + 1, D3), w1, by show (t : Int) + 1 = ((t + 1 : Nat) : Int); omega, (Ev.trans k2 w5 (fun _ _ h => h)).mono (by omega) (by omega) (fun _ _ h => h), l3, w2, w3.trans k4, w4⟩)
    (fun q hI => by
      obtain ⟨v, D2⟩ := q
      obtain ⟨k1, k2, l', k3, k4, k5⟩ := hI
      have k1 : v = ((l.length - 1 : Nat) : Int) := k1
      subst k1
      have k4l := k4.length_eq
      show ∃ r, fX11_insertionSort_s3 a 0 l.length ((l.length - 1 : Nat) : Int) D2 = some (.inr r) ∧ _
      unfold fX11_insertionSort_s3
      rw [if_pos (by constructor <;> omega), if_neg (by omega)]
      refine ⟨D2, rfl, k2, l', k3, k4, ?_⟩
      rw [show l.length - 1 + 1 = l'.length by omega, List.take_length] at k5
      exact k5)
    (0, D) ⟨rfl, Ev.refl _ D, l, h, List.Perm.refl l, by
      cases l with
      | nil => exact absurd rfl h0
      | cons x l => simp [sorted]⟩
  obtain ⟨D', q1, q2, l', q3, q4, q5⟩ := loop
  refine ⟨D', l', ?_, q3, q4, q5, q2⟩
  have hal : alen D a = l.length := by
    unfold alen
    rw [if_neg (by omega), h.2.1]
  unfold fJ7_sort_2022b
  rw [if_pos (Or.inr ⟨h.1.1, h.1.2.1, by rw [h.1.2.2]; decide⟩), hal]
  unfold fX11_sort
  rw [if_neg (by decide)]
  unfold fX11_sort_
  rw [if_pos (by constructor <;> omega), if_pos (inR_c rfl), if_pos (by omega), if_neg (by decide)]
  unfold fX11_sort__b46
  rw [if_pos (by omega)]
  unfold fX11_insertionSort
  rw [q1]
  rfl

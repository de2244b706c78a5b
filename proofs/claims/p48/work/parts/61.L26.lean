set_option maxRecDepth 20000
/-! a route is taken off -/
theorem getD_erase {l : List Int} {k i : Nat} : (l.eraseIdx k).getD i 0 = l.getD (if k ≤ i then i + 1 else i) 0 := by
  rw [List.getD_eq_getElem?_getD, List.getD_eq_getElem?_getD, List.getElem?_eraseIdx]
  by_cases c : i < k
  · rw [if_pos c, if_neg (by omega)]
  · rw [if_neg c, if_pos (by omega)]
section TO
variable {col : Col} {D : DD} {g : Int} {r : Row} {M B : Int} {h : HLs}
theorem lst_P {l : List Int} {j : Int} (H : HL col D g j l M) : ∀ a, a < dT D → dT D ≤ 600000 → FA D (dW D g j) a → col a = (g, j) := fun a ha ht q => by
  rcases q with q | q
  · rw [q]; exact H.2.1
  · rcases H.2.2 with p | p
    · omega
    · rw [q]; exact p
theorem l_arRoom (H : RLh col D g r M h) (hI : IH B r) (h30 : r 644 = 30) (hM : M < 900000) (hT : dT D ≤ 600000) : ∃ D' v, fJx4a65c_remove_915e3 (dW D g 9) 0 D = some (v, D') ∧ RLh col D' g (arA r) (M + 1) ⟨h.lw, h.lr, h.lh, h.lm, h.lc, h.la.eraseIdx 0⟩ ∧ Ev (fun a => (col a).1 = g) 0 0 D D' := by
  have hn := hI.1
  unfold IHn at hn
  have hN := H.na
  obtain ⟨D', w1, w2, w3, w4⟩ := s_rem H.ar.1 (i := 0) (by omega) (by omega)
  have P9 := lst_P H.ar
  have gno : ¬ FA D (dW D g 9) g := fun q => by
    have := P9 g H.o.2.1 hT q
    rw [H.co] at this
    have : (0 : Int) = 9 := congrArg Prod.snd this
    omega
  have g9 : dW D' g 9 = dW D g 9 := w3.at H.o.2.1 gno 9
  have hl : (h.la.eraseIdx 0).length = h.la.length - 1 := List.length_eraseIdx_of_lt (by omega)
  have aA : ∀ j, arA r j = if j = 644 then 29 else if 645 ≤ j ∧ j < 761 then r (j + 4) else r j := fun j => by unfold arA; rw [if_pos h30]
  refine ⟨D', _, w1, ?_, w3.mono (Int.le_refl _) (Int.le_refl _) (fun a ha q => by rw [P9 a ha hT q])⟩
  refine H.upd (q := 9) hI.1 w3 (fun a ha q => P9 a ha hT q) (by decide) (by omega) (by omega) (fun p p0 p1 => ?_) (Or.inl (by decide)) (Or.inl (by decide)) (Or.inl ⟨by decide, by decide, rfl⟩) (Or.inl (by decide)) (Or.inl (by decide)) (Or.inr ⟨⟨?_, ?_, ?_⟩, ?_, fun k hk => ?_⟩) ⟨rfl, rfl, rfl, rfl⟩ (by decide)
  · unfold pl at p1
    exact arA_o (by omega)
  · rw [g9]; exact w2
  · rw [g9]; exact H.ar.2.1
  · rw [g9, w4]; exact H.ar.2.2
  · show (((h.la.eraseIdx 0).length : Nat) : Int) = arA r 644
    rw [aA, if_pos rfl, hl]; omega
  · have hk : k < h.la.length - 1 := by rw [← hl]; exact hk
    show RW col (0, 0) D' ((h.la.eraseIdx 0).getD k 0) 4 _
    rw [getD_erase, if_pos (Nat.zero_le _)]
    have x := H.ea (k + 1) (by omega)
    have y := x.ev w3 (fun q => by
      have := P9 _ x.1.1.2.1 hT q
      rw [x.2.1] at this
      have : (0 : Int) = g := congrArg Prod.fst this
      have := H.o.1
      omega)
    refine ⟨y.1, y.2.1, fun i hi => ?_⟩
    rw [y.2.2 i hi]
    show r (645 + 4 * ((k + 1 : Nat) : Int) + i) = arA r (645 + 4 * (k : Int) + i)
    rw [aA, if_neg (by omega), if_pos (by omega)]
    congr 1
    omega
theorem l_arAdd (H : RLh col D g r M h) (hI : IHn B r) (h30 : r 644 < 30) (hM : M < 900000) (hT : dT D < 600000) (hS : dS D + 48 ≤ 7200000) {b : Int} {r' : Row} (hb : (dO D b 20 ∧ (dH D b).2 = 4) ∧ col b = (0, 0)) (hf : ∀ i : Nat, i < 4 → dW D b i = r' (645 + 4 * r 644 + i)) (h1 : ∀ j, j < 644 → r' j = r j) (h2 : r' 644 = r 644 + 1) (h3 : ∀ j, 645 ≤ j → j < 645 + 4 * r 644 → r' j = r j) :
    ∃ D' col', fJx4a65c_add_9ea2d (dW D g 9) b D = some (1, D') ∧ RLh col' D' g r' (M + 1) ⟨h.lw, h.lr, h.lh, h.lm, h.lc, h.la ++ [b]⟩ ∧ (∀ a, a < dT D → col' a = col a) ∧ Ev (fun a => (col a).1 = g) 1 48 D D' := by
  have hn := hI
  unfold IHn at hn
  have hN := H.na
  obtain ⟨D', w1, w2, w3, w4⟩ := s_add H.ar.1 (v := b) (by omega) (by omega) (Or.inr (Or.inl ⟨hb.1.1.1, hb.1.1.2.1, by rw [hb.1.1.2.2]; decide⟩)) hT hS
  generalize hc : (fun a => if a < dT D then col a else (g, 9) : Col) = col'
  have c0 : ∀ a, a < dT D → col' a = col a := fun a ha => by rw [← hc]; exact if_pos ha
  have c9 : ∀ a, dT D ≤ a → col' a = (g, 9) := fun a ha => by rw [← hc]; exact if_neg (by omega)
  have H0 : RLh col' D g r M h := H.keep (Ev.refl (fun _ => False) D) (fun _ _ _ z => z) c0
  have P9 := lst_P H0.ar
  have hT' : dT D ≤ 600000 := by omega
  have gno : ¬ FA D (dW D g 9) g := fun q => by
    have := P9 g H.o.2.1 hT' q
    rw [H0.co] at this
    have : (0 : Int) = 9 := congrArg Prod.snd this
    omega
  have g9 : dW D' g 9 = dW D g 9 := w3.at H.o.2.1 gno 9
  have hbl := hb.1.1.2.1
  refine ⟨D', col', w1, ?_, c0, w3.mono (Int.le_refl _) (Int.le_refl _) (fun a ha q => by rw [← c0 a ha, P9 a ha hT' q])⟩
  refine H0.upd (q := 9) hI w3 (fun a ha q => P9 a ha hT' q) (by decide) (by omega) (by omega) (fun p p0 p1 => ?_) (Or.inl (by decide)) (Or.inl (by decide)) (Or.inl ⟨by decide, by decide, rfl⟩) (Or.inl (by decide)) (Or.inl (by decide)) (Or.inr ⟨⟨?_, ?_, ?_⟩, ?_, fun k hk => ?_⟩) ⟨rfl, rfl, rfl, rfl⟩ (by decide)
  · unfold pl at p1
    exact h1 p (by omega)
  · rw [g9]; exact w2
  · rw [g9]; exact H0.ar.2.1
  · rw [g9]
    rcases w4 with q | q
    · rw [q]; exact H0.ar.2.2
    · exact Or.inr (c9 _ q)
  · show (((h.la ++ [b]).length : Nat) : Int) = r' 644
    rw [h2, List.length_append]
    show ((h.la.length + 1 : Nat) : Int) = _
    omega
  · have hk' : k < h.la.length + 1 := by have : k < (h.la ++ [b]).length := hk; simpa using this
    have bno : ∀ x, x < dT D → col' x = (0, 0) → ¬ FA D (dW D g 9) x := fun x hx hx2 q => by
      have := P9 x hx hT' q
      rw [hx2] at this
      have : (0 : Int) = g := congrArg Prod.fst this
      have := H.o.1
      omega
    show RW col' (0, 0) D' ((h.la ++ [b]).getD k 0) 4 _
    rw [getD_snoc hk]
    by_cases ck : k < h.la.length
    · rw [if_pos ck]
      have x := H0.ea k ck
      have y := x.ev w3 (bno _ x.1.1.2.1 x.2.1)
      refine ⟨y.1, y.2.1, fun i hi => ?_⟩
      rw [y.2.2 i hi]
      show r (645 + 4 * (k : Int) + i) = r' (645 + 4 * (k : Int) + i)
      rw [h3 _ (by omega) (by omega)]
    · rw [if_neg ck]
      have hcb : col' b = (0, 0) := by rw [c0 b hbl]; exact hb.2
      refine ⟨⟨w3.dO hb.1.1, by rw [w3.sz hb.1.1]; exact hb.1.2⟩, hcb, fun i hi => ?_⟩
      rw [w3.at hbl (bno b hbl hcb), hf i hi]
      show r' (645 + 4 * r 644 + i) = r' (645 + 4 * (k : Int) + i)
      rw [show (k : Int) = r 644 by omega]
theorem l_offRoute (H : RLh col D g r M h) (hI : IHn B r) (hM : M < 900000) (hT : dT D ≤ 600000) {k : Nat} (hk : k < h.lr.length) {r' : Row} (h1 : ∀ j, j < 37 ∨ 470 ≤ j → r' j = r j) (h2 : r' 37 = r 37 - 1) (h3 : ∀ k' c : Int, 0 ≤ k' → k' < r 37 - 1 → 0 ≤ c → c < 18 → r' (38 + 18 * k' + c) = r (38 + 18 * (if (k : Int) ≤ k' then k' + 1 else k') + c)) :
    ∃ D' v, fJx4a65c_remove_915e3 (dW D g 5) k D = some (v, D') ∧ RLh col D' g r' (M + 1) ⟨h.lw, h.lr.eraseIdx k, h.lh, h.lm, h.lc, h.la⟩ ∧ Ev (fun a => (col a).1 = g) 0 0 D D' := by
  have hn := hI
  unfold IHn at hn
  have hN := H.nr
  obtain ⟨D', w1, w2, w3, w4⟩ := s_rem H.rt.1 (i := k) hk (by omega)
  have P5 := lst_P H.rt
  have gno : ¬ FA D (dW D g 5) g := fun q => by
    have := P5 g H.o.2.1 hT q
    rw [H.co] at this
    have : (0 : Int) = 5 := congrArg Prod.snd this
    omega
  have g5 : dW D' g 5 = dW D g 5 := w3.at H.o.2.1 gno 5
  have hl : (h.lr.eraseIdx k).length = h.lr.length - 1 := List.length_eraseIdx_of_lt hk
  refine ⟨D', _, w1, ?_, w3.mono (Int.le_refl _) (Int.le_refl _) (fun a ha q => by rw [P5 a ha hT q])⟩
  refine H.upd (q := 5) hI w3 (fun a ha q => P5 a ha hT q) (by decide) (by omega) (by omega) (fun p p0 p1 => ?_) (Or.inl (by decide)) (Or.inl (by decide)) (Or.inr ⟨⟨?_, ?_, ?_⟩, ?_, ?_, fun i hi => ?_⟩) (Or.inl (by decide)) (Or.inl (by decide)) (Or.inl ⟨by decide, rfl⟩) ⟨rfl, rfl, rfl, rfl⟩ (by decide)
  · unfold pl at p1
    exact h1 p (by omega)
  · rw [g5]; exact w2
  · rw [g5]; exact H.rt.2.1
  · rw [g5, w4]; exact H.rt.2.2
  · show (((h.lr.eraseIdx k).length : Nat) : Int) = r' 37
    rw [h2, hl]; omega
  · exact H.dr.sublist (List.eraseIdx_sublist _ _)
  · have hi : i < h.lr.length - 1 := by rw [← hl]; exact hi
    show RR col D' g ((h.lr.eraseIdx k).getD i 0) _ _ _
    rw [getD_erase]
    have x := H.er (if k ≤ i then i + 1 else i) (by split <;> omega)
    obtain ⟨y1, y2, y3, L, y4, y5, y6, y7⟩ := (x.mono (M' := M + 1) (by omega)).ev w3 (fun q => by
      have := P5 _ x.1.2.1 hT q
      rw [x.2.1] at this
      have : (15 : Int) = 5 := congrArg Prod.snd this
      omega) (fun a ha q q' => by
      have := P5 _ ha hT q'
      rw [q] at this
      have : h.lr.getD (if k ≤ i then i + 1 else i) 0 = 5 := congrArg Prod.snd this
      have := x.1.1
      omega)
    have ne : ∀ c : Int, 0 ≤ c → c < 18 → r' (38 + 18 * i + c) = r (38 + 18 * ((if k ≤ i then i + 1 else i : Nat) : Int) + c) := fun c c1 c2 => by
      rw [h3 i c (by omega) (by omega) c1 c2]
      by_cases q : k ≤ i
      · rw [if_pos (by omega), if_pos q, show ((i + 1 : Nat) : Int) = (i : Int) + 1 by omega]
      · rw [if_neg (by omega), if_neg q]
    refine ⟨y1, y2, fun j hj => by rw [y3 j hj]; exact (ne j (by omega) (by omega)).symm, L, y4, y5, y6, fun m v m0 m1 => ?_⟩
    rw [y7 m v m0 m1]
    show (r (38 + 18 * ((if k ≤ i then i + 1 else i : Nat) : Int) + (6 + m)) = v ∧ v ≠ -1) ↔ (r' (38 + 18 * i + (6 + m)) = v ∧ v ≠ -1)
    rw [ne (6 + m) (by omega) (by omega)]
end TO

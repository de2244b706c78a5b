set_option maxRecDepth 20000
/-! a route copied -/
theorem Put_end {L L' : List (Int × Int)} {k v : Int} (h : Put L k v L') (hk : ∀ q ∈ L, q.1 < k) : L' = L ++ [(k, v)] := by
  obtain ⟨A, Bs, a1, a2, a3, a4⟩ := h
  rcases a4 with e | ⟨v0, e⟩
  · have : Bs = [] := by
      cases Bs with
      | nil => rfl
      | cons b Bs =>
        have h1 := hk b (by rw [e]; simp)
        have h2 := a2 b (by simp)
        omega
    rw [a3, e, this]
    simp
  · have := hk (k, v0) (by rw [e]; simp)
    have : k < k := this
    omega
theorem take_snoc {L : List (Int × Int)} {i : Nat} (h : i < L.length) : L.take (i + 1) = L.take i ++ [L.getD i (0, 0)] := by
  rw [List.take_add_one, List.getD_eq_getElem?_getD, List.getElem?_eq_getElem h]
  rfl
theorem take_lt {L : List (Int × Int)} (hs : srt L) {i : Nat} (h : i < L.length) : ∀ q ∈ L.take i, q.1 < (L.getD i (0, 0)).1 := by
  intro q hq
  obtain ⟨j, hj, e⟩ := List.mem_iff_getElem.mp hq
  rw [List.length_take] at hj
  have := List.pairwise_iff_getElem.mp hs j i (by omega) h (by omega)
  rw [List.getElem_take] at e
  rw [← e, List.getD_eq_getElem?_getD, List.getElem?_eq_getElem h]
  exact this
section RCP
variable {col : Col} {D : DD} {g o : Int} {r : Row} {M B : Int} {h : HLs}
theorem l_rcopy (H : RLh col D o r M h) (hI : IH B r) {k : Nat} (hk : k < h.lr.length) (hT : dT D + 40 < 600000) (hS : dS D + 200 ≤ 7200000) :
    ∃ D' col', fX7_copy (h.lr.getD k 0) D = some (dT D, D') ∧ RLh col' D' o r M h ∧ RR col' D' g (dT D) (fun i => r (38 + 18 * k + i)) (r 546) 12 ∧ (∀ x, x < dT D → col' x = col x) ∧ Ev (fun x => col x = (o, h.lr.getD k 0)) 16 100 D D' := by
  have hn := hI.1
  have hnn := hI.1
  unfold IHn at hnn
  have hr := hI.2.2.1 k (by omega) (by have := H.nr; omega)
  have p := H.er k hk
  generalize he : h.lr.getD k 0 = e at *
  have hb := dO_gt H.o
  have n1 : dO (dnew D 8 7) (dT D) 8 := dO_nw hb
  have E1 : Ev (fun _ => False) 1 7 D (dnew D 8 7) := Ev.dnew D
  have t1 : dT (dnew D 8 7) = dT D + 1 := rfl
  have u1 : dS (dnew D 8 7) = dS D + 7 := rfl
  have el := p.1.2.1
  have fe : ∀ i : Int, 0 ≤ i ∧ i < 6 → dW D e i = r (38 + 18 * k + i) := fun i hi => p.at hi
  have f2 : ∀ i : Int, 0 ≤ i ∧ i < 6 → dW (dnew D 8 7) e i = r (38 + 18 * k + i) := fun i hi => by rw [E1.at el (fun z => z)]; exact fe i hi
  obtain ⟨D4, a1, a2, a3, a4, a5, a6, a7, a8, a9⟩ := l_x7 (wl := r (38 + 18 * k + 0)) (gr := r (38 + 18 * k + 1)) (dy := r (38 + 18 * k + 2)) n1 (by omega) (by omega)
  rw [t1] at a6 a7 a8
  have v9 := a9.2.2.2.1
  generalize ha : dT D = a at *
  have E4 : Ev (fun x => x = a) 2 16 D D4 := ((E1.mono (P' := fun x => x = a) (Int.le_refl _) (Int.le_refl _) (fun _ _ z => z.elim)).trans a9 (fun _ _ z => z)).mono (by decide) (by decide) (fun _ _ z => z)
  have ne : e ≠ a := by omega
  have f4 : ∀ i : Int, 0 ≤ i ∧ i < 6 → dW D4 e i = r (38 + 18 * k + i) := fun i hi => by rw [E4.at (by omega) (by omega)]; exact fe i hi
  have hO4 : dO D4 a 8 := a9.dO n1
  -- three numbers more
  have E7 : Ev (fun x => x = a) 0 0 D4 (dup (dup (dup D4 a 3 (r (38 + 18 * k + 3))) a 4 (r (38 + 18 * k + 4))) a 5 (r (38 + 18 * k + 5))) := (((Ev.dup (P := fun x => x = a) D4 (fun _ => rfl)).trans (Ev.dup (P := fun x => x = a) _ (fun _ => rfl)) (fun _ _ z => z)).trans (Ev.dup (P := fun x => x = a) _ (fun _ => rfl)) (fun _ _ z => z)).mono (by decide) (by decide) (fun _ _ z => z)
  have d3 : dW D4 e 3 = r (38 + 18 * k + 3) := f4 3 (by decide)
  have d4 : dW (dup D4 a 3 (r (38 + 18 * k + 3))) e 4 = r (38 + 18 * k + 4) := by rw [dup_at, if_neg (fun q => ne q.1)]; exact f4 4 (by decide)
  have d5 : dW (dup (dup D4 a 3 (r (38 + 18 * k + 3))) a 4 (r (38 + 18 * k + 4))) e 5 = r (38 + 18 * k + 5) := by rw [dup_at, if_neg (fun q => ne q.1), dup_at, if_neg (fun q => ne q.1)]; exact f4 5 (by decide)
  have c7 : ∀ i : Nat, i < 6 → dW (dup (dup (dup D4 a 3 (r (38 + 18 * k + 3))) a 4 (r (38 + 18 * k + 4))) a 5 (r (38 + 18 * k + 5))) a i = r (38 + 18 * k + i) := fun i hi => by
    have h6 : i = 0 ∨ i = 1 ∨ i = 2 ∨ i = 3 ∨ i = 4 ∨ i = 5 := by omega
    rcases h6 with q | q | q | q | q | q <;> subst q
    · rw [dup_at, if_neg (by omega), dup_at, if_neg (by omega), dup_at, if_neg (by omega)]; exact a2
    · rw [dup_at, if_neg (by omega), dup_at, if_neg (by omega), dup_at, if_neg (by omega)]; exact a3
    · rw [dup_at, if_neg (by omega), dup_at, if_neg (by omega), dup_at, if_neg (by omega)]; exact a4
    · rw [dup_at, if_neg (by omega), dup_at, if_neg (by omega), dup_at, if_pos ⟨rfl, rfl⟩]; rfl
    · rw [dup_at, if_neg (by omega), dup_at, if_pos ⟨rfl, rfl⟩]; rfl
    · rw [dup_at, if_pos ⟨rfl, rfl⟩]; rfl
  have c76 : dW (dup (dup (dup D4 a 3 (r (38 + 18 * k + 3))) a 4 (r (38 + 18 * k + 4))) a 5 (r (38 + 18 * k + 5))) a 6 = a + 1 := by rw [dup_at, if_neg (by omega), dup_at, if_neg (by omega), dup_at, if_neg (by omega)]; exact a6
  have t7 : dT (dup (dup (dup D4 a 3 (r (38 + 18 * k + 3))) a 4 (r (38 + 18 * k + 4))) a 5 (r (38 + 18 * k + 5))) = dT D4 := rfl
  have u7 : dS (dup (dup (dup D4 a 3 (r (38 + 18 * k + 3))) a 4 (r (38 + 18 * k + 4))) a 5 (r (38 + 18 * k + 5))) = dS D4 := rfl
  unfold fX7_copy
  rw [if_pos ⟨by omega, by omega⟩, ha, zl_eq, if_pos (E1.dO p.1), f2 0 (by decide), f2 1 (by decide), f2 2 (by decide), a1]
  simp only [Option.bind_some]
  rw [d3, zl_eq, d4, zl_eq, d5, zl_eq]
  generalize hD7 : dup (dup (dup D4 a 3 (r (38 + 18 * k + 3))) a 4 (r (38 + 18 * k + 4))) a 5 (r (38 + 18 * k + 5)) = D7 at *
  have E07 : Ev (fun x => x = a) 2 16 D D7 := (E4.trans E7 (fun _ _ z => z)).mono (by decide) (by decide) (fun _ _ z => z)
  obtain ⟨p1, p2, p3, L, p4, p5⟩ := p
  generalize hm : dW D e 6 = m at *
  have m7 : dW D7 e 6 = m := by rw [E07.at (by omega) (by omega)]; exact hm
  have mlt := p4.1.1.2.1
  have mcol : col m = (o, e) := p4.1.2
  -- the source's map, seen
  have q4 : TM (fun x => col x = (o, e) ∧ x < a) D7 m L M := by
    refine (p4.mono (c' := fun x => col x = (o, e) ∧ x < a) (fun x hx z => ⟨z, by omega⟩) (Int.le_refl _)).ev E07 (fun x hx z z' => by have z' : x = a := z'; have := z.2; omega)
  obtain ⟨t, T7, ht⟩ := q4.to
  obtain ⟨es, D8, v1, v2, v3, v4, v5⟩ := s_entrySet T7 (by omega) (by omega)
  have b1 := v5.1
  have b2 := v5.2.1
  have b3 := v5.2.2.2.1
  have n0 : 0 ≤ r 546 := by omega
  have hL12 : L.length ≤ 12 := by
    have q : (L.length : Int) = sCnt (r 546) (fun m => r (38 + 18 * k + (6 + m)) ≠ -1 ∧ True) := VT_len p5 n0
    have q2 := sCnt_bd (fun m => r (38 + 18 * k + (6 + m)) ≠ -1 ∧ True) (r 546).toNat
    rw [Int.toNat_of_nonneg n0] at q2
    omega
  have htl : tsz t = L.length := by rw [← tsz_len, ht]
  obtain ⟨D10, w1, w2, w3⟩ := s_iter14 v2 v3 v4 (by omega) (by omega) (by omega)
  have b4 := w3.2.1
  have b5 := w3.2.2.2.1
  have b6 := w2.1.2.1
  have T10 := v2.ev w3 (fun _ _ _ z => z)
  have mO7 : dO D7 m 11 := E07.dO p4.1.1
  rw [m7, v1]
  simp only [Option.bind_some]
  rw [if_pos mO7, w1]
  simp only [Option.bind_some]
  rw [if_pos v3]
  have a8' : dT D4 = a + 2 := by omega
  -- the copy's map, before
  have hmne : m ≠ a + 1 := by omega
  have K10 : TM (fun x => x = a + 1 ∨ dT D10 ≤ x) D10 (a + 1) [] 0 := by
    have k1 : TM (fun x => x = a + 1) D7 (a + 1) [] 0 := a7.ev E7 (fun x _ z z' => by have z : x = a + 1 := z; have z' : x = a := z'; omega)
    have k2 := (k1.ev v5 (fun x _ z z' => by have z : x = a + 1 := z; have z' : x = m := z'; omega)).ev w3 (fun _ _ _ z => z)
    exact k2.mono (fun x _ z => Or.inl z) (Int.le_refl _)
  have itn : dT D8 ≠ a + 1 ∧ dT D8 ≠ a := by omega
  have cdis : ∀ x, x < dT D10 → (nx (fun x => col x = (o, e) ∧ x < a) D7 D8 x) → ¬ (x = a + 1 ∨ dT D10 ≤ x) := fun x hx z z' => by
    rcases z with z | z
    · have := z.2; omega
    · have z : dT D7 ≤ x ∧ x < dT D8 := z
      omega
  have hO10 : dO D10 a 8 := w3.dO (v5.dO (E7.dO hO4))
  have a10 : ∀ j, dW D10 a j = dW D7 a j := fun j => by
    rw [w3.at (by omega) (fun z => z), v5.at (by omega) (by omega)]
  have loop := lp_FU (f := fun q => fX7_copy_s57 a (dT D8) q)
    (fun i q => TI 13 q (dT D8) m t i ∧ TM (fun x => x = a + 1 ∨ dT D10 ≤ x) q (a + 1) (L.take i) i ∧ Ev (fun x => (x = a + 1 ∨ dT D10 ≤ x) ∨ x = dT D8) i (6 * i) D10 q)
    (fun q => TM (fun x => x = a + 1 ∨ dT D10 ≤ x) q (a + 1) L 12 ∧ Ev (fun x => (x = a + 1 ∨ dT D10 ≤ x) ∨ x = dT D8) 12 72 D10 q) L.length (by omega)
    (fun i q hi hq => by
      obtain ⟨k1, k2, k3⟩ := hq
      have e1 := k3.1
      have e2 := k3.2.1
      have e3 := k3.2.2.2.1
      have Tq : TMt (nx (fun x => col x = (o, e) ∧ x < a) D7 D8) q m t M := T10.ev k3 (fun x hx z z' => by
        rcases z' with z' | z'
        · exact cdis x hx z z'
        · rcases z with z | z
          · have := z.2; have z' : x = dT D8 := z'; omega
          · have z : dT D7 ≤ x ∧ x < dT D8 := z
            have z' : x = dT D8 := z'
            omega)
      obtain ⟨y, D2, x1, x2, x3, x4, x5⟩ := s_next13 Tq k1 (by omega) (by omega)
      rw [ht] at x2
      obtain ⟨nO1, nO2, nO3, nO4, nO5⟩ := x2
      have a2q : dW D2 a 6 = a + 1 := by
        rw [x5.at (by omega) (by omega), k3.at (by omega) (by omega), a10]
        exact c76
      have hOa : dO D2 a 8 := x5.dO (k3.dO hO10)
      have K2 : TM (fun x => x = a + 1 ∨ dT D10 ≤ x) D2 (a + 1) (L.take i) i := k2.ev x5 (fun x hx z z' => by have z' : x = dT D8 := z'; omega)
      have yl := nO1.2.1
      have yin : y ∈ addrs t := x3
      have yne : y ≠ dT D8 := fun z => by
        have := dO_ne nO1 k1.1 (by decide)
        exact this z
      have y2 : dO D2 y 12 := x5.dO nO1
      have yk : dW D2 y 0 = 1000428 + (L.getD i (0, 0)).1 := by rw [x5.at yl yne]; exact nO4
      have yv : dW D2 y 1 = 1000428 + (L.getD i (0, 0)).2 := by rw [x5.at yl yne]; exact nO5
      have s5 := x5.1
      have s6 := x5.2.1
      have s7 := x5.2.2.2.1
      obtain ⟨rr, D3, L', z1, z2, z3, z4⟩ := s_put K2 (List.Pairwise.sublist (List.take_sublist _ _) p5.1) nO2 nO3 (by omega) (by rw [List.length_take]; omega) (by omega) (by omega)
      have eL := Put_end z2 (take_lt p5.1 hi)
      rw [← take_snoc hi] at eL
      subst eL
      left
      show ∃ s', fX7_copy_s57 a (dT D8) q = some (.inl s') ∧ _
      unfold fX7_copy_s57 fX12_getKey fX12_getValue
      rw [s_has13 Tq k1, if_pos (by omega)]
      simp only [Option.bind_some]
      rw [if_pos k1.1, if_neg (by decide), x1]
      simp only [Option.bind_some]
      rw [if_pos y2, if_pos hOa, if_pos y2]
      simp only [Option.bind_some]
      rw [yk, if_pos nO2, if_pos y2]
      simp only [Option.bind_some]
      rw [yv, if_pos nO3, a2q, z1]
      simp only [Option.bind_some]
      rw [if_pos K2.1.1]
      refine ⟨D3, rfl, ?_, ?_, ?_⟩
      · obtain ⟨i1, i2, i3, i4⟩ := x4
        have xx := fun j => z4.at i1.2.1 (show ¬ (dT D8 = a + 1 ∨ dT D10 ≤ dT D8) by omega) j
        refine ⟨z4.dO i1, by rw [xx]; exact i2, ?_, by rw [xx]; exact i4⟩
        rw [xx, i3, z4.at (by omega) (by omega)]
      · refine z3.mono (fun x hx z => ?_) (by omega)
        rcases z with z | z
        · exact z
        · exact Or.inr (by omega)
      · exact ((k3.trans x5 (fun x hx z => Or.inr z)).trans z4 (fun x hx z => Or.inl z)).mono (by omega) (by omega) (fun _ _ z => z))
    (fun q hq => by
      obtain ⟨k1, k2, k3⟩ := hq
      have Tq : TMt (nx (fun x => col x = (o, e) ∧ x < a) D7 D8) q m t M := T10.ev k3 (fun x hx z z' => by
        rcases z' with z' | z'
        · exact cdis x hx z z'
        · rcases z with z | z
          · have := z.2; have z' : x = dT D8 := z'; omega
          · have z : dT D7 ≤ x ∧ x < dT D8 := z
            have z' : x = dT D8 := z'
            omega)
      show ∃ s', fX7_copy_s57 a (dT D8) q = some (.inr s') ∧ _
      unfold fX7_copy_s57
      rw [s_has13 Tq k1, if_neg (by omega)]
      simp only [Option.bind_some]
      rw [if_pos k1.1, if_pos trivial]
      refine ⟨q, rfl, ?_, k3.mono (by omega) (by omega) (fun _ _ z => z)⟩
      rw [List.take_length] at k2
      exact k2.mono (fun _ _ z => z) (by omega))
    D10 ⟨w2, by rw [List.take_zero]; exact K10, (Ev.refl _ D10).mono (by decide) (by decide) (fun _ _ z => z)⟩
  obtain ⟨D12, l1, l2, l3⟩ := loop
  rw [l1]
  simp only [Option.bind_some]
  -- the owners
  generalize hc : (fun x => if x < a then col x else if x = a then (g, 15) else if x = a + 1 then (g, a) else if x < dT D8 then (o, e) else if x = dT D8 then (-1, -1) else (g, a) : Col) = col'
  have c0 : ∀ x, x < a → col' x = col x := fun x hx => by rw [← hc]; exact if_pos hx
  have ca : col' a = (g, 15) := by rw [← hc]; show (if a < a then _ else if a = a then _ else _) = _; rw [if_neg (by omega), if_pos rfl]
  have cm : ∀ x, (x = a + 1 ∨ dT D10 ≤ x) → col' x = (g, a) := fun x hx => by
    rw [← hc]
    show (if x < a then _ else if x = a then _ else if x = a + 1 then _ else if x < dT D8 then _ else if x = dT D8 then _ else _) = _
    by_cases q : x = a + 1
    · rw [if_neg (by omega), if_neg (by omega), if_pos q]
    · rw [if_neg (by omega), if_neg (by omega), if_neg q, if_neg (by omega), if_neg (by omega)]
  have ces : ∀ x, dT D7 ≤ x → x < dT D8 → col' x = (o, e) := fun x h1 h2 => by
    rw [← hc]
    show (if x < a then _ else if x = a then _ else if x = a + 1 then _ else if x < dT D8 then _ else if x = dT D8 then _ else _) = _
    rw [if_neg (by omega), if_neg (by omega), if_neg (by omega), if_pos h2]
  have F : Ev (fun x => x = m) 16 100 D D12 := by
    have F1 : Ev (fun x => x = m) (2 + 1) (16 + 1) D D8 := (E07.mono (P' := fun x => x = m) (Int.le_refl _) (Int.le_refl _) (fun x hx z => by have z : x = a := z; omega)).trans v5 (fun _ _ z => z)
    have F2 := F1.trans w3 (fun _ _ z => z.elim)
    exact (F2.trans l3 (fun x hx z => by omega)).mono (by decide) (by decide) (fun _ _ z => z)
  refine ⟨D12, col', rfl, ?_, ?_, fun x hx => c0 x (by omega), F.mono (Int.le_refl _) (Int.le_refl _) (fun x hx z => by have z : x = m := z; rw [z]; exact mcol)⟩
  · have H0 : RLh col' D o r M h := H.keep (Ev.refl (fun _ => False) D) (fun _ _ _ z => z) (fun x hx => c0 x (by omega))
    have F' : Ev (fun x => col' x = (o, h.lr.getD k 0)) 16 100 D D12 := F.mono (Int.le_refl _) (Int.le_refl _) (fun x hx z => by have z : x = m := z; rw [z, he, c0 m (by omega)]; exact mcol)
    refine H0.votes hk (r' := r) F' ?_ (by exact p5) (fun _ _ => rfl) hn (Int.le_refl _) H.w.1.2.2.1.2.2
    rw [he, hm, ← ht]
    refine ((T10.ev l3 (fun x hx z z' => ?_)).mono (fun x hx z => ?_) (Int.le_refl _)).to
    · rcases z' with z' | z'
      · exact cdis x hx z z'
      · rcases z with z | z
        · have := z.2; have z' : x = dT D8 := z'; omega
        · have z : dT D7 ≤ x ∧ x < dT D8 := z
          have z' : x = dT D8 := z'
          omega
    · rcases z with z | z
      · show col' x = (o, e)
        rw [c0 x z.2]; exact z.1
      · exact ces x z.1 z.2
  · have x12 : ∀ j, dW D12 a j = dW D7 a j := fun j => by rw [l3.at (by omega) (by omega)]; exact a10 j
    refine ⟨l3.dO hO10, ca, fun i hi => by rw [x12]; exact c7 i hi, L, ?_, p5⟩
    rw [x12, c76]
    exact l2.mono (fun x hx z => cm x z) (Int.le_refl _)
end RCP

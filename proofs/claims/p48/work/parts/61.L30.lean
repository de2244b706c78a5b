set_option maxRecDepth 20000
section DZ
variable {col : Col} {D : DD} {g : Int} {r : Row} {M B w k n0 N kd : Int} {h : HLs}
theorem XJ_cg {r r' : Row} (hJ : XJ r) (h37 : r' 37 = r 37) (hk : ∀ k, 0 ≤ k → k < r 37 → r' (38 + 18 * k + 0) = r (38 + 18 * k + 0)) : XJ r' := fun w => by
  have := hJ w
  rw [h37, sCnt_congr (q := fun k => r (38 + 18 * k + 0) = w) (fun k a b => by rw [hk k a b])]
  exact this
theorem XJ_rsE (hI : IH B r) (hJ : XJ r) : XJ (rsE r w).1 := by
  have hn := hI.1
  unfold IHn at hn
  have := ita_P (f := rsF w) (fun i q => RP B r i q ∧ XJ q.1) (r 37).toNat 0 (r, 0, 0) ⟨RP_0 hI, hJ⟩ (fun i q h1 h2 h => by
    have st := RP_s (w := w) hI (show 0 ≤ i ∧ i < r 37 by omega) h.1
    refine ⟨st, ?_⟩
    unfold rsF
    split
    · have hr := h.1
      unfold RP at hr
      exact XJ_off hr.1 (by omega) h.2
    · exact h.2)
  exact this.2
theorem XJ_dwE (hI : IH B r) (hJ : XJ r) : XJ (dwE r).1 := by
  have hn := hI.1
  unfold IHn at hn
  have := ita_P (f := dwF) (fun i q => DP B r i q ∧ XJ q.1) (r 4).toNat 0 (r, 0) ⟨DP_0 hI, hJ⟩ (fun i q h1 h2 h => by
    have hi : 0 ≤ i ∧ i < r 4 := by omega
    have st := DP_s hi h.1
    refine ⟨st, ?_⟩
    unfold dwF
    split
    · have hx := XJ_rsE (w := i) h.1.1 h.2
      have e4 := h.1.2.1 4 (Or.inl (by decide))
      have hn2 := h.1.1.1
      unfold IHn at hn2
      show XJ (rsR q.1 i)
      unfold rsR
      exact XJ_cg hx (rup_neq (by omega)) (fun k a b => rup_neq (by omega))
    · exact h.2)
  exact this.2
theorem day_lo (hI : IH B r) (hB : B + 1 ≤ 1000000) {j : Int} (hj : j ≠ 3) (hj2 : j < 547) : dayR r j = (dwE r).1 j := by
  have hD := DP_E hI
  have hK := KP_E hD.1 hB
  unfold dayR
  rw [rup_neq hj]
  exact hK.2 j (Or.inl hj2)
theorem XJ_day (hI : IH B r) (hB : B + 1 ≤ 1000000) (hJ : XJ r) : XJ (dayR r) := by
  have hD := DP_E hI
  have hn := hD.1.1
  unfold IHn at hn
  exact XJ_cg (XJ_dwE hI hJ) (day_lo hI hB (by decide) (by decide)) (fun k a b => day_lo hI hB (by omega) (by omega))
/-- one day -/
theorem l_day {v1 v3 : Int} (H : RLh col D g r M h) (hI : IH B r) (hB : B + 1 ≤ 1000000) (h3 : r 3 < 9999) (hM : M < 600000) (hT : dT D + 45 * r 37 + 70 < 600000) (hS : dS D + 1600 * r 37 + 1900 ≤ 7200000) (hn0 : 0 ≤ n0 ∧ n0 ≤ 100000) (hv : 0 ≤ v3 ∧ v3 < v1 ∧ v1 ≤ 100) : ∃ D', fX6_ends_s4 g v1 n0 v3 D = some (.inl (n0 + (dwE r).2, v3 + 1, D')) ∧ Out col D g (dayR r) M (1 + 45 * (dwE r).2) (4 + 1600 * (dwE r).2) (3 * (dwE r).2) D' ∧ dayR r 37 = r 37 - (dwE r).2 := by
  have hn := hI.1
  unfold IHn at hn
  obtain ⟨D2, a1, a2, a3⟩ := l_walls (N := v1) (kd := v3) H hI hM (by omega) (by omega) hn0
  have hD := DP_E hI
  obtain ⟨col2, M2, h2, H2, c2, E2, b1, b2⟩ := a2
  have hn2 := hD.1.1
  unfold IHn at hn2
  have e1 := E2.2.1
  have e2 := E2.2.2.2.1
  obtain ⟨it, D4, D6, d1, d2, H6, E6⟩ := l_keeps (v0 := g) (v1 := v1) (v2 := n0 + (dwE r).2) (v3 := v3) H2 hD.1 hB (by omega) (by omega)
  have f3 : dW D6 g 3 = r 3 := by
    rw [H6.f3, (KP_E hD.1 hB).2 3 (Or.inl (by decide))]
    exact hD.2.1 3 (Or.inl (by decide))
  have hK := KP_E hD.1 hB
  have A := H6.day (v := r 3 + 1) hK.1.1
  unfold fX6_ends_s4
  rw [if_pos hv.2.1, a1]
  simp only [Option.bind_some]
  rw [if_pos H2.o, d1]
  simp only [Option.bind_some]
  rw [if_pos H2.mb.1.1, d2]
  simp only [Option.bind_some]
  rw [f3, if_pos (by constructor <;> omega), zl_eq, if_pos (by constructor <;> omega)]
  refine ⟨_, rfl, ?_, ?_⟩
  · have ED : Ev (fun a => (col2 a).1 = g) 0 0 D6 (dup D6 g 3 (r 3 + 1)) := Ev.dup D6 (fun _ => by rw [H2.co])
    have o1 : Out col2 D2 g (dayR r) M2 (1 + 0) (4 + 0) 0 (dup D6 g 3 (r 3 + 1)) := Out.of A (E6.trans ED (fun _ _ z => z)) (Int.le_refl 0)
    exact (Out.tr c2 E2 ⟨b1, b2⟩ o1).mono (by omega) (by omega) (by omega)
  · rw [day_lo hI hB (by decide) (by decide)]
    exact a3
/-- days end -/
theorem l_ends {n : Int} (H : RLh col D g r M h) (hI : IH B r) (hJ : XJ r) (hB : B ≤ 900000) (hd : r 3 + n ≤ 9999) (hn : 1 ≤ n ∧ n ≤ 60) (hM : M < 500000) (hT : dT D + 2000 < 600000) (hS : dS D + 50000 ≤ 7200000) : ∃ D', fX6_ends g n D = some ((ita edF n.toNat 0 (r, 0)).2, D') ∧ Out col D g (ita edF n.toNat 0 (r, 0)).1 M 1200 40000 100 D' ∧ XJ (ita edF n.toNat 0 (r, 0)).1 ∧ 0 ≤ (ita edF n.toNat 0 (r, 0)).2 := by
  have hnn := hI.1
  unfold IHn at hnn
  have loop := lp_FU (f := fun q : Int × Int × DD => fX6_ends_s4 g n q.1 q.2.1 q.2.2)
    (fun i q => EP B r i (ita edF i 0 (r, 0)) ∧ XJ (ita edF i 0 (r, 0)).1 ∧ (ita edF i 0 (r, 0)).1 37 = r 37 - (ita edF i 0 (r, 0)).2 ∧ q.1 = (ita edF i 0 (r, 0)).2 ∧ q.2.1 = (i : Int) ∧ Out col D g (ita edF i 0 (r, 0)).1 M (i + 45 * (ita edF i 0 (r, 0)).2) (4 * i + 1600 * (ita edF i 0 (r, 0)).2) (3 * (ita edF i 0 (r, 0)).2) q.2.2)
    (fun q => q.1 = (ita edF n.toNat 0 (r, 0)).2 ∧ Out col D g (ita edF n.toNat 0 (r, 0)).1 M 1200 40000 100 q.2 ∧ XJ (ita edF n.toNat 0 (r, 0)).1 ∧ 0 ≤ (ita edF n.toNat 0 (r, 0)).2) n.toNat (by omega)
    (fun i q hi hq => by
      obtain ⟨k1, k2, D1⟩ := q
      obtain ⟨h1, hx, h37, h2, h3, h4⟩ := hq
      have h2 : k1 = (ita edF i 0 (r, 0)).2 := h2
      have h3 : k2 = (i : Int) := h3
      have h4 : Out col D g (ita edF i 0 (r, 0)).1 M (i + 45 * (ita edF i 0 (r, 0)).2) (4 * i + 1600 * (ita edF i 0 (r, 0)).2) (3 * (ita edF i 0 (r, 0)).2) D1 := h4
      subst h2
      subst h3
      have st := EP_s hB hd (show 0 ≤ (i : Int) ∧ (i : Int) < n by omega) hn.2 h1
      have es : ita edF (i + 1) 0 (r, 0) = edF i (ita edF i 0 (r, 0)) := by rw [ita_succ, Int.zero_add]
      rw [show ((i : Int) + 1) = ((i + 1 : Nat) : Int) by omega, ← es] at st
      generalize hQ : ita edF i 0 (r, 0) = Q at *
      obtain ⟨r1, r2, r3, r4⟩ := h1
      obtain ⟨col', M', h', H', c', E', m1, m2⟩ := h4
      have hn1 := r1.1
      unfold IHn at hn1
      have e1 := E'.2.1
      have e2 := E'.2.2.2.1
      obtain ⟨D2, a1, a2, a3⟩ := l_day (n0 := Q.2) (v1 := n) (v3 := (i : Int)) H' r1 (by omega) (by omega) (by omega) (by omega) (by omega) (by omega) ⟨by omega, by omega, by omega⟩
      left
      have eq : ita edF (i + 1) 0 (r, 0) = (dayR Q.1, Q.2 + (dwE Q.1).2) := by rw [es]; rfl
      rw [eq] at st ⊢
      refine ⟨_, a1, st, XJ_day r1 (by omega) hx, ?_, rfl, by show (i : Int) + 1 = ((i + 1 : Nat) : Int); omega, ?_⟩
      · show dayR Q.1 37 = r 37 - (Q.2 + (dwE Q.1).2)
        omega
      · exact (Out.tr c' E' ⟨m1, m2⟩ a2).mono (by show _ ≤ ((i + 1 : Nat) : Int) + 45 * (Q.2 + (dwE Q.1).2); omega) (by show _ ≤ 4 * ((i + 1 : Nat) : Int) + 1600 * (Q.2 + (dwE Q.1).2); omega) (by show _ ≤ 3 * (Q.2 + (dwE Q.1).2); omega))
    (fun q hq => by
      obtain ⟨k1, k2, D1⟩ := q
      obtain ⟨h1, hx, h37, h2, h3, h4⟩ := hq
      have h2 : k1 = (ita edF n.toNat 0 (r, 0)).2 := h2
      have h3 : k2 = (n.toNat : Int) := h3
      subst h2
      subst h3
      have hn1 := h1.1.1
      have h20 := h1.2.2.1
      unfold IHn at hn1
      show ∃ s', fX6_ends_s4 g n _ (n.toNat : Int) D1 = some (.inr s') ∧ _
      unfold fX6_ends_s4
      rw [if_neg (by omega)]
      exact ⟨_, rfl, rfl, Out.mono h4 (by omega) (by omega) (by omega), hx, h20⟩)
    (0, 0, D) ⟨EP_0 hI, hJ, by show r 37 = r 37 - 0; omega, rfl, rfl, col, M, h, H, fun _ _ => rfl, (Ev.refl _ D).mono (by show (0 : Int) ≤ 0 + 45 * 0; omega) (by show (0 : Int) ≤ 4 * 0 + 1600 * 0; omega) (fun _ _ z => z), Int.le_refl _, by show M ≤ M + 3 * 0; omega⟩
  obtain ⟨⟨a, D1⟩, w1, w2, w3, w4, w5⟩ := loop
  have w2 : a = (ita edF n.toNat 0 (r, 0)).2 := w2
  subst w2
  unfold fX6_ends
  rw [w1]
  exact ⟨D1, rfl, w3, w4, w5⟩
theorem a_ends {x y mem rt hs cs wl im ir : Int} (H : RLh col D g r M h) (hI : IH B r) (hJ : XJ r) (hB : B ≤ 900000) (hd : r 3 ≤ 9000) (hM : M < 500000) (hx : 0 ≤ x) (hy : 0 ≤ y) (hT : dT D + 2000 < 600000) (hS : dS D + 50000 ≤ 7200000) {w : Int} (hw : 21 ≤ w) : ∃ due D', fL_act_b106 g w x y mem rt hs cs wl im ir D = some (due, D') ∧ Res col D g r M B (fX5_endDays (sm y 1 (if x % 4 = 0 then 60 else 5))) due D' := by
  have hn := hI.1
  unfold IHn at hn
  have key : ∀ hi : Int, (hi = 60 ∨ hi = 5) → ∃ due D', fL_act_b1176 g y 1 hi D = some (due, D') ∧ Res col D g r M B (fX5_endDays (sm y 1 hi)) due D' := by
    intro hi hhi
    unfold fL_act_b1176
    rw [l_some hy (by omega)]
    simp only [Option.bind_some]
    have hr := sm_rng (x := y) (lo := 1) (hi := hi) (by omega)
    generalize hn0 : sm y 1 hi = n at *
    by_cases c : ¬ (1 ≤ n ∧ n ≤ 60)
    · have hA : AskE r 1 (fX5_endDays n) := fun z hR => ⟨z, by
        simp only [fX5_endDays, n_btw, RCn hR, if_neg c, Option.bind_some] <;> rfl, fun _ _ => rfl⟩
      by_cases c1 : n < 1
      · rw [if_pos c1]
        exact ⟨_, _, rfl, errE H (E := 1) (by decide) rfl hA⟩
      · rw [if_neg c1, if_pos (by omega)]
        exact ⟨_, _, rfl, errE H (E := 1) (by decide) rfl hA⟩
    have c := Decidable.not_not.mp c
    rw [if_neg (by omega), if_neg (by omega)]
    obtain ⟨D', a1, a2, a3, a4⟩ := l_ends (n := n) H hI hJ hB (by omega) c hM hT hS
    rw [a1]
    simp only [Option.bind_some]
    rw [if_pos H.o]
    obtain ⟨g1, g2⟩ := g_endDays hI hB c (by omega)
    have FE := ita_P (f := edF) (EP B r) n.toNat 0 (r, 0) (EP_0 hI) (fun i a h1 h2 h => EP_s hB (show r 3 + n ≤ 9999 by omega) (by omega) c.2 h)
    have e3 := FE.2.1
    refine ⟨_, _, rfl, Or.inl ⟨_, by omega, ChgC_of g1, g2, ⟨a3, by omega⟩, a2⟩⟩
  unfold fL_act_b106
  rw [if_neg (by omega), if_neg (by omega), if_neg (by omega), if_neg (by omega), if_neg (by omega), if_neg (by omega), if_neg (by omega), if_neg (by omega), if_neg (by omega), if_neg (by omega), if_neg (by omega), if_pos ⟨hx, by decide⟩]
  by_cases c : x % 4 = 0
  · rw [if_pos c, if_pos c]
    exact key 60 (Or.inl rfl)
  · rw [if_neg c, if_neg c]
    exact key 5 (Or.inr rfl)
end DZ

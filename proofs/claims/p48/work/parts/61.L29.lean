set_option maxRecDepth 20000
section DY
variable {col : Col} {D : DD} {g : Int} {r : Row} {M B w k n0 N kd : Int} {h : HLs}
theorem rsE_37 (hI : IH B r) : (rsR r w) 37 = r 37 - (rsE r w).2.1 ∨ w < 0 ∨ r 4 ≤ w := by
  by_cases c : 0 ≤ w ∧ w < r 4
  · have hn := hI.1
    unfold IHn at hn
    have := (RP_E (w := w) hI).2.2.2.2.2
    refine Or.inl ?_
    unfold rsR
    rw [rup_neq (by omega)]
    exact this
  · omega
/-- the walls that are closed -/
theorem l_walls (H : RLh col D g r M h) (hI : IH B r) (hM : M < 600000) (hT : dT D + 45 * r 37 + 60 < 600000) (hS : dS D + 1600 * r 37 + 1800 ≤ 7200000) (hn0 : 0 ≤ n0 ∧ n0 ≤ 100000) : ∃ D', zlp (fun q => fX6_ends_s12 g N kd q.1 q.2.1 q.2.2) FU (n0, 0, D) = some (n0 + (dwE r).2, D') ∧ Out col D g (dwE r).1 M (45 * (dwE r).2) (1600 * (dwE r).2) (3 * (dwE r).2) D' ∧ (dwE r).1 37 = r 37 - (dwE r).2 := by
  have hn := hI.1
  unfold IHn at hn
  have e4 : (((r 4).toNat : Nat) : Int) = r 4 := Int.toNat_of_nonneg hn.1
  have loop := lp_FU (f := fun q : Int × Int × DD => fX6_ends_s12 g N kd q.1 q.2.1 q.2.2)
    (fun i q => DP B r i (ita dwF i 0 (r, 0)) ∧ (ita dwF i 0 (r, 0)).1 37 = r 37 - (ita dwF i 0 (r, 0)).2 ∧ q.1 = n0 + (ita dwF i 0 (r, 0)).2 ∧ q.2.1 = (i : Int) ∧ Out col D g (ita dwF i 0 (r, 0)).1 M (45 * (ita dwF i 0 (r, 0)).2) (1600 * (ita dwF i 0 (r, 0)).2) (3 * (ita dwF i 0 (r, 0)).2) q.2.2)
    (fun q => q.1 = n0 + (dwE r).2 ∧ Out col D g (dwE r).1 M (45 * (dwE r).2) (1600 * (dwE r).2) (3 * (dwE r).2) q.2 ∧ (dwE r).1 37 = r 37 - (dwE r).2) (r 4).toNat (by omega)
    (fun i q hi hq => by
      obtain ⟨k1, k2, D1⟩ := q
      obtain ⟨h1, h37, h2, h3, h4⟩ := hq
      have h2 : k1 = n0 + (ita dwF i 0 (r, 0)).2 := h2
      have h3 : k2 = (i : Int) := h3
      have h4 : Out col D g (ita dwF i 0 (r, 0)).1 M (45 * (ita dwF i 0 (r, 0)).2) (1600 * (ita dwF i 0 (r, 0)).2) (3 * (ita dwF i 0 (r, 0)).2) D1 := h4
      subst h2
      subst h3
      have hi' : 0 ≤ (i : Int) ∧ (i : Int) < r 4 := by omega
      have st := DP_s hi' h1
      have es : ita dwF (i + 1) 0 (r, 0) = dwF i (ita dwF i 0 (r, 0)) := by rw [ita_succ, Int.zero_add]
      rw [show ((i : Int) + 1) = ((i + 1 : Nat) : Int) by omega, ← es] at st
      generalize hQ : ita dwF i 0 (r, 0) = Q at *
      obtain ⟨r1, r2, r3, r4⟩ := h1
      obtain ⟨col', M', h', H', c', E', m1, m2⟩ := h4
      have hn1 := r1.1
      unfold IHn at hn1
      have hN := H'.nw
      have hw : 0 ≤ (i : Int) ∧ (i : Int) < Q.1 4 := by rw [r2 4 (Or.inl (by decide))]; exact hi'
      left
      show ∃ s', fX6_ends_s12 g N kd (n0 + Q.2) (i : Int) D1 = some (.inl s') ∧ _
      unfold fX6_ends_s12 fX6_ends_b125
      rw [if_pos H'.o, s_size H'.w.1]
      simp only [Option.bind_some]
      rw [if_pos H'.w.1.1, hN, if_pos hw.2, l_isClosed H' hw]
      simp only [Option.bind_some]
      by_cases c : sClosed Q.1 i
      · have e1 := E'.2.1
        have e2 := E'.2.2.2.1
        have cnt := (RP_E (w := (i : Int)) r1)
        obtain ⟨D2, a1, a2⟩ := l_reset (n0 := n0 + Q.2) (w := (i : Int)) (N := N) (kd := kd) H' r1 (by omega) (by omega) (by omega) (by omega)
        have IR := IH_rsR (w := (i : Int)) r1 hw
        have a2' := a2
        obtain ⟨col2, M2, h2, H2, c2, E2, b1, b2⟩ := a2
        have cc := cnt.2.2
        have hw2 : 0 ≤ (i : Int) ∧ (i : Int) < (rsE Q.1 i).1 4 := by rw [cnt.2.1 4 (Or.inl (by decide))]; exact hw
        obtain ⟨q1, p1⟩ := H2.gw hw2
        have w2 : dW D2 (h2.lw.getD (i : Int).toNat 0) 2 = Q.1 (5 + 4 * i + 2) := by
          rw [p1.at (i := 2) ⟨by decide, by decide⟩]
          exact cnt.2.1 _ (Or.inl (by omega))
        have d3 : dW D2 g 3 = Q.1 3 := by rw [H2.f3]; exact cnt.2.1 3 (Or.inl (by decide))
        have wr := (r1.2.1 (i : Int) hw.1 hw.2).2.1
        have A := H2.wcell (v := Q.1 3 + Q.1 (5 + 4 * i + 2)) (j := 3) cnt.1.1 hw2 ⟨by decide, by decide⟩
        rw [if_neg (by rw [bI_t c]; decide), a1]
        simp only [Option.bind_some]
        rw [q1]
        simp only [Option.bind_some]
        rw [if_pos H2.w.1.1, if_pos p1.1.1, if_pos p1.1.1, if_pos (p1.rng (i := 2) ⟨by decide, by decide⟩), if_pos (p1.rng (i := 3) ⟨by decide, by decide⟩), d3, w2, if_pos (by constructor <;> omega), zl_eq, if_pos (by constructor <;> omega)]
        have eq : ita dwF (i + 1) 0 (r, 0) = (rsR Q.1 i, Q.2 + (rsE Q.1 i).2.1) := by rw [es]; unfold dwF; rw [if_pos c]
        rw [eq] at st ⊢
        refine ⟨_, rfl, st, ?_, by show n0 + Q.2 + (rsE Q.1 i).2.1 = n0 + (Q.2 + (rsE Q.1 i).2.1); omega, by show (i : Int) + 1 = ((i + 1 : Nat) : Int); omega, ?_⟩
        · show rsR Q.1 i 37 = r 37 - (Q.2 + (rsE Q.1 i).2.1)
          rcases rsE_37 (w := (i : Int)) r1 with q | q | q <;> omega
        · have EC : Ev (fun a => (col2 a).1 = g) 0 0 D2 (dup D2 (h2.lw.getD (i : Int).toNat 0) 3 (Q.1 3 + Q.1 (5 + 4 * i + 2))) := Ev.dup D2 (fun _ => by rw [p1.2.1])
          have o1 := Out.tr c2 E2 ⟨b1, b2⟩ (Out.of (M := M2) A EC (Int.le_refl 0))
          have o2 := Out.tr c' E' ⟨m1, m2⟩ o1
          exact o2.cg rfl (by show _ ≤ 45 * (Q.2 + (rsE Q.1 i).2.1); omega) (by show _ ≤ 1600 * (Q.2 + (rsE Q.1 i).2.1); omega) (by show _ ≤ 3 * (Q.2 + (rsE Q.1 i).2.1); omega)
      · rw [if_pos (bI_f c), if_pos (by constructor <;> omega)]
        have eq : ita dwF (i + 1) 0 (r, 0) = Q := by rw [es]; unfold dwF; rw [if_neg c]
        rw [eq] at st ⊢
        exact ⟨_, rfl, st, h37, rfl, by show (i : Int) + 1 = ((i + 1 : Nat) : Int); omega, col', M', h', H', c', E', m1, m2⟩)
    (fun q hq => by
      obtain ⟨k1, k2, D1⟩ := q
      obtain ⟨h1, h37, h2, h3, h4⟩ := hq
      have h2 : k1 = n0 + (dwE r).2 := h2
      have h3 : k2 = ((r 4).toNat : Int) := h3
      have h4 : Out col D g (dwE r).1 M (45 * (dwE r).2) (1600 * (dwE r).2) (3 * (dwE r).2) D1 := h4
      have h1 : DP B r ((r 4).toNat : Nat) (dwE r) := h1
      subst h2
      subst h3
      have h4' := h4
      obtain ⟨col', M', h', H', c', E', m1, m2⟩ := h4
      obtain ⟨r1, r2, r3, r4⟩ := h1
      have hN : (h'.lw.length : Int) = r 4 := H'.nw.trans (r2 4 (Or.inl (by decide)))
      show ∃ s', fX6_ends_s12 g N kd (n0 + (dwE r).2) ((r 4).toNat : Int) D1 = some (.inr s') ∧ _
      unfold fX6_ends_s12
      rw [if_pos H'.o, s_size H'.w.1]
      simp only [Option.bind_some]
      rw [if_pos H'.w.1.1, hN, if_neg (by omega)]
      exact ⟨_, rfl, rfl, h4', h37⟩)
    (n0, 0, D) ⟨DP_0 hI, by show r 37 = r 37 - 0; omega, by show n0 = n0 + 0; omega, rfl, col, M, h, H, fun _ _ => rfl, (Ev.refl _ D).mono (by show (0 : Int) ≤ 45 * 0; omega) (by show (0 : Int) ≤ 1600 * 0; omega) (fun _ _ z => z), Int.le_refl _, by show M ≤ M + 3 * 0; omega⟩
  obtain ⟨⟨a, D1⟩, w1, w2, w3, w4⟩ := loop
  have w2 : a = n0 + (dwE r).2 := w2
  subst w2
  exact ⟨D1, w1, w3, w4⟩
/-- a day more for those who keep a harness -/
theorem l_keeps {v0 v1 v2 v3 : Int} (H : RLh col D g r M h) (hI : IH B r) (hB : B + 1 ≤ 1000000) (hT : dT D + 2 < 600000) (hS : dS D + 8 ≤ 7200000) : ∃ it D1 D', fJx4a65c_iterator_32c93 (dW D g 7) D = some (it, D1) ∧ zlp (fun q => fX6_ends_s140 v0 v1 v2 v3 it q) FU D1 = some D' ∧ RLh col D' g (mkE r) M h ∧ Ev (fun a => (col a).1 = g) 1 4 D D' := by
  have hn := hI.1
  unfold IHn at hn
  obtain ⟨D1, q1, q2, q3⟩ := s_iter H.mb.1 (by omega) (by omega)
  refine ⟨dT D, D1, ?_⟩
  have hNm := H.nm
  have hlen : h.lm.length ≤ 40 := H.mb.1.2.2.2.1
  have t0 := H.mb.1.1
  generalize hc : (fun a => if a < dT D then col a else (-1, -1) : Col) = col1
  have c1 : ∀ a, a < dT D → col1 a = col a := fun a ha => by rw [← hc]; exact if_pos ha
  have c9 : ∀ a, dT D ≤ a → col1 a = (-1, -1) := fun a ha => by rw [← hc]; exact if_neg (by omega)
  have g151 := H.o.1
  have itno : ∀ a, col1 a = (g, 17) → a ≠ dT D := fun a q e => by
    rw [c9 a (by omega)] at q
    have : (-1 : Int) = g := congrArg Prod.fst q
    omega
  have loop := lp_FU (f := fun q => fX6_ends_s140 v0 v1 v2 v3 (dT D) q)
    (fun i q => It q (dT D) (dW D g 7) i ∧ KP B r i (ita mkF i 0 r) ∧ RLh col1 q g (ita mkF i 0 r) M h ∧ Ev (fun a => col1 a = (g, 17)) 1 4 D q)
    (fun q => RLh col1 q g (mkE r) M h ∧ Ev (fun a => col1 a = (g, 17)) 1 4 D q) (r 546).toNat (by omega)
    (fun i q hi hq => by
      obtain ⟨k1, k0, k2, k3⟩ := hq
      have hi' : 0 ≤ (i : Int) ∧ (i : Int) < r 546 := by omega
      have st := KP_s hI hi' k0
      have es : ita mkF (i + 1) 0 r = mkF i (ita mkF i 0 r) := by rw [ita_succ, Int.zero_add]
      rw [show ((i : Int) + 1) = ((i + 1 : Nat) : Int) by omega, ← es] at st
      generalize hQ : ita mkF i 0 r = Q at *
      obtain ⟨r1, r2⟩ := k0
      have e7 : dW q g 7 = dW D g 7 := k3.at H.o.2.1 (fun z => by rw [c1 g H.o.2.1, H.co] at z; have : (0 : Int) = 17 := congrArg Prod.snd z; omega) 7
      have A2 : AL q (dW D g 7) h.lm M := by have := k2.mb.1; rw [e7] at this; exact this
      obtain ⟨D2, w1, w2, w3, w4⟩ := s_next A2 k1 (by omega)
      have H2 : RLh col1 D2 g Q M h := k2.keep w4 (fun a ha hq z => by
        have z : a = dT D := z
        rw [z, c9 _ (Int.le_refl _)] at hq
        rcases hq with p | p
        · have p : (-1 : Int) = g := p
          omega
        · have : (-1 : Int) = 0 := congrArg Prod.fst p
          omega) (fun _ _ => rfl)
      have e546 : Q 546 = r 546 := r2 546 (Or.inl (by decide))
      obtain ⟨f1, p1⟩ := H2.gm (w := (i : Int)) (by rw [e546]; exact hi')
      have itn : ((i : Int)).toNat = i := by omega
      rw [itn] at f1 p1
      have m3 : dW D2 (h.lm.getD i 0) 3 = Q (547 + 6 * i + 3) := p1.at (i := 3) ⟨by decide, by decide⟩
      have m5 : dW D2 (h.lm.getD i 0) 5 = Q (547 + 6 * i + 5) := p1.at (i := 5) ⟨by decide, by decide⟩
      have b5 := (r1.2.2.2.2.1 (i : Int) hi'.1 (by rw [e546]; exact hi'.2)).2.2.2.2.1
      have A := fun v : Int => H2.mcell (v := v) (j := 5) (k := (i : Int)) (B := B + 1) r1.1 (by rw [e546]; exact hi') ⟨by decide, by decide⟩
      have A : ∀ v : Int, RLh col1 (dup D2 (h.lm.getD i 0) 5 v) g (rup Q (547 + 6 * i + 5) v) M h := fun v => by have := A v; rw [itn] at this; exact this
      have hno : h.lm.getD i 0 ≠ dT D := itno _ p1.2.1
      have E2 : Ev (fun a => col1 a = (g, 17)) 1 4 D D2 := (k3.trans w4 (fun a ha z => by have z : a = dT D := z; omega)).mono (by decide) (by decide) (fun _ _ z => z)
      have fin : ∀ v, It (dup D2 (h.lm.getD i 0) 5 v) (dT D) (dW D g 7) (i + 1) := fun v => by
        obtain ⟨i1, i2, i3, i4⟩ := w2
        have lne : h.lm.getD i 0 ≠ dW D g 7 := fun q => by
          have x1 := p1.2.1
          have x2 := H2.mb.2.1
          have x3 : dW D2 g 7 = dW D g 7 := by rw [w4.at k2.o.2.1 (fun z => by have z : g = dT D := z; have := H.o.2.1; omega)]; exact e7
          rw [x3, ← q, x1] at x2
          have : (17 : Int) = 7 := congrArg Prod.snd x2
          omega
        refine ⟨i1, ?_, ?_, ?_⟩
        · rw [dup_at, if_neg (fun q => hno q.1.symm)]; exact i2
        · rw [dup_at, if_neg (fun q => hno q.1.symm)]; exact i3
        · rw [dup_at, if_neg (fun q => hno q.1.symm), dup_at, if_neg (fun q => lne q.1.symm)]; exact i4
      have E3 : ∀ v, Ev (fun a => col1 a = (g, 17)) 1 4 D (dup D2 (h.lm.getD i 0) 5 v) := fun v => (E2.trans (Ev.dup (P := fun a => col1 a = (g, 17)) D2 (fun _ => p1.2.1)) (fun _ _ z => z)).mono (by decide) (by decide) (fun _ _ z => z)
      left
      show ∃ s', fX6_ends_s140 v0 v1 v2 v3 (dT D) q = some (.inl s') ∧ _
      unfold fX6_ends_s140 fX6_ends_b180
      rw [s_has A2 k1, if_neg (by omega)]
      simp only [Option.bind_some]
      rw [if_pos k1.1, if_neg (by decide), w1]
      simp only [Option.bind_some]
      rw [if_pos p1.1.1, if_pos (p1.rng (i := 5) ⟨by decide, by decide⟩), if_pos (p1.rng (i := 3) ⟨by decide, by decide⟩), m3, m5]
      by_cases c : Q (547 + 6 * i + 3) = -1
      · have eq : ita mkF (i + 1) 0 r = Q := by rw [es]; unfold mkF; rw [if_pos c]
        rw [eq] at st ⊢
        rw [if_pos c, if_pos p1.1.1, if_pos (p1.rng (i := 5) ⟨by decide, by decide⟩), if_pos (by constructor <;> omega), zl_eq]
        refine ⟨_, rfl, fin _, st, ?_, E3 _⟩
        have hs : rup Q (547 + 6 * i + 5) (Q (547 + 6 * i + 5) + 0) = Q := rup_same (by omega)
        have := A (Q (547 + 6 * i + 5) + 0)
        rw [hs] at this
        exact this
      · have eq : ita mkF (i + 1) 0 r = rup Q (547 + 6 * i + 5) (Q (547 + 6 * i + 5) + 1) := by rw [es]; unfold mkF; rw [if_neg c]
        rw [eq] at st ⊢
        have b5' := (st.1.2.2.2.2.1 (i : Int) hi'.1 (by rw [rup_neq (by omega), e546]; exact hi'.2)).2.2.2.2.1
        rw [rup_eq] at b5'
        rw [if_neg c, if_pos p1.1.1, if_pos (p1.rng (i := 5) ⟨by decide, by decide⟩), if_pos (by constructor <;> omega), zl_eq]
        exact ⟨_, rfl, fin _, st, A (Q (547 + 6 * i + 5) + 1), E3 _⟩)
    (fun q hq => by
      obtain ⟨k1, k0, k2, k3⟩ := hq
      have k2 : RLh col1 q g (mkE r) M h := k2
      have e7 : dW q g 7 = dW D g 7 := k3.at H.o.2.1 (fun z => by rw [c1 g H.o.2.1, H.co] at z; have : (0 : Int) = 17 := congrArg Prod.snd z; omega) 7
      have A2 : AL q (dW D g 7) h.lm M := by have := k2.mb.1; rw [e7] at this; exact this
      show ∃ s', fX6_ends_s140 v0 v1 v2 v3 (dT D) q = some (.inr s') ∧ _
      unfold fX6_ends_s140
      rw [s_has A2 k1, if_pos (by omega)]
      simp only [Option.bind_some]
      rw [if_pos k1.1, if_pos trivial]
      exact ⟨_, rfl, k2, k3⟩)
    D1 ⟨q2, KP_0 hI hB, (H.keep q3 (fun _ _ _ z => z) c1), q3.mono (Int.le_refl _) (Int.le_refl _) (fun _ _ z => z.elim)⟩
  obtain ⟨D', w1, w2, w3⟩ := loop
  refine ⟨D', q1, w1, w2.recol (fun a ha hq => ?_), w3.mono (Int.le_refl _) (Int.le_refl _) (fun a ha z => by rw [← c1 a ha, z])⟩
  by_cases c : a < dT D
  · exact (c1 a c).symm
  · rw [c9 a (by omega)] at hq
    rcases hq with p | p
    · have p : (-1 : Int) = g := p
      omega
    · have : (-1 : Int) = 0 := congrArg Prod.fst p
      omega
end DY

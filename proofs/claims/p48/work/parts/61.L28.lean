set_option maxRecDepth 20000
theorem Out.cg {col : Col} {D D' : DD} {g M c s m c' s' m' : Int} {r r' : Row} (h : Out col D g r M c s m D') (er : r' = r) (h1 : c ≤ c') (h2 : s ≤ s') (h3 : m ≤ m') : Out col D g r' M c' s' m' D' := by
  subst er
  exact h.mono h1 h2 h3
/-! counts fall -/
theorem sCnt_sh {p : Int → Prop} [∀ k, Decidable (p k)] {k : Int} (hk : 0 ≤ k) : ∀ m : Nat, ((m : Int) ≤ k → sCnt (m : Int) (fun i => p (if k ≤ i then i + 1 else i)) = sCnt (m : Int) p) ∧ (k ≤ (m : Int) → sCnt (m : Int) (fun i => p (if k ≤ i then i + 1 else i)) ≤ sCnt ((m + 1 : Nat) : Int) p)
  | 0 => ⟨fun _ => rfl, fun h => by
    have := (sCnt_bd p 1).1
    exact this⟩
  | m + 1 => by
    obtain ⟨i1, i2⟩ := sCnt_sh (p := p) hk m
    refine ⟨fun h => ?_, fun h => ?_⟩
    · rw [sCnt_nat, sCnt_nat, i1 (by omega), if_neg (show ¬ k ≤ (m : Int) by omega)]
    · by_cases c : k ≤ (m : Int)
      · have := i2 c
        rw [sCnt_nat, sCnt_nat (n := m + 1), if_pos c, show ((m : Int) + 1) = ((m + 1 : Nat) : Int) by omega]
        split <;> omega
      · have e := i1 (by omega)
        rw [sCnt_nat, sCnt_nat (n := m + 1), sCnt_nat (n := m), e, if_neg c]
        by_cases c1 : p (m : Int) <;> by_cases c2 : p ((m + 1 : Nat) : Int) <;> simp only [c1, c2, if_true, if_false] <;> omega
theorem XJ_off {r : Row} {B k : Int} (hI : IH B r) (hk : 0 ≤ k ∧ k < r 37) (hJ : XJ r) : XJ (offR r k) := by
  have hn := hI.1
  unfold IHn at hn
  intro w
  have e1 : offR r k 37 = (((r 37).toNat - 1 : Nat) : Int) := by rw [offR_37]; omega
  rw [e1, sCnt_congr (q := fun i => (fun x => r (38 + 18 * x + 0) = w) (if k ≤ i then i + 1 else i)) (fun i a b => by rw [offR_c hI hk.1 ⟨a, by omega⟩ ⟨by decide, by decide⟩])]
  have h1 := (sCnt_sh (p := fun x => r (38 + 18 * x + 0) = w) hk.1 ((r 37).toNat - 1)).2 (by omega)
  have h2 := hJ w
  rw [show (((r 37).toNat - 1 + 1 : Nat) : Int) = r 37 by omega] at h1
  exact Int.le_trans h1 h2
theorem Suc_off {r : Row} {B k : Int} (hI : IH B r) (hk : 0 ≤ k ∧ k < r 37) (hJ : XJ r) : Suc r (offR r k) := by
  have hn := hI.1
  unfold IHn at hn
  have ha := arA_n (r := r) (by omega)
  exact ⟨XJ_off hI hk hJ, by rw [offR_o ha.1 hk.1 (by omega) (by omega)]; omega⟩
section AC
variable {col : Col} {D : DD} {g : Int} {r : Row} {M B x y mem rt hs cs wl im ir k : Int} {h : HLs}
/-- taking a route off -/
theorem a_remove (H : RLh col D g r M h) (hI : IH B r) (hJ : XJ r) (hB : B ≤ 900000) (hM : M < 700000) (hr : 0 ≤ rt ∧ rt ≤ r 37) (hir : ir = bI (rt < r 37)) (hT : dT D + 2000 < 600000) (hS : dS D + 50000 ≤ 7200000) : ∃ due D', fL_act_b106 g 4 x y mem rt hs cs wl im ir D = some (due, D') ∧ Res col D g r M B (fX5_removeRoute rt) due D' := by
  have hn := hI.1
  unfold IHn at hn
  unfold fL_act_b106
  rw [if_neg (by decide), if_pos rfl, hir]
  by_cases q2 : ¬ (rt < r 37)
  · rw [if_pos (bI_f q2)]
    refine ⟨_, _, rfl, errE H (E := 0) (by decide) rfl (fun z hR => ⟨z, ?_, fun _ _ => rfl⟩)⟩
    simp only [fX5_removeRoute, n_row, RCn hR, if_neg (show ¬ (0 ≤ rt ∧ rt < r 37) from fun q => q2 q.2), Option.bind_some] <;> rfl
  have q2 := Decidable.not_not.mp q2
  have q2' : 0 ≤ rt ∧ rt < r 37 := ⟨hr.1, q2⟩
  have ert : ((rt.toNat : Nat) : Int) = rt := Int.toNat_of_nonneg q2'.1
  obtain ⟨e2, p2⟩ := H.gr q2'
  have hlr : rt.toNat < h.lr.length := by have := H.nr; omega
  obtain ⟨D1, col1, e3, H1, c1, E1⟩ := l_grade H hI hlr (by omega) (by omega)
  rw [ert] at e3
  have t1 := E1.2.1
  have u1 := E1.2.2.2.1
  obtain ⟨D2, f1, f2⟩ := l_takeOff H1 hI q2' (by omega) (by omega) (by omega)
  rw [if_neg (by rw [bI_t q2]; decide), if_pos H.o, e2]
  simp only [Option.bind_some]
  rw [if_pos H.rt.1.1, if_pos p2.1, e3]
  simp only [Option.bind_some]
  rw [f1]
  simp only [Option.bind_some]
  obtain ⟨g1, g2⟩ := g_removeRoute hI q2'
  have hg := sGr_ok hI q2'
  refine ⟨_, _, rfl, Or.inl ⟨_, ?_, ChgC_of g1, IH_mono g2 (by omega) (by omega), Suc_off hI q2' hJ, ?_⟩⟩
  · have : sG r rt 0 0 = sGr r rt := rfl
    omega
  · exact (Out.tr c1 E1.own (m := 0) ⟨Int.le_refl _, by omega⟩ f2).mono (by decide) (by decide) (by decide)
end AC
section DY
variable {col : Col} {D : DD} {g : Int} {r : Row} {M B w k n0 : Int} {h : HLs}
theorem RLh.lr_lt (H : RLh col D g r M h) : True := trivial
/-- one wall is reset: its routes -/
theorem l_reset {N kd : Int} (H : RLh col D g r M h) (hI : IH B r) (hM : M < 700000) (hT : dT D + 45 * r 37 + 60 < 600000) (hS : dS D + 1600 * r 37 + 1800 ≤ 7200000) (hn0 : 0 ≤ n0 ∧ n0 ≤ 1000000) : ∃ D', zlp (fun q => fX6_ends_s39 g N kd w q.1 q.2.1 q.2.2) FU (n0, 0, D) = some (n0 + (rsE r w).2.1, D') ∧ Out col D g (rsE r w).1 M (45 * (rsE r w).2.1) (1600 * (rsE r w).2.1) (3 * (rsE r w).2.1) D' := by
  have hn := hI.1
  unfold IHn at hn
  have e37 : (((r 37).toNat : Nat) : Int) = r 37 := Int.toNat_of_nonneg hn.2.2.1
  have loop := lp_FU (f := fun q : Int × Int × DD => fX6_ends_s39 g N kd w q.1 q.2.1 q.2.2)
    (fun i q => RP B r i (ita (rsF w) i 0 (r, 0, 0)) ∧ q.1 = n0 + (ita (rsF w) i 0 (r, 0, 0)).2.1 ∧ q.2.1 = (ita (rsF w) i 0 (r, 0, 0)).2.2 ∧ Out col D g (ita (rsF w) i 0 (r, 0, 0)).1 M (45 * (ita (rsF w) i 0 (r, 0, 0)).2.1) (1600 * (ita (rsF w) i 0 (r, 0, 0)).2.1) (3 * (ita (rsF w) i 0 (r, 0, 0)).2.1) q.2.2)
    (fun q => q.1 = n0 + (rsE r w).2.1 ∧ Out col D g (rsE r w).1 M (45 * (rsE r w).2.1) (1600 * (rsE r w).2.1) (3 * (rsE r w).2.1) q.2) (r 37).toNat (by omega)
    (fun i q hi hq => by
      obtain ⟨k1, k2, D1⟩ := q
      obtain ⟨h1, h2, h3, h4⟩ := hq
      have h2 : k1 = n0 + (ita (rsF w) i 0 (r, 0, 0)).2.1 := h2
      have h3 : k2 = (ita (rsF w) i 0 (r, 0, 0)).2.2 := h3
      have h4 : Out col D g (ita (rsF w) i 0 (r, 0, 0)).1 M (45 * (ita (rsF w) i 0 (r, 0, 0)).2.1) (1600 * (ita (rsF w) i 0 (r, 0, 0)).2.1) (3 * (ita (rsF w) i 0 (r, 0, 0)).2.1) D1 := h4
      subst h2
      subst h3
      have hi' : 0 ≤ (i : Int) ∧ (i : Int) < r 37 := by omega
      have st := RP_s (w := w) hI hi' h1
      have es : ita (rsF w) (i + 1) 0 (r, 0, 0) = rsF w i (ita (rsF w) i 0 (r, 0, 0)) := by rw [ita_succ, Int.zero_add]
      rw [show ((i : Int) + 1) = ((i + 1 : Nat) : Int) by omega, ← es] at st
      generalize hQ : ita (rsF w) i 0 (r, 0, 0) = Q at *
      obtain ⟨r1, r2, r3, r4, r5, r6⟩ := h1
      obtain ⟨col', M', h', H', c', E', m1, m2⟩ := h4
      have hN := H'.nr
      have hk : 0 ≤ Q.2.2 ∧ Q.2.2 < Q.1 37 := by omega
      obtain ⟨q1, p1⟩ := H'.gr hk
      have w0 : dW D1 (h'.lr.getD Q.2.2.toNat 0) 0 = Q.1 (38 + 18 * Q.2.2 + 0) := p1.at (i := 0) ⟨by decide, by decide⟩
      left
      show ∃ s', fX6_ends_s39 g N kd w (n0 + Q.2.1) Q.2.2 D1 = some (.inl s') ∧ _
      unfold fX6_ends_s39 fX6_ends_b86
      rw [if_pos H'.o, s_size H'.rt.1]
      simp only [Option.bind_some]
      rw [if_pos H'.rt.1.1, hN, if_pos hk.2, q1]
      simp only [Option.bind_some]
      rw [if_pos p1.1, w0]
      by_cases c : Q.1 (38 + 18 * Q.2.2 + 0) = w
      · have e1 := E'.2.1
        have e2 := E'.2.2.2.1
        obtain ⟨D2, a1, a2⟩ := l_takeOff H' r1 hk (by omega) (by omega) (by omega)
        rw [if_pos c, a1]
        simp only [Option.bind_some]
        rw [if_pos (by constructor <;> omega), if_pos (by constructor <;> omega), if_pos (by constructor <;> omega)]
        have eq : ita (rsF w) (i + 1) 0 (r, 0, 0) = (offR Q.1 Q.2.2, Q.2.1 + 1, Q.2.2) := by rw [es]; unfold rsF; rw [if_pos c]
        rw [eq] at st ⊢
        refine ⟨_, rfl, st, by show n0 + Q.2.1 + 1 = n0 + (Q.2.1 + 1); omega, by show Q.2.2 + -1 + 1 = Q.2.2; omega, ?_⟩
        exact (Out.tr c' E' ⟨m1, m2⟩ a2).mono (by show _ ≤ 45 * (Q.2.1 + 1); omega) (by show _ ≤ 1600 * (Q.2.1 + 1); omega) (by show _ ≤ 3 * (Q.2.1 + 1); omega)
      · rw [if_neg c, if_pos (by constructor <;> omega)]
        have eq : ita (rsF w) (i + 1) 0 (r, 0, 0) = (Q.1, Q.2.1, Q.2.2 + 1) := by rw [es]; unfold rsF; rw [if_neg c]
        rw [eq] at st ⊢
        exact ⟨_, rfl, st, rfl, rfl, col', M', h', H', c', E', m1, m2⟩)
    (fun q hq => by
      obtain ⟨k1, k2, D1⟩ := q
      obtain ⟨h1, h2, h3, h4⟩ := hq
      have h2 : k1 = n0 + (rsE r w).2.1 := h2
      have h3 : k2 = (rsE r w).2.2 := h3
      have h4 : Out col D g (rsE r w).1 M (45 * (rsE r w).2.1) (1600 * (rsE r w).2.1) (3 * (rsE r w).2.1) D1 := h4
      have h1 : RP B r ((r 37).toNat : Nat) (rsE r w) := h1
      subst h2
      subst h3
      have h4' := h4
      obtain ⟨col', M', h', H', c', E', m1, m2⟩ := h4
      obtain ⟨r1, r2, r3, r4, r5, r6⟩ := h1
      have hN : (h'.lr.length : Int) = (rsE r w).1 37 := H'.nr
      show ∃ s', fX6_ends_s39 g N kd w (n0 + (rsE r w).2.1) (rsE r w).2.2 D1 = some (.inr s') ∧ _
      unfold fX6_ends_s39
      rw [if_pos H'.o, s_size H'.rt.1]
      simp only [Option.bind_some]
      have hcd : ¬ (rsE r w).2.2 < (rsE r w).1 37 := by
        have r6 : (rsE r w).1 37 = r 37 - (rsE r w).2.1 := r6
        rw [r6]
        have r5 : (rsE r w).2.1 + (rsE r w).2.2 = (((r 37).toNat : Nat) : Int) := r5
        omega
      rw [if_pos H'.rt.1.1, hN, if_neg hcd]
      exact ⟨_, rfl, rfl, h4'⟩)
    (n0, 0, D) ⟨RP_0 hI, by show n0 = n0 + 0; omega, rfl, col, M, h, H, fun _ _ => rfl, (Ev.refl _ D).mono (by show (0 : Int) ≤ 45 * 0; omega) (by show (0 : Int) ≤ 1600 * 0; omega) (fun _ _ z => z), Int.le_refl _, by show M ≤ M + 3 * 0; omega⟩
  obtain ⟨⟨a, D1⟩, w1, w2, w3⟩ := loop
  have w2 : a = n0 + (rsE r w).2.1 := w2
  subst w2
  exact ⟨D1, w1, w3⟩
end DY

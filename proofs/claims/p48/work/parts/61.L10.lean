set_option maxRecDepth 20000
/-! going through the hall's lists -/
section LI
variable {col : Col} {D : DD} {g : Int} {r : Row} {M B : Int} {h : HLs}
theorem l_isLent (H : RLh col D g r M h) (hI : IH B r) {k : Int} (hk : 0 ≤ k ∧ k < r 470) (hT : dT D < 600000) (hS : dS D + 4 ≤ 7200000) : ∃ D', fX6_isLent g k D = some (bI (sLent r k), D') ∧ Ev (fun _ => False) 1 4 D D' := by
  have iff := (hI.2.2.2.1 k hk.1 hk.2).2.2.2.2
  obtain ⟨D1, q1, q2, q3⟩ := s_iter H.mb.1 hT hS
  unfold fX6_isLent
  rw [if_pos H.o, q1]
  simp only [Option.bind_some]
  rw [if_pos H.mb.1.1]
  have hlen : h.lm.length ≤ 40 := H.mb.1.2.2.2.1
  have hnm := H.nm
  have loop := lp_FU (f := fun q => fX6_isLent_s8 k (dT D) q)
    (fun i q => It q (dT D) (dW D g 7) i ∧ Ev (fun _ => False) 1 4 D q ∧ ∀ m : Nat, m < i → r (547 + 6 * m + 3) ≠ k)
    (fun q => match q with | .inl D' => Ev (fun _ => False) 1 4 D D' ∧ (∀ m : Nat, m < h.lm.length → r (547 + 6 * m + 3) ≠ k) | .inr y => y.1 = 1 ∧ Ev (fun _ => False) 1 4 D y.2 ∧ ∃ m : Nat, m < h.lm.length ∧ r (547 + 6 * m + 3) = k) h.lm.length (by omega)
    (fun i q hi hq => by
      obtain ⟨k1, k2, k3⟩ := hq
      have H2 := H.tmp k2
      have e7 : dW q g 7 = dW D g 7 := k2.at H.o.2.1 (fun z => z) 7
      have A2 : AL q (dW D g 7) h.lm M := by have := H2.mb.1; rw [e7] at this; exact this
      obtain ⟨D2, w1, w2, w3, w4⟩ := s_next A2 k1 hi
      have E2 : Ev (fun _ => False) 1 4 D D2 := (k2.trans w4 (fun a ha p => by omega)).mono (by omega) (by omega) (fun _ _ z => z)
      have H3 := H.tmp E2
      have p := H3.em i hi
      show (∃ s', fX6_isLent_s8 k (dT D) q = some (.inl s') ∧ _) ∨ ∃ r, fX6_isLent_s8 k (dT D) q = some (.inr r) ∧ _
      unfold fX6_isLent_s8
      rw [s_has A2 k1, if_neg (by omega)]
      simp only [Option.bind_some]
      rw [if_pos k1.1, if_neg (by decide), w1]
      simp only [Option.bind_some]
      rw [if_pos p.1.1, if_pos (p.rng (i := 3) ⟨by decide, by decide⟩), p.at (i := 3) ⟨by decide, by decide⟩]
      by_cases c : r (547 + 6 * i + 3) = k
      · right
        rw [if_pos c]
        exact ⟨_, rfl, rfl, E2, i, hi, c⟩
      · left
        rw [if_neg c]
        refine ⟨D2, rfl, w2, E2, fun m hm => ?_⟩
        by_cases e : m = i
        · rw [e]; exact c
        · exact k3 m (by omega))
    (fun q hq => by
      obtain ⟨k1, k2, k3⟩ := hq
      have H2 := H.tmp k2
      have e7 : dW q g 7 = dW D g 7 := k2.at H.o.2.1 (fun z => z) 7
      have A2 : AL q (dW D g 7) h.lm M := by have := H2.mb.1; rw [e7] at this; exact this
      show ∃ r, fX6_isLent_s8 k (dT D) q = some (.inr r) ∧ _
      unfold fX6_isLent_s8
      rw [s_has A2 k1, if_pos rfl]
      simp only [Option.bind_some]
      rw [if_pos k1.1, if_pos trivial]
      exact ⟨_, rfl, k2, k3⟩)
    D1 ⟨q2, q3, fun m hm => by omega⟩
  obtain ⟨q, w1, w2⟩ := loop
  rw [w1]
  simp only [Option.bind_some]
  cases q with
  | inl D' =>
    obtain ⟨w3, w4⟩ := w2
    refine ⟨D', ?_, w3⟩
    rw [bI_f]
    intro c
    obtain ⟨m, m1, m2, m3⟩ := iff.mp c
    have := w4 m.toNat (by omega)
    rw [Int.toNat_of_nonneg m1] at this
    exact this m3
  | inr y =>
    obtain ⟨w3, w4, m, m1, m2⟩ := w2
    obtain ⟨y1, y2⟩ := y
    have w3 : y1 = 1 := w3
    subst w3
    refine ⟨y2, ?_, w4⟩
    rw [bI_t]
    exact iff.mpr ⟨m, by omega, by omega, m2⟩
abbrev sOn (r : Row) (w : Int) : Int := sCnt (r 37) (fun k => r (38 + 18 * k + 0) = w)
theorem sCnt_nat {n : Nat} {p : Int → Prop} [∀ k, Decidable (p k)] : sCnt ((n + 1 : Nat) : Int) p = if p n then sCnt (n : Int) p + 1 else sCnt (n : Int) p := by
  unfold sCnt
  rw [show ((n + 1 : Nat) : Int).toNat = n + 1 by omega, show ((n : Nat) : Int).toNat = n by omega, ita_succ]
  simp
theorem sCnt_bd (p : Int → Prop) [∀ k, Decidable (p k)] : ∀ n : Nat, 0 ≤ sCnt (n : Int) p ∧ sCnt (n : Int) p ≤ n
  | 0 => ⟨Int.le_refl _, Int.le_refl _⟩
  | n + 1 => by
    have := sCnt_bd p n
    rw [sCnt_nat]
    split <;> omega
theorem l_onWall (H : RLh col D g r M h) {w : Int} (hT : dT D < 600000) (hS : dS D + 4 ≤ 7200000) : ∃ D', fX6_onWall g w D = some (sOn r w, D') ∧ Ev (fun _ => False) 1 4 D D' := by
  obtain ⟨D1, q1, q2, q3⟩ := s_iter H.rt.1 hT hS
  unfold fX6_onWall
  rw [if_pos H.o, q1]
  simp only [Option.bind_some]
  rw [if_pos H.rt.1.1]
  have hlen : h.lr.length ≤ 40 := H.rt.1.2.2.2.1
  have hn := H.nr
  have loop := lp_FU (f := fun q : Int × DD => fX6_onWall_s10 w (dT D) q.1 q.2)
    (fun i q => q.1 = sCnt (i : Int) (fun k => r (38 + 18 * k + 0) = w) ∧ It q.2 (dT D) (dW D g 5) i ∧ Ev (fun _ => False) 1 4 D q.2)
    (fun q => q.1 = sOn r w ∧ Ev (fun _ => False) 1 4 D q.2) h.lr.length (by omega)
    (fun i q hi hq => by
      obtain ⟨n, q⟩ := q
      obtain ⟨k0, k1, k2⟩ := hq
      have k0 : n = _ := k0
      subst k0
      have k2' : Ev (fun _ => False) 1 4 D q := k2
      have H2 := H.tmp k2'
      have e7 : dW q g 5 = dW D g 5 := k2'.at H.o.2.1 (fun z => z) 5
      have A2 : AL q (dW D g 5) h.lr M := by have := H2.rt.1; rw [e7] at this; exact this
      obtain ⟨D2, w1, w2, w3, w4⟩ := s_next A2 k1 hi
      have E2 : Ev (fun _ => False) 1 4 D D2 := (k2'.trans w4 (fun a ha p => by omega)).mono (by omega) (by omega) (fun _ _ z => z)
      have H3 := H.tmp E2
      have p := H3.er i hi
      have p0 := p.2.2.1 0 (by decide)
      have bd := sCnt_bd (fun k => r (38 + 18 * k + 0) = w) i
      left
      show ∃ s', fX6_onWall_s10 w (dT D) (sCnt (i : Int) (fun k => r (38 + 18 * k + 0) = w)) q = some (.inl s') ∧ _
      unfold fX6_onWall_s10
      rw [s_has A2 k1, if_neg (by omega)]
      simp only [Option.bind_some]
      rw [if_pos k1.1, if_neg (by decide), w1]
      simp only [Option.bind_some]
      have p0 : dW D2 (h.lr.getD i 0) 0 = r (38 + 18 * i + 0) := p0
      rw [if_pos p.1, p0]
      unfold fX6_onWall_b45
      by_cases c : r (38 + 18 * i + 0) = w
      · rw [if_pos c, if_pos (by constructor <;> omega)]
        exact ⟨_, rfl, by show _ = sCnt ((i + 1 : Nat) : Int) _; rw [sCnt_nat, if_pos c], w2, E2⟩
      · rw [if_neg c, if_pos (by constructor <;> omega)]
        exact ⟨_, rfl, by show _ = sCnt ((i + 1 : Nat) : Int) _; rw [sCnt_nat, if_neg c, Int.add_zero], w2, E2⟩)
    (fun q hq => by
      obtain ⟨n, q⟩ := q
      obtain ⟨k0, k1, k2⟩ := hq
      have k2' : Ev (fun _ => False) 1 4 D q := k2
      have H2 := H.tmp k2'
      have e7 : dW q g 5 = dW D g 5 := k2'.at H.o.2.1 (fun z => z) 5
      have A2 : AL q (dW D g 5) h.lr M := by have := H2.rt.1; rw [e7] at this; exact this
      show ∃ r, fX6_onWall_s10 w (dT D) n q = some (.inr r) ∧ _
      unfold fX6_onWall_s10
      rw [s_has A2 k1, if_pos rfl]
      simp only [Option.bind_some]
      rw [if_pos k1.1, if_pos trivial]
      refine ⟨_, rfl, ?_, k2⟩
      show n = sOn r w
      unfold sOn
      rw [← hn]
      exact k0)
    (0, D1) ⟨rfl, q2, q3⟩
  obtain ⟨⟨n, q⟩, w1, w2, w3⟩ := loop
  rw [w1]
  have w2 : n = _ := w2
  subst w2
  exact ⟨q, rfl, w3⟩
end LI

set_option maxRecDepth 20000
section RS
variable {col : Col} {D : DD} {g : Int} {r : Row} {M B : Int} {h : HLs} {k m c : Int}
theorem RR.at {e n : Int} {f : Int → Int} (p : RR col D g e f n M) {i : Int} (hi : 0 ≤ i ∧ i < 6) : dW D e i = f i := by
  have := p.2.2.1 i.toNat (by omega)
  rw [Int.toNat_of_nonneg hi.1] at this
  exact this
theorem l_mayClimb (H : RLh col D g r M h) (hI : IH B r) (hm : 0 ≤ m ∧ m < r 546) (hk : 0 ≤ k ∧ k < r 37) : fX6_mayClimb g m k D = some (bI (sMay r m k)) := by
  obtain ⟨q1, p1⟩ := H.gm hm
  obtain ⟨q2, p2⟩ := H.gr hk
  have hr := (hI.2.2.1 k hk.1 hk.2).1
  have hh := (hI.2.2.2.2.1 m hm.1 hm.2).2.2.1
  obtain ⟨q3, p3⟩ := H.gw hr
  have e0 : dW D (h.lr.getD k.toNat 0) 0 = r (38 + 18 * k + 0) := p2.at (i := 0) ⟨by decide, by decide⟩
  have e3 : dW D (h.lr.getD k.toNat 0) 3 = r (38 + 18 * k + 3) := p2.at (i := 3) ⟨by decide, by decide⟩
  have m1 : dW D (h.lm.getD m.toNat 0) 1 = r (547 + 6 * m + 1) := p1.at (i := 1) ⟨by decide, by decide⟩
  have m3 : dW D (h.lm.getD m.toNat 0) 3 = r (547 + 6 * m + 3) := p1.at (i := 3) ⟨by decide, by decide⟩
  have w1 : dW D (h.lw.getD (r (38 + 18 * k + 0)).toNat 0) 1 = r (5 + 4 * r (38 + 18 * k + 0) + 1) := p3.at (i := 1) ⟨by decide, by decide⟩
  unfold fX6_mayClimb
  rw [if_pos H.o, q1]
  simp only [Option.bind_some]
  rw [if_pos H.mb.1.1, if_pos p1.1.1, q2]
  simp only [Option.bind_some]
  rw [if_pos H.rt.1.1, if_pos p2.1, e0, l_isClosed H hr]
  simp only [Option.bind_some]
  by_cases h1 : sClosed r (r (38 + 18 * k + 0))
  · rw [if_neg (by rw [bI_t h1]; decide), bI_f (fun q => q.1 h1)]
  rw [if_pos (bI_f h1), if_pos (p1.rng (i := 1) ⟨by decide, by decide⟩), q3]
  simp only [Option.bind_some]
  rw [if_pos H.w.1.1, if_pos p3.1.1, if_pos (p3.rng (i := 1) ⟨by decide, by decide⟩), m1, w1]
  by_cases h2 : r (547 + 6 * m + 1) < r (5 + 4 * r (38 + 18 * k + 0) + 1)
  · rw [if_pos h2, bI_f (fun q => by have := q.2.1; omega)]
  rw [if_neg h2, if_pos (p1.rng (i := 3) ⟨by decide, by decide⟩), m3]
  by_cases h3 : r (547 + 6 * m + 3) = -1
  · rw [if_pos h3, bI_f (fun q => q.2.2.1 h3)]
  rw [if_neg h3, H.f3, l_inForce H hI ⟨by omega, hh.2⟩]
  simp only [Option.bind_some]
  by_cases h4 : sForce r (r (547 + 6 * m + 3)) (r 3)
  · rw [if_neg (by rw [bI_t h4]; decide), e3, H.f2]
    by_cases h5 : sWorn r k
    · have h5' : r 2 ≤ r (38 + 18 * k + 3) := h5
      rw [if_neg (by omega), bI_f (fun q => q.2.2.2.2 h5)]
    · have h5' : ¬ r 2 ≤ r (38 + 18 * k + 3) := h5
      rw [if_pos (by omega), bI_t ⟨h1, by omega, h3, h4, h5⟩]
  · rw [if_pos (bI_f h4), bI_f (fun q => h4 q.2.2.2.1)]
theorem sSet_nat {n : Nat} {p : Int → Prop} [∀ k, Decidable (p k)] : sSet ((n + 1 : Nat) : Int) p = if p n then zor (sSet (n : Int) p) (zshl 1 n) else sSet (n : Int) p := by
  unfold sSet
  rw [show ((n + 1 : Nat) : Int).toNat = n + 1 by omega, show ((n : Nat) : Int).toNat = n by omega, ita_succ]
  simp
theorem zor_z0 {x : Int} (h : 0 ≤ x ∧ x < 4096) : zor x 0 = x := by
  have := zor_nat (a := x.toNat) (b := 0) (by omega) (by omega)
  rw [Int.toNat_of_nonneg h.1] at this
  have e : ((0 : Nat) : Int) = 0 := rfl
  rw [e] at this
  rw [this, Nat.or_zero, Int.toNat_of_nonneg h.1]
theorem l_inCourse (H : RLh col D g r M h) (hI : IH B r) : fX6_inCourse g c D = some (sIn r c) := by
  have hn := hI.1
  unfold IHn at hn
  have hlen := H.nm
  have loop := lp_FU (f := fun q : Int × Int => fX6_inCourse_s4 g c q.1 q.2 D)
    (fun i q => q.1 = sSet (i : Int) (fun m => r (547 + 6 * m + 4) = c) ∧ q.2 = (i : Int))
    (fun q => q = sIn r c) h.lm.length (by omega)
    (fun i q hi hq => by
      obtain ⟨a, b⟩ := q
      obtain ⟨h1, h2⟩ := hq
      have h1 : a = _ := h1
      have h2 : b = (i : Int) := h2
      subst h1
      subst h2
      obtain ⟨q1, p1⟩ := H.gm (w := (i : Int)) ⟨by omega, by omega⟩
      have m4 : dW D (h.lm.getD ((i : Int)).toNat 0) 4 = r (547 + 6 * i + 4) := p1.at (i := 4) ⟨by decide, by decide⟩
      left
      show ∃ s', fX6_inCourse_s4 g c _ (i : Int) D = some (.inl s') ∧ _
      unfold fX6_inCourse_s4 fX6_inCourse_b40
      rw [if_pos H.o, s_size H.mb.1]
      simp only [Option.bind_some]
      rw [if_pos H.mb.1.1, if_pos (by omega), q1]
      simp only [Option.bind_some]
      rw [if_pos p1.1.1, if_pos (p1.rng (i := 4) ⟨by decide, by decide⟩), m4]
      have bd := sSet_lt (n := (i : Int)) ⟨by omega, by omega⟩ (fun m => r (547 + 6 * m + 4) = c)
      by_cases e : r (547 + 6 * i + 4) = c
      · rw [if_pos e, if_pos (by constructor <;> omega)]
        exact ⟨_, rfl, by rw [sSet_nat, if_pos e], by show (i : Int) + 1 = ((i + 1 : Nat) : Int); omega⟩
      · rw [if_neg e, if_pos (by constructor <;> omega)]
        exact ⟨_, rfl, by rw [sSet_nat, if_neg e, zor_z0 bd], by show (i : Int) + 1 = ((i + 1 : Nat) : Int); omega⟩)
    (fun q hq => by
      obtain ⟨a, b⟩ := q
      obtain ⟨h1, h2⟩ := hq
      have h1 : a = _ := h1
      have h2 : b = (h.lm.length : Int) := h2
      subst h1
      subst h2
      show ∃ s', fX6_inCourse_s4 g c _ (h.lm.length : Int) D = some (.inr s') ∧ _
      unfold fX6_inCourse_s4
      rw [if_pos H.o, s_size H.mb.1]
      simp only [Option.bind_some]
      rw [if_pos H.mb.1.1, if_neg (by omega)]
      exact ⟨_, rfl, by rw [hlen]⟩)
    (0, 0) ⟨rfl, rfl⟩
  obtain ⟨a, w1, w2⟩ := loop
  unfold fX6_inCourse
  rw [w1, w2]
  rfl
theorem l_bits {x : Int} {D : DD} (h : 0 ≤ x ∧ x < 4096) : fJ6_bitCount_0f7a4_D x D = some ((pcn x.toNat : Nat) : Int) := c_bits (z := fun _ _ => 0) h
end RS

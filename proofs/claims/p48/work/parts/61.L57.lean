set_option maxRecDepth 20000
def BX (D X : DD) (n : Nat) (f : Int → Int) (c s : Int) : Prop := dO X (dT D) 20 ∧ (dH X (dT D)).2 = n ∧ (∀ j, dW X (dT D) j = f j) ∧ Ev (fun _ => False) c s D X
theorem BA.x {D X : DD} {n : Nat} {f : Int → Int} (h : BA D X n f) : BX D X n f 1 n := h
theorem BX.ev {D X Y : DD} {n : Nat} {f : Int → Int} {c s c' s' : Int} (h : BX D X n f c s) (E : Ev (fun _ => False) c' s' X Y) : BX D Y n f (c + c') (s + s') := by
  obtain ⟨h1, h2, h3, h4⟩ := h
  exact ⟨E.dO h1, by rw [E.sz h1]; exact h2, fun j => by rw [E.at h1.2.1 (fun q => q)]; exact h3 j, h4.trans E (fun _ _ q => q.elim)⟩
theorem BX.put {D X : DD} {n : Nat} {f : Int → Int} {c s : Int} (h : BX D X n f c s) (k v : Int) : BX D (dup X (dT D) k v) n (rup f k v) c s := by
  obtain ⟨h1, h2, h3, h4⟩ := h
  refine ⟨h1, h2, fun j => ?_, ?_⟩
  · rw [dup_at, rup_at, h3]
    by_cases c : j = k
    · rw [if_pos ⟨rfl, c⟩, if_pos c]
    · rw [if_neg (fun q => c q.2), if_neg c]
  · exact (h4.trans (Ev.dup (P := fun a => a = dT D) X (fun _ => rfl)) (fun a ha q => by omega)).mono (by omega) (by omega) (fun _ _ q => q)
theorem BX.rng {D X : DD} {n : Nat} {f : Int → Int} {c s : Int} (h : BX D X n f c s) {k : Int} (hk : 0 ≤ k ∧ k < n) : 0 ≤ k ∧ k < ((dH X (dT D)).2 : Int) := ⟨hk.1, by rw [h.2.1]; exact hk.2⟩
section IA
variable {col : Col} {D D1 : DD} {z z1 : ZZ} {g : Int} {r : Row} {M c s B : Int} {h : HLs}
/-- one harness -/
theorem i_harn1 {ln : Nat} (S : SI col D z g r M h c s z1 D1) (hI : IH B r) {k : Int} (hk : 0 ≤ k ∧ k < r 470) (hT : dT D + c + 60 < 600000) (hS : dS D + s + 2000 ≤ 7200000) : ∃ z2 D2, fX6_isAs_s383 g k ln z1 D1 = some (.inl (k + 1, z2, D2)) ∧ SI col D z g r M h (c + 2) (s + 10) z2 D2 := by
  have hn := hI.1
  unfold IHn at hn
  have S0 := S
  obtain ⟨col3, H, C3, E3, R3, F3⟩ := S
  have t3 := E3.2.1
  have u3 := E3.2.2.2.1
  have t30 := E3.1
  have hb := dO_gt H.o
  have nr := H.nh
  have ib := hI.2.2.2.1 k hk.1 hk.2
  obtain ⟨q, p⟩ := H.gh hk
  have B0 : BX D1 (dnew D1 20 6) 6 (fun _ => 0) 1 6 := (BA.new hb).x
  generalize he : h.lh.getD k.toNat 0 = e at *
  unfold fX6_isAs_s383
  rw [if_pos H.o, s_size H.hs.1, Option.bind_some, if_pos H.hs.1.1, if_pos (by omega), q, Option.bind_some, if_pos p.1.1, if_pos ⟨⟨by decide, by decide⟩, by omega, by omega⟩, zl_eq, show (6 : Int).toNat = 6 from rfl]
  generalize dnew D1 20 6 = X0 at *
  have H0 := H.tmp B0.2.2.2
  have p0 := (H0.gh hk).2
  rw [he] at p0
  rw [if_pos (p0.rng (i := 0) ⟨by decide, by decide⟩), if_pos (B0.rng (k := 0) (by decide)), p0.at (i := 0) ⟨by decide, by decide⟩, zl_eq]
  have B1 := B0.put 0 (r (471 + 5 * k + 0))
  generalize dup X0 (dT D1) 0 (r (471 + 5 * k + 0)) = X1 at *
  have H1 := H.tmp B1.2.2.2
  have p1 := (H1.gh hk).2
  rw [he] at p1
  rw [if_pos (p1.rng (i := 1) ⟨by decide, by decide⟩), if_pos (B1.rng (k := 1) (by decide)), p1.at (i := 1) ⟨by decide, by decide⟩, zl_eq]
  have B2 := B1.put 1 (r (471 + 5 * k + 1))
  generalize dup X1 (dT D1) 1 (r (471 + 5 * k + 1)) = X2 at *
  have H2 := H.tmp B2.2.2.2
  have p2 := (H2.gh hk).2
  rw [he] at p2
  rw [if_pos (p2.rng (i := 2) ⟨by decide, by decide⟩), if_pos (B2.rng (k := 2) (by decide)), p2.at (i := 2) ⟨by decide, by decide⟩, zl_eq]
  have B3 := B2.put 2 (r (471 + 5 * k + 2))
  generalize dup X2 (dT D1) 2 (r (471 + 5 * k + 2)) = X3 at *
  have H3 := H.tmp B3.2.2.2
  have p3 := (H3.gh hk).2
  rw [he] at p3
  rw [if_pos (p3.rng (i := 1) ⟨by decide, by decide⟩), if_pos (p3.rng (i := 2) ⟨by decide, by decide⟩), if_pos (B3.rng (k := 3) (by decide)), p3.at (i := 1) ⟨by decide, by decide⟩, p3.at (i := 2) ⟨by decide, by decide⟩, if_pos (inR_s (by omega)), zl_eq]
  have B4 := B3.put 3 (r (471 + 5 * k + 1) + r (471 + 5 * k + 2))
  generalize dup X3 (dT D1) 3 (r (471 + 5 * k + 1) + r (471 + 5 * k + 2)) = X4 at *
  have H4 := H.tmp B4.2.2.2
  have p4 := (H4.gh hk).2
  rw [he] at p4
  rw [if_pos (p4.rng (i := 3) ⟨by decide, by decide⟩), p4.at (i := 3) ⟨by decide, by decide⟩]
  have go2 : ∀ (X : DD) (w : Int) (f : Int → Int) (c' s' : Int), BX D1 X 6 f c' s' → 0 ≤ c' ∧ c' ≤ 2 → 0 ≤ s' ∧ s' ≤ 10 → (∀ i : Nat, i < 5 → f i = harnOf r k i) → w = bI (sForce r k (r 3)) → ∃ z2 D2, fX6_isAs_b491 g k (dT D1) (dT D1) 5 w ln z1 X = some (.inl (k + 1, z2, D2)) ∧ SI col D z g r M h (c + 2) (s + 10) z2 D2 := fun X w f c' s' b hc hs hf hw => by
    have b2 := b.put 5 w
    unfold fX6_isAs_b491
    rw [if_pos b.1, if_pos (b.rng (k := 5) (by decide)), zl_eq]
    generalize dup X (dT D1) 5 w = Y at *
    have hg : ∀ i : Nat, i < 6 → dW Y (dT D1) i = harnOf r k i := fun i hi => by
      rw [b2.2.2.1, rup_at]
      by_cases ci : i = 5
      · subst ci
        rw [if_pos (by decide), hw]
        unfold harnOf
        rw [if_neg (by decide), if_neg (by decide), if_pos (by decide)]
      · rw [if_neg (by omega)]
        exact hf i (by omega)
    rw [i_hs0 hI R3 hk ⟨b2.1, b2.2.1⟩ hg, Option.bind_some]
    show ∃ z2 D2, (if inR (k + 1) then some (Sum.inl (k + 1, z1, Y)) else none) = some (Sum.inl (k + 1, z2, D2)) ∧ SI col D z g r M h (c + 2) (s + 10) z2 D2
    rw [if_pos (inR_s (by omega))]
    exact ⟨z1, Y, rfl, (S0.tmp b2.2.2.2).mono (by omega) (by omega)⟩
  have go : ∀ (X : DD) (w : Int) (c' s' : Int), BX D1 X 6 (rup (rup (rup (rup (fun _ => 0) 0 (r (471 + 5 * k + 0))) 1 (r (471 + 5 * k + 1))) 2 (r (471 + 5 * k + 2))) 3 (r (471 + 5 * k + 1) + r (471 + 5 * k + 2))) c' s' → 0 ≤ c' ∧ c' ≤ 2 → 0 ≤ s' ∧ s' ≤ 10 → w = harnOf r k 4 → ∃ z2 D2, fX6_isAs_b471 g k (dT D1) (dT D1) 4 w ln z1 X = some (.inl (k + 1, z2, D2)) ∧ SI col D z g r M h (c + 2) (s + 10) z2 D2 := fun X w c' s' b hc hs hw => by
    have b2 := b.put 4 w
    unfold fX6_isAs_b471
    rw [if_pos b.1, if_pos (b.rng (k := 4) (by decide)), zl_eq]
    generalize dup X (dT D1) 4 w = Y at *
    have HY := H.tmp b2.2.2.2
    have hf : ∀ i : Nat, i < 5 → rup (rup (rup (rup (rup (fun _ => 0) 0 (r (471 + 5 * k + 0))) 1 (r (471 + 5 * k + 1))) 2 (r (471 + 5 * k + 2))) 3 (r (471 + 5 * k + 1) + r (471 + 5 * k + 2))) 4 w i = harnOf r k i := fun i hi => by
      simp only [rup_at]
      have hi' : i = 0 ∨ i = 1 ∨ i = 2 ∨ i = 3 ∨ i = 4 := by omega
      rcases hi' with rfl | rfl | rfl | rfl | rfl
      · rw [if_neg (by decide), if_neg (by decide), if_neg (by decide), if_neg (by decide), if_pos (by decide)]
        rfl
      · rw [if_neg (by decide), if_neg (by decide), if_neg (by decide), if_pos (by decide)]
        rfl
      · rw [if_neg (by decide), if_neg (by decide), if_pos (by decide)]
        rfl
      · rw [if_neg (by decide), if_pos (by decide)]
        show _ = r (471 + 5 * k + 2) + r (471 + 5 * k + 1)
        exact Int.add_comm _ _
      · rw [if_pos (by decide)]
        rw [hw]
        rfl
    rw [if_pos HY.o, HY.f3, l_inForce HY hI hk, Option.bind_some]
    rcases bI_01 (sForce r k (r 3)) with bb | bb
    · rw [bb, if_pos rfl]
      exact go2 Y 0 _ c' s' b2 hc hs hf bb.symm
    · rw [bb, if_neg (by decide)]
      exact go2 Y 1 _ c' s' b2 hc hs hf bb.symm
  by_cases cr : r (471 + 5 * k + 3) = 1
  · rw [if_pos cr]
    exact go X4 2 1 6 B4 (by decide) (by decide) (by unfold harnOf; rw [if_neg (by decide), if_pos rfl, if_pos cr])
  · rw [if_neg cr]
    have t4 := B4.2.2.2.2.1
    have u4 := B4.2.2.2.2.2.2.1
    obtain ⟨D5, w1, w2⟩ := l_isLent H4 hI hk (by omega) (by omega)
    have B5 := B4.ev w2
    rw [w1, Option.bind_some]
    have h4 : harnOf r k 4 = bI (sLent r k) := by
      unfold harnOf bI
      rw [if_neg (by decide), if_pos rfl, if_neg cr]
    dsimp only
    rcases bI_01 (sLent r k) with bb | bb
    · rw [bb, if_pos rfl]
      exact go D5 0 (1 + 1) (6 + 4) B5 (by decide) (by decide) (by rw [h4, bb])
    · rw [bb, if_neg (by decide)]
      exact go D5 1 (1 + 1) (6 + 4) B5 (by decide) (by decide) (by rw [h4, bb])
theorem i_harns {ln : Nat} (S : SI col D z g r M h c s z1 D1) (hI : IH B r) (hT : dT D + c + 100 < 600000) (hS : dS D + s + 3000 ≤ 7200000) : ∃ z2 D2, zlp (fun q => fX6_isAs_s383 g q.1 ln q.2.1 q.2.2) FU (0, z1, D1) = some (z2, D2) ∧ SI col D z g r M h (c + 30) (s + 150) z2 D2 := by
  have hn := hI.1
  unfold IHn at hn
  obtain ⟨res, e, q⟩ := lp_FU (f := fun q => fX6_isAs_s383 g q.1 ln q.2.1 q.2.2) (fun i q => q.1 = (i : Int) ∧ SI col D z g r M h (c + 2 * i) (s + 10 * i) q.2.1 q.2.2) (fun q => SI col D z g r M h (c + 30) (s + 150) q.1 q.2) (r 470).toNat (by omega) (fun i q hi hq => by
      obtain ⟨v, z3, D3⟩ := q
      obtain ⟨hv, S3⟩ := hq
      have hv : v = i := hv
      have S3 : SI col D z g r M h (c + 2 * i) (s + 10 * i) z3 D3 := S3
      obtain ⟨z4, D4, w1, w2⟩ := i_harn1 (ln := ln) S3 hI (k := v) (by omega) (by omega) (by omega)
      exact Or.inl ⟨(v + 1, z4, D4), w1, by show v + 1 = ((i + 1 : Nat) : Int); omega, w2.mono (by omega) (by omega)⟩) (fun q hq => by
      obtain ⟨v, z3, D3⟩ := q
      obtain ⟨hv, S3⟩ := hq
      have hv : v = ((r 470).toNat : Int) := hv
      have S3 : SI col D z g r M h (c + 2 * (r 470).toNat) (s + 10 * (r 470).toNat) z3 D3 := S3
      obtain ⟨col3, H3, R3, t3, u3⟩ := S3.ro
      refine ⟨(z3, D3), ?_, S3.mono (by omega) (by omega)⟩
      show fX6_isAs_s383 g v ln z3 D3 = _
      unfold fX6_isAs_s383
      have nw := H3.nh
      rw [if_pos H3.o, s_size H3.hs.1, Option.bind_some, if_pos H3.hs.1.1, if_neg (by omega)]) (0, z1, D1) ⟨rfl, S.mono (by omega) (by omega)⟩
  exact ⟨res.1, res.2, e, q⟩
/-- the law's hall and the class agree: isAs says so -/
theorem l_isAs {ln : Nat} (H : RLh col D g r M h) (hI : IH B r) (hR : RC z r) (hT : dT D + 2200 < 600000) (hS : dS D + 50000 ≤ 7200000) : ∃ z2 D2, fX6_isAs g ln z D = some (1, z2, D2) ∧ SI col D z g r M h 1100 36500 z2 D2 := by
  have hb := dO_gt H.o
  have B0 : BA D (dnew D 20 10) 10 (fun _ => 0) := BA.new hb
  unfold fX6_isAs
  rw [if_pos ⟨⟨by decide, by decide⟩, by omega, by omega⟩, zl_eq, show (10 : Int).toNat = 10 from rfl]
  generalize dnew D 20 10 = X0 at *
  have H0 := H.tmp B0.2.2.2
  rw [if_pos H0.o]
  rw [s_size H0.w.1, H0.nw, Option.bind_some, if_pos H0.w.1.1, if_pos (B0.rng (k := 0) (by decide)), zl_eq]
  have B1 := B0.put 0 (r 4)
  generalize dup X0 (dT D) 0 (r 4) = X1 at *
  have H1 := H.tmp B1.2.2.2
  rw [s_size H1.rt.1, H1.nr, Option.bind_some, if_pos H1.rt.1.1, if_pos (B1.rng (k := 1) (by decide)), zl_eq]
  have B2 := B1.put 1 (r 37)
  generalize dup X1 (dT D) 1 (r 37) = X2 at *
  have H2 := H.tmp B2.2.2.2
  rw [s_size H2.hs.1, H2.nh, Option.bind_some, if_pos H2.hs.1.1, if_pos (B2.rng (k := 2) (by decide)), zl_eq]
  have B3 := B2.put 2 (r 470)
  generalize dup X2 (dT D) 2 (r 470) = X3 at *
  have H3 := H.tmp B3.2.2.2
  rw [s_size H3.mb.1, H3.nm, Option.bind_some, if_pos H3.mb.1.1, if_pos (B3.rng (k := 3) (by decide)), zl_eq]
  have B4 := B3.put 3 (r 546)
  generalize dup X3 (dT D) 3 (r 546) = X4 at *
  have H4 := H.tmp B4.2.2.2
  rw [s_size H4.cs.1, H4.nc, Option.bind_some, if_pos H4.cs.1.1, if_pos (B4.rng (k := 4) (by decide)), zl_eq]
  have B5 := B4.put 4 (r 619)
  generalize dup X4 (dT D) 4 (r 619) = X5 at *
  have H5 := H.tmp B5.2.2.2
  rw [s_size H5.ar.1, H5.na, Option.bind_some, if_pos H5.ar.1.1, if_pos (B5.rng (k := 5) (by decide)), zl_eq]
  have B6 := B5.put 5 (r 644)
  generalize dup X5 (dT D) 5 (r 644) = X6 at *
  have H6 := H.tmp B6.2.2.2
  rw [if_pos (B6.rng (k := 6) (by decide)), H6.f3, zl_eq]
  have B7 := B6.put 6 (r 3)
  generalize dup X6 (dT D) 6 (r 3) = X7 at *
  have H7 := H.tmp B7.2.2.2
  rw [if_pos (B7.rng (k := 7) (by decide)), H7.f0, zl_eq]
  have B8 := B7.put 7 (r 0)
  generalize dup X7 (dT D) 7 (r 0) = X8 at *
  have H8 := H.tmp B8.2.2.2
  rw [if_pos (B8.rng (k := 8) (by decide)), H8.f1, zl_eq]
  have B9 := B8.put 8 (r 1)
  generalize dup X8 (dT D) 8 (r 1) = X9 at *
  have H9 := H.tmp B9.2.2.2
  rw [if_pos (B9.rng (k := 9) (by decide)), H9.f2, zl_eq]
  have B10 := B9.put 9 (r 2)
  generalize dup X9 (dT D) 9 (r 2) = X10 at *
  have H10 := H.tmp B10.2.2.2
  have hf : ∀ i : Nat, i < 10 → dW X10 (dT D) i = cntOf r i := fun i hi => by
    rw [B10.2.2.1]
    simp only [rup_at]
    have hi' : i = 0 ∨ i = 1 ∨ i = 2 ∨ i = 3 ∨ i = 4 ∨ i = 5 ∨ i = 6 ∨ i = 7 ∨ i = 8 ∨ i = 9 := by omega
    rcases hi' with rfl | rfl | rfl | rfl | rfl | rfl | rfl | rfl | rfl | rfl
    · rw [if_neg (by decide), if_neg (by decide), if_neg (by decide), if_neg (by decide), if_neg (by decide), if_neg (by decide), if_neg (by decide), if_neg (by decide), if_neg (by decide), if_pos (by decide)]
      rfl
    · rw [if_neg (by decide), if_neg (by decide), if_neg (by decide), if_neg (by decide), if_neg (by decide), if_neg (by decide), if_neg (by decide), if_neg (by decide), if_pos (by decide)]
      rfl
    · rw [if_neg (by decide), if_neg (by decide), if_neg (by decide), if_neg (by decide), if_neg (by decide), if_neg (by decide), if_neg (by decide), if_pos (by decide)]
      rfl
    · rw [if_neg (by decide), if_neg (by decide), if_neg (by decide), if_neg (by decide), if_neg (by decide), if_neg (by decide), if_pos (by decide)]
      rfl
    · rw [if_neg (by decide), if_neg (by decide), if_neg (by decide), if_neg (by decide), if_neg (by decide), if_pos (by decide)]
      rfl
    · rw [if_neg (by decide), if_neg (by decide), if_neg (by decide), if_neg (by decide), if_pos (by decide)]
      rfl
    · rw [if_neg (by decide), if_neg (by decide), if_neg (by decide), if_pos (by decide)]
      rfl
    · rw [if_neg (by decide), if_neg (by decide), if_pos (by decide)]
      rfl
    · rw [if_neg (by decide), if_pos (by decide)]
      rfl
    · rw [if_pos (by decide)]
      rfl
  rw [i_cn0 hR ⟨B10.1, B10.2.1⟩ hf, Option.bind_some]
  dsimp only
  have S0 := (SI.o H hR).tmp B10.2.2.2
  obtain ⟨z1, D1, w1, S1⟩ := i_walls (ln := ln) S0 hI (by omega) (by omega)
  rw [w1, Option.bind_some]
  dsimp only
  obtain ⟨z2, D2, w2, S2⟩ := i_routes (ln := ln) S1 hI (by omega) (by omega)
  rw [w2, Option.bind_some]
  dsimp only
  obtain ⟨z3, D3, w3, S3⟩ := i_harns (ln := ln) S2 hI (by omega) (by omega)
  rw [w3, Option.bind_some]
  dsimp only
  obtain ⟨col3, H3, R3, t3, u3⟩ := S3.ro
  rw [i_membs H3 hI R3, Option.bind_some]
  dsimp only
  rw [i_cours H3 hI R3, Option.bind_some]
  dsimp only
  rw [i_archs H3 hI R3, Option.bind_some]
  exact ⟨z3, D3, rfl, S3.mono (by decide) (by decide)⟩
end IA

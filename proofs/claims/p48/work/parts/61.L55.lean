set_option maxRecDepth 20000
/-! isAs, one table after the other -/
def SI (col : Col) (D : DD) (z : ZZ) (g : Int) (r : Row) (M : Int) (h : HLs) (c s : Int) (z1 : ZZ) (D1 : DD) : Prop := ∃ col', RLh col' D1 g r M h ∧ (∀ a, a < dT D → col' a = col a) ∧ Ev (fun a => (col a).1 = g) c s D D1 ∧ RC z1 r ∧ Fra F12 z z1
section SIs
variable {col : Col} {D D1 D2 : DD} {z z1 z2 : ZZ} {g : Int} {r : Row} {M c s c' s' B : Int} {h : HLs}
theorem SI.o (H : RLh col D g r M h) (hR : RC z r) : SI col D z g r M h 0 0 z D := ⟨col, H, fun _ _ => rfl, Ev.refl _ D, hR, fun _ _ => rfl⟩
theorem SI.tmp (H : SI col D z g r M h c s z1 D1) (E : Ev (fun _ => False) c' s' D1 D2) : SI col D z g r M h (c + c') (s + s') z1 D2 := by
  obtain ⟨col', h1, h2, h3, h4, h5⟩ := H
  exact ⟨col', h1.tmp E, h2, h3.trans E (fun _ _ q => q.elim), h4, h5⟩
theorem SI.mono (H : SI col D z g r M h c s z1 D1) (hc : c ≤ c') (hs : s ≤ s') : SI col D z g r M h c' s' z1 D1 := by
  obtain ⟨col', h1, h2, h3, h4, h5⟩ := H
  exact ⟨col', h1, h2, h3.mono hc hs (fun _ _ q => q), h4, h5⟩
theorem SI.zf (H : SI col D z g r M h c s z1 D1) (hf : Fra F12 z1 z2) : SI col D z g r M h c s z2 D1 := by
  obtain ⟨col', h1, h2, h3, h4, h5⟩ := H
  exact ⟨col', h1, h2, h3, RC_12 h4 hf, Fra_trans h5 hf⟩
theorem SI.ro (H : SI col D z g r M h c s z1 D1) : ∃ col', RLh col' D1 g r M h ∧ RC z1 r ∧ dT D1 ≤ dT D + c ∧ dS D1 ≤ dS D + s := by
  obtain ⟨col', h1, h2, h3, h4, h5⟩ := H
  exact ⟨col', h1, h4, h3.2.1, h3.2.2.2.1⟩
/-- a loop that only reads -/
theorem lp_rd {f : Int × ZZ × DD → Option ((Int × ZZ × DD) ⊕ (ZZ × DD))} (n : Nat) (hn : n < 100000) (h1 : ∀ i : Nat, i < n → f (i, z, D) = some (.inl ((i : Int) + 1, z, D))) (h2 : f (n, z, D) = some (.inr (z, D))) : zlp f FU (0, z, D) = some (z, D) := by
  obtain ⟨r, e, q⟩ := lp_FU (f := f) (fun i s => s = ((i : Int), z, D)) (fun r => r = (z, D)) n hn (fun i s hi hs => by
    left
    rw [hs]
    exact ⟨_, h1 i hi, by show ((i : Int) + 1, z, D) = (((i + 1 : Nat) : Int), z, D); rw [Int.natCast_add]; rfl⟩) (fun s hs => ⟨_, by rw [hs]; exact h2, rfl⟩) (0, z, D) rfl
  rw [e, q]
theorem i_wall0 {ln : Nat} (H : RLh col D g r M h) (hI : IH B r) (hR : RC z r) {k : Int} (hk : 0 ≤ k ∧ k < r 4) : zlp (fun q => fX6_isAs_s140 g k q.1 ln q.2.1 q.2.2) FU (0, z, D) = some (z, D) := by
  obtain ⟨q, p⟩ := H.gw hk
  refine lp_rd 4 (by decide) (fun i hi => ?_) ?_
  · show fX6_isAs_s140 g k i ln z D = _
    unfold fX6_isAs_s140
    have ew : wallOf r k i = r (5 + 4 * k + i) := by unfold wallOf; rw [if_neg (by omega), if_neg (by omega)]
    rw [if_pos (by omega), x_wall hR hI hk (by omega)]
    simp only [Option.bind_some]
    rw [if_pos H.o, q]
    simp only [Option.bind_some]
    rw [if_pos H.w.1.1, if_pos p.1.1, if_pos (p.rng (i := i) ⟨by omega, by omega⟩), p.at (i := i) ⟨by omega, by omega⟩, ew, if_pos rfl, if_pos (inR_s (by omega))]
  · show fX6_isAs_s140 g k 4 ln z D = _
    unfold fX6_isAs_s140
    rw [if_neg (by decide)]
theorem i_walls {ln : Nat} (S : SI col D z g r M h c s z1 D1) (hI : IH B r) (hT : dT D + c + 20 < 600000) (hS : dS D + s + 100 ≤ 7200000) : ∃ z2 D2, zlp (fun q => fX6_isAs_s126 g q.1 ln q.2.1 q.2.2) FU (0, z1, D1) = some (z2, D2) ∧ SI col D z g r M h (c + 8) (s + 32) z2 D2 := by
  have hn := hI.1
  unfold IHn at hn
  obtain ⟨res, e, q⟩ := lp_FU (f := fun q => fX6_isAs_s126 g q.1 ln q.2.1 q.2.2) (fun i q => q.1 = (i : Int) ∧ SI col D z g r M h (c + i) (s + 4 * i) q.2.1 q.2.2) (fun q => SI col D z g r M h (c + r 4) (s + 4 * r 4) q.1 q.2) (r 4).toNat (by omega) (fun i q hi hq => by
      obtain ⟨v, z3, D3⟩ := q
      obtain ⟨hv, S3⟩ := hq
      have hv : v = i := hv
      have S3 : SI col D z g r M h (c + i) (s + 4 * i) z3 D3 := S3
      obtain ⟨col3, H3, R3, t3, u3⟩ := S3.ro
      have hk : 0 ≤ v ∧ v < r 4 := by omega
      obtain ⟨D4, w1, w2⟩ := l_onWall H3 (w := v) (by omega) (by omega)
      have H4 := H3.tmp w2
      refine Or.inl ⟨(v + 1, z3, D4), ?_, by show v + 1 = ((i + 1 : Nat) : Int); omega, (S3.tmp w2).mono (by omega) (by omega)⟩
      show fX6_isAs_s126 g v ln z3 D3 = _
      unfold fX6_isAs_s126
      rw [if_pos H3.o, s_size H3.w.1]
      simp only [Option.bind_some]
      have nw := H3.nw
      rw [if_pos H3.w.1.1, if_pos (by omega), i_wall0 H3 hI R3 hk]
      simp only [Option.bind_some]
      have e4 : wallOf r v 4 = sOn r v := by unfold wallOf; rw [if_pos rfl]
      have e5 : wallOf r v 5 = bI (sClosed r v) := by unfold wallOf; rw [if_neg (by decide), if_pos rfl]
      rw [x_wall R3 hI hk (by decide), w1, e4]
      simp only [Option.bind_some]
      rw [if_pos trivial, x_wall R3 hI hk (by decide), l_isClosed H4 hk, e5]
      simp only [Option.bind_some]
      unfold fX6_isAs_b211
      rcases bI_01 (sClosed r v) with b | b
      · rw [if_pos b, if_pos b, if_pos (inR_s (by omega))]
      · rw [if_neg (by rw [b]; decide), if_pos b, if_pos (inR_s (by omega))]) (fun q hq => by
      obtain ⟨v, z3, D3⟩ := q
      obtain ⟨hv, S3⟩ := hq
      have hv : v = ((r 4).toNat : Int) := hv
      have S3 : SI col D z g r M h (c + (r 4).toNat) (s + 4 * (r 4).toNat) z3 D3 := S3
      obtain ⟨col3, H3, R3, t3, u3⟩ := S3.ro
      refine ⟨(z3, D3), ?_, S3.mono (by omega) (by omega)⟩
      show fX6_isAs_s126 g v ln z3 D3 = _
      unfold fX6_isAs_s126
      have nw := H3.nw
      rw [if_pos H3.o, s_size H3.w.1]
      simp only [Option.bind_some]
      rw [if_pos H3.w.1.1, if_neg (by omega)]) (0, z1, D1) ⟨rfl, S.mono (by omega) (by omega)⟩
  exact ⟨res.1, res.2, e, q.mono (by omega) (by omega)⟩
/-- members -/
theorem i_memb0 {ln : Nat} (H : RLh col D g r M h) (hI : IH B r) (hR : RC z r) {k : Int} (hk : 0 ≤ k ∧ k < r 546) : zlp (fun q => fX6_isAs_s549 g k q.1 ln q.2.1 q.2.2) FU (0, z, D) = some (z, D) := by
  obtain ⟨q, p⟩ := H.gm hk
  refine lp_rd 6 (by decide) (fun i hi => ?_) ?_
  · show fX6_isAs_s549 g k i ln z D = _
    unfold fX6_isAs_s549
    rw [if_pos (by omega), x_memb hR hI hk (by omega)]
    simp only [Option.bind_some]
    rw [if_pos H.o, q]
    simp only [Option.bind_some]
    rw [if_pos H.mb.1.1, if_pos p.1.1, if_pos (p.rng (i := i) ⟨by omega, by omega⟩), p.at (i := i) ⟨by omega, by omega⟩, if_pos rfl, if_pos (inR_s (by omega))]
  · show fX6_isAs_s549 g k 6 ln z D = _
    unfold fX6_isAs_s549
    rw [if_neg (by decide)]
theorem i_membs {ln : Nat} (H : RLh col D g r M h) (hI : IH B r) (hR : RC z r) : zlp (fun q => fX6_isAs_s535 g q.1 ln q.2.1 q.2.2) FU (0, z, D) = some (z, D) := by
  have hn := hI.1
  unfold IHn at hn
  have nw := H.nm
  refine lp_rd (r 546).toNat (by omega) (fun i hi => ?_) ?_
  · show fX6_isAs_s535 g i ln z D = _
    unfold fX6_isAs_s535
    rw [if_pos H.o, s_size H.mb.1]
    simp only [Option.bind_some]
    rw [if_pos H.mb.1.1, if_pos (by omega), i_memb0 H hI hR (by omega), Option.bind_some]
    show (if inR ((i : Int) + 1) then some (Sum.inl ((i : Int) + 1, z, D)) else none) = _
    rw [if_pos (inR_s (by omega))]
  · show fX6_isAs_s535 g ((r 546).toNat : Nat) ln z D = _
    unfold fX6_isAs_s535
    rw [if_pos H.o, s_size H.mb.1]
    simp only [Option.bind_some]
    rw [if_pos H.mb.1.1, if_neg (by omega)]
/-- courses -/
theorem i_cour0 {ln : Nat} (H : RLh col D g r M h) (hI : IH B r) (hR : RC z r) {k : Int} (hk : 0 ≤ k ∧ k < r 619) : zlp (fun q => fX6_isAs_s610 g k q.1 ln q.2.1 q.2.2) FU (0, z, D) = some (z, D) := by
  obtain ⟨q, p⟩ := H.gc hk
  refine lp_rd 3 (by decide) (fun i hi => ?_) ?_
  · show fX6_isAs_s610 g k i ln z D = _
    unfold fX6_isAs_s610
    have ew : courOf r k i = r (620 + 3 * k + i) := by unfold courOf; rw [if_neg (by omega)]
    rw [if_pos (by omega), x_cour hR hI hk (by omega)]
    simp only [Option.bind_some]
    rw [if_pos H.o, q]
    simp only [Option.bind_some]
    rw [if_pos H.cs.1.1, if_pos p.1.1, if_pos (p.rng (i := i) ⟨by omega, by omega⟩), p.at (i := i) ⟨by omega, by omega⟩, ew, if_pos rfl, if_pos (inR_s (by omega))]
  · show fX6_isAs_s610 g k 3 ln z D = _
    unfold fX6_isAs_s610
    rw [if_neg (by decide)]
theorem i_cours {ln : Nat} (H : RLh col D g r M h) (hI : IH B r) (hR : RC z r) : zlp (fun q => fX6_isAs_s596 g q.1 ln q.2.1 q.2.2) FU (0, z, D) = some (z, D) := by
  have hn := hI.1
  unfold IHn at hn
  have nw := H.nc
  refine lp_rd (r 619).toNat (by omega) (fun i hi => ?_) ?_
  · show fX6_isAs_s596 g i ln z D = _
    unfold fX6_isAs_s596
    rw [if_pos H.o, s_size H.cs.1]
    simp only [Option.bind_some]
    rw [if_pos H.cs.1.1, if_pos (by omega), i_cour0 H hI hR (by omega)]
    simp only [Option.bind_some]
    have e3 : courOf r i 3 = sIn r i := by unfold courOf; rw [if_pos rfl]
    rw [x_cour hR hI (by omega) (by decide), l_inCourse H hI, e3]
    simp only [Option.bind_some]
    rw [if_pos trivial, if_pos (inR_s (by omega))]
  · show fX6_isAs_s596 g ((r 619).toNat : Nat) ln z D = _
    unfold fX6_isAs_s596
    rw [if_pos H.o, s_size H.cs.1]
    simp only [Option.bind_some]
    rw [if_pos H.cs.1.1, if_neg (by omega)]
/-- the archive -/
theorem i_arch0 {ln : Nat} (H : RLh col D g r M h) (hI : IH B r) (hR : RC z r) {k : Int} (hk : 0 ≤ k ∧ k < r 644) : zlp (fun q => fX6_isAs_s686 g k q.1 ln q.2.1 q.2.2) FU (0, z, D) = some (z, D) := by
  have na := H.na
  have e : ((k.toNat : Nat) : Int) = k := Int.toNat_of_nonneg hk.1
  have q := s_get H.ar.1 (i := k.toNat) (by omega)
  rw [e] at q
  have p := H.ea k.toNat (by omega)
  rw [e] at p
  refine lp_rd 4 (by decide) (fun i hi => ?_) ?_
  · show fX6_isAs_s686 g k i ln z D = _
    unfold fX6_isAs_s686
    rw [if_pos (by omega), x_arch hR hI hk (by omega)]
    simp only [Option.bind_some]
    rw [if_pos H.o, q]
    simp only [Option.bind_some]
    rw [if_pos H.ar.1.1, if_pos p.1.1, if_pos (p.rng (i := i) ⟨by omega, by omega⟩), p.at (i := i) ⟨by omega, by omega⟩, if_pos rfl, if_pos (inR_s (by omega))]
  · show fX6_isAs_s686 g k 4 ln z D = _
    unfold fX6_isAs_s686
    rw [if_neg (by decide)]
theorem i_archs {ln : Nat} (H : RLh col D g r M h) (hI : IH B r) (hR : RC z r) : zlp (fun q => fX6_isAs_s672 g q.1 ln q.2.1 q.2.2) FU (0, z, D) = some (z, D) := by
  have hn := hI.1
  unfold IHn at hn
  have nw := H.na
  refine lp_rd (r 644).toNat (by omega) (fun i hi => ?_) ?_
  · show fX6_isAs_s672 g i ln z D = _
    unfold fX6_isAs_s672
    rw [if_pos H.o, s_size H.ar.1]
    simp only [Option.bind_some]
    rw [if_pos H.ar.1.1, if_pos (by omega), i_arch0 H hI hR (by omega), Option.bind_some]
    show (if inR ((i : Int) + 1) then some (Sum.inl ((i : Int) + 1, z, D)) else none) = _
    rw [if_pos (inR_s (by omega))]
  · show fX6_isAs_s672 g ((r 644).toNat : Nat) ln z D = _
    unfold fX6_isAs_s672
    rw [if_pos H.o, s_size H.ar.1]
    simp only [Option.bind_some]
    rw [if_pos H.ar.1.1, if_neg (by omega)]
end SIs

set_option maxRecDepth 20000
/-! an array being filled -/
def BA (D X : DD) (n : Nat) (f : Int → Int) : Prop := dO X (dT D) 20 ∧ (dH X (dT D)).2 = n ∧ (∀ j, dW X (dT D) j = f j) ∧ Ev (fun _ => False) 1 n D X
theorem BA.new {D : DD} {n : Nat} (hb : 151 ≤ dT D) : BA D (dnew D 20 n) n (fun _ => 0) := by
  refine ⟨dO_nw hb, ?_, fun j => by rw [dnew_at, if_pos rfl], Ev.dnew D⟩
  show (if dT D = dT D then (20, n) else dH D (dT D)).2 = n
  rw [if_pos rfl]
theorem BA.put {D X : DD} {n : Nat} {f : Int → Int} (h : BA D X n f) (k v : Int) : BA D (dup X (dT D) k v) n (rup f k v) := by
  obtain ⟨h1, h2, h3, h4⟩ := h
  refine ⟨h1, h2, fun j => ?_, ?_⟩
  · rw [dup_at, rup_at, h3]
    by_cases c : j = k
    · rw [if_pos ⟨rfl, c⟩, if_pos c]
    · rw [if_neg (fun q => c q.2), if_neg c]
  · exact (h4.trans (Ev.dup (P := fun a => a = dT D) X (fun _ => rfl)) (fun a ha q => by omega)).mono (by decide) (by omega) (fun _ _ q => q)
theorem BA.rng {D X : DD} {n : Nat} {f : Int → Int} (h : BA D X n f) {k : Int} (hk : 0 ≤ k ∧ k < n) : 0 ≤ k ∧ k < ((dH X (dT D)).2 : Int) := ⟨hk.1, by rw [h.2.1]; exact hk.2⟩
section IA
variable {col : Col} {D D1 : DD} {z z1 : ZZ} {g : Int} {r : Row} {M c s B : Int} {h : HLs}
theorem i_rt0 {ln : Nat} {X : DD} {a v4 : Int} (hI : IH B r) (hR : RC z r) {k : Int} (hk : 0 ≤ k ∧ k < r 37) (ha : dO X a 20 ∧ (dH X a).2 = 7) (hf : ∀ i : Nat, i < 7 → dW X a i = routeOf r k i) : zlp (fun q => fX6_isAs_s329 g k v4 a q.1 ln q.2.1 q.2.2) FU (0, z, X) = some (z, X) := by
  refine lp_rd 7 (by decide) (fun i hi => ?_) ?_
  · show fX6_isAs_s329 g k v4 a i ln z X = _
    unfold fX6_isAs_s329
    rw [if_pos (by omega), x_route hR hI hk (by omega), Option.bind_some]
    dsimp only
    rw [if_pos ha.1, if_pos ⟨by omega, by rw [ha.2]; omega⟩, hf i hi, if_pos rfl, if_pos (inR_s (by omega))]
  · show fX6_isAs_s329 g k v4 a 7 ln z X = _
    unfold fX6_isAs_s329
    rw [if_neg (by decide)]
theorem i_hs0 {ln : Nat} {X : DD} {a : Int} (hI : IH B r) (hR : RC z r) {k : Int} (hk : 0 ≤ k ∧ k < r 470) (ha : dO X a 20 ∧ (dH X a).2 = 6) (hf : ∀ i : Nat, i < 6 → dW X a i = harnOf r k i) : zlp (fun q => fX6_isAs_s497 g k a q.1 ln q.2.1 q.2.2) FU (0, z, X) = some (z, X) := by
  refine lp_rd 6 (by decide) (fun i hi => ?_) ?_
  · show fX6_isAs_s497 g k a i ln z X = _
    unfold fX6_isAs_s497
    rw [if_pos (by omega), x_harn hR hI hk (by omega), Option.bind_some]
    dsimp only
    rw [if_pos ha.1, if_pos ⟨by omega, by rw [ha.2]; omega⟩, hf i hi, if_pos rfl, if_pos (inR_s (by omega))]
  · show fX6_isAs_s497 g k a 6 ln z X = _
    unfold fX6_isAs_s497
    rw [if_neg (by decide)]
theorem i_cn0 {ln : Nat} {X : DD} {a : Int} (hR : RC z r) (ha : dO X a 20 ∧ (dH X a).2 = 10) (hf : ∀ i : Nat, i < 10 → dW X a i = cntOf r i) : zlp (fun q => fX6_isAs_s99 g a q.1 ln q.2.1 q.2.2) FU (0, z, X) = some (z, X) := by
  refine lp_rd 10 (by decide) (fun i hi => ?_) ?_
  · show fX6_isAs_s99 g a i ln z X = _
    unfold fX6_isAs_s99
    rw [if_pos (by omega), x_count hR (by omega), Option.bind_some]
    dsimp only
    rw [if_pos ha.1, if_pos ⟨by omega, by rw [ha.2]; omega⟩, hf i hi, if_pos rfl, if_pos (inR_s (by omega))]
  · show fX6_isAs_s99 g a 10 ln z X = _
    unfold fX6_isAs_s99
    rw [if_neg (by decide)]
theorem rt_size (H : RLh col D g r M h) (hI : IH B r) {k : Int} (hk : 0 ≤ k ∧ k < r 37) : fX18_size (dW D (h.lr.getD k.toNat 0) 6) D = some (sVotes r k) ∧ dO D (dW D (h.lr.getD k.toNat 0) 6) 11 := by
  have hn := hI.1
  unfold IHn at hn
  obtain ⟨-, p⟩ := H.gr hk
  obtain ⟨p1, p2, p3, L, T, V⟩ := p
  have q := VT_len V (by omega)
  have e : (L.length : Int) = sVotes r k := by
    rw [q]
    unfold sVotes sCnt
    simp only [and_true]
  refine ⟨?_, T.1.1⟩
  rw [s_size18 T, e]
/-- one route -/
theorem i_route1 {ln : Nat} (S : SI col D z g r M h c s z1 D1) (hI : IH B r) {k : Int} (hk : 0 ≤ k ∧ k < r 37) (hT : dT D + c + 60 < 600000) (hS : dS D + s + 2000 ≤ 7200000) : ∃ z2 D2, fX6_isAs_s224 g k ln z1 D1 = some (.inl (k + 1, z2, D2)) ∧ SI col D z g r M h (c + 41) (s + 1507) z2 D2 := by
  have hn := hI.1
  unfold IHn at hn
  obtain ⟨col3, H, C3, E3, R3, F3⟩ := S
  have t3 := E3.2.1
  have u3 := E3.2.2.2.1
  have t30 := E3.1
  have hb := dO_gt H.o
  have nr := H.nr
  obtain ⟨q, p⟩ := H.gr hk
  obtain ⟨sz, so⟩ := rt_size H hI hk
  have B0 : BA D1 (dnew D1 20 7) 7 (fun _ => 0) := BA.new hb
  generalize he : h.lr.getD k.toNat 0 = e at *
  have el : e < dT D1 := p.1.2.1
  have pf : ∀ i : Int, 0 ≤ i → i < 6 → dW D1 e i = r (38 + 18 * k + i) := fun i a b => by
    have := p.2.2.1 i.toNat (by omega)
    rw [Int.toNat_of_nonneg a] at this
    exact this
  unfold fX6_isAs_s224
  rw [if_pos H.o, s_size H.rt.1, Option.bind_some, if_pos H.rt.1.1, if_pos (by omega), q, Option.bind_some, if_pos p.1, if_pos ⟨⟨by decide, by decide⟩, by omega, by omega⟩, zl_eq, show (7 : Int).toNat = 7 from rfl]
  generalize dnew D1 20 7 = X0 at *
  have v0 : dW X0 e 0 = r (38 + 18 * k + 0) := by rw [B0.2.2.2.at el (fun x => x), pf 0 (by decide) (by decide)]
  rw [if_pos (B0.rng (k := 0) (by decide)), v0, zl_eq]
  have B1 := B0.put 0 (r (38 + 18 * k + 0))
  generalize dup X0 (dT D1) 0 (r (38 + 18 * k + 0)) = X1 at *
  have v1 : dW X1 e 1 = r (38 + 18 * k + 1) := by rw [B1.2.2.2.at el (fun x => x), pf 1 (by decide) (by decide)]
  rw [if_pos (B1.rng (k := 1) (by decide)), v1, zl_eq]
  have B2 := B1.put 1 (r (38 + 18 * k + 1))
  generalize dup X1 (dT D1) 1 (r (38 + 18 * k + 1)) = X2 at *
  have v2 : dW X2 e 2 = r (38 + 18 * k + 2) := by rw [B2.2.2.2.at el (fun x => x), pf 2 (by decide) (by decide)]
  rw [if_pos (B2.rng (k := 2) (by decide)), v2, zl_eq]
  have B3 := B2.put 2 (r (38 + 18 * k + 2))
  generalize dup X2 (dT D1) 2 (r (38 + 18 * k + 2)) = X3 at *
  have v3 : dW X3 e 3 = r (38 + 18 * k + 3) := by rw [B3.2.2.2.at el (fun x => x), pf 3 (by decide) (by decide)]
  rw [if_pos (B3.rng (k := 3) (by decide)), v3, zl_eq]
  have B4 := B3.put 3 (r (38 + 18 * k + 3))
  generalize dup X3 (dT D1) 3 (r (38 + 18 * k + 3)) = X4 at *
  have v4 : dW X4 e 4 = r (38 + 18 * k + 4) := by rw [B4.2.2.2.at el (fun x => x), pf 4 (by decide) (by decide)]
  rw [if_pos (B4.rng (k := 4) (by decide)), v4, zl_eq]
  have B5 := B4.put 4 (r (38 + 18 * k + 4))
  generalize dup X4 (dT D1) 4 (r (38 + 18 * k + 4)) = X5 at *
  have H5 := H.tmp B5.2.2.2
  obtain ⟨sz5, so5⟩ := rt_size H5 hI hk
  rw [he] at sz5 so5
  rw [sz5, Option.bind_some, if_pos so5, if_pos (B5.rng (k := 5) (by decide)), zl_eq]
  have B6 := B5.put 5 (sVotes r k)
  generalize dup X5 (dT D1) 5 (sVotes r k) = X6 at *
  have H6 := H.tmp B6.2.2.2
  have v3' : dW X6 e 3 = r (38 + 18 * k + 3) := by rw [B6.2.2.2.at el (fun x => x), pf 3 (by decide) (by decide)]
  rw [v3', H6.f2]
  have go : ∀ w : Int, w = bI (sWorn r k) → ∃ z2 D2, fX6_isAs_b323 g k e (dT D1) (dT D1) 6 w ln z1 X6 = some (.inl (k + 1, z2, D2)) ∧ SI col D z g r M h (c + 41) (s + 1507) z2 D2 := fun w hw => by
    have B7 := B6.put 6 w
    unfold fX6_isAs_b323
    rw [if_pos B6.1, if_pos (B6.rng (k := 6) (by decide)), zl_eq]
    generalize dup X6 (dT D1) 6 w = X7 at *
    have H7 := H.tmp B7.2.2.2
    have hf : ∀ i : Nat, i < 7 → dW X7 (dT D1) i = routeOf r k i := fun i hi => by
      rw [B7.2.2.1]
      simp only [rup_at]
      have hi' : i = 0 ∨ i = 1 ∨ i = 2 ∨ i = 3 ∨ i = 4 ∨ i = 5 ∨ i = 6 := by omega
      rcases hi' with rfl | rfl | rfl | rfl | rfl | rfl | rfl
      · rw [if_neg (by decide), if_neg (by decide), if_neg (by decide), if_neg (by decide), if_neg (by decide), if_neg (by decide), if_pos (by decide)]
        rfl
      · rw [if_neg (by decide), if_neg (by decide), if_neg (by decide), if_neg (by decide), if_neg (by decide), if_pos (by decide)]
        rfl
      · rw [if_neg (by decide), if_neg (by decide), if_neg (by decide), if_neg (by decide), if_pos (by decide)]
        rfl
      · rw [if_neg (by decide), if_neg (by decide), if_neg (by decide), if_pos (by decide)]
        rfl
      · rw [if_neg (by decide), if_neg (by decide), if_pos (by decide)]
        rfl
      · rw [if_neg (by decide), if_pos (by decide)]
        show _ = (if (5 : Int) = 5 then _ else _)
        rw [if_pos rfl]
      · rw [if_pos (by decide)]
        rw [hw]
        rfl
    rw [i_rt0 hI R3 hk ⟨B7.1, B7.2.1⟩ hf, Option.bind_some]
    dsimp only
    obtain ⟨z5, g1, g2⟩ := x_grade R3 hI hk
    have hkn : ((k.toNat : Nat) : Int) = k := Int.toNat_of_nonneg hk.1
    have t7 := B7.2.2.2.2.1
    have u7 := B7.2.2.2.2.2.2.1
    have t70 := B7.2.2.2.1
    obtain ⟨D6, col6, w1, w2, w3, w4⟩ := l_grade H7 hI (k := k.toNat) (by omega) (by omega) (by omega)
    rw [he] at w1 w4
    rw [hkn] at w1
    rw [g1, Option.bind_some]
    dsimp only
    rw [w1, Option.bind_some]
    dsimp only
    rw [if_pos H7.o, if_pos rfl, if_pos (inR_s (by omega))]
    refine ⟨z5, D6, rfl, col6, w2, fun a ha => by rw [w3 a (by omega), C3 a ha], ?_, RC_12 R3 g2, Fra_trans F3 g2⟩
    exact ((E3.trans B7.2.2.2 (fun _ _ x => x.elim)).trans w4 (fun a ha x => by rw [← C3 a ha, x])).mono (by omega) (by omega) (fun _ _ x => x)
  by_cases cw : r (38 + 18 * k + 3) < r 2
  · rw [if_pos cw]
    exact go 0 (by unfold bI; rw [if_neg (by omega)])
  · rw [if_neg cw]
    exact go 1 (by unfold bI; rw [if_pos (by omega)])
theorem i_routes {ln : Nat} (S : SI col D z g r M h c s z1 D1) (hI : IH B r) (hT : dT D + c + 1100 < 600000) (hS : dS D + s + 40000 ≤ 7200000) : ∃ z2 D2, zlp (fun q => fX6_isAs_s224 g q.1 ln q.2.1 q.2.2) FU (0, z1, D1) = some (z2, D2) ∧ SI col D z g r M h (c + 984) (s + 36168) z2 D2 := by
  have hn := hI.1
  unfold IHn at hn
  obtain ⟨res, e, q⟩ := lp_FU (f := fun q => fX6_isAs_s224 g q.1 ln q.2.1 q.2.2) (fun i q => q.1 = (i : Int) ∧ SI col D z g r M h (c + 41 * i) (s + 1507 * i) q.2.1 q.2.2) (fun q => SI col D z g r M h (c + 984) (s + 36168) q.1 q.2) (r 37).toNat (by omega) (fun i q hi hq => by
      obtain ⟨v, z3, D3⟩ := q
      obtain ⟨hv, S3⟩ := hq
      have hv : v = i := hv
      have S3 : SI col D z g r M h (c + 41 * i) (s + 1507 * i) z3 D3 := S3
      obtain ⟨z4, D4, w1, w2⟩ := i_route1 (ln := ln) S3 hI (k := v) (by omega) (by omega) (by omega)
      exact Or.inl ⟨(v + 1, z4, D4), w1, by show v + 1 = ((i + 1 : Nat) : Int); omega, w2.mono (by omega) (by omega)⟩) (fun q hq => by
      obtain ⟨v, z3, D3⟩ := q
      obtain ⟨hv, S3⟩ := hq
      have hv : v = ((r 37).toNat : Int) := hv
      have S3 : SI col D z g r M h (c + 41 * (r 37).toNat) (s + 1507 * (r 37).toNat) z3 D3 := S3
      obtain ⟨col3, H3, R3, t3, u3⟩ := S3.ro
      refine ⟨(z3, D3), ?_, S3.mono (by omega) (by omega)⟩
      show fX6_isAs_s224 g v ln z3 D3 = _
      unfold fX6_isAs_s224
      have nw := H3.nr
      rw [if_pos H3.o, s_size H3.rt.1, Option.bind_some, if_pos H3.rt.1.1, if_neg (by omega)]) (0, z1, D1) ⟨rfl, S.mono (by omega) (by omega)⟩
  exact ⟨res.1, res.2, e, q⟩
end IA

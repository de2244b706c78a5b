set_option maxRecDepth 20000
/-! a text typed into the class's buffer -/
theorem zand_255 {c : Int} (h : 0 ≤ c ∧ c < 128) : zand c 255 = c := by
  obtain ⟨n, rfl⟩ := Int.eq_ofNat_of_zero_le h.1
  have : ∀ k : Nat, k < 128 → zand (k : Int) 255 = k := by decide +kernel
  exact this n (by omega)
theorem getD_out {l : List Int} {j : Nat} (h : l.length ≤ j) : l.getD j 0 = 0 := by rw [List.getD_eq_getElem?_getD, List.getElem?_eq_none h]; rfl
section TYP
variable {D : DD} {v : Int} {l : List Int}
theorem l_len (h : Src D v l) : fJ0_length_8abf5 v D = some (l.length : Int) := by
  obtain ⟨q1, q2, q3, q4, q5, q6, q7, q8⟩ := h.use
  unfold fJ0_length_8abf5 fJ0_coder_7d493
  rw [if_pos q1, if_pos q4, if_neg (by decide), if_pos q1, q3, if_pos (by decide)]
  simp only [Option.bind_some]
  rw [q5, zshr0 (by constructor <;> omega)]
theorem l_charAt {i : Nat} (h : Src D v l) (hi : i < l.length) : fJ0_charAt_5068e_Z v i D = some (l.getD i 0) := by
  obtain ⟨q1, q2, q3, q4, q5, q6, q7, q8⟩ := h.use
  have hc := q7 _ (getD_mem hi)
  unfold fJ0_charAt_5068e_Z fJ0_isLatin1_aae02
  rw [if_neg (by decide), if_pos q1, q3, if_pos rfl]
  simp only [Option.bind_some]
  rw [if_pos q1, if_neg (by decide)]
  unfold fJ1_charAt_3b067_Z fJ0_checkIndex_df160 fJ3_checkIndex_8e157
  rw [if_pos q4, q5, if_neg (by omega), if_pos (by omega)]
  simp only [Option.bind_some]
  rw [if_pos (by omega), q6 i hi, zand_255 hc, if_pos (by omega), if_pos (by omega)]
  simp only [Option.bind_some]
  rw [if_pos (by omega)]
/-- one of the four -/
theorem l_type4s {ln : Nat} {z : ZZ} {x : Int} {k i : Nat} (h : Src D v l) (hk : k + i < 1000) (hi : i < 4) : fL_type_s24 v k x i ln z D = some (.inl (zor (zshl x 8) (l.getD (k + i) 0), (i : Int) + 1)) := by
  have q1 := h.use.1
  have q8 := h.2.2
  unfold fL_type_s24
  rw [if_pos (by omega), l_len h]
  rw [Option.bind_some]
  rw [if_pos q1, if_pos (inR_s (by omega))]
  by_cases c : k + i < l.length
  · have hc : fJ0_charAt_5068e_Z v ((k : Int) + (i : Int)) D = some (l.getD (k + i) 0) := by
      have := l_charAt h c
      rw [Int.natCast_add] at this
      exact this
    rw [if_pos (by omega), hc, Option.bind_some]
    unfold fL_type_b58
    rw [if_pos (inR_s (by omega))]
  · rw [if_neg (by omega)]
    unfold fL_type_b58
    rw [if_pos (inR_s (by omega)), getD_out (l := l) (by omega)]
theorem l_type4 {ln : Nat} {z : ZZ} {k : Nat} (h : Src D v l) (hk : k < 900) : zlp (fun q => fL_type_s24 v k q.1 q.2 ln z D) FU (0, 0) = some (w4 (l.getD k 0) (l.getD (k + 1) 0) (l.getD (k + 2) 0) (l.getD (k + 3) 0)) := by
  obtain ⟨m, hm⟩ : ∃ m, FU = m + 5 := ⟨99995, rfl⟩
  rw [hm]
  have s0 : fL_type_s24 v k 0 0 ln z D = some (.inl (zor (zshl 0 8) (l.getD k 0), 1)) := l_type4s (ln := ln) (z := z) (x := 0) (k := k) (i := 0) h (by omega) (by decide)
  have s1 : ∀ x, fL_type_s24 v k x 1 ln z D = some (.inl (zor (zshl x 8) (l.getD (k + 1) 0), 2)) := fun x => l_type4s (ln := ln) (z := z) (x := x) (k := k) (i := 1) h (by omega) (by decide)
  have s2 : ∀ x, fL_type_s24 v k x 2 ln z D = some (.inl (zor (zshl x 8) (l.getD (k + 2) 0), 3)) := fun x => l_type4s (ln := ln) (z := z) (x := x) (k := k) (i := 2) h (by omega) (by decide)
  have s3 : ∀ x, fL_type_s24 v k x 3 ln z D = some (.inl (zor (zshl x 8) (l.getD (k + 3) 0), 4)) := fun x => l_type4s (ln := ln) (z := z) (x := x) (k := k) (i := 3) h (by omega) (by decide)
  rw [zlp_next s0, zlp_next (s1 _), zlp_next (s2 _), zlp_next (s3 _)]
  refine zlp_end ?_
  show fL_type_s24 v k _ 4 ln z D = _
  unfold fL_type_s24
  rw [if_neg (by decide)]
  rfl
/-- the buffer's content so far -/
def BI (l : List Int) (k : Nat) (q : Int × (Int → Int)) : Prop := q.1 = (min k l.length : Nat) ∧ ∀ i : Nat, i < min k l.length → q.2 i = l.getD i 0
theorem BI_ap {k : Nat} {q : Int × (Int → Int)} (hl : chL l) (h : BI l k q) : BI l (k + 1) (ap (l.getD k 0) q) := by
  obtain ⟨h1, h2⟩ := h
  unfold ap
  by_cases c : k < l.length
  · have h0 := hl _ (getD_mem c)
    rw [if_neg (by omega)]
    have e0 : min k l.length = k := by omega
    have e1 : min (k + 1) l.length = k + 1 := by omega
    rw [e0] at h1 h2
    refine ⟨?_, fun i hi => ?_⟩
    · rw [e1]; show q.1 + 1 = _; omega
    · rw [e1] at hi
      show rup q.2 q.1 (l.getD k 0) i = _
      rw [rup_at, h1]
      by_cases e : (i : Int) = k
      · rw [if_pos e, show i = k by omega]
      · rw [if_neg e]; exact h2 i (by omega)
  · have e : l.getD k 0 = 0 := getD_out (by omega)
    rw [if_pos e]
    have e0 : min k l.length = l.length := by omega
    have e1 : min (k + 1) l.length = l.length := by omega
    rw [e0] at h1 h2
    exact ⟨by rw [e1]; exact h1, fun i hi => h2 i (by rw [e1] at hi; exact hi)⟩
theorem AF_tr {a b c : ZZ} (h1 : AF a b) (h2 : AF b c) : AF a c := ⟨fun x p q => (h2.1 x p q).trans (h1.1 x p q), fun j p => (h2.2 j p).trans (h1.2 j p)⟩
theorem byL_0 : byL 0 = [0, 0, 0, 0] := by decide +kernel
theorem aps_0 (q : Int × (Int → Int)) : aps [0, 0, 0, 0] q = q := rfl
theorem w_append {x : Int} {z : ZZ} (hz : 0 ≤ z 16 1) (hc : z 16 1 + cntL (byL x) ≤ 600) : ∃ z', fL_append x z = some (z' 16 1, z', 0) ∧ (z' 16 1, z' 30) = aps (byL x) (z 16 1, z 30) ∧ AF z z' := by
  have c0 : cntL (byL 0) = 0 := by rw [byL_0]; rfl
  have cn := cntL_nn (byL x)
  obtain ⟨z1, a1, a2, a3⟩ := c_addB (w := x) hz hc
  have f1 : z1 16 1 = z 16 1 + cntL (byL x) := by have := congrArg Prod.fst a2; rw [aps_1] at this; exact this
  have zero : ∀ y : ZZ, 0 ≤ y 16 1 → y 16 1 ≤ 600 → ∃ y', fX3_addBytesOf 0 y = some y' ∧ (y' 16 1, y' 30) = (y 16 1, y 30) ∧ AF y y' := fun y h1 h2 => by
    obtain ⟨y', b1, b2, b3⟩ := c_addB (w := 0) h1 (by rw [c0]; omega)
    rw [byL_0, aps_0] at b2
    exact ⟨y', b1, b2, b3⟩
  obtain ⟨z2, b1, b2, b3⟩ := zero z1 (by omega) (by omega)
  have g2 : z2 16 1 = z1 16 1 := congrArg Prod.fst b2
  obtain ⟨z3, c1, c2, c3⟩ := zero z2 (by omega) (by omega)
  have g3 : z3 16 1 = z2 16 1 := congrArg Prod.fst c2
  obtain ⟨z4, d1, d2, d3⟩ := zero z3 (by omega) (by omega)
  have g4 : z4 16 1 = z3 16 1 := congrArg Prod.fst d2
  obtain ⟨z5, e1, e2, e3⟩ := zero z4 (by omega) (by omega)
  refine ⟨z5, ?_, by rw [e2, d2, c2, b2, a2], AF_tr a3 (AF_tr b3 (AF_tr c3 (AF_tr d3 e3)))⟩
  unfold fL_append fX5_append
  rw [c_bytesIn]
  simp only [Option.bind_some]
  rw [c_bytesIn]
  simp only [Option.bind_some]
  rw [c0, if_pos (inR_s (by omega)), if_neg (by omega), a1]
  simp only [Option.bind_some]
  rw [b1]
  simp only [Option.bind_some]
  rw [c1]
  simp only [Option.bind_some]
  rw [d1]
  simp only [Option.bind_some]
  rw [e1]
  rfl
/-- the loop -/
theorem l_typeL {ln : Nat} (h : Src D v l) (hl : chL l) : ∀ (m k fuel : Nat) (n : Int) (z : ZZ), l.length ≤ k + 4 * m → m < fuel → k < l.length + 4 → n = (min k l.length : Nat) → BI l k (z 16 1, z 30) → ∃ z', zlp (fun q => fL_type_s10 v q.1 q.2.1 ln q.2.2 D) fuel (n, (k : Int), z) = some ((l.length : Int), z') ∧ BI l l.length (z' 16 1, z' 30) ∧ AF z z'
  | m, k, 0, n, z, h1, h2, h3, h4, h5 => absurd h2 (by omega)
  | m, k, fuel + 1, n, z, h1, h2, h3, h4, h5 => by
    have q8 := h.2.2
    by_cases c : l.length ≤ k
    · have e : min k l.length = l.length := by omega
      refine ⟨z, zlp_end ?_, ?_, fun _ _ _ => rfl, fun _ _ => rfl⟩
      · show fL_type_s10 v n k ln z D = _
        unfold fL_type_s10
        rw [l_len h]
        rw [Option.bind_some]
        rw [if_pos h.use.1, if_neg (by omega), h4, e]
      · obtain ⟨a, b⟩ := h5
        rw [e] at a b
        exact ⟨by rw [Nat.min_self]; exact a, fun i hi => b i (by rw [Nat.min_self] at hi; exact hi)⟩
    · obtain ⟨m, rfl⟩ : ∃ m', m = m' + 1 := ⟨m - 1, by omega⟩
      have hch : ∀ j, 0 ≤ l.getD j 0 ∧ l.getD j 0 < 128 := fun j => by
        by_cases cj : j < l.length
        · have := hl _ (getD_mem cj); omega
        · rw [getD_out (by omega)]; decide
      have e4 := byL_4 (hch k) (hch (k + 1)) (hch (k + 2)) (hch (k + 3))
      have b4 : BI l (k + 4) (aps (byL (w4n (l.getD k 0) (l.getD (k + 1) 0) (l.getD (k + 2) 0) (l.getD (k + 3) 0))) (z 16 1, z 30)) := by
        rw [e4]
        exact BI_ap hl (BI_ap hl (BI_ap hl (BI_ap hl h5)))
      have t0 := h5.1
      have t1 := b4.1
      rw [aps_1] at t1
      have t0 : z 16 1 = (min k l.length : Nat) := t0
      have t1 : z 16 1 + cntL (byL (w4n (l.getD k 0) (l.getD (k + 1) 0) (l.getD (k + 2) 0) (l.getD (k + 3) 0))) = (min (k + 4) l.length : Nat) := t1
      obtain ⟨z1, a1, a2, a3⟩ := w_append (x := w4n (l.getD k 0) (l.getD (k + 1) 0) (l.getD (k + 2) 0) (l.getD (k + 3) 0)) (z := z) (by omega) (by omega)
      rw [← a2] at b4
      obtain ⟨z', r1, r2, r3⟩ := l_typeL (ln := ln) h hl m (k + 4) fuel (z1 16 1) z1 (by omega) (by omega) (by omega) b4.1 b4
      refine ⟨z', ?_, r2, AF_tr a3 r3⟩
      rw [zlp_next (s' := (z1 16 1, ((k + 4 : Nat) : Int), z1))]
      · exact r1
      · show fL_type_s10 v n k ln z D = _
        unfold fL_type_s10
        rw [l_len h]
        rw [Option.bind_some]
        rw [if_pos h.use.1, if_pos (by omega), l_type4 h (by omega), w4_n (hch k) (hch (k + 1)) (hch (k + 2)) (hch (k + 3))]
        rw [Option.bind_some]
        rw [a1]
        rw [Option.bind_some]
        show (if (0 : Nat) = 0 then (if inR ((k : Int) + 4) then some (Sum.inl (z1 16 1, (k : Int) + 4, z1)) else none) else none) = _
        rw [if_pos rfl, if_pos (inR_s (by omega)), show ((k + 4 : Nat) : Int) = (k : Int) + 4 by omega]
/-- a text is typed: the buffer shows it -/
theorem l_type {ln : Nat} {z : ZZ} (h : Src D v l) (hl : chL l) (hz : 0 ≤ z 16 1) : ∃ z', fL_type v ln z D = some (1, z') ∧ TC (bT l) l.length z' ∧ AF z z' := by
  have q8 := h.2.2
  obtain ⟨z', r1, r2, r3⟩ := l_typeL (ln := ln) h hl l.length 0 FU 0 (zup z 16 1 0) (by omega) (FU_lt (by omega)) (by omega) (by rw [Nat.zero_min]; rfl) ⟨by rw [Nat.zero_min, zup_at, if_pos rfl]; rfl, fun i hi => absurd hi (by rw [Nat.zero_min]; exact Nat.not_lt_zero _)⟩
  have f : AF z (zup z 16 1 0) := ⟨fun a p q => by rw [zup_ne p], fun j p => by rw [zup_at, if_neg p]⟩
  refine ⟨z', ?_, ⟨?_, fun k a b => ?_⟩, AF_tr f r3⟩
  · unfold fL_type fX5_truncate
    rw [n_btw, if_pos ⟨Int.le_refl _, hz⟩]
    rw [Option.bind_some]
    unfold zl
    rw [Option.bind_some]
    rw [show ((0 : Nat) : Int) = 0 from rfl] at r1
    dsimp only
    rw [r1]
    rw [Option.bind_some]
    dsimp only
    rw [l_len h]
    rw [Option.bind_some]
    rw [if_pos h.use.1, if_pos rfl]
  · have := r2.1
    rw [Nat.min_self] at this
    exact this
  · have := r2.2 k.toNat (by rw [Nat.min_self]; omega)
    unfold bT
    rw [if_pos a, ← this, Int.toNat_of_nonneg a]
end TYP

/-! the model reads a statement -/
def MS (b : Int → Int) (L p : Int) (z : ZZ) : Prop := TM b L z ∧ z 151 4 = tS b p ∧ z 151 3 = tE b L (tS b p) ∧ z 151 5 = tK b L (tS b p) ∧ z 151 6 = tM b L (tS b p) ∧ z 151 7 = -1
theorem MS_lt {b : Int → Int} {L p : Int} {z : ZZ} (h : MS b L p z) : z 151 7 < 0 := by
  have := h.2.2.2.2.2
  omega
def MFs (z z' : ZZ) : Prop := (∀ a, a ≠ 151 → z' a = z a) ∧ ∀ j, j ≠ 3 → j ≠ 4 → j ≠ 5 → j ≠ 6 → j ≠ 7 → z' 151 j = z 151 j
def MF (z z' : ZZ) : Prop := (∀ a, a ≠ 151 → a ≠ 153 → z' a = z a) ∧ ∀ j, j ≠ 3 → j ≠ 4 → j ≠ 5 → j ≠ 6 → j ≠ 7 → j ≠ 14 → z' 151 j = z 151 j
theorem MFs_rf (z : ZZ) : MFs z z := ⟨fun _ _ => rfl, fun _ _ _ _ _ _ => rfl⟩
theorem MFs_tr {z z' z'' : ZZ} (h : MFs z z') (h2 : MFs z' z'') : MFs z z'' := ⟨fun a p => (h2.1 a p).trans (h.1 a p), fun j p q u v w => (h2.2 j p q u v w).trans (h.2 j p q u v w)⟩
theorem MF_tr {z z' z'' : ZZ} (h : MF z z') (h2 : MF z' z'') : MF z z'' := ⟨fun a p q => (h2.1 a p q).trans (h.1 a p q), fun j p q u v w x => (h2.2 j p q u v w x).trans (h.2 j p q u v w x)⟩
theorem MF_s {z z' : ZZ} (h : MFs z z') : MF z z' := ⟨fun a p _ => h.1 a p, fun j p q u v w _ => h.2 j p q u v w⟩
theorem MF_153 {z z' : ZZ} (h : ∀ a, a ≠ 153 → z' a = z a) : MF z z' := ⟨fun a _ q => h a q, fun j _ _ _ _ _ _ => by rw [h 151 (by decide)]⟩
theorem MF_14 {z : ZZ} {v : Int} : MF z (zup z 151 14 v) := ⟨fun a p _ => zup_ne p, fun j _ _ _ _ _ x => by rw [zup_at, if_neg x]⟩
theorem MFs_7 {z : ZZ} {v : Int} : MFs z (zup z 151 7 v) := ⟨fun a p => zup_ne p, fun j _ _ _ _ w => by rw [zup_at, if_neg w]⟩
section MM
variable {z : ZZ} {b : Int → Int} {L p h : Int} {r : Row}
theorem TM_fs {z' : ZZ} (h : TM b L z) (f : MFs z z') : TM b L z' := by
  refine ⟨by rw [f.2 2 (by decide) (by decide) (by decide) (by decide) (by decide)]; exact h.1, fun k a c => ?_⟩
  rw [f.1 152 (by decide)]
  exact h.2 k a c
theorem TM_f {z' : ZZ} (h : TM b L z) (f : MF z z') : TM b L z' := by
  refine ⟨by rw [f.2 2 (by decide) (by decide) (by decide) (by decide) (by decide) (by decide)]; exact h.1, fun k a c => ?_⟩
  rw [f.1 152 (by decide) (by decide)]
  exact h.2 k a c
theorem MS_153 {z' : ZZ} (h : MS b L p z) (f : ∀ a, a ≠ 153 → z' a = z a) : MS b L p z' := by
  obtain ⟨h1, h2⟩ := h
  refine ⟨⟨by rw [f 151 (by decide)]; exact h1.1, fun k a c => by rw [f 152 (by decide)]; exact h1.2 k a c⟩, ?_⟩
  rw [f 151 (by decide)]
  exact h2
theorem MS_14 {v : Int} (h : MS b L p z) : MS b L p (zup z 151 14 v) := by
  obtain ⟨h1, h2⟩ := h
  refine ⟨TM_151 h1 (by decide), ?_⟩
  rw [zup_at, if_neg (by decide), zup_at, if_neg (by decide), zup_at, if_neg (by decide), zup_at, if_neg (by decide), zup_at, if_neg (by decide)]
  exact h2
theorem MS_of {z' : ZZ} (h : TM b L z) (h7 : z 151 7 = -1) (hm : MT b L p z z') : MS b L p z' ∧ MFs z z' := by
  unfold MT at hm
  subst hm
  refine ⟨⟨TM_151 (TM_151 (TM_151 (TM_151 h (by decide)) (by decide)) (by decide)) (by decide), ?_, ?_, ?_, ?_, ?_⟩, fun a q => by rw [zup_ne q, zup_ne q, zup_ne q, zup_ne q], fun j q3 q4 q5 q6 q7 => by rw [zup_at, if_neg q3, zup_at, if_neg q6, zup_at, if_neg q5, zup_at, if_neg q4]⟩
  · rw [zup_at, if_neg (by decide), zup_at, if_neg (by decide), zup_at, if_neg (by decide), zup_at, if_pos rfl]
  · rw [zup_at, if_pos rfl]
  · rw [zup_at, if_neg (by decide), zup_at, if_neg (by decide), zup_at, if_pos rfl]
  · rw [zup_at, if_neg (by decide), zup_at, if_pos rfl]
  · rw [zup_at, if_neg (by decide), zup_at, if_neg (by decide), zup_at, if_neg (by decide), zup_at, if_neg (by decide)]
    exact h7
theorem m_step (hT : TXT b L) (hM : MS b L p z) (h0 : 0 ≤ p ∧ p ≤ L) : ∃ z', fX6_step z = some z' ∧ MS b L (tE b L (tS b p)) z' ∧ MFs z z' := by
  obtain ⟨s1, s2⟩ := tS_ok hT h0
  obtain ⟨t1, t2, -, -⟩ := tE_ok hT (s := tS b p) (by omega)
  obtain ⟨z', e, m⟩ := m_tok hT hM.1 hM.2.2.1 (by omega)
  exact ⟨z', e, MS_of hM.1 hM.2.2.2.2.2 m⟩
theorem m_good : fX6_isGood z = some (bI (z 151 7 < 0)) := by
  unfold fX6_isGood bI
  split <;> rfl
theorem m_fail_g (h7 : z 151 7 < 0) : fX6_fail z = some (zup z 151 7 (z 151 4)) := by
  unfold fX6_fail zl
  rw [if_pos h7]
theorem m_fail_b (h7 : ¬ z 151 7 < 0) : fX6_fail z = some z := by
  unfold fX6_fail zl
  rw [if_neg h7, zup_self rfl]
theorem tn_bad {lo hi : Int} (h7 : ¬ z 151 7 < 0) : fX6_takeNumber lo hi z = some (lo, z) := by
  unfold fX6_takeNumber fX6_takeNumber_b43
  rw [m_good, bI_f h7]
  simp only [Option.bind_some, if_true]
  rw [m_fail_b h7]
  rfl
theorem tK_2 (hT : TXT b L) {s : Int} : tK b L s = 2 ↔ isDg (b s) := by
  unfold tK
  by_cases k0 : L ≤ s
  · rw [if_pos k0, hT.2.2.1 s (by omega)]
    exact ⟨fun x => by omega, fun x => by omega⟩
  · rw [if_neg k0]
    by_cases k1 : isLt (b s)
    · rw [if_pos k1]
      exact ⟨fun x => by omega, fun x => by omega⟩
    · rw [if_neg k1]
      by_cases k2 : isDg (b s)
      · rw [if_pos k2]
        exact ⟨fun _ => k2, fun _ => rfl⟩
      · rw [if_neg k2]
        exact ⟨fun x => by omega, fun x => absurd x k2⟩
theorem tK_1 (hT : TXT b L) {s : Int} : tK b L s = 1 ↔ isLt (b s) := by
  unfold tK
  by_cases k0 : L ≤ s
  · rw [if_pos k0, hT.2.2.1 s (by omega)]
    exact ⟨fun x => by omega, fun x => by omega⟩
  · rw [if_neg k0]
    by_cases k1 : isLt (b s)
    · rw [if_pos k1]
      exact ⟨fun _ => k1, fun _ => rfl⟩
    · rw [if_neg k1]
      exact ⟨fun x => by (split at x <;> omega), fun x => absurd x k1⟩
theorem tn {lo hi : Int} (hT : TXT b L) (hM : MS b L p z) (h0 : 0 ≤ p ∧ p ≤ L) :
    (∀ x, num b L lo hi p = .inl x → fX6_takeNumber lo hi z = some (lo, zup z 151 7 x) ∧ 0 ≤ x) ∧
    (∀ v q, num b L lo hi p = .inr (v, q) → ∃ z', fX6_takeNumber lo hi z = some (v, z') ∧ MS b L q z' ∧ MFs z z') := by
  have hL := hT.2.1
  obtain ⟨s1, s2⟩ := tS_ok hT h0
  obtain ⟨z', e', m1, m2⟩ := m_step hT hM h0
  obtain ⟨hM1, h4, h3, h5, h6, h7'⟩ := hM
  have h7 : z 151 7 < 0 := by omega
  unfold num
  generalize tS b p = s at *
  obtain ⟨t1, t2, t3, t4⟩ := tE_ok hT (s := s) (by omega)
  have bad : fX6_takeNumber_b43 lo z = some (lo, zup z 151 7 s) := by
    unfold fX6_takeNumber_b43
    rw [m_fail_g h7, h4]
    rfl
  have i1 : inR (tE b L s - s) := inR_s (by omega)
  have pre : fX6_takeNumber lo hi z = if isDg (b s) then (if 3 < tE b L s - s then fX6_takeNumber_b43 lo z else if lo ≤ tM b L s ∧ tM b L s ≤ hi then some (tM b L s, z') else fX6_takeNumber_b43 lo z) else fX6_takeNumber_b43 lo z := by
    unfold fX6_takeNumber
    rw [m_good, bI_t h7]
    simp only [Option.bind_some]
    rw [if_neg (by decide), h5, h3, h4, h6, if_pos i1]
    by_cases g : isDg (b s)
    · rw [if_pos ((tK_2 hT).mpr g), if_pos g, m_in]
      simp only [Option.bind_some, ite_bI]
      rw [e']
      rfl
    · rw [if_neg (fun x => g ((tK_2 hT).mp x)), if_neg g]
  rw [pre, bad]
  by_cases g : isDg (b s)
  · rw [if_pos g]
    have hs := in_L hT (p := s) (by omega)
    by_cases g3 : tE b L s - s ≤ 3
    · rw [if_neg (show ¬ 3 < tE b L s - s by omega)]
      have hv := tVC g (tE b L s) (t3 hs.2) (by omega) (t4 g)
      have hm : tM b L s = tV b s (tE b L s) := by
        unfold tM
        rw [if_pos g, hv.1]
      rw [hm]
      by_cases g2 : lo ≤ tV b s (tE b L s) ∧ tV b s (tE b L s) ≤ hi
      · rw [if_pos g2, if_pos (show isDg (b s) ∧ tE b L s - s ≤ 3 ∧ lo ≤ tV b s (tE b L s) ∧ tV b s (tE b L s) ≤ hi from ⟨g, g3, g2⟩)]
        refine ⟨fun x hx => (by cases hx), fun v q hx => ?_⟩
        cases hx
        exact ⟨z', rfl, m1, m2⟩
      · rw [if_neg g2, if_neg (show ¬ (isDg (b s) ∧ tE b L s - s ≤ 3 ∧ lo ≤ tV b s (tE b L s) ∧ tV b s (tE b L s) ≤ hi) from fun x => g2 x.2.2)]
        refine ⟨fun x hx => ?_, fun v q hx => by cases hx⟩
        cases hx
        exact ⟨rfl, by omega⟩
    · rw [if_pos (show 3 < tE b L s - s by omega), if_neg (show ¬ (isDg (b s) ∧ tE b L s - s ≤ 3 ∧ lo ≤ tV b s (tE b L s) ∧ tV b s (tE b L s) ≤ hi) from fun x => g3 x.2.1)]
      refine ⟨fun x hx => ?_, fun v q hx => by cases hx⟩
      cases hx
      exact ⟨rfl, by omega⟩
  · rw [if_neg g, if_neg (show ¬ (isDg (b s) ∧ tE b L s - s ≤ 3 ∧ lo ≤ tV b s (tE b L s) ∧ tV b s (tE b L s) ≤ hi) from fun x => g x.1)]
    refine ⟨fun x hx => ?_, fun v q hx => by cases hx⟩
    cases hx
    exact ⟨rfl, by omega⟩
theorem b7 {x : Int} (hx : 0 ≤ x) : ¬ zup z 151 7 x 151 7 < 0 := by
  rw [zup_at, if_pos rfl]
  omega
theorem m_n2 {l1 h1 l2 h2 : Int} (hT : TXT b L) (hM : MS b L p z) (h0 : 0 ≤ p ∧ p ≤ L) :
    (∀ x, n2 b L l1 h1 l2 h2 p = .inl x → ∃ u v z1 z2, fX6_takeNumber l1 h1 z = some (u, z1) ∧ fX6_takeNumber l2 h2 z1 = some (v, z2) ∧ z2 151 7 = x ∧ 0 ≤ x ∧ MFs z z2) ∧
    (∀ u v q, n2 b L l1 h1 l2 h2 p = .inr (u, v, q) → ∃ z1 z2, fX6_takeNumber l1 h1 z = some (u, z1) ∧ fX6_takeNumber l2 h2 z1 = some (v, z2) ∧ MS b L q z2 ∧ MFs z z2) := by
  obtain ⟨A1, B1⟩ := tn (lo := l1) (hi := h1) hT hM h0
  unfold n2
  cases e1 : num b L l1 h1 p with
  | inl x =>
    obtain ⟨g1, g2⟩ := A1 x e1
    refine ⟨fun y hy => ?_, fun _ _ _ hy => by cases hy⟩
    cases hy
    exact ⟨_, _, _, _, g1, tn_bad (b7 g2), by rw [zup_at, if_pos rfl], g2, MFs_7⟩
  | inr y =>
    obtain ⟨v1, p1⟩ := y
    obtain ⟨z1, k1, m1, f1⟩ := B1 v1 p1 e1
    have ok1 := num_ok hT h0 e1
    obtain ⟨A2, B2⟩ := tn (lo := l2) (hi := h2) hT m1 (by omega)
    dsimp only
    cases e2 : num b L l2 h2 p1 with
    | inl x =>
      obtain ⟨g1, g2⟩ := A2 x e2
      refine ⟨fun y hy => ?_, fun _ _ _ hy => by cases hy⟩
      cases hy
      exact ⟨_, _, _, _, k1, g1, by rw [zup_at, if_pos rfl], g2, MFs_tr f1 MFs_7⟩
    | inr y =>
      obtain ⟨v2, p2⟩ := y
      obtain ⟨z2, k2, m2, f2⟩ := B2 v2 p2 e2
      refine ⟨fun _ hy => (by cases hy), fun u v q hy => ?_⟩
      cases hy
      exact ⟨_, _, k1, k2, m2, MFs_tr f1 f2⟩
theorem m_n3 {l1 h1 l2 h2 l3 h3 : Int} (hT : TXT b L) (hM : MS b L p z) (h0 : 0 ≤ p ∧ p ≤ L) :
    (∀ x, n3 b L l1 h1 l2 h2 l3 h3 p = .inl x → ∃ u v w z1 z2 z3, fX6_takeNumber l1 h1 z = some (u, z1) ∧ fX6_takeNumber l2 h2 z1 = some (v, z2) ∧ fX6_takeNumber l3 h3 z2 = some (w, z3) ∧ z3 151 7 = x ∧ 0 ≤ x ∧ MFs z z3) ∧
    (∀ u v w q, n3 b L l1 h1 l2 h2 l3 h3 p = .inr (u, v, w, q) → ∃ z1 z2 z3, fX6_takeNumber l1 h1 z = some (u, z1) ∧ fX6_takeNumber l2 h2 z1 = some (v, z2) ∧ fX6_takeNumber l3 h3 z2 = some (w, z3) ∧ MS b L q z3 ∧ MFs z z3) := by
  obtain ⟨A1, B1⟩ := tn (lo := l1) (hi := h1) hT hM h0
  unfold n3
  cases e1 : num b L l1 h1 p with
  | inl x =>
    obtain ⟨g1, g2⟩ := A1 x e1
    refine ⟨fun y hy => ?_, fun _ _ _ _ hy => by cases hy⟩
    cases hy
    exact ⟨_, _, _, _, _, _, g1, tn_bad (b7 g2), tn_bad (b7 g2), by rw [zup_at, if_pos rfl], g2, MFs_7⟩
  | inr y =>
    obtain ⟨v1, p1⟩ := y
    obtain ⟨z1, k1, m1, f1⟩ := B1 v1 p1 e1
    have ok1 := num_ok hT h0 e1
    obtain ⟨A2, B2⟩ := tn (lo := l2) (hi := h2) hT m1 (by omega)
    dsimp only
    cases e2 : num b L l2 h2 p1 with
    | inl x =>
      obtain ⟨g1, g2⟩ := A2 x e2
      refine ⟨fun y hy => ?_, fun _ _ _ _ hy => by cases hy⟩
      cases hy
      exact ⟨_, _, _, _, _, _, k1, g1, tn_bad (b7 g2), by rw [zup_at, if_pos rfl], g2, MFs_tr f1 MFs_7⟩
    | inr y =>
      obtain ⟨v2, p2⟩ := y
      obtain ⟨z2, k2, m2, f2⟩ := B2 v2 p2 e2
      have ok2 := num_ok hT (by omega) e2
      obtain ⟨A3, B3⟩ := tn (lo := l3) (hi := h3) hT m2 (by omega)
      dsimp only
      cases e3 : num b L l3 h3 p2 with
      | inl x =>
        obtain ⟨g1, g2⟩ := A3 x e3
        refine ⟨fun y hy => ?_, fun _ _ _ _ hy => by cases hy⟩
        cases hy
        exact ⟨_, _, _, _, _, _, k1, k2, g1, by rw [zup_at, if_pos rfl], g2, MFs_tr f1 (MFs_tr f2 MFs_7)⟩
      | inr y =>
        obtain ⟨v3, p3⟩ := y
        obtain ⟨z3, k3, m3, f3⟩ := B3 v3 p3 e3
        refine ⟨fun _ hy => (by cases hy), fun u v w q hy => ?_⟩
        cases hy
        exact ⟨_, _, _, k1, k2, k3, m3, MFs_tr f1 (MFs_tr f2 f3)⟩
/-- words -/
theorem wd_1 : ∀ w ∈ zWl, 0 < zlen w ∧ 97 ≤ zKC (w + 100) 0 ∧ zKC (w + 100) 0 ≤ 122 := by decide +kernel
theorem wd_lp {w : Nat} (hT : TXT b L) (hM : TM b L z) (hs : z 151 4 = p) (h0 : 0 ≤ p) (hl : p + zlen w ≤ L) : ∀ (n : Nat) (i : Int) (fuel : Nat), n + 1 < fuel → 0 ≤ i → i + n = zlen w → zlp (fun q => fX6_isWord_s39 w q.1 q.2 z) fuel (1, i) = some (bI (∀ k : Nat, k < (zlen w).toNat → i ≤ k → b (p + k) = zKC (w + 100) k))
  | 0, i, fuel, hf, hi, hn => by
    obtain ⟨m, rfl⟩ : ∃ m, fuel = m + 1 := ⟨fuel - 1, by omega⟩
    rw [zlp_end (f := fun q : Int × Int => fX6_isWord_s39 w q.1 q.2 z) (s := (1, i)) (r := 1) (by
      show fX6_isWord_s39 w 1 i z = _
      unfold fX6_isWord_s39
      rw [if_neg (by decide), if_neg (by omega)]), bI_t (fun k a c => by omega)]
  | n + 1, i, fuel, hf, hi, hn => by
    obtain ⟨m, rfl⟩ : ∃ m, fuel = m + 1 := ⟨fuel - 1, by omega⟩
    have hL := hT.2.1
    have bi : z 152 (p + i) = b (p + i) := hM.2 (p + i) (by omega) (by omega)
    have g1 : (0 : Int) ≤ p + i ∧ p + i < 600 := by omega
    have g2 : (0 : Int) ≤ i ∧ i < zlen w := by omega
    have i1 : inR (i + 1) := inR_s (by omega)
    by_cases q : b (p + i) = zKC (w + 100) i
    · rw [zlp_next (f := fun q : Int × Int => fX6_isWord_s39 w q.1 q.2 z) (s := (1, i)) (s' := (1, i + 1)) (by
        show fX6_isWord_s39 w 1 i z = _
        unfold fX6_isWord_s39 fX6_isWord_b75
        rw [if_neg (by decide), if_pos g2.2, hs, if_pos g1, if_pos g2, bi, if_pos q, if_pos i1])]
      rw [wd_lp hT hM hs h0 hl n (i + 1) m (by omega) (by omega) (by omega)]
      refine congrArg some (bI_congr ⟨fun x k a c => ?_, fun x k a c => x k a (by omega)⟩)
      by_cases ek : (k : Int) = i
      · rw [ek]; exact q
      · exact x k a (by omega)
    · obtain ⟨m', rfl⟩ : ∃ m', m = m' + 1 := ⟨m - 1, by omega⟩
      rw [zlp_next (f := fun q : Int × Int => fX6_isWord_s39 w q.1 q.2 z) (s := (1, i)) (s' := (0, i + 1)) (by
        show fX6_isWord_s39 w 1 i z = _
        unfold fX6_isWord_s39 fX6_isWord_b75
        rw [if_neg (by decide), if_pos g2.2, hs, if_pos g1, if_pos g2, bi, if_neg q, if_pos i1]), zlp_end (f := fun q : Int × Int => fX6_isWord_s39 w q.1 q.2 z) (s := (0, i + 1)) (r := 0) (by
        show fX6_isWord_s39 w 0 (i + 1) z = _
        unfold fX6_isWord_s39
        rw [if_pos rfl]), bI_f (fun x => q (by
        have := x i.toNat (by omega) (by omega)
        rw [Int.toNat_of_nonneg hi] at this
        exact this))]
theorem m_isWord {w : Nat} (hT : TXT b L) (hM : MS b L p z) (h0 : 0 ≤ p ∧ p ≤ L) (hw : isW w) : fX6_isWord w z = some (bI (isWd b (tS b p) (tE b L (tS b p)) w)) := by
  have hL := hT.2.1
  obtain ⟨s1, s2⟩ := tS_ok hT h0
  obtain ⟨hM1, h4, h3, h5, h6, h7'⟩ := hM
  have h7 : z 151 7 < 0 := by omega
  generalize tS b p = s at *
  obtain ⟨t1, t2, t3, t4⟩ := tE_ok hT (s := s) (by omega)
  have hz := zlen_ok hw
  have h1 := wd_1 w hw
  have no : fX6_isWord_b35 w z = some 0 := by
    unfold fX6_isWord_b35 fX6_isWord_b36
    rw [show FU = 99999 + 1 from rfl, zlp_end (n := 99999) (f := fun q : Int × Int => fX6_isWord_s39 w q.1 q.2 z) (s := (0, 0)) (r := 0) (by
        show fX6_isWord_s39 w 0 0 z = _
        unfold fX6_isWord_s39
        rw [if_pos rfl])]
    rfl
  unfold fX6_isWord
  rw [m_good, bI_t h7]
  simp only [Option.bind_some]
  rw [if_neg (by decide), h5, h3, h4, if_pos (inR_s (by omega)), no]
  by_cases k1 : isLt (b s)
  · rw [if_pos ((tK_1 hT).mpr k1)]
    by_cases q : tE b L s - s = zlen w
    · rw [if_pos q]
      unfold fX6_isWord_b36
      rw [wd_lp (w := w) hT hM1 h4 (by omega) (by omega) (zlen w).toNat 0 FU (by show _ < 100000; omega) (Int.le_refl _) (by omega)]
      simp only [Option.bind_some]
      have hb := bI_01 (∀ k : Nat, k < (zlen w).toNat → (0 : Int) ≤ k → b (s + k) = zKC (w + 100) k)
      rw [if_pos hb]
      exact congrArg some (bI_congr ⟨fun x => ⟨q, fun k a => x k a (by omega)⟩, fun x k a _ => x.2 k a⟩)
    · rw [if_neg q, bI_f (fun x => q x.1)]
  · rw [if_neg (fun x => k1 ((tK_1 hT).mp x)), bI_f (fun x => k1 (by
      have := x.2 0 (by omega)
      rw [show s + ((0 : Nat) : Int) = s by omega] at this
      rw [this]
      exact h1.2))]
theorem wd_eq {s e : Int} {w w' : Nat} (h1 : zlen w' = zlen w) (h2 : ∀ k : Nat, k < (zlen w).toNat → zKC (w' + 100) k = zKC (w + 100) k) : isWd b s e w' ↔ isWd b s e w := by
  unfold isWd
  rw [h1]
  exact ⟨fun x => ⟨x.1, fun k a => (x.2 k a).trans (h2 k a)⟩, fun x => ⟨x.1, fun k a => (x.2 k a).trans (h2 k a).symm⟩⟩
theorem wd_27 {s e : Int} : isWd b s e 1000127 ↔ isWd b s e 1000100 := wd_eq (by decide +kernel) (by decide +kernel)
theorem wd_28 {s e : Int} : isWd b s e 1000128 ↔ isWd b s e 1000101 := wd_eq (by decide +kernel) (by decide +kernel)
theorem wd_29 {s e : Int} : isWd b s e 1000129 ↔ isWd b s e 1000102 := wd_eq (by decide +kernel) (by decide +kernel)
theorem wd_30 {s e : Int} : isWd b s e 1000130 ↔ isWd b s e 1000103 := wd_eq (by decide +kernel) (by decide +kernel)
theorem wd_31 {s e : Int} : isWd b s e 1000131 ↔ isWd b s e 1000104 := wd_eq (by decide +kernel) (by decide +kernel)
/-- a word at the head of a statement -/
theorem m_begins {w : Nat} {v : Int} (hT : TXT b L) (hM : MS b L p z) (h0 : 0 ≤ p ∧ p ≤ L) (hw : isW w) : (¬ isWd b (tS b p) (tE b L (tS b p)) w → fX6_begins w v z = some (0, z)) ∧
    (isWd b (tS b p) (tE b L (tS b p)) w → (v = 0 → fX6_begins w v z = some (1, zup z 151 7 (tS b p))) ∧ (v ≠ 0 → ∃ z', fX6_begins w v z = some (1, z') ∧ MS b L (tE b L (tS b p)) z' ∧ MFs z z')) := by
  have h1 := m_isWord hT hM h0 hw
  obtain ⟨z', e', m1, m2⟩ := m_step hT hM h0
  unfold fX6_begins
  rw [h1]
  simp only [Option.bind_some, ite_bI]
  refine ⟨fun q => by rw [if_neg q], fun q => ⟨fun x => ?_, fun x => ⟨z', ?_, m1, m2⟩⟩⟩
  · rw [if_pos q, if_pos x, m_fail_g (MS_lt hM), hM.2.1]
    rfl
  · rw [if_pos q, if_neg x, e']
    rfl
/-- rows read -/
theorem rd_wall {u v w : Int} (h3 : z 153 = r) (h8 : 0 ≤ r 4 ∧ r 4 < 8) : ∃ z', fX6_readWall u v w z = some z' ∧ z' 153 = wallR r u v w ∧ ∀ a, a ≠ 153 → z' a = z a := by
  have g : ∀ c, 0 ≤ c ∧ c < 4 → (0 : Int) ≤ 5 + 4 * r 4 + c ∧ 5 + 4 * r 4 + c < 765 := fun c hc => by omega
  have e4 : zup (zup (zup (zup z 153 (5 + 4 * r 4 + 0) u) 153 (5 + 4 * r 4 + 1) v) 153 (5 + 4 * r 4 + 2) w) 153 (5 + 4 * r 4 + 3) w 153 4 = r 4 := by
    rw [zup_at, if_neg (by omega), zup_at, if_neg (by omega), zup_at, if_neg (by omega), zup_at, if_neg (by omega), h3]
  have i1 : inR (r 4 + 1) := inR_s (by omega)
  refine ⟨zup (zup (zup (zup (zup z 153 (5 + 4 * r 4 + 0) u) 153 (5 + 4 * r 4 + 1) v) 153 (5 + 4 * r 4 + 2) w) 153 (5 + 4 * r 4 + 3) w) 153 4 (r 4 + 1), ?_, ?_, fun a q => by rw [zup_ne q, zup_ne q, zup_ne q, zup_ne q, zup_ne q]⟩
  · simp only [fX6_readWall, zl, show z 153 4 = r 4 by rw [h3], if_pos (g 0 (by omega)), if_pos (g 1 (by omega)), if_pos (g 2 (by omega)), if_pos (g 3 (by omega)), e4, if_pos i1]
  · funext j
    rw [zup_at, zup_at, zup_at, zup_at, zup_at, h3]
    rfl
theorem rd_harn {u v : Int} (h3 : z 153 = r) (h8 : 0 ≤ r 470 ∧ r 470 < 15) : ∃ z', fX6_readHarness u v z = some z' ∧ z' 153 = harnR r u v ∧ ∀ a, a ≠ 153 → z' a = z a := by
  have g : ∀ c, 0 ≤ c ∧ c < 5 → (0 : Int) ≤ 471 + 5 * r 470 + c ∧ 471 + 5 * r 470 + c < 765 := fun c hc => by omega
  have e4 : zup (zup (zup (zup (zup z 153 (471 + 5 * r 470 + 0) u) 153 (471 + 5 * r 470 + 1) v) 153 (471 + 5 * r 470 + 2) 0) 153 (471 + 5 * r 470 + 3) 0) 153 (471 + 5 * r 470 + 4) 0 153 470 = r 470 := by
    rw [zup_at, if_neg (by omega), zup_at, if_neg (by omega), zup_at, if_neg (by omega), zup_at, if_neg (by omega), zup_at, if_neg (by omega), h3]
  have i1 : inR (r 470 + 1) := inR_s (by omega)
  refine ⟨zup (zup (zup (zup (zup (zup z 153 (471 + 5 * r 470 + 0) u) 153 (471 + 5 * r 470 + 1) v) 153 (471 + 5 * r 470 + 2) 0) 153 (471 + 5 * r 470 + 3) 0) 153 (471 + 5 * r 470 + 4) 0) 153 470 (r 470 + 1), ?_, ?_, fun a q => by rw [zup_ne q, zup_ne q, zup_ne q, zup_ne q, zup_ne q, zup_ne q]⟩
  · simp only [fX6_readHarness, zl, show z 153 470 = r 470 by rw [h3], if_pos (g 0 (by omega)), if_pos (g 1 (by omega)), if_pos (g 2 (by omega)), if_pos (g 3 (by omega)), if_pos (g 4 (by omega)), e4, if_pos i1]
  · funext j
    rw [zup_at, zup_at, zup_at, zup_at, zup_at, zup_at, h3]
    rfl
theorem rd_memb {u v : Int} (h3 : z 153 = r) (h8 : 0 ≤ r 546 ∧ r 546 < 12) : ∃ z', fX6_readMember u v z = some z' ∧ z' 153 = membR r u v ∧ ∀ a, a ≠ 153 → z' a = z a := by
  have g : ∀ c, 0 ≤ c ∧ c < 6 → (0 : Int) ≤ 547 + 6 * r 546 + c ∧ 547 + 6 * r 546 + c < 765 := fun c hc => by omega
  have e4 : zup (zup (zup (zup (zup (zup z 153 (547 + 6 * r 546 + 0) u) 153 (547 + 6 * r 546 + 1) v) 153 (547 + 6 * r 546 + 2) 0) 153 (547 + 6 * r 546 + 3) (-1)) 153 (547 + 6 * r 546 + 4) (-1)) 153 (547 + 6 * r 546 + 5) 0 153 546 = r 546 := by
    rw [zup_at, if_neg (by omega), zup_at, if_neg (by omega), zup_at, if_neg (by omega), zup_at, if_neg (by omega), zup_at, if_neg (by omega), zup_at, if_neg (by omega), h3]
  have i1 : inR (r 546 + 1) := inR_s (by omega)
  refine ⟨zup (zup (zup (zup (zup (zup (zup z 153 (547 + 6 * r 546 + 0) u) 153 (547 + 6 * r 546 + 1) v) 153 (547 + 6 * r 546 + 2) 0) 153 (547 + 6 * r 546 + 3) (-1)) 153 (547 + 6 * r 546 + 4) (-1)) 153 (547 + 6 * r 546 + 5) 0) 153 546 (r 546 + 1), ?_, ?_, fun a q => by rw [zup_ne q, zup_ne q, zup_ne q, zup_ne q, zup_ne q, zup_ne q, zup_ne q]⟩
  · simp only [fX6_readMember, zl, show z 153 546 = r 546 by rw [h3], if_pos (g 0 (by omega)), if_pos (g 1 (by omega)), if_pos (g 2 (by omega)), if_pos (g 3 (by omega)), if_pos (g 4 (by omega)), if_pos (g 5 (by omega)), e4, if_pos i1]
  · funext j
    rw [zup_at, zup_at, zup_at, zup_at, zup_at, zup_at, zup_at, h3]
    rfl
theorem rd_cour {u v w : Int} (h3 : z 153 = r) (h8 : 0 ≤ r 619 ∧ r 619 < 8) : ∃ z', fX6_readCourse u v w z = some z' ∧ z' 153 = courR r u v w ∧ ∀ a, a ≠ 153 → z' a = z a := by
  have g : ∀ c, 0 ≤ c ∧ c < 3 → (0 : Int) ≤ 620 + 3 * r 619 + c ∧ 620 + 3 * r 619 + c < 765 := fun c hc => by omega
  have e4 : zup (zup (zup z 153 (620 + 3 * r 619 + 0) u) 153 (620 + 3 * r 619 + 1) v) 153 (620 + 3 * r 619 + 2) w 153 619 = r 619 := by
    rw [zup_at, if_neg (by omega), zup_at, if_neg (by omega), zup_at, if_neg (by omega), h3]
  have i1 : inR (r 619 + 1) := inR_s (by omega)
  refine ⟨zup (zup (zup (zup z 153 (620 + 3 * r 619 + 0) u) 153 (620 + 3 * r 619 + 1) v) 153 (620 + 3 * r 619 + 2) w) 153 619 (r 619 + 1), ?_, ?_, fun a q => by rw [zup_ne q, zup_ne q, zup_ne q, zup_ne q]⟩
  · simp only [fX6_readCourse, zl, show z 153 619 = r 619 by rw [h3], if_pos (g 0 (by omega)), if_pos (g 1 (by omega)), if_pos (g 2 (by omega)), e4, if_pos i1]
  · funext j
    rw [zup_at, zup_at, zup_at, zup_at, h3]
    rfl
end MM

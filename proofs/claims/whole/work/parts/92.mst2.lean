/-! the model reads a statement, whole -/
section M2
variable {z : ZZ} {b : Int → Int} {L p h : Int} {r : Row}
def MR (b : Int → Int) (L : Int) (z : ZZ) (X : Option ZZ) (o : Int ⊕ (Int × Row × Int)) : Prop := (∀ x, o = .inl x → ∃ z', X = some z' ∧ z' 151 7 = x ∧ 0 ≤ x ∧ MF z z') ∧
  (∀ q r' h', o = .inr (q, r', h') → ∃ z', X = some z' ∧ MS b L q z' ∧ z' 153 = r' ∧ z' 151 14 = h' ∧ MF z z')
theorem MR_l {X : Option ZZ} {x : Int} {z' : ZZ} (h1 : X = some z') (h2 : z' 151 7 = x) (h3 : 0 ≤ x) (h4 : MF z z') : MR b L z X (.inl x) := ⟨fun y hy => by cases hy; exact ⟨z', h1, h2, h3, h4⟩, fun _ _ _ hy => by cases hy⟩
theorem MR_r {X : Option ZZ} {q h' : Int} {r' : Row} {z' : ZZ} (h1 : X = some z') (h2 : MS b L q z') (h3 : z' 153 = r') (h4 : z' 151 14 = h') (h5 : MF z z') : MR b L z X (.inr (q, r', h')) := ⟨fun y hy => by (cases hy), fun _ _ _ hy => by cases hy; exact ⟨z', h1, h2, h3, h4, h5⟩⟩
theorem MFs_153 {z' : ZZ} (f : MFs z z') : z' 153 = z 153 := f.1 153 (by decide)
theorem MFs_14 {z' : ZZ} (f : MFs z z') : z' 151 14 = z 151 14 := f.2 14 (by decide) (by decide) (by decide) (by decide) (by decide)
/-- what stands behind the word rules -/
def mRul (z4 : ZZ) : Option ZZ := (Option.bind (fX6_takeNumber (0) (40) z4) fun q5 => match q5 with | (r5, z5) => (zl (zup z5 153 (0) (r5)) fun z6 => (Option.bind (fX6_takeNumber (0) (10) z6) fun q7 => match q7 with | (r7, z7) => (zl (zup z7 153 (1) (r7)) fun z8 => (Option.bind (fX6_takeNumber (1) (200) z8) fun q9 => match q9 with | (r9, z9) => (zl (zup z9 153 (2) (r9)) fun z10 => some z10))))))
theorem b7_153 {i v : Int} (hz : ¬ z 151 7 < 0) : ¬ zup z 153 i v 151 7 < 0 := by
  rw [zup_ne (by decide)]
  exact hz
theorem mRul_bad {x : Int} (h7 : z 151 7 = x) (hx : 0 ≤ x) : ∃ z', mRul z = some z' ∧ z' 151 7 = x ∧ ∀ a, a ≠ 153 → z' a = z a := by
  have hz : ¬ z 151 7 < 0 := by omega
  refine ⟨zup (zup (zup z 153 0 0) 153 1 0) 153 2 1, ?_, by rw [zup_ne (by decide), zup_ne (by decide), zup_ne (by decide)]; exact h7, fun a q => by rw [zup_ne q, zup_ne q, zup_ne q]⟩
  simp only [mRul, zl, tn_bad hz, Option.bind_some, tn_bad (b7_153 hz), tn_bad (b7_153 (b7_153 hz))]
theorem mRul_ok (hT : TXT b L) (hM : MS b L p z) (h0 : 0 ≤ p ∧ p ≤ L) (h3 : z 153 = r) :
    (∀ x, n3 b L 0 40 0 10 1 200 p = .inl x → ∃ z', mRul z = some z' ∧ z' 151 7 = x ∧ 0 ≤ x ∧ MF z z') ∧
    (∀ u v w q, n3 b L 0 40 0 10 1 200 p = .inr (u, v, w, q) → ∃ z', mRul z = some z' ∧ MS b L q z' ∧ z' 153 = rulesR r u v w ∧ z' 151 14 = z 151 14 ∧ MF z z') := by
  obtain ⟨A1, B1⟩ := tn (lo := 0) (hi := 40) hT hM h0
  have k : ∀ (y : ZZ) (i v : Int) (a : Nat), a ≠ 153 → zup y 153 i v a = y a := fun y i v a q => zup_ne q
  unfold n3
  cases e1 : num b L 0 40 p with
  | inl x =>
    obtain ⟨g1, g2⟩ := A1 x e1
    refine ⟨fun y hy => ?_, fun _ _ _ _ hy => by cases hy⟩
    cases hy
    have hz := b7 (z := z) g2
    refine ⟨zup (zup (zup (zup z 151 7 x) 153 0 0) 153 1 0) 153 2 1, ?_, by rw [zup_ne (by decide), zup_ne (by decide), zup_ne (by decide), zup_at, if_pos rfl], g2, MF_tr (MF_s MFs_7) (MF_153 (fun a q => by rw [zup_ne q, zup_ne q, zup_ne q]))⟩
    simp only [mRul, zl, g1, Option.bind_some, tn_bad (b7_153 hz), tn_bad (b7_153 (b7_153 hz))]
  | inr y =>
    obtain ⟨v1, p1⟩ := y
    obtain ⟨z1, k1, m1, f1⟩ := B1 v1 p1 e1
    have ok1 := num_ok hT h0 e1
    have m1' := MS_153 (z' := zup z1 153 0 v1) m1 (k z1 0 v1)
    obtain ⟨A2, B2⟩ := tn (lo := 0) (hi := 10) hT m1' (by omega)
    dsimp only
    cases e2 : num b L 0 10 p1 with
    | inl x =>
      obtain ⟨g1, g2⟩ := A2 x e2
      refine ⟨fun y hy => ?_, fun _ _ _ _ hy => by cases hy⟩
      cases hy
      have hz := b7 (z := zup z1 153 0 v1) g2
      refine ⟨zup (zup (zup (zup z1 153 0 v1) 151 7 x) 153 1 0) 153 2 1, ?_, by rw [zup_ne (by decide), zup_ne (by decide), zup_at, if_pos rfl], g2, MF_tr (MF_s f1) (MF_tr (MF_153 (k z1 0 v1)) (MF_tr (MF_s MFs_7) (MF_153 (fun a q => by rw [zup_ne q, zup_ne q]))))⟩
      simp only [mRul, zl, k1, Option.bind_some, g1, tn_bad (b7_153 hz)]
    | inr y =>
      obtain ⟨v2, p2⟩ := y
      obtain ⟨z2, k2, m2, f2⟩ := B2 v2 p2 e2
      have ok2 := num_ok hT (by omega) e2
      have m2' := MS_153 (z' := zup z2 153 1 v2) m2 (k z2 1 v2)
      obtain ⟨A3, B3⟩ := tn (lo := 1) (hi := 200) hT m2' (by omega)
      dsimp only
      cases e3 : num b L 1 200 p2 with
      | inl x =>
        obtain ⟨g1, g2⟩ := A3 x e3
        refine ⟨fun y hy => ?_, fun _ _ _ _ hy => by cases hy⟩
        cases hy
        refine ⟨zup (zup (zup z2 153 1 v2) 151 7 x) 153 2 1, ?_, by rw [zup_ne (by decide), zup_at, if_pos rfl], g2, MF_tr (MF_s f1) (MF_tr (MF_153 (k z1 0 v1)) (MF_tr (MF_s f2) (MF_tr (MF_153 (k z2 1 v2)) (MF_tr (MF_s MFs_7) (MF_153 (k _ 2 1))))))⟩
        simp only [mRul, zl, k1, Option.bind_some, k2, g1]
      | inr y =>
        obtain ⟨v3, p3⟩ := y
        obtain ⟨z3, k3, m3, f3⟩ := B3 v3 p3 e3
        refine ⟨fun _ hy => (by cases hy), fun u v w q hy => ?_⟩
        cases hy
        refine ⟨zup z3 153 2 v3, ?_, MS_153 m3 (k z3 2 v3), ?_, ?_, MF_tr (MF_s f1) (MF_tr (MF_153 (k z1 0 v1)) (MF_tr (MF_s f2) (MF_tr (MF_153 (k z2 1 v2)) (MF_tr (MF_s f3) (MF_153 (k z3 2 v3))))))⟩
        · simp only [mRul, zl, k1, Option.bind_some, k2, k3]
        · funext j
          rw [zup_at, MFs_153 f3, zup_at, MFs_153 f2, zup_at, MFs_153 f1, h3]
          rfl
        · rw [zup_ne (by decide), MFs_14 f3, zup_ne (by decide), MFs_14 f2, zup_ne (by decide), MFs_14 f1]
theorem m_stm (hT : TXT b L) (hM : MS b L p z) (h0 : 0 ≤ p ∧ p ≤ L) (h3 : z 153 = r) (h14 : z 151 14 = h) (hh : h = 0 ∨ h = 1) (hP : PR r) : MR b L z (fX6_readStatement z) (stm b L p r h) := by
  have hL := hT.2.1
  have hn := hP.1
  unfold IHn at hn
  obtain ⟨s1, s2⟩ := tS_ok hT h0
  obtain ⟨t1, t2, -, -⟩ := tE_ok hT (s := tS b p) (by omega)
  have W0 := m_begins (w := 1000127) (v := if h = 0 then 1 else 0) hT hM h0 wW1000127
  have W1 := m_begins (w := 1000128) (v := if r 4 < 8 then 1 else 0) hT hM h0 wW1000128
  have W2 := m_begins (w := 1000129) (v := if r 470 < 15 then 1 else 0) hT hM h0 wW1000129
  have W3 := m_begins (w := 1000130) (v := if r 546 < 12 then 1 else 0) hT hM h0 wW1000130
  have W4 := m_begins (w := 1000131) (v := if r 619 < 8 then 1 else 0) hT hM h0 wW1000131
  rw [wd_27] at W0
  rw [wd_28] at W1
  rw [wd_29] at W2
  rw [wd_30] at W3
  rw [wd_31] at W4
  have r0 : fX6_readStatement z = fX6_readStatement_b15 (if h = 0 then 1 else 0) z := by
    unfold fX6_readStatement
    rw [h14]
    split <;> rfl
  unfold stm
  generalize hsg : tS b p = s at *
  generalize hte : tE b L s = e at *
  have h4 := hM.2.1
  rw [hsg] at h4
  rw [r0]
  by_cases w0 : isWd b s e 1000100
  · have k0 : wK b s e = 0 := if_pos w0
    rw [if_pos k0]
    by_cases c0 : h = 0
    · rw [if_pos c0]
      rw [if_pos c0] at W0
      rw [if_pos c0]
      obtain ⟨z1, g1, g2, g3⟩ := (W0.2 w0).2 (by decide)
      have f4 : MF z (zup z1 151 14 1) := MF_tr (MF_s g3) MF_14
      have r1 : fX6_readStatement_b15 1 z = mRul (zup z1 151 14 1) := by
        unfold fX6_readStatement_b15
        rw [g1]
        rfl
      rw [r1]
      obtain ⟨A, B⟩ := mRul_ok (r := r) hT (MS_14 (v := 1) g2) (by omega) (by rw [zup_ne (by decide), MFs_153 g3, h3])
      cases en : n3 b L 0 40 0 10 1 200 e with
      | inl x =>
        obtain ⟨z', a1, a2, a3, a4⟩ := A x en
        exact MR_l a1 a2 a3 (MF_tr f4 a4)
      | inr o =>
        obtain ⟨u, v, t, q⟩ := o
        obtain ⟨z', a1, a2, a3, a4, a5⟩ := B u v t q en
        exact MR_r a1 a2 a3 (by rw [a4, zup_at, if_pos rfl]) (MF_tr f4 a5)
    · rw [if_neg c0]
      rw [if_neg c0] at W0
      rw [if_neg c0]
      have g1 := (W0.2 w0).1 rfl
      have r1 : fX6_readStatement_b15 0 z = mRul (zup (zup z 151 7 s) 151 14 1) := by
        unfold fX6_readStatement_b15
        rw [g1]
        rfl
      rw [r1]
      obtain ⟨z', a1, a2, a3⟩ := mRul_bad (z := zup (zup z 151 7 s) 151 14 1) (x := s) (by rw [zup_at, if_neg (by decide), zup_at, if_pos rfl]) (by omega)
      exact MR_l a1 a2 (by omega) (MF_tr (MF_s MFs_7) (MF_tr MF_14 (MF_153 a3)))
  · have r1 : fX6_readStatement_b15 (if h = 0 then 1 else 0) z = fX6_readStatement_b88 (if r 4 < 8 then 1 else 0) z := by
      unfold fX6_readStatement_b15
      rw [W0.1 w0]
      simp only [Option.bind_some, if_true]
      rw [h3]
      split <;> rfl
    rw [r1]
    have d0 : wK b s e = if isWd b s e 1000101 then 1 else if isWd b s e 1000102 then 2 else if isWd b s e 1000103 then 3 else if isWd b s e 1000104 then 4 else -1 := if_neg w0
    by_cases w1 : isWd b s e 1000101
    · rw [if_pos w1] at d0
      rw [if_neg (show ¬ wK b s e = 0 by omega), if_pos d0]
      by_cases c0 : r 4 < 8
      · rw [if_pos c0]
        rw [if_pos c0] at W1
        rw [if_pos c0]
        obtain ⟨z1, g1, g2, g3⟩ := (W1.2 w1).2 (by decide)
        obtain ⟨A, B⟩ := m_n3 (l1 := 3) (h1 := 30) (l2 := 0) (h2 := 5) (l3 := 1) (h3 := 60) hT g2 (by omega)
        cases en : n3 b L 3 30 0 5 1 60 e with
        | inl x =>
          obtain ⟨u, v, w, y1, y2, y3, a1, a2, a3, a4, a5, a6⟩ := A x en
          refine MR_l (z' := y3) ?_ a4 a5 (MF_tr (MF_s g3) (MF_s a6))
          simp only [fX6_readStatement_b88, g1, Option.bind_some, if_neg (show ¬ (1 : Int) = 0 by decide), a1, a2, a3, m_good, bI_f (show ¬ y3 151 7 < 0 by omega), if_true]
        | inr o =>
          obtain ⟨u, v, w, q⟩ := o
          obtain ⟨y1, y2, y3, a1, a2, a3, a4, a5⟩ := B u v w q en
          obtain ⟨y4, d1, d2, d3⟩ := rd_wall (z := y3) (r := r) (u := u) (v := v) (w := w) (by rw [MFs_153 a5, MFs_153 g3, h3]) (by omega)
          refine MR_r (z' := y4) ?_ (MS_153 a4 d3) d2 (by rw [d3 151 (by decide), MFs_14 a5, MFs_14 g3, h14]) (MF_tr (MF_s g3) (MF_tr (MF_s a5) (MF_153 d3)))
          simp only [fX6_readStatement_b88, g1, Option.bind_some, if_neg (show ¬ (1 : Int) = 0 by decide), a1, a2, a3, m_good, bI_t (MS_lt a4), d1]
      · rw [if_neg c0]
        rw [if_neg c0] at W1
        rw [if_neg c0]
        have g1 := (W1.2 w1).1 rfl
        have hz := b7 (z := z) (x := s) (by omega)
        refine MR_l (z' := zup z 151 7 s) ?_ (by rw [zup_at, if_pos rfl]) (by omega) (MF_s MFs_7)
        simp only [fX6_readStatement_b88, g1, Option.bind_some, if_neg (show ¬ (1 : Int) = 0 by decide), tn_bad hz, m_good, bI_f hz, if_true]
    · have r2 : fX6_readStatement_b88 (if r 4 < 8 then 1 else 0) z = fX6_readStatement_b155 (if r 470 < 15 then 1 else 0) z := by
        unfold fX6_readStatement_b88
        rw [W1.1 w1]
        simp only [Option.bind_some, if_true]
        rw [h3]
        split <;> rfl
      rw [r2]
      rw [if_neg w1] at d0
      by_cases w2 : isWd b s e 1000102
      · rw [if_pos w2] at d0
        rw [if_neg (show ¬ wK b s e = 0 by omega), if_neg (show ¬ wK b s e = 1 by omega), if_pos d0]
        by_cases c0 : r 470 < 15
        · rw [if_pos c0]
          rw [if_pos c0] at W2
          rw [if_pos c0]
          obtain ⟨z1, g1, g2, g3⟩ := (W2.2 w2).2 (by decide)
          obtain ⟨A, B⟩ := m_n2 (l1 := 0) (h1 := 3) (l2 := 1) (h2 := 365) hT g2 (by omega)
          cases en : n2 b L 0 3 1 365 e with
          | inl x =>
            obtain ⟨u, v, y1, y2, a1, a2, a4, a5, a6⟩ := A x en
            refine MR_l (z' := y2) ?_ a4 a5 (MF_tr (MF_s g3) (MF_s a6))
            simp only [fX6_readStatement_b155, g1, Option.bind_some, if_neg (show ¬ (1 : Int) = 0 by decide), a1, a2, m_good, bI_f (show ¬ y2 151 7 < 0 by omega), if_true]
          | inr o =>
            obtain ⟨u, v, q⟩ := o
            obtain ⟨y1, y2, a1, a2, a4, a5⟩ := B u v q en
            obtain ⟨y4, d1, d2, d3⟩ := rd_harn (z := y2) (r := r) (u := u) (v := v) (by rw [MFs_153 a5, MFs_153 g3, h3]) (by omega)
            refine MR_r (z' := y4) ?_ (MS_153 a4 d3) d2 (by rw [d3 151 (by decide), MFs_14 a5, MFs_14 g3, h14]) (MF_tr (MF_s g3) (MF_tr (MF_s a5) (MF_153 d3)))
            simp only [fX6_readStatement_b155, g1, Option.bind_some, if_neg (show ¬ (1 : Int) = 0 by decide), a1, a2, m_good, bI_t (MS_lt a4), d1]
        · rw [if_neg c0]
          rw [if_neg c0] at W2
          rw [if_neg c0]
          have g1 := (W2.2 w2).1 rfl
          have hz := b7 (z := z) (x := s) (by omega)
          refine MR_l (z' := zup z 151 7 s) ?_ (by rw [zup_at, if_pos rfl]) (by omega) (MF_s MFs_7)
          simp only [fX6_readStatement_b155, g1, Option.bind_some, if_neg (show ¬ (1 : Int) = 0 by decide), tn_bad hz, m_good, bI_f hz, if_true]
      · have r3 : fX6_readStatement_b155 (if r 470 < 15 then 1 else 0) z = fX6_readStatement_b214 (if r 546 < 12 then 1 else 0) z := by
          unfold fX6_readStatement_b155
          rw [W2.1 w2]
          simp only [Option.bind_some, if_true]
          rw [h3]
          split <;> rfl
        rw [r3]
        rw [if_neg w2] at d0
        by_cases w3 : isWd b s e 1000103
        · rw [if_pos w3] at d0
          rw [if_neg (show ¬ wK b s e = 0 by omega), if_neg (show ¬ wK b s e = 1 by omega), if_neg (show ¬ wK b s e = 2 by omega), if_pos d0]
          by_cases c0 : r 546 < 12
          · rw [if_pos c0]
            rw [if_pos c0] at W3
            rw [if_pos c0]
            obtain ⟨z1, g1, g2, g3⟩ := (W3.2 w3).2 (by decide)
            obtain ⟨A, B⟩ := m_n2 (l1 := 0) (h1 := 3) (l2 := 0) (h2 := 5) hT g2 (by omega)
            cases en : n2 b L 0 3 0 5 e with
            | inl x =>
              obtain ⟨u, v, y1, y2, a1, a2, a4, a5, a6⟩ := A x en
              refine MR_l (z' := y2) ?_ a4 a5 (MF_tr (MF_s g3) (MF_s a6))
              simp only [fX6_readStatement_b214, g1, Option.bind_some, if_neg (show ¬ (1 : Int) = 0 by decide), a1, a2, m_good, bI_f (show ¬ y2 151 7 < 0 by omega), if_true]
            | inr o =>
              obtain ⟨u, v, q⟩ := o
              obtain ⟨y1, y2, a1, a2, a4, a5⟩ := B u v q en
              obtain ⟨y4, d1, d2, d3⟩ := rd_memb (z := y2) (r := r) (u := u) (v := v) (by rw [MFs_153 a5, MFs_153 g3, h3]) (by omega)
              refine MR_r (z' := y4) ?_ (MS_153 a4 d3) d2 (by rw [d3 151 (by decide), MFs_14 a5, MFs_14 g3, h14]) (MF_tr (MF_s g3) (MF_tr (MF_s a5) (MF_153 d3)))
              simp only [fX6_readStatement_b214, g1, Option.bind_some, if_neg (show ¬ (1 : Int) = 0 by decide), a1, a2, m_good, bI_t (MS_lt a4), d1]
          · rw [if_neg c0]
            rw [if_neg c0] at W3
            rw [if_neg c0]
            have g1 := (W3.2 w3).1 rfl
            have hz := b7 (z := z) (x := s) (by omega)
            refine MR_l (z' := zup z 151 7 s) ?_ (by rw [zup_at, if_pos rfl]) (by omega) (MF_s MFs_7)
            simp only [fX6_readStatement_b214, g1, Option.bind_some, if_neg (show ¬ (1 : Int) = 0 by decide), tn_bad hz, m_good, bI_f hz, if_true]
        · have r4 : fX6_readStatement_b214 (if r 546 < 12 then 1 else 0) z = fX6_readStatement_b271 (if r 619 < 8 then 1 else 0) z := by
            unfold fX6_readStatement_b214
            rw [W3.1 w3]
            simp only [Option.bind_some, if_true]
            rw [h3]
            split <;> rfl
          rw [r4]
          rw [if_neg w3] at d0
          by_cases w4 : isWd b s e 1000104
          · rw [if_pos w4] at d0
            rw [if_neg (show ¬ wK b s e = 0 by omega), if_neg (show ¬ wK b s e = 1 by omega), if_neg (show ¬ wK b s e = 2 by omega), if_neg (show ¬ wK b s e = 3 by omega), if_pos d0]
            by_cases c0 : r 619 < 8
            · rw [if_pos c0]
              rw [if_pos c0] at W4
              rw [if_pos c0]
              obtain ⟨z1, g1, g2, g3⟩ := (W4.2 w4).2 (by decide)
              obtain ⟨A, B⟩ := m_n3 (l1 := 1) (h1 := 5) (l2 := 1) (h2 := 12) (l3 := 0) (h3 := 200) hT g2 (by omega)
              cases en : n3 b L 1 5 1 12 0 200 e with
              | inl x =>
                obtain ⟨u, v, w, y1, y2, y3, a1, a2, a3, a4, a5, a6⟩ := A x en
                refine MR_l (z' := y3) ?_ a4 a5 (MF_tr (MF_s g3) (MF_s a6))
                simp only [fX6_readStatement_b271, g1, Option.bind_some, if_neg (show ¬ (1 : Int) = 0 by decide), a1, a2, a3, m_good, bI_f (show ¬ y3 151 7 < 0 by omega), if_true]
              | inr o =>
                obtain ⟨u, v, w, q⟩ := o
                obtain ⟨y1, y2, y3, a1, a2, a3, a4, a5⟩ := B u v w q en
                obtain ⟨y4, d1, d2, d3⟩ := rd_cour (z := y3) (r := r) (u := u) (v := v) (w := w) (by rw [MFs_153 a5, MFs_153 g3, h3]) (by omega)
                refine MR_r (z' := y4) ?_ (MS_153 a4 d3) d2 (by rw [d3 151 (by decide), MFs_14 a5, MFs_14 g3, h14]) (MF_tr (MF_s g3) (MF_tr (MF_s a5) (MF_153 d3)))
                simp only [fX6_readStatement_b271, g1, Option.bind_some, if_neg (show ¬ (1 : Int) = 0 by decide), a1, a2, a3, m_good, bI_t (MS_lt a4), d1]
            · rw [if_neg c0]
              rw [if_neg c0] at W4
              rw [if_neg c0]
              have g1 := (W4.2 w4).1 rfl
              have hz := b7 (z := z) (x := s) (by omega)
              refine MR_l (z' := zup z 151 7 s) ?_ (by rw [zup_at, if_pos rfl]) (by omega) (MF_s MFs_7)
              simp only [fX6_readStatement_b271, g1, Option.bind_some, if_neg (show ¬ (1 : Int) = 0 by decide), tn_bad hz, m_good, bI_f hz, if_true]
          · rw [if_neg w4] at d0
            rw [if_neg (show ¬ wK b s e = 0 by omega), if_neg (show ¬ wK b s e = 1 by omega), if_neg (show ¬ wK b s e = 2 by omega), if_neg (show ¬ wK b s e = 3 by omega), if_neg (show ¬ wK b s e = 4 by omega)]
            refine MR_l (z' := zup z 151 7 s) ?_ (by rw [zup_at, if_pos rfl]) (by omega) (MF_s MFs_7)
            unfold fX6_readStatement_b271
            rw [W4.1 w4]
            simp only [Option.bind_some, if_true]
            rw [m_fail_g (MS_lt hM), h4]
            rfl
end M2

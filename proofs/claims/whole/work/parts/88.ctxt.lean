/-! words and numbers, as the class reads them -/
abbrev isWd (b : Int → Int) (s e : Int) (w : Nat) : Prop := e - s = zlen w ∧ ∀ k : Nat, k < (zlen w).toNat → b (s + k) = zKC (w + 100) k
def wK (b : Int → Int) (s e : Int) : Int := if isWd b s e 1000100 then 0 else if isWd b s e 1000101 then 1 else if isWd b s e 1000102 then 2 else if isWd b s e 1000103 then 3 else if isWd b s e 1000104 then 4 else -1
def num (b : Int → Int) (L lo hi p : Int) : Int ⊕ (Int × Int) := if isDg (b (tS b p)) ∧ tE b L (tS b p) - tS b p ≤ 3 ∧ lo ≤ tV b (tS b p) (tE b L (tS b p)) ∧ tV b (tS b p) (tE b L (tS b p)) ≤ hi then .inr (tV b (tS b p) (tE b L (tS b p)), tE b L (tS b p)) else .inl (tS b p)
def n2 (b : Int → Int) (L l1 h1 l2 h2 p : Int) : Int ⊕ (Int × Int × Int) := match num b L l1 h1 p with
  | .inl x => .inl x
  | .inr (v1, p1) => match num b L l2 h2 p1 with
    | .inl x => .inl x
    | .inr (v2, p2) => .inr (v1, v2, p2)
def n3 (b : Int → Int) (L l1 h1 l2 h2 l3 h3 p : Int) : Int ⊕ (Int × Int × Int × Int) := match num b L l1 h1 p with
  | .inl x => .inl x
  | .inr (v1, p1) => match num b L l2 h2 p1 with
    | .inl x => .inl x
    | .inr (v2, p2) => match num b L l3 h3 p2 with
      | .inl x => .inl x
      | .inr (v3, p3) => .inr (v1, v2, v3, p3)
section NU
variable {z : ZZ} {b : Int → Int} {L p s e : Int}
theorem num_ok {lo hi v q : Int} (hT : TXT b L) (h0 : 0 ≤ p ∧ p ≤ L) (h : num b L lo hi p = .inr (v, q)) : p < q ∧ q ≤ L ∧ lo ≤ v ∧ v ≤ hi := by
  have hL := hT.2.1
  obtain ⟨s1, s2⟩ := tS_ok hT h0
  unfold num at h
  split at h
  · next g =>
    cases h
    have hi := in_L hT (p := tS b p) (by omega)
    obtain ⟨t1, t2, t3, -⟩ := tE_ok hT (s := tS b p) (by omega)
    have := t3 hi.2
    exact ⟨by omega, t2, g.2.2.1, g.2.2.2⟩
  · cases h
theorem n2_ok {l1 h1 l2 h2 v w q : Int} (hT : TXT b L) (h0 : 0 ≤ p ∧ p ≤ L) (h : n2 b L l1 h1 l2 h2 p = .inr (v, w, q)) : p < q ∧ q ≤ L ∧ (l1 ≤ v ∧ v ≤ h1) ∧ l2 ≤ w ∧ w ≤ h2 := by
  unfold n2 at h
  cases e1 : num b L l1 h1 p with
  | inl x => rw [e1] at h; cases h
  | inr y =>
    obtain ⟨v1, p1⟩ := y
    rw [e1] at h
    have g1 := num_ok hT h0 e1
    dsimp only at h
    cases e2 : num b L l2 h2 p1 with
    | inl x => rw [e2] at h; cases h
    | inr y =>
      obtain ⟨v2, p2⟩ := y
      rw [e2] at h
      have g2 := num_ok hT (by omega) e2
      cases h
      exact ⟨by omega, g2.2.1, g1.2.2, g2.2.2⟩
theorem n3_ok {l1 h1 l2 h2 l3 h3 v w u q : Int} (hT : TXT b L) (h0 : 0 ≤ p ∧ p ≤ L) (h : n3 b L l1 h1 l2 h2 l3 h3 p = .inr (v, w, u, q)) : p < q ∧ q ≤ L ∧ (l1 ≤ v ∧ v ≤ h1) ∧ (l2 ≤ w ∧ w ≤ h2) ∧ l3 ≤ u ∧ u ≤ h3 := by
  unfold n3 at h
  cases e1 : num b L l1 h1 p with
  | inl x => rw [e1] at h; cases h
  | inr y =>
    obtain ⟨v1, p1⟩ := y
    rw [e1] at h
    have g1 := num_ok hT h0 e1
    dsimp only at h
    cases e2 : num b L l2 h2 p1 with
    | inl x => rw [e2] at h; cases h
    | inr y =>
      obtain ⟨v2, p2⟩ := y
      rw [e2] at h
      have g2 := num_ok hT (by omega) e2
      dsimp only at h
      cases e3 : num b L l3 h3 p2 with
      | inl x => rw [e3] at h; cases h
      | inr y =>
        obtain ⟨v3, p3⟩ := y
        rw [e3] at h
        have g3 := num_ok hT (by omega) e3
        cases h
        exact ⟨by omega, g3.2.1, g1.2.2, g2.2.2, g3.2.2⟩
theorem zlen_ok {w : Nat} (hw : isW w) : 0 ≤ zlen w ∧ zlen w < 10 := by
  have h := (isW_all w hw).2.2.2.1
  unfold zlen
  omega
theorem c_tokenIs {w : Nat} (hT : TXT b L) (h : TC b L z) (hw : isW w) (h5 : z 16 5 = s) (h6 : z 16 6 = e) (h0 : 0 ≤ s ∧ s ≤ L) (h1 : 0 ≤ e ∧ e ≤ L) : fX3_tokenIs w z = some (bI (isWd b s e w)) := by
  have hL := hT.2.1
  have hl := zlen_ok hw
  unfold fX3_tokenIs
  rw [h5, h6, if_pos (inR_s (by omega))]
  by_cases q : e - s = zlen w
  · rw [if_pos q]
    have key := lp_find (step := fun q => fX3_tokenIs_s20 w q z) (fun i => i) (fun i => ¬ b (s + i) = zKC (w + 100) i) (fun _ => Sum.inr 0) (Sum.inl ()) (zlen w) (zlen w).toNat 0 FU (FU_lt (by omega)) (by omega) (fun i a c d => by
      show fX3_tokenIs_s20 w i z = _
      unfold fX3_tokenIs_s20
      rw [if_pos c, h5, if_pos (inR_s (by omega)), c_byteAt hT h]
      simp only [Option.bind_some]
      rw [if_pos ⟨a, c⟩, if_pos (Classical.not_not.mp d), if_pos (inR_s (by omega))]) (fun i a c d => by
      show fX3_tokenIs_s20 w i z = _
      unfold fX3_tokenIs_s20
      rw [if_pos c, h5, if_pos (inR_s (by omega)), c_byteAt hT h]
      simp only [Option.bind_some]
      rw [if_pos ⟨a, c⟩, if_neg d]) (by
      show fX3_tokenIs_s20 w (zlen w) z = _
      unfold fX3_tokenIs_s20
      rw [if_neg (by omega)])
    rcases key with ⟨i, a, c, d, -, f⟩ | ⟨a, f⟩
    · have f' : zlp (fun q => fX3_tokenIs_s20 w q z) FU 0 = some (.inr 0) := by
        rw [f]
      rw [f', bI_f (fun g => d (by
        have := g.2 i.toNat (by omega)
        rw [Int.toNat_of_nonneg a] at this
        exact this))]
      rfl
    · have f' : zlp (fun q => fX3_tokenIs_s20 w q z) FU 0 = some (.inl ()) := by
        rw [f]
      rw [f', bI_t ⟨q, fun k c => Classical.not_not.mp (a k (by omega) (by omega))⟩]
      rfl
  · rw [if_neg q, bI_f (fun g => q g.1)]
theorem c_kind (hT : TXT b L) (h : TC b L z) (h5 : z 16 5 = s) (h6 : z 16 6 = e) (h0 : 0 ≤ s ∧ s ≤ L) (h1 : 0 ≤ e ∧ e ≤ L) : fX3_kindOfToken z = some (wK b s e) := by
  have st : ∀ (i : Int) (w : Nat), 0 ≤ i ∧ i < 5 → fX3_wordOf i z = some w → isW w → fX3_kindOfToken_s2 i z = if isWd b s e w then some (.inr (.inr i)) else some (.inl (i + 1)) := fun i w hi hw hW => by
    unfold fX3_kindOfToken_s2
    rw [if_pos hi.2, hw]
    simp only [Option.bind_some, c_tokenIs hT h hW h5 h6 h0 h1, ite_bI]
    rw [if_pos (inR_s (by omega))]
  have s0 := st 0 1000100 (by omega) rfl wW1000100
  have s1 := st 1 1000101 (by omega) rfl wW1000101
  have s2 := st 2 1000102 (by omega) rfl wW1000102
  have s3 := st 3 1000103 (by omega) rfl wW1000103
  have s4 := st 4 1000104 (by omega) rfl wW1000104
  have s5 : fX3_kindOfToken_s2 5 z = some (.inr (.inl ())) := by
    unfold fX3_kindOfToken_s2
    rw [if_neg (by decide)]
  unfold fX3_kindOfToken wK
  rw [show FU = 99994 + 1 + 1 + 1 + 1 + 1 + 1 from rfl]
  by_cases q0 : isWd b s e 1000100
  · rw [if_pos q0] at s0
    rw [zlp_end (f := fun q => fX3_kindOfToken_s2 q z) s0, if_pos q0]
    rfl
  · rw [if_neg q0] at s0
    rw [zlp_next (f := fun q => fX3_kindOfToken_s2 q z) s0, if_neg q0, show (0 : Int) + 1 = 1 from rfl]
    by_cases q1 : isWd b s e 1000101
    · rw [if_pos q1] at s1
      rw [zlp_end (f := fun q => fX3_kindOfToken_s2 q z) s1, if_pos q1]
      rfl
    · rw [if_neg q1] at s1
      rw [zlp_next (f := fun q => fX3_kindOfToken_s2 q z) s1, if_neg q1, show (1 : Int) + 1 = 2 from rfl]
      by_cases q2 : isWd b s e 1000102
      · rw [if_pos q2] at s2
        rw [zlp_end (f := fun q => fX3_kindOfToken_s2 q z) s2, if_pos q2]
        rfl
      · rw [if_neg q2] at s2
        rw [zlp_next (f := fun q => fX3_kindOfToken_s2 q z) s2, if_neg q2, show (2 : Int) + 1 = 3 from rfl]
        by_cases q3 : isWd b s e 1000103
        · rw [if_pos q3] at s3
          rw [zlp_end (f := fun q => fX3_kindOfToken_s2 q z) s3, if_pos q3]
          rfl
        · rw [if_neg q3] at s3
          rw [zlp_next (f := fun q => fX3_kindOfToken_s2 q z) s3, if_neg q3, show (3 : Int) + 1 = 4 from rfl]
          by_cases q4 : isWd b s e 1000104
          · rw [if_pos q4] at s4
            rw [zlp_end (f := fun q => fX3_kindOfToken_s2 q z) s4, if_pos q4]
            rfl
          · rw [if_neg q4] at s4
            rw [zlp_next (f := fun q => fX3_kindOfToken_s2 q z) s4, if_neg q4, show (4 : Int) + 1 = 5 from rfl, zlp_end (f := fun q => fX3_kindOfToken_s2 q z) s5]
            rfl
theorem c_number (hT : TXT b L) (h : TC b L z) (h5 : z 16 5 = s) (h6 : z 16 6 = tE b L s) (h0 : 0 ≤ s ∧ s ≤ L) : fX3_numberOfToken z = some (if isDg (b s) ∧ tE b L s - s ≤ 3 then tV b s (tE b L s) else -1) := by
  have hL := hT.2.1
  obtain ⟨t1, t2, t3, t4⟩ := tE_ok hT h0
  unfold fX3_numberOfToken
  rw [h5, h6, c_byteAt hT h]
  simp only [Option.bind_some, c_isDigit, ite_bI]
  by_cases q1 : isDg (b s)
  · rw [if_pos q1, if_pos (inR_s (by omega))]
    by_cases q2 : tE b L s - s ≤ 3
    · rw [if_neg (by omega), if_pos ⟨q1, q2⟩]
      have key := (lp_forI (step := fun q => fX3_numberOfToken_s36 q.1 q.2 z) (fun i v => (v, i)) (fun k v => v * 10 + b k - 48) (fun v => v) (fun i v => 0 ≤ v ∧ (i = s → v = 0) ∧ (i ≤ s + 1 → v ≤ 9) ∧ (i ≤ s + 2 → v ≤ 99) ∧ v ≤ 999) s (tE b L s) 0 t1 (by omega) ⟨by omega, fun _ => rfl, by omega, by omega, by omega⟩ (fun i v a c hP => by
        have hd := t4 q1 i a c
        refine ⟨?_, by omega, fun w => by omega, fun w => ?_, fun w => ?_, ?_⟩
        · show fX3_numberOfToken_s36 v i z = _
          unfold fX3_numberOfToken_s36
          rw [h6, if_pos c, c_byteAt hT h]
          simp only [Option.bind_some]
          rw [if_pos (inR_s (by omega)), if_pos (inR_s (by omega))]
        · have := hP.2.1 (by omega)
          omega
        · have := hP.2.2.1 (by omega)
          omega
        · have := hP.2.2.2.1 (by omega)
          omega) (fun v hP => by
        show fX3_numberOfToken_s36 v (tE b L s) z = _
        unfold fX3_numberOfToken_s36
        rw [h6, if_neg (by omega)])).1
      rw [key]
      rfl
    · rw [if_pos (by omega), if_neg (fun g => q2 g.2)]
  · rw [if_neg q1, if_neg (fun g => q1 g.1)]
theorem c_range {w i v : Int} (hw : 0 ≤ w ∧ w ≤ 4) (hi : 0 ≤ i ∧ i < 3) : fX3_isInRange w i v z = some (bI (zKC 1000002 (w * 3 + i) ≤ v ∧ v ≤ zKC 1000003 (w * 3 + i))) := by
  unfold fX3_isInRange
  rw [if_pos (inR_s (by omega)), if_neg (by omega), if_pos (by omega), if_pos (by omega)]
  by_cases h1 : v < zKC 1000002 (w * 3 + i)
  · rw [if_pos h1, bI_f (by omega)]
  · rw [if_neg h1]
    by_cases h2 : zKC 1000003 (w * 3 + i) < v
    · rw [if_pos h2, bI_f (by omega)]
    · rw [if_neg h2, bI_t (by omega)]
def CFm (z z' : ZZ) : Prop := (∀ a, a ≠ 16 → a ≠ 31 → z' a = z a) ∧ ∀ j, j ≠ 5 → j ≠ 6 → z' 16 j = z 16 j
theorem CFm_tr {z z' z'' : ZZ} (h : CFm z z') (h2 : CFm z' z'') : CFm z z'' := ⟨fun a p q => (h2.1 a p q).trans (h.1 a p q), fun j p q => (h2.2 j p q).trans (h.2 j p q)⟩
theorem TC_fr {z z' : ZZ} (h : TC b L z) (f : CFm z z') : TC b L z' := by
  refine ⟨by rw [f.2 1 (by decide) (by decide)]; exact h.1, fun k a c => ?_⟩
  rw [f.1 30 (by decide) (by decide)]
  exact h.2 k a c
/-- one number -/
theorem c_num {w i n lo hi : Int} (hT : TXT b L) (h : TC b L z) (h6 : z 16 6 = p) (h0 : 0 ≤ p ∧ p ≤ L) (hw : 0 ≤ w ∧ w ≤ 4) (hn : ∀ y : ZZ, fX3_numbersOf w y = some n) (hn3 : n ≤ 3) (hi' : 0 ≤ i ∧ i < n) (hlo : zKC 1000002 (w * 3 + i) = lo) (hhi : zKC 1000003 (w * 3 + i) = hi) (hlo0 : 0 ≤ lo) :
    (∀ x, num b L lo hi p = .inl x → ∃ z', fX3_readStatement_s26 w i z = some (.inr (.inr (0, z'))) ∧ z' 16 5 = x ∧ CFm z z') ∧
    (∀ v q, num b L lo hi p = .inr (v, q) → ∃ z', fX3_readStatement_s26 w i z = some (.inl (i + 1, z')) ∧ z' 16 6 = q ∧ z' 31 i = v ∧ (∀ j, j ≠ i → z' 31 j = z 31 j) ∧ CFm z z') := by
  have hL := hT.2.1
  obtain ⟨s1, s2⟩ := tS_ok hT h0
  have ht := c_tok hT h h6 h0
  unfold num
  generalize tS b p = s at *
  have f1 : CFm z (zup (zup z 16 5 s) 16 6 (tE b L s)) := ⟨fun a u _ => by rw [zup_ne u, zup_ne u], fun j u v => by rw [zup_at, if_neg v, zup_at, if_neg u]⟩
  have e5 : zup (zup z 16 5 s) 16 6 (tE b L s) 16 5 = s := by rw [zup_at, if_neg (by decide), zup_at, if_pos rfl]
  have e6 : zup (zup z 16 5 s) 16 6 (tE b L s) 16 6 = tE b L s := by rw [zup_at, if_pos rfl]
  have e31 : zup (zup z 16 5 s) 16 6 (tE b L s) 31 = z 31 := by rw [zup_ne (by decide), zup_ne (by decide)]
  generalize zup (zup z 16 5 s) 16 6 (tE b L s) = y at *
  have hy := TC_fr h f1
  have hnum := c_number hT hy e5 e6 (by omega)
  have hr := c_range (z := y) (w := w) (i := i) (v := tV b s (tE b L s)) hw (by omega)
  rw [hlo, hhi] at hr
  have i1 : inR (i + 1) := inR_s (by omega)
  have i3 : (0 : Int) ≤ i ∧ i < 3 := by omega
  by_cases g : isDg (b s) ∧ tE b L s - s ≤ 3
  · rw [if_pos g] at hnum
    obtain ⟨t1, t2, t3, t4⟩ := tE_ok hT (s := s) (by omega)
    have hs := in_L hT (p := s) (by omega)
    have hv := (tVC g.1 (tE b L s) (t3 hs.2) (by omega) (t4 g.1)).2
    have nv : ¬ tV b s (tE b L s) = -1 := by omega
    by_cases g2 : lo ≤ tV b s (tE b L s) ∧ tV b s (tE b L s) ≤ hi
    · rw [if_pos ⟨g.1, g.2, g2⟩]
      refine ⟨fun x hx => (by cases hx), fun v q hx => ?_⟩
      cases hx
      refine ⟨zup y 31 i (tV b s (tE b L s)), ?_, by rw [zup_ne (by decide)]; exact e6, by rw [zup_at, if_pos rfl], fun j hj => by rw [zup_at, if_neg hj, e31], CFm_tr f1 ⟨fun a _ u => zup_ne u, fun j _ _ => by rw [zup_ne (by decide)]⟩⟩
      simp only [fX3_readStatement_s26, zl, hn, Option.bind_some, if_pos hi'.2, if_pos i3.2, ht, hnum, if_neg nv, hr, ite_bI, if_pos g2, if_pos i3, if_pos i1]
    · rw [if_neg (fun x => g2 x.2.2)]
      refine ⟨fun x hx => ?_, fun v q hx => by cases hx⟩
      cases hx
      refine ⟨y, ?_, e5, f1⟩
      simp only [fX3_readStatement_s26, zl, hn, Option.bind_some, if_pos hi'.2, if_pos i3.2, ht, hnum, if_neg nv, hr, ite_bI, if_neg g2]
  · rw [if_neg g] at hnum
    rw [if_neg (fun x => g ⟨x.1, x.2.1⟩)]
    refine ⟨fun x hx => ?_, fun v q hx => by cases hx⟩
    cases hx
    refine ⟨y, ?_, e5, f1⟩
    simp only [fX3_readStatement_s26, zl, hn, Option.bind_some, if_pos hi'.2, if_pos i3.2, ht, hnum, if_true]
end NU

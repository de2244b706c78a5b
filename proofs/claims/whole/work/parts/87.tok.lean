/-! the tokens of a text -/
abbrev isSp (x : Int) : Prop := x = 32
abbrev isLt (x : Int) : Prop := 97 ≤ x ∧ x ≤ 122
abbrev isDg (x : Int) : Prop := 48 ≤ x ∧ x ≤ 57
def TXT (b : Int → Int) (L : Int) : Prop := 0 ≤ L ∧ L ≤ 600 ∧ (∀ k, k < 0 ∨ L ≤ k → b k = 0) ∧ ∀ k, 0 ≤ k → k < L → 1 ≤ b k ∧ b k ≤ 255
def TC (b : Int → Int) (L : Int) (z : ZZ) : Prop := z 16 1 = L ∧ ∀ k, 0 ≤ k → k < L → z 30 k = b k
def TM (b : Int → Int) (L : Int) (z : ZZ) : Prop := z 151 2 = L ∧ ∀ k, 0 ≤ k → k < L → z 152 k = b k
def scn (b : Int → Int) (Q : Int → Prop) [∀ x, Decidable (Q x)] : Nat → Int → Int
  | 0, p => p
  | n + 1, p => if Q (b p) then scn b Q n (p + 1) else p
theorem scn_ok {b : Int → Int} {L : Int} (hT : TXT b L) (Q : Int → Prop) [∀ x, Decidable (Q x)] (hQ : ¬ Q 0) : ∀ (n : Nat) (p : Int), 0 ≤ p → p ≤ L → L - p < n → p ≤ scn b Q n p ∧ scn b Q n p ≤ L ∧ ¬ Q (b (scn b Q n p)) ∧ ∀ k, p ≤ k → k < scn b Q n p → Q (b k)
  | 0, p, h0, h1, h2 => by omega
  | n + 1, p, h0, h1, h2 => by
    unfold scn
    by_cases q : Q (b p)
    · rw [if_pos q]
      have hp : p < L := by
        by_cases w : p < L
        · exact w
        · rw [hT.2.2.1 p (by omega)] at q
          exact absurd q hQ
      obtain ⟨g1, g2, g3, g4⟩ := scn_ok hT Q hQ n (p + 1) (by omega) (by omega) (by omega)
      refine ⟨by omega, g2, g3, fun k a c => ?_⟩
      by_cases e : k = p
      · rw [e]; exact q
      · exact g4 k (by omega) c
    · rw [if_neg q]
      exact ⟨Int.le_refl _, h1, q, fun k a c => by omega⟩
theorem lp_scn {S R : Type} {step : S → Option (S ⊕ R)} {b : Int → Int} {L : Int} (hT : TXT b L) (Q : Int → Prop) [∀ x, Decidable (Q x)] (hQ : ¬ Q 0) (e : Int → S) (out : Int → R) (lo : Int) (h1 : ∀ i, lo ≤ i → i < L → Q (b i) → step (e i) = some (.inl (e (i + 1)))) (h2 : ∀ i, lo ≤ i → i ≤ L → ¬ Q (b i) → step (e i) = some (.inr (out i))) : ∀ (n : Nat) (p : Int) (fuel : Nat), n < fuel → 0 ≤ p → lo ≤ p → p ≤ L → L - p < n → zlp step fuel (e p) = some (out (scn b Q n p))
  | 0, p, fuel, _, h0, _, h1, h2 => by omega
  | n + 1, p, fuel, hf, g0, gl, g1, g2 => by
    obtain ⟨m, rfl⟩ : ∃ m, fuel = m + 1 := ⟨fuel - 1, by omega⟩
    unfold scn
    by_cases q : Q (b p)
    · have hp : p < L := by
        by_cases w : p < L
        · exact w
        · rw [hT.2.2.1 p (by omega)] at q
          exact absurd q hQ
      rw [if_pos q, zlp_next (h1 p gl hp q)]
      exact lp_scn hT Q hQ e out lo h1 h2 n (p + 1) m (by omega) (by omega) (by omega) (by omega) (by omega)
    · rw [if_neg q]
      exact zlp_end (h2 p gl g1 q)
def tS (b : Int → Int) (p : Int) : Int := scn b isSp 601 p
def tE (b : Int → Int) (L s : Int) : Int := if isLt (b s) then scn b isLt 601 s else if isDg (b s) then scn b isDg 601 s else if s < L then s + 1 else s
def tK (b : Int → Int) (L s : Int) : Int := if L ≤ s then 0 else if isLt (b s) then 1 else if isDg (b s) then 2 else 3
/-- the value of a number; the model's is cut at 10000 -/
def tV (b : Int → Int) (s e : Int) : Int := ita (fun k v => v * 10 + b k - 48) (e - s).toNat s 0
def tC (b : Int → Int) (s e : Int) : Int := ita (fun k v => min 10000 (10 * v + b k - 48)) (e - s).toNat s 0
def tM (b : Int → Int) (L s : Int) : Int := if isDg (b s) then tC b s (tE b L s) else 0
section TK
variable {z : ZZ} {b : Int → Int} {L p s : Int}
theorem in_L (hT : TXT b L) (h : b p ≠ 0) : 0 ≤ p ∧ p < L := by
  refine ⟨?_, ?_⟩
  · by_cases q : 0 ≤ p
    · exact q
    · exact absurd (hT.2.2.1 p (by omega)) h
  · by_cases q : p < L
    · exact q
    · exact absurd (hT.2.2.1 p (by omega)) h
theorem tS_ok (hT : TXT b L) (hp : 0 ≤ p ∧ p ≤ L) : p ≤ tS b p ∧ tS b p ≤ L := by
  have hL := hT.2.1
  obtain ⟨g1, g2, -, -⟩ := scn_ok hT isSp (by decide) 601 p hp.1 hp.2 (by omega)
  exact ⟨g1, g2⟩
theorem tE_ok (hT : TXT b L) (hs : 0 ≤ s ∧ s ≤ L) : s ≤ tE b L s ∧ tE b L s ≤ L ∧ (s < L → s < tE b L s) ∧ (isDg (b s) → ∀ k, s ≤ k → k < tE b L s → isDg (b k)) := by
  have hL := hT.2.1
  unfold tE
  by_cases h1 : isLt (b s)
  · obtain ⟨g1, g2, g3, g4⟩ := scn_ok hT isLt (by decide) 601 s hs.1 hs.2 (by omega)
    rw [if_pos h1]
    refine ⟨g1, g2, fun _ => ?_, fun h2 => by omega⟩
    by_cases e : s = scn b isLt 601 s
    · rw [← e] at g3
      exact absurd h1 g3
    · omega
  · rw [if_neg h1]
    by_cases h2 : isDg (b s)
    · obtain ⟨g1, g2, g3, g4⟩ := scn_ok hT isDg (by decide) 601 s hs.1 hs.2 (by omega)
      rw [if_pos h2]
      refine ⟨g1, g2, fun _ => ?_, fun _ => g4⟩
      by_cases e : s = scn b isDg 601 s
      · rw [← e] at g3
        exact absurd h2 g3
      · omega
    · rw [if_neg h2]
      refine ⟨?_, ?_, fun h3 => ?_, fun h3 => absurd h3 h2⟩
      · split <;> omega
      · split <;> omega
      · rw [if_pos h3]; omega
theorem c_byteAt {k : Int} (hT : TXT b L) (h : TC b L z) : fX3_byteAt k z = some (b k) := by
  have hL := hT.2.1
  unfold fX3_byteAt fX3_byteAt_b25 fX3_byteAt_b26
  rw [h.1]
  by_cases h1 : k < 0
  · rw [if_pos h1, if_pos rfl, hT.2.2.1 k (by omega)]
  · rw [if_neg h1]
    by_cases h2 : k < L
    · rw [if_pos h2, if_pos (by omega), if_neg (by decide), if_pos (by omega), h.2 k (by omega) h2]
    · rw [if_neg h2, if_pos rfl, hT.2.2.1 k (by omega)]
theorem c_isLetter {x : Int} : fX3_isLetter x z = some (bI (isLt x)) := by
  unfold fX3_isLetter bI
  by_cases h1 : x < 97
  · rw [if_pos h1, if_neg (by omega)]
  · rw [if_neg h1]
    by_cases h2 : 122 < x
    · rw [if_pos h2, if_neg (by omega)]
    · rw [if_neg h2, if_pos (by omega)]
theorem c_isDigit {x : Int} : fX3_isDigit x z = some (bI (isDg x)) := by
  unfold fX3_isDigit bI
  by_cases h1 : x < 48
  · rw [if_pos h1, if_neg (by omega)]
  · rw [if_neg h1]
    by_cases h2 : 57 < x
    · rw [if_pos h2, if_neg (by omega)]
    · rw [if_neg h2, if_pos (by omega)]
theorem m_isLetter {x : Int} : fX6_isLetter x z = some (bI (isLt x)) := by
  unfold fX6_isLetter bI
  by_cases h1 : x < 97
  · rw [if_pos h1, if_neg (by omega)]
  · rw [if_neg h1]
    by_cases h2 : 122 < x
    · rw [if_pos h2, if_neg (by omega)]
    · rw [if_neg h2, if_pos (by omega)]
theorem m_isDigit {x : Int} : fX6_isDigit x z = some (bI (isDg x)) := by
  unfold fX6_isDigit bI
  by_cases h1 : x < 48
  · rw [if_pos h1, if_neg (by omega)]
  · rw [if_neg h1]
    by_cases h2 : 57 < x
    · rw [if_pos h2, if_neg (by omega)]
    · rw [if_neg h2, if_pos (by omega)]
theorem TC_16 {j v : Int} (h : TC b L z) (hj : j ≠ 1) : TC b L (zup z 16 j v) := by
  refine ⟨by rw [zup_at, if_neg (fun e => hj e.symm)]; exact h.1, fun k a c => ?_⟩
  rw [zup_ne (by decide)]
  exact h.2 k a c
/-- the class goes on to the next token -/
theorem c_tok (hT : TXT b L) (h : TC b L z) (hp : z 16 6 = p) (h0 : 0 ≤ p ∧ p ≤ L) : fX3_readToken z = some (zup (zup z 16 5 (tS b p)) 16 6 (tE b L (tS b p))) := by
  have hL := hT.2.1
  obtain ⟨s1, s2⟩ := tS_ok hT h0
  have e1 : zlp (fun q => fX3_readToken_s5 q z) FU p = some (tS b p) := lp_scn (step := fun q => fX3_readToken_s5 q z) hT isSp (by decide) (fun i => i) (fun i => i) 0 (fun i a c q => by
      show fX3_readToken_s5 i z = _
      unfold fX3_readToken_s5
      rw [h.1, if_pos c, c_byteAt hT h]
      simp only [Option.bind_some]
      rw [if_pos q, if_pos (inR_s (by omega))]) (fun i a c q => by
      show fX3_readToken_s5 i z = _
      unfold fX3_readToken_s5
      rw [h.1, c_byteAt hT h]
      simp only [Option.bind_some]
      by_cases w : i < L
      · rw [if_pos w, if_neg q]
      · rw [if_neg w]) 601 p FU (FU_lt (by omega)) h0.1 h0.1 h0.2 (by omega)
  generalize tS b p = s at *
  have hC := TC_16 (j := 5) (v := s) h (by decide)
  have el : ∀ y : ZZ, TC b L y → zlp (fun q => fX3_readToken_s45 q y) FU s = some (scn b isLt 601 s) := fun y hy => lp_scn (step := fun q => fX3_readToken_s45 q y) hT isLt (by decide) (fun i => i) (fun i => i) 0 (fun i a c q => by
      show fX3_readToken_s45 i y = _
      unfold fX3_readToken_s45
      rw [hy.1, if_pos c, c_byteAt hT hy]
      simp only [Option.bind_some, c_isLetter, ite_bI]
      rw [if_pos q, if_pos (inR_s (by omega))]) (fun i a c q => by
      show fX3_readToken_s45 i y = _
      unfold fX3_readToken_s45
      rw [hy.1, c_byteAt hT hy]
      simp only [Option.bind_some, c_isLetter, ite_bI]
      by_cases w : i < L
      · rw [if_pos w, if_neg q]
      · rw [if_neg w]) 601 s FU (FU_lt (by omega)) (by omega) (by omega) s2 (by omega)
  have ed : ∀ y : ZZ, TC b L y → zlp (fun q => fX3_readToken_s81 q y) FU s = some (scn b isDg 601 s) := fun y hy => lp_scn (step := fun q => fX3_readToken_s81 q y) hT isDg (by decide) (fun i => i) (fun i => i) 0 (fun i a c q => by
      show fX3_readToken_s81 i y = _
      unfold fX3_readToken_s81
      rw [hy.1, if_pos c, c_byteAt hT hy]
      simp only [Option.bind_some, c_isDigit, ite_bI]
      rw [if_pos q, if_pos (inR_s (by omega))]) (fun i a c q => by
      show fX3_readToken_s81 i y = _
      unfold fX3_readToken_s81
      rw [hy.1, c_byteAt hT hy]
      simp only [Option.bind_some, c_isDigit, ite_bI]
      by_cases w : i < L
      · rw [if_pos w, if_neg q]
      · rw [if_neg w]) 601 s FU (FU_lt (by omega)) (by omega) (by omega) s2 (by omega)
  unfold fX3_readToken zl
  rw [hp, e1]
  simp only [Option.bind_some, c_byteAt hT hC, c_isLetter, c_isDigit, ite_bI, hC.1]
  unfold tE
  by_cases h1 : isLt (b s)
  · rw [if_pos h1, if_pos h1, el _ hC]
    rfl
  · rw [if_neg h1, if_neg h1]
    by_cases h2 : isDg (b s)
    · rw [if_pos h2, if_pos h2, ed _ hC]
      rfl
    · rw [if_neg h2, if_neg h2]
      by_cases h3 : s < L
      · rw [if_pos h3, if_pos h3, if_pos (inR_s (by omega))]
      · rw [if_neg h3, if_neg h3]
theorem zup_zup {a : Nat} {k v w : Int} : zup (zup z a k v) a k w = zup z a k w := by
  funext c j
  show (if c = a ∧ j = k then w else if c = a ∧ j = k then v else z c j) = if c = a ∧ j = k then w else z c j
  by_cases q : c = a ∧ j = k
  · rw [if_pos q, if_pos q]
  · rw [if_neg q, if_neg q, if_neg q]
theorem zup_self {a : Nat} {k v : Int} (h : z a k = v) : zup z a k v = z := by
  funext c j
  show (if c = a ∧ j = k then v else z c j) = z c j
  by_cases q : c = a ∧ j = k
  · rw [if_pos q, ← h, q.1, q.2]
  · rw [if_neg q]
theorem zup_swap {a c : Nat} {k l v w : Int} (h : k ≠ l) : zup (zup z a k v) c l w = zup (zup z c l w) a k v := by
  funext d j
  show (if d = c ∧ j = l then w else if d = a ∧ j = k then v else z d j) = if d = a ∧ j = k then v else if d = c ∧ j = l then w else z d j
  by_cases q : d = c ∧ j = l
  · rw [if_pos q, if_neg (fun x => h (x.2.symm.trans q.2)), if_pos q]
  · rw [if_neg q, if_neg q]
theorem m_peek {k : Int} (hT : TXT b L) (h : TM b L z) (hk : 0 ≤ k) : fX6_peek k z = some (if k < L then b k else -1) := by
  have hL := hT.2.1
  unfold fX6_peek
  rw [h.1]
  by_cases h2 : k < L
  · rw [if_pos h2, if_pos (by omega), if_pos h2, h.2 k hk h2]
  · rw [if_neg h2, if_neg h2]
theorem TM_151 {j v : Int} (h : TM b L z) (hj : j ≠ 2) : TM b L (zup z 151 j v) := by
  refine ⟨by rw [zup_at, if_neg (fun e => hj e.symm)]; exact h.1, fun k a c => ?_⟩
  rw [zup_ne (by decide)]
  exact h.2 k a c
theorem tC_s {i : Int} (h : s ≤ i) : tC b s (i + 1) = min 10000 (10 * tC b s i + b i - 48) := by
  unfold tC
  rw [show (i + 1 - s).toNat = (i - s).toNat + 1 by omega, ita_succ, show s + ((i - s).toNat : Nat) = i by omega]
theorem tC_0 : tC b s s = 0 := by
  unfold tC
  rw [show (s - s).toNat = 0 by omega]
  rfl
theorem tC_ok : ∀ (n : Nat), (∀ k, s ≤ k → k < s + n → isDg (b k)) → 0 ≤ tC b s (s + n) ∧ tC b s (s + n) ≤ 10000
  | 0, _ => by
    rw [show s + ((0 : Nat) : Int) = s by omega, tC_0]
    omega
  | n + 1, h => by
    have h1 := tC_ok n (fun k a c => h k a (by omega))
    have h2 := h (s + n) (by omega) (by omega)
    rw [show s + ((n + 1 : Nat) : Int) = s + n + 1 by omega, tC_s (by omega)]
    omega
theorem tV_s {i : Int} (h : s ≤ i) : tV b s (i + 1) = tV b s i * 10 + b i - 48 := by
  unfold tV
  rw [show (i + 1 - s).toNat = (i - s).toNat + 1 by omega, ita_succ, show s + ((i - s).toNat : Nat) = i by omega]
theorem tV_0 : tV b s s = 0 := by
  unfold tV
  rw [show (s - s).toNat = 0 by omega]
  rfl
theorem tVC (h0 : isDg (b s)) : ∀ (e : Int), s < e → e ≤ s + 3 → (∀ k, s ≤ k → k < e → isDg (b k)) → tC b s e = tV b s e ∧ 0 ≤ tV b s e ∧ tV b s e ≤ 999 := by
  intro e h1 h2 h3
  have a1 : tC b s (s + 1) = b s - 48 ∧ tV b s (s + 1) = b s - 48 := by
    rw [tC_s (Int.le_refl _), tV_s (Int.le_refl _), tC_0, tV_0]
    omega
  by_cases e1 : e = s + 1
  · rw [e1, a1.1, a1.2]
    omega
  · have d1 := h3 (s + 1) (by omega) (by omega)
    have a2 : tC b s (s + 2) = (b s - 48) * 10 + b (s + 1) - 48 ∧ tV b s (s + 2) = (b s - 48) * 10 + b (s + 1) - 48 := by
      rw [show s + 2 = s + 1 + 1 by omega, tC_s (by omega), tV_s (by omega), a1.1, a1.2]
      omega
    by_cases e2 : e = s + 2
    · rw [e2, a2.1, a2.2]
      omega
    · have e3 : e = s + 2 + 1 := by omega
      have d2 := h3 (s + 2) (by omega) (by omega)
      rw [e3, tC_s (by omega), tV_s (by omega), a2.1, a2.2]
      omega
/-- the model's token, at p -/
def MT (b : Int → Int) (L p : Int) (z z' : ZZ) : Prop := z' = zup (zup (zup (zup z 151 4 (tS b p)) 151 5 (tK b L (tS b p))) 151 6 (tM b L (tS b p))) 151 3 (tE b L (tS b p))
theorem m_tok (hT : TXT b L) (h : TM b L z) (hp : z 151 3 = p) (h0 : 0 ≤ p ∧ p ≤ L) : ∃ z', fX6_step z = some z' ∧ MT b L p z z' := by
  have hL := hT.2.1
  obtain ⟨s1, s2⟩ := tS_ok hT h0
  have e1 : zlp (fun q => fX6_step_s0 q) FU z = some (zup z 151 3 (tS b p)) := by
    have key := lp_scn (step := fun q => fX6_step_s0 q) hT isSp (by decide) (fun i => zup z 151 3 i) (fun i => zup z 151 3 i) 0 (fun i a c q => by
      show fX6_step_s0 (zup z 151 3 i) = _
      unfold fX6_step_s0 zl
      rw [zup_at, if_pos rfl, m_peek hT (TM_151 h (by decide)) a, if_pos c]
      simp only [Option.bind_some]
      rw [if_pos q, if_pos (inR_s (by omega)), zup_zup]) (fun i a c q => by
      show fX6_step_s0 (zup z 151 3 i) = _
      unfold fX6_step_s0
      rw [zup_at, if_pos rfl, m_peek hT (TM_151 h (by decide)) a]
      simp only [Option.bind_some]
      by_cases w : i < L
      · rw [if_pos w, if_neg q]
      · rw [if_neg w, if_neg (by decide)]) 601 p FU (FU_lt (by omega)) h0.1 h0.1 h0.2 (by omega)
    rw [zup_self hp] at key
    exact key
  generalize hsp : tS b p = s at *
  -- what comes behind the kind
  have key : ∀ (K : Int) (y : ZZ), TM b L y → y 151 3 = s → y 151 4 = s → K = tK b L s → ∃ z', fX6_step_b75 K y = some z' ∧ z' = zup (zup (zup y 151 5 (tK b L s)) 151 6 (tM b L s)) 151 3 (tE b L s) := by
    intro K y hy y3 y4 hK
    subst hK
    have A1 : ∀ w : ZZ, TM b L w → w 151 5 = 1 → w 151 3 = s → zlp (fun q => fX6_step_s101 q) FU w = some (zup w 151 3 (scn b isLt 601 s)) := fun w hw w5 w3 => by
      have key := lp_scn (step := fun q => fX6_step_s101 q) hT isLt (by decide) (fun i => zup w 151 3 i) (fun i => zup w 151 3 i) 0 (fun i a c q => by
        show fX6_step_s101 (zup w 151 3 i) = _
        have r5 : zup w 151 3 i 151 5 = 1 := by rw [zup_at, if_neg (by decide), w5]
        have r3 : zup w 151 3 i 151 3 = i := by rw [zup_at, if_pos rfl]
        unfold fX6_step_s101 zl
        rw [if_pos r5, r3, m_peek hT (TM_151 hw (by decide)) a, if_pos c]
        simp only [Option.bind_some, m_isLetter, ite_bI]
        rw [if_pos q, if_pos (inR_s (by omega)), zup_zup]) (fun i a c q => by
        show fX6_step_s101 (zup w 151 3 i) = _
        have r5 : zup w 151 3 i 151 5 = 1 := by rw [zup_at, if_neg (by decide), w5]
        have r3 : zup w 151 3 i 151 3 = i := by rw [zup_at, if_pos rfl]
        unfold fX6_step_s101
        rw [if_pos r5, r3, m_peek hT (TM_151 hw (by decide)) a]
        simp only [Option.bind_some, m_isLetter, ite_bI]
        by_cases u : i < L
        · rw [if_pos u, if_neg q]
        · rw [if_neg u, if_neg (by decide)]) 601 s FU (FU_lt (by omega)) (by omega) (by omega) s2 (by omega)
      rw [zup_self w3] at key
      exact key
    have A0 : ∀ w : ZZ, w 151 5 ≠ 1 → zlp (fun q => fX6_step_s101 q) FU w = some w := fun w w5 => zlp_end (n := 99999) (by
        show fX6_step_s101 w = _
        unfold fX6_step_s101
        rw [if_neg w5])
    have D0 : ∀ w : ZZ, w 151 5 ≠ 2 → zlp (fun q => fX6_step_s136 q) FU w = some w := fun w w5 => zlp_end (n := 99999) (by
        show fX6_step_s136 w = _
        unfold fX6_step_s136
        rw [if_neg w5])
    have D1 : ∀ w : ZZ, TM b L w → w 151 5 = 2 → w 151 3 = s → w 151 6 = 0 → zlp (fun q => fX6_step_s136 q) FU w = some (zup (zup w 151 6 (tC b s (scn b isDg 601 s))) 151 3 (scn b isDg 601 s)) := fun w hw w5 w3 w6 => by
      have hb : ∀ i, s ≤ i → i ≤ L → (∀ k, s ≤ k → k < i → isDg (b k)) → 0 ≤ tC b s i ∧ tC b s i ≤ 10000 := fun i a c q => by
        have := tC_ok (b := b) (s := s) (i - s).toNat (fun k x y => q k x (by omega))
        rw [show s + ((i - s).toNat : Int) = i by omega] at this
        exact this
      have hq : ∀ i, s ≤ i → i ≤ scn b isDg 601 s → 0 ≤ tC b s i ∧ tC b s i ≤ 10000 := fun i a c => by
        obtain ⟨g1, g2, g3, g4⟩ := scn_ok hT isDg (by decide) 601 s (by omega) s2 (by omega)
        exact hb i a (by omega) (fun k x y => g4 k x (by omega))
      have key : ∀ (n : Nat) (i : Int) (fuel : Nat), n < fuel → s ≤ i → i ≤ L → L - i < n → 0 ≤ tC b s i → tC b s i ≤ 10000 → zlp (fun q => fX6_step_s136 q) fuel (zup (zup w 151 6 (tC b s i)) 151 3 i) = some (zup (zup w 151 6 (tC b s (scn b isDg n i))) 151 3 (scn b isDg n i)) := by
        intro n
        induction n with
        | zero => intro i fuel _ _ h1 h2; omega
        | succ n ih =>
          intro i fuel hf g0 g1 g2 gn gm
          obtain ⟨m, rfl⟩ : ∃ m, fuel = m + 1 := ⟨fuel - 1, by omega⟩
          have hw2 : TM b L (zup (zup w 151 6 (tC b s i)) 151 3 i) := TM_151 (TM_151 hw (by decide)) (by decide)
          have r5 : zup (zup w 151 6 (tC b s i)) 151 3 i 151 5 = 2 := by rw [zup_at, if_neg (by decide), zup_at, if_neg (by decide), w5]
          have r3 : zup (zup w 151 6 (tC b s i)) 151 3 i 151 3 = i := by rw [zup_at, if_pos rfl]
          have r6 : zup (zup w 151 6 (tC b s i)) 151 3 i 151 6 = tC b s i := by rw [zup_at, if_neg (by decide), zup_at, if_pos rfl]
          unfold scn
          by_cases q : isDg (b i)
          · have hi := in_L hT (p := i) (by omega)
            have cs := tC_s (b := b) (s := s) (i := i) g0
            have st : fX6_step_s136 (zup (zup w 151 6 (tC b s i)) 151 3 i) = some (.inl (zup (zup w 151 6 (tC b s (i + 1))) 151 3 (i + 1))) := by
              unfold fX6_step_s136 zl
              rw [if_pos r5, r3, m_peek hT hw2 hi.1, if_pos hi.2]
              simp only [Option.bind_some, m_isDigit, ite_bI]
              have r33 : zup (zup (zup w 151 6 (tC b s i)) 151 3 i) 151 6 (tC b s (i + 1)) 151 3 = i := by rw [zup_at, if_neg (by decide), r3]
              rw [if_pos q, r6, if_pos (inR_s (by omega)), ← cs, r33, if_pos (inR_s (by omega)), zup_swap (k := 6) (l := 3) (by decide), zup_zup, zup_swap (k := 3) (l := 6) (by decide), zup_zup]
            rw [if_pos q, zlp_next st]
            exact ih (i + 1) m (by omega) (by omega) (by omega) (by omega) (by omega) (by omega)
          · have st : fX6_step_s136 (zup (zup w 151 6 (tC b s i)) 151 3 i) = some (.inr (zup (zup w 151 6 (tC b s i)) 151 3 i)) := by
              unfold fX6_step_s136
              rw [if_pos r5, r3, m_peek hT hw2 (by omega)]
              simp only [Option.bind_some, m_isDigit, ite_bI]
              by_cases u : i < L
              · rw [if_pos u, if_neg q]
              · rw [if_neg u, if_neg (by decide)]
            rw [if_neg q]
            exact zlp_end st
      have fin := key 601 s FU (FU_lt (by omega)) (Int.le_refl _) s2 (by omega) (by rw [tC_0]; omega) (by rw [tC_0]; omega)
      rw [tC_0, zup_self w6, zup_self w3] at fin
      exact fin
    have hY : TM b L (zup (zup y 151 5 (tK b L s)) 151 6 0) := TM_151 (TM_151 hy (by decide)) (by decide)
    have Y5 : zup (zup y 151 5 (tK b L s)) 151 6 0 151 5 = tK b L s := by rw [zup_at, if_neg (by decide), zup_at, if_pos rfl]
    have Y3 : zup (zup y 151 5 (tK b L s)) 151 6 0 151 3 = s := by rw [zup_at, if_neg (by decide), zup_at, if_neg (by decide), y3]
    have Y6 : zup (zup y 151 5 (tK b L s)) 151 6 0 151 6 = 0 := by rw [zup_at, if_pos rfl]
    generalize hG : zup (zup y 151 5 (tK b L s)) 151 6 0 = g at *
    have hG6 : ∀ v, zup (zup y 151 5 (tK b L s)) 151 6 v = zup g 151 6 v := fun v => by rw [← hG, zup_zup]
    refine ⟨_, ?_, rfl⟩
    unfold fX6_step_b75 zl
    dsimp only
    rw [hG, hG6]
    unfold tE tM
    by_cases k0 : L ≤ s
    · have K : tK b L s = 0 := if_pos k0
      have hb0 := hT.2.2.1 s (by omega)
      rw [K] at Y5
      rw [Y5, if_neg (by decide), A0 g (by rw [Y5]; decide)]
      simp only [Option.bind_some]
      rw [D0 g (by rw [Y5]; decide), hb0, if_neg (by decide), if_neg (by decide), if_neg (by decide), if_neg (by omega), zup_self Y6, zup_self Y3]
      rfl
    · by_cases k1 : isLt (b s)
      · have K : tK b L s = 1 := by unfold tK; rw [if_neg k0, if_pos k1]
        rw [K] at Y5
        rw [Y5, if_neg (by decide), A1 g hY Y5 Y3]
        simp only [Option.bind_some]
        rw [D0 _ (by rw [zup_at, if_neg (by decide), Y5]; decide), if_pos k1, if_neg (by omega), zup_self Y6]
        rfl
      · by_cases k2 : isDg (b s)
        · have K : tK b L s = 2 := by unfold tK; rw [if_neg k0, if_neg k1, if_pos k2]
          rw [K] at Y5
          rw [Y5, if_neg (by decide), A0 g (by rw [Y5]; decide)]
          simp only [Option.bind_some]
          rw [D1 g hY Y5 Y3 Y6, if_neg k1, if_pos k2, if_pos k2]
          unfold tE
          rw [if_neg k1, if_pos k2]
          rfl
        · have K : tK b L s = 3 := by unfold tK; rw [if_neg k0, if_neg k1, if_neg k2]
          rw [K] at Y5
          have Z5 : zup g 151 3 (s + 1) 151 5 = 3 := by rw [zup_at, if_neg (by decide), Y5]
          rw [Y5, if_pos (by decide), Y3, if_pos (inR_s (by omega)), A0 _ (by rw [Z5]; decide)]
          simp only [Option.bind_some]
          rw [D0 _ (by rw [Z5]; decide), if_neg k1, if_neg k2, if_neg k2, if_pos (by omega), zup_self Y6]
          rfl
  have hM2 : TM b L (zup (zup z 151 3 s) 151 4 s) := TM_151 (TM_151 h (by decide)) (by decide)
  have q3 : zup (zup z 151 3 s) 151 4 s 151 3 = s := by rw [zup_at, if_neg (by decide), zup_at, if_pos rfl]
  have q4 : zup (zup z 151 3 s) 151 4 s 151 4 = s := by rw [zup_at, if_pos rfl]
  have qq : zup z 151 3 s 151 3 = s := by rw [zup_at, if_pos rfl]
  obtain ⟨z', e2, e3⟩ := key (tK b L s) _ hM2 q3 q4 rfl
  refine ⟨z', ?_, ?_⟩
  · unfold fX6_step zl
    rw [e1]
    simp only [Option.bind_some]
    rw [qq, q3, m_peek hT hM2 (by omega)]
    simp only [Option.bind_some, m_isLetter, m_isDigit, ite_bI]
    rw [← e2]
    unfold tK
    by_cases k0 : L ≤ s
    · rw [if_neg (show ¬ s < L by omega), if_pos (show (-1 : Int) < 0 by decide), if_pos k0]
    · have hp := hT.2.2.2 s (by omega) (by omega)
      rw [if_pos (show s < L by omega), if_neg (show ¬ b s < 0 by omega), if_neg k0]
      by_cases k1 : isLt (b s)
      · rw [if_pos k1, if_pos k1]
      · rw [if_neg k1, if_neg k1]
        by_cases k2 : isDg (b s)
        · rw [if_pos k2, if_pos k2]
        · rw [if_neg k2, if_neg k2]
  · rw [e3]
    unfold MT
    rw [hsp, zup_swap (k := 3) (l := 4) (by decide), zup_swap (k := 3) (l := 5) (by decide), zup_swap (k := 3) (l := 6) (by decide), zup_zup]
end TK

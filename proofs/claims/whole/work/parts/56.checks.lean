def sLast (r : Row) (s : Int) : Int := ita (fun k m => if sUse r s k then max m (sLapse r k) else m) (r 470).toNat 0 0
def sChk (r : Row) (b n : Int) : Int × Int := ita (fun i (q : Int × Int) => if q.1 ≤ r 3 + i then (r 3 + i + r (471 + 5 * b + 1), q.2 + 1) else q) n.toNat 0 (sLast r (r (471 + 5 * b + 0)), 0)
abbrev Fra (A : Nat → Prop) (z z' : ZZ) : Prop := ∀ a, ¬ A a → z' a = z a
theorem zup_ne {z : ZZ} {a b : Nat} {k v : Int} (h : b ≠ a) : zup z a k v b = z b := by
  funext j
  simp only [zup]
  rw [if_neg (fun q => h q.1)]
theorem zup_at {z : ZZ} {a : Nat} {k v j : Int} : zup z a k v a j = if j = k then v else z a j := by
  simp only [zup, true_and]
section RH1
variable {z : ZZ} {r : Row} {B : Int} {k c d m w s l n b : Int}
theorem sLast_ok (hI : IH B r) : (∀ k, 0 ≤ k → k < r 470 → sUse r s k → sLapse r k ≤ sLast r s) ∧ (sLast r s = 0 ∨ ∃ k, 0 ≤ k ∧ k < r 470 ∧ sUse r s k ∧ sLapse r k = sLast r s) ∧ 0 ≤ sLast r s ∧ sLast r s ≤ 10400 := by
  have hn := hI.1
  unfold IHn at hn
  have := ita_P (f := fun k m => if sUse r s k then max m (sLapse r k) else m) (fun i m => (∀ k, 0 ≤ k → k < i → sUse r s k → sLapse r k ≤ m) ∧ (m = 0 ∨ ∃ k, 0 ≤ k ∧ k < i ∧ sUse r s k ∧ sLapse r k = m) ∧ 0 ≤ m ∧ m ≤ 10400) (r 470).toNat 0 0 ⟨fun k a b => by omega, Or.inl rfl, by omega, by omega⟩ (fun i a h1 h2 h => by
    have hx := hI.2.2.2.1 i h1 (by omega)
    obtain ⟨p1, p2, p3⟩ := h
    by_cases q : sUse r s i
    · have e : (if sUse r s i then max a (sLapse r i) else a) = max a (sLapse r i) := if_pos q
      show (∀ k, 0 ≤ k → k < i + 1 → sUse r s k → sLapse r k ≤ (if sUse r s i then max a (sLapse r i) else a)) ∧ ((if sUse r s i then max a (sLapse r i) else a) = 0 ∨ _) ∧ _
      rw [e]
      refine ⟨fun k b1 b2 b3 => ?_, ?_, ?_⟩
      · by_cases ek : k = i
        · rw [ek]; omega
        · have := p1 k b1 (by omega) b3; omega
      · by_cases hm : a ≤ sLapse r i
        · exact Or.inr ⟨i, h1, by omega, q, by omega⟩
        · rcases p2 with p2 | ⟨k, b1, b2, b3, b4⟩
          · omega
          · exact Or.inr ⟨k, b1, by omega, b3, by omega⟩
      · unfold sLapse; omega
    · have e : (if sUse r s i then max a (sLapse r i) else a) = a := if_neg q
      show (∀ k, 0 ≤ k → k < i + 1 → sUse r s k → sLapse r k ≤ (if sUse r s i then max a (sLapse r i) else a)) ∧ ((if sUse r s i then max a (sLapse r i) else a) = 0 ∨ _) ∧ _
      rw [e]
      refine ⟨fun k b1 b2 b3 => ?_, ?_, ?_⟩
      · by_cases ek : k = i
        · rw [ek] at b3; exact absurd b3 q
        · exact p1 k b1 (by omega) b3
      · rcases p2 with p2 | ⟨k, b1, b2, b3⟩
        · exact Or.inl p2
        · exact Or.inr ⟨k, b1, by omega, b3⟩
      · exact p3)
  rw [show (0 : Int) + ((r 470).toNat : Nat) = r 470 by omega] at this
  exact this
theorem c_last (hR : RC z r) (hI : IH B r) : fX1_lastLapse s z = some (sLast r s) := by
  have hn := hI.1
  unfold IHn at hn
  unfold fX1_lastLapse
  rw [(lp_forI (step := fun q => fX1_lastLapse_s4 s q.1 q.2 z) (fun i (a : Int) => (a, i)) (fun k m => if sUse r s k then max m (sLapse r k) else m) (fun a => a) (fun _ _ => True) 0 (r 470) 0 (by omega) (by omega) trivial ?_ ?_).1]
  · rw [some_sub0]
    rfl
  · intro i a h1 h2 _
    refine ⟨?_, trivial⟩
    have g : inR (i + 1) := inR_s (by omega)
    show fX1_lastLapse_s4 s a i z = _
    simp only [fX1_lastLapse_s4, fX1_lastLapse_b46, (RCn hR).2.2.2.1, if_pos h2, if_pos g, cg10 hR hI ⟨h1, h2⟩ (c := 0) (by omega), c_isRetired hR hI ⟨h1, h2⟩, c_lapseOf hR hI ⟨h1, h2⟩, Option.bind_some, ite_bI]
    by_cases q1 : r (471 + 5 * i + 0) = s
    · rw [if_pos q1]
      by_cases q2 : sRet r i
      · rw [if_pos q2, if_neg (show ¬ sUse r s i from fun q => q.2 q2)]
      · rw [if_neg q2, if_pos (show sUse r s i from ⟨q1, q2⟩)]
    · rw [if_neg q1, if_neg (show ¬ sUse r s i from fun q => q1 q.1)]
  · intro a _
    show fX1_lastLapse_s4 s a (r 470) z = _
    simp only [fX1_lastLapse_s4, (RCn hR).2.2.2.1, if_neg (Int.lt_irrefl (r 470))]
theorem c_checks (hR : RC z r) (hI : IH B r) (hb : 0 ≤ b ∧ b < r 470) (hd : 1 ≤ n ∧ n ≤ 365) : fX1_checksBy b n z = some (sChk r b n).2 := by
  have hn := hI.1
  unfold IHn at hn
  have hx := (hI.2.2.2.1 b hb.1 hb.2).1
  have hl := sLast_ok (s := r (471 + 5 * b + 0)) hI
  unfold fX1_checksBy
  simp only [cg10 hR hI hb (c := 0) (by omega), c_last hR hI, Option.bind_some]
  have key := (lp_forI (step := fun q => fX1_checksBy_s20 b n q.1 q.2.1 q.2.2 z) (fun i (q : Int × Int) => (q.1, q.2, i)) (fun i (q : Int × Int) => if q.1 ≤ r 3 + i then (r 3 + i + r (471 + 5 * b + 1), q.2 + 1) else q) (fun a => a.2) (fun i q => 0 ≤ q.2 ∧ q.2 ≤ i) 0 n (sLast r (r (471 + 5 * b + 0)), 0) (by omega) (by omega) ⟨Int.le_refl 0, Int.le_refl 0⟩ (fun i a h1 h2 h => by
    have g : inR (i + 1) := inR_s (by omega)
    have g2 : inR (r 3 + i) := inR_s (by omega)
    have g3 : inR (r 3 + i + r (471 + 5 * b + 1)) := inR_s (by omega)
    have g4 : inR (a.2 + 1) := inR_s (by omega)
    refine ⟨?_, ?_⟩
    · show fX1_checksBy_s20 b n a.1 a.2 i z = _
      simp only [fX1_checksBy_s20, fX1_checksBy_b58, (RCn hR).2.2.2.2.2.2.1, if_pos h2, if_pos g, if_pos g2, if_pos g3, if_pos g4, cg10 hR hI hb (c := 1) (by omega), Option.bind_some]
      by_cases q : r 3 + i < a.1
      · rw [if_pos q, if_neg (show ¬ a.1 ≤ r 3 + i by omega)]
      · rw [if_neg q, if_pos (show a.1 ≤ r 3 + i by omega)]
    · (try dsimp only)
      split
      · show 0 ≤ a.2 + 1 ∧ a.2 + 1 ≤ i + 1
        omega
      · omega) (fun a _ => by
    show fX1_checksBy_s20 b n a.1 a.2 n z = _
    simp only [fX1_checksBy_s20, if_neg (Int.lt_irrefl n)])).1
  rw [show zlp (fun q => fX1_checksBy_s20 b n q.1 q.2.1 q.2.2 z) FU (sLast r (r (471 + 5 * b + 0)), 0, 0) = _ from key, some_sub0]
  rfl
theorem m_some (hM : z 154 = r) (hI : IH B r) : ((∃ k, 0 ≤ k ∧ k < r 470 ∧ sUse r s k ∧ d < z 158 k) ∧ fX6_isSome s d z = some 1) ∨ (¬ (∃ k, 0 ≤ k ∧ k < r 470 ∧ sUse r s k ∧ d < z 158 k) ∧ fX6_isSome s d z = some 0) := by
  have hn := hI.1
  unfold IHn at hn
  have key := lp_forI (step := fun q => fX6_isSome_s5 s d q.1 q.2 z) (fun i (a : Int) => (a, i)) (fun i a => if sUse r s i ∧ d < z 158 i then 1 else a) (fun a => a) (fun i a => (a = 0 ∧ ∀ o, 0 ≤ o → o < i → ¬ (sUse r s o ∧ d < z 158 o)) ∨ (a = 1 ∧ ∃ o, 0 ≤ o ∧ o < i ∧ sUse r s o ∧ d < z 158 o)) 0 (r 470) 0 (by omega) (by omega) (Or.inl ⟨rfl, fun o a b => by omega⟩) (fun i a h1 h2 h => by
    have g : inR (i + 1) := inR_s (by omega)
    have ha : a = 0 ∨ a = 1 := h.elim (fun q => Or.inl q.1) (fun q => Or.inr q.1)
    have e1 : zor a 1 = 1 := ha.elim (fun q => by rw [q]; exact zand01.2.2.2.2.2.1) (fun q => by rw [q]; exact zand01.2.2.2.2.2.2.2)
    have e0 : zor a 0 = a := ha.elim (fun q => by rw [q]; exact zand01.2.2.2.2.1) (fun q => by rw [q]; exact zand01.2.2.2.2.2.2.1)
    refine ⟨?_, ?_⟩
    · show fX6_isSome_s5 s d a i z = _
      simp only [fX6_isSome_s5, fX6_isSome_b45, fX6_isSome_b44, hM, if_pos h2, if_pos g, m_isOfUse hM hI ⟨h1, h2⟩, Option.bind_some, ite_bI, e1, e0]
      by_cases q1 : sUse r s i
      · rw [if_pos q1, if_pos (show 0 ≤ i ∧ i < 15 by omega)]
        by_cases q2 : d < z 158 i
        · rw [if_pos q2, if_pos (show sUse r s i ∧ d < z 158 i from ⟨q1, q2⟩)]
        · rw [if_neg q2, if_neg (show ¬ (sUse r s i ∧ d < z 158 i) from fun q => q2 q.2)]
      · rw [if_neg q1, if_neg (show ¬ (sUse r s i ∧ d < z 158 i) from fun q => q1 q.1)]
    · by_cases q : sUse r s i ∧ d < z 158 i
      · exact Or.inr ⟨if_pos q, i, h1, by omega, q.1, q.2⟩
      · rcases h with ⟨h3, h4⟩ | ⟨h3, o, h4, h5, h6⟩
        · refine Or.inl ⟨(if_neg q).trans h3, fun o b1 b2 => ?_⟩
          by_cases eo : o = i
          · rw [eo]; exact q
          · exact h4 o b1 (by omega)
        · exact Or.inr ⟨(if_neg q).trans h3, o, h4, by omega, h6⟩) (fun a _ => by
    show fX6_isSome_s5 s d a (r 470) z = _
    simp only [fX6_isSome_s5, hM, if_neg (Int.lt_irrefl (r 470))])
  unfold fX6_isSome
  rw [show zlp (fun q => fX6_isSome_s5 s d q.1 q.2 z) FU (0, 0) = _ from key.1]
  rcases key.2 with ⟨h1, h2⟩ | ⟨h1, o, h2, h3, h4⟩
  · refine Or.inr ⟨?_, ?_⟩
    · rintro ⟨o, a, b, c⟩
      exact h2 o a b c
    · rw [h1]; rfl
  · refine Or.inl ⟨⟨o, h2, h3, h4⟩, ?_⟩
    rw [h1]; rfl
theorem m_lapses (hM : z 154 = r) (hI : IH B r) : ∃ z', zlp (fun q => fX6_checksNeeded_s73 s n b q.1 q.2) FU (0, z) = some z' ∧ Fra (fun a => a = 158) z z' ∧ ∀ k, 0 ≤ k → k < r 470 → z' 158 k = sLapse r k := by
  have hn := hI.1
  unfold IHn at hn
  have key := lp_forI (step := fun q => fX6_checksNeeded_s73 s n b q.1 q.2) (fun i (a : ZZ) => (i, a)) (fun i a => zup a 158 i (sLapse r i)) (fun a => a) (fun i a => Fra (fun a => a = 158) z a ∧ ∀ k, 0 ≤ k → k < i → a 158 k = sLapse r k) 0 (r 470) z (by omega) (by omega) ⟨fun _ _ => rfl, fun k a b => by omega⟩ (fun i a h1 h2 h => by
    have g : inR (i + 1) := inR_s (by omega)
    have hM' : a 154 = r := (h.1 154 (by decide)).trans hM
    refine ⟨?_, ?_, ?_⟩
    · show fX6_checksNeeded_s73 s n b i a = _
      simp only [fX6_checksNeeded_s73, hM', if_pos h2, if_pos g, if_pos (show 0 ≤ i ∧ i < 15 by omega), m_lapse hM' hI ⟨h1, h2⟩, Option.bind_some, zl]
    · intro x hx
      rw [zup_ne hx]
      exact h.1 x hx
    · intro k b1 b2
      rw [zup_at]
      by_cases e : k = i
      · rw [if_pos e, e]
      · rw [if_neg e]
        exact h.2 k b1 (by omega)) (fun a h => by
    have hM' : a 154 = r := (h.1 154 (by decide)).trans hM
    show fX6_checksNeeded_s73 s n b (r 470) a = _
    simp only [fX6_checksNeeded_s73, hM', if_neg (Int.lt_irrefl (r 470))])
  exact ⟨_, key.1, key.2.1, key.2.2⟩
theorem m_checks (hM : z 154 = r) (hI : IH B r) (hb : 0 ≤ b ∧ b < r 470) (hu : sUse r s b) (hd : 1 ≤ n ∧ n ≤ 365) (hL : ∀ k, 0 ≤ k → k < r 470 → z 158 k = sLapse r k) : ∃ z', zlp (fun q => fX6_checksNeeded_s116 s n b q.1 q.2.1 q.2.2) FU (0, r 3, z) = some ((sChk r b n).2, z') ∧ Fra (fun a => a = 158) z z' := by
  have hn := hI.1
  unfold IHn at hn
  have hx := (hI.2.2.2.1 b hb.1 hb.2).1
  have hl := sLast_ok (s := s) hI
  have hpos : ∀ k, 0 ≤ k → k < r 470 → 1 ≤ sLapse r k := fun k a b => by
    have := hI.2.2.2.1 k a b
    unfold sLapse
    omega
  have key := lp_forI (step := fun q => fX6_checksNeeded_s116 s n b q.1 q.2.1 q.2.2) (fun i (a : (Int × Int) × ZZ) => (a.1.2, r 3 + i, a.2)) (fun i (a : (Int × Int) × ZZ) => ((if a.1.1 ≤ r 3 + i then (r 3 + i + r (471 + 5 * b + 1), a.1.2 + 1) else a.1), (if a.1.1 ≤ r 3 + i then zup a.2 158 b (r 3 + i + r (471 + 5 * b + 1)) else a.2))) (fun a => (a.1.2, a.2))
    (fun i a => Fra (fun a => a = 158) z a.2 ∧ (∀ k, 0 ≤ k → k < r 470 → sUse r s k → a.2 158 k ≤ a.1.1) ∧ (∃ k, 0 ≤ k ∧ k < r 470 ∧ sUse r s k ∧ a.2 158 k = a.1.1) ∧ 0 ≤ a.1.2 ∧ a.1.2 ≤ i) 0 n ((sLast r s, 0), z) (by omega) (by omega) (by
      refine ⟨fun _ _ => rfl, fun k a b c => (show z 158 k ≤ sLast r s from by rw [hL k a b]; exact hl.1 k a b c), ?_, Int.le_refl 0, Int.le_refl 0⟩
      rcases hl.2.1 with h0 | ⟨k, b1, b2, b3, b4⟩
      · have h1 := hl.1 b hb.1 hb.2 hu
        have h2 := hpos b hb.1 hb.2
        omega
      · exact ⟨k, b1, b2, b3, (show z 158 k = sLast r s from by rw [hL k b1 b2]; exact b4)⟩) (fun i a h1 h2 h => by
    obtain ⟨p1, p2, ⟨k0, k1, k2, k3, k4⟩, p4, p5⟩ := h
    have g : inR (r 3 + i + 1) := inR_s (by omega)
    have g2 : inR (r 3 + n) := inR_s (by omega)
    have g3 : inR (r 3 + i + r (471 + 5 * b + 1)) := inR_s (by omega)
    have g4 : inR (a.1.2 + 1) := inR_s (by omega)
    have hM' : a.2 154 = r := (p1 154 (by decide)).trans hM
    have hs := m_some (s := s) (d := r 3 + i) hM' hI
    by_cases q : a.1.1 ≤ r 3 + i
    · have hno : ¬ (∃ k, 0 ≤ k ∧ k < r 470 ∧ sUse r s k ∧ r 3 + i < a.2 158 k) := by
        rintro ⟨k, b1, b2, b3, b4⟩
        have := p2 k b1 b2 b3
        omega
      have hs' : fX6_isSome s (r 3 + i) a.2 = some 0 := hs.elim (fun w => absurd w.1 hno) (fun w => w.2)
      refine ⟨?_, ?_⟩
      · show fX6_checksNeeded_s116 s n b a.1.2 (r 3 + i) a.2 = some (Sum.inl ((if a.1.1 ≤ r 3 + i then (r 3 + i + r (471 + 5 * b + 1), a.1.2 + 1) else a.1).2, r 3 + (i + 1), _))
        simp only [fX6_checksNeeded_s116, fX6_checksNeeded_b157, hM', if_pos g2, if_pos (show r 3 + i < r 3 + n by omega), hs', Option.bind_some, if_true, mg10 hM' (k := b) (c := 1) (by omega), if_pos g3, if_pos (show 0 ≤ b ∧ b < 15 by omega), zl, if_pos g4, if_pos g, if_pos q, ← Int.add_assoc]
      · simp only [if_pos q]
        refine ⟨fun x hx => ?_, fun k b1 b2 b3 => ?_, ⟨b, hb.1, hb.2, hu, ?_⟩, by omega, by omega⟩
        · rw [zup_ne hx]
          exact p1 x hx
        · rw [zup_at]
          split
          · exact Int.le_refl _
          · have := p2 k b1 b2 b3
            omega
        · rw [zup_at, if_pos rfl]
    · have hyes : ∃ k, 0 ≤ k ∧ k < r 470 ∧ sUse r s k ∧ r 3 + i < a.2 158 k := ⟨k0, k1, k2, k3, by omega⟩
      have hs' : fX6_isSome s (r 3 + i) a.2 = some 1 := hs.elim (fun w => w.2) (fun w => absurd hyes w.1)
      refine ⟨?_, ?_⟩
      · show fX6_checksNeeded_s116 s n b a.1.2 (r 3 + i) a.2 = some (Sum.inl ((if a.1.1 ≤ r 3 + i then (r 3 + i + r (471 + 5 * b + 1), a.1.2 + 1) else a.1).2, r 3 + (i + 1), _))
        simp only [fX6_checksNeeded_s116, fX6_checksNeeded_b157, hM', if_pos g2, if_pos (show r 3 + i < r 3 + n by omega), hs', Option.bind_some, if_neg (show ¬ (1 : Int) = 0 by decide), if_pos g, if_neg q, ← Int.add_assoc]
      · simp only [if_neg q]
        exact ⟨p1, p2, ⟨k0, k1, k2, k3, k4⟩, p4, by omega⟩) (fun a h => by
    have hM' : a.2 154 = r := (h.1 154 (by decide)).trans hM
    have g2 : inR (r 3 + n) := inR_s (by omega)
    show fX6_checksNeeded_s116 s n b a.1.2 (r 3 + n) a.2 = _
    simp only [fX6_checksNeeded_s116, hM', if_pos g2, if_neg (Int.lt_irrefl (r 3 + n))])
  have hpr := ita_map (f := fun i (a : (Int × Int) × ZZ) => ((if a.1.1 ≤ r 3 + i then (r 3 + i + r (471 + 5 * b + 1), a.1.2 + 1) else a.1), (if a.1.1 ≤ r 3 + i then zup a.2 158 b (r 3 + i + r (471 + 5 * b + 1)) else a.2))) (g := fun i (q : Int × Int) => if q.1 ≤ r 3 + i then (r 3 + i + r (471 + 5 * b + 1), q.2 + 1) else q) (fun a => a.1) (fun i a => rfl) (n - 0).toNat 0 ((sLast r s, 0), z)
  refine ⟨_, ?_, key.2.1⟩
  rw [show zlp (fun q => fX6_checksNeeded_s116 s n b q.1 q.2.1 q.2.2) FU (0, r 3, z) = _ from (by
    have := key.1
    simp only [Int.add_zero] at this
    exact this)]
  congr 2
  rw [hpr, some_sub0]
  unfold sChk
  rw [hu.1]
end RH1

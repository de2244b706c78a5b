theorem sCnt_s {i : Int} (h : 0 ≤ i) (p : Int → Prop) [∀ k, Decidable (p k)] : sCnt (i + 1) p = if p i then sCnt i p + 1 else sCnt i p := by
  obtain ⟨n, rfl⟩ : ∃ n : Nat, i = n := ⟨i.toNat, by omega⟩
  have := sCnt_succ n p
  rw [show ((n + 1 : Nat) : Int) = (n : Int) + 1 by omega] at this
  exact this
theorem sCnt_n {i : Int} (h : 0 ≤ i) (p : Int → Prop) [∀ k, Decidable (p k)] : 0 ≤ sCnt i p ∧ sCnt i p ≤ i := by
  have := sCnt_nn p i.toNat
  rw [Int.toNat_of_nonneg h] at this
  exact this
theorem CB_congr {z : ZZ} {b b' : Int → Int} {t t' : Int} (h : CB z b t) (hb : ∀ g, 0 ≤ g → g < 30 → b g = b' g) (ht : t = t') : CB z b' t' := ⟨fun g a b => (h.1 g a b).trans (hb g a b), h.2.trans ht⟩
abbrev sVb (r : Row) (k i g : Int) : Int := sCnt i (fun m => sVote r k m = g) + (if g = sSet1 r k then r 1 else 0)
abbrev sVt (r : Row) (k i : Int) : Int := sCnt i (fun m => r (38 + 18 * k + (6 + m)) ≠ -1) + r 1
section GC
variable {z : ZZ} {r : Row} {B : Int} {k gr mo : Int}
theorem c_fill (hR : RC z r) (hI : IH B r) (hk : 0 ≤ k ∧ k < r 37) (hg : 0 ≤ gr ∧ gr < 30) (hm : 0 ≤ mo ∧ mo ≤ 20) : ∃ z', fX1_fillBallot k gr mo z = some z' ∧ Fra F12 z z' ∧ z' 1 2 = sS r k gr mo ∧ z' 1 3 = sK r k mo := by
  have hn := hI.1
  unfold IHn at hn
  have hr := hI.2.2.1 k hk.1 hk.2
  have hb := sb_ok hI hk hg hm
  have hf := fb_ok hI hk hg hm
  have hD := sD_ok hI hk hg hm
  obtain ⟨z2, e2, b2, f2⟩ := c_bclear (z := z)
  have hR2 := RC_12 hR f2
  obtain ⟨z3, e3, b3, f3⟩ := c_addVotes (g := sSet1 r k) (v := r 1) b2 (by unfold sSet1; omega) ⟨Int.le_refl 0, by decide⟩ ⟨Int.le_refl 0, by decide⟩ (by omega)
  have f23 := Fra_trans f2 f3
  have key := lp_forI (step := fun q => fX1_fillBallot_s34 k gr mo (sSet1 r k) q.1 q.2) (fun i (a : ZZ) => (i, a)) (fun i a => if sVote r k i = -1 then a else (fX0_addVotes (sVote r k i) 1 a).getD a) (fun a => a)
    (fun i a => CB a (sVb r k i) (sVt r k i) ∧ Fra F12 z a) 0 (r 546) z3 (by omega) (by omega) ⟨CB_congr b3 (fun g a b => by
      show rup _ _ _ g = sVb r k 0 g
      unfold rup sVb
      dsimp only
      rw [show sCnt 0 (fun m => sVote r k m = g) = 0 from rfl]
      split <;> omega) (by
      unfold sVt
      rw [show sCnt 0 (fun m => r (38 + 18 * k + (6 + m)) ≠ -1) = 0 from rfl]), f23⟩ (fun i a h1 h2 h => by
    obtain ⟨p1, p2⟩ := h
    have g : inR (i + 1) := inR_s (by omega)
    have g3 : inR (6 + i) := inR_s (by omega)
    have hRa := RC_12 hR p2
    have hv := hr.2.2.2.2.2 i h1 (by omega)
    by_cases q : sVote r k i = -1
    · refine ⟨?_, ?_⟩
      · show fX1_fillBallot_s34 k gr mo (sSet1 r k) i a = _
        simp only [fX1_fillBallot_s34, (RCn hRa).2.2.2.2.1, if_pos h2, if_pos g, if_pos g3, cg6 hRa hI hk (c := 6 + i) (by omega), Option.bind_some, c_addVotes_no (z := a) (g := r (38 + 18 * k + (6 + i))) (v := 1) (by unfold sVote at q; omega), if_pos q]
      · show CB (if sVote r k i = -1 then a else _) _ _ ∧ Fra F12 z (if sVote r k i = -1 then a else _)
        rw [if_pos q]
        refine ⟨CB_congr p1 (fun g' a1 a2 => ?_) ?_, p2⟩
        · unfold sVb
          rw [sCnt_s h1, if_neg (show ¬ sVote r k i = g' by omega)]
        · unfold sVt
          rw [sCnt_s h1, if_neg (fun w => w q)]
    · have hc := sCnt_n h1 (fun m => sVote r k m = sVote r k i)
      have hct := sCnt_n h1 (fun m => r (38 + 18 * k + (6 + m)) ≠ -1)
      obtain ⟨a', ea, ba, fa⟩ := c_addVotes (g := sVote r k i) (v := 1) p1 (by unfold sVote at *; omega) (by unfold sVb; split <;> omega) (by unfold sVt; omega) (by omega)
      refine ⟨?_, ?_⟩
      · show fX1_fillBallot_s34 k gr mo (sSet1 r k) i a = _
        simp only [fX1_fillBallot_s34, (RCn hRa).2.2.2.2.1, if_pos h2, if_pos g, if_pos g3, cg6 hRa hI hk (c := 6 + i) (by omega), Option.bind_some, if_neg q]
        rw [ea]
        rfl
      · show CB (if sVote r k i = -1 then a else _) _ _ ∧ Fra F12 z (if sVote r k i = -1 then a else _)
        rw [if_neg q, ea]
        refine ⟨CB_congr ba (fun g' a1 a2 => ?_) ?_, Fra_trans p2 fa⟩
        · unfold rup sVb
          rw [sCnt_s h1]
          by_cases e : g' = sVote r k i
          · rw [if_pos e, if_pos e.symm, e]; omega
          · rw [if_neg e, if_neg (show ¬ sVote r k i = g' from fun w => e w.symm)]
        · unfold sVt
          rw [sCnt_s h1, if_pos q]; omega) (fun a h => by
    have hRa := RC_12 hR h.2
    show fX1_fillBallot_s34 k gr mo (sSet1 r k) (r 546) a = _
    simp only [fX1_fillBallot_s34, (RCn hRa).2.2.2.2.1, if_neg (Int.lt_irrefl (r 546))])
  generalize hz4 : ita (fun i a => if sVote r k i = -1 then a else (fX0_addVotes (sVote r k i) 1 a).getD a) (r 546 - 0).toNat 0 z3 = z4 at key
  obtain ⟨k1, k2, k3⟩ := key
  have hcg := sCnt_n (i := r 546) (by omega) (fun m => sVote r k m = gr)
  have hct := sCnt_n (i := r 546) (by omega) (fun m => r (38 + 18 * k + (6 + m)) ≠ -1)
  obtain ⟨z5, e5, b5, f5⟩ := c_addVotes (g := gr) (v := mo) k2 hg (by unfold sVb; split <;> omega) (by unfold sVt; omega) (by omega)
  have b5' : CB z5 (sb r k gr mo) (sT0 r k mo) := CB_congr b5 (fun g a b => by
    unfold rup sVb sb
    by_cases e : g = gr
    · rw [if_pos e, if_pos e, e]
    · rw [if_neg e, if_neg e, Int.add_zero]) rfl
  have f05 := Fra_trans k3 f5
  have hR5 := RC_12 hR f05
  have fin : ∀ z6, CB z6 (fb r k gr mo) (fT r k mo) → Fra F12 z z6 → ∃ z', fX1_fillBallot_b102 z6 = some z' ∧ Fra F12 z z' ∧ z' 1 2 = sS r k gr mo ∧ z' 1 3 = sK r k mo := by
    intro z6 b6 f6
    have hR6 := RC_12 hR f6
    obtain ⟨z7, e7, f7, q1, q2⟩ := c_trim (tr := r 0) b6 hf.1 hf.2.1 hf.2.2 hD.2.2 hD.2.1
    refine ⟨z7, ?_, Fra_trans f6 f7, q1, q2⟩
    unfold fX1_fillBallot_b102
    rw [(RCn hR6).2.2.2.2.2.2.2.1, e7]
    rfl
  have hset : fX4_get 6 k 1 z = some (sSet1 r k) := cg6 hR hI hk (c := 1) (by omega)
  unfold fX1_fillBallot
  rw [hset]
  simp only [Option.bind_some]
  rw [e2]
  simp only [Option.bind_some]
  rw [(RCn hR2).2.2.2.2.2.2.2.2.1, e3]
  simp only [Option.bind_some]
  rw [show zlp (fun q => fX1_fillBallot_s34 k gr mo (sSet1 r k) q.1 q.2) FU (0, z3) = _ from k1]
  simp only [Option.bind_some]
  rw [e5]
  simp only [Option.bind_some]
  rw [b5'.2]
  by_cases q : sT0 r k mo = 0
  · rw [if_pos q]
    have hc := hb.1 (sSet1 r k)
    have hle : sb r k gr mo (sSet1 r k) ≤ 100 := by
      have := sCnt_n (i := r 546) (by omega) (fun m => sVote r k m = sSet1 r k)
      unfold sb
      split <;> split <;> omega
    obtain ⟨z6, e6, b6, f6⟩ := c_addVotes (g := sSet1 r k) (v := 1) b5' (by unfold sSet1; omega) ⟨hc, by omega⟩ (by omega) (by omega)
    rw [e6]
    exact fin z6 (CB_congr b6 (fun g a b => by
      unfold rup fb
      rw [if_pos q]
      by_cases e : g = sSet1 r k
      · rw [if_pos e, if_pos e, e]
      · rw [if_neg e, if_neg e, Int.add_zero]) (by unfold fT; rw [if_pos q, q]; rfl)) (Fra_trans f05 f6)
  · rw [if_neg q]
    exact fin z5 (CB_congr b5' (fun g a b => by unfold fb; rw [if_neg q]) (by unfold fT; rw [if_neg q])) f05
theorem c_near {z : ZZ} {S K : Int} (h1 : z 1 2 = S) (h2 : z 1 3 = K) (hS : 0 ≤ S ∧ S ≤ 29 * K) (hK : 1 ≤ K ∧ K ≤ 42) : fX0_nearestGrade z = some ((2 * S + K) / (2 * K)) := by
  unfold fX0_nearestGrade
  rw [h1, h2, if_pos (by omega), if_pos (inR_s (by omega)), if_pos (inR_s (by omega)), if_pos (by omega)]
theorem c_gradeBy (hR : RC z r) (hI : IH B r) (hk : 0 ≤ k ∧ k < r 37) (hg : 0 ≤ gr ∧ gr < 30) (hm : 0 ≤ mo ∧ mo ≤ 20) : ∃ z', fX1_gradeWithMore k gr mo z = some (sG r k gr mo, z') ∧ Fra F12 z z' := by
  obtain ⟨z', e, f, q1, q2⟩ := c_fill hR hI hk hg hm
  have hs := sS_ok hI hk hg hm
  refine ⟨z', ?_, f⟩
  unfold fX1_gradeWithMore
  rw [e]
  simp only [Option.bind_some]
  rw [c_near q1 q2 ⟨hs.1, hs.2.1⟩ hs.2.2]
  rfl
abbrev sGr (r : Row) (k : Int) : Int := sG r k 0 0
theorem c_gradeOf (hR : RC z r) (hI : IH B r) (hk : 0 ≤ k ∧ k < r 37) : ∃ z', fX1_gradeOf k z = some (sGr r k, z') ∧ Fra F12 z z' := by
  obtain ⟨z', e, f, q1, q2⟩ := c_fill hR hI hk (gr := 0) (mo := 0) (by omega) (by omega)
  have hs := sS_ok hI hk (gr := 0) (mo := 0) (by omega) (by omega)
  refine ⟨z', ?_, f⟩
  unfold fX1_gradeOf
  rw [e]
  simp only [Option.bind_some]
  rw [c_near q1 q2 ⟨hs.1, hs.2.1⟩ hs.2.2]
  rfl
theorem sGr_ok (hI : IH B r) (hk : 0 ≤ k ∧ k < r 37) : 0 ≤ sGr r k ∧ sGr r k ≤ 29 := sG_ok hI hk (by omega) (by omega)
end GC
/-! the model's ballot -/
def MB (z : ZZ) (b : Int → Int) (t : Int) : Prop := (∀ g, 0 ≤ g → g < 30 → z 157 g = b g) ∧ z 151 16 = t
def FM (z z' : ZZ) : Prop := (∀ a, a ≠ 151 → a ≠ 157 → z' a = z a) ∧ ∀ j, j ≠ 16 → j ≠ 17 → j ≠ 18 → z' 151 j = z 151 j
theorem FM_rf (z : ZZ) : FM z z := ⟨fun _ _ _ => rfl, fun _ _ _ _ => rfl⟩
theorem FM_tr {z z' z'' : ZZ} (h : FM z z') (h2 : FM z' z'') : FM z z'' := ⟨fun a p q => (h2.1 a p q).trans (h.1 a p q), fun j p q w => (h2.2 j p q w).trans (h.2 j p q w)⟩
theorem FM_157 {z : ZZ} {k v : Int} : FM z (zup z 157 k v) := ⟨fun a p q => zup_ne q, fun j p q w => by rw [zup_ne (by decide)]⟩
theorem FM_151 {z : ZZ} {k v : Int} (hk : k = 16 ∨ k = 17 ∨ k = 18) : FM z (zup z 151 k v) := ⟨fun a p q => zup_ne p, fun j p q w => by rw [zup_at, if_neg (by omega)]⟩
theorem FM_154 {z z' : ZZ} {r : Row} (h : FM z z') (hM : z 154 = r) : z' 154 = r := (h.1 154 (by decide) (by decide)).trans hM
theorem MB_congr {z : ZZ} {b b' : Int → Int} {t t' : Int} (h : MB z b t) (hb : ∀ g, 0 ≤ g → g < 30 → b g = b' g) (ht : t = t') : MB z b' t' := ⟨fun g a b => (h.1 g a b).trans (hb g a b), h.2.trans ht⟩
theorem m_cast {z : ZZ} {b : Int → Int} {t g v : Int} (h : MB z b t) (hg : 0 ≤ g ∧ g < 30) (hb : 0 ≤ b g ∧ b g ≤ 1000) (ht : 0 ≤ t ∧ t ≤ 1000) (hv : 0 ≤ v ∧ v ≤ 100) : ∃ z', fX6_cast g v z = some z' ∧ MB z' (rup b g (b g + v)) (t + v) ∧ FM z z' := by
  have e := h.1 g hg.1 hg.2
  refine ⟨zup (zup z 157 g (b g + v)) 151 16 (t + v), ?_, ⟨fun x h1 h2 => ?_, ?_⟩, FM_tr FM_157 (FM_151 (Or.inl rfl))⟩
  · have e1 : (zup z 157 g (b g + v)) 151 16 = t := by rw [zup_ne (by decide)]; exact h.2
    unfold fX6_cast zl
    dsimp only
    rw [if_pos hg, e, if_pos (inR_s (by omega)), e1, if_pos (inR_s (by omega))]
  · rw [zup_ne (by decide), zup_at]
    unfold rup
    split
    · rfl
    · exact h.1 x h1 h2
  · rw [zup_at, if_pos rfl]
section GM
variable {z : ZZ} {r : Row} {B : Int} {k gr mo : Int}
theorem m_bclear : ∃ z', zlp (fun q => fX6_layBallot_s2 k q.1 q.2) FU (0, z) = some z' ∧ (∀ g, 0 ≤ g → g < 30 → z' 157 g = 0) ∧ FM z z' := by
  have key := lp_forI (step := fun q => fX6_layBallot_s2 k q.1 q.2) (fun i (a : ZZ) => (i, a)) (fun i a => zup a 157 i 0) (fun a => a) (fun i a => (∀ g, 0 ≤ g → g < i → a 157 g = 0) ∧ FM z a) 0 30 z (by omega) (by omega) ⟨fun g a b => by omega, FM_rf z⟩ (fun i a h1 h2 h => by
    have g : inR (i + 1) := inR_s (by omega)
    refine ⟨?_, fun g' b1 b2 => ?_, FM_tr h.2 FM_157⟩
    · show fX6_layBallot_s2 k i a = _
      simp only [fX6_layBallot_s2, if_pos h2, if_pos (show 0 ≤ i ∧ i < 30 by omega), zl, if_pos g]
    · rw [zup_at]
      split
      · rfl
      · exact h.1 g' b1 (by omega)) (fun a h => by
    show fX6_layBallot_s2 k 30 a = _
    simp only [fX6_layBallot_s2, if_neg (Int.lt_irrefl 30)])
  exact ⟨_, key.1, key.2.1, key.2.2⟩
theorem m_layBallot (hM : z 154 = r) (hI : IH B r) (hk : 0 ≤ k ∧ k < r 37) : ∃ z', fX6_layBallot k z = some z' ∧ MB z' (sVb r k (r 546)) (sVt r k (r 546)) ∧ FM z z' := by
  have hn := hI.1
  unfold IHn at hn
  have hr := hI.2.2.1 k hk.1 hk.2
  obtain ⟨z1, e1, b1, f1⟩ := m_bclear (z := z) (k := k)
  have f2 : FM z (zup z1 151 16 0) := FM_tr f1 (FM_151 (Or.inl rfl))
  have key := lp_forI (step := fun q => fX6_layBallot_s28 k q.1 q.2) (fun i (a : ZZ) => (i, a)) (fun i a => if sVote r k i = -1 then a else (fX6_cast (sVote r k i) 1 a).getD a) (fun a => a)
    (fun i a => MB a (fun g => sCnt i (fun m => sVote r k m = g)) (sCnt i (fun m => r (38 + 18 * k + (6 + m)) ≠ -1)) ∧ FM z a) 0 (r 546) (zup z1 151 16 0) (by omega) (by omega) ⟨⟨fun g a b => by
      rw [zup_ne (by decide)]
      exact b1 g a b, by rw [zup_at, if_pos rfl]; rfl⟩, f2⟩ (fun i a h1 h2 h => by
    obtain ⟨p1, p2⟩ := h
    have g : inR (i + 1) := inR_s (by omega)
    have g3 : inR (6 + i) := inR_s (by omega)
    have hMa := FM_154 p2 hM
    have hv := hr.2.2.2.2.2 i h1 (by omega)
    by_cases q : sVote r k i = -1
    · refine ⟨?_, ?_⟩
      · show fX6_layBallot_s28 k i a = _
        simp only [fX6_layBallot_s28, fX6_layBallot_b61, hMa, if_pos h2, if_pos g, if_pos g3, mg6 hMa (k := k) (c := 6 + i) (by omega), Option.bind_some, if_pos q, if_pos (show r (38 + 18 * k + (6 + i)) = -1 from q)]
      · show MB (if sVote r k i = -1 then a else _) _ _ ∧ FM z (if sVote r k i = -1 then a else _)
        rw [if_pos q]
        refine ⟨MB_congr p1 (fun g' a1 a2 => ?_) ?_, p2⟩
        · rw [sCnt_s h1, if_neg (show ¬ sVote r k i = g' by omega)]
        · rw [sCnt_s h1, if_neg (fun w => w q)]
    · have hc := sCnt_n h1 (fun m => sVote r k m = sVote r k i)
      have hct := sCnt_n h1 (fun m => r (38 + 18 * k + (6 + m)) ≠ -1)
      obtain ⟨a', ea, ba, fa⟩ := m_cast (g := sVote r k i) (v := 1) p1 (by unfold sVote at *; omega) (by omega) (by omega) (by omega)
      refine ⟨?_, ?_⟩
      · show fX6_layBallot_s28 k i a = _
        simp only [fX6_layBallot_s28, fX6_layBallot_b61, hMa, if_pos h2, if_pos g, if_pos g3, mg6 hMa (k := k) (c := 6 + i) (by omega), Option.bind_some, if_neg q, if_neg (show ¬ r (38 + 18 * k + (6 + i)) = -1 from q)]
        rw [ea]
        rfl
      · show MB (if sVote r k i = -1 then a else _) _ _ ∧ FM z (if sVote r k i = -1 then a else _)
        rw [if_neg q, ea]
        refine ⟨MB_congr ba (fun g' a1 a2 => ?_) ?_, FM_tr p2 fa⟩
        · unfold rup
          rw [sCnt_s h1]
          by_cases e : g' = sVote r k i
          · rw [if_pos e, if_pos e.symm, e]
          · rw [if_neg e, if_neg (show ¬ sVote r k i = g' from fun w => e w.symm)]
        · rw [sCnt_s h1, if_pos q]) (fun a h => by
    have hMa := FM_154 h.2 hM
    show fX6_layBallot_s28 k (r 546) a = _
    simp only [fX6_layBallot_s28, hMa, if_neg (Int.lt_irrefl (r 546))])
  generalize ita (fun i a => if sVote r k i = -1 then a else (fX6_cast (sVote r k i) 1 a).getD a) (r 546 - 0).toNat 0 (zup z1 151 16 0) = z4 at key
  obtain ⟨k1, k2, k3⟩ := key
  have hM4 := FM_154 k3 hM
  have hcg := sCnt_n (i := r 546) (by omega) (fun m => sVote r k m = sSet1 r k)
  have hct := sCnt_n (i := r 546) (by omega) (fun m => r (38 + 18 * k + (6 + m)) ≠ -1)
  obtain ⟨z5, e5, b5, f5⟩ := m_cast (g := sSet1 r k) (v := r 1) k2 (by unfold sSet1; omega) (by omega) (by omega) (by omega)
  refine ⟨z5, ?_, MB_congr b5 (fun g a b => ?_) rfl, FM_tr k3 f5⟩
  · unfold fX6_layBallot zl
    dsimp only
    rw [e1]
    simp only [Option.bind_some]
    rw [show zlp (fun q => fX6_layBallot_s28 k q.1 q.2) FU (0, zup z1 151 16 0) = _ from k1]
    simp only [Option.bind_some]
    rw [mg6 hM4 (k := k) (c := 1) (by omega)]
    simp only [Option.bind_some]
    rw [hM4, show r (38 + 18 * k + 1) = sSet1 r k from rfl, e5]
    rfl
  · unfold rup sVb
    by_cases e : g = sSet1 r k
    · rw [if_pos e, if_pos e, e]
    · rw [if_neg e, if_neg e, Int.add_zero]
theorem m_dropped {a n D : Int} (h : -1000000 ≤ a ∧ a ≤ 1000000) (h2 : -1000000 ≤ D ∧ D ≤ 1000000) : fX6_dropped a n D z = some (max 0 (min n (D - a))) := by
  unfold fX6_dropped
  rw [if_pos (inR_s (by omega))]
theorem m_trim {b : Int → Int} {T : Int} (h : MB z b T) (hM : z 154 = r) (hb : ∀ g, 0 ≤ b g) (hT : sumN b 30 = T) (hT2 : 1 ≤ T ∧ T ≤ 42) (htr : 0 ≤ T * r 0 ∧ T * r 0 ≤ 1680) (hD : 2 * (T * r 0 / 100) < T) :
    ∃ z', fX6_trim z = some z' ∧ FM z z' ∧ z' 151 17 = (ita (tF (T * r 0 / 100) T b) 30 0 (0, 0)).2 ∧ z' 151 18 = T - T * r 0 / 100 - T * r 0 / 100 := by
  have hD0 : 0 ≤ T * r 0 / 100 := by omega
  generalize hDD : T * r 0 / 100 = D at *
  have key := lp_forI (step := fun q => fX6_trim_s29 D q.1 q.2.1 q.2.2) (fun i (a : Int × ZZ) => (a.1, i, a.2)) (fun i a => (a.1 + b i, zup (zup a.2 151 17 (a.2 151 17 + i * max 0 (b i - max 0 (min (b i) (D - a.1)) - max 0 (min (b i) (D - (T - a.1 - b i)))))) 151 18 (a.2 151 18 + max 0 (b i - max 0 (min (b i) (D - a.1)) - max 0 (min (b i) (D - (T - a.1 - b i)))))))  (fun a => a.2)
    (fun i a => a.1 = (ita (tF D T b) i.toNat 0 (0, 0)).1 ∧ a.2 151 17 = (ita (tF D T b) i.toNat 0 (0, 0)).2 ∧ a.2 151 18 = max 0 (min a.1 (T - D) - D) ∧ MB a.2 b T ∧ FM z a.2) 0 30 (0, zup (zup z 151 17 0) 151 18 0) (by omega) (by omega) (by
      refine ⟨rfl, ?_, ?_, ⟨fun g h1 h2 => ?_, ?_⟩, FM_tr (FM_151 (Or.inr (Or.inl rfl))) (FM_151 (Or.inr (Or.inr rfl)))⟩
      · show zup (zup z 151 17 0) 151 18 0 151 17 = 0
        rw [zup_at, if_neg (by decide), zup_at, if_pos rfl]
      · show zup (zup z 151 17 0) 151 18 0 151 18 = max 0 (min 0 (T - D) - D)
        rw [zup_at, if_pos rfl]
        omega
      · show zup (zup z 151 17 0) 151 18 0 157 g = _
        rw [zup_ne (by decide), zup_ne (by decide)]
        exact h.1 g h1 h2
      · show zup (zup z 151 17 0) 151 18 0 151 16 = _
        rw [zup_at, if_neg (by decide), zup_at, if_neg (by decide)]
        exact h.2) (fun i a h1 h2 hp => by
    obtain ⟨p1, p2, p3, ⟨p4, p6⟩, p5⟩ := hp
    have g : inR (i + 1) := inR_s (by omega)
    have ei : (i + 1).toNat = i.toNat + 1 := by omega
    have eN : ((i.toNat : Nat) : Int) = i := Int.toNat_of_nonneg h1
    have hs := sumN_nn hb i.toNat 30 (by omega)
    have hs2 := sumN_nn hb (i.toNat + 1) 30 (by omega)
    have hsum := tF_2 hb hT ⟨hD0, hD⟩ i.toNat (by omega)
    have hsum2 := tF_2 hb hT ⟨hD0, hD⟩ (i.toNat + 1) (by omega)
    rw [tF_1] at p1
    rw [sumN_s, eN] at hs2
    rw [sumN_s, eN] at hsum2
    have hbi := hb i
    have hpiece : max 0 (b i - max 0 (min (b i) (D - a.1)) - max 0 (min (b i) (D - (T - a.1 - b i)))) = max 0 (min (a.1 + b i) (T - D) - max a.1 D) := by omega
    have e2 : (ita (tF D T b) (i.toNat + 1) 0 (0, 0)).2 = a.2 151 17 + i * max 0 (min (a.1 + b i) (T - D) - max a.1 D) := by
      rw [ita_succ, Int.zero_add, eN]
      show (ita (tF D T b) i.toNat 0 (0, 0)).2 + max 0 (min ((ita (tF D T b) i.toNat 0 (0, 0)).1 + b i) (T - D) - max (ita (tF D T b) i.toNat 0 (0, 0)).1 D) * i = _
      rw [p2, tF_1, p1, Int.mul_comm]
    have eb : a.2 157 i = b i := p4 i h1 h2
    have g1 : inR (T - a.1 - b i) := inR_s (by omega)
    have g2 : inR (b i - max 0 (min (b i) (D - a.1)) - max 0 (min (b i) (D - (T - a.1 - b i)))) := inR_s (by omega)
    have g3 : inR (a.2 151 17 + i * max 0 (b i - max 0 (min (b i) (D - a.1)) - max 0 (min (b i) (D - (T - a.1 - b i))))) := by
      rw [hpiece, ← e2]
      exact inR_s (by omega)
    have g4 : inR (a.2 151 18 + max 0 (b i - max 0 (min (b i) (D - a.1)) - max 0 (min (b i) (D - (T - a.1 - b i))))) := inR_s (by omega)
    have g5 : inR (a.1 + b i) := inR_s (by omega)
    refine ⟨?_, ?_, ?_, ?_, ⟨fun g' b1 b2 => ?_, ?_⟩, ?_⟩
    · show fX6_trim_s29 D a.1 i a.2 = _
      unfold fX6_trim_s29 zl
      dsimp only
      have e18 : (zup a.2 151 17 (a.2 151 17 + i * max 0 (b i - max 0 (min (b i) (D - a.1)) - max 0 (min (b i) (D - (T - a.1 - b i)))))) 151 18 = a.2 151 18 := by rw [zup_at, if_neg (by decide)]
      have e157 : ∀ v, (zup (zup a.2 151 17 (a.2 151 17 + i * max 0 (b i - max 0 (min (b i) (D - a.1)) - max 0 (min (b i) (D - (T - a.1 - b i)))))) 151 18 v) 157 i = b i := fun v => by rw [zup_ne (by decide), zup_ne (by decide)]; exact eb
      rw [if_pos h2, if_pos (by omega), eb, m_dropped (by omega) (by omega)]
      simp only [Option.bind_some]
      rw [p6, if_pos g1, m_dropped (by omega) (by omega)]
      simp only [Option.bind_some]
      rw [if_pos g2, if_pos g3, e18, if_pos g4, e157, if_pos g5, if_pos g]
    · show a.1 + b i = _
      rw [ei, tF_1, sumN_s, eN, p1]
    · dsimp only
      rw [zup_at, if_neg (by decide), zup_at, if_pos rfl, ei, e2, hpiece]
    · dsimp only
      rw [zup_at, if_pos rfl, p3, hpiece]
      omega
    · dsimp only
      rw [zup_ne (by decide), zup_ne (by decide)]
      exact p4 g' b1 b2
    · dsimp only
      rw [zup_at, if_neg (by decide), zup_at, if_neg (by decide)]
      exact p6
    · exact FM_tr p5 (FM_tr (FM_151 (Or.inr (Or.inl rfl))) (FM_151 (Or.inr (Or.inr rfl))))) (fun a hp => by
    show fX6_trim_s29 D a.1 30 a.2 = _
    simp only [fX6_trim_s29, if_neg (Int.lt_irrefl 30)])
  have h1 := key.2.1
  have h3 := key.2.2.2.1
  rw [tF_1, show (30 : Int).toNat = 30 from rfl, hT] at h1
  rw [h1] at h3
  refine ⟨_, ?_, key.2.2.2.2.2, key.2.2.1, h3.trans (by omega)⟩
  unfold fX6_trim zl
  dsimp only
  rw [h.2, hM, if_pos (inR_s (by omega)), if_pos (by omega), hDD]
  rw [show zlp (fun q => fX6_trim_s29 D q.1 q.2.1 q.2.2) FU (0, 0, zup (zup z 151 17 0) 151 18 0) = _ from key.1]
  rfl
theorem m_layMean (hM : z 154 = r) (hI : IH B r) (hk : 0 ≤ k ∧ k < r 37) (hg : 0 ≤ gr ∧ gr < 30) (hm : 0 ≤ mo ∧ mo ≤ 20) : ∃ z', fX6_layMean k gr mo z = some z' ∧ FM z z' ∧ z' 151 17 = sS r k gr mo ∧ z' 151 18 = sK r k mo := by
  have hn := hI.1
  unfold IHn at hn
  have hr := hI.2.2.1 k hk.1 hk.2
  have hb := sb_ok hI hk hg hm
  have hf := fb_ok hI hk hg hm
  have hD := sD_ok hI hk hg hm
  obtain ⟨z1, e1, b1, f1⟩ := m_layBallot hM hI hk
  have fin : ∀ z6, MB z6 (fb r k gr mo) (fT r k mo) → FM z z6 → ∃ z', fX6_layMean_b33 z6 = some z' ∧ FM z z' ∧ z' 151 17 = sS r k gr mo ∧ z' 151 18 = sK r k mo := by
    intro z6 b6 f6
    obtain ⟨z7, e7, f7, q1, q2⟩ := m_trim (r := r) b6 (FM_154 f6 hM) hf.1 hf.2.1 hf.2.2 hD.2.2 hD.2.1
    refine ⟨z7, ?_, FM_tr f6 f7, q1, q2⟩
    unfold fX6_layMean_b33
    rw [e7]
    rfl
  have fin2 : ∀ z5, MB z5 (sb r k gr mo) (sT0 r k mo) → FM z z5 → ∃ z', fX6_layMean_b15 k z5 = some z' ∧ FM z z' ∧ z' 151 17 = sS r k gr mo ∧ z' 151 18 = sK r k mo := by
    intro z5 b5 f5
    unfold fX6_layMean_b15
    rw [b5.2]
    by_cases q : sT0 r k mo = 0
    · rw [if_pos q, mg6 (FM_154 f5 hM) (k := k) (c := 1) (by omega)]
      simp only [Option.bind_some]
      have hc := hb.1 (sSet1 r k)
      have hle : sb r k gr mo (sSet1 r k) ≤ 100 := by
        have := sCnt_n (i := r 546) (by omega) (fun m => sVote r k m = sSet1 r k)
        unfold sb
        split <;> split <;> omega
      obtain ⟨z6, e6, b6, f6⟩ := m_cast (g := sSet1 r k) (v := 1) b5 (by unfold sSet1; omega) ⟨hc, by omega⟩ (by omega) (by omega)
      rw [show r (38 + 18 * k + 1) = sSet1 r k from rfl, e6]
      exact fin z6 (MB_congr b6 (fun g a b => by
        unfold rup fb
        rw [if_pos q]
        by_cases e : g = sSet1 r k
        · rw [if_pos e, if_pos e, e]
        · rw [if_neg e, if_neg e, Int.add_zero]) (by unfold fT; rw [if_pos q, q]; rfl)) (FM_tr f5 f6)
    · rw [if_neg q]
      exact fin z5 (MB_congr b5 (fun g a b => by unfold fb; rw [if_neg q]) (by unfold fT; rw [if_neg q])) f5
  unfold fX6_layMean
  rw [e1]
  simp only [Option.bind_some]
  by_cases q : 0 < mo
  · rw [if_pos q]
    have hcg := sCnt_n (i := r 546) (by omega) (fun m => sVote r k m = gr)
    have hct := sCnt_n (i := r 546) (by omega) (fun m => r (38 + 18 * k + (6 + m)) ≠ -1)
    obtain ⟨z5, e5, b5, f5⟩ := m_cast (g := gr) (v := mo) b1 hg (by unfold sVb; split <;> omega) (by unfold sVt; omega) (by omega)
    rw [e5]
    exact fin2 z5 (MB_congr b5 (fun g a b => by
      unfold rup sVb sb
      by_cases e : g = gr
      · rw [if_pos e, if_pos e, e]
      · rw [if_neg e, if_neg e, Int.add_zero]) rfl) (FM_tr f1 f5)
  · rw [if_neg q]
    have e0 : mo = 0 := by omega
    exact fin2 z1 (MB_congr b1 (fun g a b => by
      unfold sVb sb
      rw [e0]
      split <;> split <;> omega) (by unfold sVt sT0; rw [e0]; exact (Int.add_zero _).symm)) f1
theorem m_gradeBy (hM : z 154 = r) (hI : IH B r) (hk : 0 ≤ k ∧ k < r 37) (hg : 0 ≤ gr ∧ gr < 30) (hm : 0 ≤ mo ∧ mo ≤ 20) : ∃ z', fX6_gradeBy k gr mo z = some (sG r k gr mo, z') ∧ FM z z' := by
  obtain ⟨z', e, f, q1, q2⟩ := m_layMean hM hI hk hg hm
  have hs := sS_ok hI hk hg hm
  refine ⟨z', ?_, f⟩
  unfold fX6_gradeBy
  rw [e]
  simp only [Option.bind_some]
  rw [q1, q2, if_pos (inR_s (by omega)), if_pos (inR_s (by omega)), if_pos (by omega)]
  rfl
theorem m_gradeOf (hM : z 154 = r) (hI : IH B r) (hk : 0 ≤ k ∧ k < r 37) : ∃ z', fX6_gradeOf k z = some (sGr r k, z') ∧ FM z z' := by
  obtain ⟨z', e, f⟩ := m_gradeBy hM hI hk (gr := 0) (mo := 0) (by omega) (by omega)
  refine ⟨z', ?_, f⟩
  unfold fX6_gradeOf
  rw [e]
  rfl
end GM

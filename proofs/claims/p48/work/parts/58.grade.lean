theorem sCnt_s {i : Int} (h : 0 ≤ i) (p : Int → Prop) [∀ k, Decidable (p k)] : sCnt (i + 1) p = if p i then sCnt i p + 1 else sCnt i p := by
  obtain ⟨n, rfl⟩ : ∃ n : Nat, i = n := ⟨i.toNat, by omega⟩
  have := sCnt_succ n p
  rw [show ((n + 1 : Nat) : Int) = (n : Int) + 1 by omega] at this
  exact this
theorem sCnt_n {i : Int} (h : 0 ≤ i) (p : Int → Prop) [∀ k, Decidable (p k)] : 0 ≤ sCnt i p ∧ sCnt i p ≤ i := by
  have := sCnt_nn p i.toNat
  rw [Int.toNat_of_nonneg h] at this
  exact this
theorem CB_congr {z : ZZ} {b b' : Int → Int} {t t' : Int} (h : CB z b t) (hb : ∀ g, 0 ≤ g → g < 30 → b g = b' g) (ht : t = t') : CB z b' t' := ⟨fun g a b => (h.1 g a b).trans (hb g a b), h.2.trans ht⟩
abbrev sVb (r : Row) (k i g : Int) : Int := sCnt i (fun m => sVote r k m = g) + (if g = sSet1 r k then r 1 else 0)
abbrev sVt (r : Row) (k i : Int) : Int := sCnt i (fun m => r (38 + 18 * k + (6 + m)) ≠ -1) + r 1
section GC
variable {z : ZZ} {r : Row} {B : Int} {k gr mo : Int}
theorem c_fill (hR : RC z r) (hI : IH B r) (hk : 0 ≤ k ∧ k < r 37) (hg : 0 ≤ gr ∧ gr < 30) (hm : 0 ≤ mo ∧ mo ≤ 20) : ∃ z', fX1_fillBallot k gr mo z = some z' ∧ Fra F12 z z' ∧ z' 1 2 = sS r k gr mo ∧ z' 1 3 = sK r k mo := by
  have hn := hI.1
  unfold IHn at hn
  have hr := hI.2.2.1 k hk.1 hk.2
  have hb := sb_ok hI hk hg hm
  have hf := fb_ok hI hk hg hm
  have hD := sD_ok hI hk hg hm
  obtain ⟨z2, e2, b2, f2⟩ := c_bclear (z := z)
  have hR2 := RC_12 hR f2
  obtain ⟨z3, e3, b3, f3⟩ := c_addVotes (g := sSet1 r k) (v := r 1) b2 (by unfold sSet1; omega) ⟨Int.le_refl 0, by decide⟩ ⟨Int.le_refl 0, by decide⟩ (by omega)
  have f23 := Fra_trans f2 f3
  have key := lp_forI (step := fun q => fX1_fillBallot_s34 k gr mo (sSet1 r k) q.1 q.2) (fun i (a : ZZ) => (i, a)) (fun i a => if sVote r k i = -1 then a else (fX0_addVotes (sVote r k i) 1 a).getD a) (fun a => a)
    (fun i a => CB a (sVb r k i) (sVt r k i) ∧ Fra F12 z a) 0 (r 546) z3 (by omega) (by omega) ⟨CB_congr b3 (fun g a b => by
      show rup _ _ _ g = sVb r k 0 g
      unfold rup sVb
      dsimp only
      rw [show sCnt 0 (fun m => sVote r k m = g) = 0 from rfl]
      split <;> omega) (by
      unfold sVt
      rw [show sCnt 0 (fun m => r (38 + 18 * k + (6 + m)) ≠ -1) = 0 from rfl]), f23⟩ (fun i a h1 h2 h => by
    obtain ⟨p1, p2⟩ := h
    have g : inR (i + 1) := inR_s (by omega)
    have g3 : inR (6 + i) := inR_s (by omega)
    have hRa := RC_12 hR p2
    have hv := hr.2.2.2.2.2 i h1 (by omega)
    by_cases q : sVote r k i = -1
    · refine ⟨?_, ?_⟩
      · show fX1_fillBallot_s34 k gr mo (sSet1 r k) i a = _
        simp only [fX1_fillBallot_s34, (RCn hRa).2.2.2.2.1, if_pos h2, if_pos g, if_pos g3, cg6 hRa hI hk (c := 6 + i) (by omega), Option.bind_some, c_addVotes_no (z := a) (g := r (38 + 18 * k + (6 + i))) (v := 1) (by unfold sVote at q; omega), if_pos q]
      · show CB (if sVote r k i = -1 then a else _) _ _ ∧ Fra F12 z (if sVote r k i = -1 then a else _)
        rw [if_pos q]
        refine ⟨CB_congr p1 (fun g' a1 a2 => ?_) ?_, p2⟩
        · unfold sVb
          rw [sCnt_s h1, if_neg (show ¬ sVote r k i = g' by omega)]
        · unfold sVt
          rw [sCnt_s h1, if_neg (fun w => w q)]
    · have hc := sCnt_n h1 (fun m => sVote r k m = sVote r k i)
      have hct := sCnt_n h1 (fun m => r (38 + 18 * k + (6 + m)) ≠ -1)
      obtain ⟨a', ea, ba, fa⟩ := c_addVotes (g := sVote r k i) (v := 1) p1 (by unfold sVote at *; omega) (by unfold sVb; split <;> omega) (by unfold sVt; omega) (by omega)
      refine ⟨?_, ?_⟩
      · show fX1_fillBallot_s34 k gr mo (sSet1 r k) i a = _
        simp only [fX1_fillBallot_s34, (RCn hRa).2.2.2.2.1, if_pos h2, if_pos g, if_pos g3, cg6 hRa hI hk (c := 6 + i) (by omega), Option.bind_some, if_neg q]
        rw [ea]
        rfl
      · show CB (if sVote r k i = -1 then a else _) _ _ ∧ Fra F12 z (if sVote r k i = -1 then a else _)
        rw [if_neg q, ea]
        refine ⟨CB_congr ba (fun g' a1 a2 => ?_) ?_, Fra_trans p2 fa⟩
        · unfold rup sVb
          rw [sCnt_s h1]
          by_cases e : g' = sVote r k i
          · rw [if_pos e, if_pos e.symm, e]; omega
          · rw [if_neg e, if_neg (show ¬ sVote r k i = g' from fun w => e w.symm)]
        · unfold sVt
          rw [sCnt_s h1, if_pos q]; omega) (fun a h => by
    have hRa := RC_12 hR h.2
    show fX1_fillBallot_s34 k gr mo (sSet1 r k) (r 546) a = _
    simp only [fX1_fillBallot_s34, (RCn hRa).2.2.2.2.1, if_neg (Int.lt_irrefl (r 546))])
  generalize hz4 : ita (fun i a => if sVote r k i = -1 then a else (fX0_addVotes (sVote r k i) 1 a).getD a) (r 546 - 0).toNat 0 z3 = z4 at key
  obtain ⟨k1, k2, k3⟩ := key
  have hcg := sCnt_n (i := r 546) (by omega) (fun m => sVote r k m = gr)
  have hct := sCnt_n (i := r 546) (by omega) (fun m => r (38 + 18 * k + (6 + m)) ≠ -1)
  obtain ⟨z5, e5, b5, f5⟩ := c_addVotes (g := gr) (v := mo) k2 hg (by unfold sVb; split <;> omega) (by unfold sVt; omega) (by omega)
  have b5' : CB z5 (sb r k gr mo) (sT0 r k mo) := CB_congr b5 (fun g a b => by
    unfold rup sVb sb
    by_cases e : g = gr
    · rw [if_pos e, if_pos e, e]
    · rw [if_neg e, if_neg e, Int.add_zero]) rfl
  have f05 := Fra_trans k3 f5
  have hR5 := RC_12 hR f05
  have fin : ∀ z6, CB z6 (fb r k gr mo) (fT r k mo) → Fra F12 z z6 → ∃ z', fX1_fillBallot_b102 z6 = some z' ∧ Fra F12 z z' ∧ z' 1 2 = sS r k gr mo ∧ z' 1 3 = sK r k mo := by
    intro z6 b6 f6
    have hR6 := RC_12 hR f6
    obtain ⟨z7, e7, f7, q1, q2⟩ := c_trim (tr := r 0) b6 hf.1 hf.2.1 hf.2.2 hD.2.2 hD.2.1
    refine ⟨z7, ?_, Fra_trans f6 f7, q1, q2⟩
    unfold fX1_fillBallot_b102
    rw [(RCn hR6).2.2.2.2.2.2.2.1, e7]
    rfl
  have hset : fX4_get 6 k 1 z = some (sSet1 r k) := cg6 hR hI hk (c := 1) (by omega)
  unfold fX1_fillBallot
  rw [hset]
  simp only [Option.bind_some]
  rw [e2]
  simp only [Option.bind_some]
  rw [(RCn hR2).2.2.2.2.2.2.2.2.1, e3]
  simp only [Option.bind_some]
  rw [show zlp (fun q => fX1_fillBallot_s34 k gr mo (sSet1 r k) q.1 q.2) FU (0, z3) = _ from k1]
  simp only [Option.bind_some]
  rw [e5]
  simp only [Option.bind_some]
  rw [b5'.2]
  by_cases q : sT0 r k mo = 0
  · rw [if_pos q]
    have hc := hb.1 (sSet1 r k)
    have hle : sb r k gr mo (sSet1 r k) ≤ 100 := by
      have := sCnt_n (i := r 546) (by omega) (fun m => sVote r k m = sSet1 r k)
      unfold sb
      split <;> split <;> omega
    obtain ⟨z6, e6, b6, f6⟩ := c_addVotes (g := sSet1 r k) (v := 1) b5' (by unfold sSet1; omega) ⟨hc, by omega⟩ (by omega) (by omega)
    rw [e6]
    exact fin z6 (CB_congr b6 (fun g a b => by
      unfold rup fb
      rw [if_pos q]
      by_cases e : g = sSet1 r k
      · rw [if_pos e, if_pos e, e]
      · rw [if_neg e, if_neg e, Int.add_zero]) (by unfold fT; rw [if_pos q, q]; rfl)) (Fra_trans f05 f6)
  · rw [if_neg q]
    exact fin z5 (CB_congr b5' (fun g a b => by unfold fb; rw [if_neg q]) (by unfold fT; rw [if_neg q])) f05
theorem c_near {z : ZZ} {S K : Int} (h1 : z 1 2 = S) (h2 : z 1 3 = K) (hS : 0 ≤ S ∧ S ≤ 29 * K) (hK : 1 ≤ K ∧ K ≤ 42) : fX0_nearestGrade z = some ((2 * S + K) / (2 * K)) := by
  unfold fX0_nearestGrade
  rw [h1, h2, if_pos (by omega), if_pos (inR_s (by omega)), if_pos (inR_s (by omega)), if_pos (by omega)]
abbrev sGr (r : Row) (k : Int) : Int := sG r k 0 0
theorem c_gradeOf (hR : RC z r) (hI : IH B r) (hk : 0 ≤ k ∧ k < r 37) : ∃ z', fX1_gradeOf k z = some (sGr r k, z') ∧ Fra F12 z z' := by
  obtain ⟨z', e, f, q1, q2⟩ := c_fill hR hI hk (gr := 0) (mo := 0) (by omega) (by omega)
  have hs := sS_ok hI hk (gr := 0) (mo := 0) (by omega) (by omega)
  refine ⟨z', ?_, f⟩
  unfold fX1_gradeOf
  rw [e]
  simp only [Option.bind_some]
  rw [c_near q1 q2 ⟨hs.1, hs.2.1⟩ hs.2.2]
  rfl
theorem sGr_ok (hI : IH B r) (hk : 0 ≤ k ∧ k < r 37) : 0 ≤ sGr r k ∧ sGr r k ≤ 29 := sG_ok hI hk (by omega) (by omega)
end GC
/-! the model's ballot -/
def MB (z : ZZ) (b : Int → Int) (t : Int) : Prop := (∀ g, 0 ≤ g → g < 30 → z 157 g = b g) ∧ z 151 16 = t
def FM (z z' : ZZ) : Prop := (∀ a, a ≠ 151 → a ≠ 157 → z' a = z a) ∧ ∀ j, j ≠ 16 → j ≠ 17 → j ≠ 18 → z' 151 j = z 151 j
theorem FM_rf (z : ZZ) : FM z z := ⟨fun _ _ _ => rfl, fun _ _ _ _ => rfl⟩
theorem FM_tr {z z' z'' : ZZ} (h : FM z z') (h2 : FM z' z'') : FM z z'' := ⟨fun a p q => (h2.1 a p q).trans (h.1 a p q), fun j p q w => (h2.2 j p q w).trans (h.2 j p q w)⟩
theorem FM_157 {z : ZZ} {k v : Int} : FM z (zup z 157 k v) := ⟨fun a p q => zup_ne q, fun j p q w => by rw [zup_ne (by decide)]⟩
theorem FM_151 {z : ZZ} {k v : Int} (hk : k = 16 ∨ k = 17 ∨ k = 18) : FM z (zup z 151 k v) := ⟨fun a p q => zup_ne p, fun j p q w => by rw [zup_at, if_neg (by omega)]⟩
theorem FM_154 {z z' : ZZ} {r : Row} (h : FM z z') (hM : z 154 = r) : z' 154 = r := (h.1 154 (by decide) (by decide)).trans hM
theorem MB_congr {z : ZZ} {b b' : Int → Int} {t t' : Int} (h : MB z b t) (hb : ∀ g, 0 ≤ g → g < 30 → b g = b' g) (ht : t = t') : MB z b' t' := ⟨fun g a b => (h.1 g a b).trans (hb g a b), h.2.trans ht⟩
section GM
variable {z : ZZ} {r : Row} {B : Int} {k gr mo : Int}
end GM

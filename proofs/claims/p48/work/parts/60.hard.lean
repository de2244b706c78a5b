section MD
variable {z : ZZ} {r : Row} {B : Int} {k gr mo w : Int}
/-! the hardest route on a wall -/
def sHard (r : Row) (w : Int) : Int × Int := ita (fun k q => if r (38 + 18 * k + 0) = w ∧ q.2 < sGr r k then (k, sGr r k) else q) (r 37).toNat 0 (-1, -1)
theorem c_hard (hR : RC z r) (hI : IH B r) : ∃ z', fX1_hardestOn w z = some ((sHard r w).1, z') ∧ Fra F12 z z' := by
  have hn := hI.1
  unfold IHn at hn
  have key := lp_forI (step := fun q => fX1_hardestOn_s7 w q.1 q.2.1 q.2.2.1 q.2.2.2) (fun i (a : (Int × Int) × ZZ) => (a.1.1, a.1.2, i, a.2))
    (fun i a => (if r (38 + 18 * i + 0) = w ∧ a.1.2 < sGr r i then (i, sGr r i) else a.1, if r (38 + 18 * i + 0) = w then (if a.1.2 < sGr r i then ((fX1_gradeOf i ((fX1_gradeOf i a.2).getD (0, a.2)).2).getD (0, a.2)).2 else ((fX1_gradeOf i a.2).getD (0, a.2)).2) else a.2)) (fun a => (a.1.1, a.2))
    (fun i a => a.1 = ita (fun k q => if r (38 + 18 * k + 0) = w ∧ q.2 < sGr r k then (k, sGr r k) else q) i.toNat 0 (-1, -1) ∧ Fra F12 z a.2) 0 (r 37) ((-1, -1), z) (by omega) (by omega) ⟨rfl, fun _ _ => rfl⟩ (fun i a h1 h2 h => by
    have g : inR (i + 1) := inR_s (by omega)
    have hRa := RC_12 hR h.2
    have e1 : (i + 1).toNat = i.toNat + 1 := by omega
    have eN : ((i.toNat : Nat) : Int) = i := Int.toNat_of_nonneg h1
    obtain ⟨z1, e, f⟩ := c_gradeOf (k := i) hRa hI ⟨h1, h2⟩
    obtain ⟨z2, e2, f2⟩ := c_gradeOf (k := i) (RC_12 hRa f) hI ⟨h1, h2⟩
    refine ⟨?_, ?_, ?_⟩
    · show fX1_hardestOn_s7 w a.1.1 a.1.2 i a.2 = _
      unfold fX1_hardestOn_s7 fX1_hardestOn_b53
      dsimp only
      rw [(RCn hRa).2.1, if_pos h2, cg6 hRa hI ⟨h1, h2⟩ (by omega)]
      simp only [Option.bind_some]
      by_cases q : r (38 + 18 * i + 0) = w
      · rw [if_pos q, if_pos q, e]
        simp only [Option.bind_some, Option.getD_some]
        by_cases q2 : a.1.2 < sGr r i
        · rw [if_pos q2, if_pos q2, if_pos (show (r (38 + 18 * i + 0) = w ∧ a.1.2 < sGr r i) from ⟨q, q2⟩), e2]
          simp only [Option.bind_some, Option.getD_some]
          rw [if_pos g]
        · rw [if_neg q2, if_neg q2, if_pos g, if_neg (show ¬ (r (38 + 18 * i + 0) = w ∧ a.1.2 < sGr r i) from fun x => q2 x.2)]
      · rw [if_neg q, if_neg q, if_pos g, if_neg (show ¬ (r (38 + 18 * i + 0) = w ∧ a.1.2 < sGr r i) from fun x => q x.1)]
    · dsimp only
      rw [e1, ita_succ, Int.zero_add, eN, ← h.1]
    · dsimp only
      rw [e]
      simp only [Option.getD_some]
      rw [e2]
      simp only [Option.getD_some]
      by_cases q : r (38 + 18 * i + 0) = w
      · rw [if_pos q]
        by_cases q2 : a.1.2 < sGr r i
        · rw [if_pos q2]; exact Fra_trans h.2 (Fra_trans f f2)
        · rw [if_neg q2]; exact Fra_trans h.2 f
      · rw [if_neg q]; exact h.2) (fun a h => by
    show fX1_hardestOn_s7 w a.1.1 a.1.2 (r 37) a.2 = _
    unfold fX1_hardestOn_s7
    rw [(RCn (RC_12 hR h.2)).2.1, if_neg (Int.lt_irrefl (r 37))])
  refine ⟨_, ?_, key.2.2⟩
  unfold fX1_hardestOn
  rw [show zlp (fun q => fX1_hardestOn_s7 w q.1 q.2.1 q.2.2.1 q.2.2.2) FU ((-1), (-1), 0, z) = _ from key.1]
  simp only [Option.bind_some]
  rw [key.2.1]
  rfl
/-! how many votes make a grade -/
theorem c_vt (hR : RC z r) (hI : IH B r) (hk : 0 ≤ k ∧ k < r 37) (hg : 0 ≤ gr ∧ gr < 30) : (∃ i z', 0 ≤ i ∧ i < 21 ∧ sG r k gr i = gr ∧ (∀ j, 0 ≤ j → j < i → sG r k gr j ≠ gr) ∧ Fra F12 z z' ∧ zlp (fun q => fX5_votesTo_s20 k gr q.1 q.2) FU (0, z) = some (.inr (.inl i, z'))) ∨
    ((∀ j, 0 ≤ j → j < 21 → sG r k gr j ≠ gr) ∧ ∃ z', Fra F12 z z' ∧ zlp (fun q => fX5_votesTo_s20 k gr q.1 q.2) FU (0, z) = some (.inl z')) := by
  have key := lp_scan (step := fun q => fX5_votesTo_s20 k gr q.1 q.2) (fun i (a : ZZ) => (i, a)) (fun i a => ((fX1_gradeWithMore k gr i a).getD (0, a)).2) (fun i => sG r k gr i = gr) (fun i a => .inr (.inl i, ((fX1_gradeWithMore k gr i a).getD (0, a)).2)) (fun a => .inl a) (fun _ a => Fra F12 z a) 21 21 0 z FU (FU_lt (by omega)) (by omega) (fun _ _ => rfl) (fun i a h1 h2 h h3 => by
    obtain ⟨z', e, f⟩ := c_gradeBy (RC_12 hR h) hI hk hg (mo := i) (by omega)
    refine ⟨?_, ?_⟩
    · show fX5_votesTo_s20 k gr i a = _
      unfold fX5_votesTo_s20
      rw [if_neg (by omega), e]
      simp only [Option.bind_some, Option.getD_some]
      rw [if_neg h3, if_pos (inR_s (by omega))]
    · show Fra F12 z ((fX1_gradeWithMore k gr i a).getD (0, a)).2
      rw [e]
      exact Fra_trans h f) (fun i a h1 h2 h h3 => by
    obtain ⟨z', e, f⟩ := c_gradeBy (RC_12 hR h) hI hk hg (mo := i) (by omega)
    show fX5_votesTo_s20 k gr i a = _
    unfold fX5_votesTo_s20
    rw [if_neg (by omega), e]
    simp only [Option.bind_some, Option.getD_some]
    rw [if_pos h3]) (fun a h => by
    show fX5_votesTo_s20 k gr 21 a = _
    unfold fX5_votesTo_s20
    rw [if_pos (by omega)])
  rcases key with ⟨i, b, h1, h2, h3, h4, h5, h6⟩ | ⟨h1, h2, h3⟩
  · obtain ⟨z', e, f⟩ := c_gradeBy (RC_12 hR h5) hI hk hg (mo := i) (by omega)
    rw [e] at h6
    exact Or.inl ⟨i, z', h1, h2, h3, h4, Fra_trans h5 f, h6⟩
  · exact Or.inr ⟨h1, _, h2, h3⟩
/-! the mean in lowest terms -/
abbrev sGcd (a b : Int) : Int := ((Nat.gcd a.toNat b.toNat : Nat) : Int)
theorem c_mean_lp {S K s0 : Int} (h2 : z 1 2 = S) (h3 : z 1 3 = K) (hS : 0 ≤ S) (hK : 1 ≤ K ∧ K ≤ 42) (h0 : 0 ≤ s0) : ∀ (n fuel : Nat), n < fuel → sGcd S K ≤ n → n ≤ 100 → 1 ≤ n →
    zlp (fun q => fX1_meanOf_s38 s0 q z) fuel (n : Int) = some (if 1 < sGcd S K then .inr (s0 / sGcd S K, z) else .inl ())
  | n, 0, h, _, _, _ => by omega
  | n, f + 1, h, hg, hn, h1 => by
    by_cases q : 1 < n
    · have eK : ((K.toNat : Nat) : Int) = K := Int.toNat_of_nonneg (by omega)
      have eS : ((S.toNat : Nat) : Int) = S := Int.toNat_of_nonneg hS
      have mK : K % (n : Int) = ((K.toNat % n : Nat) : Int) := by rw [Int.natCast_emod, eK]
      have mS : S % (n : Int) = ((S.toNat % n : Nat) : Int) := by rw [Int.natCast_emod, eS]
      by_cases d : K.toNat % n = 0 ∧ S.toNat % n = 0
      · have hd : n ∣ Nat.gcd S.toNat K.toNat := Nat.dvd_gcd (Nat.dvd_of_mod_eq_zero d.2) (Nat.dvd_of_mod_eq_zero d.1)
        have hp : 0 < Nat.gcd S.toNat K.toNat := Nat.gcd_pos_of_pos_right _ (by omega)
        have hle := Nat.le_of_dvd hp hd
        have e : sGcd S K = n := by unfold sGcd at *; omega
        rw [e, if_pos (by omega)]
        refine zlp_end ?_
        show fX1_meanOf_s38 s0 n z = _
        unfold fX1_meanOf_s38
        rw [h2, h3, if_pos (by omega), if_pos (by omega), mK, mS, if_pos (by omega), if_pos (by omega), if_pos (by omega), if_pos (by omega)]
      · have hne : sGcd S K ≠ n := by
          intro e
          have e' : Nat.gcd S.toNat K.toNat = n := by unfold sGcd at e; omega
          exact d ⟨Nat.mod_eq_zero_of_dvd (e' ▸ Nat.gcd_dvd_right _ _), Nat.mod_eq_zero_of_dvd (e' ▸ Nat.gcd_dvd_left _ _)⟩
        have e1 : (n : Int) + -1 = ((n - 1 : Nat) : Int) := by omega
        have st : (fun q : Int => fX1_meanOf_s38 s0 q z) (n : Int) = some (.inl ((n - 1 : Nat) : Int)) := by
          show fX1_meanOf_s38 s0 n z = _
          unfold fX1_meanOf_s38 fX1_meanOf_b75
          rw [h2, h3, if_pos (by omega), if_pos (by omega), mK, mS, if_pos (inR_s (by omega)), e1]
          by_cases d1 : K.toNat % n = 0
          · rw [if_pos (by omega), if_pos (by omega), if_neg (fun x => d ⟨d1, by omega⟩)]
          · rw [if_neg (by omega)]
        rw [zlp_next st]
        exact c_mean_lp h2 h3 hS hK h0 (n - 1) f (by omega) (by omega) (by omega) (by omega)
    · rw [if_neg (by omega)]
      refine zlp_end ?_
      show fX1_meanOf_s38 s0 n z = _
      unfold fX1_meanOf_s38
      rw [if_neg (by omega)]
def sMean (r : Row) (k v : Int) : Int := (if v = 0 then sS r k 0 0 else sK r k 0) / sGcd (sS r k 0 0) (sK r k 0)
theorem sGcd_ok {a b : Int} (hb : 1 ≤ b) : 1 ≤ sGcd a b ∧ sGcd a b ≤ b := by
  have hp : 0 < Nat.gcd a.toNat b.toNat := Nat.gcd_pos_of_pos_right _ (by omega)
  have hl := Nat.le_of_dvd (by omega) (Nat.gcd_dvd_right a.toNat b.toNat)
  unfold sGcd
  omega
theorem c_mean_b {S K s0 : Int} (h2 : z 1 2 = S) (h3 : z 1 3 = K) (hS : 0 ≤ S) (hK : 1 ≤ K ∧ K ≤ 42) (h0 : 0 ≤ s0) : fX1_meanOf_b28 s0 z = some (s0 / sGcd S K, z) := by
  have hg := sGcd_ok (a := S) hK.1
  have h := c_mean_lp h2 h3 hS hK h0 K.toNat FU (by show _ < 100000; omega) (by omega) (by omega) (by omega)
  rw [Int.toNat_of_nonneg (by omega)] at h
  unfold fX1_meanOf_b28
  rw [h3, h]
  simp only [Option.bind_some]
  by_cases q : 1 < sGcd S K
  · rw [if_pos q]
  · rw [if_neg q, show sGcd S K = 1 by omega, Int.ediv_one]
theorem c_mean {v : Int} (hR : RC z r) (hI : IH B r) (hk : 0 ≤ k ∧ k < r 37) : ∃ z', fX1_meanOf k v z = some (sMean r k v, z') ∧ Fra F12 z z' := by
  obtain ⟨z', e, f, q1, q2⟩ := c_fill hR hI hk (gr := 0) (mo := 0) (by omega) (by omega)
  have hs := sS_ok hI hk (gr := 0) (mo := 0) (by omega) (by omega)
  refine ⟨z', ?_, f⟩
  unfold fX1_meanOf sMean
  rw [e]
  simp only [Option.bind_some]
  by_cases q : v = 0
  · rw [if_pos q, if_pos q, q1, c_mean_b q1 q2 hs.1 hs.2.2 hs.1]
  · rw [if_neg q, if_neg q, q2, c_mean_b q1 q2 hs.1 hs.2.2 (by omega)]
end MD

set_option maxRecDepth 20000
section GR
variable {col : Col} {D : DD} {g : Int} {r : Row} {M B : Int} {h : HLs}
theorem sCnt_cgr {p q : Int → Prop} [∀ k, Decidable (p k)] [∀ k, Decidable (q k)] : ∀ n : Nat, (∀ k : Int, 0 ≤ k → k < n → (p k ↔ q k)) → sCnt (n : Int) p = sCnt (n : Int) q
  | 0, _ => rfl
  | n + 1, h => by
    rw [sCnt_nat, sCnt_nat, sCnt_cgr n (fun k h1 h2 => h k h1 (by omega))]
    have := h n (by omega) (by omega)
    by_cases c : p n
    · rw [if_pos c, if_pos (this.mp c)]
    · rw [if_neg c, if_neg (fun z => c (this.mpr z))]
theorem round_div {S K : Int} (hS : 0 ≤ S) (hK : 0 < K) : (if 2 * (S - S / K * K) < K then S / K else S / K + 1) = (2 * S + K) / (2 * K) := by
  have e := Int.emod_add_mul_ediv S K
  have m0 := Int.emod_nonneg S (show K ≠ 0 by omega)
  have m1 := Int.emod_lt_of_pos S hK
  have e1 : S - S / K * K = S % K := by rw [Int.mul_comm (S / K) K]; omega
  rw [e1]
  generalize hq : S / K = q at e ⊢
  generalize hr : S % K = p at e m0 m1 ⊢
  have e2 : 2 * S + K = (2 * p + K) + 2 * K * q := by
    rw [← e, Int.mul_assoc, Int.mul_add]
    omega
  rw [e2, Int.add_mul_ediv_left _ _ (show 2 * K ≠ 0 by omega)]
  by_cases c : 2 * p < K
  · rw [if_pos c, Int.ediv_eq_zero_of_lt (by omega) (by omega)]
    omega
  · rw [if_neg c, show 2 * p + K = (2 * p - K) + 2 * K * 1 by omega, Int.add_mul_ediv_left _ _ (show 2 * K ≠ 0 by omega), Int.ediv_eq_zero_of_lt (by omega) (by omega)]
    omega
theorem bal_sums {L : List (Int × Int)} {k : Nat} {l' : List Int} (hI : IH B r) (hk : (k : Int) < r 37) (h1 : VT L (fun m => r (38 + 18 * k + (6 + m))) (r 546)) (h2 : l'.Perm (bal L (r 1) (r (38 + 18 * k + 1)))) (h3 : sorted l') (hb : ∀ v ∈ l', 0 ≤ v ∧ v ≤ 29) :
    cutS l' (l'.length * (r 0).toNat / 100) (l'.length - l'.length * (r 0).toNat / 100 - l'.length * (r 0).toNat / 100) = sS r k 0 0 ∧ ((l'.length - l'.length * (r 0).toNat / 100 - l'.length * (r 0).toNat / 100 : Nat) : Int) = sK r k 0 ∧ 0 < sK r k 0 ∧ 0 ≤ sS r k 0 0 ∧ sS r k 0 0 ≤ 29 * l'.length ∧ (l'.length : Int) ≤ 23 := by
  have hn := hI.1
  have n0 : 0 ≤ r 546 ∧ r 546 ≤ 12 := by unfold IHn at hn; omega
  have i1 : 0 ≤ r 1 ∧ r 1 ≤ 10 := by unfold IHn at hn; omega
  have i0 : 0 ≤ r 0 ∧ r 0 ≤ 40 := by unfold IHn at hn; omega
  have en : ((r 546).toNat : Int) = r 546 := Int.toNat_of_nonneg n0.1
  have hlen : (L.length : Int) = sVotes r k := by
    have q : (L.length : Int) = sCnt (r 546) (fun m => r (38 + 18 * k + (6 + m)) ≠ -1 ∧ True) := VT_len h1 n0.1
    rw [q]
    show _ = sCnt (r 546) (fun m => r (38 + 18 * k + (6 + m)) ≠ -1)
    rw [← en]
    exact sCnt_cgr _ (fun m _ _ => by simp)
  have hv12 : (L.length : Int) ≤ 12 := by
    have q2 := sCnt_bd (fun m => r (38 + 18 * k + (6 + m)) ≠ -1) (r 546).toNat
    rw [en] at q2
    have : sVotes r k = sCnt (r 546) (fun m => r (38 + 18 * k + (6 + m)) ≠ -1) := rfl
    omega
  have ll : (l'.length : Int) = fT r k 0 := by
    rw [h2.length_eq, bal_len i1.1, hlen]
    unfold fT sT0
    simp only [Int.add_zero]
  have llb : (l'.length : Int) ≤ 23 := by
    rw [h2.length_eq, bal_len i1.1]
    split <;> omega
  have llp : 0 < (l'.length : Int) := by
    rw [h2.length_eq, bal_len i1.1]
    split <;> omega
  have hmul : ((l'.length * (r 0).toNat : Nat) : Int) = (l'.length : Int) * r 0 := by rw [Int.natCast_mul, Int.toNat_of_nonneg i0.1]
  have hml : l'.length * (r 0).toNat ≤ l'.length * 40 := Nat.mul_le_mul_left _ (by omega)
  generalize hd : l'.length * (r 0).toNat / 100 = d
  have dd : d + d ≤ l'.length ∧ 0 < l'.length - d - d := by omega
  have hsD : (d : Int) = sDr r k 0 := by
    unfold sDr
    rw [← ll, ← hmul]
    omega
  have hcnt : ∀ g, 0 ≤ g → g < 30 → fb r k 0 0 g = (cL l' g : Int) := by
    intro g g0 g1
    rw [cL_perm h2, bal_cnt i1.1, hlen]
    have e1 : (cL (L.map Prod.snd) g : Int) = sCnt (r 546) (fun m => sVote r k m = g) := by
      have q := cnt_VT h1 (fun v => v = g) (r 546).toNat (by omega)
      have q1 : ((L.filter (fun q : Int × Int => decide (q.1 < ((r 546).toNat : Int) ∧ q.2 = g))).length : Int) = (cL (L.map Prod.snd) g : Int) := by
        unfold cL
        rw [List.filter_map, List.length_map]
        congr 2
        apply List.filter_congr
        intro x hx
        have := (h1.2.1 x hx).1.2
        have h9 : x.1 < ((r 546).toNat : Int) := by omega
        show decide (x.1 < ((r 546).toNat : Int) ∧ x.2 = g) = decide (x.2 = g)
        rw [decide_eq_decide]
        exact ⟨fun z => z.2, fun z => ⟨h9, z⟩⟩
      rw [← q1, q, ← en]
      refine sCnt_cgr _ (fun m m0 m1 => ?_)
      show (r (38 + 18 * k + (6 + m)) ≠ -1 ∧ r (38 + 18 * k + (6 + m)) = g) ↔ r (38 + 18 * k + (6 + m)) = g
      exact ⟨fun z => z.2, fun z => ⟨by omega, z⟩⟩
    rw [e1]
    unfold fb sb sT0 sSet1
    simp only [Int.add_zero]
    by_cases c : sVotes r k + r 1 = 0
    · rw [if_pos c, if_pos c]
      split <;> simp
    · rw [if_neg c, if_neg c]
      split <;> simp
  have key := cut_fold h3 hb dd.1 hcnt
  have hS : cutS l' d (l'.length - d - d) = sS r k 0 0 := by
    rw [← key]
    unfold sS
    rw [← hsD, ← ll]
  have hK : ((l'.length - d - d : Nat) : Int) = sK r k 0 := by
    unfold sK
    rw [← hsD, ← ll]
    omega
  have bd := cutS_bd hb d (l'.length - d - d) (by omega)
  rw [hS] at bd
  exact ⟨hS, hK, by rw [← hK]; omega, bd.1, by omega, llb⟩
theorem bal_bd {L : List (Int × Int)} {f : Int → Int} {n m s : Int} (h : VT L f n) (hs : 0 ≤ s ∧ s ≤ 29) : ∀ v ∈ bal L m s, 0 ≤ v ∧ v ≤ 29 := fun v hv => by
  unfold bal at hv
  split at hv
  · rw [List.mem_singleton] at hv
    rw [hv]; exact hs
  · rcases List.mem_append.mp hv with q | q
    · obtain ⟨p, p1, p2⟩ := List.mem_map.mp q
      rw [← p2]
      exact (h.2.1 p p1).2
    · rw [(List.mem_replicate.mp q).2]; exact hs
/-- the grade, as the class's -/
theorem l_grade (H : RLh col D g r M h) (hI : IH B r) {k : Nat} (hk : k < h.lr.length) (hT : dT D + 40 < 600000) (hS : dS D + 1500 ≤ 7200000) :
    ∃ D' col', fX6_grade_ g (h.lr.getD k 0) D = some (sG r k 0 0, D') ∧ RLh col' D' g r M h ∧ (∀ a, a < dT D → col' a = col a) ∧ Ev (fun a => col a = (g, h.lr.getD k 0)) 40 1500 D D' := by
  have hkr : (k : Int) < r 37 := by have := H.nr; omega
  obtain ⟨u, D', col', L, l', w1, w2, w3, w4, w5, w6, w7, w8, w9, w10, w11⟩ := l_mean0 H hI hk hT hS
  have hr := hI.2.2.1 k (by omega) hkr
  have hb : ∀ v ∈ l', 0 ≤ v ∧ v ≤ 29 := fun v hv => bal_bd w5 hr.2.1 v (w7.mem_iff.mp hv)
  obtain ⟨s1, s2, s3, s4, s5, s6⟩ := bal_sums hI hkr w5 w7 w8 hb
  rw [s1] at w9
  rw [s2] at w10
  have hK23 : sK r k 0 ≤ 23 := by rw [← s2]; omega
  have hd : 0 ≤ sS r k 0 0 - sS r k 0 0 / sK r k 0 * sK r k 0 ∧ sS r k 0 0 - sS r k 0 0 / sK r k 0 * sK r k 0 < 100 := by
    have e := Int.emod_add_mul_ediv (sS r k 0 0) (sK r k 0)
    have m0 := Int.emod_nonneg (sS r k 0 0) (show sK r k 0 ≠ 0 by omega)
    have m1 := Int.emod_lt_of_pos (sS r k 0 0) s3
    rw [Int.mul_comm (sS r k 0 0 / sK r k 0) (sK r k 0)]
    omega
  have hq : 0 ≤ sS r k 0 0 / sK r k 0 ∧ sS r k 0 0 / sK r k 0 ≤ sS r k 0 0 := ⟨Int.ediv_nonneg s4 (by omega), Int.ediv_le_self _ s4⟩
  unfold fX6_grade_ fX6_grade
  rw [w1]
  simp only [Option.bind_some]
  rw [if_pos H.o, if_pos w4.1, if_pos ⟨by decide, by rw [w4.2]; decide⟩, if_pos ⟨by decide, by rw [w4.2]; decide⟩, w9, w10, if_pos ⟨s4, s3⟩, if_pos (by constructor <;> omega)]
  have rd := round_div s4 s3
  by_cases c : 2 * (sS r k 0 0 - sS r k 0 0 / sK r k 0 * sK r k 0) < sK r k 0
  · rw [if_pos c] at rd ⊢
    simp only [Option.bind_some]
    rw [if_pos H.o]
    exact ⟨D', col', by rw [rd]; rfl, w2, w3, w11⟩
  · rw [if_neg c] at rd ⊢
    rw [if_pos (by constructor <;> omega)]
    simp only [Option.bind_some]
    rw [if_pos H.o]
    exact ⟨D', col', by rw [rd]; rfl, w2, w3, w11⟩
end GR

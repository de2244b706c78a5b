/-! climbing and voting -/
theorem zshr_nat {a k : Nat} (ha : a < 2147483648) (hk : k < 32) : zshr a k = ((a / 2 ^ k : Nat) : Int) := by
  have hle : a / 2 ^ k ≤ a := Nat.div_le_self _ _
  have hz := zcnt k hk
  unfold zshr
  have e : iN (a : Int) >>> (iN (k : Int) &&& 31) = iN ((a / 2 ^ k : Nat) : Int) := i32_ext (by
    rw [hz.1, iN_bv]
    apply BitVec.eq_of_toNat_eq
    have h1 : (iN (a : Int) >>> iN (k : Int)).toBitVec = (iN (a : Int)).toBitVec.sshiftRight ((iN (k : Int)).toBitVec.smod 32).toNat := rfl
    rw [h1, iN_bv, hz.2.1]
    rw [BitVec.sshiftRight_eq_of_msb_false (by
      rw [BitVec.msb_eq_false_iff_two_mul_lt, BitVec.toNat_ofNat]
      omega), BitVec.toNat_ushiftRight, BitVec.toNat_ofNat, BitVec.toNat_ofNat, Nat.mod_eq_of_lt (by omega), Nat.mod_eq_of_lt (by omega), Nat.shiftRight_eq_div_pow])
  rw [e]
  generalize a / 2 ^ k = q at hle
  exact iN_toInt ⟨by omega, by omega⟩
section IU
variable {r : Row} {B k c v : Int}
theorem IH_up6 (h : IH B r) (hk : 0 ≤ k ∧ k < r 37) (hc : 3 ≤ c ∧ c < 18) (hv : (c = 3 → 0 ≤ v ∧ v ≤ B) ∧ (c = 4 → 0 ≤ v ∧ v ≤ B) ∧ (c = 5 → 0 ≤ v ∧ v < 4096) ∧ (6 ≤ c → -1 ≤ v ∧ v ≤ 29)) : IH B (rup r (38 + 18 * k + c) v) := by
  obtain ⟨hn, hw, hr, hh, hm, hcc⟩ := h
  have hn' := hn
  unfold IHn at hn'
  have eX : ∀ i, i < 38 ∨ 470 ≤ i → rup r (38 + 18 * k + c) v i = r i := fun m a => rup_ne (by omega)
  refine ⟨?_, fun i a b => ?_, fun i a b => ?_, fun i a b => ?_, fun i a b => ?_, fun i a b => ?_⟩
  · unfold IHn
    rw [eX _ (by omega), eX _ (by omega), eX _ (by omega), eX _ (by omega), eX _ (by omega), eX _ (by omega), eX _ (by omega), eX _ (by omega), eX _ (by omega), eX _ (by omega)]
    exact hn
  · rw [eX _ (by omega)] at b
    rw [eX _ (by omega), eX _ (by omega), eX _ (by omega)]
    exact hw i a b
  · rw [eX _ (by omega)] at b
    have q := hr i a b
    rw [eX 4 (by omega), rup_ne (j := 38 + 18 * i + 0) (by omega), rup_ne (j := 38 + 18 * i + 1) (by omega)]
    refine ⟨q.1, q.2.1, ?_, ?_, ?_, fun m x y => ?_⟩
    · rw [rup_at]
      split
      · exact hv.1 (by omega)
      · exact q.2.2.1
    · rw [rup_at]
      split
      · exact hv.2.1 (by omega)
      · exact q.2.2.2.1
    · rw [rup_at]
      split
      · exact hv.2.2.1 (by omega)
      · exact q.2.2.2.2.1
    · rw [rup_at]
      split
      · exact hv.2.2.2 (by omega)
      · exact q.2.2.2.2.2 m x y
  · rw [eX _ (by omega)] at b
    have q := hh i a b
    rw [eX 546 (by omega), eX _ (by omega), eX _ (by omega), eX _ (by omega), eX _ (by omega)]
    refine ⟨q.1, q.2.1, q.2.2.1, q.2.2.2.1, q.2.2.2.2.trans ⟨?_, ?_⟩⟩
    · rintro ⟨m, x, y, w⟩
      exact ⟨m, x, y, by rw [eX _ (by omega)]; exact w⟩
    · rintro ⟨m, x, y, w⟩
      rw [eX _ (by omega)] at w
      exact ⟨m, x, y, w⟩
  · rw [eX _ (by omega)] at b
    have q := hm i a b
    rw [eX 470 (by omega), eX 546 (by omega), eX 619 (by omega), eX _ (by omega), eX _ (by omega), eX _ (by omega), eX _ (by omega), eX _ (by omega)]
    refine ⟨q.1, q.2.1, q.2.2.1, q.2.2.2.1, q.2.2.2.2.1, fun m x y => ?_⟩
    rw [eX _ (by omega)]
    exact q.2.2.2.2.2 m x y
  · rw [eX _ (by omega)] at b
    rw [eX _ (by omega), eX _ (by omega), eX _ (by omega)]
    exact hcc i a b
end IU
section CH
variable {z : ZZ} {r : Row} {B v1 v2 v3 : Int}
abbrev sBit (a k : Int) : Prop := zand (zushr a k) 1 = 1
theorem c_hasClimbed (hR : RC z r) (hI : IH B r) (q2 : 0 ≤ v2 ∧ v2 < r 37) : fX1_hasClimbed v1 v2 z = some (bI (sBit (r (38 + 18 * v2 + 5)) v1)) := by
  unfold fX1_hasClimbed
  rw [cg6 hR hI q2 (by omega)]
  simp only [Option.bind_some]
  unfold bI
  split <;> rfl
theorem m_has {a k : Int} (ha : 0 ≤ a ∧ a < 4096) (hk : 0 ≤ k ∧ k < 32) : fX6_has a k z = some (bI (sBit a k)) := by
  have e : zshr a k = zushr a k := by
    have h1 := zshr_nat (a := a.toNat) (k := k.toNat) (by omega) (by omega)
    have h2 := zushr_nat (a := a.toNat) (k := k.toNat) (by omega) (by omega)
    rw [Int.toNat_of_nonneg ha.1, Int.toNat_of_nonneg hk.1] at h1 h2
    rw [h1, h2]
  unfold fX6_has bI
  rw [e]
  split <;> rfl
theorem g_vote (hI : IH B r) (q1 : 0 ≤ v1 ∧ v1 < r 546) (q2 : 0 ≤ v2 ∧ v2 < r 37) (q3 : 0 ≤ v3 ∧ v3 ≤ 29) (q4 : sBit (r (38 + 18 * v2 + 5)) v1) : ∃ r' v, Chg r r' v (fL_vote v1 v2 v3) (fX6_vote v1 v2 v3) ∧ IH B r' := by
  have hn := hI.1
  unfold IHn at hn
  have hx := (hI.2.2.1 v2 q2.1 q2.2).2.2.2.2.1
  have I2 : IH B (rup r (38 + 18 * v2 + (6 + v1)) v3) := IH_up6 hI q2 (by omega) ⟨fun e => by omega, fun e => by omega, fun e => by omega, fun _ => by omega⟩
  have k2 : rup r (38 + 18 * v2 + (6 + v1)) v3 37 = r 37 := rup_ne (by omega)
  have q2' : 0 ≤ v2 ∧ v2 < rup r (38 + 18 * v2 + (6 + v1)) v3 37 := by rw [k2]; exact q2
  have g6 : inR (6 + v1) := inR_s (by omega)
  refine ⟨_, sGr (rup r (38 + 18 * v2 + (6 + v1)) v3) v2, ⟨fun z hR hu hl => ?_, fun z hM h8 => ?_⟩, I2⟩
  · obtain ⟨z1, e1, R1, w1⟩ := c_rem hR hI hu hl
    have es : fX4_set 6 v2 (6 + v1) v3 z1 = some (zup z1 7 (v2 * 18 + (6 + v1)) v3) := set_ok kT6 (by rw [(RCn R1).2.1]; exact q2) (by rw [(RCn R1).2.1]; show r 37 ≤ 24; omega) (show 0 ≤ 6 + v1 ∧ 6 + v1 < 18 by omega)
    have R2 := RC_up6 (v := v3) R1 hI.1 q2 (c := 6 + v1) (by omega)
    obtain ⟨z3, e3, f3⟩ := c_gradeOf R2 I2 q2'
    refine ⟨zup z3 159 0 (sGr (rup r (38 + 18 * v2 + (6 + v1)) v3) v2), ?_, ?_, Qt_RC Qt_159 (RC_12 R2 f3), w1 _ (fun a p1 p2 p3 p4 p5 => ?_)⟩
    · simp only [fL_vote, fX5_vote, n_row, n_btw, (RCn hR).2.2.2.2.1, (RCn hR).2.1, if_pos q1, if_pos q2, if_pos q3, Option.bind_some, c_hasClimbed hR hI q2, ite_bI, if_pos q4, if_pos g6, e1, es, e3]
    · rw [zup_at, if_pos rfl]
    · rw [zup_ne p3, f3 a (by omega), zup_ne (by omega)]
  · have hM1 := zup_154 (e := 0) hM
    obtain ⟨z1, e1, r1, w1⟩ := m_rec hM h8 (FM_rf _)
    have r2 : zup z1 154 (38 + 18 * v2 + 6 + v1) v3 154 = rup r (38 + 18 * v2 + (6 + v1)) v3 := by
      funext j
      rw [zup_at, r1, show 38 + 18 * v2 + 6 + v1 = 38 + 18 * v2 + (6 + v1) by omega]
      rfl
    obtain ⟨z3, e3, f3⟩ := m_gradeOf r2 I2 q2'
    refine ⟨z3, ?_, FM_154 f3 r2, w1 _ (fun a p1 p2 p3 p4 => by rw [f3.1 a p1 p3, zup_ne p2]) (fun j p1 p2 p3 => by rw [f3.2 j p1 p2 p3, zup_ne (by decide)])⟩
    simp only [fX6_vote, fX6_vote_b26, fX6_vote_b27, zl, mi_member hM1 hI, mi_route hM1 hI, mi_grade, m_failsb, m_fails0, m_fails1, if_pos q1, if_pos q2, if_pos q3, ite_bI, if_true, Option.bind_some, mg6 hM1 (k := v2) (c := 5) (by omega), m_has hx (k := v1) (by omega), if_pos q4, e1, if_pos (show 0 ≤ 38 + 18 * v2 + 6 + v1 ∧ 38 + 18 * v2 + 6 + v1 < 765 by omega), e3]
end CH

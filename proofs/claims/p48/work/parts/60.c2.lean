/-! the class changes: harnesses, routes -/
section WE
variable {z : ZZ} {r : Row} {B k : Int}
def sWear (r : Row) (k : Int) : Int := 1 + sGr r k / 10
theorem sWear_ok (hI : IH B r) (hk : 0 ≤ k ∧ k < r 37) : 1 ≤ sWear r k ∧ sWear r k ≤ 3 := by
  have := sGr_ok hI hk
  unfold sWear
  omega
theorem c_wear (hR : RC z r) (hI : IH B r) (hk : 0 ≤ k ∧ k < r 37) : ∃ z', fX1_wearOfClimb k z = some (sWear r k, z') ∧ Fra F12 z z' := by
  obtain ⟨z', e, f⟩ := c_gradeOf hR hI hk
  have hg := sGr_ok hI hk
  refine ⟨z', ?_, f⟩
  unfold fX1_wearOfClimb
  rw [e]
  simp only [Option.bind_some]
  rw [if_pos (by omega), if_pos (inR_s (by omega))]
  rfl
end WE
section CK
variable {r : Row} {B v1 v2 v3 : Int}
theorem g_check (hI : IH B r) (q1 : 0 ≤ v1 ∧ v1 < r 470) (q2 : ¬ sRet r v1) (q3 : ¬ sLent r v1) : (v2 = 0 → ChgW r (rup (rup r (471 + 5 * v1 + 2) (r 3)) (471 + 5 * v1 + 3) 1) (-1) (fW_check v1 v2) ∧ IH B (rup (rup r (471 + 5 * v1 + 2) (r 3)) (471 + 5 * v1 + 3) 1)) ∧ (v2 ≠ 0 → ChgW r (rup r (471 + 5 * v1 + 2) (r 3)) (sLapse (rup r (471 + 5 * v1 + 2) (r 3)) v1) (fW_check v1 v2) ∧ IH B (rup r (471 + 5 * v1 + 2) (r 3))) := by
  have hn := hI.1
  unfold IHn at hn
  have hx := (hI.2.2.2.1 v1 q1.1 q1.2).2.2.1
  have h30 : r (471 + 5 * v1 + 3) = 0 := by unfold sRet at q2; omega
  have I2 : IH B (rup r (471 + 5 * v1 + 2) (r 3)) := IH_up10 hI q1 (Or.inl rfl) ⟨fun _ => by omega, fun e => by omega⟩
  have k2 : rup r (471 + 5 * v1 + 2) (r 3) 470 = r 470 := rup_ne (by omega)
  have st : (if sRet r v1 then (2 : Int) else if sLent r v1 then 1 else 0) = 0 := by rw [if_neg q2, if_neg q3]
  have gp2 : (0 : Int) ≤ 471 + 5 * v1 + 2 ∧ 471 + 5 * v1 + 2 < 765 := by omega
  have gp3 : (0 : Int) ≤ 471 + 5 * v1 + 3 ∧ 471 + 5 * v1 + 3 < 765 := by omega
  have cls : ∀ z, RC z r → 0 ≤ z 32 1 ∧ z 32 1 ≤ 8 → 0 ≤ z 32 2 ∧ z 32 2 < 8 → ∃ z1, fX2_remember z = some z1 ∧ RC z1 r ∧ fX4_set 10 v1 2 (z1 3 7) z1 = some (zup z1 11 (v1 * 4 + 2) (r 3)) ∧ RC (zup z1 11 (v1 * 4 + 2) (r 3)) (rup r (471 + 5 * v1 + 2) (r 3)) ∧ (∀ w, fX4_set 10 v1 3 w (zup z1 11 (v1 * 4 + 2) (r 3)) = some (zup (zup z1 11 (v1 * 4 + 2) (r 3)) 11 (v1 * 4 + 3) w) ∧ RC (zup (zup z1 11 (v1 * 4 + 2) (r 3)) 11 (v1 * 4 + 3) w) (rup (rup r (471 + 5 * v1 + 2) (r 3)) (471 + 5 * v1 + 3) w)) ∧ ∀ w u, CW z (zup (zup (zup z1 11 (v1 * 4 + 2) (r 3)) 11 (v1 * 4 + 3) w) 159 0 u) r := by
    intro z hR hu hl
    obtain ⟨z1, e1, R1, w1⟩ := c_rem hR hI hu hl
    have R2 := RC_up10 (v := r 3) R1 hI.1 q1 (c := 2) (by omega)
    refine ⟨z1, e1, R1, ?_, R2, fun w => ⟨?_, RC_up10 R2 I2.1 (by rw [k2]; exact q1) (by omega)⟩, fun w u => w1 _ (fun a p1 p2 p3 p4 p5 => ?_)⟩
    · rw [(RCn R1).2.2.2.2.2.2.1]
      exact set_ok kT10 (by rw [(RCn R1).2.2.2.1]; exact q1) (by rw [(RCn R1).2.2.2.1]; show r 470 ≤ 15; omega) (show 0 ≤ 2 ∧ 2 < 4 by omega)
    · exact set_ok kT10 (by rw [(RCn R2).2.2.2.1, k2]; exact q1) (by rw [(RCn R2).2.2.2.1, k2]; show r 470 ≤ 15; omega) (show 0 ≤ 3 ∧ 3 < 4 by omega)
    · rw [zup_ne p3, zup_ne (by omega), zup_ne (by omega)]
  refine ⟨fun q => ?_, fun q => ?_⟩
  · refine ⟨fun z hR hu hl => ?_, IH_up10 I2 (by rw [k2]; exact q1) (Or.inr rfl) ⟨fun e => by omega, fun _ => Or.inr rfl⟩⟩
    · obtain ⟨z1, e1, R1, s1, R2, s2, w1⟩ := cls z hR hu hl
      refine ⟨_, ?_, ?_, Qt_RC Qt_159 (s2 1).2, w1 1 (-1)⟩
      · simp only [fW_check, wrp, fX5_check, fX1_addCheck, n_row, (RCn hR).2.2.2.1, if_pos q1, Option.bind_some, c_stateOf hR hI q1, st, if_true, e1, s1, (s2 1).1, if_pos q]
      · rw [zup_at, if_pos rfl]
  · refine ⟨fun z hR hu hl => ?_, I2⟩
    · obtain ⟨z1, e1, R1, s1, R2, s2, w1⟩ := cls z hR hu hl
      have es := rup_same (r := rup r (471 + 5 * v1 + 2) (r 3)) (p := 471 + 5 * v1 + 3) (v := 0) (by rw [rup_ne (by omega)]; exact h30)
      have R3 := (s2 0).2
      rw [es] at R3
      refine ⟨_, ?_, ?_, Qt_RC Qt_159 R3, w1 0 (sLapse (rup r (471 + 5 * v1 + 2) (r 3)) v1)⟩
      · simp only [fW_check, wrp, fX5_check, fX1_addCheck, n_row, (RCn hR).2.2.2.1, if_pos q1, Option.bind_some, c_stateOf hR hI q1, st, if_true, e1, s1, (s2 0).1, if_neg q, c_lapseOf R3 I2 (show 0 ≤ v1 ∧ v1 < rup r (471 + 5 * v1 + 2) (r 3) 470 by rw [k2]; exact q1)]
      · rw [zup_at, if_pos rfl]
end CK
section CH
variable {z : ZZ} {r : Row} {B v1 v2 v3 : Int}
abbrev sLend (r : Row) (m k : Int) : Prop := r (547 + 6 * m + 3) = -1 ∧ r (547 + 6 * m + 0) = r (471 + 5 * k + 0) ∧ sLendable r k
theorem g_lend (hI : IH B r) (q1 : 0 ≤ v1 ∧ v1 < r 546) (q2 : 0 ≤ v2 ∧ v2 < r 470) (q3 : sLend r v1 v2) : ChgW r (rup (rup r (547 + 6 * v1 + 3) v2) (471 + 5 * v2 + 4) 1) (sLapse (rup (rup r (547 + 6 * v1 + 3) v2) (471 + 5 * v2 + 4) 1) v2) (fW_lend v1 v2) ∧ IH B (rup (rup r (547 + 6 * v1 + 3) v2) (471 + 5 * v2 + 4) 1) := by
  have hn := hI.1
  unfold IHn at hn
  have hh := hI.2.2.2.1
  have I2 : IH B (rup (rup r (547 + 6 * v1 + 3) v2) (471 + 5 * v2 + 4) 1) := by
    have hno : ∀ m, 0 ≤ m → m < r 546 → r (547 + 6 * m + 3) ≠ v2 := fun m a b w => q3.2.2.1 ((hh v2 q2.1 q2.2).2.2.2.2.mpr ⟨m, a, b, w⟩)
    refine IH_hand hI q1 q2 (by omega) (Or.inr rfl) (fun i a b => ?_) (fun m m' a b c d e => ?_)
    · by_cases e : i = v2
      · rw [if_pos e]
        exact ⟨fun _ => ⟨v1, q1.1, q1.2, by rw [if_pos rfl, e]⟩, fun _ => rfl⟩
      · rw [if_neg e]
        refine (hh i a b).2.2.2.2.trans ⟨?_, ?_⟩
        · rintro ⟨m, s, t, u⟩
          refine ⟨m, s, t, ?_⟩
          rw [if_neg (fun w => by rw [w, q3.1] at u; omega)]
          exact u
        · rintro ⟨m, s, t, u⟩
          refine ⟨m, s, t, ?_⟩
          by_cases f : m = v1
          · rw [if_pos f] at u
            exact absurd u.symm e
          · rw [if_neg f] at u
            exact u
    · by_cases f : m = v1
      · rw [if_pos f, if_neg (fun w => e (f.trans w.symm))]
        exact fun w => absurd w.symm (hno m' c d)
      · rw [if_neg f]
        by_cases f' : m' = v1
        · rw [if_pos f']
          exact fun w => absurd w (hno m a b)
        · rw [if_neg f']
          exact fun w => (hI.2.2.2.2.1 m a b).2.2.2.2.2 m' c d e w
  have k2 : rup (rup r (547 + 6 * v1 + 3) v2) (471 + 5 * v2 + 4) 1 470 = r 470 := by rw [rup_ne (by omega), rup_ne (by omega)]
  have hq : ¬ sRet r v2 := q3.2.2.2.1
  refine ⟨fun z hR hu hl => ?_, I2⟩
  · obtain ⟨z1, e1, R1, w1⟩ := c_rem hR hI hu hl
    have es : fX4_set 12 v1 3 v2 z1 = some (zup z1 13 (v1 * 6 + 3) v2) := set_ok kT12 (by rw [(RCn R1).2.2.2.2.1]; exact q1) (by rw [(RCn R1).2.2.2.2.1]; show r 546 ≤ 12; omega) (show 0 ≤ 3 ∧ 3 < 6 by omega)
    have R2 := RC_lent (v := 1) (k := v2) (B := B) (RC_up12 (v := v2) R1 hI.1 q1 (c := 3) (by omega)) (by
      have := hI.1
      unfold IHn at *
      rw [rup_ne (by omega), rup_ne (by omega), rup_ne (by omega), rup_ne (by omega), rup_ne (by omega), rup_ne (by omega), rup_ne (by omega), rup_ne (by omega), rup_ne (by omega), rup_ne (by omega)]
      exact this) (by rw [rup_ne (by omega)]; exact q2)
    refine ⟨zup (zup z1 13 (v1 * 6 + 3) v2) 159 0 (sLapse (rup (rup r (547 + 6 * v1 + 3) v2) (471 + 5 * v2 + 4) 1) v2), ?_, ?_, Qt_RC Qt_159 R2, w1 _ (fun a p1 p2 p3 p4 p5 => ?_)⟩
    · simp only [fW_lend, wrp, fX5_lend, n_row, (RCn hR).2.2.2.2.1, (RCn hR).2.2.2.1, if_pos q1, if_pos q2, Option.bind_some, c_harnessOf hR hI q1, if_pos q3.1, cg12 hR hI q1 (c := 0) (by omega), cg10 hR hI q2 (c := 0) (by omega), if_pos q3.2.1, c_isLendable hR hI q2, ite_bI, if_pos q3.2.2, e1, es, c_lapseOf R2 I2 (show 0 ≤ v2 ∧ v2 < rup (rup r (547 + 6 * v1 + 3) v2) (471 + 5 * v2 + 4) 1 470 by rw [k2]; exact q2)]
    · rw [zup_at, if_pos rfl]
    · rw [zup_ne p3, zup_ne (by omega)]
theorem g_back (hI : IH B r) (q1 : 0 ≤ v1 ∧ v1 < r 546) (q2 : r (547 + 6 * v1 + 3) ≠ -1) : ChgW r (rup (rup r (547 + 6 * v1 + 3) (-1)) (471 + 5 * r (547 + 6 * v1 + 3) + 4) 0) (r (547 + 6 * v1 + 3)) (fW_giveBack v1) ∧ IH B (rup (rup r (547 + 6 * v1 + 3) (-1)) (471 + 5 * r (547 + 6 * v1 + 3) + 4) 0) := by
  have hn := hI.1
  unfold IHn at hn
  have hh := hI.2.2.2.1
  have hm := hI.2.2.2.2.1 v1 q1.1 q1.2
  have hw : 0 ≤ r (547 + 6 * v1 + 3) ∧ r (547 + 6 * v1 + 3) < r 470 := by have := hm.2.2.1; omega
  generalize hh0 : r (547 + 6 * v1 + 3) = w at *
  have hun : ∀ m, 0 ≤ m → m < r 546 → m ≠ v1 → r (547 + 6 * m + 3) ≠ w := fun m a b c d => q2 (hm.2.2.2.2.2 m a b (fun e => c e.symm) d.symm)
  have I2 : IH B (rup (rup r (547 + 6 * v1 + 3) (-1)) (471 + 5 * w + 4) 0) := by
    refine IH_hand hI q1 hw (by omega) (Or.inl rfl) (fun i a b => ?_) (fun m m' a b c d e => ?_)
    · by_cases e : i = w
      · rw [if_pos e]
        refine ⟨fun f => by omega, ?_⟩
        rintro ⟨m, s, t, u⟩
        by_cases f : m = v1
        · rw [if_pos f] at u; omega
        · rw [if_neg f] at u
          exact absurd (u.trans e) (hun m s t f)
      · rw [if_neg e]
        refine (hh i a b).2.2.2.2.trans ⟨?_, ?_⟩
        · rintro ⟨m, s, t, u⟩
          refine ⟨m, s, t, ?_⟩
          rw [if_neg (fun x => by rw [x, hh0] at u; exact e u.symm)]
          exact u
        · rintro ⟨m, s, t, u⟩
          refine ⟨m, s, t, ?_⟩
          by_cases f : m = v1
          · rw [if_pos f] at u; omega
          · rw [if_neg f] at u
            exact u
    · by_cases f : m = v1
      · rw [if_pos f]
        exact fun _ => rfl
      · rw [if_neg f]
        by_cases f' : m' = v1
        · rw [if_pos f']
          exact fun x => x
        · rw [if_neg f']
          exact fun x => (hI.2.2.2.2.1 m a b).2.2.2.2.2 m' c d e x
  refine ⟨fun z hR hu hl => ?_, I2⟩
  · obtain ⟨z1, e1, R1, w1⟩ := c_rem hR hI hu hl
    have es : fX4_set 12 v1 3 (-1) z1 = some (zup z1 13 (v1 * 6 + 3) (-1)) := set_ok kT12 (by rw [(RCn R1).2.2.2.2.1]; exact q1) (by rw [(RCn R1).2.2.2.2.1]; show r 546 ≤ 12; omega) (show 0 ≤ 3 ∧ 3 < 6 by omega)
    have R2 := RC_lent (v := 0) (k := w) (B := B) (RC_up12 (v := -1) R1 hI.1 q1 (c := 3) (by omega)) (by
      have := hI.1
      unfold IHn at *
      rw [rup_ne (by omega), rup_ne (by omega), rup_ne (by omega), rup_ne (by omega), rup_ne (by omega), rup_ne (by omega), rup_ne (by omega), rup_ne (by omega), rup_ne (by omega), rup_ne (by omega)]
      exact this) (by rw [rup_ne (by omega)]; exact hw)
    refine ⟨zup (zup z1 13 (v1 * 6 + 3) (-1)) 159 0 w, ?_, ?_, Qt_RC Qt_159 R2, w1 _ (fun a p1 p2 p3 p4 p5 => ?_)⟩
    · simp only [fW_giveBack, wrp, fX5_giveBack, n_row, (RCn hR).2.2.2.2.1, if_pos q1, Option.bind_some, c_harnessOf hR hI q1, hh0, if_neg q2, e1, es]
    · rw [zup_at, if_pos rfl]
    · rw [zup_ne p3, zup_ne (by omega)]
end CH

theorem zshr_nat {a k : Nat} (ha : a < 2147483648) (hk : k < 32) : zshr a k = ((a / 2 ^ k : Nat) : Int) := by
  have hle : a / 2 ^ k ≤ a := Nat.div_le_self _ _
  have hz := zcnt k hk
  unfold zshr
  have e : iN (a : Int) >>> (iN (k : Int) &&& 31) = iN ((a / 2 ^ k : Nat) : Int) := i32_ext (by
    rw [hz.1, iN_bv]
    apply BitVec.eq_of_toNat_eq
    have h1 : (iN (a : Int) >>> iN (k : Int)).toBitVec = (iN (a : Int)).toBitVec.sshiftRight ((iN (k : Int)).toBitVec.smod 32).toNat := rfl
    rw [h1, iN_bv, hz.2.1]
    rw [BitVec.sshiftRight_eq_of_msb_false (by
      rw [BitVec.msb_eq_false_iff_two_mul_lt, BitVec.toNat_ofNat]
      omega), BitVec.toNat_ushiftRight, BitVec.toNat_ofNat, BitVec.toNat_ofNat, Nat.mod_eq_of_lt (by omega), Nat.mod_eq_of_lt (by omega), Nat.shiftRight_eq_div_pow])
  rw [e]
  generalize a / 2 ^ k = q at hle
  exact iN_toInt ⟨by omega, by omega⟩
section IU
variable {r : Row} {B k c v : Int}
theorem IH_up6 (h : IH B r) (hk : 0 ≤ k ∧ k < r 37) (hc : 3 ≤ c ∧ c < 18) (hv : (c = 3 → 0 ≤ v ∧ v ≤ B) ∧ (c = 4 → 0 ≤ v ∧ v ≤ B) ∧ (c = 5 → 0 ≤ v ∧ v < 4096) ∧ (6 ≤ c → -1 ≤ v ∧ v ≤ 29)) : IH B (rup r (38 + 18 * k + c) v) := by
  obtain ⟨hn, hw, hr, hh, hm, hcc⟩ := h
  have hn' := hn
  unfold IHn at hn'
  have eX : ∀ i, i < 38 ∨ 470 ≤ i → rup r (38 + 18 * k + c) v i = r i := fun m a => rup_ne (by omega)
  refine ⟨?_, fun i a b => ?_, fun i a b => ?_, fun i a b => ?_, fun i a b => ?_, fun i a b => ?_⟩
  · unfold IHn
    rw [eX _ (by omega), eX _ (by omega), eX _ (by omega), eX _ (by omega), eX _ (by omega), eX _ (by omega), eX _ (by omega), eX _ (by omega), eX _ (by omega), eX _ (by omega)]
    exact hn
  · rw [eX _ (by omega)] at b
    rw [eX _ (by omega), eX _ (by omega), eX _ (by omega)]
    exact hw i a b
  · rw [eX _ (by omega)] at b
    have q := hr i a b
    rw [eX 4 (by omega), rup_ne (j := 38 + 18 * i + 0) (by omega), rup_ne (j := 38 + 18 * i + 1) (by omega)]
    refine ⟨q.1, q.2.1, ?_, ?_, ?_, fun m x y => ?_⟩
    · rw [rup_at]
      split
      · exact hv.1 (by omega)
      · exact q.2.2.1
    · rw [rup_at]
      split
      · exact hv.2.1 (by omega)
      · exact q.2.2.2.1
    · rw [rup_at]
      split
      · exact hv.2.2.1 (by omega)
      · exact q.2.2.2.2.1
    · rw [rup_at]
      split
      · exact hv.2.2.2 (by omega)
      · exact q.2.2.2.2.2 m x y
  · rw [eX _ (by omega)] at b
    have q := hh i a b
    rw [eX 546 (by omega), eX _ (by omega), eX _ (by omega), eX _ (by omega), eX _ (by omega)]
    refine ⟨q.1, q.2.1, q.2.2.1, q.2.2.2.1, q.2.2.2.2.trans ⟨?_, ?_⟩⟩
    · rintro ⟨m, x, y, w⟩
      exact ⟨m, x, y, by rw [eX _ (by omega)]; exact w⟩
    · rintro ⟨m, x, y, w⟩
      rw [eX _ (by omega)] at w
      exact ⟨m, x, y, w⟩
  · rw [eX _ (by omega)] at b
    have q := hm i a b
    rw [eX 470 (by omega), eX 546 (by omega), eX 619 (by omega), eX _ (by omega), eX _ (by omega), eX _ (by omega), eX _ (by omega), eX _ (by omega)]
    refine ⟨q.1, q.2.1, q.2.2.1, q.2.2.2.1, q.2.2.2.2.1, fun m x y => ?_⟩
    rw [eX _ (by omega)]
    exact q.2.2.2.2.2 m x y
  · rw [eX _ (by omega)] at b
    rw [eX _ (by omega), eX _ (by omega), eX _ (by omega)]
    exact hcc i a b
end IU
section CH
variable {z : ZZ} {r : Row} {B v1 v2 v3 : Int}
abbrev sBit (a k : Int) : Prop := zand (zushr a k) 1 = 1
theorem c_hasClimbed (hR : RC z r) (hI : IH B r) (q2 : 0 ≤ v2 ∧ v2 < r 37) : fX1_hasClimbed v1 v2 z = some (bI (sBit (r (38 + 18 * v2 + 5)) v1)) := by
  unfold fX1_hasClimbed
  rw [cg6 hR hI q2 (by omega)]
  simp only [Option.bind_some]
  unfold bI
  split <;> rfl
theorem g_vote (hI : IH B r) (q1 : 0 ≤ v1 ∧ v1 < r 546) (q2 : 0 ≤ v2 ∧ v2 < r 37) (q3 : 0 ≤ v3 ∧ v3 ≤ 29) (q4 : sBit (r (38 + 18 * v2 + 5)) v1) : ChgW r (rup r (38 + 18 * v2 + (6 + v1)) v3) (sGr (rup r (38 + 18 * v2 + (6 + v1)) v3) v2) (fW_vote v1 v2 v3) ∧ IH B (rup r (38 + 18 * v2 + (6 + v1)) v3) := by
  have hn := hI.1
  unfold IHn at hn
  have hx := (hI.2.2.1 v2 q2.1 q2.2).2.2.2.2.1
  have I2 : IH B (rup r (38 + 18 * v2 + (6 + v1)) v3) := IH_up6 hI q2 (by omega) ⟨fun e => by omega, fun e => by omega, fun e => by omega, fun _ => by omega⟩
  have k2 : rup r (38 + 18 * v2 + (6 + v1)) v3 37 = r 37 := rup_ne (by omega)
  have q2' : 0 ≤ v2 ∧ v2 < rup r (38 + 18 * v2 + (6 + v1)) v3 37 := by rw [k2]; exact q2
  have g6 : inR (6 + v1) := inR_s (by omega)
  refine ⟨fun z hR hu hl => ?_, I2⟩
  · obtain ⟨z1, e1, R1, w1⟩ := c_rem hR hI hu hl
    have es : fX4_set 6 v2 (6 + v1) v3 z1 = some (zup z1 7 (v2 * 18 + (6 + v1)) v3) := set_ok kT6 (by rw [(RCn R1).2.1]; exact q2) (by rw [(RCn R1).2.1]; show r 37 ≤ 24; omega) (show 0 ≤ 6 + v1 ∧ 6 + v1 < 18 by omega)
    have R2 := RC_up6 (v := v3) R1 hI.1 q2 (c := 6 + v1) (by omega)
    obtain ⟨z3, e3, f3⟩ := c_gradeOf R2 I2 q2'
    refine ⟨zup z3 159 0 (sGr (rup r (38 + 18 * v2 + (6 + v1)) v3) v2), ?_, ?_, Qt_RC Qt_159 (RC_12 R2 f3), w1 _ (fun a p1 p2 p3 p4 p5 => ?_)⟩
    · simp only [fW_vote, wrp, fX5_vote, n_row, n_btw, (RCn hR).2.2.2.2.1, (RCn hR).2.1, if_pos q1, if_pos q2, if_pos q3, Option.bind_some, c_hasClimbed hR hI q2, ite_bI, if_pos q4, if_pos g6, e1, es, e3]
    · rw [zup_at, if_pos rfl]
    · rw [zup_ne p3, f3 a (by omega), zup_ne (by omega)]
end CH

theorem sCnt_congr {n : Int} {p q : Int → Prop} [∀ k, Decidable (p k)] [∀ k, Decidable (q k)] (h : ∀ i, 0 ≤ i → i < n → (p i ↔ q i)) : sCnt n p = sCnt n q := by
  unfold sCnt
  refine ita_congr (fun _ _ => True) _ _ _ True.intro (fun i a h1 h2 _ => ⟨?_, True.intro⟩)
  have hi := h i h1 (by omega)
  by_cases hp : p i
  · rw [if_pos hp, if_pos (hi.mp hp)]
  · rw [if_neg hp, if_neg (fun w => hp (hi.mpr w))]
theorem sG_congr {r r' : Row} {k k' gr mo : Int} (h546 : r' 546 = r 546) (h0 : r' 0 = r 0) (h1 : r' 1 = r 1) (hs : r' (38 + 18 * k' + 1) = r (38 + 18 * k + 1)) (hv : ∀ m, 0 ≤ m → m < r 546 → r' (38 + 18 * k' + (6 + m)) = r (38 + 18 * k + (6 + m))) : sG r' k' gr mo = sG r k gr mo := by
  have e1 : sSet1 r' k' = sSet1 r k := hs
  have e2 : sb r' k' gr mo = sb r k gr mo := by
    funext g
    unfold sb
    rw [e1, h1, h546, sCnt_congr (q := fun m => sVote r k m = g) (fun i a b => by
      show r' (38 + 18 * k' + (6 + i)) = g ↔ r (38 + 18 * k + (6 + i)) = g
      rw [hv i a b])]
  have e3 : sT0 r' k' mo = sT0 r k mo := by
    unfold sT0
    rw [h1]
    congr 2
    show sCnt (r' 546) _ = sCnt (r 546) _
    rw [h546]
    exact sCnt_congr (fun i a b => by rw [hv i a b])
  have e4 : fT r' k' mo = fT r k mo := by unfold fT; rw [e3]
  have e5 : fb r' k' gr mo = fb r k gr mo := by
    funext g
    unfold fb
    rw [e1, e2, e3]
  have e6 : sDr r' k' mo = sDr r k mo := by unfold sDr; rw [e4, h0]
  have e7 : sS r' k' gr mo = sS r k gr mo := by unfold sS; rw [e4, e5, e6]
  have e8 : sK r' k' mo = sK r k mo := by unfold sK; rw [e4, e6]
  unfold sG
  rw [e7, e8]
theorem rup_comm {r : Row} {p q a b : Int} (h : p ≠ q) : rup (rup r p a) q b = rup (rup r q b) p a := by
  funext j
  rw [rup_at, rup_at, rup_at, rup_at]
  by_cases e : j = q
  · rw [if_pos e, if_neg (fun w => h (w.symm.trans e)), if_pos e]
  · rw [if_neg e, if_neg e]
theorem zor_12 {a k : Int} (ha : 0 ≤ a ∧ a < 4096) (hk : 0 ≤ k ∧ k < 12) : 0 ≤ zor a (zshl 1 k) ∧ zor a (zshl 1 k) < 4096 := by
  have h1 := zshl_1 k.toNat (by omega)
  rw [Int.toNat_of_nonneg hk.1] at h1
  have hp : 2 ^ k.toNat < 2 ^ 12 := Nat.pow_lt_pow_right (by decide) (by omega)
  have h2 := zor_nat (a := a.toNat) (b := 2 ^ k.toNat) (by omega) (by omega)
  rw [Int.toNat_of_nonneg ha.1, ← h1] at h2
  have h3 : a.toNat ||| 2 ^ k.toNat < 2 ^ 12 := Nat.or_lt_two_pow (by omega) hp
  rw [h2]
  omega
section CH
variable {z : ZZ} {r : Row} {B v1 v2 v3 : Int}
theorem g_climb (hI : IH B r) (hB : B ≤ 900000) (q1 : 0 ≤ v1 ∧ v1 < r 546) (q2 : 0 ≤ v2 ∧ v2 < r 37) (q3 : sMay r v1 v2) : ChgW r (rup (rup (rup (rup r (38 + 18 * v2 + 5) (zor (r (38 + 18 * v2 + 5)) (zshl 1 v1))) (38 + 18 * v2 + 3) (r (38 + 18 * v2 + 3) + sWear r v2)) (38 + 18 * v2 + 4) (r (38 + 18 * v2 + 4) + 1)) (547 + 6 * v1 + 2) (r (547 + 6 * v1 + 2) + 1)) (r (38 + 18 * v2 + 3) + sWear r v2) (fW_climb v1 v2) ∧ IH (B + 60) (rup (rup (rup (rup r (38 + 18 * v2 + 5) (zor (r (38 + 18 * v2 + 5)) (zshl 1 v1))) (38 + 18 * v2 + 3) (r (38 + 18 * v2 + 3) + sWear r v2)) (38 + 18 * v2 + 4) (r (38 + 18 * v2 + 4) + 1)) (547 + 6 * v1 + 2) (r (547 + 6 * v1 + 2) + 1)) := by
  have hn := hI.1
  unfold IHn at hn
  have hx := hI.2.2.1 v2 q2.1 q2.2
  have hm := (hI.2.2.2.2.1 v1 q1.1 q1.2).2.1
  have hw := sWear_ok hI q2
  have hg := sGr_ok hI q2
  have hz := zor_12 (k := v1) hx.2.2.2.2.1 (by omega)
  generalize hX : zor (r (38 + 18 * v2 + 5)) (zshl 1 v1) = x at *
  have I0 : IH (B + 60) r := IH_mono hI (by omega) (by omega)
  have I1 : IH (B + 60) (rup r (38 + 18 * v2 + 5) x) := IH_up6 I0 q2 (by omega) ⟨fun e => by omega, fun e => by omega, fun _ => hz, fun e => by omega⟩
  have n1 : rup r (38 + 18 * v2 + 5) x 37 = r 37 := rup_ne (by omega)
  have I2 : IH (B + 60) (rup (rup r (38 + 18 * v2 + 5) x) (38 + 18 * v2 + 3) (r (38 + 18 * v2 + 3) + sWear r v2)) := IH_up6 I1 (by rw [n1]; exact q2) (by omega) ⟨fun _ => by omega, fun e => by omega, fun e => by omega, fun e => by omega⟩
  have n2 : rup (rup r (38 + 18 * v2 + 5) x) (38 + 18 * v2 + 3) (r (38 + 18 * v2 + 3) + sWear r v2) 37 = r 37 := by rw [rup_ne (by omega), n1]
  have I3 : IH (B + 60) (rup (rup (rup r (38 + 18 * v2 + 5) x) (38 + 18 * v2 + 3) (r (38 + 18 * v2 + 3) + sWear r v2)) (38 + 18 * v2 + 4) (r (38 + 18 * v2 + 4) + 1)) := IH_up6 I2 (by rw [n2]; exact q2) (by omega) ⟨fun e => by omega, fun _ => by omega, fun e => by omega, fun e => by omega⟩
  have n3 : rup (rup (rup r (38 + 18 * v2 + 5) x) (38 + 18 * v2 + 3) (r (38 + 18 * v2 + 3) + sWear r v2)) (38 + 18 * v2 + 4) (r (38 + 18 * v2 + 4) + 1) 37 = r 37 := by rw [rup_ne (by omega), n2]
  have m3 : rup (rup (rup r (38 + 18 * v2 + 5) x) (38 + 18 * v2 + 3) (r (38 + 18 * v2 + 3) + sWear r v2)) (38 + 18 * v2 + 4) (r (38 + 18 * v2 + 4) + 1) 546 = r 546 := by rw [rup_ne (by omega), rup_ne (by omega), rup_ne (by omega)]
  have I4 := IH_up12 (v := r (547 + 6 * v1 + 2) + 1) (c := 2) I3 (by rw [m3]; exact q1) (by omega) (by omega) ⟨fun e => by omega, fun _ => by omega, fun e => by omega, fun e => by omega⟩
  have n4 : rup (rup (rup (rup r (38 + 18 * v2 + 5) x) (38 + 18 * v2 + 3) (r (38 + 18 * v2 + 3) + sWear r v2)) (38 + 18 * v2 + 4) (r (38 + 18 * v2 + 4) + 1)) (547 + 6 * v1 + 2) (r (547 + 6 * v1 + 2) + 1) 37 = r 37 := by rw [rup_ne (by omega), n3]
  have ew : sWear (rup r (38 + 18 * v2 + 5) x) v2 = sWear r v2 := by
    unfold sWear
    rw [show sGr (rup r (38 + 18 * v2 + 5) x) v2 = sGr r v2 from sG_congr (rup_ne (by omega)) (rup_ne (by omega)) (rup_ne (by omega)) (rup_ne (by omega)) (fun m a b => rup_ne (by omega))]
  refine ⟨fun z hR hu hl => ?_, I4⟩
  · obtain ⟨z1, e1, R1, w1⟩ := c_rem hR hI hu hl
    have s1 : fX4_set 6 v2 5 x z1 = some (zup z1 7 (v2 * 18 + 5) x) := set_ok kT6 (by rw [(RCn R1).2.1]; exact q2) (by rw [(RCn R1).2.1]; show r 37 ≤ 24; omega) (show 0 ≤ 5 ∧ 5 < 18 by omega)
    have R2 := RC_up6 (v := x) R1 hI.1 q2 (c := 5) (by omega)
    obtain ⟨z3, e3, f3⟩ := c_wear R2 I1 (k := v2) (by rw [n1]; exact q2)
    rw [ew] at e3
    have R3 := RC_12 R2 f3
    have add6 : ∀ (y : ZZ) (rr : Row) (c w : Int), RC y rr → IH (B + 60) rr → rr 37 = r 37 → 0 ≤ c ∧ c < 18 → inR (rr (38 + 18 * v2 + c) + w) → fX4_add 6 v2 c w y = some (zup y 7 (v2 * 18 + c) (rr (38 + 18 * v2 + c) + w)) := fun y rr c w hRy hIy h37 hc hin => by
      have ey : y 7 (v2 * 18 + c) = rr (38 + 18 * v2 + c) := by
        rw [show y 7 (v2 * 18 + c) = _ from hRy.2.1.2 (v2 * 18 + c) (by omega) (by rw [h37]; omega)]
        congr 1
        omega
      have := add_ok (z := y) (v := w) kT6 (by rw [(RCn hRy).2.1, h37]; exact q2) (by rw [(RCn hRy).2.1, h37]; show r 37 ≤ 24; omega) (show 0 ≤ c ∧ c < zCO 6 from hc) (by show inR (y 7 (v2 * 18 + c) + w); rw [ey]; exact hin)
      rw [show y (6 + 1) (v2 * zCO 6 + c) = _ from ey] at this
      exact this
    have v3e : rup r (38 + 18 * v2 + 5) x (38 + 18 * v2 + 3) = r (38 + 18 * v2 + 3) := rup_ne (by omega)
    have s4 := add6 z3 _ 3 (sWear r v2) R3 I1 n1 (by omega) (by rw [v3e]; exact inR_s (by omega))
    rw [v3e] at s4
    have R4 := RC_up6 (v := r (38 + 18 * v2 + 3) + sWear r v2) R3 I1.1 (k := v2) (c := 3) (by rw [n1]; exact q2) (by omega)
    have v4e : rup (rup r (38 + 18 * v2 + 5) x) (38 + 18 * v2 + 3) (r (38 + 18 * v2 + 3) + sWear r v2) (38 + 18 * v2 + 4) = r (38 + 18 * v2 + 4) := by rw [rup_ne (by omega), rup_ne (by omega)]
    have s5 := add6 _ _ 4 1 R4 I2 n2 (by omega) (by rw [v4e]; exact inR_s (by omega))
    rw [v4e] at s5
    have R5 := RC_up6 (v := r (38 + 18 * v2 + 4) + 1) R4 I2.1 (k := v2) (c := 4) (by rw [n2]; exact q2) (by omega)
    have v6e : rup (rup (rup r (38 + 18 * v2 + 5) x) (38 + 18 * v2 + 3) (r (38 + 18 * v2 + 3) + sWear r v2)) (38 + 18 * v2 + 4) (r (38 + 18 * v2 + 4) + 1) (547 + 6 * v1 + 2) = r (547 + 6 * v1 + 2) := by rw [rup_ne (by omega), rup_ne (by omega), rup_ne (by omega)]
    have R6 := RC_up12 (v := r (547 + 6 * v1 + 2) + 1) R5 I3.1 (k := v1) (c := 2) (by rw [m3]; exact q1) (by omega)
    have ey : (zup (zup z3 7 (v2 * 18 + 3) (r (38 + 18 * v2 + 3) + sWear r v2)) 7 (v2 * 18 + 4) (r (38 + 18 * v2 + 4) + 1)) 13 (v1 * 6 + 2) = r (547 + 6 * v1 + 2) := by
      rw [show _ = _ from R5.2.2.2.2.1.2 (v1 * 6 + 2) (by omega) (by rw [m3]; omega), ← v6e]
      congr 1
      omega
    have s6 : fX4_add 12 v1 2 1 (zup (zup z3 7 (v2 * 18 + 3) (r (38 + 18 * v2 + 3) + sWear r v2)) 7 (v2 * 18 + 4) (r (38 + 18 * v2 + 4) + 1)) = some (zup (zup (zup z3 7 (v2 * 18 + 3) (r (38 + 18 * v2 + 3) + sWear r v2)) 7 (v2 * 18 + 4) (r (38 + 18 * v2 + 4) + 1)) 13 (v1 * 6 + 2) (r (547 + 6 * v1 + 2) + 1)) := by
      have := add_ok (z := zup (zup z3 7 (v2 * 18 + 3) (r (38 + 18 * v2 + 3) + sWear r v2)) 7 (v2 * 18 + 4) (r (38 + 18 * v2 + 4) + 1)) (k := v1) (c := 2) (v := 1) kT12 (by rw [(RCn R5).2.2.2.2.1, m3]; exact q1) (by rw [(RCn R5).2.2.2.2.1, m3]; show r 546 ≤ 12; omega) (show (0 : Int) ≤ 2 ∧ (2 : Int) < 6 by omega) (by
        show inR ((zup (zup z3 7 (v2 * 18 + 3) (r (38 + 18 * v2 + 3) + sWear r v2)) 7 (v2 * 18 + 4) (r (38 + 18 * v2 + 4) + 1)) 13 (v1 * 6 + 2) + 1)
        rw [ey]
        exact inR_s (by omega))
      rw [show (zup (zup z3 7 (v2 * 18 + 3) (r (38 + 18 * v2 + 3) + sWear r v2)) 7 (v2 * 18 + 4) (r (38 + 18 * v2 + 4) + 1)) (12 + 1) (v1 * zCO 12 + 2) = _ from ey] at this
      exact this
    have g7 := cg6 R6 I4 (k := v2) (c := 3) (by rw [n4]; exact q2) (by omega)
    rw [show rup (rup (rup (rup r (38 + 18 * v2 + 5) x) (38 + 18 * v2 + 3) (r (38 + 18 * v2 + 3) + sWear r v2)) (38 + 18 * v2 + 4) (r (38 + 18 * v2 + 4) + 1)) (547 + 6 * v1 + 2) (r (547 + 6 * v1 + 2) + 1) (38 + 18 * v2 + 3) = r (38 + 18 * v2 + 3) + sWear r v2 by rw [rup_ne (by omega), rup_ne (by omega), rup_at, if_pos rfl]] at g7
    refine ⟨_, ?_, ?_, Qt_RC (Qt_159 (v := r (38 + 18 * v2 + 3) + sWear r v2)) R6, w1 _ (fun a p1 p2 p3 p4 p5 => ?_)⟩
    · simp only [fW_climb, wrp, fX5_climb, fX1_addClimb, n_row, (RCn hR).2.2.2.2.1, (RCn hR).2.1, if_pos q1, if_pos q2, Option.bind_some, c_mayClimb hR hI q1 q2, ite_bI, if_pos q3, e1, cg6 R1 hI q2 (c := 5) (by omega), hX, s1, e3, s4, s5, s6, g7]
    · rw [zup_at, if_pos rfl]
    · rw [zup_ne p3, zup_ne (by omega), zup_ne (by omega), zup_ne (by omega), f3 a (by omega), zup_ne (by omega)]
end CH


set_option maxRecDepth 20000
/-! four characters in a number -/
theorem zor_n {a b : Nat} (ha : a < 2147483648) (hb : b < 2147483648) : zor a b = ((a ||| b : Nat) : Int) := by
  unfold zor
  have e1 : (iN (a : Int)).toBitVec.toNat = a := by
    show (BitVec.ofInt 32 (a : Int)).toNat = a
    rw [BitVec.toNat_ofInt]
    omega
  have e2 : (iN (b : Int)).toBitVec.toNat = b := by
    show (BitVec.ofInt 32 (b : Int)).toNat = b
    rw [BitVec.toNat_ofInt]
    omega
  have hlt : a ||| b < 2 ^ 31 := Nat.or_lt_two_pow (by omega) (by omega)
  have e3 : (iN (a : Int) ||| iN (b : Int)).toBitVec.toNat = a ||| b := by
    rw [Int32.toBitVec_or, BitVec.toNat_or, e1, e2]
  show (iN (a : Int) ||| iN (b : Int)).toBitVec.toInt = _
  rw [BitVec.toInt_eq_toNat_of_lt (by omega), e3]
theorem zshl_n {a : Nat} (ha : a < 8388608) : zshl a 8 = ((a * 256 : Nat) : Int) := by
  have e1 : (iN (a : Int)).toBitVec.toNat = a := by
    show (BitVec.ofInt 32 (a : Int)).toNat = a
    rw [BitVec.toNat_ofInt]
    omega
  have e8 : (iN 8 &&& 31 : Int32) = 8 := by decide
  have e3 : (iN (a : Int) <<< (iN 8 &&& 31 : Int32)).toBitVec.toNat = a * 256 := by
    rw [e8, Int32.toBitVec_shiftLeft]
    rw [show (Int32.toBitVec 8).smod 32 = 8#32 by decide]
    rw [BitVec.shiftLeft_eq', BitVec.toNat_shiftLeft, e1]
    show a <<< 8 % 2 ^ 32 = _
    rw [Nat.shiftLeft_eq]
    omega
  unfold zshl
  show (iN (a : Int) <<< (iN 8 &&& 31 : Int32)).toBitVec.toInt = _
  rw [BitVec.toInt_eq_toNat_of_lt (by omega), e3]
theorem zshor {a d : Int} (ha : 0 ≤ a ∧ a < 8388608) (hd : 0 ≤ d ∧ d < 256) : zor (zshl a 8) d = a * 256 + d := by
  obtain ⟨n, rfl⟩ := Int.eq_ofNat_of_zero_le ha.1
  obtain ⟨m, rfl⟩ := Int.eq_ofNat_of_zero_le hd.1
  rw [zshl_n (by omega), zor_n (by omega) (by omega)]
  have := Nat.shiftLeft_add_eq_or_of_lt (a := n) (b := m) (i := 8) (by omega)
  rw [Nat.shiftLeft_eq] at this
  rw [show n * 256 = n * 2 ^ 8 by omega, ← this]
  omega
theorem byW_n {x : Nat} {k : Nat} (hx : x < 2147483648) (hk : k < 32) : byW x k = ((x / 2 ^ k % 256 : Nat) : Int) := by
  have h1 : x / 2 ^ k < 2147483648 := Nat.lt_of_le_of_lt (Nat.div_le_self _ _) hx
  unfold byW
  rw [zushr_nat hx hk]
  generalize x / 2 ^ k = y at *
  unfold zand
  have e1 : (iN (y : Int)).toBitVec.toNat = y := by
    show (BitVec.ofInt 32 (y : Int)).toNat = y
    rw [BitVec.toNat_ofInt]
    omega
  have e2 : (iN 255).toBitVec.toNat = 255 := by decide
  have e3 : (iN (y : Int) &&& iN 255).toBitVec.toNat = y % 256 := by
    rw [Int32.toBitVec_and, BitVec.toNat_and, e1, e2]
    exact Nat.and_two_pow_sub_one_eq_mod y 8
  show (iN (y : Int) &&& iN 255).toBitVec.toInt = _
  rw [BitVec.toInt_eq_toNat_of_lt (by omega), e3]
/-- the number of four characters, and its bytes -/
def w4n (a b c d : Int) : Int := ((a * 256 + b) * 256 + c) * 256 + d
theorem w4_n {a b c d : Int} (ha : 0 ≤ a ∧ a < 128) (hb : 0 ≤ b ∧ b < 128) (hc : 0 ≤ c ∧ c < 128) (hd : 0 ≤ d ∧ d < 128) : w4 a b c d = w4n a b c d := by
  unfold w4
  have e1 : zor (zshl 0 8) a = a := by rw [zshor (by decide) (by omega)]; omega
  have e2 : zor (zshl a 8) b = a * 256 + b := zshor (by omega) (by omega)
  have e3 : zor (zshl (a * 256 + b) 8) c = (a * 256 + b) * 256 + c := zshor (by omega) (by omega)
  rw [e1, e2, e3]
  exact zshor (by omega) (by omega)
theorem byL_4 {a b c d : Int} (ha : 0 ≤ a ∧ a < 128) (hb : 0 ≤ b ∧ b < 128) (hc : 0 ≤ c ∧ c < 128) (hd : 0 ≤ d ∧ d < 128) : byL (w4n a b c d) = [a, b, c, d] := by
  obtain ⟨a, rfl⟩ := Int.eq_ofNat_of_zero_le ha.1
  obtain ⟨b, rfl⟩ := Int.eq_ofNat_of_zero_le hb.1
  obtain ⟨c, rfl⟩ := Int.eq_ofNat_of_zero_le hc.1
  obtain ⟨d, rfl⟩ := Int.eq_ofNat_of_zero_le hd.1
  have e : w4n a b c d = ((((a * 256 + b) * 256 + c) * 256 + d : Nat) : Int) := by unfold w4n; omega
  unfold byL
  rw [e]
  have f := fun k hk => byW_n (x := ((a * 256 + b) * 256 + c) * 256 + d) (k := k) (by omega) hk
  have f24 : byW ((((a * 256 + b) * 256 + c) * 256 + d : Nat) : Int) 24 = a := (f 24 (by decide)).trans (by omega)
  have f16 : byW ((((a * 256 + b) * 256 + c) * 256 + d : Nat) : Int) 16 = b := (f 16 (by decide)).trans (by omega)
  have f8 : byW ((((a * 256 + b) * 256 + c) * 256 + d : Nat) : Int) 8 = c := (f 8 (by decide)).trans (by omega)
  have f0 : byW ((((a * 256 + b) * 256 + c) * 256 + d : Nat) : Int) 0 = d := (f 0 (by decide)).trans (by omega)
  rw [f24, f16, f8, f0]

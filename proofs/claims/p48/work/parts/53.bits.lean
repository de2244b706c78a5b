/-! bits of small numbers -/
theorem iN_bv (n : Nat) : (iN (n : Int)).toBitVec = BitVec.ofNat 32 n := by
  show (Int32.ofInt (n : Int)).toBitVec = _
  rw [Int32.toBitVec_ofInt, BitVec.ofInt_natCast]
theorem i32_ext {x y : Int32} (h : x.toBitVec = y.toBitVec) : x = y := Int32.toBitVec_inj.mp h
theorem zand_nat {a b : Nat} (ha : a < 2147483648) : zand a b = ((a &&& b : Nat) : Int) := by
  have hle : a &&& b ≤ a := Nat.and_le_left
  unfold zand
  have e : iN (a : Int) &&& iN (b : Int) = iN ((a &&& b : Nat) : Int) := i32_ext (by rw [Int32.toBitVec_and, iN_bv, iN_bv, iN_bv, BitVec.ofNat_and])
  rw [e, iN_toInt ⟨by omega, by omega⟩]
theorem zor_nat {a b : Nat} (ha : a < 1073741824) (hb : b < 1073741824) : zor a b = ((a ||| b : Nat) : Int) := by
  have hlt : a ||| b < 2 ^ 30 := Nat.or_lt_two_pow (by simpa using ha) (by simpa using hb)
  unfold zor
  have e : iN (a : Int) ||| iN (b : Int) = iN ((a ||| b : Nat) : Int) := i32_ext (by rw [Int32.toBitVec_or, iN_bv, iN_bv, iN_bv, BitVec.ofNat_or])
  have : (2 : Nat) ^ 30 = 1073741824 := by decide
  rw [e, iN_toInt ⟨by omega, by omega⟩]
theorem zcnt : ∀ k : Nat, k < 32 → (iN (k : Int) &&& 31) = iN (k : Int) ∧ ((iN (k : Int)).toBitVec.smod 32).toNat = k ∧ (((iN (k : Int)).toUInt32 &&& Int32.toUInt32 31).toBitVec % 32).toNat = k := by decide +kernel
theorem zshl_1 : ∀ k : Nat, k < 24 → zshl 1 (k : Int) = ((2 ^ k : Nat) : Int) := by decide +kernel
theorem zushr_nat {a k : Nat} (ha : a < 2147483648) (hk : k < 32) : zushr a k = ((a / 2 ^ k : Nat) : Int) := by
  have hle : a / 2 ^ k ≤ a := Nat.div_le_self _ _
  unfold zushr
  have e : ((iN (a : Int)).toUInt32 >>> ((iN (k : Int)).toUInt32 &&& Int32.toUInt32 31)).toInt32 = iN ((a / 2 ^ k : Nat) : Int) := i32_ext (by
    rw [iN_bv]
    apply BitVec.eq_of_toNat_eq
    have h1 : ((iN (a : Int)).toUInt32 >>> ((iN (k : Int)).toUInt32 &&& Int32.toUInt32 31)).toInt32.toBitVec = (iN (a : Int)).toBitVec >>> (((iN (k : Int)).toUInt32 &&& Int32.toUInt32 31).toBitVec % 32) := rfl
    rw [h1, iN_bv]
    show ((BitVec.ofNat 32 a) >>> (((iN (k : Int)).toUInt32 &&& Int32.toUInt32 31).toBitVec % 32).toNat).toNat = _
    rw [(zcnt k hk).2.2, BitVec.toNat_ushiftRight, BitVec.toNat_ofNat, BitVec.toNat_ofNat, Nat.mod_eq_of_lt (by omega), Nat.mod_eq_of_lt (by omega), Nat.shiftRight_eq_div_pow])
  rw [e]
  generalize a / 2 ^ k = q at hle
  exact iN_toInt ⟨by omega, by omega⟩
/-- the ones among twelve bits -/
def pcn (x : Nat) : Nat := x % 2 + x / 2 % 2 + x / 4 % 2 + x / 8 % 2 + x / 16 % 2 + x / 32 % 2 + x / 64 % 2 + x / 128 % 2 + x / 256 % 2 + x / 512 % 2 + x / 1024 % 2 + x / 2048 % 2
theorem pcn_step0 : ∀ i, i < 64 → ∀ j, j < 64 → (64 * i + j = 0 ∨ (((64 * i + j) &&& (64 * i + j - 1)) < 64 * i + j ∧ pcn ((64 * i + j) &&& (64 * i + j - 1)) + 1 = pcn (64 * i + j))) := by decide +kernel
theorem pcn_step {x : Nat} (h : x < 4096) (h0 : x ≠ 0) : (x &&& (x - 1)) < x ∧ pcn (x &&& (x - 1)) + 1 = pcn x := by
  have := pcn_step0 (x / 64) (by omega) (x % 64) (by omega)
  rw [show 64 * (x / 64) + x % 64 = x by omega] at this
  exact this.resolve_left h0
def btA (x : Nat) : Nat := x - (x / 2 &&& 1431655765)
def btB (a : Nat) : Nat := (a &&& 858993459) + (a / 4 &&& 858993459)
def btC (b : Nat) : Nat := b + b / 16 &&& 252645135
def btD (c : Nat) : Nat := c + c / 256
def btE (d : Nat) : Nat := d + d / 65536 &&& 63
def bcn (x : Nat) : Nat := btE (btD (btC (btB (btA x))))
theorem bcn_eq0 : ∀ i, i < 64 → ∀ j, j < 64 → bcn (64 * i + j) = pcn (64 * i + j) := by decide +kernel
theorem bcn_eq {x : Nat} (h : x < 4096) : bcn x = pcn x := by
  have := bcn_eq0 (x / 64) (by omega) (x % 64) (by omega)
  rw [show 64 * (x / 64) + x % 64 = x by omega] at this
  exact this
theorem c_bits {x : Int} {z : ZZ} (h : 0 ≤ x ∧ x < 4096) : fJ6_bitCount_0f7a4 x z = some ((pcn x.toNat : Nat) : Int) := by
  obtain ⟨n, rfl⟩ : ∃ n : Nat, x = n := ⟨x.toNat, by omega⟩
  have hn : n < 4096 := by omega
  rw [Int.toNat_natCast, ← bcn_eq hn]
  unfold fJ6_bitCount_0f7a4 bcn
  have e1 : zushr (n : Int) 1 = ((n / 2 : Nat) : Int) := zushr_nat (k := 1) (by omega) (by decide)
  have e2 : zand ((n / 2 : Nat) : Int) 1431655765 = ((n / 2 &&& 1431655765 : Nat) : Int) := zand_nat (b := 1431655765) (by omega)
  have l2 : n / 2 &&& 1431655765 ≤ n / 2 := Nat.and_le_left
  have e3 : (n : Int) - ((n / 2 &&& 1431655765 : Nat) : Int) = ((btA n : Nat) : Int) := by unfold btA; omega
  rw [e1, e2, e3]
  have la : btA n ≤ n := Nat.sub_le _ _
  generalize btA n = a at la ⊢
  have e4 : zand (a : Int) 858993459 = ((a &&& 858993459 : Nat) : Int) := zand_nat (b := 858993459) (by omega)
  have e5 : zushr (a : Int) 2 = ((a / 4 : Nat) : Int) := zushr_nat (k := 2) (by omega) (by decide)
  have e6 : zand ((a / 4 : Nat) : Int) 858993459 = ((a / 4 &&& 858993459 : Nat) : Int) := zand_nat (b := 858993459) (by omega)
  have l4 : a &&& 858993459 ≤ a := Nat.and_le_left
  have l6 : a / 4 &&& 858993459 ≤ a / 4 := Nat.and_le_left
  have e7 : ((a &&& 858993459 : Nat) : Int) + ((a / 4 &&& 858993459 : Nat) : Int) = ((btB a : Nat) : Int) := by unfold btB; omega
  rw [e4, e5, e6, e7]
  have lb : btB a ≤ 8192 := by unfold btB; omega
  generalize btB a = b at lb ⊢
  have e8 : zushr (b : Int) 4 = ((b / 16 : Nat) : Int) := zushr_nat (k := 4) (by omega) (by decide)
  have e9 : (b : Int) + ((b / 16 : Nat) : Int) = ((b + b / 16 : Nat) : Int) := by omega
  have e10 : zand ((b + b / 16 : Nat) : Int) 252645135 = ((btC b : Nat) : Int) := zand_nat (b := 252645135) (by omega)
  have lc : btC b ≤ b + b / 16 := Nat.and_le_left
  rw [e8, e9, e10]
  generalize btC b = c at lc ⊢
  have e11 : zushr (c : Int) 8 = ((c / 256 : Nat) : Int) := zushr_nat (k := 8) (by omega) (by decide)
  have e12 : (c : Int) + ((c / 256 : Nat) : Int) = ((btD c : Nat) : Int) := by unfold btD; omega
  rw [e11, e12]
  have ld : btD c ≤ 20000 := by unfold btD; omega
  generalize btD c = d at ld ⊢
  have e13 : zushr (d : Int) 16 = ((d / 65536 : Nat) : Int) := zushr_nat (k := 16) (by omega) (by decide)
  have e14 : (d : Int) + ((d / 65536 : Nat) : Int) = ((d + d / 65536 : Nat) : Int) := by omega
  have e15 : zand ((d + d / 65536 : Nat) : Int) 63 = ((btE d : Nat) : Int) := zand_nat (b := 63) (by omega)
  rw [e13, e14, e15]
theorem pcn_le : ∀ i, i < 64 → ∀ j, j < 64 → pcn (64 * i + j) ≤ 12 := by decide +kernel
theorem pcn_le' {x : Nat} (h : x < 4096) : pcn x ≤ 12 := by
  have := pcn_le (x / 64) (by omega) (x % 64) (by omega)
  rw [show 64 * (x / 64) + x % 64 = x by omega] at this
  exact this
/-- sets of at most twelve -/
theorem sSet_lt {n : Int} (hn : 0 ≤ n ∧ n ≤ 12) (p : Int → Prop) [∀ k, Decidable (p k)] : 0 ≤ sSet n p ∧ sSet n p < 4096 := by
  have := ita_P (f := fun k s => if p k then zor s (zshl 1 k) else s) (fun i s => 0 ≤ s ∧ s < ((2 ^ i.toNat : Nat) : Int)) n.toNat 0 0 ⟨by omega, by decide⟩ (fun i a h1 h2 h => by
    have hlt : (2 : Nat) ^ i.toNat < 2 ^ (i + 1).toNat := Nat.pow_lt_pow_right (by decide) (by omega)
    have hbig : (2 : Nat) ^ (i + 1).toNat ≤ 2 ^ 12 := Nat.pow_le_pow_right (by decide) (by omega)
    have h12 : (2 : Nat) ^ 12 = 4096 := by decide
    show 0 ≤ (if p i then zor a (zshl 1 i) else a) ∧ (if p i then zor a (zshl 1 i) else a) < _
    split
    · obtain ⟨m, rfl⟩ : ∃ m : Nat, a = m := ⟨a.toNat, by omega⟩
      obtain ⟨j, rfl⟩ : ∃ j : Nat, i = j := ⟨i.toNat, by omega⟩
      rw [zshl_1 j (by omega), zor_nat (by omega) (by simp only [Int.toNat_natCast] at hlt; omega)]
      have : m ||| 2 ^ j < 2 ^ ((j : Int) + 1).toNat := Nat.or_lt_two_pow (by simp only [Int.toNat_natCast] at hlt h; omega) (by simp only [Int.toNat_natCast] at hlt; exact hlt)
      omega
    · omega)
  have e : (2 : Nat) ^ ((0 : Int) + (n.toNat : Nat)).toNat ≤ 2 ^ 12 := Nat.pow_le_pow_right (by decide) (by omega)
  have h12 : (2 : Nat) ^ 12 = 4096 := by decide
  unfold sSet
  omega

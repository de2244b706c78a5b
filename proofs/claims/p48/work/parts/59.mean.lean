/-! averages in doubles -/
theorem zn64_of {a : UInt64} (h : Jvm.FP.Core.val64 a ≠ .nan) : zn64 a := by
  have h1 := (Jvm.FP.Core.ne_nan a).mp h
  show a &&& 0x7fffffffffffffff ≤ 0x7ff0000000000000
  rw [UInt64.le_iff_toNat_le, Jvm.FP.Core.mask_toNat]
  exact h1
theorem d_int {a : Int} (h : inR a) : Jvm.FP.Core.DInt a (FP.i2d (iN a)) := by
  have := Jvm.FP.Core.i2d_int (iN a)
  rw [iN_toInt h] at this
  exact this
theorem d_0 : FP.i2d (iN 0) = 0 := by decide +kernel
theorem d_00 : FP.dadd (FP.i2d (iN 0)) (FP.i2d (iN 0)) = FP.i2d (iN 0) := by
  have h := Jvm.FP.Core.DInt_ne_nan (d_int (a := 0) (inR_s (by omega)))
  rw [d_0] at h ⊢
  exact Jvm.FP.Core.dadd_zero (a := 0) h (by decide)
theorem d_add {a b : Int} (ha : 0 ≤ a ∧ a ≤ 1000000) (hb : 0 ≤ b ∧ b ≤ 1000000) : FP.dadd (FP.i2d (iN a)) (FP.i2d (iN b)) = FP.i2d (iN (a + b)) ∧ zn64 (FP.i2d (iN (a + b))) := by
  have h1 := d_int (a := a) (inR_s (by omega))
  have h2 := d_int (a := b) (inR_s (by omega))
  have h3 := d_int (a := a + b) (inR_s (by omega))
  refine ⟨?_, zn64_of (Jvm.FP.Core.DInt_ne_nan h3)⟩
  by_cases q : a + b = 0
  · have e1 : a = 0 := by omega
    have e2 : b = 0 := by omega
    rw [e1, e2]
    exact d_00
  · exact Jvm.FP.Core.dint_unique q (Jvm.FP.Core.dadd_int h1 h2 (by omega)) h3
theorem d_div {a b : Int} (ha : inR a) (hb : 1 ≤ b ∧ b ≤ 1000000) : zn64 (FP.ddiv (FP.i2d (iN a)) (FP.i2d (iN b))) := by
  have h1 := d_int ha
  have h2 := d_int (a := b) (inR_s (by omega))
  refine zn64_of ((Jvm.FP.Core.notNaN_iff _).mp ?_)
  have h := Jvm.FP.Core.ddiv_nan_iff (FP.i2d (iN a)) (FP.i2d (iN b))
  refine Bool.eq_false_iff.mpr (fun hc => ?_)
  rcases h.mp hc with q | q | ⟨s, t, q, q2⟩ | ⟨q, s, t, q2⟩
  · exact Jvm.FP.Core.DInt_ne_nan h1 q
  · exact Jvm.FP.Core.DInt_ne_nan h2 q
  · unfold Jvm.FP.Core.DInt at h1
    rw [q] at h1
    exact h1
  · unfold Jvm.FP.Core.DInt at h2
    rw [q2] at h2
    have := (Jvm.FP.Core.whole_zero h2).mp rfl
    omega
def sSum (r : Row) (n : Nat) : Int := ita (fun k s => s + sGr r k) n 0 0
def sAvg (r : Row) : UInt64 := FP.ddiv (FP.i2d (iN (sSum r (r 37).toNat))) (FP.i2d (iN (r 37)))
section MD
variable {z : ZZ} {r : Row} {B : Int} {k gr mo w : Int}
theorem sSum_ok (hI : IH B r) : ∀ n : Nat, (n : Int) ≤ r 37 → 0 ≤ sSum r n ∧ sSum r n ≤ 29 * n
  | 0, _ => ⟨Int.le_refl 0, Int.le_refl 0⟩
  | n + 1, h => by
    have ih := sSum_ok hI n (by omega)
    have hg := sGr_ok hI (k := n) (by omega)
    have e : sSum r (n + 1) = sSum r n + sGr r n := by
      unfold sSum
      rw [ita_succ, Int.zero_add]
    rw [e]
    omega
/-! climbs until worn -/
def sWear (r : Row) (k : Int) : Int := 1 + sGr r k / 10
def sLeft (r : Row) (k : Int) : Int := if 0 < r 2 - r (38 + 18 * k + 3) then (r 2 - r (38 + 18 * k + 3) + sWear r k - 1) / sWear r k else 0
theorem sWear_ok (hI : IH B r) (hk : 0 ≤ k ∧ k < r 37) : 1 ≤ sWear r k ∧ sWear r k ≤ 3 := by
  have := sGr_ok hI hk
  unfold sWear
  omega
theorem c_wear (hR : RC z r) (hI : IH B r) (hk : 0 ≤ k ∧ k < r 37) : ∃ z', fX1_wearOfClimb k z = some (sWear r k, z') ∧ Fra F12 z z' := by
  obtain ⟨z', e, f⟩ := c_gradeOf hR hI hk
  have hg := sGr_ok hI hk
  refine ⟨z', ?_, f⟩
  unfold fX1_wearOfClimb
  rw [e]
  simp only [Option.bind_some]
  rw [if_pos (by omega), if_pos (inR_s (by omega))]
  rfl
end MD

section MD
variable {z : ZZ} {r : Row} {B : Int} {k gr mo w : Int}
/-! the hardest route on a wall -/
def sHard (r : Row) (w : Int) : Int × Int := ita (fun k q => if r (38 + 18 * k + 0) = w ∧ q.2 < sGr r k then (k, sGr r k) else q) (r 37).toNat 0 (-1, -1)
/-! how many votes make a grade -/
/-! the mean in lowest terms -/
abbrev sGcd (a b : Int) : Int := ((Nat.gcd a.toNat b.toNat : Nat) : Int)
def sMean (r : Row) (k v : Int) : Int := (if v = 0 then sS r k 0 0 else sK r k 0) / sGcd (sS r k 0 0) (sK r k 0)
theorem sGcd_ok {a b : Int} (hb : 1 ≤ b) : 1 ≤ sGcd a b ∧ sGcd a b ≤ b := by
  have hp : 0 < Nat.gcd a.toNat b.toNat := Nat.gcd_pos_of_pos_right _ (by omega)
  have hl := Nat.le_of_dvd (by omega) (Nat.gcd_dvd_right a.toNat b.toNat)
  unfold sGcd
  omega
end MD

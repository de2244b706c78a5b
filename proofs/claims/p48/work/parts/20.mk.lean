/-! the steady state: every thing of the class, of the model and of the law at its number, with its shape; what varies is one function of numbers -/
abbrev ZZ : Type := Nat → Int → Int
def zup (z : ZZ) (a : Nat) (k v : Int) : ZZ := fun b j => if b = a ∧ j = k then v else z b j
def zcp (z : ZZ) (a0 a1 : Nat) (sp dp n : Int) : ZZ := fun b j => if b = a1 ∧ dp ≤ j ∧ j < dp + n then z a0 (sp + (j - dp)) else z b j
def zSHl : List (Nat × Nat) := [(6, 3), (1, 4), (20, 30), (2, 11), (5, 4), (20, 32), (5, 4), (20, 432), (5, 4), (20, 120), (5, 4), (20, 60), (5, 4), (20, 72), (5, 4), (20, 24), (4, 7), (2, 11), (5, 4), (20, 32), (5, 4), (20, 432), (5, 4), (20, 120), (5, 4), (20, 60), (5, 4), (20, 72), (5, 4), (20, 24), (20, 600), (20, 3), (3, 5), (23, 8), (2, 11), (5, 4), (20, 32), (5, 4), (20, 432), (5, 4), (20, 120), (5, 4), (20, 60), (5, 4), (20, 72), (5, 4), (20, 24), (2, 11), (5, 4), (20, 32), (5, 4), (20, 432), (5, 4), (20, 120), (5, 4), (20, 60), (5, 4), (20, 72), (5, 4), (20, 24), (2, 11), (5, 4), (20, 32), (5, 4), (20, 432), (5, 4), (20, 120), (5, 4), (20, 60), (5, 4), (20, 72), (5, 4), (20, 24), (2, 11), (5, 4), (20, 32), (5, 4), (20, 432), (5, 4), (20, 120), (5, 4), (20, 60), (5, 4), (20, 72), (5, 4), (20, 24), (2, 11), (5, 4), (20, 32), (5, 4), (20, 432), (5, 4), (20, 120), (5, 4), (20, 60), (5, 4), (20, 72), (5, 4), (20, 24), (2, 11), (5, 4), (20, 32), (5, 4), (20, 432), (5, 4), (20, 120), (5, 4), (20, 60), (5, 4), (20, 72), (5, 4), (20, 24), (2, 11), (5, 4), (20, 32), (5, 4), (20, 432), (5, 4), (20, 120), (5, 4), (20, 60), (5, 4), (20, 72), (5, 4), (20, 24), (2, 11), (5, 4), (20, 32), (5, 4), (20, 432), (5, 4), (20, 120), (5, 4), (20, 60), (5, 4), (20, 72), (5, 4), (20, 24), (2, 11), (5, 4), (20, 32), (5, 4), (20, 432), (5, 4), (20, 120), (5, 4), (20, 60), (5, 4), (20, 72), (5, 4), (20, 24)]
def zMCl : List (Nat × Nat) := [(0, 0), (0, 0), (0, 0), (0, 0), (8, 4), (0, 0), (24, 18), (0, 0), (30, 4), (0, 0), (15, 4), (0, 0), (12, 6), (0, 0), (8, 3), (0, 0), (0, 0), (0, 0), (8, 4), (0, 0), (24, 18), (0, 0), (30, 4), (0, 0), (15, 4), (0, 0), (12, 6), (0, 0), (8, 3), (0, 0), (0, 0), (0, 0), (0, 0), (0, 0), (0, 0), (8, 4), (0, 0), (24, 18), (0, 0), (30, 4), (0, 0), (15, 4), (0, 0), (12, 6), (0, 0), (8, 3), (0, 0), (0, 0), (8, 4), (0, 0), (24, 18), (0, 0), (30, 4), (0, 0), (15, 4), (0, 0), (12, 6), (0, 0), (8, 3), (0, 0), (0, 0), (8, 4), (0, 0), (24, 18), (0, 0), (30, 4), (0, 0), (15, 4), (0, 0), (12, 6), (0, 0), (8, 3), (0, 0), (0, 0), (8, 4), (0, 0), (24, 18), (0, 0), (30, 4), (0, 0), (15, 4), (0, 0), (12, 6), (0, 0), (8, 3), (0, 0), (0, 0), (8, 4), (0, 0), (24, 18), (0, 0), (30, 4), (0, 0), (15, 4), (0, 0), (12, 6), (0, 0), (8, 3), (0, 0), (0, 0), (8, 4), (0, 0), (24, 18), (0, 0), (30, 4), (0, 0), (15, 4), (0, 0), (12, 6), (0, 0), (8, 3), (0, 0), (0, 0), (8, 4), (0, 0), (24, 18), (0, 0), (30, 4), (0, 0), (15, 4), (0, 0), (12, 6), (0, 0), (8, 3), (0, 0), (0, 0), (8, 4), (0, 0), (24, 18), (0, 0), (30, 4), (0, 0), (15, 4), (0, 0), (12, 6), (0, 0), (8, 3), (0, 0), (0, 0), (8, 4), (0, 0), (24, 18), (0, 0), (30, 4), (0, 0), (15, 4), (0, 0), (12, 6), (0, 0), (8, 3), (0, 0)]
def zSTl : List (Nat × Nat × Nat) := [(1000001, 30, 5), (1000002, 30, 15), (1000003, 30, 15), (1000010, 32, 100), (1000011, 32, 100), (1000100, 31, 0), (1000200, 32, 5), (1000101, 31, 0), (1000201, 32, 4), (1000102, 31, 0), (1000202, 32, 7), (1000103, 31, 0), (1000203, 32, 6), (1000104, 31, 0), (1000204, 32, 6), (1000105, 31, 0), (1000205, 32, 6), (1000106, 31, 0), (1000206, 32, 1), (1000107, 31, 0), (1000207, 32, 3), (1000108, 31, 0), (1000208, 32, 6), (1000109, 31, 0), (1000209, 32, 11), (1000110, 31, 0), (1000210, 32, 8), (1000111, 31, 0), (1000211, 32, 8), (1000112, 31, 0), (1000212, 32, 30), (1000113, 31, 0), (1000213, 32, 28), (1000114, 31, 0), (1000214, 32, 27), (1000115, 31, 0), (1000215, 32, 47), (1000116, 31, 0), (1000216, 32, 35), (1000117, 31, 0), (1000217, 32, 26), (1000118, 31, 0), (1000218, 32, 22), (1000119, 31, 0), (1000219, 32, 24), (1000120, 31, 0), (1000220, 32, 28), (1000121, 31, 0), (1000221, 32, 37), (1000122, 31, 0), (1000222, 32, 24), (1000123, 31, 0), (1000223, 32, 23), (1000124, 31, 0), (1000224, 32, 44), (1000125, 31, 0), (1000225, 32, 25), (1000126, 31, 0), (1000226, 32, 30), (1000127, 31, 0), (1000227, 32, 40), (1000128, 31, 0), (1000228, 32, 26), (1000129, 31, 0), (1000229, 32, 0), (1000130, 31, 0), (1000230, 32, 12), (1000131, 31, 0), (1000231, 32, 12), (1000132, 31, 0), (1000232, 32, 11), (1000133, 31, 0), (1000233, 32, 17), (1000134, 31, 0), (1000234, 32, 10), (1000135, 31, 0), (1000235, 32, 10), (1000136, 31, 0), (1000236, 32, 11), (1000137, 31, 0), (1000237, 32, 11), (1000138, 31, 0), (1000238, 32, 13), (1000139, 31, 0), (1000239, 32, 10), (1000140, 31, 0), (1000240, 32, 12), (1000141, 31, 0), (1000241, 32, 13), (1000142, 31, 0), (1000242, 32, 14), (1000143, 31, 0), (1000243, 32, 13), (1000144, 31, 0), (1000244, 32, 13), (1000145, 31, 0), (1000245, 32, 11), (1000146, 31, 0), (1000246, 32, 8), (1000147, 31, 0), (1000247, 32, 12)]
def zKCl : List (Nat × List Int) := [(1000001, [3, 3, 2, 2, 3]), (1000002, [0, 0, 1, 3, 0, 1, 0, 1, 0, 0, 0, 0, 1, 1, 0]), (1000003, [40, 10, 200, 30, 5, 60, 3, 365, 0, 3, 5, 0, 5, 12, 200]), (1000010, [48, 48, 48, 48, 48, 48, 48, 48, 48, 48, 49, 49, 49, 49, 49, 49, 49, 49, 49, 49, 50, 50, 50, 50, 50, 50, 50, 50, 50, 50, 51, 51, 51, 51, 51, 51, 51, 51, 51, 51, 52, 52, 52, 52, 52, 52, 52, 52, 52, 52, 53, 53, 53, 53, 53, 53, 53, 53, 53, 53, 54, 54, 54, 54, 54, 54, 54, 54, 54, 54, 55, 55, 55, 55, 55, 55, 55, 55, 55, 55, 56, 56, 56, 56, 56, 56, 56, 56, 56, 56, 57, 57, 57, 57, 57, 57, 57, 57, 57, 57]), (1000011, [48, 49, 50, 51, 52, 53, 54, 55, 56, 57, 48, 49, 50, 51, 52, 53, 54, 55, 56, 57, 48, 49, 50, 51, 52, 53, 54, 55, 56, 57, 48, 49, 50, 51, 52, 53, 54, 55, 56, 57, 48, 49, 50, 51, 52, 53, 54, 55, 56, 57, 48, 49, 50, 51, 52, 53, 54, 55, 56, 57, 48, 49, 50, 51, 52, 53, 54, 55, 56, 57, 48, 49, 50, 51, 52, 53, 54, 55, 56, 57, 48, 49, 50, 51, 52, 53, 54, 55, 56, 57, 48, 49, 50, 51, 52, 53, 54, 55, 56, 57]), (1000200, [114, 117, 108, 101, 115]), (1000201, [119, 97, 108, 108]), (1000202, [104, 97, 114, 110, 101, 115, 115]), (1000203, [109, 101, 109, 98, 101, 114]), (1000204, [99, 111, 117, 114, 115, 101]), (1000205, [114, 117, 108, 101, 115, 32]), (1000206, [32]), (1000207, [32, 62, 32]), (1000208, [59, 119, 97, 108, 108, 32]), (1000209, [32, 59, 32, 104, 97, 114, 110, 101, 115, 115, 32]), (1000210, [59, 109, 101, 109, 98, 101, 114, 32]), (1000211, [59, 99, 111, 117, 114, 115, 101, 32]), (1000212, [116, 104, 101, 32, 110, 117, 109, 98, 101, 114, 32, 105, 115, 32, 111, 117, 116, 32, 111, 102, 32, 105, 116, 115, 32, 114, 97, 110, 103, 101]), (1000213, [116, 104, 101, 114, 101, 32, 105, 115, 32, 110, 111, 110, 101, 32, 111, 102, 32, 116, 104, 105, 115, 32, 110, 117, 109, 98, 101, 114]), (1000214, [116, 104, 101, 32, 115, 101, 116, 117, 112, 32, 116, 101, 120, 116, 32, 105, 115, 32, 110, 111, 116, 32, 118, 97, 108, 105, 100]), (1000215, [116, 104, 101, 32, 105, 110, 112, 117, 116, 32, 98, 117, 102, 102, 101, 114, 32, 119, 111, 117, 108, 100, 32, 104, 97, 118, 101, 32, 109, 111, 114, 101, 32, 116, 104, 97, 110, 32, 54, 48, 48, 32, 98, 121, 116, 101, 115]), (1000216, [116, 104, 101, 32, 109, 101, 109, 98, 101, 114, 32, 109, 97, 121, 32, 110, 111, 116, 32, 99, 108, 105, 109, 98, 32, 116, 104, 105, 115, 32, 114, 111, 117, 116, 101]), (1000217, [116, 104, 101, 114, 101, 32, 105, 115, 32, 110, 111, 32, 99, 104, 97, 110, 103, 101, 32, 116, 111, 32, 117, 110, 100, 111]), (1000218, [116, 104, 101, 114, 101, 32, 105, 115, 32, 110, 111, 32, 115, 97, 118, 101, 100, 32, 99, 111, 112, 121]), (1000219, [116, 104, 101, 32, 119, 97, 108, 108, 32, 105, 115, 32, 99, 108, 111, 115, 101, 100, 32, 116, 111, 100, 97, 121]), (1000220, [116, 104, 101, 114, 101, 32, 105, 115, 32, 110, 111, 32, 114, 111, 111, 109, 32, 102, 111, 114, 32, 97, 32, 114, 111, 117, 116, 101]), (1000221, [116, 104, 101, 32, 109, 101, 109, 98, 101, 114, 32, 104, 97, 115, 32, 110, 111, 116, 32, 99, 108, 105, 109, 98, 101, 100, 32, 116, 104, 105, 115, 32, 114, 111, 117, 116, 101]), (1000222, [116, 104, 101, 32, 109, 101, 109, 98, 101, 114, 32, 104, 97, 115, 32, 97, 32, 104, 97, 114, 110, 101, 115, 115]), (1000223, [116, 104, 101, 32, 115, 105, 122, 101, 115, 32, 97, 114, 101, 32, 100, 105, 102, 102, 101, 114, 101, 110, 116]), (1000224, [116, 104, 101, 32, 104, 97, 114, 110, 101, 115, 115, 32, 105, 115, 32, 108, 101, 110, 116, 32, 111, 114, 32, 104, 97, 115, 32, 110, 111, 32, 99, 104, 101, 99, 107, 32, 105, 110, 32, 102, 111, 114, 99, 101]), (1000225, [116, 104, 101, 32, 109, 101, 109, 98, 101, 114, 32, 104, 97, 115, 32, 110, 111, 32, 104, 97, 114, 110, 101, 115, 115]), (1000226, [116, 104, 101, 32, 104, 97, 114, 110, 101, 115, 115, 32, 105, 115, 32, 108, 101, 110, 116, 32, 111, 114, 32, 114, 101, 116, 105, 114, 101, 100]), (1000227, [116, 104, 101, 32, 109, 101, 109, 98, 101, 114, 32, 109, 97, 121, 32, 110, 111, 116, 32, 101, 110, 114, 111, 108, 108, 32, 105, 110, 32, 116, 104, 105, 115, 32, 99, 111, 117, 114, 115, 101]), (1000228, [116, 104, 101, 32, 109, 101, 109, 98, 101, 114, 32, 105, 115, 32, 105, 110, 32, 110, 111, 32, 99, 111, 117, 114, 115, 101]), (1000229, []), (1000230, [114, 117, 108, 101, 115, 32, 52, 49, 32, 48, 32, 49]), (1000231, [114, 117, 108, 101, 115, 32, 48, 32, 49, 49, 32, 49]), (1000232, [114, 117, 108, 101, 115, 32, 48, 32, 48, 32, 48]), (1000233, [114, 117, 108, 101, 115, 32, 48, 32, 48, 32, 49, 59, 114, 117, 108, 101, 115]), (1000234, [119, 97, 108, 108, 32, 50, 32, 48, 32, 49]), (1000235, [119, 97, 108, 108, 32, 51, 32, 54, 32, 49]), (1000236, [119, 97, 108, 108, 32, 51, 32, 48, 32, 54, 49]), (1000237, [104, 97, 114, 110, 101, 115, 115, 32, 52, 32, 49]), (1000238, [104, 97, 114, 110, 101, 115, 115, 32, 48, 32, 51, 54, 54]), (1000239, [109, 101, 109, 98, 101, 114, 32, 48, 32, 54]), (1000240, [99, 111, 117, 114, 115, 101, 32, 48, 32, 49, 32, 49]), (1000241, [99, 111, 117, 114, 115, 101, 32, 49, 32, 49, 51, 32, 49]), (1000242, [99, 111, 117, 114, 115, 101, 32, 49, 32, 49, 32, 50, 48, 49]), (1000243, [99, 111, 117, 114, 115, 101, 32, 49, 32, 49, 32, 49, 59]), (1000244, [119, 97, 108, 108, 32, 48, 48, 48, 51, 32, 48, 32, 49]), (1000245, [119, 97, 108, 108, 115, 32, 51, 32, 48, 32, 49]), (1000246, [119, 97, 108, 108, 32, 51, 32, 48]), (1000247, [109, 101, 109, 98, 101, 114, 32, 49, 32, 49, 32, 49])]
/-- what the law has made: the next number, the slots so far, shapes, contents (a reference is the number of what it refers to, 0 is null) -/
abbrev DD : Type := Int × Int × (Int → Nat × Nat) × (Int → Int → Int)
abbrev dT (D : DD) : Int := D.1
abbrev dS (D : DD) : Int := D.2.1
abbrev dH (D : DD) : Int → Nat × Nat := D.2.2.1
abbrev dW (D : DD) : Int → Int → Int := D.2.2.2
abbrev ZR : Type := Nat × DD
def z0 : ZR := (0, 151, 0, fun _ => (0, 0), fun _ _ => 0)
def zST (a : Nat) : Nat × Nat := if a = 1000012 then (35, 0) else if a = 1000299 then (35, 256) else if 1000300 ≤ a ∧ a < 1000556 then (33, 0) else (zSTl.lookup a).getD (0, 0)
def zSH (ln : ZR) (a : Nat) : Nat × Nat := if a < 151 then zSHl.getD a (0, 0) else if a < 1000000 then (if (a : Int) < dT ln.2 then dH ln.2 a else (0, 0)) else if a = 1000000 then (30, ln.1) else zST a
/-- the slots that hold references -/
def isRf (s k : Nat) : Bool := match s with
  | 7 => Nat.ble 4 k && Nat.ble k 9
  | 8 => k == 6
  | 9 => k == 1
  | 10 => k == 3
  | 11 => Nat.ble k 3 || Nat.ble 6 k && Nat.ble k 8
  | 12 => Nat.ble k 4
  | 13 => Nat.ble k 1 || k == 3
  | 14 => k == 0
  | 15 => Nat.ble k 1 || k == 3
  | 16 => k == 0
  | 17 => k == 0
  | 18 => k == 0
  | 22 => true
  | _ => false
def rV (v : Int) : Value := if v ≤ 0 then .null else .ref v.toNat
def dcv (s k : Nat) (v : Int) : Value := if isRf s k then rV v else .int (iN v)
def zMR (t : Nat) : Int := ((zMCl.getD t (0, 0)).1 : Nat)
def zCO (t : Nat) : Int := ((zMCl.getD t (0, 0)).2 : Nat)
def zTS (t : Nat) : Nat := (zMCl.getD t (0, 0)).1 * (zMCl.getD t (0, 0)).2
def zKC (a : Nat) (k : Int) : Int := ((zKCl.lookup a).getD []).getD k.toNat 0
def zcv (s a k : Nat) (v : Int) : Value := match s with
  | 1 => if k = 0 then .ref 2 else .int (iN v)
  | 2 => if k < 6 then .ref (a + 1 + 2 * k) else if k = 6 then .ref 1 else .int (iN v)
  | 3 => if k = 0 then .ref 33 else if k = 3 then .ref 138 else .int (iN v)
  | 4 => if k = 0 then .ref 30 else if k = 2 then .ref 17 else if k = 3 then .ref 31 else .int (iN v)
  | 5 => if k = 0 then .int (iN (zMR a)) else if k = 1 then .int (iN (zCO a)) else if k = 2 then .ref (a + 1) else .int (iN v)
  | 6 => if k = 0 then .ref 3 else if k = 1 then .ref 16 else if k = 2 then .ref 32 else .null
  | 23 => if k < 8 then .ref (34 + 13 * k) else .null
  | 33 => .int (iN ((a : Int) - 1000428))
  | 35 => if a = 1000299 then .ref (1000300 + k) else .null
  | 30 => if a = 1000000 then .int (iN v) else .int (iN (zKC a k))
  | 31 => if k = 0 then .ref (a + 100) else .int (iN 0)
  | 32 => .int (iN (zKC a k))
  | _ => .int (iN v)
def zCT (z : ZZ) (a k : Nat) : Value := zcv (zSH z0 a).1 a k (z a k)
def zCD (ln : ZR) (z : ZZ) (a k : Nat) : Value := if 151 ≤ a ∧ a < 1000000 then dcv (zSH ln a).1 k (dW ln.2 a k) else zCT z a k
def zmk (ln : ZR) (N : Nat) (z : ZZ) : xS := (N, zSH ln, zCD ln z)
def tN (ln : ZR) : Nat := max 151 (dT ln.2).toNat
/-- one of the class's things -/
abbrev zA (a N : Nat) : Prop := a < N ∧ a < 151
def okz (z : ZZ) : Prop := ∀ a j, a ≠ 160 → inR (z a j)
theorem okz_up {z : ZZ} {a : Nat} {k v : Int} (hz : okz z) (hv : inR v) : okz (zup z a k v) := by
  intro b j hb
  simp only [zup]
  split
  · exact hv
  · exact hz b j hb
theorem okz_upD {z : ZZ} {k v : Int} (hz : okz z) : okz (zup z 160 k v) := by
  intro b j hb
  simp only [zup]
  rw [if_neg (fun h => hb h.1)]
  exact hz b j hb
theorem okz_cp {z : ZZ} {a0 a1 : Nat} {sp dp n : Int} (hz : okz z) (ha : a0 ≠ 160) : okz (zcp z a0 a1 sp dp n) := by
  intro b j hb
  simp only [zcp]
  split
  · exact hz _ _ ha
  · exact hz b j hb
theorem zSH_1 (ln : ZR) {a : Nat} (h : a < 151 ∨ 1000000 ≤ a) : (zSH ln a).1 = (zSH z0 a).1 := by
  unfold zSH
  by_cases c : a < 151
  · rw [if_pos c, if_pos c]
  · rw [if_neg c, if_neg c, if_neg (show ¬ a < 1000000 by omega), if_neg (show ¬ a < 1000000 by omega)]
    by_cases d : a = 1000000
    · rw [if_pos d, if_pos d]
    · rw [if_neg d, if_neg d]
theorem zCD_c {ln : ZR} {z : ZZ} {a k : Nat} (h : a < 151 ∨ 1000000 ≤ a) : zCD ln z a k = zCT z a k := by
  unfold zCD
  rw [if_neg (by omega)]
theorem zmk_up {ln : ZR} {N : Nat} {z : ZZ} {a k : Nat} {j v : Int} {w : Value} (h : a < 151) (hj : (k : Int) = j) (hw : w = zcv (zSH z0 a).1 a k v) : xset (zmk ln N z) a k w = zmk ln N (zup z a j v) := by
  subst hj
  refine Prod.ext rfl (Prod.ext rfl ?_)
  funext b i
  show (if b = a ∧ i = k then w else zCD ln z b i) = zCD ln (zup z a k v) b i
  by_cases hb : 151 ≤ b ∧ b < 1000000
  · rw [if_neg (by omega)]
    unfold zCD
    rw [if_pos hb, if_pos hb]
  · unfold zCD
    rw [if_neg hb, if_neg hb]
    show (if b = a ∧ i = k then w else zCT z b i) = zcv (zSH z0 b).1 b i (zup z a k v b i)
    by_cases h : b = a ∧ i = k
    · obtain ⟨rfl, rfl⟩ := h
      simp only [zup, and_self, if_true]
      exact hw
    · rw [if_neg h]
      have : zup z a k v b i = z b i := by
        simp only [zup]
        rw [if_neg (fun q => h ⟨q.1, by have := q.2; omega⟩)]
      rw [this]
      rfl
def isT (t : Nat) : Prop := t < 151 ∧ (zSHl.getD t (0, 0)).1 = 5
def isH (h : Nat) : Prop := h ∈ [3, 17, 34, 47, 60, 73, 86, 99, 112, 125, 138]
def zWl : List Nat := [1000100, 1000101, 1000102, 1000103, 1000104, 1000105, 1000106, 1000107, 1000108, 1000109, 1000110, 1000111, 1000112, 1000113, 1000114, 1000115, 1000116, 1000117, 1000118, 1000119, 1000120, 1000121, 1000122, 1000123, 1000124, 1000125, 1000126, 1000127, 1000128, 1000129, 1000130, 1000131, 1000132, 1000133, 1000134, 1000135, 1000136, 1000137, 1000138, 1000139, 1000140, 1000141, 1000142, 1000143, 1000144, 1000145, 1000146, 1000147]
def isW (w : Nat) : Prop := w ∈ zWl
theorem isT_all : ∀ t, t < 151 → (zSHl.getD t (0, 0)).1 = 5 → zSHl.getD (t + 1) (0, 0) = (20, zTS t) ∧ t + 1 < 151 ∧ zTS t ≤ 432 ∧ 0 ≤ zMR t ∧ zMR t ≤ 30 ∧ 0 ≤ zCO t ∧ zCO t ≤ 18 ∧ zMR t * zCO t = zTS t := by decide +kernel
theorem isT_sh {t : Nat} (h : isT t) (ln : ZR) : (zSH ln t).1 = 5 := by
  unfold zSH
  rw [if_pos (by have := h.1; omega)]
  exact h.2
theorem isT_sh1 {t : Nat} (h : isT t) (ln : ZR) : zSH ln (t + 1) = (20, zTS t) := by
  have := isT_all t h.1 h.2
  unfold zSH
  rw [if_pos (by omega)]
  exact this.1
theorem isT_lt {t N : Nat} (h : isT t) (hN : 151 ≤ N ∧ N < 999999) : zA t N := by have := h.1; constructor <;> omega
theorem isT_lt1 {t N : Nat} (h : isT t) (hN : 151 ≤ N ∧ N < 999999) : zA (t + 1) N := by have := isT_all t h.1 h.2; constructor <;> omega
theorem isT_ne {t : Nat} (h : isT t) : t ≠ 160 := by have := h.1; omega
theorem isT_ne1 {t : Nat} (h : isT t) : t + 1 ≠ 160 := by have := isT_all t h.1 h.2; omega
theorem isT_TS {t : Nat} (h : isT t) : zTS t < 2147483648 := by have := isT_all t h.1 h.2; omega
theorem inR_TS {t : Nat} (h : isT t) : inR (zTS t : Nat) := by have := isT_all t h.1 h.2; constructor <;> omega
theorem inR_MR {t : Nat} (h : isT t) : inR (zMR t) := by have := isT_all t h.1 h.2; constructor <;> omega
theorem inR_CO {t : Nat} (h : isT t) : inR (zCO t) := by have := isT_all t h.1 h.2; constructor <;> omega
theorem isT_0 {t : Nat} (h : isT t) (z : ZZ) : zCT z t 0 = .int (iN (zMR t)) := by unfold zCT; rw [isT_sh h]; rfl
theorem isT_1 {t : Nat} (h : isT t) (z : ZZ) : zCT z t 1 = .int (iN (zCO t)) := by unfold zCT; rw [isT_sh h]; rfl
theorem isT_2 {t : Nat} (h : isT t) (z : ZZ) : zCT z t 2 = .ref (t + 1) := by unfold zCT; rw [isT_sh h]; rfl
theorem isT_3 {t : Nat} (h : isT t) (z : ZZ) : zCT z t 3 = .int (iN (z t 3)) := by unfold zCT; rw [isT_sh h]; rfl
theorem isT_3v {t : Nat} (h : isT t) (v : Int) : Value.int (iN v) = zcv (zSH z0 t).1 t 3 v := by rw [isT_sh h]; rfl
theorem isH_all : ∀ h, isH h → (h < 151 ∧ (zSHl.getD h (0, 0)).1 = 2) ∧ isT (h + 1) ∧ isT (h + 3) ∧ isT (h + 5) ∧ isT (h + 7) ∧ isT (h + 9) ∧ isT (h + 11) := by
  unfold isH isT
  decide +kernel
theorem isH_lt {h N : Nat} (hh : isH h) (hN : 151 ≤ N ∧ N < 999999) : zA h N := by have := (isH_all h hh).1.1; constructor <;> omega
theorem isH_sh {h : Nat} (hh : isH h) (ln : ZR) : (zSH ln h).1 = 2 := by
  have := (isH_all h hh).1
  unfold zSH
  rw [if_pos (by omega)]
  exact this.2
theorem isH_ne {h : Nat} (hh : isH h) : h ≠ 160 := by have := (isH_all h hh).1.1; omega
theorem isH_r {h : Nat} (hh : isH h) (z : ZZ) {k a : Nat} (hk : k < 6) (ha : h + 1 + 2 * k = a) : zCT z h k = .ref a := by
  subst ha
  unfold zCT
  rw [isH_sh hh]
  show (if k < 6 then Value.ref (h + 1 + 2 * k) else _) = _
  rw [if_pos hk]
theorem isH_i {h : Nat} (hh : isH h) (z : ZZ) {k : Nat} {j : Int} (hk : 7 ≤ k) (hj : (k : Int) = j) : zCT z h k = .int (iN (z h j)) := by
  subst hj
  unfold zCT
  rw [isH_sh hh]
  show (if k < 6 then Value.ref (h + 1 + 2 * k) else if k = 6 then _ else _) = _
  rw [if_neg (by omega), if_neg (by omega)]
theorem isH_v {h : Nat} (hh : isH h) {k : Nat} (hk : 7 ≤ k) (v : Int) : Value.int (iN v) = zcv (zSH z0 h).1 h k v := by
  rw [isH_sh hh]
  show _ = (if k < 6 then Value.ref (h + 1 + 2 * k) else if k = 6 then _ else _)
  rw [if_neg (by omega), if_neg (by omega)]
theorem cs {n m : Nat} (h : Nat.ble n m = true) : n ≤ m := Nat.le_of_ble_eq_true h
theorem cl {n m : Nat} (h : Nat.ble (n + 1) m = true) : n < m := Nat.le_of_ble_eq_true h
theorem zlN {a N : Nat} {c : Nat} (hN : 151 ≤ N ∧ N < c) (h : a < 151) : zA a N := ⟨Nat.lt_of_lt_of_le h hN.1, h⟩
theorem hN1 {ln : ZR} {N : Nat} (hN : tN ln ≤ N ∧ N < 999999) : 151 ≤ N ∧ N < 999999 := ⟨by have : 151 ≤ tN ln := Nat.le_max_left _ _; omega, hN.2⟩
theorem zSH_junk {ln : ZR} {N : Nat} (h1 : tN ln ≤ N) (h2 : N < 1000000) : (zSH ln N).1 = 0 := by
  have h3 : 151 ≤ tN ln := Nat.le_max_left _ _
  have h4 : (dT ln.2).toNat ≤ tN ln := Nat.le_max_right _ _
  unfold zSH
  rw [if_neg (by omega), if_pos h2, if_neg (by omega)]
/-- outcomes -/
def zl {α β : Type} (x : α) (f : α → β) : β := f x
theorem zl_some {α β : Type} {P : α → Prop} {x : α} {f : α → Option β} {r : β} (h : zl x f = some r) (p : P x) : ∃ y, x = y ∧ P y ∧ f y = some r := ⟨x, rfl, p, h⟩
theorem bs {α β : Type} {o : Option α} {k : α → Option β} {r : β} (h : o.bind k = some r) : ∃ a, o = some a ∧ k a = some r := Option.bind_eq_some_iff.mp h
theorem gs {β : Type} {p : Prop} [Decidable p] {x : Option β} {r : β} (h : (if p then x else none) = some r) : p ∧ x = some r := by
  by_cases hp : p
  · rw [if_pos hp] at h; exact ⟨hp, h⟩
  · rw [if_neg hp] at h; cases h
theorem if_t {β : Type} {p : Prop} [Decidable p] {x y : Option β} {r : β} (hp : p) (h : (if p then x else y) = some r) : x = some r := by rw [if_pos hp] at h; exact h
theorem if_f {β : Type} {p : Prop} [Decidable p] {x y : Option β} {r : β} (hp : ¬ p) (h : (if p then x else y) = some r) : y = some r := by rw [if_neg hp] at h; exact h
def zlp {S R : Type} (f : S → Option (S ⊕ R)) : Nat → S → Option R
  | 0, _ => none
  | n + 1, s => match f s with
    | none => none
    | some (.inl s') => zlp f n s'
    | some (.inr r) => some r
theorem zlp_s {S R : Type} {f : S → Option (S ⊕ R)} {n : Nat} {s : S} {r : R} (h : zlp f (n + 1) s = some r) : (∃ s', f s = some (.inl s') ∧ zlp f n s' = some r) ∨ f s = some (.inr r) := by
  simp only [zlp] at h
  split at h
  · cases h
  · next s' e => exact Or.inl ⟨s', e, h⟩
  · next r' e => cases h; exact Or.inr e
def FU : Nat := 100000
theorem inR_c {n : Int} (h : decide (-2147483648 ≤ n ∧ n < 2147483648) = true) : inR n := of_decide_eq_true h
theorem inR_max {a b : Int} (ha : inR a) (hb : inR b) : inR (max a b) := by constructor <;> omega
theorem inR_min {a b : Int} (ha : inR a) (hb : inR b) : inR (min a b) := by constructor <;> omega
theorem inR_cmp (a b : Int) : inR (zcmp a b) := by
  unfold zcmp
  split
  · exact inR_c rfl
  · split <;> exact inR_c rfl
theorem inR_b {a : Int} (h : a = 0 ∨ a = 1) : inR a := by constructor <;> omega
theorem inR_div {a b : Int} (h : 0 ≤ a ∧ 0 < b) (ha : inR a) : inR (a / b) := by
  have h1 : a / b ≤ a := Int.ediv_le_self b h.1
  have h2 : 0 ≤ a / b := Int.ediv_nonneg h.1 (Int.le_of_lt h.2)
  constructor <;> omega
theorem inR_mod {a b : Int} (h : 0 ≤ a ∧ 0 < b) (hb : inR b) : inR (a % b) := by
  have h1 : a % b < b := Int.emod_lt_of_pos a h.2
  have h2 : 0 ≤ a % b := Int.emod_nonneg a (by omega)
  constructor <;> omega
theorem inL_R {a : Int} (h : inR a) : inL a := by constructor <;> omega
theorem inL_mul {a b : Int} (ha : inR a) (hb : inR b) : inL (a * b) := by
  have h1 : (a * b).natAbs ≤ 2147483648 * 2147483648 := by rw [Int.natAbs_mul]; exact Nat.mul_le_mul (by omega) (by omega)
  constructor <;> omega
theorem inL_c {n : Int} (h : decide (-9223372036854775808 ≤ n ∧ n < 9223372036854775808) = true) : inL n := of_decide_eq_true h
/-- locals: fewer of them known -/
def sub : List (Option Value) → List (Option Value) → Prop
  | [], [] => True
  | none :: as, _ :: bs => sub as bs
  | some a :: as, some b :: bs => a = b ∧ sub as bs
  | _, _ => False
theorem sub_0 : sub [] [] := trivial
theorem sub_n {as bs : List (Option Value)} {b : Option Value} (h : sub as bs) : sub (none :: as) (b :: bs) := by cases b <;> exact h
theorem sub_s {as bs : List (Option Value)} {a : Value} (h : sub as bs) : sub (some a :: as) (some a :: bs) := ⟨rfl, h⟩
theorem sub_len : ∀ {as bs : List (Option Value)}, sub as bs → as.length = bs.length
  | [], [], _ => rfl
  | none :: as, none :: bs, h => by simp only [List.length_cons]; rw [sub_len (as := as) (bs := bs) h]
  | none :: as, some b :: bs, h => by simp only [List.length_cons]; rw [sub_len (as := as) (bs := bs) h]
  | some a :: as, some b :: bs, h => by simp only [List.length_cons]; rw [sub_len (as := as) (bs := bs) h.2]
  | some a :: as, none :: bs, h => h.elim
  | [], _ :: _, h => h.elim
  | some a :: as, [], h => h.elim
  | none :: as, [], h => h.elim
theorem sub_at : ∀ {as bs : List (Option Value)} {i : Nat} {v : Value}, sub as bs → as[i]? = some (some v) → bs[i]? = some (some v)
  | none :: as, b :: bs, 0, v, _, e => by cases e
  | none :: as, b :: bs, i + 1, v, h, e => by
    rw [List.getElem?_cons_succ] at e ⊢
    refine sub_at (as := as) (bs := bs) ?_ e
    cases b <;> exact h
  | some a :: as, some b :: bs, 0, v, h, e => by
    rw [List.getElem?_cons_zero] at e ⊢
    rw [← h.1]; exact e
  | some a :: as, some b :: bs, i + 1, v, h, e => by
    rw [List.getElem?_cons_succ] at e ⊢
    exact sub_at (as := as) (bs := bs) h.2 e
  | some a :: as, none :: bs, _, _, h, _ => h.elim
  | [], _, i, v, _, e => by cases e
  | some a :: as, [], _, _, h, _ => h.elim
  | none :: as, [], _, _, h, _ => h.elim
section YR
variable {μ μ' : xM} {pc pc' tgt : Nat} {L L' : List (Option Value)} {st : List Value} {σ : xS} {ln : ZR} {N : Nat} {z : ZZ} {c9 s9 : Nat} {Φ : xRes → xS → Prop}
theorem X_sub (h : sub L' L) (k : X μ pc L' st σ c9 s9 Φ) : X μ pc L st σ c9 s9 Φ := by
  intro g p l e R s m args below meth c Q hC hE H locs cells slots ls hR hL hS hc hs
  exact k g p l e R s m args below meth c Q hC hE H locs cells slots ls hR ⟨(sub_len h).trans hL.1, hL.2.1, hL.2.2.1, fun i v hi => hL.2.2.2 i v (sub_at h hi)⟩ hS hc hs
theorem X_sim {Ψ : xRes → xS → Prop} (h : ∀ r τ, Ψ r τ → ∃ τ', Φ r τ' ∧ ∀ g H, xRep g τ H → xRep g τ' H) (k : X μ pc L st σ c9 s9 Ψ) : X μ pc L st σ c9 s9 Φ := by
  intro g p l e R s m args below meth c Q hC hE
  exact k g p l e R s m args below meth c Q hC ⟨fun v τ H locs cells slots ls pc hΦ hRep => by
    obtain ⟨τ', h1, h2⟩ := h _ _ hΦ
    exact hE.1 v τ' H locs cells slots ls pc h1 (h2 g H hRep), fun E τ H locs cells slots ls pc rest q ce hΦ hRep => by
    obtain ⟨τ', h1, h2⟩ := h _ _ hΦ
    exact hE.2 E τ' H locs cells slots ls pc rest q ce h1 (h2 g H hRep)⟩
theorem X_from {τ : xS} (h : ∀ g H, xRep g σ H → xRep g τ H) (k : X μ pc L st τ c9 s9 Φ) : X μ pc L st σ c9 s9 Φ := by
  intro g p l e R s m args below meth c Q hC hE H locs cells slots ls hR
  exact k g p l e R s m args below meth c Q hC hE H locs cells slots ls (h g H hR)
theorem Y_get {idx c k a : Nat} {v : Value} (hd : decode (xB μ) pc = .ok (.getfield idx, 3)) (hp : pc + 3 = pc') (hf : xFl (xY μ).cls idx c k) (ha : zA a N) (hs : (zSH ln a).1 = c + 1) (hv : zCT z a k = v) (k9 : X μ pc' L (v :: st) (zmk ln N z) c9 s9 Φ) : X μ pc L (.ref a :: st) (zmk ln N z) c9 s9 Φ :=
  X_getf hd hp hf ha.1 hs ((zCD_c (Or.inl ha.2)).trans hv) k9
theorem Y_put {idx c k a : Nat} {j v : Int} (hd : decode (xB μ) pc = .ok (.putfield idx, 3)) (hp : pc + 3 = pc') (hf : xFl (xY μ).cls idx c k) (ha : zA a N) (hs : (zSH ln a).1 = c + 1) (hfin : ∀ r : vw_C, xcl[c]? = some r → (r.2.1 k).2.2.2 = false) (hv : xFit (xct c k) (.int (iN v))) (hj : (k : Int) = j) (hw : Value.int (iN v) = zcv (zSH z0 a).1 a k v) (k9 : X μ pc' L st (zmk ln N (zup z a j v)) c9 s9 Φ) : X μ pc L (.int (iN v) :: .ref a :: st) (zmk ln N z) c9 s9 Φ :=
  X_putf hd hp hf ha.1 hs (fun r hr => Or.inl (hfin r hr)) hv (by rw [zmk_up ha.2 hj hw]; exact k9)
theorem zCT_20 {ln : ZR} {a n : Nat} (hs : zSH ln a = (20, n)) (h : a < 151) (z : ZZ) {j : Int} (hj : 0 ≤ j) : zCT z a j.toNat = .int (iN (z a j)) := by
  unfold zCT
  rw [← zSH_1 ln (Or.inl h), hs]
  show Value.int (iN (z a (j.toNat : Nat))) = _
  rw [Int.toNat_of_nonneg hj]
theorem Y_iald {a n : Nat} {j : Int} (hd : decode (xB μ) pc = .ok (.iaload, 1)) (hp : pc + 1 = pc') (ha : zA a N) (hs : zSH ln a = (20, n)) (hn : n < 2147483648) (hj : 0 ≤ j ∧ j < n) (k9 : X μ pc' L (.int (iN (z a j)) :: st) (zmk ln N z) c9 s9 Φ) : X μ pc L (.int (iN j) :: .ref a :: st) (zmk ln N z) c9 s9 Φ :=
  X_iaload hd hp ha.1 hs hn hj ((zCD_c (Or.inl ha.2)).trans (zCT_20 hs ha.2 z hj.1)) k9
theorem Y_iast {a n : Nat} {j v : Int} (hd : decode (xB μ) pc = .ok (.iastore, 1)) (hp : pc + 1 = pc') (ha : zA a N) (hs : zSH ln a = (20, n)) (hn : n < 2147483648) (hj : 0 ≤ j ∧ j < n) (k9 : X μ pc' L st (zmk ln N (zup z a j v)) c9 s9 Φ) : X μ pc L (.int (iN v) :: .int (iN j) :: .ref a :: st) (zmk ln N z) c9 s9 Φ :=
  X_iastore hd hp ha.1 hs hn hj (by rw [zmk_up ha.2 (Int.toNat_of_nonneg hj.1) (by rw [← zSH_1 ln (Or.inl ha.2), hs]; rfl)]; exact k9)
theorem Y_aald {a : Nat} {j : Int} (hd : decode (xB μ) pc = .ok (.aaload, 1)) (hp : pc + 1 = pc') (ha : zA a N) (hs : zSH ln a = (23, 8)) (hn : 8 < 2147483648) (hj : 0 ≤ j ∧ j < 8) (k9 : X μ pc' L (.ref (34 + 13 * j.toNat) :: st) (zmk ln N z) c9 s9 Φ) : X μ pc L (.int (iN j) :: .ref a :: st) (zmk ln N z) c9 s9 Φ :=
  X_aaload hd hp ha.1 hs hn hj (by
    refine (zCD_c (Or.inl ha.2)).trans ?_
    show zcv (zSH z0 a).1 a j.toNat (z a (j.toNat : Nat)) = _
    rw [← zSH_1 ln (Or.inl ha.2), hs]
    show (if j.toNat < 8 then Value.ref (34 + 13 * j.toNat) else Value.null) = _
    rw [if_pos (by omega)]) k9
theorem Y_alen {a n t : Nat} (hd : decode (xB μ) pc = .ok (.arraylength, 1)) (hp : pc + 1 = pc') (ha : zA a N) (hs : zSH ln a = (t, n)) (ht : 20 ≤ t) (k9 : X μ pc' L (.int (iN (n : Int)) :: st) (zmk ln N z) c9 s9 Φ) : X μ pc L (.ref a :: st) (zmk ln N z) c9 s9 Φ := X_alen hd hp ha.1 hs ht k9
theorem Y_ialdK {a n : Nat} {j : Int} (hd : decode (xB μ) pc = .ok (.iaload, 1)) (hp : pc + 1 = pc') (ha : 1000001 ≤ a) (hs : zSH ln a = (30, n)) (hn : n < 2147483648) (hj : 0 ≤ j ∧ j < n) (k9 : X μ pc' L (.int (iN (zKC a j)) :: st) (zmk ln N z) c9 s9 Φ) : X μ pc L (.int (iN j) :: .ref a :: st) (zmk ln N z) c9 s9 Φ :=
  X_ialoadS hd hp (by omega) hs hn hj (by
    refine (zCD_c (ln := ln) (z := z) (a := a) (Or.inr (by omega))).trans ?_
    show zcv (zSH z0 a).1 a j.toNat (z a (j.toNat : Nat)) = _
    rw [← zSH_1 ln (a := a) (Or.inr (by omega)), hs]
    show (if a = 1000000 then Value.int (iN _) else Value.int (iN (zKC a (j.toNat : Nat)))) = _
    rw [if_neg (by omega), Int.toNat_of_nonneg hj.1]) k9
theorem Y_ialdS {n : Nat} {j : Int} (hd : decode (xB μ) pc = .ok (.iaload, 1)) (hp : pc + 1 = pc') (hs : zSH ln 1000000 = (30, n)) (hn : n < 2147483648) (hj : 0 ≤ j ∧ j < n) (k9 : X μ pc' L (.int (iN (z 1000000 j)) :: st) (zmk ln N z) c9 s9 Φ) : X μ pc L (.int (iN j) :: .ref 1000000 :: st) (zmk ln N z) c9 s9 Φ :=
  X_ialoadS hd hp (by omega) hs hn hj (by
    refine (zCD_c (ln := ln) (z := z) (a := 1000000) (Or.inr (by omega))).trans ?_
    show zcv (zSH z0 1000000).1 1000000 j.toNat (z 1000000 (j.toNat : Nat)) = _
    rw [← zSH_1 ln (a := 1000000) (Or.inr (by omega)), hs, Int.toNat_of_nonneg hj.1]
    rfl) k9
theorem Y_baldK {a n : Nat} {j : Int} (hd : decode (xB μ) pc = .ok (.baload, 1)) (hp : pc + 1 = pc') (ha : 1000001 ≤ a) (hs : zSH ln a = (32, n)) (hn : n < 2147483648) (hj : 0 ≤ j ∧ j < n) (k9 : X μ pc' L (.int (iN (zKC a j)) :: st) (zmk ln N z) c9 s9 Φ) : X μ pc L (.int (iN j) :: .ref a :: st) (zmk ln N z) c9 s9 Φ :=
  X_baloadS hd hp (by omega) hs hn hj (by
    refine (zCD_c (ln := ln) (z := z) (a := a) (Or.inr (by omega))).trans ?_
    show zcv (zSH z0 a).1 a j.toNat (z a (j.toNat : Nat)) = _
    rw [← zSH_1 ln (a := a) (Or.inr (by omega)), hs]
    show Value.int (iN (zKC a (j.toNat : Nat))) = _
    rw [Int.toNat_of_nonneg hj.1]) k9
theorem Y_copy {idx a0 a1 n0 n1 : Nat} {sp dp n : Int} (hd : decode (xB μ) pc = .ok (.invokestatic idx, 3)) (hp : pc + 3 = pc') (h1 : Cond.methodLink (xY μ).cls idx arraycopyName ∈ lw_tbl) (h2 : Cond.native arraycopyName ∈ lw_tbl) (h3 : Cond.static arraycopyName ∈ lw_tbl) (h4 : Cond.initialized "java/lang/System" ∈ lw_tbl) (hst : (st.map fun v => v.category).sum + (nativeFrameWords "java/lang/System" "arraycopy" 5 + 11) ≤ 200)
    (ha0 : zA a0 N) (hs0 : zSH ln a0 = (20, n0)) (ha1 : zA a1 N) (hs1 : zSH ln a1 = (20, n1)) (hn0 : n0 ≤ 1000000) (hn1 : n1 ≤ 1000000) (hr : 0 ≤ sp ∧ 0 ≤ dp ∧ 0 ≤ n ∧ sp + n ≤ n0 ∧ dp + n ≤ n1)
    (k9 : X μ pc' L st (zmk ln N (zcp z a0 a1 sp dp n)) c9 s9 Φ) : X μ pc L (.int (iN n) :: .int (iN dp) :: .ref a1 :: .int (iN sp) :: .ref a0 :: st) (zmk ln N z) c9 s9 Φ := by
  refine X_acopy hd hp h1 h2 h3 h4 hst ha0.1 hs0 ha1.1 hs1 hn0 hn1 hr (fun j _ => ⟨iN (z a0 j), ?_⟩) ?_
  · refine (zCD_c (Or.inl ha0.2)).trans ?_
    show zcv (zSH z0 a0).1 a0 j (z a0 j) = _
    rw [← zSH_1 ln (Or.inl ha0.2), hs0]; rfl
  · have e : zmk ln N (zcp z a0 a1 sp dp n) = ((zmk ln N z).1, (zmk ln N z).2.1, fun b j => if b = a1 ∧ dp.toNat ≤ j ∧ j < dp.toNat + n.toNat then (zmk ln N z).2.2 a0 (sp.toNat + (j - dp.toNat)) else (zmk ln N z).2.2 b j) := by
      refine Prod.ext rfl (Prod.ext rfl ?_)
      funext b j
      show zCD ln (zcp z a0 a1 sp dp n) b j = (if b = a1 ∧ dp.toNat ≤ j ∧ j < dp.toNat + n.toNat then zCD ln z a0 (sp.toNat + (j - dp.toNat)) else zCD ln z b j)
      rw [zCD_c (a := a0) (Or.inl ha0.2)]
      by_cases hb : 151 ≤ b ∧ b < 1000000
      · rw [if_neg (by have := ha1.2; omega)]
        unfold zCD
        rw [if_pos hb, if_pos hb]
      rw [zCD_c (a := b) (by omega), zCD_c (a := b) (by omega)]
      show zcv (zSH z0 b).1 b j (zcp z a0 a1 sp dp n b j) = (if b = a1 ∧ dp.toNat ≤ j ∧ j < dp.toNat + n.toNat then zCT z a0 (sp.toNat + (j - dp.toNat)) else zCT z b j)
      by_cases h : b = a1 ∧ dp.toNat ≤ j ∧ j < dp.toNat + n.toNat
      · rw [if_pos h]
        obtain ⟨rfl, h5, h6⟩ := h
        show _ = zcv (zSH z0 a0).1 a0 (sp.toNat + (j - dp.toNat)) (z a0 ((sp.toNat + (j - dp.toNat) : Nat)))
        rw [← zSH_1 ln (Or.inl ha0.2), ← zSH_1 ln (Or.inl ha1.2), hs0, hs1]
        show Value.int (iN (zcp z a0 b sp dp n b j)) = Value.int (iN _)
        unfold zcp
        rw [if_pos ⟨rfl, by omega, by omega⟩]
        congr 3
        omega
      · rw [if_neg h]
        show _ = zcv (zSH z0 b).1 b j (z b j)
        unfold zcp
        rw [if_neg (fun q => h ⟨q.1, by omega, by omega⟩)]
    rw [← e]
    exact k9
theorem Y_callV {idx a c n c8 s8 c7 s7 : Nat} {r : vw_C} {F : Prop} {w : Value} {τ : xS} (As : List Value) {st0 : List Value} (hd : decode (xB μ) pc = .ok (.invokevirtual idx, 3)) (hp : pc + 3 = pc') (hL : xLV (xY μ).cls idx μ' n) (hk : xK μ' < xK μ)
    (ha : zA a N) (hsh : (zSH ln a).1 = c + 1) (hr : xcl[c]? = some r) (hcl : r.1 = (xY μ').cls) (hn : As.length = n) (hA : ((.ref a :: As).map fun v => v.category).sum ≤ xL μ') (hrest : (st.map fun v => v.category).sum ≤ 8) (hst : As.reverse ++ .ref a :: st = st0)
    (hX : X μ' 0 (xEnt (.ref a :: As) (xL μ')) [] (zmk ln N z) c8 s8 (Qd F (.inl (some w)) τ)) (hc9 : c9 = c8 + c7) (hs9 : s9 = s8 + s7)
    (k9 : F → X μ pc' L (w :: st) τ c7 s7 Φ) : X μ pc L st0 (zmk ln N z) c9 s9 Φ :=
  X_callV As hd hp hL.1 hL.2.1 hL.2.2.1 hL.2.2.2.1 hL.2.2.2.2 hk ha.1 hsh hr hcl hn hA hrest hst hX hc9 hs9 (Or.inr fun E τ h => by cases h.2.1) (fun v τ' h => by obtain ⟨hF, h1, rfl⟩ := h; cases h1; exact k9 hF) (fun E τ h => by cases h.2.1)
theorem Y_callVv {idx a c n c8 s8 c7 s7 : Nat} {r : vw_C} {F : Prop} {τ : xS} (As : List Value) {st0 : List Value} (hd : decode (xB μ) pc = .ok (.invokevirtual idx, 3)) (hp : pc + 3 = pc') (hL : xLV (xY μ).cls idx μ' n) (hk : xK μ' < xK μ)
    (ha : zA a N) (hsh : (zSH ln a).1 = c + 1) (hr : xcl[c]? = some r) (hcl : r.1 = (xY μ').cls) (hn : As.length = n) (hA : ((.ref a :: As).map fun v => v.category).sum ≤ xL μ') (hrest : (st.map fun v => v.category).sum ≤ 8) (hst : As.reverse ++ .ref a :: st = st0)
    (hX : X μ' 0 (xEnt (.ref a :: As) (xL μ')) [] (zmk ln N z) c8 s8 (Qd F (.inl none) τ)) (hc9 : c9 = c8 + c7) (hs9 : s9 = s8 + s7)
    (k9 : F → X μ pc' L st τ c7 s7 Φ) : X μ pc L st0 (zmk ln N z) c9 s9 Φ :=
  X_callV As hd hp hL.1 hL.2.1 hL.2.2.1 hL.2.2.2.1 hL.2.2.2.2 hk ha.1 hsh hr hcl hn hA hrest hst hX hc9 hs9 (Or.inr fun E τ h => by cases h.2.1) (fun v τ' h => by obtain ⟨hF, h1, rfl⟩ := h; cases h1; exact k9 hF) (fun E τ h => by cases h.2.1)
theorem Y_callVx {idx a c n c8 s8 E : Nat} {r : vw_C} {F : Prop} {τ : xS} (As : List Value) {st0 : List Value} (hd : decode (xB μ) pc = .ok (.invokevirtual idx, 3)) (hp : pc + 3 = pc') (hL : xLV (xY μ).cls idx μ' n) (hk : xK μ' < xK μ)
    (ha : zA a N) (hsh : (zSH ln a).1 = c + 1) (hr : xcl[c]? = some r) (hcl : r.1 = (xY μ').cls) (hn : As.length = n) (hA : ((.ref a :: As).map fun v => v.category).sum ≤ xL μ') (hrest : (st.map fun v => v.category).sum ≤ 8) (hst : As.reverse ++ .ref a :: st = st0)
    (hX : X μ' 0 (xEnt (.ref a :: As) (xL μ')) [] (zmk ln N z) c8 s8 (Qd F (.inr E) τ)) (hc9 : c8 ≤ c9) (hs9 : s8 ≤ s9) (hH : xH μ = [])
    (k9 : F → Φ (.inr E) τ) : X μ pc L st0 (zmk ln N z) c9 s9 Φ :=
  X_callV As hd hp hL.1 hL.2.1 hL.2.2.1 hL.2.2.2.1 hL.2.2.2.2 hk ha.1 hsh hr hcl hn hA hrest hst hX (c7 := c9 - c8) (s7 := s9 - s8) (by omega) (by omega) (Or.inl hH) (fun v τ' h => by cases h.2.1) (fun E τ' h => by obtain ⟨hF, h1, rfl⟩ := h; cases h1; exact k9 hF)
theorem Y_callW {idx a n c8 s8 c7 s7 : Nat} {F : Prop} {w : Value} {τ : xS} (As : List Value) {st0 : List Value} (hd : decode (xB μ) pc = .ok (.invokevirtual idx, 3)) (hp : pc + 3 = pc') (hL : xLV (xY μ).cls idx μ' n) (hk : xK μ' < xK μ)
    (ha : 1000000 ≤ a) (hsh : zSH ln a = (31, 0)) (hcl : (xY μ').cls = "java/lang/String") (hn : As.length = n) (hA : ((.ref a :: As).map fun v => v.category).sum ≤ xL μ') (hrest : (st.map fun v => v.category).sum ≤ 8) (hst : As.reverse ++ .ref a :: st = st0)
    (hX : X μ' 0 (xEnt (.ref a :: As) (xL μ')) [] (zmk ln N z) c8 s8 (Qd F (.inl (some w)) τ)) (hc9 : c9 = c8 + c7) (hs9 : s9 = s8 + s7)
    (k9 : F → X μ pc' L (w :: st) τ c7 s7 Φ) : X μ pc L st0 (zmk ln N z) c9 s9 Φ :=
  X_callVS As hd hp hL.1 hL.2.1 hL.2.2.1 hL.2.2.2.1 hL.2.2.2.2 hk ha hsh hcl hn hA hrest hst hX hc9 hs9 (Or.inr fun E τ h => by cases h.2.1) (fun v τ' h => by obtain ⟨hF, h1, rfl⟩ := h; cases h1; exact k9 hF) (fun E τ h => by cases h.2.1)
theorem Y_callS {idx n c8 s8 c7 s7 : Nat} {F : Prop} {w : Value} {τ : xS} (As : List Value) {st0 : List Value} (hd : decode (xB μ) pc = .ok (.invokestatic idx, 3)) (hp : pc + 3 = pc') (hL : xLS (xY μ).cls idx μ' n) (hk : xK μ' < xK μ)
    (hn : As.length = n) (hA : (As.map fun v => v.category).sum ≤ xL μ') (hrest : (st.map fun v => v.category).sum ≤ 8) (hst : As.reverse ++ st = st0)
    (hX : X μ' 0 (xEnt As (xL μ')) [] (zmk ln N z) c8 s8 (Qd F (.inl (some w)) τ)) (hc9 : c9 = c8 + c7) (hs9 : s9 = s8 + s7)
    (k9 : F → X μ pc' L (w :: st) τ c7 s7 Φ) : X μ pc L st0 (zmk ln N z) c9 s9 Φ :=
  X_callS As hd hp hL.1 hL.2.1 hL.2.2.1 hL.2.2.2 hk hn hA hrest hst hX hc9 hs9 (Or.inr fun E τ h => by cases h.2.1) (fun v τ' h => by obtain ⟨hF, h1, rfl⟩ := h; cases h1; exact k9 hF) (fun E τ h => by cases h.2.1)
theorem Y_callSv {idx n c8 s8 c7 s7 : Nat} {F : Prop} {τ : xS} (As : List Value) {st0 : List Value} (hd : decode (xB μ) pc = .ok (.invokestatic idx, 3)) (hp : pc + 3 = pc') (hL : xLS (xY μ).cls idx μ' n) (hk : xK μ' < xK μ)
    (hn : As.length = n) (hA : (As.map fun v => v.category).sum ≤ xL μ') (hrest : (st.map fun v => v.category).sum ≤ 8) (hst : As.reverse ++ st = st0)
    (hX : X μ' 0 (xEnt As (xL μ')) [] (zmk ln N z) c8 s8 (Qd F (.inl none) τ)) (hc9 : c9 = c8 + c7) (hs9 : s9 = s8 + s7)
    (k9 : F → X μ pc' L st τ c7 s7 Φ) : X μ pc L st0 (zmk ln N z) c9 s9 Φ :=
  X_callS As hd hp hL.1 hL.2.1 hL.2.2.1 hL.2.2.2 hk hn hA hrest hst hX hc9 hs9 (Or.inr fun E τ h => by cases h.2.1) (fun v τ' h => by obtain ⟨hF, h1, rfl⟩ := h; cases h1; exact k9 hF) (fun E τ h => by cases h.2.1)
theorem Y_callSx {idx n c8 s8 E : Nat} {F : Prop} {τ : xS} (As : List Value) {st0 : List Value} (hd : decode (xB μ) pc = .ok (.invokestatic idx, 3)) (hp : pc + 3 = pc') (hL : xLS (xY μ).cls idx μ' n) (hk : xK μ' < xK μ)
    (hn : As.length = n) (hA : (As.map fun v => v.category).sum ≤ xL μ') (hrest : (st.map fun v => v.category).sum ≤ 8) (hst : As.reverse ++ st = st0)
    (hX : X μ' 0 (xEnt As (xL μ')) [] (zmk ln N z) c8 s8 (Qd F (.inr E) τ)) (hc9 : c8 ≤ c9) (hs9 : s8 ≤ s9) (hH : xH μ = [])
    (k9 : F → Φ (.inr E) τ) : X μ pc L st0 (zmk ln N z) c9 s9 Φ :=
  X_callS As hd hp hL.1 hL.2.1 hL.2.2.1 hL.2.2.2 hk hn hA hrest hst hX (c7 := c9 - c8) (s7 := s9 - s8) (by omega) (by omega) (Or.inl hH) (fun v τ' h => by cases h.2.1) (fun E τ' h => by obtain ⟨hF, h1, rfl⟩ := h; cases h1; exact k9 hF)
theorem Y_callSH {idx n c8 s8 c7 s7 : Nat} {F : Prop} {w : Value} {τ : xS} (As : List Value) {st0 : List Value} (hd : decode (xB μ) pc = .ok (.invokestatic idx, 3)) (hp : pc + 3 = pc') (hL : xLH (xY μ).cls idx μ' n) (hk : xK μ' < xK μ)
    (hn : As.length = n) (hA : (As.map fun v => v.category).sum ≤ xL μ') (hrest : (st.map fun v => v.category).sum ≤ 8) (hst : As.reverse ++ st = st0)
    (hX : X μ' 0 (xEnt As (xL μ')) [] (zmk ln N z) c8 s8 (Qd F (.inl (some w)) τ)) (hc9 : c9 = c8 + c7) (hs9 : s9 = s8 + s7)
    (k9 : F → X μ pc' L (w :: st) τ c7 s7 Φ) : X μ pc L st0 (zmk ln N z) c9 s9 Φ :=
  X_callSH As hd hp hL.1 hL.2.1 hL.2.2.1 hL.2.2.2 hk hn hA hrest hst hX hc9 hs9 (Or.inr fun E τ h => by cases h.2.1) (fun v τ' h => by obtain ⟨hF, h1, rfl⟩ := h; cases h1; exact k9 hF) (fun E τ h => by cases h.2.1)
theorem zrep_junk {g : xG} {H : Heap} (h1 : tN ln ≤ N) (h2 : N < 999999) (h : xRep g (xjunk (zmk ln N z)) H) : xRep g (zmk ln (N + 1) z) H := by
  obtain ⟨a, b, c, d⟩ := h
  refine ⟨a, b, fun k hk => ?_, fun k hk => ?_⟩
  · by_cases e : k = N
    · subst e
      exact Or.inl (zSH_junk h1 (by omega))
    · have := c k hk
      have e1 : (xjunk (zmk ln N z)).2.1 k = zSH ln k := by show (if k = N then (0, 0) else zSH ln k) = _; rw [if_neg e]
      have e2 : (xjunk (zmk ln N z)).2.2 k = zCD ln z k := by funext j; show (if k = N then Value.null else zCD ln z k j) = _; rw [if_neg e]
      rw [e1, e2] at this
      exact this
  · have e : ¬ k = N := by omega
    have := d k hk
    have e1 : (xjunk (zmk ln N z)).2.1 k = zSH ln k := by show (if k = N then (0, 0) else zSH ln k) = _; rw [if_neg e]
    have e2 : (xjunk (zmk ln N z)).2.2 k = zCD ln z k := by funext j; show (if k = N then Value.null else zCD ln z k j) = _; rw [if_neg e]
    rw [e1, e2] at this
    exact this
theorem Y_throw {E ik is ic a w : Nat} {tx : String} (hd0 : decode (xB μ) pc = .ok (.new ik, 3)) (hd3 : decode (xB μ) (pc + 3) = .ok (.dup, 1)) (hd4 : (w = 2 ∧ decode (xB μ) (pc + 4) = .ok (.ldc is, 2)) ∨ (w = 3 ∧ decode (xB μ) (pc + 4) = .ok (.ldc_w is, 3))) (hd6 : decode (xB μ) (pc + 4 + w) = .ok (.invokespecial ic, 3)) (hd9 : decode (xB μ) (pc + 4 + w + 3) = .ok (.athrow, 1))
    (hT : xTh (xY μ).cls E ik ic) (hq : ((xY μ).cls, is, tx, a) ∈ xstr) (hrest : (st.map fun v => v.category).sum ≤ 8) (hN : tN ln ≤ N ∧ N < 999999) (hc9 : 1 ≤ c9) (hs9 : 6 ≤ s9) (hH : xH μ = []) (k9 : Φ (.inr E) (zmk ln (N + 1) z)) : X μ pc L st (zmk ln N z) c9 s9 Φ :=
  X_sim (Ψ := fun r τ => r = .inr E ∧ τ = xjunk (zmk ln N z)) (fun r τ h => by obtain ⟨rfl, rfl⟩ := h; exact ⟨_, k9, fun g H => zrep_junk hN.1 hN.2⟩) (X_throw hd0 hd3 hd4 hd6 hd9 hT hq hrest (show N < 1000000 by omega) hc9 hs9 hH ⟨rfl, rfl⟩)
end YR

/-! what a method's meaning says of its end, by its kind -/
section KD
variable (c s : Nat) (Φ : xRes → xS → Prop) (ln : ZR) (N : Nat) (z : ZZ)
def cc_r (_ : Int) : Nat := 0
def fa_r (p : Int) : Prop := inR p
def rs_r (p : Int) : xRes := .inl (some (.int (iN p)))
def st_r (_ : Int) : xS := zmk ln N z
def Fin_r (p : Int) : Prop := inR p → Φ (.inl (some (.int (iN p)))) (zmk ln N z)
def cc_b (_ : Int) : Nat := 0
def fa_b (p : Int) : Prop := p = 0 ∨ p = 1
def rs_b (p : Int) : xRes := .inl (some (.int (iN p)))
def st_b (_ : Int) : xS := zmk ln N z
def Fin_b (p : Int) : Prop := (p = 0 ∨ p = 1) → Φ (.inl (some (.int (iN p)))) (zmk ln N z)
def cc_w (_ : ZZ) : Nat := 0
def fa_w (p : ZZ) : Prop := okz p
def rs_w (_ : ZZ) : xRes := .inl none
def st_w (p : ZZ) : xS := zmk ln N p
def Fin_w (p : ZZ) : Prop := okz p → Φ (.inl none) (zmk ln N p)
def cc_wi (_ : Int × ZZ) : Nat := 0
def fa_wi (p : Int × ZZ) : Prop := inR p.1 ∧ okz p.2
def rs_wi (p : Int × ZZ) : xRes := .inl (some (.int (iN p.1)))
def st_wi (p : Int × ZZ) : xS := zmk ln N p.2
def Fin_wi (p : Int × ZZ) : Prop := inR p.1 ∧ okz p.2 → Φ (.inl (some (.int (iN p.1)))) (zmk ln N p.2)
def cc_wb (_ : Int × ZZ) : Nat := 0
def fa_wb (p : Int × ZZ) : Prop := (p.1 = 0 ∨ p.1 = 1) ∧ okz p.2
def rs_wb (p : Int × ZZ) : xRes := .inl (some (.int (iN p.1)))
def st_wb (p : Int × ZZ) : xS := zmk ln N p.2
def Fin_wb (p : Int × ZZ) : Prop := (p.1 = 0 ∨ p.1 = 1) ∧ okz p.2 → Φ (.inl (some (.int (iN p.1)))) (zmk ln N p.2)
def cc_wd (_ : UInt64 × ZZ) : Nat := 0
def fa_wd (p : UInt64 × ZZ) : Prop := okz p.2
def rs_wd (p : UInt64 × ZZ) : xRes := .inl (some (.double p.1))
def st_wd (p : UInt64 × ZZ) : xS := zmk ln N p.2
def Fin_wd (p : UInt64 × ZZ) : Prop := okz p.2 → Φ (.inl (some (.double p.1))) (zmk ln N p.2)
def cc_ah (_ : Nat) : Nat := 0
def fa_ah (p : Nat) : Prop := isH p
def rs_ah (p : Nat) : xRes := .inl (some (.ref p))
def st_ah (_ : Nat) : xS := zmk ln N z
def Fin_ah (p : Nat) : Prop := isH p → Φ (.inl (some (.ref p))) (zmk ln N z)
def cc_aw (_ : Nat) : Nat := 0
def fa_aw (p : Nat) : Prop := isW p
def rs_aw (p : Nat) : xRes := .inl (some (.ref p))
def st_aw (_ : Nat) : xS := zmk ln N z
def Fin_aw (p : Nat) : Prop := isW p → Φ (.inl (some (.ref p))) (zmk ln N z)
def cc_x (p : (Int ⊕ Nat) × ZZ) : Nat := match p.1 with | .inl _ => 0 | .inr _ => 1
def fa_x (p : (Int ⊕ Nat) × ZZ) : Prop := match p.1 with | .inl v => inR v ∧ okz p.2 | .inr _ => okz p.2
def rs_x (p : (Int ⊕ Nat) × ZZ) : xRes := match p.1 with | .inl v => .inl (some (.int (iN v))) | .inr E => .inr E
def st_x (p : (Int ⊕ Nat) × ZZ) : xS := match p.1 with | .inl _ => zmk ln N p.2 | .inr _ => zmk ln (N + 1) p.2
def Fin_x (p : (Int ⊕ Nat) × ZZ) : Prop := (cc_x p ≤ c ∧ 6 * cc_x p ≤ s) ∧ (fa_x p → Φ (rs_x p) (st_x ln N p))
def cc_xv (p : (Int ⊕ Nat) × ZZ) : Nat := match p.1 with | .inl _ => 0 | .inr _ => 1
def fa_xv (p : (Int ⊕ Nat) × ZZ) : Prop := okz p.2
def rs_xv (p : (Int ⊕ Nat) × ZZ) : xRes := match p.1 with | .inl _ => .inl none | .inr E => .inr E
def st_xv (p : (Int ⊕ Nat) × ZZ) : xS := match p.1 with | .inl _ => zmk ln N p.2 | .inr _ => zmk ln (N + 1) p.2
def Fin_xv (p : (Int ⊕ Nat) × ZZ) : Prop := (cc_xv p ≤ c ∧ 6 * cc_xv p ≤ s) ∧ (fa_xv p → Φ (rs_xv p) (st_xv ln N p))
def cc_xd (p : (UInt64 ⊕ Nat) × ZZ) : Nat := match p.1 with | .inl _ => 0 | .inr _ => 1
def fa_xd (p : (UInt64 ⊕ Nat) × ZZ) : Prop := okz p.2
def rs_xd (p : (UInt64 ⊕ Nat) × ZZ) : xRes := match p.1 with | .inl v => .inl (some (.double v)) | .inr E => .inr E
def st_xd (p : (UInt64 ⊕ Nat) × ZZ) : xS := match p.1 with | .inl _ => zmk ln N p.2 | .inr _ => zmk ln (N + 1) p.2
def Fin_xd (p : (UInt64 ⊕ Nat) × ZZ) : Prop := (cc_xd p ≤ c ∧ 6 * cc_xd p ≤ s) ∧ (fa_xd p → Φ (rs_xd p) (st_xd ln N p))
def cc_y (p : Int ⊕ Nat) : Nat := match p with | .inl _ => 0 | .inr _ => 1
def fa_y (p : Int ⊕ Nat) : Prop := match p with | .inl v => inR v | .inr _ => True
def rs_y (p : Int ⊕ Nat) : xRes := match p with | .inl v => .inl (some (.int (iN v))) | .inr E => .inr E
def st_y (p : Int ⊕ Nat) : xS := match p with | .inl _ => zmk ln N z | .inr _ => zmk ln (N + 1) z
def Fin_y (p : Int ⊕ Nat) : Prop := (cc_y p ≤ c ∧ 6 * cc_y p ≤ s) ∧ (fa_y p → Φ (rs_y p) (st_y ln N z p))
def cc_yv (p : Int ⊕ Nat) : Nat := match p with | .inl _ => 0 | .inr _ => 1
def fa_yv (p : Int ⊕ Nat) : Prop := True
def rs_yv (p : Int ⊕ Nat) : xRes := match p with | .inl _ => .inl none | .inr E => .inr E
def st_yv (p : Int ⊕ Nat) : xS := match p with | .inl _ => zmk ln N z | .inr _ => zmk ln (N + 1) z
def Fin_yv (p : Int ⊕ Nat) : Prop := (cc_yv p ≤ c ∧ 6 * cc_yv p ≤ s) ∧ (fa_yv p → Φ (rs_yv p) (st_yv ln N z p))
end KD
theorem Fin_r_i {ln : ZR} {N : Nat} {z : ZZ} {p : Int} : Fin_r (Qd (fa_r p) (rs_r p) (st_r ln N z p)) ln N z p := fun h => ⟨h, rfl, rfl⟩
theorem Fin_b_i {ln : ZR} {N : Nat} {z : ZZ} {p : Int} : Fin_b (Qd (fa_b p) (rs_b p) (st_b ln N z p)) ln N z p := fun h => ⟨h, rfl, rfl⟩
theorem Fin_w_i {ln : ZR} {N : Nat} {p : ZZ} : Fin_w (Qd (fa_w p) (rs_w p) (st_w ln N p)) ln N p := fun h => ⟨h, rfl, rfl⟩
theorem Fin_wi_i {ln : ZR} {N : Nat} {p : Int × ZZ} : Fin_wi (Qd (fa_wi p) (rs_wi p) (st_wi ln N p)) ln N p := fun h => ⟨h, rfl, rfl⟩
theorem Fin_wb_i {ln : ZR} {N : Nat} {p : Int × ZZ} : Fin_wb (Qd (fa_wb p) (rs_wb p) (st_wb ln N p)) ln N p := fun h => ⟨h, rfl, rfl⟩
theorem Fin_wd_i {ln : ZR} {N : Nat} {p : UInt64 × ZZ} : Fin_wd (Qd (fa_wd p) (rs_wd p) (st_wd ln N p)) ln N p := fun h => ⟨h, rfl, rfl⟩
theorem Fin_x_i {ln : ZR} {N : Nat} {p : (Int ⊕ Nat) × ZZ} : Fin_x (cc_x p) (6 * cc_x p) (Qd (fa_x p) (rs_x p) (st_x ln N p)) ln N p := ⟨⟨Nat.le_refl _, Nat.le_refl _⟩, fun h => ⟨h, rfl, rfl⟩⟩
theorem Fin_xv_i {ln : ZR} {N : Nat} {p : (Int ⊕ Nat) × ZZ} : Fin_xv (cc_xv p) (6 * cc_xv p) (Qd (fa_xv p) (rs_xv p) (st_xv ln N p)) ln N p := ⟨⟨Nat.le_refl _, Nat.le_refl _⟩, fun h => ⟨h, rfl, rfl⟩⟩
theorem Fin_xd_i {ln : ZR} {N : Nat} {p : (UInt64 ⊕ Nat) × ZZ} : Fin_xd (cc_xd p) (6 * cc_xd p) (Qd (fa_xd p) (rs_xd p) (st_xd ln N p)) ln N p := ⟨⟨Nat.le_refl _, Nat.le_refl _⟩, fun h => ⟨h, rfl, rfl⟩⟩
theorem Fin_ah_i {ln : ZR} {N : Nat} {z : ZZ} {p : Nat} : Fin_ah (Qd (fa_ah p) (rs_ah p) (st_ah ln N z p)) ln N z p := fun h => ⟨h, rfl, rfl⟩
theorem Fin_aw_i {ln : ZR} {N : Nat} {z : ZZ} {p : Nat} : Fin_aw (Qd (fa_aw p) (rs_aw p) (st_aw ln N z p)) ln N z p := fun h => ⟨h, rfl, rfl⟩
theorem Fin_y_i {ln : ZR} {N : Nat} {z : ZZ} {p : Int ⊕ Nat} : Fin_y (cc_y p) (6 * cc_y p) (Qd (fa_y p) (rs_y p) (st_y ln N z p)) ln N z p := ⟨⟨Nat.le_refl _, Nat.le_refl _⟩, fun h => ⟨h, rfl, rfl⟩⟩
theorem Fin_yv_i {ln : ZR} {N : Nat} {z : ZZ} {p : Int ⊕ Nat} : Fin_yv (cc_yv p) (6 * cc_yv p) (Qd (fa_yv p) (rs_yv p) (st_yv ln N z p)) ln N z p := ⟨⟨Nat.le_refl _, Nat.le_refl _⟩, fun h => ⟨h, rfl, rfl⟩⟩

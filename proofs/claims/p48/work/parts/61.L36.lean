set_option maxRecDepth 20000
/-! drawn numbers of the script; a setup, and its row -/
theorem zand_pos (a : Int) : 0 ≤ zand a 2147483647 := by
  unfold zand
  have h : (iN a &&& iN 2147483647).toBitVec.msb = false := by
    rw [Int32.toBitVec_and, BitVec.msb_and]
    have : (iN 2147483647).toBitVec.msb = false := by decide
    rw [this, Bool.and_false]
  have e : (iN a &&& iN 2147483647).toInt = (iN a &&& iN 2147483647).toBitVec.toInt := rfl
  rw [e, BitVec.toInt_eq_toNat_of_msb h]
  omega
def pk (ln : Nat) (z : ZZ) (k : Int) : Int := zand (if k < (ln : Int) then z 1000000 k else 0) 2147483647 % 1000000000
theorem pk_rng (ln : Nat) (z : ZZ) (k : Int) : 0 ≤ pk ln z k ∧ pk ln z k < 1000000000 := by
  unfold pk
  exact ⟨Int.emod_nonneg _ (by decide), Int.emod_lt_of_pos _ (by decide)⟩
theorem l_pick {ln : Nat} {z : ZZ} {k : Int} {D : DD} (hk : 0 ≤ k) : fL_pick k 1000000000 ln z D = some (pk ln z k) := by
  unfold fL_pick fL_cell pk
  by_cases c : k < (ln : Int)
  · rw [if_pos c, if_pos ⟨hk, c⟩, if_pos c]
    simp only [Option.bind_some]
    rw [if_pos ⟨zand_pos _, by decide⟩]
  · rw [if_neg c, if_neg c]
    simp only [Option.bind_some]
    rw [if_pos ⟨zand_pos _, by decide⟩]
abbrev HStp : Type := (Int × Int × Int) × (Int × Int × Int × Int) × (Int → Int → Int) × (Int → Int → Int) × (Int → Int → Int) × (Int → Int → Int)
abbrev HStp.tr (S : HStp) : Int := S.1.1
abbrev HStp.st (S : HStp) : Int := S.1.2.1
abbrev HStp.we (S : HStp) : Int := S.1.2.2
abbrev HStp.nw (S : HStp) : Int := S.2.1.1
abbrev HStp.nh (S : HStp) : Int := S.2.1.2.1
abbrev HStp.nm (S : HStp) : Int := S.2.1.2.2.1
abbrev HStp.nc (S : HStp) : Int := S.2.1.2.2.2
abbrev HStp.w (S : HStp) : Int → Int → Int := S.2.2.1
abbrev HStp.h (S : HStp) : Int → Int → Int := S.2.2.2.1
abbrev HStp.m (S : HStp) : Int → Int → Int := S.2.2.2.2.1
abbrev HStp.c (S : HStp) : Int → Int → Int := S.2.2.2.2.2
def rowS (S : HStp) : Row := fun p =>
  if p < 5 then (if p = 0 then S.tr else if p = 1 then S.st else if p = 2 then S.we else if p = 4 then S.nw else 0)
  else if p < 37 then S.w ((p - 5) / 4) (min ((p - 5) % 4) 2)
  else if p < 470 then 0
  else if p = 470 then S.nh
  else if p < 546 then (if (p - 471) % 5 < 2 then S.h ((p - 471) / 5) ((p - 471) % 5) else 0)
  else if p = 546 then S.nm
  else if p < 619 then (if (p - 547) % 6 < 2 then S.m ((p - 547) / 6) ((p - 547) % 6) else if (p - 547) % 6 = 3 ∨ (p - 547) % 6 = 4 then -1 else 0)
  else if p = 619 then S.nc
  else if p < 644 then S.c ((p - 620) / 3) ((p - 620) % 3)
  else 0
section RS
variable (S : HStp)
theorem rowS_0 : rowS S 0 = S.tr ∧ rowS S 1 = S.st ∧ rowS S 2 = S.we ∧ rowS S 3 = 0 ∧ rowS S 4 = S.nw ∧ rowS S 37 = 0 ∧ rowS S 470 = S.nh ∧ rowS S 546 = S.nm ∧ rowS S 619 = S.nc ∧ rowS S 644 = 0 := ⟨rfl, rfl, rfl, rfl, rfl, rfl, rfl, rfl, rfl, rfl⟩
theorem rowS_w {k i : Int} (hk : 0 ≤ k ∧ k < 8) (hi : 0 ≤ i ∧ i < 4) : rowS S (5 + 4 * k + i) = S.w k (min i 2) := by
  unfold rowS
  rw [if_neg (by omega), if_pos (by omega), show (5 + 4 * k + i - 5) / 4 = k by omega, show (5 + 4 * k + i - 5) % 4 = i by omega]
theorem rowS_h {k i : Int} (hk : 0 ≤ k ∧ k < 15) (hi : 0 ≤ i ∧ i < 5) : rowS S (471 + 5 * k + i) = if i < 2 then S.h k i else 0 := by
  unfold rowS
  rw [if_neg (by omega), if_neg (by omega), if_neg (by omega), if_neg (by omega), if_pos (by omega), show (471 + 5 * k + i - 471) / 5 = k by omega, show (471 + 5 * k + i - 471) % 5 = i by omega]
theorem rowS_m {k i : Int} (hk : 0 ≤ k ∧ k < 12) (hi : 0 ≤ i ∧ i < 6) : rowS S (547 + 6 * k + i) = if i < 2 then S.m k i else if i = 3 ∨ i = 4 then -1 else 0 := by
  unfold rowS
  rw [if_neg (by omega), if_neg (by omega), if_neg (by omega), if_neg (by omega), if_neg (by omega), if_neg (by omega), if_pos (by omega), show (547 + 6 * k + i - 547) / 6 = k by omega, show (547 + 6 * k + i - 547) % 6 = i by omega]
theorem rowS_c {k i : Int} (hk : 0 ≤ k ∧ k < 8) (hi : 0 ≤ i ∧ i < 3) : rowS S (620 + 3 * k + i) = S.c k i := by
  unfold rowS
  rw [if_neg (by omega), if_neg (by omega), if_neg (by omega), if_neg (by omega), if_neg (by omega), if_neg (by omega), if_neg (by omega), if_neg (by omega), if_pos (by omega), show (620 + 3 * k + i - 620) / 3 = k by omega, show (620 + 3 * k + i - 620) % 3 = i by omega]
end RS
/-- the ranges of a setup text -/
def okS' (S : HStp) : Prop := (0 ≤ S.tr ∧ S.tr ≤ 40) ∧ (0 ≤ S.st ∧ S.st ≤ 10) ∧ (1 ≤ S.we ∧ S.we ≤ 200) ∧ (0 ≤ S.nw ∧ S.nw ≤ 8) ∧ (0 ≤ S.nh ∧ S.nh ≤ 15) ∧ (0 ≤ S.nm ∧ S.nm ≤ 12) ∧ (0 ≤ S.nc ∧ S.nc ≤ 8) ∧
  (∀ k, 0 ≤ k → k < S.nw → (3 ≤ S.w k 0 ∧ S.w k 0 ≤ 30) ∧ (0 ≤ S.w k 1 ∧ S.w k 1 ≤ 5) ∧ (1 ≤ S.w k 2 ∧ S.w k 2 ≤ 60)) ∧ (∀ k, 0 ≤ k → k < S.nh → (0 ≤ S.h k 0 ∧ S.h k 0 ≤ 3) ∧ (1 ≤ S.h k 1 ∧ S.h k 1 ≤ 365)) ∧ (∀ k, 0 ≤ k → k < S.nm → (0 ≤ S.m k 0 ∧ S.m k 0 ≤ 3) ∧ (0 ≤ S.m k 1 ∧ S.m k 1 ≤ 5)) ∧ (∀ k, 0 ≤ k → k < S.nc → (1 ≤ S.c k 0 ∧ S.c k 0 ≤ 5) ∧ (1 ≤ S.c k 1 ∧ S.c k 1 ≤ 12) ∧ (0 ≤ S.c k 2 ∧ S.c k 2 ≤ 200))
theorem IH_rowS {S : HStp} (h : okS' S) : IH 20000 (rowS S) := by
  obtain ⟨h1, h2, h3, h4, h5, h6, h7, hw, hh, hm, hc⟩ := h
  obtain ⟨e0, e1, e2, e3, e4, e5, e6, e7, e8, e9⟩ := rowS_0 S
  refine ⟨?_, fun k a b => ?_, fun k a b => ?_, fun k a b => ?_, fun k a b => ?_, fun k a b => ?_⟩
  · unfold IHn
    rw [e0, e1, e2, e3, e4, e5, e6, e7, e8, e9]
    omega
  · rw [e4] at b
    have := hw k a b
    rw [rowS_w S (by omega) (by omega), rowS_w S (by omega) (by omega), rowS_w S (by omega) (by omega)]
    show (0 ≤ S.w k 1 ∧ S.w k 1 ≤ 5) ∧ (1 ≤ S.w k 2 ∧ S.w k 2 ≤ 60) ∧ (0 ≤ S.w k 2 ∧ S.w k 2 ≤ 20000)
    omega
  · rw [e5] at b
    omega
  · rw [e6] at b
    have := hh k a b
    rw [rowS_h S (by omega) (by omega), rowS_h S (by omega) (by omega), rowS_h S (by omega) (by omega), rowS_h S (by omega) (by omega), if_pos (by decide), if_neg (by decide), if_neg (by decide), if_neg (by decide), e7]
    refine ⟨this.2, by omega, Or.inl rfl, Or.inl rfl, ?_⟩
    constructor
    · intro q; omega
    · rintro ⟨m, m0, m1, q⟩
      rw [rowS_m S (by omega) (by omega), if_neg (by decide), if_pos (by decide)] at q
      omega
  · rw [e7] at b
    have := hm k a b
    rw [rowS_m S (by omega) (by omega), rowS_m S (by omega) (by omega), rowS_m S (by omega) (by omega), rowS_m S (by omega) (by omega), rowS_m S (by omega) (by omega), if_pos (by decide), if_neg (by decide), if_neg (by decide), if_neg (by decide), if_pos (by decide), if_neg (by decide), if_pos (by decide), if_neg (by decide), if_neg (by decide), e6, e7, e8]
    refine ⟨this.2, by omega, by omega, by omega, by omega, fun m m0 m1 hne q => rfl⟩
  · rw [e8] at b
    have := hc k a b
    rw [rowS_c S (by omega) (by omega), rowS_c S (by omega) (by omega), rowS_c S (by omega) (by omega)]
    exact this
theorem XJ_rowS {S : HStp} : XJ (rowS S) := fun w => by
  rw [(rowS_0 S).2.2.2.2.2.1]
  show (0 : Int) ≤ 5
  decide
/-- the drawn setup -/
def drS (ln : Nat) (z : ZZ) : HStp :=
  ((if 0 < pk ln z 0 % 3 then (pk ln z 0 / 3 % 41, pk ln z 0 / 123 % 4, 1 + pk ln z 0 / 500 % 30) else (20, 2, 50)),
   (1 + pk ln z 1 % 5, 2 + pk ln z 1 / 5 % 6, 1 + pk ln z 1 / 30 % 6, pk ln z 1 / 180 % 5),
   (fun k i => if i = 0 then 3 + pk ln z (2 + k) % 28 else if i = 1 then pk ln z (2 + k) / 28 % 3 else 1 + pk ln z (2 + k) / 90 % 12),
   (fun k i => if i = 0 then (if pk ln z (7 + k) % 3 = 0 then pk ln z (7 + k) / 3 % 4 else 1) else 1 + pk ln z (7 + k) / 12 % 40),
   (fun k i => if i = 0 then (if pk ln z (14 + k) % 4 = 0 then pk ln z (14 + k) / 4 % 4 else 1) else pk ln z (14 + k) / 16 % 4),
   (fun k i => if i = 0 then 1 + pk ln z (20 + k) % 4 else if i = 1 then 1 + pk ln z (20 + k) / 4 % 3 else pk ln z (20 + k) / 12 % 4))
theorem modr {x n : Int} (hn : 0 < n) : 0 ≤ x % n ∧ x % n < n := ⟨Int.emod_nonneg _ (by omega), Int.emod_lt_of_pos _ hn⟩
/-- the ranges that are drawn -/
def okD' (S : HStp) : Prop := (0 ≤ S.tr ∧ S.tr ≤ 40) ∧ (0 ≤ S.st ∧ S.st ≤ 3) ∧ (1 ≤ S.we ∧ S.we ≤ 50) ∧ (1 ≤ S.nw ∧ S.nw ≤ 5) ∧ (2 ≤ S.nh ∧ S.nh ≤ 7) ∧ (1 ≤ S.nm ∧ S.nm ≤ 6) ∧ (0 ≤ S.nc ∧ S.nc ≤ 4) ∧
  (∀ k, (3 ≤ S.w k 0 ∧ S.w k 0 ≤ 30) ∧ (0 ≤ S.w k 1 ∧ S.w k 1 ≤ 2) ∧ (1 ≤ S.w k 2 ∧ S.w k 2 ≤ 12)) ∧ (∀ k, (0 ≤ S.h k 0 ∧ S.h k 0 ≤ 3) ∧ (1 ≤ S.h k 1 ∧ S.h k 1 ≤ 40)) ∧ (∀ k, (0 ≤ S.m k 0 ∧ S.m k 0 ≤ 3) ∧ (0 ≤ S.m k 1 ∧ S.m k 1 ≤ 3)) ∧ (∀ k, (1 ≤ S.c k 0 ∧ S.c k 0 ≤ 4) ∧ (1 ≤ S.c k 1 ∧ S.c k 1 ≤ 3) ∧ (0 ≤ S.c k 2 ∧ S.c k 2 ≤ 3))
theorem okD_drS (ln : Nat) (z : ZZ) : okD' (drS ln z) := by
  have a1 := modr (x := pk ln z 0 / 3) (n := 41) (by decide)
  have a2 := modr (x := pk ln z 0 / 123) (n := 4) (by decide)
  have a3 := modr (x := pk ln z 0 / 500) (n := 30) (by decide)
  have b1 := modr (x := pk ln z 1) (n := 5) (by decide)
  have b2 := modr (x := pk ln z 1 / 5) (n := 6) (by decide)
  have b3 := modr (x := pk ln z 1 / 30) (n := 6) (by decide)
  have b4 := modr (x := pk ln z 1 / 180) (n := 5) (by decide)
  have tr : (drS ln z).tr = if 0 < pk ln z 0 % 3 then pk ln z 0 / 3 % 41 else 20 := by unfold drS; show (if _ then _ else _ : Int × Int × Int).1 = _; split <;> rfl
  have st : (drS ln z).st = if 0 < pk ln z 0 % 3 then pk ln z 0 / 123 % 4 else 2 := by unfold drS; show (if _ then _ else _ : Int × Int × Int).2.1 = _; split <;> rfl
  have we : (drS ln z).we = if 0 < pk ln z 0 % 3 then 1 + pk ln z 0 / 500 % 30 else 50 := by unfold drS; show (if _ then _ else _ : Int × Int × Int).2.2 = _; split <;> rfl
  refine ⟨?_, ?_, ?_, ?_, ?_, ?_, ?_, fun k => ?_, fun k => ?_, fun k => ?_, fun k => ?_⟩
  · rw [tr]; split <;> omega
  · rw [st]; split <;> omega
  · rw [we]; split <;> omega
  · show 1 ≤ 1 + pk ln z 1 % 5 ∧ 1 + pk ln z 1 % 5 ≤ 5; omega
  · show 2 ≤ 2 + pk ln z 1 / 5 % 6 ∧ 2 + pk ln z 1 / 5 % 6 ≤ 7; omega
  · show 1 ≤ 1 + pk ln z 1 / 30 % 6 ∧ 1 + pk ln z 1 / 30 % 6 ≤ 6; omega
  · show 0 ≤ pk ln z 1 / 180 % 5 ∧ pk ln z 1 / 180 % 5 ≤ 4; omega
  · have c1 := modr (x := pk ln z (2 + k)) (n := 28) (by decide)
    have c2 := modr (x := pk ln z (2 + k) / 28) (n := 3) (by decide)
    have c3 := modr (x := pk ln z (2 + k) / 90) (n := 12) (by decide)
    show (3 ≤ 3 + pk ln z (2 + k) % 28 ∧ 3 + pk ln z (2 + k) % 28 ≤ 30) ∧ (0 ≤ pk ln z (2 + k) / 28 % 3 ∧ pk ln z (2 + k) / 28 % 3 ≤ 2) ∧ (1 ≤ 1 + pk ln z (2 + k) / 90 % 12 ∧ 1 + pk ln z (2 + k) / 90 % 12 ≤ 12)
    omega
  · have c1 := modr (x := pk ln z (7 + k) / 3) (n := 4) (by decide)
    have c2 := modr (x := pk ln z (7 + k) / 12) (n := 40) (by decide)
    show (0 ≤ (if pk ln z (7 + k) % 3 = 0 then pk ln z (7 + k) / 3 % 4 else 1) ∧ (if pk ln z (7 + k) % 3 = 0 then pk ln z (7 + k) / 3 % 4 else 1) ≤ 3) ∧ (1 ≤ 1 + pk ln z (7 + k) / 12 % 40 ∧ 1 + pk ln z (7 + k) / 12 % 40 ≤ 40)
    refine ⟨?_, by omega⟩
    split <;> omega
  · have c1 := modr (x := pk ln z (14 + k) / 4) (n := 4) (by decide)
    have c2 := modr (x := pk ln z (14 + k) / 16) (n := 4) (by decide)
    show (0 ≤ (if pk ln z (14 + k) % 4 = 0 then pk ln z (14 + k) / 4 % 4 else 1) ∧ (if pk ln z (14 + k) % 4 = 0 then pk ln z (14 + k) / 4 % 4 else 1) ≤ 3) ∧ (0 ≤ pk ln z (14 + k) / 16 % 4 ∧ pk ln z (14 + k) / 16 % 4 ≤ 3)
    refine ⟨?_, by omega⟩
    split <;> omega
  · have c1 := modr (x := pk ln z (20 + k)) (n := 4) (by decide)
    have c2 := modr (x := pk ln z (20 + k) / 4) (n := 3) (by decide)
    have c3 := modr (x := pk ln z (20 + k) / 12) (n := 4) (by decide)
    show (1 ≤ 1 + pk ln z (20 + k) % 4 ∧ 1 + pk ln z (20 + k) % 4 ≤ 4) ∧ (1 ≤ 1 + pk ln z (20 + k) / 4 % 3 ∧ 1 + pk ln z (20 + k) / 4 % 3 ≤ 3) ∧ (0 ≤ pk ln z (20 + k) / 12 % 4 ∧ pk ln z (20 + k) / 12 % 4 ≤ 3)
    omega
theorem okS_of {S : HStp} (h : okD' S) : okS' S := by
  obtain ⟨h1, h2, h3, h4, h5, h6, h7, hw, hh, hm, hc⟩ := h
  refine ⟨h1, by omega, by omega, by omega, by omega, by omega, by omega, fun k _ _ => ?_, fun k _ _ => ?_, fun k _ _ => ?_, fun k _ _ => ?_⟩
  · have := hw k; omega
  · have := hh k; omega
  · have := hm k; omega
  · have := hc k; omega

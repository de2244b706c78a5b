/-! appending bytes -/
abbrev nz (x : Int) : Int := if x = 0 then 0 else 1
def ap (x : Int) (q : Int × (Int → Int)) : Int × (Int → Int) := if x = 0 then q else (q.1 + 1, rup q.2 q.1 x)
def aps (xs : List Int) (q : Int × (Int → Int)) : Int × (Int → Int) := xs.foldl (fun q x => ap x q) q
def cntL (xs : List Int) : Int := xs.foldl (fun c x => c + nz x) 0
theorem cntL_at : ∀ (xs : List Int) (c : Int), xs.foldl (fun c x => c + nz x) c = c + cntL xs
  | [], c => by show c = c + 0; omega
  | x :: xs, c => by
    show xs.foldl _ (c + nz x) = c + xs.foldl _ (0 + nz x)
    rw [cntL_at xs (c + nz x), cntL_at xs (0 + nz x)]
    omega
theorem cntL_c (x : Int) (xs : List Int) : cntL (x :: xs) = nz x + cntL xs := by
  show xs.foldl _ (0 + nz x) = _
  rw [cntL_at]
  omega
theorem nz_01 (x : Int) : 0 ≤ nz x ∧ nz x ≤ 1 := by
  unfold nz
  split <;> omega
theorem cntL_nn : ∀ xs : List Int, 0 ≤ cntL xs ∧ cntL xs ≤ xs.length
  | [] => ⟨Int.le_refl _, Int.le_refl _⟩
  | x :: xs => by
    have h1 := cntL_nn xs
    have h2 := nz_01 x
    rw [cntL_c, List.length_cons]
    omega
theorem cntL_app (xs ys : List Int) : cntL (xs ++ ys) = cntL xs + cntL ys := by
  unfold cntL
  rw [List.foldl_append, cntL_at]
  rfl
theorem aps_app (xs ys : List Int) (q : Int × (Int → Int)) : aps (xs ++ ys) q = aps ys (aps xs q) := by
  unfold aps
  rw [List.foldl_append]
theorem ap_1 (x : Int) (q : Int × (Int → Int)) : (ap x q).1 = q.1 + nz x := by
  unfold ap nz
  split <;> simp
theorem aps_1 : ∀ (xs : List Int) (q : Int × (Int → Int)), (aps xs q).1 = q.1 + cntL xs
  | [], q => by show q.1 = q.1 + 0; omega
  | x :: xs, q => by
    show (aps xs (ap x q)).1 = _
    rw [aps_1 xs (ap x q), ap_1, cntL_c]
    omega
/-- two buffers alike up to their length -/
def AQ (q q' : Int × (Int → Int)) : Prop := q.1 = q'.1 ∧ 0 ≤ q.1 ∧ ∀ k, 0 ≤ k → k < q.1 → q.2 k = q'.2 k ∧ 1 ≤ q.2 k ∧ q.2 k ≤ 255
theorem AQ_ap {x : Int} {q q' : Int × (Int → Int)} (hx : 0 ≤ x ∧ x ≤ 255) (h : AQ q q') : AQ (ap x q) (ap x q') := by
  obtain ⟨h1, h2, h3⟩ := h
  unfold ap
  split
  · exact ⟨h1, h2, h3⟩
  · refine ⟨by show q.1 + 1 = q'.1 + 1; rw [h1], by show 0 ≤ q.1 + 1; omega, fun k a b => ?_⟩
    have b' : k < q.1 + 1 := b
    show rup q.2 q.1 x k = rup q'.2 q'.1 x k ∧ 1 ≤ rup q.2 q.1 x k ∧ rup q.2 q.1 x k ≤ 255
    rw [← h1, rup_at, rup_at]
    by_cases e : k = q.1
    · rw [if_pos e, if_pos e]; omega
    · rw [if_neg e, if_neg e]
      exact h3 k a (by omega)
theorem AQ_aps : ∀ (xs : List Int) (q q' : Int × (Int → Int)), (∀ x ∈ xs, 0 ≤ x ∧ x ≤ 255) → AQ q q' → AQ (aps xs q) (aps xs q')
  | [], _, _, _, h => h
  | x :: xs, q, q', hx, h => AQ_aps xs (ap x q) (ap x q') (fun y hy => hx y (List.mem_cons_of_mem _ hy)) (AQ_ap (hx x (List.mem_cons_self ..)) h)
theorem zand255 (x : Int) : 0 ≤ zand x 255 ∧ zand x 255 ≤ 255 := by
  have h1 : (iN x &&& iN 255).toBitVec.toNat ≤ 255 := by
    rw [Int32.toBitVec_and, BitVec.toNat_and]
    have : (iN 255).toBitVec.toNat = 255 := by decide
    rw [this]
    exact Nat.and_le_right
  have e : zand x 255 = ((iN x &&& iN 255).toBitVec.toNat : Int) := by
    show (iN x &&& iN 255).toBitVec.toInt = _
    exact BitVec.toInt_eq_toNat_of_lt (by omega)
  omega
abbrev byW (w s : Int) : Int := zand (zushr w s) 255
def byL (w : Int) : List Int := [byW w 24, byW w 16, byW w 8, byW w 0]
def byLL (a b c d e : Int) : List Int := byL a ++ (byL b ++ (byL c ++ (byL d ++ byL e)))
def byK (a b c d e k : Int) : Int := byW (if k < 4 then a else if k < 8 then b else if k < 12 then c else if k < 16 then d else e) (24 - 8 * (k % 4))
theorem byL_ok (w : Int) : ∀ x ∈ byL w, 0 ≤ x ∧ x ≤ 255 := by
  intro x hx
  unfold byL at hx
  rcases List.mem_cons.mp hx with e | hx
  · rw [e]; exact zand255 _
  rcases List.mem_cons.mp hx with e | hx
  · rw [e]; exact zand255 _
  rcases List.mem_cons.mp hx with e | hx
  · rw [e]; exact zand255 _
  rcases List.mem_cons.mp hx with e | hx
  · rw [e]; exact zand255 _
  · cases hx
theorem byLL_ok (a b c d e : Int) : ∀ x ∈ byLL a b c d e, 0 ≤ x ∧ x ≤ 255 := by
  intro x hx
  unfold byLL at hx
  rcases List.mem_append.mp hx with h | hx
  · exact byL_ok _ x h
  rcases List.mem_append.mp hx with h | hx
  · exact byL_ok _ x h
  rcases List.mem_append.mp hx with h | hx
  · exact byL_ok _ x h
  rcases List.mem_append.mp hx with h | hx
  · exact byL_ok _ x h
  · exact byL_ok _ x hx
theorem byLL_at (a b c d e : Int) : ∀ j : Nat, j < 20 → byK a b c d e (0 + j) = (byLL a b c d e).getD j 0
  | 0, _ => rfl
  | 1, _ => rfl
  | 2, _ => rfl
  | 3, _ => rfl
  | 4, _ => rfl
  | 5, _ => rfl
  | 6, _ => rfl
  | 7, _ => rfl
  | 8, _ => rfl
  | 9, _ => rfl
  | 10, _ => rfl
  | 11, _ => rfl
  | 12, _ => rfl
  | 13, _ => rfl
  | 14, _ => rfl
  | 15, _ => rfl
  | 16, _ => rfl
  | 17, _ => rfl
  | 18, _ => rfl
  | 19, _ => rfl
  | n + 20, h => absurd h (by omega)
theorem m_byteOf {a b c d e k : Int} {z : ZZ} (hk : 0 ≤ k ∧ k < 20) : fX6_byteOf a b c d e k z = some (byK a b c d e k) := by
  have hs : ∀ w : Int, zand (zshr w (24 - 8 * (k % 4))) 255 = zand (zushr w (24 - 8 * (k % 4))) 255 := fun w => by
    have h := zand_shr (a := w) (b := 255) (k := (24 - 8 * (k % 4)).toNat) (by omega) (fun i h1 h2 => by have := bit_255 i h1 h2; omega)
    rw [Int.toNat_of_nonneg (by omega)] at h
    exact h
  have h45 : ∀ w : Int, fX6_byteOf_b45 k w z = some (byW w (24 - 8 * (k % 4))) := fun w => by
    unfold fX6_byteOf_b45
    rw [if_pos ⟨hk.1, by decide⟩, hs]
  unfold fX6_byteOf byK
  rw [h45, h45, h45, h45, h45]
  by_cases c1 : k < 4
  · rw [if_pos c1, if_pos c1]
  · rw [if_neg c1, if_neg c1]
    by_cases c2 : k < 8
    · rw [if_pos c2, if_pos c2]
    · rw [if_neg c2, if_neg c2]
      by_cases c3 : k < 12
      · rw [if_pos c3, if_pos c3]
      · rw [if_neg c3, if_neg c3]
        by_cases c4 : k < 16
        · rw [if_pos c4, if_pos c4]
        · rw [if_neg c4, if_neg c4]
section AP
variable {z : ZZ} {B v : Int} {ln : Nat}
/-- the class counts the bytes of a word -/
theorem c_cnt {w : Int} : ∀ (xs : List Int) (c : Int) (fuel : Nat), xs.length < fuel → xs.length ≤ 4 → 0 ≤ c ∧ c + xs.length ≤ 100 → (∀ j : Nat, j < xs.length → byW w (8 * (xs.length : Int) - 8 - 8 * j) = xs.getD j 0) → zlp (fun q => fX5_bytesIn_s5 w q.1 q.2 z) fuel (c, 8 * (xs.length : Int) - 8) = some (c + cntL xs)
  | [], c, fuel, hf, _, _, _ => by
    obtain ⟨m, rfl⟩ : ∃ m, fuel = m + 1 := ⟨fuel - 1, by omega⟩
    refine zlp_end ?_
    show fX5_bytesIn_s5 w c (8 * ((0 : Nat) : Int) - 8) z = some (.inr (c + 0))
    unfold fX5_bytesIn_s5
    rw [if_pos (by omega), Int.add_zero]
  | x :: xs, c, fuel, hf, hl, hc, hx => by
    obtain ⟨m, rfl⟩ : ∃ m, fuel = m + 1 := ⟨fuel - 1, by omega⟩
    rw [List.length_cons] at hf hl hx hc ⊢
    have h0 : byW w (8 * ((xs.length + 1 : Nat) : Int) - 8) = x := by
      have h := hx 0 (by omega)
      rw [show 8 * ((xs.length + 1 : Nat) : Int) - 8 - 8 * ((0 : Nat) : Int) = 8 * ((xs.length + 1 : Nat) : Int) - 8 by omega] at h
      exact h
    have i1 : inR (8 * (xs.length : Int) - 8) := inR_s (by omega)
    have i2 : inR (c + 1) := inR_s (by omega)
    have hs : fX5_bytesIn_s5 w c (8 * ((xs.length + 1 : Nat) : Int) - 8) z = some (.inl (c + nz x, 8 * (xs.length : Int) - 8)) := by
      unfold fX5_bytesIn_s5 fX5_bytesIn_b22
      rw [if_neg (by omega), show zand (zushr w (8 * ((xs.length + 1 : Nat) : Int) - 8)) 255 = x from h0, show 8 * ((xs.length + 1 : Nat) : Int) - 8 + (-8) = 8 * (xs.length : Int) - 8 by omega]
      unfold nz
      by_cases e : x = 0
      · rw [if_pos e, if_pos e, if_pos i1, Int.add_zero]
      · rw [if_neg e, if_neg e, if_pos i2, if_pos i1]
    rw [zlp_next hs, c_cnt xs (c + nz x) m (by omega) (by omega) (by have := nz_01 x; omega) (fun j hj => by
      have h := hx (j + 1) (by omega)
      rw [show 8 * ((xs.length + 1 : Nat) : Int) - 8 - 8 * ((j + 1 : Nat) : Int) = 8 * (xs.length : Int) - 8 - 8 * j by omega] at h
      exact h), cntL_c]
    congr 1
    omega
theorem byL_at (w : Int) : ∀ j : Nat, j < (byL w).length → byW w (8 * ((byL w).length : Int) - 8 - 8 * j) = (byL w).getD j 0
  | 0, _ => rfl
  | 1, _ => rfl
  | 2, _ => rfl
  | 3, _ => rfl
  | n + 4, h => absurd h (by show ¬ n + 4 < 4; omega)
theorem c_bytesIn {w : Int} : fX5_bytesIn w z = some (cntL (byL w)) := by
  unfold fX5_bytesIn
  rw [show (24 : Int) = 8 * ((byL w).length : Int) - 8 from rfl, c_cnt (byL w) 0 FU (FU_lt (n := (byL w).length) (show (4 : Nat) < 100000 by decide)) (show (4 : Nat) ≤ 4 by decide) (show (0 : Int) ≤ 0 ∧ (0 : Int) + ((4 : Nat) : Int) ≤ 100 by omega) (byL_at w)]
  simp only [Option.bind_some, Int.zero_add]
/-- the class appends them -/
def AF (z z' : ZZ) : Prop := (∀ a, a ≠ 16 → a ≠ 30 → z' a = z a) ∧ ∀ j, j ≠ 1 → z' 16 j = z 16 j
theorem c_app {w : Int} : ∀ (xs : List Int) (z : ZZ) (fuel : Nat), xs.length < fuel → xs.length ≤ 4 → 0 ≤ z 16 1 → z 16 1 + cntL xs ≤ 600 → (∀ j : Nat, j < xs.length → byW w (8 * (xs.length : Int) - 8 - 8 * j) = xs.getD j 0) →
    ∃ z', zlp (fun q => fX3_addBytesOf_s3 w q.1 q.2) fuel (8 * (xs.length : Int) - 8, z) = some z' ∧ z' 16 1 = (aps xs (z 16 1, z 30)).1 ∧ z' 30 = (aps xs (z 16 1, z 30)).2 ∧ AF z z'
  | [], z, fuel, hf, _, _, _, _ => by
    obtain ⟨m, rfl⟩ : ∃ m, fuel = m + 1 := ⟨fuel - 1, by omega⟩
    refine ⟨z, zlp_end ?_, rfl, rfl, fun _ _ _ => rfl, fun _ _ => rfl⟩
    show fX3_addBytesOf_s3 w (8 * ((0 : Nat) : Int) - 8) z = some (.inr z)
    unfold fX3_addBytesOf_s3
    rw [if_pos (by omega)]
  | x :: xs, z, fuel, hf, hl, hz, hc, hx => by
    obtain ⟨m, rfl⟩ : ∃ m, fuel = m + 1 := ⟨fuel - 1, by omega⟩
    rw [List.length_cons] at hf hl hx ⊢
    rw [cntL_c] at hc
    have hnn := (cntL_nn xs).1
    have h0 : byW w (8 * ((xs.length + 1 : Nat) : Int) - 8) = x := by
      have h := hx 0 (by omega)
      rw [show 8 * ((xs.length + 1 : Nat) : Int) - 8 - 8 * ((0 : Nat) : Int) = 8 * ((xs.length + 1 : Nat) : Int) - 8 by omega] at h
      exact h
    have i1 : inR (8 * (xs.length : Int) - 8) := inR_s (by omega)
    obtain ⟨y, hs, y1, y2, y3⟩ : ∃ y, fX3_addBytesOf_s3 w (8 * ((xs.length + 1 : Nat) : Int) - 8) z = some (.inl (8 * (xs.length : Int) - 8, y)) ∧ y 16 1 = (ap x (z 16 1, z 30)).1 ∧ y 30 = (ap x (z 16 1, z 30)).2 ∧ AF z y := by
      unfold fX3_addBytesOf_s3 fX3_addBytesOf_b58 zl
      dsimp only
      rw [if_neg (by omega), show zand (zushr w (8 * ((xs.length + 1 : Nat) : Int) - 8)) 255 = x from h0, show 8 * ((xs.length + 1 : Nat) : Int) - 8 + (-8) = 8 * (xs.length : Int) - 8 by omega]
      unfold ap
      by_cases e : x = 0
      · refine ⟨z, by rw [if_pos e, if_pos i1], by rw [if_pos e], by rw [if_pos e], fun _ _ _ => rfl, fun _ _ => rfl⟩
      · have e1 : nz x = 1 := if_neg e
        have d1 : zup z 30 (z 16 1) x 16 1 = z 16 1 := by rw [zup_ne (by decide)]
        refine ⟨zup (zup z 30 (z 16 1) x) 16 1 (z 16 1 + 1), ?_, ?_, ?_, fun a p q => by rw [zup_ne p, zup_ne q], fun j p => by rw [zup_at, if_neg p, zup_ne (by decide)]⟩
        · rw [if_neg e, if_neg (by omega), if_pos (by omega), d1, if_pos (inR_s (by omega)), if_pos i1]
        · rw [if_neg e, zup_at, if_pos rfl]
        · rw [if_neg e, zup_ne (by decide)]
          funext j
          rw [zup_at]
          rfl
    have y1' : y 16 1 = z 16 1 + nz x := by rw [y1, ap_1]
    have hn := nz_01 x
    obtain ⟨z', e', f1, f2, f3⟩ := c_app xs y m (by omega) (by omega) (by omega) (by omega) (fun j hj => by
      have h := hx (j + 1) (by omega)
      rw [show 8 * ((xs.length + 1 : Nat) : Int) - 8 - 8 * ((j + 1 : Nat) : Int) = 8 * (xs.length : Int) - 8 - 8 * j by omega] at h
      exact h)
    have eq : (y 16 1, y 30) = ap x (z 16 1, z 30) := by rw [y1, y2]
    rw [eq] at f1 f2
    exact ⟨z', by rw [zlp_next hs]; exact e', f1, f2, fun a p q => (f3.1 a p q).trans (y3.1 a p q), fun j p => (f3.2 j p).trans (y3.2 j p)⟩
theorem c_addB {w : Int} (hz : 0 ≤ z 16 1) (hc : z 16 1 + cntL (byL w) ≤ 600) : ∃ z', fX3_addBytesOf w z = some z' ∧ (z' 16 1, z' 30) = aps (byL w) (z 16 1, z 30) ∧ AF z z' := by
  obtain ⟨z', e, f1, f2, f3⟩ := c_app (w := w) (byL w) z FU (FU_lt (n := (byL w).length) (show (4 : Nat) < 100000 by decide)) (show (4 : Nat) ≤ 4 by decide) hz hc (byL_at w)
  refine ⟨z', ?_, by rw [f1, f2], f3⟩
  unfold fX3_addBytesOf
  rw [show (24 : Int) = 8 * ((byL w).length : Int) - 8 from rfl, e]
  rfl
/-- the model counts and appends them -/
theorem m_cnt {a b c d e : Int} : ∀ (xs : List Int) (i n : Int) (fuel : Nat), xs.length < fuel → 0 ≤ i → i + xs.length = 20 → 0 ≤ n ∧ n ≤ i → (∀ j : Nat, j < xs.length → byK a b c d e (i + j) = xs.getD j 0) → zlp (fun q => fX6_append_s11 a b c d e q.1 q.2 z) fuel (n, i) = some (n + cntL xs)
  | [], i, n, fuel, hf, _, hi, _, _ => by
    obtain ⟨m, rfl⟩ : ∃ m, fuel = m + 1 := ⟨fuel - 1, by omega⟩
    refine zlp_end ?_
    show fX6_append_s11 a b c d e n i z = some (.inr (n + 0))
    have hi' : i + ((0 : Nat) : Int) = 20 := hi
    unfold fX6_append_s11
    rw [if_neg (by omega), Int.add_zero]
  | x :: xs, i, n, fuel, hf, h0, hi, hn, hx => by
    obtain ⟨m, rfl⟩ : ∃ m, fuel = m + 1 := ⟨fuel - 1, by omega⟩
    rw [List.length_cons] at hf hi hx
    have hx0 : byK a b c d e i = x := by
      have h := hx 0 (by omega)
      rw [show i + ((0 : Nat) : Int) = i by omega] at h
      exact h
    have hs : fX6_append_s11 a b c d e n i z = some (.inl (n + nz x, i + 1)) := by
      unfold fX6_append_s11 fX6_append_b40
      rw [if_pos (by omega), m_byteOf (by omega), hx0]
      simp only [Option.bind_some]
      unfold nz
      by_cases e : x = 0
      · rw [if_pos e, if_pos e, if_pos (inR_s (by omega)), if_pos (inR_s (by omega))]
      · rw [if_neg e, if_neg e, if_pos (inR_s (by omega)), if_pos (inR_s (by omega))]
    rw [zlp_next hs, m_cnt xs (i + 1) (n + nz x) m (by omega) (by omega) (by omega) (by have := nz_01 x; omega) (fun j hj => by
      have h := hx (j + 1) (by omega)
      rw [show i + ((j + 1 : Nat) : Int) = i + 1 + j by omega] at h
      exact h), cntL_c]
    congr 1
    omega
def AM (z z' : ZZ) : Prop := (∀ a, a ≠ 151 → a ≠ 152 → z' a = z a) ∧ ∀ j, j ≠ 2 → z' 151 j = z 151 j
theorem m_app {a b c d e : Int} : ∀ (xs : List Int) (i : Int) (z : ZZ) (fuel : Nat), xs.length < fuel → 0 ≤ i → i + xs.length = 20 → 0 ≤ z 151 2 → z 151 2 + cntL xs ≤ 600 → (∀ j : Nat, j < xs.length → byK a b c d e (i + j) = xs.getD j 0) →
    ∃ z', zlp (fun q => fX6_append_s80 a b c d e q.1 q.2) fuel (i, z) = some z' ∧ z' 151 2 = (aps xs (z 151 2, z 152)).1 ∧ z' 152 = (aps xs (z 151 2, z 152)).2 ∧ AM z z'
  | [], i, z, fuel, hf, _, hi, _, _, _ => by
    obtain ⟨m, rfl⟩ : ∃ m, fuel = m + 1 := ⟨fuel - 1, by omega⟩
    refine ⟨z, zlp_end ?_, rfl, rfl, fun _ _ _ => rfl, fun _ _ => rfl⟩
    have hi' : i + ((0 : Nat) : Int) = 20 := hi
    show fX6_append_s80 a b c d e i z = some (.inr z)
    unfold fX6_append_s80
    rw [if_neg (by omega)]
  | x :: xs, i, z, fuel, hf, h0, hi, hz, hc, hx => by
    obtain ⟨m, rfl⟩ : ∃ m, fuel = m + 1 := ⟨fuel - 1, by omega⟩
    rw [List.length_cons] at hf hi hx
    rw [cntL_c] at hc
    have hnn := (cntL_nn xs).1
    have hx0 : byK a b c d e i = x := by
      have h := hx 0 (by omega)
      rw [show i + ((0 : Nat) : Int) = i by omega] at h
      exact h
    obtain ⟨y, hs, y1, y2, y3⟩ : ∃ y, fX6_append_s80 a b c d e i z = some (.inl (i + 1, y)) ∧ y 151 2 = (ap x (z 151 2, z 152)).1 ∧ y 152 = (ap x (z 151 2, z 152)).2 ∧ AM z y := by
      unfold fX6_append_s80 fX6_append_b127 zl
      dsimp only
      rw [if_pos (by omega), m_byteOf (by omega), hx0]
      simp only [Option.bind_some]
      have i1 : inR (i + 1) := inR_s (by omega)
      unfold ap
      by_cases e : x = 0
      · refine ⟨z, by rw [if_pos e, if_pos i1], by rw [if_pos e], by rw [if_pos e], fun _ _ _ => rfl, fun _ _ => rfl⟩
      · have e1 : nz x = 1 := if_neg e
        have d1 : zup z 152 (z 151 2) x 151 2 = z 151 2 := by rw [zup_ne (by decide)]
        refine ⟨zup (zup z 152 (z 151 2) x) 151 2 (z 151 2 + 1), ?_, ?_, ?_, fun a p q => by rw [zup_ne p, zup_ne q], fun j p => by rw [zup_at, if_neg p, zup_ne (by decide)]⟩
        · rw [if_neg e, if_pos (by omega), d1, if_pos (inR_s (by omega)), if_pos i1]
        · rw [if_neg e, zup_at, if_pos rfl]
        · rw [if_neg e, zup_ne (by decide)]
          funext j
          rw [zup_at]
          rfl
    have y1' : y 151 2 = z 151 2 + nz x := by rw [y1, ap_1]
    have hn := nz_01 x
    obtain ⟨z', e', f1, f2, f3⟩ := m_app xs (i + 1) y m (by omega) (by omega) (by omega) (by omega) (by omega) (fun j hj => by
      have h := hx (j + 1) (by omega)
      rw [show i + ((j + 1 : Nat) : Int) = i + 1 + j by omega] at h
      exact h)
    have eq : (y 151 2, y 152) = ap x (z 151 2, z 152) := by rw [y1, y2]
    rw [eq] at f1 f2
    exact ⟨z', by rw [zlp_next hs]; exact e', f1, f2, fun a p q => (f3.1 a p q).trans (y3.1 a p q), fun j p => (f3.2 j p).trans (y3.2 j p)⟩
theorem cntLL (a b c d e : Int) : cntL (byL a) + cntL (byL b) + cntL (byL c) + cntL (byL d) + cntL (byL e) = cntL (byLL a b c d e) := by
  unfold byLL
  rw [cntL_app, cntL_app, cntL_app, cntL_app]
  omega
theorem byL_nn (w : Int) : 0 ≤ cntL (byL w) ∧ cntL (byL w) ≤ 4 := cntL_nn (byL w)
theorem w_c0 (hV : INV B z) (hB : B ≤ 900000) (h5 : 0 ≤ v ∧ v + 5 < ln) : ∃ z', fL_c0 ln v z = some (1, z') ∧ INV (B + 60) z' ∧ z' 1000000 = z 1000000 := by
  obtain ⟨hR, hI, hH, hT⟩ := hV
  have hT' := hT
  obtain ⟨t1, t2, t3, t4⟩ := hT
  generalize ha : z 1000000 (v + 1) = a
  generalize hb : z 1000000 (v + 2) = b
  generalize hc : z 1000000 (v + 3) = c
  generalize hd : z 1000000 (v + 4) = d
  generalize he : z 1000000 (v + 5) = e
  have na := byL_nn a
  have nb := byL_nn b
  have nc := byL_nn c
  have nd := byL_nn d
  have ne := byL_nn e
  have nS := cntLL a b c d e
  have i1 : inR (z 16 1 + (cntL (byL a) + cntL (byL b) + cntL (byL c) + cntL (byL d) + cntL (byL e))) := inR_s (by omega)
  have fin : ∀ (A M : Option (Int × ZZ)) (k : Int) (z1 z2 : ZZ) (w : Int), fL_append a b c d e z = some (k, z1) → z1 1000000 = z 1000000 → fX6_append a b c d e z1 = some (w, z2) → z2 151 0 = k → (k = 0 → z2 159 0 = w) → fL_c0 ln v z = some (1, z2) := fun A M k z1 z2 w e1 es e2 e3 e4 => by
    unfold fL_c0
    rw [if_pos (by omega), if_pos (by omega), if_pos (by omega), if_pos (by omega), if_pos (by omega), ha, hb, hc, hd, he, e1]
    simp only [Option.bind_some]
    rw [es, ha, hb, hc, hd, he, e2]
    simp only [Option.bind_some]
    rw [show fX6_thrown z2 = some (z2 151 0) from rfl]
    simp only [Option.bind_some]
    rw [if_pos e3]
    by_cases q : k = 0
    · rw [if_pos q, e4 q, zcmp_eq, if_pos rfl]
    · rw [if_neg q]
  have mc : ∀ y : ZZ, zlp (fun q => fX6_append_s11 a b c d e q.1 q.2 y) FU (0, 0) = some (cntL (byLL a b c d e)) := fun y => by
    rw [m_cnt (z := y) (byLL a b c d e) 0 0 FU (FU_lt (n := (byLL a b c d e).length) (show (20 : Nat) < 100000 by decide)) (Int.le_refl _) rfl (by omega) (byLL_at a b c d e), Int.zero_add]
  by_cases q : 600 < z 16 1 + (cntL (byL a) + cntL (byL b) + cntL (byL c) + cntL (byL d) + cntL (byL e))
  · refine w_ask ⟨hR, hI, hH, hT'⟩ hB ⟨zup (zup z 151 0 0) 151 0 1, fin none none 1 z _ 0 ?_ rfl ?_ ?_ (fun x => by omega), Qt_tr Qt_e Qt_e⟩
    · simp only [fL_append, fX5_append, c_bytesIn, Option.bind_some, if_pos i1, if_pos q] <;> rfl
    · have e2 : zup z 151 0 0 151 2 = z 16 1 := by rw [zup_at, if_neg (by decide), t1]
      unfold fX6_append fX6_append_b68 zl
      dsimp only
      rw [mc]
      simp only [Option.bind_some]
      rw [e2, ← nS, if_pos i1, if_pos q, m_fails0]
      rfl
    · rw [zup_at, if_pos rfl]
  · obtain ⟨z1, e1, g1, f1⟩ := c_addB (w := a) t2 (by omega)
    have l1 : z1 16 1 = z 16 1 + cntL (byL a) := by rw [show z1 16 1 = (z1 16 1, z1 30).1 from rfl, g1, aps_1]
    obtain ⟨z2, e2, g2, f2⟩ := c_addB (w := b) (z := z1) (by omega) (by omega)
    have l2 : z2 16 1 = z1 16 1 + cntL (byL b) := by rw [show z2 16 1 = (z2 16 1, z2 30).1 from rfl, g2, aps_1]
    obtain ⟨z3, e3, g3, f3⟩ := c_addB (w := c) (z := z2) (by omega) (by omega)
    have l3 : z3 16 1 = z2 16 1 + cntL (byL c) := by rw [show z3 16 1 = (z3 16 1, z3 30).1 from rfl, g3, aps_1]
    obtain ⟨z4, e4, g4, f4⟩ := c_addB (w := d) (z := z3) (by omega) (by omega)
    have l4 : z4 16 1 = z3 16 1 + cntL (byL d) := by rw [show z4 16 1 = (z4 16 1, z4 30).1 from rfl, g4, aps_1]
    obtain ⟨z5, e5, g5, f5⟩ := c_addB (w := e) (z := z4) (by omega) (by omega)
    have l5 : z5 16 1 = z4 16 1 + cntL (byL e) := by rw [show z5 16 1 = (z5 16 1, z5 30).1 from rfl, g5, aps_1]
    have gL : (z5 16 1, z5 30) = aps (byLL a b c d e) (z 16 1, z 30) := by
      unfold byLL
      rw [aps_app, aps_app, aps_app, aps_app, ← g1, ← g2, ← g3, ← g4, g5]
    have fA : AF z z5 := ⟨fun x p w => by rw [f5.1 x p w, f4.1 x p w, f3.1 x p w, f2.1 x p w, f1.1 x p w], fun j p => by rw [f5.2 j p, f4.2 j p, f3.2 j p, f2.2 j p, f1.2 j p]⟩
    have c1 : fL_append a b c d e z = some (0, zup z5 159 0 (z5 16 1)) := by
      simp only [fL_append, fX5_append, c_bytesIn, Option.bind_some, if_pos i1, if_neg q, e1, e2, e3, e4, e5]
    generalize hy : zup z5 159 0 (z5 16 1) = y at c1
    have yo : ∀ x, x ≠ 16 → x ≠ 30 → x ≠ 159 → y x = z x := fun x p1 p2 p3 => by rw [← hy, zup_ne p3, fA.1 x p1 p2]
    have y151 := yo 151 (by decide) (by decide) (by decide)
    have y152 := yo 152 (by decide) (by decide) (by decide)
    have m2 : zup y 151 0 0 151 2 = z 16 1 := by rw [zup_at, if_neg (by decide), y151, t1]
    have m152 : zup y 151 0 0 152 = z 152 := by rw [zup_ne (by decide), y152]
    obtain ⟨w, ew, w1, w2, w3⟩ := m_app (a := a) (b := b) (c := c) (d := d) (e := e) (byLL a b c d e) 0 (zup y 151 0 0) FU (FU_lt (n := (byLL a b c d e).length) (show (20 : Nat) < 100000 by decide)) (Int.le_refl _) rfl (by rw [m2]; exact t2) (by rw [m2, ← nS]; omega) (byLL_at a b c d e)
    rw [m2, m152] at w1 w2
    have hAQ : AQ (aps (byLL a b c d e) (z 16 1, z 30)) (aps (byLL a b c d e) (z 16 1, z 152)) := AQ_aps _ _ _ (byLL_ok a b c d e) ⟨rfl, t2, t4⟩
    have k16 : z5 16 1 = (aps (byLL a b c d e) (z 16 1, z 30)).1 := by rw [← gL]
    have k30 : z5 30 = (aps (byLL a b c d e) (z 16 1, z 30)).2 := by rw [← gL]
    have wo : ∀ x, x ≠ 16 → x ≠ 30 → x ≠ 159 → x ≠ 151 → x ≠ 152 → w x = z x := fun x p1 p2 p3 p4 p5 => by rw [w3.1 x p4 p5, zup_ne p4, yo x p1 p2 p3]
    have w16 : w 16 = z5 16 := by rw [w3.1 16 (by decide) (by decide), zup_ne (by decide), ← hy, zup_ne (by decide)]
    have w30 : w 30 = z5 30 := by rw [w3.1 30 (by decide) (by decide), zup_ne (by decide), ← hy, zup_ne (by decide)]
    have w159 : w 159 0 = z5 16 1 := by rw [w3.1 159 (by decide) (by decide), zup_ne (by decide), ← hy, zup_at, if_pos rfl]
    have w151 : ∀ j, j ≠ 0 → j ≠ 2 → w 151 j = z 151 j := fun j p1 p2 => by rw [w3.2 j p2, zup_at, if_neg p1, y151]
    have e16 : w 151 2 = z5 16 1 := by rw [w1, k16, hAQ.1]
    have w154 := wo 154 (by decide) (by decide) (by decide) (by decide) (by decide)
    refine ⟨w, fin none none 0 y w (w 151 2) c1 (yo _ (by decide) (by decide) (by decide)) ?_ ?_ (fun _ => by rw [w159, e16]), ?_, wo _ (by decide) (by decide) (by decide) (by decide) (by decide)⟩
    · unfold fX6_append fX6_append_b68 zl
      dsimp only
      rw [mc]
      simp only [Option.bind_some]
      rw [m2, ← nS, if_pos i1, if_neg q, m_fails1]
      simp only [Option.bind_some, if_true]
      rw [ew]
      rfl
    · rw [w3.2 0 (by decide), zup_at, if_pos rfl]
    · refine INV_mono (B := B) ⟨?_, by rw [w154]; exact hI, HT_fra hH (fun x p q => wo x (by omega) (by omega) (by omega) (by omega) (by omega)) (wo 155 (by decide) (by decide) (by decide) (by decide) (by decide)) (wo 156 (by decide) (by decide) (by decide) (by decide) (by decide)) (w151 12 (by decide) (by decide)) (w151 13 (by decide) (by decide)), ⟨by rw [w16, e16], by rw [w16, l5, l4, l3, l2, l1]; omega, by rw [w16, l5, l4, l3, l2, l1]; omega, fun k p u => ?_⟩⟩ (by omega) (by omega)
      · rw [w154]
        exact RH_fra (h := 3) (RC_iff.mp hR) (fun x p q => wo x (by omega) (by omega) (by omega) (by omega) (by omega))
      · rw [w16, k16] at u
        rw [w30, k30, w2]
        exact hAQ.2.2 k p u
end AP

/-! the class reads a text -/
abbrev nz (x : Int) : Int := if x = 0 then 0 else 1
def ap (x : Int) (q : Int × (Int → Int)) : Int × (Int → Int) := if x = 0 then q else (q.1 + 1, rup q.2 q.1 x)
def aps (xs : List Int) (q : Int × (Int → Int)) : Int × (Int → Int) := xs.foldl (fun q x => ap x q) q
def cntL (xs : List Int) : Int := xs.foldl (fun c x => c + nz x) 0
theorem cntL_at : ∀ (xs : List Int) (c : Int), xs.foldl (fun c x => c + nz x) c = c + cntL xs
  | [], c => by show c = c + 0; omega
  | x :: xs, c => by
    show xs.foldl _ (c + nz x) = c + xs.foldl _ (0 + nz x)
    rw [cntL_at xs (c + nz x), cntL_at xs (0 + nz x)]
    omega
theorem cntL_c (x : Int) (xs : List Int) : cntL (x :: xs) = nz x + cntL xs := by
  show xs.foldl _ (0 + nz x) = _
  rw [cntL_at]
  omega
theorem nz_01 (x : Int) : 0 ≤ nz x ∧ nz x ≤ 1 := by
  unfold nz
  split <;> omega
theorem cntL_nn : ∀ xs : List Int, 0 ≤ cntL xs ∧ cntL xs ≤ xs.length
  | [] => ⟨Int.le_refl _, Int.le_refl _⟩
  | x :: xs => by
    have h1 := cntL_nn xs
    have h2 := nz_01 x
    rw [cntL_c, List.length_cons]
    omega
theorem cntL_app (xs ys : List Int) : cntL (xs ++ ys) = cntL xs + cntL ys := by
  unfold cntL
  rw [List.foldl_append, cntL_at]
  rfl
theorem aps_app (xs ys : List Int) (q : Int × (Int → Int)) : aps (xs ++ ys) q = aps ys (aps xs q) := by
  unfold aps
  rw [List.foldl_append]
theorem ap_1 (x : Int) (q : Int × (Int → Int)) : (ap x q).1 = q.1 + nz x := by
  unfold ap nz
  split <;> simp
theorem aps_1 : ∀ (xs : List Int) (q : Int × (Int → Int)), (aps xs q).1 = q.1 + cntL xs
  | [], q => by show q.1 = q.1 + 0; omega
  | x :: xs, q => by
    show (aps xs (ap x q)).1 = _
    rw [aps_1 xs (ap x q), ap_1, cntL_c]
    omega
/-- two buffers alike up to their length -/
def AQ (q q' : Int × (Int → Int)) : Prop := q.1 = q'.1 ∧ 0 ≤ q.1 ∧ ∀ k, 0 ≤ k → k < q.1 → q.2 k = q'.2 k ∧ 1 ≤ q.2 k ∧ q.2 k ≤ 255
theorem AQ_ap {x : Int} {q q' : Int × (Int → Int)} (hx : 0 ≤ x ∧ x ≤ 255) (h : AQ q q') : AQ (ap x q) (ap x q') := by
  obtain ⟨h1, h2, h3⟩ := h
  unfold ap
  split
  · exact ⟨h1, h2, h3⟩
  · refine ⟨by show q.1 + 1 = q'.1 + 1; rw [h1], by show 0 ≤ q.1 + 1; omega, fun k a b => ?_⟩
    have b' : k < q.1 + 1 := b
    show rup q.2 q.1 x k = rup q'.2 q'.1 x k ∧ 1 ≤ rup q.2 q.1 x k ∧ rup q.2 q.1 x k ≤ 255
    rw [← h1, rup_at, rup_at]
    by_cases e : k = q.1
    · rw [if_pos e, if_pos e]; omega
    · rw [if_neg e, if_neg e]
      exact h3 k a (by omega)
theorem AQ_aps : ∀ (xs : List Int) (q q' : Int × (Int → Int)), (∀ x ∈ xs, 0 ≤ x ∧ x ≤ 255) → AQ q q' → AQ (aps xs q) (aps xs q')
  | [], _, _, _, h => h
  | x :: xs, q, q', hx, h => AQ_aps xs (ap x q) (ap x q') (fun y hy => hx y (List.mem_cons_of_mem _ hy)) (AQ_ap (hx x (List.mem_cons_self ..)) h)
theorem zand255 (x : Int) : 0 ≤ zand x 255 ∧ zand x 255 ≤ 255 := by
  have h1 : (iN x &&& iN 255).toBitVec.toNat ≤ 255 := by
    rw [Int32.toBitVec_and, BitVec.toNat_and]
    have : (iN 255).toBitVec.toNat = 255 := by decide
    rw [this]
    exact Nat.and_le_right
  have e : zand x 255 = ((iN x &&& iN 255).toBitVec.toNat : Int) := by
    show (iN x &&& iN 255).toBitVec.toInt = _
    exact BitVec.toInt_eq_toNat_of_lt (by omega)
  omega
abbrev byW (w s : Int) : Int := zand (zushr w s) 255
def byL (w : Int) : List Int := [byW w 24, byW w 16, byW w 8, byW w 0]
def byLL (a b c d e : Int) : List Int := byL a ++ (byL b ++ (byL c ++ (byL d ++ byL e)))
theorem byL_ok (w : Int) : ∀ x ∈ byL w, 0 ≤ x ∧ x ≤ 255 := by
  intro x hx
  unfold byL at hx
  rcases List.mem_cons.mp hx with e | hx
  · rw [e]; exact zand255 _
  rcases List.mem_cons.mp hx with e | hx
  · rw [e]; exact zand255 _
  rcases List.mem_cons.mp hx with e | hx
  · rw [e]; exact zand255 _
  rcases List.mem_cons.mp hx with e | hx
  · rw [e]; exact zand255 _
  · cases hx
theorem byLL_ok (a b c d e : Int) : ∀ x ∈ byLL a b c d e, 0 ≤ x ∧ x ≤ 255 := by
  intro x hx
  unfold byLL at hx
  rcases List.mem_append.mp hx with h | hx
  · exact byL_ok _ x h
  rcases List.mem_append.mp hx with h | hx
  · exact byL_ok _ x h
  rcases List.mem_append.mp hx with h | hx
  · exact byL_ok _ x h
  rcases List.mem_append.mp hx with h | hx
  · exact byL_ok _ x h
  · exact byL_ok _ x hx
section AP
variable {z : ZZ} {B v : Int} {ln : Nat}
/-- the class counts the bytes of a word -/
theorem c_cnt {w : Int} : ∀ (xs : List Int) (c : Int) (fuel : Nat), xs.length < fuel → xs.length ≤ 4 → 0 ≤ c ∧ c + xs.length ≤ 100 → (∀ j : Nat, j < xs.length → byW w (8 * (xs.length : Int) - 8 - 8 * j) = xs.getD j 0) → zlp (fun q => fX5_bytesIn_s5 w q.1 q.2 z) fuel (c, 8 * (xs.length : Int) - 8) = some (c + cntL xs)
  | [], c, fuel, hf, _, _, _ => by
    obtain ⟨m, rfl⟩ : ∃ m, fuel = m + 1 := ⟨fuel - 1, by omega⟩
    refine zlp_end ?_
    show fX5_bytesIn_s5 w c (8 * ((0 : Nat) : Int) - 8) z = some (.inr (c + 0))
    unfold fX5_bytesIn_s5
    rw [if_pos (by omega), Int.add_zero]
  | x :: xs, c, fuel, hf, hl, hc, hx => by
    obtain ⟨m, rfl⟩ : ∃ m, fuel = m + 1 := ⟨fuel - 1, by omega⟩
    rw [List.length_cons] at hf hl hx hc ⊢
    have h0 : byW w (8 * ((xs.length + 1 : Nat) : Int) - 8) = x := by
      have h := hx 0 (by omega)
      rw [show 8 * ((xs.length + 1 : Nat) : Int) - 8 - 8 * ((0 : Nat) : Int) = 8 * ((xs.length + 1 : Nat) : Int) - 8 by omega] at h
      exact h
    have i1 : inR (8 * (xs.length : Int) - 8) := inR_s (by omega)
    have i2 : inR (c + 1) := inR_s (by omega)
    have hs : fX5_bytesIn_s5 w c (8 * ((xs.length + 1 : Nat) : Int) - 8) z = some (.inl (c + nz x, 8 * (xs.length : Int) - 8)) := by
      unfold fX5_bytesIn_s5 fX5_bytesIn_b22
      rw [if_neg (by omega), show zand (zushr w (8 * ((xs.length + 1 : Nat) : Int) - 8)) 255 = x from h0, show 8 * ((xs.length + 1 : Nat) : Int) - 8 + (-8) = 8 * (xs.length : Int) - 8 by omega]
      unfold nz
      by_cases e : x = 0
      · rw [if_pos e, if_pos e, if_pos i1, Int.add_zero]
      · rw [if_neg e, if_neg e, if_pos i2, if_pos i1]
    rw [zlp_next hs, c_cnt xs (c + nz x) m (by omega) (by omega) (by have := nz_01 x; omega) (fun j hj => by
      have h := hx (j + 1) (by omega)
      rw [show 8 * ((xs.length + 1 : Nat) : Int) - 8 - 8 * ((j + 1 : Nat) : Int) = 8 * (xs.length : Int) - 8 - 8 * j by omega] at h
      exact h), cntL_c]
    congr 1
    omega
theorem byL_at (w : Int) : ∀ j : Nat, j < (byL w).length → byW w (8 * ((byL w).length : Int) - 8 - 8 * j) = (byL w).getD j 0
  | 0, _ => rfl
  | 1, _ => rfl
  | 2, _ => rfl
  | 3, _ => rfl
  | n + 4, h => absurd h (by show ¬ n + 4 < 4; omega)
theorem c_bytesIn {w : Int} : fX5_bytesIn w z = some (cntL (byL w)) := by
  unfold fX5_bytesIn
  rw [show (24 : Int) = 8 * ((byL w).length : Int) - 8 from rfl, c_cnt (byL w) 0 FU (FU_lt (n := (byL w).length) (show (4 : Nat) < 100000 by decide)) (show (4 : Nat) ≤ 4 by decide) (show (0 : Int) ≤ 0 ∧ (0 : Int) + ((4 : Nat) : Int) ≤ 100 by omega) (byL_at w)]
  simp only [Option.bind_some, Int.zero_add]
/-- the class appends them -/
def AF (z z' : ZZ) : Prop := (∀ a, a ≠ 16 → a ≠ 30 → z' a = z a) ∧ ∀ j, j ≠ 1 → z' 16 j = z 16 j
theorem c_app {w : Int} : ∀ (xs : List Int) (z : ZZ) (fuel : Nat), xs.length < fuel → xs.length ≤ 4 → 0 ≤ z 16 1 → z 16 1 + cntL xs ≤ 600 → (∀ j : Nat, j < xs.length → byW w (8 * (xs.length : Int) - 8 - 8 * j) = xs.getD j 0) →
    ∃ z', zlp (fun q => fX3_addBytesOf_s3 w q.1 q.2) fuel (8 * (xs.length : Int) - 8, z) = some z' ∧ z' 16 1 = (aps xs (z 16 1, z 30)).1 ∧ z' 30 = (aps xs (z 16 1, z 30)).2 ∧ AF z z'
  | [], z, fuel, hf, _, _, _, _ => by
    obtain ⟨m, rfl⟩ : ∃ m, fuel = m + 1 := ⟨fuel - 1, by omega⟩
    refine ⟨z, zlp_end ?_, rfl, rfl, fun _ _ _ => rfl, fun _ _ => rfl⟩
    show fX3_addBytesOf_s3 w (8 * ((0 : Nat) : Int) - 8) z = some (.inr z)
    unfold fX3_addBytesOf_s3
    rw [if_pos (by omega)]
  | x :: xs, z, fuel, hf, hl, hz, hc, hx => by
    obtain ⟨m, rfl⟩ : ∃ m, fuel = m + 1 := ⟨fuel - 1, by omega⟩
    rw [List.length_cons] at hf hl hx ⊢
    rw [cntL_c] at hc
    have hnn := (cntL_nn xs).1
    have h0 : byW w (8 * ((xs.length + 1 : Nat) : Int) - 8) = x := by
      have h := hx 0 (by omega)
      rw [show 8 * ((xs.length + 1 : Nat) : Int) - 8 - 8 * ((0 : Nat) : Int) = 8 * ((xs.length + 1 : Nat) : Int) - 8 by omega] at h
      exact h
    have i1 : inR (8 * (xs.length : Int) - 8) := inR_s (by omega)
    obtain ⟨y, hs, y1, y2, y3⟩ : ∃ y, fX3_addBytesOf_s3 w (8 * ((xs.length + 1 : Nat) : Int) - 8) z = some (.inl (8 * (xs.length : Int) - 8, y)) ∧ y 16 1 = (ap x (z 16 1, z 30)).1 ∧ y 30 = (ap x (z 16 1, z 30)).2 ∧ AF z y := by
      unfold fX3_addBytesOf_s3 fX3_addBytesOf_b58 zl
      dsimp only
      rw [if_neg (by omega), show zand (zushr w (8 * ((xs.length + 1 : Nat) : Int) - 8)) 255 = x from h0, show 8 * ((xs.length + 1 : Nat) : Int) - 8 + (-8) = 8 * (xs.length : Int) - 8 by omega]
      unfold ap
      by_cases e : x = 0
      · refine ⟨z, by rw [if_pos e, if_pos i1], by rw [if_pos e], by rw [if_pos e], fun _ _ _ => rfl, fun _ _ => rfl⟩
      · have e1 : nz x = 1 := if_neg e
        have d1 : zup z 30 (z 16 1) x 16 1 = z 16 1 := by rw [zup_ne (by decide)]
        refine ⟨zup (zup z 30 (z 16 1) x) 16 1 (z 16 1 + 1), ?_, ?_, ?_, fun a p q => by rw [zup_ne p, zup_ne q], fun j p => by rw [zup_at, if_neg p, zup_ne (by decide)]⟩
        · rw [if_neg e, if_neg (by omega), if_pos (by omega), d1, if_pos (inR_s (by omega)), if_pos i1]
        · rw [if_neg e, zup_at, if_pos rfl]
        · rw [if_neg e, zup_ne (by decide)]
          funext j
          rw [zup_at]
          rfl
    have y1' : y 16 1 = z 16 1 + nz x := by rw [y1, ap_1]
    have hn := nz_01 x
    obtain ⟨z', e', f1, f2, f3⟩ := c_app xs y m (by omega) (by omega) (by omega) (by omega) (fun j hj => by
      have h := hx (j + 1) (by omega)
      rw [show 8 * ((xs.length + 1 : Nat) : Int) - 8 - 8 * ((j + 1 : Nat) : Int) = 8 * (xs.length : Int) - 8 - 8 * j by omega] at h
      exact h)
    have eq : (y 16 1, y 30) = ap x (z 16 1, z 30) := by rw [y1, y2]
    rw [eq] at f1 f2
    exact ⟨z', by rw [zlp_next hs]; exact e', f1, f2, fun a p q => (f3.1 a p q).trans (y3.1 a p q), fun j p => (f3.2 j p).trans (y3.2 j p)⟩
theorem c_addB {w : Int} (hz : 0 ≤ z 16 1) (hc : z 16 1 + cntL (byL w) ≤ 600) : ∃ z', fX3_addBytesOf w z = some z' ∧ (z' 16 1, z' 30) = aps (byL w) (z 16 1, z 30) ∧ AF z z' := by
  obtain ⟨z', e, f1, f2, f3⟩ := c_app (w := w) (byL w) z FU (FU_lt (n := (byL w).length) (show (4 : Nat) < 100000 by decide)) (show (4 : Nat) ≤ 4 by decide) hz hc (byL_at w)
  refine ⟨z', ?_, by rw [f1, f2], f3⟩
  unfold fX3_addBytesOf
  rw [show (24 : Int) = 8 * ((byL w).length : Int) - 8 from rfl, e]
  rfl
theorem cntLL (a b c d e : Int) : cntL (byL a) + cntL (byL b) + cntL (byL c) + cntL (byL d) + cntL (byL e) = cntL (byLL a b c d e) := by
  unfold byLL
  rw [cntL_app, cntL_app, cntL_app, cntL_app]
  omega
theorem byL_nn (w : Int) : 0 ≤ cntL (byL w) ∧ cntL (byL w) ≤ 4 := cntL_nn (byL w)
end AP

abbrev isSp (x : Int) : Prop := x = 32
abbrev isLt (x : Int) : Prop := 97 ≤ x ∧ x ≤ 122
abbrev isDg (x : Int) : Prop := 48 ≤ x ∧ x ≤ 57
def TXT (b : Int → Int) (L : Int) : Prop := 0 ≤ L ∧ L ≤ 600 ∧ (∀ k, k < 0 ∨ L ≤ k → b k = 0) ∧ ∀ k, 0 ≤ k → k < L → 1 ≤ b k ∧ b k ≤ 255
def TC (b : Int → Int) (L : Int) (z : ZZ) : Prop := z 16 1 = L ∧ ∀ k, 0 ≤ k → k < L → z 30 k = b k
def scn (b : Int → Int) (Q : Int → Prop) [∀ x, Decidable (Q x)] : Nat → Int → Int
  | 0, p => p
  | n + 1, p => if Q (b p) then scn b Q n (p + 1) else p
theorem scn_ok {b : Int → Int} {L : Int} (hT : TXT b L) (Q : Int → Prop) [∀ x, Decidable (Q x)] (hQ : ¬ Q 0) : ∀ (n : Nat) (p : Int), 0 ≤ p → p ≤ L → L - p < n → p ≤ scn b Q n p ∧ scn b Q n p ≤ L ∧ ¬ Q (b (scn b Q n p)) ∧ ∀ k, p ≤ k → k < scn b Q n p → Q (b k)
  | 0, p, h0, h1, h2 => by omega
  | n + 1, p, h0, h1, h2 => by
    unfold scn
    by_cases q : Q (b p)
    · rw [if_pos q]
      have hp : p < L := by
        by_cases w : p < L
        · exact w
        · rw [hT.2.2.1 p (by omega)] at q
          exact absurd q hQ
      obtain ⟨g1, g2, g3, g4⟩ := scn_ok hT Q hQ n (p + 1) (by omega) (by omega) (by omega)
      refine ⟨by omega, g2, g3, fun k a c => ?_⟩
      by_cases e : k = p
      · rw [e]; exact q
      · exact g4 k (by omega) c
    · rw [if_neg q]
      exact ⟨Int.le_refl _, h1, q, fun k a c => by omega⟩
theorem lp_scn {S R : Type} {step : S → Option (S ⊕ R)} {b : Int → Int} {L : Int} (hT : TXT b L) (Q : Int → Prop) [∀ x, Decidable (Q x)] (hQ : ¬ Q 0) (e : Int → S) (out : Int → R) (lo : Int) (h1 : ∀ i, lo ≤ i → i < L → Q (b i) → step (e i) = some (.inl (e (i + 1)))) (h2 : ∀ i, lo ≤ i → i ≤ L → ¬ Q (b i) → step (e i) = some (.inr (out i))) : ∀ (n : Nat) (p : Int) (fuel : Nat), n < fuel → 0 ≤ p → lo ≤ p → p ≤ L → L - p < n → zlp step fuel (e p) = some (out (scn b Q n p))
  | 0, p, fuel, _, h0, _, h1, h2 => by omega
  | n + 1, p, fuel, hf, g0, gl, g1, g2 => by
    obtain ⟨m, rfl⟩ : ∃ m, fuel = m + 1 := ⟨fuel - 1, by omega⟩
    unfold scn
    by_cases q : Q (b p)
    · have hp : p < L := by
        by_cases w : p < L
        · exact w
        · rw [hT.2.2.1 p (by omega)] at q
          exact absurd q hQ
      rw [if_pos q, zlp_next (h1 p gl hp q)]
      exact lp_scn hT Q hQ e out lo h1 h2 n (p + 1) m (by omega) (by omega) (by omega) (by omega) (by omega)
    · rw [if_neg q]
      exact zlp_end (h2 p gl g1 q)
def tS (b : Int → Int) (p : Int) : Int := scn b isSp 601 p
def tE (b : Int → Int) (L s : Int) : Int := if isLt (b s) then scn b isLt 601 s else if isDg (b s) then scn b isDg 601 s else if s < L then s + 1 else s
def tK (b : Int → Int) (L s : Int) : Int := if L ≤ s then 0 else if isLt (b s) then 1 else if isDg (b s) then 2 else 3
/-- the value of a number; the model's is cut at 10000 -/
def tV (b : Int → Int) (s e : Int) : Int := ita (fun k v => v * 10 + b k - 48) (e - s).toNat s 0
def tC (b : Int → Int) (s e : Int) : Int := ita (fun k v => min 10000 (10 * v + b k - 48)) (e - s).toNat s 0
def tM (b : Int → Int) (L s : Int) : Int := if isDg (b s) then tC b s (tE b L s) else 0
section TK
variable {z : ZZ} {b : Int → Int} {L p s : Int}
theorem in_L (hT : TXT b L) (h : b p ≠ 0) : 0 ≤ p ∧ p < L := by
  refine ⟨?_, ?_⟩
  · by_cases q : 0 ≤ p
    · exact q
    · exact absurd (hT.2.2.1 p (by omega)) h
  · by_cases q : p < L
    · exact q
    · exact absurd (hT.2.2.1 p (by omega)) h
theorem tS_ok (hT : TXT b L) (hp : 0 ≤ p ∧ p ≤ L) : p ≤ tS b p ∧ tS b p ≤ L := by
  have hL := hT.2.1
  obtain ⟨g1, g2, -, -⟩ := scn_ok hT isSp (by decide) 601 p hp.1 hp.2 (by omega)
  exact ⟨g1, g2⟩
theorem tE_ok (hT : TXT b L) (hs : 0 ≤ s ∧ s ≤ L) : s ≤ tE b L s ∧ tE b L s ≤ L ∧ (s < L → s < tE b L s) ∧ (isDg (b s) → ∀ k, s ≤ k → k < tE b L s → isDg (b k)) := by
  have hL := hT.2.1
  unfold tE
  by_cases h1 : isLt (b s)
  · obtain ⟨g1, g2, g3, g4⟩ := scn_ok hT isLt (by decide) 601 s hs.1 hs.2 (by omega)
    rw [if_pos h1]
    refine ⟨g1, g2, fun _ => ?_, fun h2 => by omega⟩
    by_cases e : s = scn b isLt 601 s
    · rw [← e] at g3
      exact absurd h1 g3
    · omega
  · rw [if_neg h1]
    by_cases h2 : isDg (b s)
    · obtain ⟨g1, g2, g3, g4⟩ := scn_ok hT isDg (by decide) 601 s hs.1 hs.2 (by omega)
      rw [if_pos h2]
      refine ⟨g1, g2, fun _ => ?_, fun _ => g4⟩
      by_cases e : s = scn b isDg 601 s
      · rw [← e] at g3
        exact absurd h2 g3
      · omega
    · rw [if_neg h2]
      refine ⟨?_, ?_, fun h3 => ?_, fun h3 => absurd h3 h2⟩
      · split <;> omega
      · split <;> omega
      · rw [if_pos h3]; omega
theorem c_byteAt {k : Int} (hT : TXT b L) (h : TC b L z) : fX3_byteAt k z = some (b k) := by
  have hL := hT.2.1
  unfold fX3_byteAt fX3_byteAt_b25 fX3_byteAt_b26
  rw [h.1]
  by_cases h1 : k < 0
  · rw [if_pos h1, if_pos rfl, hT.2.2.1 k (by omega)]
  · rw [if_neg h1]
    by_cases h2 : k < L
    · rw [if_pos h2, if_pos (by omega), if_neg (by decide), if_pos (by omega), h.2 k (by omega) h2]
    · rw [if_neg h2, if_pos rfl, hT.2.2.1 k (by omega)]
theorem c_isLetter {x : Int} : fX3_isLetter x z = some (bI (isLt x)) := by
  unfold fX3_isLetter bI
  by_cases h1 : x < 97
  · rw [if_pos h1, if_neg (by omega)]
  · rw [if_neg h1]
    by_cases h2 : 122 < x
    · rw [if_pos h2, if_neg (by omega)]
    · rw [if_neg h2, if_pos (by omega)]
theorem c_isDigit {x : Int} : fX3_isDigit x z = some (bI (isDg x)) := by
  unfold fX3_isDigit bI
  by_cases h1 : x < 48
  · rw [if_pos h1, if_neg (by omega)]
  · rw [if_neg h1]
    by_cases h2 : 57 < x
    · rw [if_pos h2, if_neg (by omega)]
    · rw [if_neg h2, if_pos (by omega)]
theorem TC_16 {j v : Int} (h : TC b L z) (hj : j ≠ 1) : TC b L (zup z 16 j v) := by
  refine ⟨by rw [zup_at, if_neg (fun e => hj e.symm)]; exact h.1, fun k a c => ?_⟩
  rw [zup_ne (by decide)]
  exact h.2 k a c
/-- the class goes on to the next token -/
theorem c_tok (hT : TXT b L) (h : TC b L z) (hp : z 16 6 = p) (h0 : 0 ≤ p ∧ p ≤ L) : fX3_readToken z = some (zup (zup z 16 5 (tS b p)) 16 6 (tE b L (tS b p))) := by
  have hL := hT.2.1
  obtain ⟨s1, s2⟩ := tS_ok hT h0
  have e1 : zlp (fun q => fX3_readToken_s5 q z) FU p = some (tS b p) := lp_scn (step := fun q => fX3_readToken_s5 q z) hT isSp (by decide) (fun i => i) (fun i => i) 0 (fun i a c q => by
      show fX3_readToken_s5 i z = _
      unfold fX3_readToken_s5
      rw [h.1, if_pos c, c_byteAt hT h]
      simp only [Option.bind_some]
      rw [if_pos q, if_pos (inR_s (by omega))]) (fun i a c q => by
      show fX3_readToken_s5 i z = _
      unfold fX3_readToken_s5
      rw [h.1, c_byteAt hT h]
      simp only [Option.bind_some]
      by_cases w : i < L
      · rw [if_pos w, if_neg q]
      · rw [if_neg w]) 601 p FU (FU_lt (by omega)) h0.1 h0.1 h0.2 (by omega)
  generalize tS b p = s at *
  have hC := TC_16 (j := 5) (v := s) h (by decide)
  have el : ∀ y : ZZ, TC b L y → zlp (fun q => fX3_readToken_s45 q y) FU s = some (scn b isLt 601 s) := fun y hy => lp_scn (step := fun q => fX3_readToken_s45 q y) hT isLt (by decide) (fun i => i) (fun i => i) 0 (fun i a c q => by
      show fX3_readToken_s45 i y = _
      unfold fX3_readToken_s45
      rw [hy.1, if_pos c, c_byteAt hT hy]
      simp only [Option.bind_some, c_isLetter, ite_bI]
      rw [if_pos q, if_pos (inR_s (by omega))]) (fun i a c q => by
      show fX3_readToken_s45 i y = _
      unfold fX3_readToken_s45
      rw [hy.1, c_byteAt hT hy]
      simp only [Option.bind_some, c_isLetter, ite_bI]
      by_cases w : i < L
      · rw [if_pos w, if_neg q]
      · rw [if_neg w]) 601 s FU (FU_lt (by omega)) (by omega) (by omega) s2 (by omega)
  have ed : ∀ y : ZZ, TC b L y → zlp (fun q => fX3_readToken_s81 q y) FU s = some (scn b isDg 601 s) := fun y hy => lp_scn (step := fun q => fX3_readToken_s81 q y) hT isDg (by decide) (fun i => i) (fun i => i) 0 (fun i a c q => by
      show fX3_readToken_s81 i y = _
      unfold fX3_readToken_s81
      rw [hy.1, if_pos c, c_byteAt hT hy]
      simp only [Option.bind_some, c_isDigit, ite_bI]
      rw [if_pos q, if_pos (inR_s (by omega))]) (fun i a c q => by
      show fX3_readToken_s81 i y = _
      unfold fX3_readToken_s81
      rw [hy.1, c_byteAt hT hy]
      simp only [Option.bind_some, c_isDigit, ite_bI]
      by_cases w : i < L
      · rw [if_pos w, if_neg q]
      · rw [if_neg w]) 601 s FU (FU_lt (by omega)) (by omega) (by omega) s2 (by omega)
  unfold fX3_readToken zl
  rw [hp, e1]
  simp only [Option.bind_some, c_byteAt hT hC, c_isLetter, c_isDigit, ite_bI, hC.1]
  unfold tE
  by_cases h1 : isLt (b s)
  · rw [if_pos h1, if_pos h1, el _ hC]
    rfl
  · rw [if_neg h1, if_neg h1]
    by_cases h2 : isDg (b s)
    · rw [if_pos h2, if_pos h2, ed _ hC]
      rfl
    · rw [if_neg h2, if_neg h2]
      by_cases h3 : s < L
      · rw [if_pos h3, if_pos h3, if_pos (inR_s (by omega))]
      · rw [if_neg h3, if_neg h3]
theorem zup_zup {a : Nat} {k v w : Int} : zup (zup z a k v) a k w = zup z a k w := by
  funext c j
  show (if c = a ∧ j = k then w else if c = a ∧ j = k then v else z c j) = if c = a ∧ j = k then w else z c j
  by_cases q : c = a ∧ j = k
  · rw [if_pos q, if_pos q]
  · rw [if_neg q, if_neg q, if_neg q]
theorem zup_self {a : Nat} {k v : Int} (h : z a k = v) : zup z a k v = z := by
  funext c j
  show (if c = a ∧ j = k then v else z c j) = z c j
  by_cases q : c = a ∧ j = k
  · rw [if_pos q, ← h, q.1, q.2]
  · rw [if_neg q]
theorem zup_swap {a c : Nat} {k l v w : Int} (h : k ≠ l) : zup (zup z a k v) c l w = zup (zup z c l w) a k v := by
  funext d j
  show (if d = c ∧ j = l then w else if d = a ∧ j = k then v else z d j) = if d = a ∧ j = k then v else if d = c ∧ j = l then w else z d j
  by_cases q : d = c ∧ j = l
  · rw [if_pos q, if_neg (fun x => h (x.2.symm.trans q.2)), if_pos q]
  · rw [if_neg q, if_neg q]
theorem tC_s {i : Int} (h : s ≤ i) : tC b s (i + 1) = min 10000 (10 * tC b s i + b i - 48) := by
  unfold tC
  rw [show (i + 1 - s).toNat = (i - s).toNat + 1 by omega, ita_succ, show s + ((i - s).toNat : Nat) = i by omega]
theorem tC_0 : tC b s s = 0 := by
  unfold tC
  rw [show (s - s).toNat = 0 by omega]
  rfl
theorem tC_ok : ∀ (n : Nat), (∀ k, s ≤ k → k < s + n → isDg (b k)) → 0 ≤ tC b s (s + n) ∧ tC b s (s + n) ≤ 10000
  | 0, _ => by
    rw [show s + ((0 : Nat) : Int) = s by omega, tC_0]
    omega
  | n + 1, h => by
    have h1 := tC_ok n (fun k a c => h k a (by omega))
    have h2 := h (s + n) (by omega) (by omega)
    rw [show s + ((n + 1 : Nat) : Int) = s + n + 1 by omega, tC_s (by omega)]
    omega
theorem tV_s {i : Int} (h : s ≤ i) : tV b s (i + 1) = tV b s i * 10 + b i - 48 := by
  unfold tV
  rw [show (i + 1 - s).toNat = (i - s).toNat + 1 by omega, ita_succ, show s + ((i - s).toNat : Nat) = i by omega]
theorem tV_0 : tV b s s = 0 := by
  unfold tV
  rw [show (s - s).toNat = 0 by omega]
  rfl
theorem tVC (h0 : isDg (b s)) : ∀ (e : Int), s < e → e ≤ s + 3 → (∀ k, s ≤ k → k < e → isDg (b k)) → tC b s e = tV b s e ∧ 0 ≤ tV b s e ∧ tV b s e ≤ 999 := by
  intro e h1 h2 h3
  have a1 : tC b s (s + 1) = b s - 48 ∧ tV b s (s + 1) = b s - 48 := by
    rw [tC_s (Int.le_refl _), tV_s (Int.le_refl _), tC_0, tV_0]
    omega
  by_cases e1 : e = s + 1
  · rw [e1, a1.1, a1.2]
    omega
  · have d1 := h3 (s + 1) (by omega) (by omega)
    have a2 : tC b s (s + 2) = (b s - 48) * 10 + b (s + 1) - 48 ∧ tV b s (s + 2) = (b s - 48) * 10 + b (s + 1) - 48 := by
      rw [show s + 2 = s + 1 + 1 by omega, tC_s (by omega), tV_s (by omega), a1.1, a1.2]
      omega
    by_cases e2 : e = s + 2
    · rw [e2, a2.1, a2.2]
      omega
    · have e3 : e = s + 2 + 1 := by omega
      have d2 := h3 (s + 2) (by omega) (by omega)
      rw [e3, tC_s (by omega), tV_s (by omega), a2.1, a2.2]
      omega
end TK

abbrev isWd (b : Int → Int) (s e : Int) (w : Nat) : Prop := e - s = zlen w ∧ ∀ k : Nat, k < (zlen w).toNat → b (s + k) = zKC (w + 100) k
def wK (b : Int → Int) (s e : Int) : Int := if isWd b s e 1000100 then 0 else if isWd b s e 1000101 then 1 else if isWd b s e 1000102 then 2 else if isWd b s e 1000103 then 3 else if isWd b s e 1000104 then 4 else -1
def num (b : Int → Int) (L lo hi p : Int) : Int ⊕ (Int × Int) := if isDg (b (tS b p)) ∧ tE b L (tS b p) - tS b p ≤ 3 ∧ lo ≤ tV b (tS b p) (tE b L (tS b p)) ∧ tV b (tS b p) (tE b L (tS b p)) ≤ hi then .inr (tV b (tS b p) (tE b L (tS b p)), tE b L (tS b p)) else .inl (tS b p)
def n2 (b : Int → Int) (L l1 h1 l2 h2 p : Int) : Int ⊕ (Int × Int × Int) := match num b L l1 h1 p with
  | .inl x => .inl x
  | .inr (v1, p1) => match num b L l2 h2 p1 with
    | .inl x => .inl x
    | .inr (v2, p2) => .inr (v1, v2, p2)
def n3 (b : Int → Int) (L l1 h1 l2 h2 l3 h3 p : Int) : Int ⊕ (Int × Int × Int × Int) := match num b L l1 h1 p with
  | .inl x => .inl x
  | .inr (v1, p1) => match num b L l2 h2 p1 with
    | .inl x => .inl x
    | .inr (v2, p2) => match num b L l3 h3 p2 with
      | .inl x => .inl x
      | .inr (v3, p3) => .inr (v1, v2, v3, p3)
section NU
variable {z : ZZ} {b : Int → Int} {L p s e : Int}
theorem num_ok {lo hi v q : Int} (hT : TXT b L) (h0 : 0 ≤ p ∧ p ≤ L) (h : num b L lo hi p = .inr (v, q)) : p < q ∧ q ≤ L ∧ lo ≤ v ∧ v ≤ hi := by
  have hL := hT.2.1
  obtain ⟨s1, s2⟩ := tS_ok hT h0
  unfold num at h
  split at h
  · next g =>
    cases h
    have hi := in_L hT (p := tS b p) (by omega)
    obtain ⟨t1, t2, t3, -⟩ := tE_ok hT (s := tS b p) (by omega)
    have := t3 hi.2
    exact ⟨by omega, t2, g.2.2.1, g.2.2.2⟩
  · cases h
theorem n2_ok {l1 h1 l2 h2 v w q : Int} (hT : TXT b L) (h0 : 0 ≤ p ∧ p ≤ L) (h : n2 b L l1 h1 l2 h2 p = .inr (v, w, q)) : p < q ∧ q ≤ L ∧ (l1 ≤ v ∧ v ≤ h1) ∧ l2 ≤ w ∧ w ≤ h2 := by
  unfold n2 at h
  cases e1 : num b L l1 h1 p with
  | inl x => rw [e1] at h; cases h
  | inr y =>
    obtain ⟨v1, p1⟩ := y
    rw [e1] at h
    have g1 := num_ok hT h0 e1
    dsimp only at h
    cases e2 : num b L l2 h2 p1 with
    | inl x => rw [e2] at h; cases h
    | inr y =>
      obtain ⟨v2, p2⟩ := y
      rw [e2] at h
      have g2 := num_ok hT (by omega) e2
      cases h
      exact ⟨by omega, g2.2.1, g1.2.2, g2.2.2⟩
theorem n3_ok {l1 h1 l2 h2 l3 h3 v w u q : Int} (hT : TXT b L) (h0 : 0 ≤ p ∧ p ≤ L) (h : n3 b L l1 h1 l2 h2 l3 h3 p = .inr (v, w, u, q)) : p < q ∧ q ≤ L ∧ (l1 ≤ v ∧ v ≤ h1) ∧ (l2 ≤ w ∧ w ≤ h2) ∧ l3 ≤ u ∧ u ≤ h3 := by
  unfold n3 at h
  cases e1 : num b L l1 h1 p with
  | inl x => rw [e1] at h; cases h
  | inr y =>
    obtain ⟨v1, p1⟩ := y
    rw [e1] at h
    have g1 := num_ok hT h0 e1
    dsimp only at h
    cases e2 : num b L l2 h2 p1 with
    | inl x => rw [e2] at h; cases h
    | inr y =>
      obtain ⟨v2, p2⟩ := y
      rw [e2] at h
      have g2 := num_ok hT (by omega) e2
      dsimp only at h
      cases e3 : num b L l3 h3 p2 with
      | inl x => rw [e3] at h; cases h
      | inr y =>
        obtain ⟨v3, p3⟩ := y
        rw [e3] at h
        have g3 := num_ok hT (by omega) e3
        cases h
        exact ⟨by omega, g3.2.1, g1.2.2, g2.2.2, g3.2.2⟩
theorem zlen_ok {w : Nat} (hw : isW w) : 0 ≤ zlen w ∧ zlen w < 60 := by
  have h := (isW_all w hw).2.2.2.2.1
  unfold zlen
  omega
theorem c_tokenIs {w : Nat} (hT : TXT b L) (h : TC b L z) (hw : isW w) (h5 : z 16 5 = s) (h6 : z 16 6 = e) (h0 : 0 ≤ s ∧ s ≤ L) (h1 : 0 ≤ e ∧ e ≤ L) : fX3_tokenIs w z = some (bI (isWd b s e w)) := by
  have hL := hT.2.1
  have hl := zlen_ok hw
  unfold fX3_tokenIs
  rw [h5, h6, if_pos (inR_s (by omega))]
  by_cases q : e - s = zlen w
  · rw [if_pos q]
    have key := lp_find (step := fun q => fX3_tokenIs_s20 w q z) (fun i => i) (fun i => ¬ b (s + i) = zKC (w + 100) i) (fun _ => Sum.inr 0) (Sum.inl ()) (zlen w) (zlen w).toNat 0 FU (FU_lt (by omega)) (by omega) (fun i a c d => by
      show fX3_tokenIs_s20 w i z = _
      unfold fX3_tokenIs_s20
      rw [if_pos c, h5, if_pos (inR_s (by omega)), c_byteAt hT h]
      simp only [Option.bind_some]
      rw [if_pos ⟨a, c⟩, if_pos (Classical.not_not.mp d), if_pos (inR_s (by omega))]) (fun i a c d => by
      show fX3_tokenIs_s20 w i z = _
      unfold fX3_tokenIs_s20
      rw [if_pos c, h5, if_pos (inR_s (by omega)), c_byteAt hT h]
      simp only [Option.bind_some]
      rw [if_pos ⟨a, c⟩, if_neg d]) (by
      show fX3_tokenIs_s20 w (zlen w) z = _
      unfold fX3_tokenIs_s20
      rw [if_neg (by omega)])
    rcases key with ⟨i, a, c, d, -, f⟩ | ⟨a, f⟩
    · have f' : zlp (fun q => fX3_tokenIs_s20 w q z) FU 0 = some (.inr 0) := by
        rw [f]
      rw [f', bI_f (fun g => d (by
        have := g.2 i.toNat (by omega)
        rw [Int.toNat_of_nonneg a] at this
        exact this))]
      rfl
    · have f' : zlp (fun q => fX3_tokenIs_s20 w q z) FU 0 = some (.inl ()) := by
        rw [f]
      rw [f', bI_t ⟨q, fun k c => Classical.not_not.mp (a k (by omega) (by omega))⟩]
      rfl
  · rw [if_neg q, bI_f (fun g => q g.1)]
theorem c_kind (hT : TXT b L) (h : TC b L z) (h5 : z 16 5 = s) (h6 : z 16 6 = e) (h0 : 0 ≤ s ∧ s ≤ L) (h1 : 0 ≤ e ∧ e ≤ L) : fX3_kindOfToken z = some (wK b s e) := by
  have st : ∀ (i : Int) (w : Nat), 0 ≤ i ∧ i < 5 → fX3_wordOf i z = some w → isW w → fX3_kindOfToken_s2 i z = if isWd b s e w then some (.inr (.inr i)) else some (.inl (i + 1)) := fun i w hi hw hW => by
    unfold fX3_kindOfToken_s2
    rw [if_pos hi.2, hw]
    simp only [Option.bind_some, c_tokenIs hT h hW h5 h6 h0 h1, ite_bI]
    rw [if_pos (inR_s (by omega))]
  have s0 := st 0 1000100 (by omega) rfl wW1000100
  have s1 := st 1 1000101 (by omega) rfl wW1000101
  have s2 := st 2 1000102 (by omega) rfl wW1000102
  have s3 := st 3 1000103 (by omega) rfl wW1000103
  have s4 := st 4 1000104 (by omega) rfl wW1000104
  have s5 : fX3_kindOfToken_s2 5 z = some (.inr (.inl ())) := by
    unfold fX3_kindOfToken_s2
    rw [if_neg (by decide)]
  unfold fX3_kindOfToken wK
  rw [show FU = 99994 + 1 + 1 + 1 + 1 + 1 + 1 from rfl]
  by_cases q0 : isWd b s e 1000100
  · rw [if_pos q0] at s0
    rw [zlp_end (f := fun q => fX3_kindOfToken_s2 q z) s0, if_pos q0]
    rfl
  · rw [if_neg q0] at s0
    rw [zlp_next (f := fun q => fX3_kindOfToken_s2 q z) s0, if_neg q0, show (0 : Int) + 1 = 1 from rfl]
    by_cases q1 : isWd b s e 1000101
    · rw [if_pos q1] at s1
      rw [zlp_end (f := fun q => fX3_kindOfToken_s2 q z) s1, if_pos q1]
      rfl
    · rw [if_neg q1] at s1
      rw [zlp_next (f := fun q => fX3_kindOfToken_s2 q z) s1, if_neg q1, show (1 : Int) + 1 = 2 from rfl]
      by_cases q2 : isWd b s e 1000102
      · rw [if_pos q2] at s2
        rw [zlp_end (f := fun q => fX3_kindOfToken_s2 q z) s2, if_pos q2]
        rfl
      · rw [if_neg q2] at s2
        rw [zlp_next (f := fun q => fX3_kindOfToken_s2 q z) s2, if_neg q2, show (2 : Int) + 1 = 3 from rfl]
        by_cases q3 : isWd b s e 1000103
        · rw [if_pos q3] at s3
          rw [zlp_end (f := fun q => fX3_kindOfToken_s2 q z) s3, if_pos q3]
          rfl
        · rw [if_neg q3] at s3
          rw [zlp_next (f := fun q => fX3_kindOfToken_s2 q z) s3, if_neg q3, show (3 : Int) + 1 = 4 from rfl]
          by_cases q4 : isWd b s e 1000104
          · rw [if_pos q4] at s4
            rw [zlp_end (f := fun q => fX3_kindOfToken_s2 q z) s4, if_pos q4]
            rfl
          · rw [if_neg q4] at s4
            rw [zlp_next (f := fun q => fX3_kindOfToken_s2 q z) s4, if_neg q4, show (4 : Int) + 1 = 5 from rfl, zlp_end (f := fun q => fX3_kindOfToken_s2 q z) s5]
            rfl
theorem c_number (hT : TXT b L) (h : TC b L z) (h5 : z 16 5 = s) (h6 : z 16 6 = tE b L s) (h0 : 0 ≤ s ∧ s ≤ L) : fX3_numberOfToken z = some (if isDg (b s) ∧ tE b L s - s ≤ 3 then tV b s (tE b L s) else -1) := by
  have hL := hT.2.1
  obtain ⟨t1, t2, t3, t4⟩ := tE_ok hT h0
  unfold fX3_numberOfToken
  rw [h5, h6, c_byteAt hT h]
  simp only [Option.bind_some, c_isDigit, ite_bI]
  by_cases q1 : isDg (b s)
  · rw [if_pos q1, if_pos (inR_s (by omega))]
    by_cases q2 : tE b L s - s ≤ 3
    · rw [if_neg (by omega), if_pos ⟨q1, q2⟩]
      have key := (lp_forI (step := fun q => fX3_numberOfToken_s36 q.1 q.2 z) (fun i v => (v, i)) (fun k v => v * 10 + b k - 48) (fun v => v) (fun i v => 0 ≤ v ∧ (i = s → v = 0) ∧ (i ≤ s + 1 → v ≤ 9) ∧ (i ≤ s + 2 → v ≤ 99) ∧ v ≤ 999) s (tE b L s) 0 t1 (by omega) ⟨by omega, fun _ => rfl, by omega, by omega, by omega⟩ (fun i v a c hP => by
        have hd := t4 q1 i a c
        refine ⟨?_, by omega, fun w => by omega, fun w => ?_, fun w => ?_, ?_⟩
        · show fX3_numberOfToken_s36 v i z = _
          unfold fX3_numberOfToken_s36
          rw [h6, if_pos c, c_byteAt hT h]
          simp only [Option.bind_some]
          rw [if_pos (inR_s (by omega)), if_pos (inR_s (by omega))]
        · have := hP.2.1 (by omega)
          omega
        · have := hP.2.2.1 (by omega)
          omega
        · have := hP.2.2.2.1 (by omega)
          omega) (fun v hP => by
        show fX3_numberOfToken_s36 v (tE b L s) z = _
        unfold fX3_numberOfToken_s36
        rw [h6, if_neg (by omega)])).1
      rw [key]
      rfl
    · rw [if_pos (by omega), if_neg (fun g => q2 g.2)]
  · rw [if_neg q1, if_neg (fun g => q1 g.1)]
theorem c_range {w i v : Int} (hw : 0 ≤ w ∧ w ≤ 4) (hi : 0 ≤ i ∧ i < 3) : fX3_isInRange w i v z = some (bI (zKC 1000002 (w * 3 + i) ≤ v ∧ v ≤ zKC 1000003 (w * 3 + i))) := by
  unfold fX3_isInRange
  rw [if_pos (inR_s (by omega)), if_neg (by omega), if_pos (by omega), if_pos (by omega)]
  by_cases h1 : v < zKC 1000002 (w * 3 + i)
  · rw [if_pos h1, bI_f (by omega)]
  · rw [if_neg h1]
    by_cases h2 : zKC 1000003 (w * 3 + i) < v
    · rw [if_pos h2, bI_f (by omega)]
    · rw [if_neg h2, bI_t (by omega)]
def CFm (z z' : ZZ) : Prop := (∀ a, a ≠ 16 → a ≠ 31 → z' a = z a) ∧ ∀ j, j ≠ 5 → j ≠ 6 → z' 16 j = z 16 j
theorem CFm_tr {z z' z'' : ZZ} (h : CFm z z') (h2 : CFm z' z'') : CFm z z'' := ⟨fun a p q => (h2.1 a p q).trans (h.1 a p q), fun j p q => (h2.2 j p q).trans (h.2 j p q)⟩
theorem TC_fr {z z' : ZZ} (h : TC b L z) (f : CFm z z') : TC b L z' := by
  refine ⟨by rw [f.2 1 (by decide) (by decide)]; exact h.1, fun k a c => ?_⟩
  rw [f.1 30 (by decide) (by decide)]
  exact h.2 k a c
/-- one number -/
theorem c_num {w i n lo hi : Int} (hT : TXT b L) (h : TC b L z) (h6 : z 16 6 = p) (h0 : 0 ≤ p ∧ p ≤ L) (hw : 0 ≤ w ∧ w ≤ 4) (hn : ∀ y : ZZ, fX3_numbersOf w y = some n) (hn3 : n ≤ 3) (hi' : 0 ≤ i ∧ i < n) (hlo : zKC 1000002 (w * 3 + i) = lo) (hhi : zKC 1000003 (w * 3 + i) = hi) (hlo0 : 0 ≤ lo) :
    (∀ x, num b L lo hi p = .inl x → ∃ z', fX3_readStatement_s26 w i z = some (.inr (.inr (0, z'))) ∧ z' 16 5 = x ∧ CFm z z') ∧
    (∀ v q, num b L lo hi p = .inr (v, q) → ∃ z', fX3_readStatement_s26 w i z = some (.inl (i + 1, z')) ∧ z' 16 6 = q ∧ z' 31 i = v ∧ (∀ j, j ≠ i → z' 31 j = z 31 j) ∧ CFm z z') := by
  have hL := hT.2.1
  obtain ⟨s1, s2⟩ := tS_ok hT h0
  have ht := c_tok hT h h6 h0
  unfold num
  generalize tS b p = s at *
  have f1 : CFm z (zup (zup z 16 5 s) 16 6 (tE b L s)) := ⟨fun a u _ => by rw [zup_ne u, zup_ne u], fun j u v => by rw [zup_at, if_neg v, zup_at, if_neg u]⟩
  have e5 : zup (zup z 16 5 s) 16 6 (tE b L s) 16 5 = s := by rw [zup_at, if_neg (by decide), zup_at, if_pos rfl]
  have e6 : zup (zup z 16 5 s) 16 6 (tE b L s) 16 6 = tE b L s := by rw [zup_at, if_pos rfl]
  have e31 : zup (zup z 16 5 s) 16 6 (tE b L s) 31 = z 31 := by rw [zup_ne (by decide), zup_ne (by decide)]
  generalize zup (zup z 16 5 s) 16 6 (tE b L s) = y at *
  have hy := TC_fr h f1
  have hnum := c_number hT hy e5 e6 (by omega)
  have hr := c_range (z := y) (w := w) (i := i) (v := tV b s (tE b L s)) hw (by omega)
  rw [hlo, hhi] at hr
  have i1 : inR (i + 1) := inR_s (by omega)
  have i3 : (0 : Int) ≤ i ∧ i < 3 := by omega
  by_cases g : isDg (b s) ∧ tE b L s - s ≤ 3
  · rw [if_pos g] at hnum
    obtain ⟨t1, t2, t3, t4⟩ := tE_ok hT (s := s) (by omega)
    have hs := in_L hT (p := s) (by omega)
    have hv := (tVC g.1 (tE b L s) (t3 hs.2) (by omega) (t4 g.1)).2
    have nv : ¬ tV b s (tE b L s) = -1 := by omega
    by_cases g2 : lo ≤ tV b s (tE b L s) ∧ tV b s (tE b L s) ≤ hi
    · rw [if_pos ⟨g.1, g.2, g2⟩]
      refine ⟨fun x hx => (by cases hx), fun v q hx => ?_⟩
      cases hx
      refine ⟨zup y 31 i (tV b s (tE b L s)), ?_, by rw [zup_ne (by decide)]; exact e6, by rw [zup_at, if_pos rfl], fun j hj => by rw [zup_at, if_neg hj, e31], CFm_tr f1 ⟨fun a _ u => zup_ne u, fun j _ _ => by rw [zup_ne (by decide)]⟩⟩
      simp only [fX3_readStatement_s26, zl, hn, Option.bind_some, if_pos hi'.2, if_pos i3.2, ht, hnum, if_neg nv, hr, ite_bI, if_pos g2, if_pos i3, if_pos i1]
    · rw [if_neg (fun x => g2 x.2.2)]
      refine ⟨fun x hx => ?_, fun v q hx => by cases hx⟩
      cases hx
      refine ⟨y, ?_, e5, f1⟩
      simp only [fX3_readStatement_s26, zl, hn, Option.bind_some, if_pos hi'.2, if_pos i3.2, ht, hnum, if_neg nv, hr, ite_bI, if_neg g2]
  · rw [if_neg g] at hnum
    rw [if_neg (fun x => g ⟨x.1, x.2.1⟩)]
    refine ⟨fun x hx => ?_, fun v q hx => by cases hx⟩
    cases hx
    refine ⟨y, ?_, e5, f1⟩
    simp only [fX3_readStatement_s26, zl, hn, Option.bind_some, if_pos hi'.2, if_pos i3.2, ht, hnum, if_true]
end NU

def rulesR (r : Row) (u v w : Int) : Row := rup (rup (rup r 0 u) 1 v) 2 w
def wallR (r : Row) (u v w : Int) : Row := rup (rup (rup (rup (rup r (5 + 4 * r 4 + 0) u) (5 + 4 * r 4 + 1) v) (5 + 4 * r 4 + 2) w) (5 + 4 * r 4 + 3) w) 4 (r 4 + 1)
def harnR (r : Row) (u v : Int) : Row := rup (rup (rup (rup (rup (rup r (471 + 5 * r 470 + 0) u) (471 + 5 * r 470 + 1) v) (471 + 5 * r 470 + 2) 0) (471 + 5 * r 470 + 3) 0) (471 + 5 * r 470 + 4) 0) 470 (r 470 + 1)
def membR (r : Row) (u v : Int) : Row := rup (rup (rup (rup (rup (rup (rup r (547 + 6 * r 546 + 0) u) (547 + 6 * r 546 + 1) v) (547 + 6 * r 546 + 2) 0) (547 + 6 * r 546 + 3) (-1)) (547 + 6 * r 546 + 4) (-1)) (547 + 6 * r 546 + 5) 0) 546 (r 546 + 1)
def courR (r : Row) (u v w : Int) : Row := rup (rup (rup (rup r (620 + 3 * r 619 + 0) u) (620 + 3 * r 619 + 1) v) (620 + 3 * r 619 + 2) w) 619 (r 619 + 1)
/-- what holds of a draft -/
def PR (r : Row) : Prop := IHn 20000 r ∧ (r 37 = 0 ∧ r 644 = 0 ∧ r 3 = 0) ∧
  (∀ k, 0 ≤ k → k < r 4 → (0 ≤ r (5 + 4 * k + 1) ∧ r (5 + 4 * k + 1) ≤ 5) ∧ (1 ≤ r (5 + 4 * k + 2) ∧ r (5 + 4 * k + 2) ≤ 60) ∧ (0 ≤ r (5 + 4 * k + 3) ∧ r (5 + 4 * k + 3) ≤ 60)) ∧
  (∀ k, 0 ≤ k → k < r 470 → (1 ≤ r (471 + 5 * k + 1) ∧ r (471 + 5 * k + 1) ≤ 365) ∧ r (471 + 5 * k + 2) = 0 ∧ r (471 + 5 * k + 3) = 0 ∧ r (471 + 5 * k + 4) = 0) ∧
  (∀ m, 0 ≤ m → m < r 546 → (0 ≤ r (547 + 6 * m + 1) ∧ r (547 + 6 * m + 1) ≤ 5) ∧ r (547 + 6 * m + 2) = 0 ∧ r (547 + 6 * m + 3) = -1 ∧ r (547 + 6 * m + 4) = -1 ∧ r (547 + 6 * m + 5) = 0) ∧
  (∀ k, 0 ≤ k → k < r 619 → (1 ≤ r (620 + 3 * k + 0) ∧ r (620 + 3 * k + 0) ≤ 5) ∧ (1 ≤ r (620 + 3 * k + 1) ∧ r (620 + 3 * k + 1) ≤ 12) ∧ (0 ≤ r (620 + 3 * k + 2) ∧ r (620 + 3 * k + 2) ≤ 200))
theorem PR_IH {r : Row} (h : PR r) : IH 20000 r := by
  obtain ⟨h1, h2, h3, h4, h5, h6⟩ := h
  have hn := h1
  unfold IHn at hn
  refine ⟨h1, fun k a c => ?_, fun k a c => by omega, fun k a c => ?_, fun m a c => ?_, h6⟩
  · have := h3 k a c
    exact ⟨this.1, this.2.1, by omega⟩
  · have := h4 k a c
    refine ⟨this.1, by omega, Or.inl this.2.2.1, Or.inl this.2.2.2, ⟨fun x => by omega, ?_⟩⟩
    rintro ⟨m, x, y, w⟩
    have := h5 m x y
    omega
  · have := h5 m a c
    exact ⟨this.1, by omega, by omega, by omega, by omega, fun m' x y _ _ => this.2.2.1⟩
def stm (b : Int → Int) (L p : Int) (r : Row) (h : Int) : Int ⊕ (Int × Row × Int) :=
  if wK b (tS b p) (tE b L (tS b p)) = 0 then (if h = 0 then (match n3 b L 0 40 0 10 1 200 (tE b L (tS b p)) with
    | .inl x => .inl x
    | .inr (u, v, w, q) => .inr (q, rulesR r u v w, 1)) else .inl (tS b p))
  else if wK b (tS b p) (tE b L (tS b p)) = 1 then (if r 4 < 8 then (match n3 b L 3 30 0 5 1 60 (tE b L (tS b p)) with
    | .inl x => .inl x
    | .inr (u, v, w, q) => .inr (q, wallR r u v w, h)) else .inl (tS b p))
  else if wK b (tS b p) (tE b L (tS b p)) = 2 then (if r 470 < 15 then (match n2 b L 0 3 1 365 (tE b L (tS b p)) with
    | .inl x => .inl x
    | .inr (u, v, q) => .inr (q, harnR r u v, h)) else .inl (tS b p))
  else if wK b (tS b p) (tE b L (tS b p)) = 3 then (if r 546 < 12 then (match n2 b L 0 3 0 5 (tE b L (tS b p)) with
    | .inl x => .inl x
    | .inr (u, v, q) => .inr (q, membR r u v, h)) else .inl (tS b p))
  else if wK b (tS b p) (tE b L (tS b p)) = 4 then (if r 619 < 8 then (match n3 b L 1 5 1 12 0 200 (tE b L (tS b p)) with
    | .inl x => .inl x
    | .inr (u, v, w, q) => .inr (q, courR r u v w, h)) else .inl (tS b p))
  else .inl (tS b p)
section PRs
variable {r : Row} {u v w : Int}
theorem PR_rules (h : PR r) (hu : 0 ≤ u ∧ u ≤ 40) (hv : 0 ≤ v ∧ v ≤ 10) (hw : 1 ≤ w ∧ w ≤ 200) : PR (rulesR r u v w) := by
  obtain ⟨h1, h2, h3, h4, h5, h6⟩ := h
  have hn := h1
  unfold IHn at hn
  have eX : ∀ i, 3 ≤ i → rulesR r u v w i = r i := fun i hi => by
    unfold rulesR
    rw [rup_ne (by omega), rup_ne (by omega), rup_ne (by omega)]
  have e0 : rulesR r u v w 0 = u := by
    unfold rulesR
    rw [rup_ne (by omega), rup_ne (by omega), rup_at, if_pos rfl]
  have e1 : rulesR r u v w 1 = v := by
    unfold rulesR
    rw [rup_ne (by omega), rup_at, if_pos rfl]
  have e2 : rulesR r u v w 2 = w := by
    unfold rulesR
    rw [rup_at, if_pos rfl]
  refine ⟨?_, ?_, fun k a c => ?_, fun k a c => ?_, fun k a c => ?_, fun k a c => ?_⟩
  · unfold IHn
    rw [e0, e1, e2, eX 3 (by omega), eX 4 (by omega), eX 37 (by omega), eX 470 (by omega), eX 546 (by omega), eX 619 (by omega), eX 644 (by omega)]
    omega
  · rw [eX 3 (by omega), eX 37 (by omega), eX 644 (by omega)]
    exact h2
  · rw [eX 4 (by omega)] at c
    rw [eX _ (by omega), eX _ (by omega), eX _ (by omega)]
    exact h3 k a c
  · rw [eX 470 (by omega)] at c
    rw [eX _ (by omega), eX _ (by omega), eX _ (by omega), eX _ (by omega)]
    exact h4 k a c
  · rw [eX 546 (by omega)] at c
    rw [eX _ (by omega), eX _ (by omega), eX _ (by omega), eX _ (by omega), eX _ (by omega)]
    exact h5 k a c
  · rw [eX 619 (by omega)] at c
    rw [eX _ (by omega), eX _ (by omega), eX _ (by omega)]
    exact h6 k a c
theorem wallR_o {i : Int} (h4 : i ≠ 4) (h : ¬ (5 + 4 * r 4 ≤ i ∧ i < 9 + 4 * r 4)) : wallR r u v w i = r i := by
  unfold wallR
  rw [rup_ne h4, rup_ne (by omega), rup_ne (by omega), rup_ne (by omega), rup_ne (by omega)]
theorem wallR_n (h0 : 0 ≤ r 4) : wallR r u v w 4 = r 4 + 1 ∧ wallR r u v w (5 + 4 * r 4 + 0) = u ∧ wallR r u v w (5 + 4 * r 4 + 1) = v ∧ wallR r u v w (5 + 4 * r 4 + 2) = w ∧ wallR r u v w (5 + 4 * r 4 + 3) = w := by
  unfold wallR
  refine ⟨by rw [rup_at, if_pos rfl], ?_, ?_, ?_, ?_⟩
  · rw [rup_ne (by omega), rup_ne (by omega), rup_ne (by omega), rup_ne (by omega), rup_at, if_pos rfl]
  · rw [rup_ne (by omega), rup_ne (by omega), rup_ne (by omega), rup_at, if_pos rfl]
  · rw [rup_ne (by omega), rup_ne (by omega), rup_at, if_pos rfl]
  · rw [rup_ne (by omega), rup_at, if_pos rfl]
theorem PR_wall (h : PR r) (h8 : r 4 < 8) (hv : 0 ≤ v ∧ v ≤ 5) (hw : 1 ≤ w ∧ w ≤ 60) : PR (wallR r u v w) := by
  obtain ⟨h1, h2, h3, h4, h5, h6⟩ := h
  have hn := h1
  unfold IHn at hn
  obtain ⟨n4, m0, m1, m2, m3⟩ := wallR_n (r := r) (u := u) (v := v) (w := w) hn.1
  have eX : ∀ i, i < 4 ∨ 37 ≤ i → wallR r u v w i = r i := fun i hi => wallR_o (by omega) (by omega)
  refine ⟨?_, ?_, fun k a c => ?_, fun k a c => ?_, fun k a c => ?_, fun k a c => ?_⟩
  · unfold IHn
    rw [n4, eX 0 (by omega), eX 1 (by omega), eX 2 (by omega), eX 3 (by omega), eX 37 (by omega), eX 470 (by omega), eX 546 (by omega), eX 619 (by omega), eX 644 (by omega)]
    omega
  · rw [eX 3 (by omega), eX 37 (by omega), eX 644 (by omega)]
    exact h2
  · rw [n4] at c
    by_cases e : k = r 4
    · rw [e, m1, m2, m3]
      omega
    · rw [wallR_o (by omega) (by omega), wallR_o (by omega) (by omega), wallR_o (by omega) (by omega)]
      exact h3 k a (by omega)
  · rw [eX 470 (by omega)] at c
    rw [eX _ (by omega), eX _ (by omega), eX _ (by omega), eX _ (by omega)]
    exact h4 k a c
  · rw [eX 546 (by omega)] at c
    rw [eX _ (by omega), eX _ (by omega), eX _ (by omega), eX _ (by omega), eX _ (by omega)]
    exact h5 k a c
  · rw [eX 619 (by omega)] at c
    rw [eX _ (by omega), eX _ (by omega), eX _ (by omega)]
    exact h6 k a c
theorem harnR_o {i : Int} (h4 : i ≠ 470) (h : ¬ (471 + 5 * r 470 ≤ i ∧ i < 476 + 5 * r 470)) : harnR r u v i = r i := by
  unfold harnR
  rw [rup_ne h4, rup_ne (by omega), rup_ne (by omega), rup_ne (by omega), rup_ne (by omega), rup_ne (by omega)]
theorem harnR_n (h0 : 0 ≤ r 470) : harnR r u v 470 = r 470 + 1 ∧ harnR r u v (471 + 5 * r 470 + 0) = u ∧ harnR r u v (471 + 5 * r 470 + 1) = v ∧ harnR r u v (471 + 5 * r 470 + 2) = 0 ∧ harnR r u v (471 + 5 * r 470 + 3) = 0 ∧ harnR r u v (471 + 5 * r 470 + 4) = 0 := by
  unfold harnR
  refine ⟨by rw [rup_at, if_pos rfl], ?_, ?_, ?_, ?_, ?_⟩
  · rw [rup_ne (by omega), rup_ne (by omega), rup_ne (by omega), rup_ne (by omega), rup_ne (by omega), rup_at, if_pos rfl]
  · rw [rup_ne (by omega), rup_ne (by omega), rup_ne (by omega), rup_ne (by omega), rup_at, if_pos rfl]
  · rw [rup_ne (by omega), rup_ne (by omega), rup_ne (by omega), rup_at, if_pos rfl]
  · rw [rup_ne (by omega), rup_ne (by omega), rup_at, if_pos rfl]
  · rw [rup_ne (by omega), rup_at, if_pos rfl]
theorem PR_harn (h : PR r) (h8 : r 470 < 15) (hv : 1 ≤ v ∧ v ≤ 365) : PR (harnR r u v) := by
  obtain ⟨h1, h2, h3, h4, h5, h6⟩ := h
  have hn := h1
  unfold IHn at hn
  obtain ⟨n4, m0, m1, m2, m3, m4⟩ := harnR_n (r := r) (u := u) (v := v) hn.2.2.2.2.1
  have eX : ∀ i, i < 470 ∨ 546 ≤ i → harnR r u v i = r i := fun i hi => harnR_o (by omega) (by omega)
  refine ⟨?_, ?_, fun k a c => ?_, fun k a c => ?_, fun k a c => ?_, fun k a c => ?_⟩
  · unfold IHn
    rw [n4, eX 0 (by omega), eX 1 (by omega), eX 2 (by omega), eX 3 (by omega), eX 4 (by omega), eX 37 (by omega), eX 546 (by omega), eX 619 (by omega), eX 644 (by omega)]
    omega
  · rw [eX 3 (by omega), eX 37 (by omega), eX 644 (by omega)]
    exact h2
  · rw [eX 4 (by omega)] at c
    rw [eX _ (by omega), eX _ (by omega), eX _ (by omega)]
    exact h3 k a c
  · rw [n4] at c
    by_cases e : k = r 470
    · rw [e, m1, m2, m3, m4]
      omega
    · rw [harnR_o (by omega) (by omega), harnR_o (by omega) (by omega), harnR_o (by omega) (by omega), harnR_o (by omega) (by omega)]
      exact h4 k a (by omega)
  · rw [eX 546 (by omega)] at c
    rw [eX _ (by omega), eX _ (by omega), eX _ (by omega), eX _ (by omega), eX _ (by omega)]
    exact h5 k a c
  · rw [eX 619 (by omega)] at c
    rw [eX _ (by omega), eX _ (by omega), eX _ (by omega)]
    exact h6 k a c
theorem membR_o {i : Int} (h4 : i ≠ 546) (h : ¬ (547 + 6 * r 546 ≤ i ∧ i < 553 + 6 * r 546)) : membR r u v i = r i := by
  unfold membR
  rw [rup_ne h4, rup_ne (by omega), rup_ne (by omega), rup_ne (by omega), rup_ne (by omega), rup_ne (by omega), rup_ne (by omega)]
theorem membR_n (h0 : 0 ≤ r 546) : membR r u v 546 = r 546 + 1 ∧ membR r u v (547 + 6 * r 546 + 0) = u ∧ membR r u v (547 + 6 * r 546 + 1) = v ∧ membR r u v (547 + 6 * r 546 + 2) = 0 ∧ membR r u v (547 + 6 * r 546 + 3) = -1 ∧ membR r u v (547 + 6 * r 546 + 4) = -1 ∧ membR r u v (547 + 6 * r 546 + 5) = 0 := by
  unfold membR
  refine ⟨by rw [rup_at, if_pos rfl], ?_, ?_, ?_, ?_, ?_, ?_⟩
  · rw [rup_ne (by omega), rup_ne (by omega), rup_ne (by omega), rup_ne (by omega), rup_ne (by omega), rup_ne (by omega), rup_at, if_pos rfl]
  · rw [rup_ne (by omega), rup_ne (by omega), rup_ne (by omega), rup_ne (by omega), rup_ne (by omega), rup_at, if_pos rfl]
  · rw [rup_ne (by omega), rup_ne (by omega), rup_ne (by omega), rup_ne (by omega), rup_at, if_pos rfl]
  · rw [rup_ne (by omega), rup_ne (by omega), rup_ne (by omega), rup_at, if_pos rfl]
  · rw [rup_ne (by omega), rup_ne (by omega), rup_at, if_pos rfl]
  · rw [rup_ne (by omega), rup_at, if_pos rfl]
theorem PR_memb (h : PR r) (h8 : r 546 < 12) (hv : 0 ≤ v ∧ v ≤ 5) : PR (membR r u v) := by
  obtain ⟨h1, h2, h3, h4, h5, h6⟩ := h
  have hn := h1
  unfold IHn at hn
  obtain ⟨n4, m0, m1, m2, m3, m4, m5⟩ := membR_n (r := r) (u := u) (v := v) hn.2.2.2.2.2.2.1
  have eX : ∀ i, i < 546 ∨ 619 ≤ i → membR r u v i = r i := fun i hi => membR_o (by omega) (by omega)
  refine ⟨?_, ?_, fun k a c => ?_, fun k a c => ?_, fun k a c => ?_, fun k a c => ?_⟩
  · unfold IHn
    rw [n4, eX 0 (by omega), eX 1 (by omega), eX 2 (by omega), eX 3 (by omega), eX 4 (by omega), eX 37 (by omega), eX 470 (by omega), eX 619 (by omega), eX 644 (by omega)]
    omega
  · rw [eX 3 (by omega), eX 37 (by omega), eX 644 (by omega)]
    exact h2
  · rw [eX 4 (by omega)] at c
    rw [eX _ (by omega), eX _ (by omega), eX _ (by omega)]
    exact h3 k a c
  · rw [eX 470 (by omega)] at c
    rw [eX _ (by omega), eX _ (by omega), eX _ (by omega), eX _ (by omega)]
    exact h4 k a c
  · rw [n4] at c
    by_cases e : k = r 546
    · rw [e, m1, m2, m3, m4, m5]
      omega
    · rw [membR_o (by omega) (by omega), membR_o (by omega) (by omega), membR_o (by omega) (by omega), membR_o (by omega) (by omega), membR_o (by omega) (by omega)]
      exact h5 k a (by omega)
  · rw [eX 619 (by omega)] at c
    rw [eX _ (by omega), eX _ (by omega), eX _ (by omega)]
    exact h6 k a c
theorem courR_o {i : Int} (h4 : i ≠ 619) (h : ¬ (620 + 3 * r 619 ≤ i ∧ i < 623 + 3 * r 619)) : courR r u v w i = r i := by
  unfold courR
  rw [rup_ne h4, rup_ne (by omega), rup_ne (by omega), rup_ne (by omega)]
theorem courR_n (h0 : 0 ≤ r 619) : courR r u v w 619 = r 619 + 1 ∧ courR r u v w (620 + 3 * r 619 + 0) = u ∧ courR r u v w (620 + 3 * r 619 + 1) = v ∧ courR r u v w (620 + 3 * r 619 + 2) = w := by
  unfold courR
  refine ⟨by rw [rup_at, if_pos rfl], ?_, ?_, ?_⟩
  · rw [rup_ne (by omega), rup_ne (by omega), rup_ne (by omega), rup_at, if_pos rfl]
  · rw [rup_ne (by omega), rup_ne (by omega), rup_at, if_pos rfl]
  · rw [rup_ne (by omega), rup_at, if_pos rfl]
theorem PR_cour (h : PR r) (h8 : r 619 < 8) (hu : 1 ≤ u ∧ u ≤ 5) (hv : 1 ≤ v ∧ v ≤ 12) (hw : 0 ≤ w ∧ w ≤ 200) : PR (courR r u v w) := by
  obtain ⟨h1, h2, h3, h4, h5, h6⟩ := h
  have hn := h1
  unfold IHn at hn
  obtain ⟨n4, m0, m1, m2⟩ := courR_n (r := r) (u := u) (v := v) (w := w) (by omega)
  have eX : ∀ i, i < 619 ∨ 644 ≤ i → courR r u v w i = r i := fun i hi => courR_o (by omega) (by omega)
  refine ⟨?_, ?_, fun k a c => ?_, fun k a c => ?_, fun k a c => ?_, fun k a c => ?_⟩
  · unfold IHn
    rw [n4, eX 0 (by omega), eX 1 (by omega), eX 2 (by omega), eX 3 (by omega), eX 4 (by omega), eX 37 (by omega), eX 470 (by omega), eX 546 (by omega), eX 644 (by omega)]
    omega
  · rw [eX 3 (by omega), eX 37 (by omega), eX 644 (by omega)]
    exact h2
  · rw [eX 4 (by omega)] at c
    rw [eX _ (by omega), eX _ (by omega), eX _ (by omega)]
    exact h3 k a c
  · rw [eX 470 (by omega)] at c
    rw [eX _ (by omega), eX _ (by omega), eX _ (by omega), eX _ (by omega)]
    exact h4 k a c
  · rw [eX 546 (by omega)] at c
    rw [eX _ (by omega), eX _ (by omega), eX _ (by omega), eX _ (by omega), eX _ (by omega)]
    exact h5 k a c
  · rw [n4] at c
    by_cases e : k = r 619
    · rw [e, m0, m1, m2]
      omega
    · rw [courR_o (by omega) (by omega), courR_o (by omega) (by omega), courR_o (by omega) (by omega)]
      exact h6 k a (by omega)
end PRs
theorem TL_add {z z' : ZZ} {t : Nat} {r r' : Row} {n b s : Int} (h : TL z t r n b s) (e0 : z' t 3 = z t 3 + 1) (e1 : r' n = r n + 1) (e2 : ∀ j, 0 ≤ j → j < s * r n → z' (t + 1) j = z (t + 1) j) (e3 : ∀ j, 0 ≤ j → j < s * r n → r' (b + j) = r (b + j)) (e4 : ∀ c, 0 ≤ c → c < s → z' (t + 1) (s * r n + c) = r' (b + s * r n + c)) : TL z' t r' n b s := by
  refine ⟨by rw [e0, e1, h.1], fun j a c => ?_⟩
  rw [e1, Int.mul_add, Int.mul_one] at c
  by_cases q : j < s * r n
  · rw [e2 j a q, e3 j a q]
    exact h.2 j a q
  · have := e4 (j - s * r n) (by omega) (by omega)
    rw [show s * r n + (j - s * r n) = j by omega, show b + s * r n + (j - s * r n) = b + j by omega] at this
    exact this
section DR
variable {z : ZZ} {r : Row} {u v w : Int}
theorem D_rules (hR : RH z 17 r) (hP : PR r) : ∃ z', fX1_setRules 17 u v w z = some z' ∧ RH z' 17 (rulesR r u v w) ∧ ∀ a, a ≠ 17 → z' a = z a := by
  have hn := hP.1
  unfold IHn at hn
  obtain ⟨h1, h2, h3, h4, h5, h6, h7, h8, h9, h10⟩ := hR
  have eX : ∀ i, 3 ≤ i → rulesR r u v w i = r i := fun i hi => by
    unfold rulesR
    rw [rup_ne (by omega), rup_ne (by omega), rup_ne (by omega)]
  have k : ∀ a, a ≠ 17 → zup (zup (zup z 17 8 u) 17 9 v) 17 10 w a = z a := fun a p => by rw [zup_ne p, zup_ne p, zup_ne p]
  refine ⟨_, rfl, ⟨TL_k h1 (k _ (by decide)) (k _ (by decide)) (eX _ (by omega)) (fun j a b => eX _ (by omega)), TL_k h2 (k _ (by decide)) (k _ (by decide)) (eX _ (by omega)) (fun j a b => eX _ (by omega)), TL_k h3 (k _ (by decide)) (k _ (by decide)) (eX _ (by omega)) (fun j a b => eX _ (by omega)), TH_k h4 (k _ (by decide)) (k _ (by decide)) (eX _ (by omega)) (fun j a b => eX _ (by omega)), TL_k h5 (k _ (by decide)) (k _ (by decide)) (eX _ (by omega)) (fun j a b => eX _ (by omega)), TL_k h6 (k _ (by decide)) (k _ (by decide)) (eX _ (by omega)) (fun j a b => eX _ (by omega)), ?_, ?_, ?_, ?_⟩, k⟩
  · rw [eX 3 (by omega), zup_at, if_neg (by decide), zup_at, if_neg (by decide), zup_at, if_neg (by decide)]
    exact h7
  · rw [zup_at, if_neg (by decide), zup_at, if_neg (by decide), zup_at, if_pos rfl]
    unfold rulesR
    rw [rup_ne (by omega), rup_ne (by omega), rup_at, if_pos rfl]
  · rw [zup_at, if_neg (by decide), zup_at, if_pos rfl]
    unfold rulesR
    rw [rup_ne (by omega), rup_at, if_pos rfl]
  · rw [zup_at, if_pos rfl]
    unfold rulesR
    rw [rup_at, if_pos rfl]
theorem D_wall (hR : RH z 17 r) (hP : PR r) (h8 : r 4 < 8) : ∃ z', fX1_addWall 17 u v w z = some z' ∧ RH z' 17 (wallR r u v w) ∧ ∀ a, a ≠ 18 → a ≠ 19 → z' a = z a := by
  have hn := hP.1
  unfold IHn at hn
  obtain ⟨h1, h2, h3, h4, h5, h6, h7⟩ := hR
  have n18 : z 18 3 = r 4 := h1.1
  obtain ⟨x, ex, x1, x2, x3⟩ := c_addRow (z := z) kT18 (by rw [n18]; exact ⟨hn.1, h8⟩)
  rw [n18] at ex x1 x2
  have x2' : ∀ j, x 19 j = if r 4 * 4 ≤ j ∧ j < r 4 * 4 + 4 then 0 else z 19 j := x2
  have st : ∀ (y : ZZ) (c a : Int), y 18 3 = r 4 + 1 → 0 ≤ c ∧ c < 4 → fX4_set 18 (r 4) c a y = some (zup y 19 (r 4 * 4 + c) a) := fun y c a hy hc => set_ok kT18 (by rw [hy]; omega) (by rw [hy]; show r 4 + 1 ≤ 8; omega) (show 0 ≤ c ∧ c < 4 from hc)
  have t0 := st x 0 u x1 (by omega)
  have t1 := st (zup x 19 (r 4 * 4 + 0) u) 1 v (by rw [zup_ne (by decide)]; exact x1) (by omega)
  have t2 := st (zup (zup x 19 (r 4 * 4 + 0) u) 19 (r 4 * 4 + 1) v) 2 w (by rw [zup_ne (by decide), zup_ne (by decide)]; exact x1) (by omega)
  have t3 := st (zup (zup (zup x 19 (r 4 * 4 + 0) u) 19 (r 4 * 4 + 1) v) 19 (r 4 * 4 + 2) w) 3 w (by rw [zup_ne (by decide), zup_ne (by decide), zup_ne (by decide)]; exact x1) (by omega)
  generalize hy : zup (zup (zup (zup x 19 (r 4 * 4 + 0) u) 19 (r 4 * 4 + 1) v) 19 (r 4 * 4 + 2) w) 19 (r 4 * 4 + 3) w = y at t3
  have yo : ∀ a, a ≠ 18 → a ≠ 19 → y a = z a := fun a p q => by rw [← hy, zup_ne q, zup_ne q, zup_ne q, zup_ne q, x3 a p q]
  have y18 : y 18 3 = r 4 + 1 := by rw [← hy, zup_ne (by decide), zup_ne (by decide), zup_ne (by decide), zup_ne (by decide), x1]
  have y19 : ∀ j, y 19 j = if j = r 4 * 4 + 3 then w else if j = r 4 * 4 + 2 then w else if j = r 4 * 4 + 1 then v else if j = r 4 * 4 + 0 then u else if r 4 * 4 ≤ j ∧ j < r 4 * 4 + 4 then 0 else z 19 j := fun j => by rw [← hy, zup_at, zup_at, zup_at, zup_at, x2']
  obtain ⟨n4, m0, m1, m2, m3⟩ := wallR_n (r := r) (u := u) (v := v) (w := w) hn.1
  have eX : ∀ i, i < 4 ∨ 37 ≤ i → wallR r u v w i = r i := fun i hi => wallR_o (by omega) (by omega)
  refine ⟨y, ?_, ⟨TL_add h1 (by rw [n18]; exact y18) n4 (fun j a c => ?_) (fun j a c => wallR_o (by omega) (by omega)) (fun c a d => ?_), TL_k h2 (yo _ (by decide) (by decide)) (yo _ (by decide) (by decide)) (eX _ (by omega)) (fun j a c => eX _ (by omega)), TL_k h3 (yo _ (by decide) (by decide)) (yo _ (by decide) (by decide)) (eX _ (by omega)) (fun j a c => eX _ (by omega)), TH_k h4 (yo _ (by decide) (by decide)) (yo _ (by decide) (by decide)) (eX _ (by omega)) (fun j a c => eX _ (by omega)), TL_k h5 (yo _ (by decide) (by decide)) (yo _ (by decide) (by decide)) (eX _ (by omega)) (fun j a c => eX _ (by omega)), TL_k h6 (yo _ (by decide) (by decide)) (yo _ (by decide) (by decide)) (eX _ (by omega)) (fun j a c => eX _ (by omega)), ?_⟩, yo⟩
  · simp only [fX1_addWall, ex, Option.bind_some, t0, t1, t2, t3]
  · show y 19 j = z 19 j
    rw [y19, if_neg (by omega), if_neg (by omega), if_neg (by omega), if_neg (by omega), if_neg (by omega)]
  · show y 19 _ = _
    rw [y19]
    by_cases c3 : c = 3
    · subst c3; rw [if_pos (by omega), m3]
    · rw [if_neg (by omega)]
      by_cases c2 : c = 2
      · subst c2; rw [if_pos (by omega), m2]
      · rw [if_neg (by omega)]
        by_cases c1 : c = 1
        · subst c1; rw [if_pos (by omega), m1]
        · have c0 : c = 0 := by omega
          subst c0
          rw [if_neg (by omega), if_pos (by omega), m0]
  · rw [yo 17 (by decide) (by decide), eX 3 (by omega), eX 0 (by omega), eX 1 (by omega), eX 2 (by omega)]
    exact h7
theorem D_cour (hR : RH z 17 r) (hP : PR r) (h8 : r 619 < 8) : ∃ z', fX1_addCourse 17 u v w z = some z' ∧ RH z' 17 (courR r u v w) ∧ ∀ a, a ≠ 28 → a ≠ 29 → z' a = z a := by
  have hn := hP.1
  unfold IHn at hn
  obtain ⟨h1, h2, h3, h4, h5, h6, h7⟩ := hR
  have n18 : z 28 3 = r 619 := h6.1
  obtain ⟨x, ex, x1, x2, x3⟩ := c_addRow (z := z) kT28 (by rw [n18]; exact ⟨by omega, h8⟩)
  rw [n18] at ex x1 x2
  have x2' : ∀ j, x 29 j = if r 619 * 3 ≤ j ∧ j < r 619 * 3 + 3 then 0 else z 29 j := x2
  have st : ∀ (y : ZZ) (c a : Int), y 28 3 = r 619 + 1 → 0 ≤ c ∧ c < 3 → fX4_set 28 (r 619) c a y = some (zup y 29 (r 619 * 3 + c) a) := fun y c a hy hc => set_ok kT28 (by rw [hy]; omega) (by rw [hy]; show r 619 + 1 ≤ 8; omega) (show 0 ≤ c ∧ c < 3 from hc)
  have t0 := st x 0 u x1 (by omega)
  have t1 := st (zup x 29 (r 619 * 3 + 0) u) 1 v (by rw [zup_ne (by decide)]; exact x1) (by omega)
  have t2 := st (zup (zup x 29 (r 619 * 3 + 0) u) 29 (r 619 * 3 + 1) v) 2 w (by rw [zup_ne (by decide), zup_ne (by decide)]; exact x1) (by omega)
  generalize hy : zup (zup (zup x 29 (r 619 * 3 + 0) u) 29 (r 619 * 3 + 1) v) 29 (r 619 * 3 + 2) w = y at t2
  have yo : ∀ a, a ≠ 28 → a ≠ 29 → y a = z a := fun a p q => by rw [← hy, zup_ne q, zup_ne q, zup_ne q, x3 a p q]
  have y18 : y 28 3 = r 619 + 1 := by rw [← hy, zup_ne (by decide), zup_ne (by decide), zup_ne (by decide), x1]
  have y19 : ∀ j, y 29 j = if j = r 619 * 3 + 2 then w else if j = r 619 * 3 + 1 then v else if j = r 619 * 3 + 0 then u else if r 619 * 3 ≤ j ∧ j < r 619 * 3 + 3 then 0 else z 29 j := fun j => by rw [← hy, zup_at, zup_at, zup_at, x2']
  obtain ⟨n4, m0, m1, m2⟩ := courR_n (r := r) (u := u) (v := v) (w := w) (by omega)
  have eX : ∀ i, i < 619 ∨ 644 ≤ i → courR r u v w i = r i := fun i hi => courR_o (by omega) (by omega)
  refine ⟨y, ?_, ⟨TL_k h1 (yo _ (by decide) (by decide)) (yo _ (by decide) (by decide)) (eX _ (by omega)) (fun j a c => eX _ (by omega)), TL_k h2 (yo _ (by decide) (by decide)) (yo _ (by decide) (by decide)) (eX _ (by omega)) (fun j a c => eX _ (by omega)), TL_k h3 (yo _ (by decide) (by decide)) (yo _ (by decide) (by decide)) (eX _ (by omega)) (fun j a c => eX _ (by omega)), TH_k h4 (yo _ (by decide) (by decide)) (yo _ (by decide) (by decide)) (eX _ (by omega)) (fun j a c => eX _ (by omega)), TL_k h5 (yo _ (by decide) (by decide)) (yo _ (by decide) (by decide)) (eX _ (by omega)) (fun j a c => eX _ (by omega)), TL_add h6 (by rw [n18]; exact y18) n4 (fun j a c => ?_) (fun j a c => courR_o (by omega) (by omega)) (fun c a d => ?_), ?_⟩, yo⟩
  · simp only [fX1_addCourse, ex, Option.bind_some, t0, t1, t2]
  · show y 29 j = z 29 j
    rw [y19, if_neg (by omega), if_neg (by omega), if_neg (by omega), if_neg (by omega)]
  · show y 29 _ = _
    rw [y19]
    by_cases c2 : c = 2
    · subst c2; rw [if_pos (by omega), m2]
    · rw [if_neg (by omega)]
      by_cases c1 : c = 1
      · subst c1; rw [if_pos (by omega), m1]
      · have c0 : c = 0 := by omega
        subst c0
        rw [if_neg (by omega), if_pos (by omega), m0]
  · rw [yo 17 (by decide) (by decide), eX 3 (by omega), eX 0 (by omega), eX 1 (by omega), eX 2 (by omega)]
    exact h7
theorem D_memb (hR : RH z 17 r) (hP : PR r) (h8 : r 546 < 12) : ∃ z', fX1_addMember 17 u v z = some z' ∧ RH z' 17 (membR r u v) ∧ ∀ a, a ≠ 26 → a ≠ 27 → z' a = z a := by
  have hn := hP.1
  unfold IHn at hn
  obtain ⟨h1, h2, h3, h4, h5, h6, h7⟩ := hR
  have n18 : z 26 3 = r 546 := h5.1
  obtain ⟨x, ex, x1, x2, x3⟩ := c_addRow (z := z) kT26 (by rw [n18]; exact ⟨by omega, h8⟩)
  rw [n18] at ex x1 x2
  have x2' : ∀ j, x 27 j = if r 546 * 6 ≤ j ∧ j < r 546 * 6 + 6 then 0 else z 27 j := x2
  have st : ∀ (y : ZZ) (c a : Int), y 26 3 = r 546 + 1 → 0 ≤ c ∧ c < 6 → fX4_set 26 (r 546) c a y = some (zup y 27 (r 546 * 6 + c) a) := fun y c a hy hc => set_ok kT26 (by rw [hy]; omega) (by rw [hy]; show r 546 + 1 ≤ 12; omega) (show 0 ≤ c ∧ c < 6 from hc)
  have t0 := st x 0 u x1 (by omega)
  have t1 := st (zup x 27 (r 546 * 6 + 0) u) 1 v (by rw [zup_ne (by decide)]; exact x1) (by omega)
  have t2 := st (zup (zup x 27 (r 546 * 6 + 0) u) 27 (r 546 * 6 + 1) v) 3 (-1) (by rw [zup_ne (by decide), zup_ne (by decide)]; exact x1) (by omega)
  have t3 := st (zup (zup (zup x 27 (r 546 * 6 + 0) u) 27 (r 546 * 6 + 1) v) 27 (r 546 * 6 + 3) (-1)) 4 (-1) (by rw [zup_ne (by decide), zup_ne (by decide), zup_ne (by decide)]; exact x1) (by omega)
  generalize hy : zup (zup (zup (zup x 27 (r 546 * 6 + 0) u) 27 (r 546 * 6 + 1) v) 27 (r 546 * 6 + 3) (-1)) 27 (r 546 * 6 + 4) (-1) = y at t3
  have yo : ∀ a, a ≠ 26 → a ≠ 27 → y a = z a := fun a p q => by rw [← hy, zup_ne q, zup_ne q, zup_ne q, zup_ne q, x3 a p q]
  have y18 : y 26 3 = r 546 + 1 := by rw [← hy, zup_ne (by decide), zup_ne (by decide), zup_ne (by decide), zup_ne (by decide), x1]
  have y19 : ∀ j, y 27 j = if j = r 546 * 6 + 4 then -1 else if j = r 546 * 6 + 3 then -1 else if j = r 546 * 6 + 1 then v else if j = r 546 * 6 + 0 then u else if r 546 * 6 ≤ j ∧ j < r 546 * 6 + 6 then 0 else z 27 j := fun j => by rw [← hy, zup_at, zup_at, zup_at, zup_at, x2']
  obtain ⟨n4, m0, m1, m2, m3, m4, m5⟩ := membR_n (r := r) (u := u) (v := v) (by omega)
  have eX : ∀ i, i < 546 ∨ 619 ≤ i → membR r u v i = r i := fun i hi => membR_o (by omega) (by omega)
  refine ⟨y, ?_, ⟨TL_k h1 (yo _ (by decide) (by decide)) (yo _ (by decide) (by decide)) (eX _ (by omega)) (fun j a c => eX _ (by omega)), TL_k h2 (yo _ (by decide) (by decide)) (yo _ (by decide) (by decide)) (eX _ (by omega)) (fun j a c => eX _ (by omega)), TL_k h3 (yo _ (by decide) (by decide)) (yo _ (by decide) (by decide)) (eX _ (by omega)) (fun j a c => eX _ (by omega)), TH_k h4 (yo _ (by decide) (by decide)) (yo _ (by decide) (by decide)) (eX _ (by omega)) (fun j a c => eX _ (by omega)), TL_add h5 (by rw [n18]; exact y18) n4 (fun j a c => ?_) (fun j a c => membR_o (by omega) (by omega)) (fun c a d => ?_), TL_k h6 (yo _ (by decide) (by decide)) (yo _ (by decide) (by decide)) (eX _ (by omega)) (fun j a c => eX _ (by omega)), ?_⟩, yo⟩
  · simp only [fX1_addMember, ex, Option.bind_some, t0, t1, t2, t3]
  · show y 27 j = z 27 j
    rw [y19, if_neg (by omega), if_neg (by omega), if_neg (by omega), if_neg (by omega), if_neg (by omega)]
  · show y 27 _ = _
    rw [y19]
    by_cases c4 : c = 4
    · subst c4; rw [if_pos (by omega), m4]
    · rw [if_neg (by omega)]
      by_cases c3 : c = 3
      · subst c3; rw [if_pos (by omega), m3]
      · rw [if_neg (by omega)]
        by_cases c1 : c = 1
        · subst c1; rw [if_pos (by omega), m1]
        · rw [if_neg (by omega)]
          by_cases c0 : c = 0
          · subst c0; rw [if_pos (by omega), m0]
          · rw [if_neg (by omega), if_pos (by omega)]
            by_cases c2 : c = 2
            · subst c2; rw [m2]
            · have c5 : c = 5 := by omega
              subst c5
              rw [m5]
  · rw [yo 17 (by decide) (by decide), eX 3 (by omega), eX 0 (by omega), eX 1 (by omega), eX 2 (by omega)]
    exact h7
theorem D_harn (hR : RH z 17 r) (hP : PR r) (h8 : r 470 < 15) : ∃ z', fX1_addHarness 17 u v z = some z' ∧ RH z' 17 (harnR r u v) ∧ ∀ a, a ≠ 24 → a ≠ 25 → z' a = z a := by
  have hn := hP.1
  unfold IHn at hn
  obtain ⟨h1, h2, h3, h4, h5, h6, h7⟩ := hR
  have n18 : z 24 3 = r 470 := h4.1
  obtain ⟨x, ex, x1, x2, x3⟩ := c_addRow (z := z) kT24 (by rw [n18]; exact ⟨by omega, h8⟩)
  rw [n18] at ex x1 x2
  have x2' : ∀ j, x 25 j = if r 470 * 4 ≤ j ∧ j < r 470 * 4 + 4 then 0 else z 25 j := x2
  have st : ∀ (y : ZZ) (c a : Int), y 24 3 = r 470 + 1 → 0 ≤ c ∧ c < 4 → fX4_set 24 (r 470) c a y = some (zup y 25 (r 470 * 4 + c) a) := fun y c a hy hc => set_ok kT24 (by rw [hy]; omega) (by rw [hy]; show r 470 + 1 ≤ 15; omega) (show 0 ≤ c ∧ c < 4 from hc)
  have t0 := st x 0 u x1 (by omega)
  have t1 := st (zup x 25 (r 470 * 4 + 0) u) 1 v (by rw [zup_ne (by decide)]; exact x1) (by omega)
  generalize hy : zup (zup x 25 (r 470 * 4 + 0) u) 25 (r 470 * 4 + 1) v = y at t1
  have yo : ∀ a, a ≠ 24 → a ≠ 25 → y a = z a := fun a p q => by rw [← hy, zup_ne q, zup_ne q, x3 a p q]
  have y18 : y 24 3 = r 470 + 1 := by rw [← hy, zup_ne (by decide), zup_ne (by decide), x1]
  have y19 : ∀ j, y 25 j = if j = r 470 * 4 + 1 then v else if j = r 470 * 4 + 0 then u else if r 470 * 4 ≤ j ∧ j < r 470 * 4 + 4 then 0 else z 25 j := fun j => by rw [← hy, zup_at, zup_at, x2']
  obtain ⟨n4, m0, m1, m2, m3, m4⟩ := harnR_n (r := r) (u := u) (v := v) (by omega)
  have eX : ∀ i, i < 470 ∨ 546 ≤ i → harnR r u v i = r i := fun i hi => harnR_o (by omega) (by omega)
  refine ⟨y, ?_, ⟨TL_k h1 (yo _ (by decide) (by decide)) (yo _ (by decide) (by decide)) (eX _ (by omega)) (fun j a c => eX _ (by omega)), TL_k h2 (yo _ (by decide) (by decide)) (yo _ (by decide) (by decide)) (eX _ (by omega)) (fun j a c => eX _ (by omega)), TL_k h3 (yo _ (by decide) (by decide)) (yo _ (by decide) (by decide)) (eX _ (by omega)) (fun j a c => eX _ (by omega)), ⟨by rw [n4]; exact y18, fun k c a d e f => ?_⟩, TL_k h5 (yo _ (by decide) (by decide)) (yo _ (by decide) (by decide)) (eX _ (by omega)) (fun j a c => eX _ (by omega)), TL_k h6 (yo _ (by decide) (by decide)) (yo _ (by decide) (by decide)) (eX _ (by omega)) (fun j a c => eX _ (by omega)), ?_⟩, yo⟩
  · simp only [fX1_addHarness, ex, Option.bind_some, t0, t1]
  · rw [n4] at d
    show y 25 _ = _
    rw [y19]
    by_cases ek : k = r 470
    · subst ek
      by_cases c1 : c = 1
      · subst c1; rw [if_pos rfl, m1]
      · rw [if_neg (by omega)]
        by_cases c0 : c = 0
        · subst c0; rw [if_pos rfl, m0]
        · rw [if_neg (by omega), if_pos (by omega)]
          by_cases c2 : c = 2
          · subst c2; rw [m2]
          · have c3 : c = 3 := by omega
            subst c3
            rw [m3]
    · rw [if_neg (by omega), if_neg (by omega), if_neg (by omega), harnR_o (by omega) (by omega)]
      exact h4.2 k c a (by omega) e f
  · rw [yo 17 (by decide) (by decide), eX 3 (by omega), eX 0 (by omega), eX 1 (by omega), eX 2 (by omega)]
    exact h7
end DR

def CF (z z' : ZZ) : Prop := (∀ a, a ≠ 16 → a ≠ 31 → ¬ (17 ≤ a ∧ a ≤ 29) → z' a = z a) ∧ ∀ j, j ≠ 4 → j ≠ 5 → j ≠ 6 → z' 16 j = z 16 j
theorem CF_tr {z z' z'' : ZZ} (h : CF z z') (h2 : CF z' z'') : CF z z'' := ⟨fun a p q u => (h2.1 a p q u).trans (h.1 a p q u), fun j p q u => (h2.2 j p q u).trans (h.2 j p q u)⟩
theorem CF_m {z z' : ZZ} (h : CFm z z') : CF z z' := ⟨fun a p q _ => h.1 a p q, fun j _ q u => h.2 j q u⟩
theorem CF_d {z z' : ZZ} (h : ∀ a, ¬ (17 ≤ a ∧ a ≤ 29) → z' a = z a) : CF z z' := ⟨fun a _ _ u => h a u, fun j _ _ _ => by rw [h 16 (by decide)]⟩
theorem wK_rng (b : Int → Int) (s e : Int) : wK b s e = -1 ∨ (0 ≤ wK b s e ∧ wK b s e ≤ 4) := by
  unfold wK
  split
  · exact Or.inr ⟨by decide, by decide⟩
  · split
    · exact Or.inr ⟨by decide, by decide⟩
    · split
      · exact Or.inr ⟨by decide, by decide⟩
      · split
        · exact Or.inr ⟨by decide, by decide⟩
        · split
          · exact Or.inr ⟨by decide, by decide⟩
          · exact Or.inl rfl
section C2
variable {z : ZZ} {b : Int → Int} {L p h : Int} {r : Row}
theorem TC_f {z' : ZZ} (h : TC b L z) (f : CF z z') : TC b L z' := by
  refine ⟨by rw [f.2 1 (by decide) (by decide) (by decide)]; exact h.1, fun k a c => ?_⟩
  rw [f.1 30 (by decide) (by decide) (by decide)]
  exact h.2 k a c
theorem c_n2 {w l1 h1 l2 h2 : Int} (hT : TXT b L) (hC : TC b L z) (h6 : z 16 6 = p) (h0 : 0 ≤ p ∧ p ≤ L) (hw : 0 ≤ w ∧ w ≤ 4) (hn : ∀ y : ZZ, fX3_numbersOf w y = some 2) (a1 : zKC 1000002 (w * 3 + 0) = l1) (c1 : zKC 1000003 (w * 3 + 0) = h1) (a2 : zKC 1000002 (w * 3 + 1) = l2) (c2 : zKC 1000003 (w * 3 + 1) = h2) (g1 : 0 ≤ l1) (g2 : 0 ≤ l2) :
    (∀ x, n2 b L l1 h1 l2 h2 p = .inl x → ∃ z', zlp (fun q => fX3_readStatement_s26 w q.1 q.2) FU (0, z) = some (.inr (0, z')) ∧ z' 16 5 = x ∧ CFm z z') ∧
    (∀ u v q, n2 b L l1 h1 l2 h2 p = .inr (u, v, q) → ∃ z', zlp (fun q => fX3_readStatement_s26 w q.1 q.2) FU (0, z) = some (.inl z') ∧ z' 16 6 = q ∧ z' 31 0 = u ∧ z' 31 1 = v ∧ CFm z z') := by
  obtain ⟨A1, B1⟩ := c_num (i := 0) hT hC h6 h0 hw hn (by omega) (by omega) a1 c1 g1
  rw [show FU = 99997 + 1 + 1 + 1 from rfl]
  unfold n2
  cases e1 : num b L l1 h1 p with
  | inl x =>
    obtain ⟨z1, s1, k1, f1⟩ := A1 x e1
    refine ⟨fun y hy => ?_, fun _ _ _ hy => by cases hy⟩
    cases hy
    exact ⟨z1, zlp_end (f := fun q : Int × ZZ => fX3_readStatement_s26 w q.1 q.2) (s := (0, z)) s1, k1, f1⟩
  | inr y =>
    obtain ⟨v1, p1⟩ := y
    obtain ⟨z1, s1', k1, m1, o1, f1⟩ := B1 v1 p1 e1
    have s1 : fX3_readStatement_s26 w 0 z = some (.inl (1, z1)) := by
      rw [s1']
      rfl
    have ok1 := num_ok hT h0 e1
    obtain ⟨A2, B2⟩ := c_num (i := 1) hT (TC_fr hC f1) k1 (by omega) hw hn (by omega) (by omega) a2 c2 g2
    have st1 := zlp_next (f := fun q : Int × ZZ => fX3_readStatement_s26 w q.1 q.2) (s := (0, z)) (n := 99997 + 1 + 1) s1
    dsimp only
    cases e2 : num b L l2 h2 p1 with
    | inl x =>
      obtain ⟨z2, s2, k2, f2⟩ := A2 x e2
      refine ⟨fun y hy => ?_, fun _ _ _ hy => by cases hy⟩
      cases hy
      exact ⟨z2, by rw [st1]; exact zlp_end (f := fun q : Int × ZZ => fX3_readStatement_s26 w q.1 q.2) (s := (1, z1)) s2, k2, CFm_tr f1 f2⟩
    | inr y =>
      obtain ⟨v2, p2⟩ := y
      obtain ⟨z2, s2', k2, m2, o2, f2⟩ := B2 v2 p2 e2
      have s2 : fX3_readStatement_s26 w 1 z1 = some (.inl (2, z2)) := by
        rw [s2']
        rfl
      refine ⟨fun _ hy => (by cases hy), fun u v q hy => ?_⟩
      cases hy
      refine ⟨z2, ?_, k2, by rw [o2 0 (by decide)]; exact m1, m2, CFm_tr f1 f2⟩
      rw [st1, zlp_next (f := fun q : Int × ZZ => fX3_readStatement_s26 w q.1 q.2) (s := (1, z1)) s2]
      refine zlp_end (f := fun q : Int × ZZ => fX3_readStatement_s26 w q.1 q.2) (s := (2, z2)) ?_
      show fX3_readStatement_s26 w 2 z2 = _
      unfold fX3_readStatement_s26
      rw [hn]
      rfl
theorem c_n3 {w l1 h1 l2 h2 l3 h3 : Int} (hT : TXT b L) (hC : TC b L z) (h6 : z 16 6 = p) (h0 : 0 ≤ p ∧ p ≤ L) (hw : 0 ≤ w ∧ w ≤ 4) (hn : ∀ y : ZZ, fX3_numbersOf w y = some 3) (a1 : zKC 1000002 (w * 3 + 0) = l1) (c1 : zKC 1000003 (w * 3 + 0) = h1) (a2 : zKC 1000002 (w * 3 + 1) = l2) (c2 : zKC 1000003 (w * 3 + 1) = h2) (a3 : zKC 1000002 (w * 3 + 2) = l3) (c3 : zKC 1000003 (w * 3 + 2) = h3) (g1 : 0 ≤ l1) (g2 : 0 ≤ l2) (g3 : 0 ≤ l3) :
    (∀ x, n3 b L l1 h1 l2 h2 l3 h3 p = .inl x → ∃ z', zlp (fun q => fX3_readStatement_s26 w q.1 q.2) FU (0, z) = some (.inr (0, z')) ∧ z' 16 5 = x ∧ CFm z z') ∧
    (∀ u v t q, n3 b L l1 h1 l2 h2 l3 h3 p = .inr (u, v, t, q) → ∃ z', zlp (fun q => fX3_readStatement_s26 w q.1 q.2) FU (0, z) = some (.inl z') ∧ z' 16 6 = q ∧ z' 31 0 = u ∧ z' 31 1 = v ∧ z' 31 2 = t ∧ CFm z z') := by
  obtain ⟨A1, B1⟩ := c_num (i := 0) hT hC h6 h0 hw hn (by omega) (by omega) a1 c1 g1
  rw [show FU = 99996 + 1 + 1 + 1 + 1 from rfl]
  unfold n3
  cases e1 : num b L l1 h1 p with
  | inl x =>
    obtain ⟨z1, s1, k1, f1⟩ := A1 x e1
    refine ⟨fun y hy => ?_, fun _ _ _ _ hy => by cases hy⟩
    cases hy
    exact ⟨z1, zlp_end (f := fun q : Int × ZZ => fX3_readStatement_s26 w q.1 q.2) (s := (0, z)) s1, k1, f1⟩
  | inr y =>
    obtain ⟨v1, p1⟩ := y
    obtain ⟨z1, s1', k1, m1, o1, f1⟩ := B1 v1 p1 e1
    have s1 : fX3_readStatement_s26 w 0 z = some (.inl (1, z1)) := by
      rw [s1']
      rfl
    have ok1 := num_ok hT h0 e1
    obtain ⟨A2, B2⟩ := c_num (i := 1) hT (TC_fr hC f1) k1 (by omega) hw hn (by omega) (by omega) a2 c2 g2
    have st1 := zlp_next (f := fun q : Int × ZZ => fX3_readStatement_s26 w q.1 q.2) (s := (0, z)) (n := 99996 + 1 + 1 + 1) s1
    dsimp only
    cases e2 : num b L l2 h2 p1 with
    | inl x =>
      obtain ⟨z2, s2, k2, f2⟩ := A2 x e2
      refine ⟨fun y hy => ?_, fun _ _ _ _ hy => by cases hy⟩
      cases hy
      exact ⟨z2, by rw [st1]; exact zlp_end (f := fun q : Int × ZZ => fX3_readStatement_s26 w q.1 q.2) (s := (1, z1)) s2, k2, CFm_tr f1 f2⟩
    | inr y =>
      obtain ⟨v2, p2⟩ := y
      obtain ⟨z2, s2', k2, m2, o2, f2⟩ := B2 v2 p2 e2
      have s2 : fX3_readStatement_s26 w 1 z1 = some (.inl (2, z2)) := by
        rw [s2']
        rfl
      have ok2 := num_ok hT (by omega) e2
      obtain ⟨A3, B3⟩ := c_num (i := 2) hT (TC_fr hC (CFm_tr f1 f2)) k2 (by omega) hw hn (by omega) (by omega) a3 c3 g3
      have st2 := zlp_next (f := fun q : Int × ZZ => fX3_readStatement_s26 w q.1 q.2) (s := (1, z1)) (n := 99996 + 1 + 1) s2
      dsimp only
      cases e3 : num b L l3 h3 p2 with
      | inl x =>
        obtain ⟨z3, s3, k3, f3⟩ := A3 x e3
        refine ⟨fun y hy => ?_, fun _ _ _ _ hy => by cases hy⟩
        cases hy
        exact ⟨z3, by rw [st1, st2]; exact zlp_end (f := fun q : Int × ZZ => fX3_readStatement_s26 w q.1 q.2) (s := (2, z2)) s3, k3, CFm_tr f1 (CFm_tr f2 f3)⟩
      | inr y =>
        obtain ⟨v3, p3⟩ := y
        obtain ⟨z3, s3', k3, m3, o3, f3⟩ := B3 v3 p3 e3
        have s3 : fX3_readStatement_s26 w 2 z2 = some (.inl (3, z3)) := by
          rw [s3']
          rfl
        refine ⟨fun _ hy => (by cases hy), fun u v t q hy => ?_⟩
        cases hy
        refine ⟨z3, ?_, k3, by rw [o3 0 (by decide), o2 0 (by decide)]; exact m1, by rw [o3 1 (by decide)]; exact m2, m3, CFm_tr f1 (CFm_tr f2 f3)⟩
        rw [st1, st2, zlp_next (f := fun q : Int × ZZ => fX3_readStatement_s26 w q.1 q.2) (s := (2, z2)) s3]
        refine zlp_end (f := fun q : Int × ZZ => fX3_readStatement_s26 w q.1 q.2) (s := (3, z3)) ?_
        show fX3_readStatement_s26 w 3 z3 = _
        unfold fX3_readStatement_s26
        rw [hn]
        rfl
theorem c_full {t : Nat} : fX4_isFull t z = some (bI (¬ z t 3 < zMR t)) := by
  unfold fX4_isFull
  by_cases q : z t 3 < zMR t
  · rw [if_pos q, bI_f (fun x => x q)]
  · rw [if_neg q, bI_t q]
theorem bI_sw {q : Prop} [Decidable q] : (if q then some 0 else some 1 : Option Int) = some (bI (¬ q)) := by
  by_cases h : q
  · rw [if_pos h, bI_f (fun x => x h)]
  · rw [if_neg h, bI_t h]
/-- what a statement leaves, as the class has it -/
def CR (b : Int → Int) (L : Int) (z : ZZ) (o : Int ⊕ (Int × Row × Int)) : Prop := (∀ x, o = .inl x → ∃ z', fX3_readStatement z = some (0, z') ∧ z' 16 5 = x ∧ CF z z') ∧
  (∀ q r' h', o = .inr (q, r', h') → ∃ z', fX3_readStatement z = some (1, z') ∧ z' 16 6 = q ∧ z' 16 4 = h' ∧ RH z' 17 r' ∧ CF z z')
theorem CR_l {x : Int} {z' : ZZ} (h1 : fX3_readStatement z = some (0, z')) (h2 : z' 16 5 = x) (h3 : CF z z') : CR b L z (.inl x) := ⟨fun y hy => by cases hy; exact ⟨z', h1, h2, h3⟩, fun _ _ _ hy => by cases hy⟩
theorem CR_r {q h' : Int} {r' : Row} {z' : ZZ} (h1 : fX3_readStatement z = some (1, z')) (h2 : z' 16 6 = q) (h3 : z' 16 4 = h') (h4 : RH z' 17 r') (h5 : CF z z') : CR b L z (.inr (q, r', h')) := ⟨fun y hy => by (cases hy), fun _ _ _ hy => by cases hy; exact ⟨z', h1, h2, h3, h4, h5⟩⟩
theorem c_stm (hT : TXT b L) (hC : TC b L z) (h6 : z 16 6 = p) (h0 : 0 ≤ p ∧ p ≤ L) (h4 : z 16 4 = h) (hR : RH z 17 r) (hP : PR r) : CR b L z (stm b L p r h) := by
  have hL := hT.2.1
  have hn := hP.1
  unfold IHn at hn
  obtain ⟨s1, s2⟩ := tS_ok hT h0
  have ht := c_tok hT hC h6 h0
  unfold stm
  generalize tS b p = s at *
  obtain ⟨t1, t2, t3, t4⟩ := tE_ok hT (s := s) (by omega)
  generalize hte : tE b L s = e at *
  have f1 : CF z (zup (zup z 16 5 s) 16 6 e) := ⟨fun a u _ _ => by rw [zup_ne u, zup_ne u], fun j _ u v => by rw [zup_at, if_neg v, zup_at, if_neg u]⟩
  have e5 : zup (zup z 16 5 s) 16 6 e 16 5 = s := by rw [zup_at, if_neg (by decide), zup_at, if_pos rfl]
  have e6 : zup (zup z 16 5 s) 16 6 e 16 6 = e := by rw [zup_at, if_pos rfl]
  have e4 : zup (zup z 16 5 s) 16 6 e 16 4 = h := by rw [zup_at, if_neg (by decide), zup_at, if_neg (by decide), h4]
  have yR : RH (zup (zup z 16 5 s) 16 6 e) 17 r := RH_fra hR (fun a u v => by rw [zup_ne (by omega), zup_ne (by omega)])
  generalize zup (zup z 16 5 s) 16 6 e = y at *
  have hy := TC_f hC f1
  have hk := c_kind hT hy e5 e6 (by omega) (by omega)
  have y18 : y 18 3 = r 4 := yR.1.1
  have y24 : y 24 3 = r 470 := yR.2.2.2.1.1
  have y26 : y 26 3 = r 546 := yR.2.2.2.2.1.1
  have y28 : y 28 3 = r 619 := yR.2.2.2.2.2.1.1
  -- a word that has no room
  have no : ∀ k : Int, wK b s e = k → k ≠ -1 → fX3_hasRoomFor k y = some 0 → CR b L z (.inl s) := fun k a c d => by
    refine CR_l (z' := y) ?_ e5 f1
    unfold fX3_readStatement
    rw [ht]
    simp only [Option.bind_some, hk]
    rw [a, if_neg c, d]
    rfl
  have bad : ∀ (k x : Int) (z1 : ZZ), wK b s e = k → k ≠ -1 → fX3_hasRoomFor k y = some 1 → zlp (fun q => fX3_readStatement_s26 k q.1 q.2) FU (0, y) = some (.inr (0, z1)) → z1 16 5 = x → CFm y z1 → CR b L z (.inl x) := fun k x z1 a c d e' g f => by
    refine CR_l (z' := z1) ?_ g (CF_tr f1 (CF_m f))
    unfold fX3_readStatement
    rw [ht]
    simp only [Option.bind_some, hk]
    rw [a, if_neg c, d]
    simp only [Option.bind_some]
    rw [if_neg (by decide), e']
    rfl
  have good : ∀ (k q h' : Int) (r' : Row) (z1 z2 : ZZ), wK b s e = k → k ≠ -1 → fX3_hasRoomFor k y = some 1 → zlp (fun q => fX3_readStatement_s26 k q.1 q.2) FU (0, y) = some (.inl z1) → z1 16 6 = q → CFm y z1 → fX3_addStatement k z1 = some z2 → z2 16 6 = z1 16 6 → z2 16 4 = h' → RH z2 17 r' → CF z1 z2 → CR b L z (.inr (q, r', h')) := fun k q h' r' z1 z2 a c d e' g f g2 g3 g4 g5 g6 => by
    refine CR_r (z' := z2) ?_ (g3.trans g) g4 g5 (CF_tr f1 (CF_tr (CF_m f) g6))
    unfold fX3_readStatement
    rw [ht]
    simp only [Option.bind_some, hk]
    rw [a, if_neg c, d]
    simp only [Option.bind_some]
    rw [if_neg (by decide), e']
    simp only [Option.bind_some]
    rw [g2]
    rfl
  have fR : ∀ z1 : ZZ, CFm y z1 → RH z1 17 r := fun z1 f => RH_fra yR (fun a u v => f.1 a (by omega) (by omega))
  have f4 : ∀ z1 : ZZ, CFm y z1 → z1 16 4 = h := fun z1 f => by rw [f.2 4 (by decide) (by decide), e4]
  by_cases k0 : wK b s e = 0
  · rw [if_pos k0]
    have hr : fX3_hasRoomFor 0 y = if h = 0 then some 1 else some 0 := by
      unfold fX3_hasRoomFor
      rw [if_pos rfl, e4]
    by_cases hh : h = 0
    · rw [if_pos hh] at hr
      rw [if_pos hh]
      obtain ⟨A, B⟩ := c_n3 (w := 0) hT hy e6 (by omega) (by omega) (fun _ => rfl) (l1 := 0) (h1 := 40) (l2 := 0) (h2 := 10) (l3 := 1) (h3 := 200) rfl rfl rfl rfl rfl rfl (by decide) (by decide) (by decide)
      cases en : n3 b L 0 40 0 10 1 200 e with
      | inl x =>
        obtain ⟨z1, g1, g2, g3⟩ := A x en
        exact bad 0 x z1 k0 (by decide) hr g1 g2 g3
      | inr o =>
        obtain ⟨u, v, t, q⟩ := o
        obtain ⟨z1, g1, g2, g3, g4, g5, g6⟩ := B u v t q en
        obtain ⟨z2, d1, d2, d3⟩ := D_rules (u := u) (v := v) (w := t) (fR z1 g6) hP
        refine good 0 q 1 _ z1 (zup z2 16 4 1) k0 (by decide) hr g1 g2 g6 ?_ ?_ (by rw [zup_at, if_pos rfl]) (RH_fra d2 (fun a _ _ => zup_ne (by omega))) ⟨fun a u _ v => by rw [zup_ne u]; exact d3 a (by omega), fun j u _ _ => by rw [zup_at, if_neg u, d3 16 (by decide)]⟩
        · unfold fX3_addStatement zl
          rw [if_pos rfl, g3, g4, g5, d1]
          rfl
        · rw [zup_at, if_neg (by decide), d3 16 (by decide)]
    · rw [if_neg hh] at hr
      rw [if_neg hh]
      exact no 0 k0 (by decide) hr
  · rw [if_neg k0]
    by_cases k1 : wK b s e = 1
    · rw [if_pos k1]
      have hr : fX3_hasRoomFor 1 y = if r 4 < 8 then some 1 else some 0 := by
        unfold fX3_hasRoomFor
        rw [if_neg (by decide), if_pos rfl]
        unfold fX4_isFull
        rw [y18, show zMR 18 = 8 from rfl]
        split <;> rfl
      by_cases hh : r 4 < 8
      · rw [if_pos hh] at hr
        rw [if_pos hh]
        obtain ⟨A, B⟩ := c_n3 (w := 1) hT hy e6 (by omega) (by omega) (fun _ => rfl) (l1 := 3) (h1 := 30) (l2 := 0) (h2 := 5) (l3 := 1) (h3 := 60) rfl rfl rfl rfl rfl rfl (by decide) (by decide) (by decide)
        cases en : n3 b L 3 30 0 5 1 60 e with
        | inl x =>
          obtain ⟨z1, g1, g2, g3⟩ := A x en
          exact bad 1 x z1 k1 (by decide) hr g1 g2 g3
        | inr o =>
          obtain ⟨u, v, t, q⟩ := o
          obtain ⟨z1, g1, g2, g3, g4, g5, g6⟩ := B u v t q en
          obtain ⟨z2, d1, d2, d3⟩ := D_wall (u := u) (v := v) (w := t) (fR z1 g6) hP hh
          refine good 1 q h _ z1 z2 k1 (by decide) hr g1 g2 g6 ?_ (by rw [d3 16 (by decide) (by decide)]) (by rw [d3 16 (by decide) (by decide), f4 z1 g6]) d2 (CF_d (fun a u => d3 a (by omega) (by omega)))
          unfold fX3_addStatement
          rw [if_neg (by decide), if_pos rfl, g3, g4, g5, d1]
          rfl
      · rw [if_neg hh] at hr
        rw [if_neg hh]
        exact no 1 k1 (by decide) hr
    · rw [if_neg k1]
      by_cases k2 : wK b s e = 2
      · rw [if_pos k2]
        have hr : fX3_hasRoomFor 2 y = if r 470 < 15 then some 1 else some 0 := by
          unfold fX3_hasRoomFor
          rw [if_neg (by decide), if_neg (by decide), if_pos rfl]
          unfold fX4_isFull
          rw [y24, show zMR 24 = 15 from rfl]
          split <;> rfl
        by_cases hh : r 470 < 15
        · rw [if_pos hh] at hr
          rw [if_pos hh]
          obtain ⟨A, B⟩ := c_n2 (w := 2) hT hy e6 (by omega) (by omega) (fun _ => rfl) (l1 := 0) (h1 := 3) (l2 := 1) (h2 := 365) rfl rfl rfl rfl (by decide) (by decide)
          cases en : n2 b L 0 3 1 365 e with
          | inl x =>
            obtain ⟨z1, g1, g2, g3⟩ := A x en
            exact bad 2 x z1 k2 (by decide) hr g1 g2 g3
          | inr o =>
            obtain ⟨u, v, q⟩ := o
            obtain ⟨z1, g1, g2, g3, g4, g6⟩ := B u v q en
            obtain ⟨z2, d1, d2, d3⟩ := D_harn (u := u) (v := v) (fR z1 g6) hP hh
            refine good 2 q h _ z1 z2 k2 (by decide) hr g1 g2 g6 ?_ (by rw [d3 16 (by decide) (by decide)]) (by rw [d3 16 (by decide) (by decide), f4 z1 g6]) d2 (CF_d (fun a u => d3 a (by omega) (by omega)))
            unfold fX3_addStatement
            rw [if_neg (by decide), if_neg (by decide), if_pos rfl, g3, g4, d1]
            rfl
        · rw [if_neg hh] at hr
          rw [if_neg hh]
          exact no 2 k2 (by decide) hr
      · rw [if_neg k2]
        by_cases k3 : wK b s e = 3
        · rw [if_pos k3]
          have hr : fX3_hasRoomFor 3 y = if r 546 < 12 then some 1 else some 0 := by
            unfold fX3_hasRoomFor
            rw [if_neg (by decide), if_neg (by decide), if_neg (by decide), if_pos rfl]
            unfold fX4_isFull
            rw [y26, show zMR 26 = 12 from rfl]
            split <;> rfl
          by_cases hh : r 546 < 12
          · rw [if_pos hh] at hr
            rw [if_pos hh]
            obtain ⟨A, B⟩ := c_n2 (w := 3) hT hy e6 (by omega) (by omega) (fun _ => rfl) (l1 := 0) (h1 := 3) (l2 := 0) (h2 := 5) rfl rfl rfl rfl (by decide) (by decide)
            cases en : n2 b L 0 3 0 5 e with
            | inl x =>
              obtain ⟨z1, g1, g2, g3⟩ := A x en
              exact bad 3 x z1 k3 (by decide) hr g1 g2 g3
            | inr o =>
              obtain ⟨u, v, q⟩ := o
              obtain ⟨z1, g1, g2, g3, g4, g6⟩ := B u v q en
              obtain ⟨z2, d1, d2, d3⟩ := D_memb (u := u) (v := v) (fR z1 g6) hP hh
              refine good 3 q h _ z1 z2 k3 (by decide) hr g1 g2 g6 ?_ (by rw [d3 16 (by decide) (by decide)]) (by rw [d3 16 (by decide) (by decide), f4 z1 g6]) d2 (CF_d (fun a u => d3 a (by omega) (by omega)))
              unfold fX3_addStatement
              rw [if_neg (by decide), if_neg (by decide), if_neg (by decide), if_pos rfl, g3, g4, d1]
              rfl
          · rw [if_neg hh] at hr
            rw [if_neg hh]
            exact no 3 k3 (by decide) hr
        · rw [if_neg k3]
          by_cases k4 : wK b s e = 4
          · rw [if_pos k4]
            have hr : fX3_hasRoomFor 4 y = if r 619 < 8 then some 1 else some 0 := by
              unfold fX3_hasRoomFor
              rw [if_neg (by decide), if_neg (by decide), if_neg (by decide), if_neg (by decide)]
              unfold fX4_isFull
              rw [y28, show zMR 28 = 8 from rfl]
              split <;> rfl
            by_cases hh : r 619 < 8
            · rw [if_pos hh] at hr
              rw [if_pos hh]
              obtain ⟨A, B⟩ := c_n3 (w := 4) hT hy e6 (by omega) (by omega) (fun _ => rfl) (l1 := 1) (h1 := 5) (l2 := 1) (h2 := 12) (l3 := 0) (h3 := 200) rfl rfl rfl rfl rfl rfl (by decide) (by decide) (by decide)
              cases en : n3 b L 1 5 1 12 0 200 e with
              | inl x =>
                obtain ⟨z1, g1, g2, g3⟩ := A x en
                exact bad 4 x z1 k4 (by decide) hr g1 g2 g3
              | inr o =>
                obtain ⟨u, v, t, q⟩ := o
                obtain ⟨z1, g1, g2, g3, g4, g5, g6⟩ := B u v t q en
                obtain ⟨z2, d1, d2, d3⟩ := D_cour (u := u) (v := v) (w := t) (fR z1 g6) hP hh
                refine good 4 q h _ z1 z2 k4 (by decide) hr g1 g2 g6 ?_ (by rw [d3 16 (by decide) (by decide)]) (by rw [d3 16 (by decide) (by decide), f4 z1 g6]) d2 (CF_d (fun a u => d3 a (by omega) (by omega)))
                unfold fX3_addStatement
                rw [if_neg (by decide), if_neg (by decide), if_neg (by decide), if_neg (by decide), g3, g4, g5, d1]
                rfl
            · rw [if_neg hh] at hr
              rw [if_neg hh]
              exact no 4 k4 (by decide) hr
          · rw [if_neg k4]
            have km : wK b s e = -1 := by
              have := wK_rng b s e
              omega
            refine CR_l (z' := y) ?_ e5 f1
            unfold fX3_readStatement
            rw [ht]
            simp only [Option.bind_some, hk]
            rw [if_pos km]
theorem stm_ok {q h' : Int} {r' : Row} (hT : TXT b L) (h0 : 0 ≤ p ∧ p ≤ L) (hP : PR r) (hh : h = 0 ∨ h = 1) (e : stm b L p r h = .inr (q, r', h')) : p < q ∧ q ≤ L ∧ PR r' ∧ (h' = 0 ∨ h' = 1) := by
  obtain ⟨s1, s2⟩ := tS_ok hT h0
  unfold stm at e
  generalize tS b p = s at *
  obtain ⟨t1, t2, t3, t4⟩ := tE_ok hT (s := s) (by omega)
  generalize tE b L s = f at *
  split at e
  · split at e
    · cases en : n3 b L 0 40 0 10 1 200 f with
      | inl x => rw [en] at e; cases e
      | inr o =>
        obtain ⟨u, v, w, q'⟩ := o
        rw [en] at e
        have g := n3_ok hT (by omega) en
        cases e
        exact ⟨by omega, g.2.1, PR_rules hP g.2.2.1 g.2.2.2.1 g.2.2.2.2, Or.inr rfl⟩
    · cases e
  · split at e
    · split at e
      · cases en : n3 b L 3 30 0 5 1 60 f with
        | inl x => rw [en] at e; cases e
        | inr o =>
          obtain ⟨u, v, w, q'⟩ := o
          rw [en] at e
          have g := n3_ok hT (by omega) en
          cases e
          exact ⟨by omega, g.2.1, PR_wall hP (by assumption) g.2.2.2.1 g.2.2.2.2, hh⟩
      · cases e
    · split at e
      · split at e
        · cases en : n2 b L 0 3 1 365 f with
          | inl x => rw [en] at e; cases e
          | inr o =>
            obtain ⟨u, v, q'⟩ := o
            rw [en] at e
            have g := n2_ok hT (by omega) en
            cases e
            exact ⟨by omega, g.2.1, PR_harn hP (by assumption) g.2.2.2, hh⟩
        · cases e
      · split at e
        · split at e
          · cases en : n2 b L 0 3 0 5 f with
            | inl x => rw [en] at e; cases e
            | inr o =>
              obtain ⟨u, v, q'⟩ := o
              rw [en] at e
              have g := n2_ok hT (by omega) en
              cases e
              exact ⟨by omega, g.2.1, PR_memb hP (by assumption) g.2.2.2, hh⟩
          · cases e
        · split at e
          · split at e
            · cases en : n3 b L 1 5 1 12 0 200 f with
              | inl x => rw [en] at e; cases e
              | inr o =>
                obtain ⟨u, v, w, q'⟩ := o
                rw [en] at e
                have g := n3_ok hT (by omega) en
                cases e
                exact ⟨by omega, g.2.1, PR_cour hP (by assumption) g.2.2.1 g.2.2.2.1 g.2.2.2.2, hh⟩
            · cases e
          · cases e
end C2

def prs (b : Int → Int) (L : Int) : Nat → Int → Row → Int → Int ⊕ Row
  | 0, p, _, _ => .inl p
  | n + 1, p, r, h => match stm b L p r h with
    | .inl x => .inl x
    | .inr (q, r', h') => if L ≤ tS b q then .inr r' else if b (tS b q) = 59 then prs b L n (tE b L (tS b q)) r' h' else .inl (tS b q)
section PA
variable {z : ZZ} {b : Int → Int} {L p h : Int} {r : Row}
theorem num_l {lo hi x : Int} (hT : TXT b L) (h0 : 0 ≤ p ∧ p ≤ L) (e : num b L lo hi p = .inl x) : 0 ≤ x := by
  obtain ⟨s1, s2⟩ := tS_ok hT h0
  unfold num at e
  split at e
  · cases e
  · cases e
    omega
theorem n2_l {l1 h1 l2 h2 x : Int} (hT : TXT b L) (h0 : 0 ≤ p ∧ p ≤ L) (e : n2 b L l1 h1 l2 h2 p = .inl x) : 0 ≤ x := by
  unfold n2 at e
  cases e1 : num b L l1 h1 p with
  | inl y =>
    rw [e1] at e
    cases e
    exact num_l hT h0 e1
  | inr y =>
    obtain ⟨v1, p1⟩ := y
    rw [e1] at e
    have g1 := num_ok hT h0 e1
    dsimp only at e
    cases e2 : num b L l2 h2 p1 with
    | inl y =>
      rw [e2] at e
      cases e
      exact num_l hT (by omega) e2
    | inr y =>
      obtain ⟨v2, p2⟩ := y
      rw [e2] at e
      cases e
theorem n3_l {l1 h1 l2 h2 l3 h3 x : Int} (hT : TXT b L) (h0 : 0 ≤ p ∧ p ≤ L) (e : n3 b L l1 h1 l2 h2 l3 h3 p = .inl x) : 0 ≤ x := by
  unfold n3 at e
  cases e1 : num b L l1 h1 p with
  | inl y =>
    rw [e1] at e
    cases e
    exact num_l hT h0 e1
  | inr y =>
    obtain ⟨v1, p1⟩ := y
    rw [e1] at e
    have g1 := num_ok hT h0 e1
    dsimp only at e
    cases e2 : num b L l2 h2 p1 with
    | inl y =>
      rw [e2] at e
      cases e
      exact num_l hT (by omega) e2
    | inr y =>
      obtain ⟨v2, p2⟩ := y
      rw [e2] at e
      have g2 := num_ok hT (by omega) e2
      dsimp only at e
      cases e3 : num b L l3 h3 p2 with
      | inl y =>
        rw [e3] at e
        cases e
        exact num_l hT (by omega) e3
      | inr y =>
        obtain ⟨v3, p3⟩ := y
        rw [e3] at e
        cases e
theorem stm_l {x : Int} (hT : TXT b L) (h0 : 0 ≤ p ∧ p ≤ L) (e : stm b L p r h = .inl x) : 0 ≤ x := by
  obtain ⟨s1, s2⟩ := tS_ok hT h0
  unfold stm at e
  generalize tS b p = s at *
  obtain ⟨t1, t2, -, -⟩ := tE_ok hT (s := s) (by omega)
  generalize tE b L s = f at *
  have a3 : ∀ (l1 h1 l2 h2 l3 h3 : Int) (g : Int × Int × Int × Int → Int ⊕ (Int × Row × Int)), (∀ o y, g o ≠ .inl y) → (match n3 b L l1 h1 l2 h2 l3 h3 f with
      | .inl x => .inl x
      | .inr (u, v, w, q) => g (u, v, w, q) : Int ⊕ (Int × Row × Int)) = .inl x → 0 ≤ x := fun l1 h1 l2 h2 l3 h3 g hg hx => by
    cases en : n3 b L l1 h1 l2 h2 l3 h3 f with
    | inl y =>
      rw [en] at hx
      cases hx
      exact n3_l hT (by omega) en
    | inr o =>
      obtain ⟨u, v, w, q⟩ := o
      rw [en] at hx
      exact absurd hx (hg _ _)
  have a2 : ∀ (l1 h1 l2 h2 : Int) (g : Int × Int × Int → Int ⊕ (Int × Row × Int)), (∀ o y, g o ≠ .inl y) → (match n2 b L l1 h1 l2 h2 f with
      | .inl x => .inl x
      | .inr (u, v, q) => g (u, v, q) : Int ⊕ (Int × Row × Int)) = .inl x → 0 ≤ x := fun l1 h1 l2 h2 g hg hx => by
    cases en : n2 b L l1 h1 l2 h2 f with
    | inl y =>
      rw [en] at hx
      cases hx
      exact n2_l hT (by omega) en
    | inr o =>
      obtain ⟨u, v, q⟩ := o
      rw [en] at hx
      exact absurd hx (hg _ _)
  have hs : (Sum.inl s : Int ⊕ (Int × Row × Int)) = .inl x → 0 ≤ x := fun y => by
    cases y
    omega
  split at e
  · split at e
    · exact a3 _ _ _ _ _ _ (fun o => .inr (o.2.2.2, rulesR r o.1 o.2.1 o.2.2.1, 1)) (fun _ _ w => by cases w) e
    · exact hs e
  · split at e
    · split at e
      · exact a3 _ _ _ _ _ _ (fun o => .inr (o.2.2.2, wallR r o.1 o.2.1 o.2.2.1, h)) (fun _ _ w => by cases w) e
      · exact hs e
    · split at e
      · split at e
        · exact a2 _ _ _ _ (fun o => .inr (o.2.2, harnR r o.1 o.2.1, h)) (fun _ _ w => by cases w) e
        · exact hs e
      · split at e
        · split at e
          · exact a2 _ _ _ _ (fun o => .inr (o.2.2, membR r o.1 o.2.1, h)) (fun _ _ w => by cases w) e
          · exact hs e
        · split at e
          · split at e
            · exact a3 _ _ _ _ _ _ (fun o => .inr (o.2.2.2, courR r o.1 o.2.1 o.2.2.1, h)) (fun _ _ w => by cases w) e
            · exact hs e
          · exact hs e
theorem c_loop (hT : TXT b L) : ∀ (n : Nat) (p : Int) (r : Row) (h v : Int) (z : ZZ) (fuel : Nat), n < fuel → L - p < n → 0 ≤ v → v ≤ p → p ≤ L → TC b L z → z 16 6 = p → z 16 4 = h → (h = 0 ∨ h = 1) → RH z 17 r → PR r →
    (∀ x, prs b L n p r h = .inl x → ∃ z', zlp (fun q => fX3_readDraft_s19 q.1 q.2) fuel (v, z) = some (.inr (x, z')) ∧ 0 ≤ x ∧ CF z z') ∧
    (∀ r', prs b L n p r h = .inr r' → ∃ z', zlp (fun q => fX3_readDraft_s19 q.1 q.2) fuel (v, z) = some (.inr (-1, z')) ∧ RH z' 17 r' ∧ PR r' ∧ CF z z')
  | 0, p, r, h, v, z, fuel, _, g1, _, _, g2, _, _, _, _, _, _ => by omega
  | n + 1, p, r, h, v, z, fuel, hf, g1, v0, v1, g2, hC, h6, h4, hh, hR, hP => by
    obtain ⟨m, rfl⟩ : ∃ m, fuel = m + 1 := ⟨fuel - 1, by omega⟩
    have hL := hT.2.1
    obtain ⟨A, B⟩ := c_stm hT hC h6 (by omega) h4 hR hP
    have n1 : ¬ z 16 1 < v := by rw [hC.1]; omega
    unfold prs
    cases es : stm b L p r h with
    | inl x =>
      obtain ⟨z1, e1, e2, e3⟩ := A x es
      refine ⟨fun y hy => ?_, fun _ hy => by cases hy⟩
      cases hy
      refine ⟨z1, zlp_end (f := fun q : Int × ZZ => fX3_readDraft_s19 q.1 q.2) (s := (v, z)) ?_, stm_l hT (by omega) es, e3⟩
      show fX3_readDraft_s19 v z = _
      unfold fX3_readDraft_s19
      rw [if_neg n1, e1]
      simp only [Option.bind_some, if_true]
      rw [e2]
    | inr o =>
      obtain ⟨q, r', h'⟩ := o
      obtain ⟨z1, e1, e2, e3, e4, e5⟩ := B q r' h' es
      obtain ⟨k1, k2, k3, k4⟩ := stm_ok hT (by omega) hP hh es
      have hC1 := TC_f hC e5
      have ht := c_tok hT hC1 e2 (by omega)
      obtain ⟨s1, s2⟩ := tS_ok hT (p := q) (by omega)
      dsimp only
      generalize tS b q = s at *
      obtain ⟨t1, t2, t3, -⟩ := tE_ok hT (s := s) (by omega)
      have f2 : CF z1 (zup (zup z1 16 5 s) 16 6 (tE b L s)) := ⟨fun a u _ _ => by rw [zup_ne u, zup_ne u], fun j _ u v => by rw [zup_at, if_neg v, zup_at, if_neg u]⟩
      have a5 : zup (zup z1 16 5 s) 16 6 (tE b L s) 16 5 = s := by rw [zup_at, if_neg (by decide), zup_at, if_pos rfl]
      have a6 : zup (zup z1 16 5 s) 16 6 (tE b L s) 16 6 = tE b L s := by rw [zup_at, if_pos rfl]
      have a4 : zup (zup z1 16 5 s) 16 6 (tE b L s) 16 4 = h' := by rw [zup_at, if_neg (by decide), zup_at, if_neg (by decide), e3]
      have aR : RH (zup (zup z1 16 5 s) 16 6 (tE b L s)) 17 r' := RH_fra e4 (fun a u v => by rw [zup_ne (by omega), zup_ne (by omega)])
      generalize zup (zup z1 16 5 s) 16 6 (tE b L s) = y at *
      have hCy := TC_f hC1 f2
      have f3 := CF_tr e5 f2
      have i1 : inR (v + 1) := inR_s (by omega)
      have st : fX3_readDraft_s19 v z = if s < L then (if b s = 59 then some (.inl (v + 1, y)) else some (.inr (.inr (s, y)))) else some (.inr (.inr (-1, y))) := by
        unfold fX3_readDraft_s19
        rw [if_neg n1, e1]
        simp only [Option.bind_some]
        rw [if_neg (by decide), ht]
        simp only [Option.bind_some]
        rw [a5, hCy.1, c_byteAt hT hCy]
        simp only [Option.bind_some]
        rw [if_pos i1]
      by_cases c0 : L ≤ s
      · rw [if_neg (by omega)] at st
        rw [if_pos c0]
        refine ⟨fun _ hy => (by cases hy), fun r2 hy => ?_⟩
        cases hy
        exact ⟨y, zlp_end (f := fun q : Int × ZZ => fX3_readDraft_s19 q.1 q.2) (s := (v, z)) st, aR, k3, f3⟩
      · rw [if_pos (by omega)] at st
        rw [if_neg c0]
        by_cases c1 : b s = 59
        · rw [if_pos c1] at st
          rw [if_pos c1, zlp_next (f := fun q : Int × ZZ => fX3_readDraft_s19 q.1 q.2) (s := (v, z)) st]
          have := t3 (by omega)
          obtain ⟨A', B'⟩ := c_loop hT n (tE b L s) r' h' (v + 1) y m (by omega) (by omega) (by omega) (by omega) t2 hCy a6 a4 k4 aR k3
          refine ⟨fun x hx => ?_, fun r2 hx => ?_⟩
          · obtain ⟨z', b1, b2, b3⟩ := A' x hx
            exact ⟨z', b1, b2, CF_tr f3 b3⟩
          · obtain ⟨z', b1, b2, b3, b4⟩ := B' r2 hx
            exact ⟨z', b1, b2, b3, CF_tr f3 b4⟩
        · rw [if_neg c1] at st
          rw [if_neg c1]
          refine ⟨fun x hy => ?_, fun _ hy => by cases hy⟩
          cases hy
          exact ⟨y, zlp_end (f := fun q : Int × ZZ => fX3_readDraft_s19 q.1 q.2) (s := (v, z)) st, by omega, f3⟩
end PA

def R0 (r : Row) : Prop := r 0 = 20 ∧ r 1 = 2 ∧ r 2 = 50 ∧ r 3 = 0 ∧ r 4 = 0 ∧ r 37 = 0 ∧ r 470 = 0 ∧ r 546 = 0 ∧ r 619 = 0 ∧ r 644 = 0
theorem PR_0 {r : Row} (h : R0 r) : PR r := by
  obtain ⟨h0, h1, h2, h3, h4, h5, h6, h7, h8, h9⟩ := h
  refine ⟨?_, ⟨h5, h9, h3⟩, fun k a c => by omega, fun k a c => by omega, fun k a c => by omega, fun k a c => by omega⟩
  unfold IHn
  omega
section LD
variable {z : ZZ} {b : Int → Int} {L B v : Int} {r : Row} {ln : Nat}
theorem c_clear (h : R0 r) : ∃ z', fX1_clear 17 z = some z' ∧ RH z' 17 r ∧ ∀ a, ¬ (17 ≤ a ∧ a ≤ 29) → z' a = z a := by
  obtain ⟨h0, h1, h2, h3, h4, h5, h6, h7, h8, h9⟩ := h
  refine ⟨zup (zup (zup (zup (zup (zup (zup (zup (zup (zup z 18 3 0) 20 3 0) 22 3 0) 24 3 0) 26 3 0) 28 3 0) 17 7 0) 17 8 20) 17 9 2) 17 10 50, rfl, ⟨⟨?_, fun j a c => by omega⟩, ⟨?_, fun j a c => by omega⟩, ⟨?_, fun j a c => by omega⟩, ⟨?_, fun k c a d => by omega⟩, ⟨?_, fun j a c => by omega⟩, ⟨?_, fun j a c => by omega⟩, ?_, ?_, ?_, ?_⟩, fun a q => ?_⟩
  · rw [h4]; rfl
  · rw [h5]; rfl
  · rw [h9]; rfl
  · rw [h6]; rfl
  · rw [h7]; rfl
  · rw [h8]; rfl
  · rw [h3]; rfl
  · rw [h0]; rfl
  · rw [h1]; rfl
  · rw [h2]; rfl
  · rw [zup_ne (by omega), zup_ne (by omega), zup_ne (by omega), zup_ne (by omega), zup_ne (by omega), zup_ne (by omega), zup_ne (by omega), zup_ne (by omega), zup_ne (by omega), zup_ne (by omega)]
theorem c_draft (hT : TXT b L) (hC : TC b L z) (h : R0 r) : (∀ x, prs b L 601 0 r 0 = .inl x → ∃ z', fX3_readDraft z = some (x, z') ∧ 0 ≤ x ∧ CF z z') ∧
    (∀ r', prs b L 601 0 r 0 = .inr r' → ∃ z', fX3_readDraft z = some (-1, z') ∧ RH z' 17 r' ∧ PR r' ∧ CF z z') := by
  have hL := hT.2.1
  obtain ⟨z1, e1, e2, e3⟩ := c_clear (z := z) h
  have f : CF z (zup (zup z1 16 4 0) 16 6 0) := ⟨fun a p q u => by rw [zup_ne p, zup_ne p, e3 a u], fun j p q u => by rw [zup_at, if_neg u, zup_at, if_neg p, e3 16 (by decide)]⟩
  obtain ⟨A, B⟩ := c_loop hT 601 0 r 0 0 (zup (zup z1 16 4 0) 16 6 0) FU (FU_lt (by decide)) (by omega) (Int.le_refl _) (Int.le_refl _) hT.1 (TC_f hC f) (by rw [zup_at, if_pos rfl]) (by rw [zup_at, if_neg (by decide), zup_at, if_pos rfl]) (Or.inl rfl) (RH_fra e2 (fun a p q => by rw [zup_ne (by omega), zup_ne (by omega)])) (PR_0 h)
  refine ⟨fun x hx => ?_, fun r' hx => ?_⟩
  · obtain ⟨z', g1, g2, g3⟩ := A x hx
    refine ⟨z', ?_, g2, CF_tr f g3⟩
    unfold fX3_readDraft zl
    rw [e1]
    simp only [Option.bind_some]
    rw [g1]
    rfl
  · obtain ⟨z', g1, g2, g3, g4⟩ := B r' hx
    refine ⟨z', ?_, g2, g3, CF_tr f g4⟩
    unfold fX3_readDraft zl
    rw [e1]
    simp only [Option.bind_some]
    rw [g1]
    rfl
end LD


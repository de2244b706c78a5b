/-! the class changes: courses left, routes set and taken off, days -/
theorem lp_rel {S R A : Type} {step : S → Option (S ⊕ R)} (f : Int → A → A) (Rel : Int → A → S → Prop) (Out : A → R → Prop) : ∀ (n : Nat) (lo : Int) (a : A) (s : S) (fuel : Nat), n < fuel → Rel lo a s →
    (∀ i a s, lo ≤ i → i < lo + n → Rel i a s → ∃ s', step s = some (.inl s') ∧ Rel (i + 1) (f i a) s') → (∀ a s, Rel (lo + n) a s → ∃ r, step s = some (.inr r) ∧ Out a r) →
    ∃ r, zlp step fuel s = some r ∧ Out (ita f n lo a) r
  | 0, lo, a, s, fuel, hf, hP, _, h2 => by
    obtain ⟨m, rfl⟩ : ∃ m, fuel = m + 1 := ⟨fuel - 1, by omega⟩
    have e0 : lo + (0 : Nat) = lo := by omega
    rw [e0] at h2
    obtain ⟨r, e, o⟩ := h2 a s hP
    exact ⟨r, zlp_end e, o⟩
  | n + 1, lo, a, s, fuel, hf, hP, h1, h2 => by
    obtain ⟨m, rfl⟩ : ∃ m, fuel = m + 1 := ⟨fuel - 1, by omega⟩
    obtain ⟨s', e, hR⟩ := h1 lo a s (Int.le_refl _) (by omega) hP
    rw [zlp_next e]
    have e0 : lo + (n + 1 : Nat) = lo + 1 + n := by omega
    rw [e0] at h2
    exact lp_rel f Rel Out n (lo + 1) (f lo a) s' m (by omega) hR (fun i a s q1 q2 => h1 i a s (by omega) (by omega)) h2
theorem shr_and {x M : BitVec 32} {s : Nat} (hM : ∀ i, i < 32 → M.getLsbD i = true → s + i < 32) : x.sshiftRight s &&& M = (x >>> s) &&& M := by
  apply BitVec.eq_of_getLsbD_eq
  intro i hi
  rw [BitVec.getLsbD_and, BitVec.getLsbD_and, BitVec.getLsbD_sshiftRight, BitVec.getLsbD_ushiftRight]
  cases hm : M.getLsbD i
  · rw [Bool.and_false, Bool.and_false]
  · have h := hM i hi hm
    rw [if_pos h, decide_eq_false (by omega : ¬ 32 ≤ i)]
    rfl
theorem zand_shr {a b : Int} {k : Nat} (hk : k < 32) (hM : ∀ i, i < 32 → (iN b).toBitVec.getLsbD i = true → k + i < 32) : zand (zshr a k) b = zand (zushr a k) b := by
  have hz := zcnt k hk
  unfold zand zshr zushr
  rw [iN_of, iN_of, hz.1]
  congr 1
  apply i32_ext
  rw [Int32.toBitVec_and, Int32.toBitVec_and]
  have h1 : (iN a >>> iN (k : Int)).toBitVec = (iN a).toBitVec.sshiftRight ((iN (k : Int)).toBitVec.smod 32).toNat := rfl
  have h2 : ((iN a).toUInt32 >>> ((iN (k : Int)).toUInt32 &&& Int32.toUInt32 31)).toInt32.toBitVec = (iN a).toBitVec >>> (((iN (k : Int)).toUInt32 &&& Int32.toUInt32 31).toBitVec % 32).toNat := rfl
  rw [h1, h2, hz.2.1, hz.2.2]
  exact shr_and hM
theorem bit_1 : ∀ i, i < 32 → (iN 1).toBitVec.getLsbD i = true → i = 0 := by decide +kernel
theorem bit_255 : ∀ i, i < 32 → (iN 255).toBitVec.getLsbD i = true → i < 8 := by decide +kernel
theorem sSet_bit {n m : Int} (hn : 0 ≤ n ∧ n ≤ 12) (hm : 0 ≤ m ∧ m < 12) (p : Int → Prop) [∀ k, Decidable (p k)] : sBit (sSet n p) m ↔ m < n ∧ p m := by
  obtain ⟨j, rfl⟩ : ∃ j : Nat, m = j := ⟨m.toNat, by omega⟩
  have key := ita_P (f := fun k s => if p k then zor s (zshl 1 k) else s) (fun i s => ∃ N : Nat, s = N ∧ N < 4096 ∧ ∀ k : Nat, N.testBit k = true ↔ ((k : Int) < i ∧ p k)) n.toNat 0 0 ⟨0, rfl, by decide, fun k => by
    rw [Nat.zero_testBit]
    exact ⟨fun h => (by cases h), fun h => by omega⟩⟩ (fun i a h1 h2 h => by
    obtain ⟨N, rfl, hN, hb⟩ := h
    obtain ⟨l, rfl⟩ : ∃ l : Nat, i = l := ⟨i.toNat, by omega⟩
    show ∃ M : Nat, (if p l then zor N (zshl 1 l) else (N : Int)) = M ∧ _
    by_cases hp : p l
    · rw [if_pos hp]
      have hl : (2 : Nat) ^ l < 2 ^ 12 := Nat.pow_lt_pow_right (by decide) (by omega)
      have ho : N ||| 2 ^ l < 2 ^ 12 := Nat.or_lt_two_pow (by omega) hl
      refine ⟨N ||| 2 ^ l, ?_, by omega, fun k => ?_⟩
      · rw [zshl_1 l (by omega), zor_nat (by omega) (by omega)]
      · rw [Nat.testBit_or, Nat.testBit_two_pow, Bool.or_eq_true, decide_eq_true_eq, hb]
        constructor
        · rintro (h | h)
          · exact ⟨by omega, h.2⟩
          · subst h
            exact ⟨by omega, hp⟩
        · intro h
          by_cases e : l = k
          · exact Or.inr e
          · exact Or.inl ⟨by omega, h.2⟩
    · rw [if_neg hp]
      refine ⟨N, rfl, hN, fun k => ?_⟩
      rw [hb]
      constructor
      · intro h
        exact ⟨by omega, h.2⟩
      · intro h
        by_cases e : l = k
        · subst e
          exact absurd h.2 hp
        · exact ⟨by omega, h.2⟩)
  obtain ⟨N, e, hN, hb⟩ := key
  have e2 : sSet n p = N := e
  unfold sBit
  rw [e2, zushr_nat (by omega) (by omega), show (1 : Int) = ((1 : Nat) : Int) from rfl, zand_nat (by have := Nat.div_le_self N (2 ^ j); omega), Nat.and_one_is_mod]
  have h := hb j
  rw [Nat.testBit_eq_decide_div_mod_eq, decide_eq_true_eq] at h
  rw [show (0 : Int) + (n.toNat : Nat) = n by omega] at h
  rw [← h]
  omega
def finF (r0 : Row) (c p : Int) (m : Int) (q : Row × Int) : Row × Int := if q.1 (547 + 6 * m + 4) = c then (if sBit p m then (rup (rup q.1 (547 + 6 * m + 4) (-1)) (547 + 6 * m + 1) (r0 (620 + 3 * c + 0)), q.2 + 1) else (rup q.1 (547 + 6 * m + 4) (-1), q.2)) else q
def FP (B : Int) (r : Row) (i : Int) (q : Row × Int) : Prop := IH B q.1 ∧ (∀ j, j < 547 ∨ 547 + 6 * i ≤ j → q.1 j = r j) ∧ 0 ≤ q.2 ∧ q.2 ≤ i
section FN
variable {z : ZZ} {r : Row} {B v1 v2 : Int}
theorem FP_s {i : Int} {q : Row × Int} (hI : IH B r) (q1 : 0 ≤ v1 ∧ v1 < r 619) (hi : 0 ≤ i ∧ i < r 546) (h : FP B r i q) : FP B r (i + 1) (finF r v1 v2 i q) := by
  have hn := hI.1
  unfold IHn at hn
  obtain ⟨h1, h2, h3, h4⟩ := h
  have hc := (hI.2.2.2.2.2 v1 q1.1 q1.2).1
  have e546 := h2 546 (by omega)
  have I1 : IH B (rup q.1 (547 + 6 * i + 4) (-1)) := IH_up12 h1 (by rw [e546]; exact hi) (by omega) (by omega) ⟨fun e => by omega, fun e => by omega, fun _ => by rw [h2 619 (by omega)]; omega, fun e => by omega⟩
  unfold finF
  split
  · split
    · refine ⟨IH_up12 I1 (by rw [rup_ne (by omega), e546]; exact hi) (by omega) (by omega) ⟨fun _ => by omega, fun e => by omega, fun e => by omega, fun e => by omega⟩, fun j hj => ?_, by show 0 ≤ q.2 + 1; omega, by show q.2 + 1 ≤ i + 1; omega⟩
      show rup (rup q.1 _ _) _ _ j = _
      rw [rup_ne (by omega), rup_ne (by omega)]
      exact h2 j (by omega)
    · refine ⟨I1, fun j hj => ?_, h3, by omega⟩
      show rup q.1 _ _ j = _
      rw [rup_ne (by omega)]
      exact h2 j (by omega)
  · exact ⟨h1, fun j hj => h2 j (by omega), h3, by omega⟩
theorem g_finish (hI : IH B r) (q1 : 0 ≤ v1 ∧ v1 < r 619) : ChgW r (ita (finF r v1 v2) (r 546).toNat 0 (r, 0)).1 (ita (finF r v1 v2) (r 546).toNat 0 (r, 0)).2 (fW_finish v1 v2) ∧ IH B (ita (finF r v1 v2) (r 546).toNat 0 (r, 0)).1 := by
  have hn := hI.1
  unfold IHn at hn
  have F0 : FP B r 0 (r, 0) := ⟨hI, fun j _ => rfl, Int.le_refl _, Int.le_refl _⟩
  have FE := ita_P (f := finF r v1 v2) (FP B r) (r 546).toNat 0 (r, 0) F0 (fun i a h1 h2 h => FP_s hI q1 (by omega) h)
  refine ⟨fun z hR hu hl => ?_, FE.1⟩
  · obtain ⟨z1, e1, R1, w1⟩ := c_rem hR hI hu hl
    obtain ⟨o, eo, o1, o2, o3⟩ := lp_rel (step := fun q : Int × Int × ZZ => fX1_endCourse_s12 v1 v2 (sIn r v1) q.1 q.2.1 q.2.2) (finF r v1 v2) (fun i q s => FP B r i q ∧ s.1 = q.2 ∧ s.2.1 = i ∧ RC s.2.2 q.1 ∧ ∀ a, a ≠ 13 → s.2.2 a = z1 a) (fun q o => o.1 = q.2 ∧ RC o.2 q.1 ∧ ∀ a, a ≠ 13 → o.2 a = z1 a) (r 546).toNat 0 (r, 0) (0, 0, z1) FU (FU_lt (by omega)) ⟨F0, rfl, rfl, R1, fun _ _ => rfl⟩ (fun i q s h1 h2 h => by
      obtain ⟨s1, s2, s3⟩ := s
      obtain ⟨hF, x1, x2, x3, x4⟩ := h
      dsimp only at x1 x2 x3 x4
      subst x1 x2
      have hF1 := FP_s (v2 := v2) hI q1 (show 0 ≤ s2 ∧ s2 < r 546 by omega) hF
      obtain ⟨y1, y2, y3, y4⟩ := hF
      have e546 := y2 546 (by omega)
      have e619 := y2 619 (by omega)
      have eb : sBit (sIn r v1) s2 ↔ q.1 (547 + 6 * s2 + 4) = v1 := by
        rw [sSet_bit (by omega) (by omega), y2 _ (by omega)]
        exact ⟨fun h => h.2, fun h => ⟨by omega, h⟩⟩
      have k1 : s2 < s3 12 3 := by rw [(RCn x3).2.2.2.2.1, e546]; omega
      have k2 : inR (s2 + 1) := inR_s (by omega)
      have k3 : inR (q.2 + 1) := inR_s (by omega)
      dsimp only
      by_cases hb : q.1 (547 + 6 * s2 + 4) = v1
      · have s4 : fX4_set 12 s2 4 (-1) s3 = some (zup s3 13 (s2 * 6 + 4) (-1)) := set_ok kT12 (by rw [(RCn x3).2.2.2.2.1, e546]; omega) (by rw [(RCn x3).2.2.2.2.1, e546]; show r 546 ≤ 12; omega) (show (0 : Int) ≤ 4 ∧ (4 : Int) < 6 by omega)
        have R4 := RC_up12 (v := -1) x3 y1.1 (k := s2) (c := 4) (by rw [e546]; omega) (by omega)
        have I4 : IH B (rup q.1 (547 + 6 * s2 + 4) (-1)) := IH_up12 y1 (by rw [e546]; omega) (by omega) (by omega) ⟨fun e => by omega, fun e => by omega, fun _ => by rw [e619]; omega, fun e => by omega⟩
        by_cases hp : sBit v2 s2
        · have g5 := cg14 R4 I4 (k := v1) (c := 0) (by rw [rup_ne (by omega), e619]; exact q1) (by omega)
          rw [rup_ne (by omega), y2 _ (by omega)] at g5
          have s5 : fX4_set 12 s2 1 (r (620 + 3 * v1 + 0)) (zup s3 13 (s2 * 6 + 4) (-1)) = some (zup (zup s3 13 (s2 * 6 + 4) (-1)) 13 (s2 * 6 + 1) (r (620 + 3 * v1 + 0))) := set_ok kT12 (by rw [(RCn R4).2.2.2.2.1, rup_ne (by omega), e546]; omega) (by rw [(RCn R4).2.2.2.2.1, rup_ne (by omega), e546]; show r 546 ≤ 12; omega) (show (0 : Int) ≤ 1 ∧ (1 : Int) < 6 by omega)
          have R5 := RC_up12 (v := r (620 + 3 * v1 + 0)) R4 I4.1 (k := s2) (c := 1) (by rw [rup_ne (by omega), e546]; omega) (by omega)
          refine ⟨(q.2 + 1, s2 + 1, zup (zup s3 13 (s2 * 6 + 4) (-1)) 13 (s2 * 6 + 1) (r (620 + 3 * v1 + 0))), ?_, hF1, ?_, rfl, ?_, fun a p => ?_⟩
          · simp only [fX1_endCourse_s12, fX1_endCourse_b78, if_pos k1, if_pos (eb.mpr hb), s4, Option.bind_some, if_pos hp, g5, s5, if_pos k3, if_pos k2]
          · simp only [finF, if_pos hb, if_pos hp]
          · simp only [finF, if_pos hb, if_pos hp]
            exact R5
          · show zup _ _ _ _ a = _
            rw [zup_ne p, zup_ne p]
            exact x4 a p
        · refine ⟨(q.2, s2 + 1, zup s3 13 (s2 * 6 + 4) (-1)), ?_, hF1, ?_, rfl, ?_, fun a p => ?_⟩
          · simp only [fX1_endCourse_s12, fX1_endCourse_b78, if_pos k1, if_pos (eb.mpr hb), s4, Option.bind_some, if_neg hp, if_pos k2]
          · simp only [finF, if_pos hb, if_neg hp]
          · simp only [finF, if_pos hb, if_neg hp]
            exact R4
          · show zup _ _ _ _ a = _
            rw [zup_ne p]
            exact x4 a p
      · refine ⟨(q.2, s2 + 1, s3), ?_, hF1, ?_, rfl, ?_, x4⟩
        · simp only [fX1_endCourse_s12, fX1_endCourse_b78, if_pos k1, if_neg (fun w => hb (eb.mp w)), if_pos k2]
        · simp only [finF, if_neg hb]
        · simp only [finF, if_neg hb]
          exact x3) (fun q s h => by
      obtain ⟨s1, s2, s3⟩ := s
      obtain ⟨hF, x1, x2, x3, x4⟩ := h
      dsimp only at x1 x2 x3 x4
      subst x1 x2
      have e546 := hF.2.1 546 (by omega)
      refine ⟨(q.2, s3), ?_, rfl, x3, x4⟩
      dsimp only
      unfold fX1_endCourse_s12
      rw [if_neg (by rw [(RCn x3).2.2.2.2.1, e546]; omega)])
    obtain ⟨ov, oz⟩ := o
    dsimp only at o1 o2 o3 eo
    subst o1
    refine ⟨zup oz 159 0 (ita (finF r v1 v2) (r 546).toNat 0 (r, 0)).2, ?_, ?_, Qt_RC Qt_159 o2, w1 _ (fun a p1 p2 p3 p4 p5 => ?_)⟩
    · simp only [fW_finish, wrp, fX5_finish, fX1_endCourse, n_row, (RCn hR).2.2.2.2.2.1, if_pos q1, Option.bind_some, e1, c_membersIn R1 hI, eo]
    · rw [zup_at, if_pos rfl]
    · rw [zup_ne p3, o3 a (by omega)]
end FN

theorem TL_k {z z' : ZZ} {t : Nat} {r r' : Row} {n b s : Int} (h : TL z t r n b s) (e1 : z' t = z t) (e2 : z' (t + 1) = z (t + 1)) (e3 : r' n = r n) (e4 : ∀ j, 0 ≤ j → j < s * r n → r' (b + j) = r (b + j)) : TL z' t r' n b s := by
  refine ⟨by rw [e1, e3]; exact h.1, fun j a c => ?_⟩
  rw [e3] at c
  rw [e2, e4 j a c]
  exact h.2 j a c
theorem TH_k {z z' : ZZ} {t : Nat} {r r' : Row} (h : TH z t r) (e1 : z' t = z t) (e2 : z' (t + 1) = z (t + 1)) (e3 : r' 470 = r 470) (e4 : ∀ j, 0 ≤ j → j < 5 * r 470 → r' (471 + j) = r (471 + j)) : TH z' t r' := by
  refine ⟨by rw [e1, e3]; exact h.1, fun k c a b e f => ?_⟩
  rw [e3] at b
  rw [e2, show 471 + 5 * k + c = 471 + (5 * k + c) by omega, e4 (5 * k + c) (by omega) (by omega), h.2 k c a b e f]
  congr 1
  omega
section S46
variable {z z' : ZZ} {r r' : Row} {B : Int}
/-- routes and the archive alone have changed -/
theorem RC_46 (hR : RC z r) (hn : IHn B r) (hz : ∀ a, 3 ≤ a → a ≤ 15 → ¬ (6 ≤ a ∧ a ≤ 9) → z' a = z a) (hr : ∀ j, j < 37 ∨ (470 ≤ j ∧ j < 644) → r' j = r j) (h6 : TL z' 6 r' 37 38 18) (h8 : TL z' 8 r' 644 645 4) : RC z' r' := by
  unfold IHn at hn
  obtain ⟨h1, h2, h3, h4, h5, h6', h7⟩ := hR
  refine ⟨TL_k h1 (hz _ (by omega) (by omega) (by omega)) (hz _ (by omega) (by omega) (by omega)) (hr _ (by omega)) (fun j a b => hr _ (by omega)), h6, h8, TH_k h4 (hz _ (by omega) (by omega) (by omega)) (hz _ (by omega) (by omega) (by omega)) (hr _ (by omega)) (fun j a b => hr _ (by omega)), TL_k h5 (hz _ (by omega) (by omega) (by omega)) (hz _ (by omega) (by omega) (by omega)) (hr _ (by omega)) (fun j a b => hr _ (by omega)), TL_k h6' (hz _ (by omega) (by omega) (by omega)) (hz _ (by omega) (by omega) (by omega)) (hr _ (by omega)) (fun j a b => hr _ (by omega)), ?_⟩
  rw [hz 3 (by omega) (by omega) (by omega), hr 3 (by omega), hr 0 (by omega), hr 1 (by omega), hr 2 (by omega)]
  exact h7
theorem IH_46 (h : IH B r) (hr : ∀ j, j < 37 ∨ (470 ≤ j ∧ j < 644) → r' j = r j) (h37 : 0 ≤ r' 37 ∧ r' 37 ≤ 24) (h644 : 0 ≤ r' 644 ∧ r' 644 ≤ 30) (h6 : IHr B r') : IH B r' := by
  obtain ⟨hn, hw, -, hh, hm, hcc⟩ := h
  have hn' := hn
  unfold IHn at hn'
  have e4 : r' 4 = r 4 := hr _ (by omega)
  have e470 : r' 470 = r 470 := hr _ (by omega)
  have e546 : r' 546 = r 546 := hr _ (by omega)
  have e619 : r' 619 = r 619 := hr _ (by omega)
  refine ⟨?_, fun i a b => ?_, h6, fun i a b => ?_, fun i a b => ?_, fun i a b => ?_⟩
  · unfold IHn
    rw [e4, e470, e546, e619, hr 3 (by omega), hr 0 (by omega), hr 1 (by omega), hr 2 (by omega)]
    omega
  · rw [e4] at b
    rw [hr _ (by omega), hr _ (by omega), hr _ (by omega)]
    exact hw i a b
  · rw [e470] at b
    have q := hh i a b
    rw [e546, hr _ (by omega), hr _ (by omega), hr _ (by omega), hr _ (by omega)]
    refine ⟨q.1, q.2.1, q.2.2.1, q.2.2.2.1, q.2.2.2.2.trans ⟨?_, ?_⟩⟩
    · rintro ⟨m, x, y, w⟩
      exact ⟨m, x, y, by rw [hr _ (by omega)]; exact w⟩
    · rintro ⟨m, x, y, w⟩
      rw [hr _ (by omega)] at w
      exact ⟨m, x, y, w⟩
  · rw [e546] at b
    have q := hm i a b
    rw [e470, e546, e619, hr _ (by omega), hr _ (by omega), hr _ (by omega), hr _ (by omega), hr _ (by omega)]
    refine ⟨q.1, q.2.1, q.2.2.1, q.2.2.2.1, q.2.2.2.2.1, fun m x y => ?_⟩
    rw [hr _ (by omega)]
    exact q.2.2.2.2.2 m x y
  · rw [e619] at b
    rw [hr _ (by omega), hr _ (by omega), hr _ (by omega)]
    exact hcc i a b
end S46
/-- a row added to a table -/
theorem c_addRow {z : ZZ} {t : Nat} (ht : isT t) (hn : 0 ≤ z t 3 ∧ z t 3 < zMR t) : ∃ z', fX4_addRow t z = some (z t 3, z') ∧ z' t 3 = z t 3 + 1 ∧ (∀ j, z' (t + 1) j = if z t 3 * zCO t ≤ j ∧ j < z t 3 * zCO t + zCO t then 0 else z (t + 1) j) ∧ ∀ a, a ≠ t → a ≠ t + 1 → z' a = z a := by
  have hT := isT_all t ht.1 ht.2
  obtain ⟨o, eo, o1, o2, o3⟩ := lp_rel (step := fun q : Int × ZZ => fX4_addRow_s26 t (z t 3) q.1 q.2) (fun _ (a : Unit) => a) (fun i _ s => s.1 = i ∧ s.2 t 3 = z t 3 + 1 ∧ (∀ j, s.2 (t + 1) j = if z t 3 * zCO t ≤ j ∧ j < z t 3 * zCO t + i then 0 else z (t + 1) j) ∧ ∀ a, a ≠ t → a ≠ t + 1 → s.2 a = z a) (fun _ o => o t 3 = z t 3 + 1 ∧ (∀ j, o (t + 1) j = if z t 3 * zCO t ≤ j ∧ j < z t 3 * zCO t + zCO t then 0 else z (t + 1) j) ∧ ∀ a, a ≠ t → a ≠ t + 1 → o a = z a) (zCO t).toNat 0 () (0, zup z t 3 (z t 3 + 1)) FU (FU_lt (by omega)) ⟨rfl, by
      show zup _ _ _ _ t 3 = _
      rw [zup_at, if_pos rfl], fun j => by
      show zup _ _ _ _ (t + 1) j = _
      rw [zup_ne (by omega), if_neg (by omega)], fun a p q => by
      show zup _ _ _ _ a = _
      rw [zup_ne p]⟩ (fun i q s h1 h2 h => by
      obtain ⟨s1, s2⟩ := s
      obtain ⟨x1, x2, x3, x4⟩ := h
      dsimp only at x1 x2 x3 x4
      subst x1
      have k1 : s1 < zCO t := by omega
      have k2 : inR (s1 + 1) := inR_s (by omega)
      have s4 : fX4_set t (z t 3) s1 0 s2 = some (zup s2 (t + 1) (z t 3 * zCO t + s1) 0) := set_ok ht (by rw [x2]; omega) (by rw [x2]; omega) ⟨by omega, k1⟩
      refine ⟨(s1 + 1, zup s2 (t + 1) (z t 3 * zCO t + s1) 0), ?_, rfl, ?_, fun j => ?_, fun a p q => ?_⟩
      · simp only [fX4_addRow_s26, if_pos k1, s4, Option.bind_some, if_pos k2]
      · show zup _ _ _ _ t 3 = _
        rw [zup_ne (by omega)]
        exact x2
      · show zup _ _ _ _ (t + 1) j = _
        rw [zup_at, x3]
        generalize z t 3 * zCO t = b
        by_cases e : j = b + s1
        · rw [if_pos e, if_pos (by omega)]
        · rw [if_neg e]
          by_cases e2 : b ≤ j ∧ j < b + s1
          · rw [if_pos e2, if_pos (by omega)]
          · rw [if_neg e2, if_neg (by omega)]
      · show zup _ _ _ _ a = _
        rw [zup_ne q]
        exact x4 a p q) (fun q s h => by
      obtain ⟨s1, s2⟩ := s
      obtain ⟨x1, x2, x3, x4⟩ := h
      dsimp only at x1 x2 x3 x4
      have e1 : s1 = zCO t := by omega
      rw [show (0 : Int) + ((zCO t).toNat : Nat) = zCO t by omega] at x3
      refine ⟨s2, ?_, x2, x3, x4⟩
      dsimp only
      unfold fX4_addRow_s26
      rw [if_neg (by omega)])
  refine ⟨o, ?_, o1, o2, o3⟩
  unfold fX4_addRow fX4_isFull zl
  rw [if_pos hn.2]
  simp only [Option.bind_some, if_true]
  rw [if_pos (inR_s (by omega))]
  rw [eo]
  rfl
def newR (r : Row) (w g : Int) : Row := fun j => if j = 37 then r 37 + 1 else if 38 + 18 * r 37 ≤ j ∧ j < 38 + 18 * r 37 + 18 then (if j = 38 + 18 * r 37 then w else if j = 38 + 18 * r 37 + 1 then g else if j = 38 + 18 * r 37 + 2 then r 3 else if j < 38 + 18 * r 37 + 6 then 0 else -1) else r j
section ST
variable {z : ZZ} {r : Row} {B v1 v2 : Int}
theorem newR_o {j : Int} (h37 : j ≠ 37) (h : ¬ (38 + 18 * r 37 ≤ j ∧ j < 38 + 18 * r 37 + 18)) : newR r v1 v2 j = r j := by
  unfold newR
  rw [if_neg h37, if_neg h]
theorem newR_n {c : Int} (h0 : 0 ≤ r 37) (h : 0 ≤ c ∧ c < 18) : newR r v1 v2 (38 + 18 * r 37 + c) = if c = 0 then v1 else if c = 1 then v2 else if c = 2 then r 3 else if c < 6 then 0 else -1 := by
  unfold newR
  rw [if_neg (by omega), if_pos (by omega)]
  by_cases e0 : c = 0
  · rw [if_pos (by omega), if_pos e0]
  · rw [if_neg (by omega), if_neg e0]
    by_cases e1 : c = 1
    · rw [if_pos (by omega), if_pos e1]
    · rw [if_neg (by omega), if_neg e1]
      by_cases e2 : c = 2
      · rw [if_pos (by omega), if_pos e2]
      · rw [if_neg (by omega), if_neg e2]
        by_cases e3 : c < 6
        · rw [if_pos (by omega), if_pos e3]
        · rw [if_neg (by omega), if_neg e3]
theorem newR_37 : newR r v1 v2 37 = r 37 + 1 := if_pos rfl
theorem IH_newR (hI : IH B r) (q1 : 0 ≤ v1 ∧ v1 < r 4) (q2 : 0 ≤ v2 ∧ v2 ≤ 29) (q3 : r 37 < 24) : IH B (newR r v1 v2) := by
  have hn := hI.1
  unfold IHn at hn
  refine IH_46 hI (fun j h => newR_o (by omega) (by omega)) (by rw [newR_37]; omega) (by rw [newR_o (by omega) (by omega)]; omega) (fun k a b => ?_)
  rw [newR_37] at b
  rw [newR_o (j := 4) (by omega) (by omega)]
  by_cases e : k = r 37
  · subst e
    rw [newR_n hn.2.2.1 (by omega), newR_n hn.2.2.1 (by omega), newR_n hn.2.2.1 (by omega), newR_n hn.2.2.1 (by omega), newR_n hn.2.2.1 (by omega)]
    refine ⟨q1, q2, by simp; omega, by simp; omega, by simp, fun m x y => ?_⟩
    rw [newR_n hn.2.2.1 (by omega), if_neg (by omega), if_neg (by omega), if_neg (by omega), if_neg (by omega)]
    omega
  · have hx := hI.2.2.1 k a (by omega)
    rw [newR_o (by omega) (by omega), newR_o (by omega) (by omega), newR_o (by omega) (by omega), newR_o (by omega) (by omega), newR_o (by omega) (by omega)]
    refine ⟨hx.1, hx.2.1, hx.2.2.1, hx.2.2.2.1, hx.2.2.2.2.1, fun m x y => ?_⟩
    rw [newR_o (by omega) (by omega)]
    exact hx.2.2.2.2.2 m x y
theorem c_addRoute (hR : RC z r) (hI : IH B r) (q3 : r 37 < 24) : ∃ z', fX1_addRoute v1 v2 z = some (r 37, z') ∧ RC z' (newR r v1 v2) ∧ ∀ a, a ≠ 6 → a ≠ 7 → z' a = z a := by
  have hn := hI.1
  unfold IHn at hn
  obtain ⟨y, ey, y1, y2, y3⟩ := c_addRow (z := z) kT6 (by rw [(RCn hR).2.1]; exact ⟨hn.2.2.1, q3⟩)
  rw [(RCn hR).2.1] at ey y1 y2
  have y2' : ∀ j, y 7 j = if r 37 * 18 ≤ j ∧ j < r 37 * 18 + 18 then 0 else z 7 j := y2
  have s1 : ∀ (x : ZZ) (c v : Int), x 6 3 = r 37 + 1 → 0 ≤ c ∧ c < 18 → fX4_set 6 (r 37) c v x = some (zup x 7 (r 37 * 18 + c) v) := fun x c v hx hc => set_ok kT6 (by rw [hx]; omega) (by rw [hx]; show r 37 + 1 ≤ 24; omega) (show 0 ≤ c ∧ c < 18 from hc)
  have d3 : zup (zup y 7 (r 37 * 18 + 0) v1) 7 (r 37 * 18 + 1) v2 3 7 = r 3 := by
    rw [zup_ne (by decide), zup_ne (by decide), y3 3 (by decide) (by decide), (RCn hR).2.2.2.2.2.2.1]
  generalize hx : zup (zup (zup y 7 (r 37 * 18 + 0) v1) 7 (r 37 * 18 + 1) v2) 7 (r 37 * 18 + 2) (r 3) = x
  have x6 : x 6 3 = r 37 + 1 := by rw [← hx, zup_ne (by decide), zup_ne (by decide), zup_ne (by decide), y1]
  have xo : ∀ a, a ≠ 6 → a ≠ 7 → x a = z a := fun a p q => by rw [← hx, zup_ne q, zup_ne q, zup_ne q, y3 a p q]
  have x7 : ∀ j, x 7 j = if j = r 37 * 18 + 2 then r 3 else if j = r 37 * 18 + 1 then v2 else if j = r 37 * 18 + 0 then v1 else if r 37 * 18 ≤ j ∧ j < r 37 * 18 + 18 then 0 else z 7 j := fun j => by rw [← hx, zup_at, zup_at, zup_at, y2']
  obtain ⟨o, eo, o1, o2, o3⟩ := lp_rel (step := fun q : Int × ZZ => fX1_addRoute_s44 (r 37) q.1 q.2) (fun _ (a : Unit) => a) (fun i _ s => s.1 = i ∧ s.2 6 3 = r 37 + 1 ∧ (∀ j, s.2 7 j = if r 37 * 18 + 6 ≤ j ∧ j < r 37 * 18 + 6 + i then -1 else x 7 j) ∧ ∀ a, a ≠ 7 → s.2 a = x a) (fun _ o => o 6 3 = r 37 + 1 ∧ (∀ j, o 7 j = if r 37 * 18 + 6 ≤ j ∧ j < r 37 * 18 + 18 then -1 else x 7 j) ∧ ∀ a, a ≠ 7 → o a = x a) 12 0 () (0, x) FU (FU_lt (by omega)) ⟨rfl, x6, fun j => by rw [if_neg (by omega)], fun a p => rfl⟩ (fun i q s h1 h2 h => by
      obtain ⟨w1, w2⟩ := s
      obtain ⟨p1, p2, p3, p4⟩ := h
      dsimp only at p1 p2 p3 p4
      subst p1
      have k1 : w1 < 12 := by omega
      have k2 : inR (w1 + 1) := inR_s (by omega)
      have k3 : inR (6 + w1) := inR_s (by omega)
      refine ⟨(w1 + 1, zup w2 7 (r 37 * 18 + (6 + w1)) (-1)), ?_, rfl, ?_, fun j => ?_, fun a p => ?_⟩
      · simp only [fX1_addRoute_s44, if_pos k1, if_pos k3, s1 w2 (6 + w1) (-1) p2 (by omega), Option.bind_some, if_pos k2]
      · dsimp only
        rw [zup_ne (by decide)]
        exact p2
      · show zup _ _ _ _ 7 j = _
        rw [zup_at, p3]
        by_cases e : j = r 37 * 18 + (6 + w1)
        · rw [if_pos e, if_pos (by omega)]
        · rw [if_neg e]
          by_cases e2 : r 37 * 18 + 6 ≤ j ∧ j < r 37 * 18 + 6 + w1
          · rw [if_pos e2, if_pos (by omega)]
          · rw [if_neg e2, if_neg (by omega)]
      · show zup _ _ _ _ a = _
        rw [zup_ne p]
        exact p4 a p) (fun q s h => by
      obtain ⟨w1, w2⟩ := s
      obtain ⟨p1, p2, p3, p4⟩ := h
      dsimp only at p1 p2 p3 p4
      refine ⟨w2, ?_, p2, fun j => ?_, p4⟩
      · dsimp only
        unfold fX1_addRoute_s44
        rw [if_neg (by omega)]
      · rw [p3]
        by_cases e2 : r 37 * 18 + 6 ≤ j ∧ j < r 37 * 18 + 18
        · rw [if_pos e2, if_pos (by omega)]
        · rw [if_neg e2, if_neg (by omega)])
  refine ⟨o, ?_, ?_, fun a p q => (o3 a q).trans (xo a p q)⟩
  · unfold fX1_addRoute
    rw [ey]
    simp only [Option.bind_some]
    rw [s1 y 0 v1 y1 (by omega)]
    simp only [Option.bind_some]
    rw [s1 _ 1 v2 (by rw [zup_ne (by decide)]; exact y1) (by omega)]
    simp only [Option.bind_some]
    rw [d3, s1 _ 2 _ (by rw [zup_ne (by decide), zup_ne (by decide)]; exact y1) (by omega)]
    simp only [Option.bind_some]
    rw [hx, eo]
    rfl
  · refine RC_46 hR hI.1 (fun a p q w => (o3 a (by omega)).trans (xo a (by omega) (by omega))) (fun j h => newR_o (by omega) (by omega)) ⟨by rw [newR_37]; exact o1, fun j a b => ?_⟩ ?_
    · rw [newR_37] at b
      show o 7 j = _
      rw [o2, x7]
      by_cases e : j < 18 * r 37
      · rw [newR_o (by omega) (by omega), if_neg (by omega), if_neg (by omega), if_neg (by omega), if_neg (by omega), if_neg (by omega)]
        exact hR.2.1.2 j a e
      · rw [show 38 + j = 38 + 18 * r 37 + (j - 18 * r 37) by omega, newR_n hn.2.2.1 (by omega)]
        by_cases e6 : r 37 * 18 + 6 ≤ j ∧ j < r 37 * 18 + 18
        · rw [if_pos e6, if_neg (by omega), if_neg (by omega), if_neg (by omega), if_neg (by omega)]
        · rw [if_neg e6]
          by_cases c2 : j = r 37 * 18 + 2
          · rw [if_pos c2, if_neg (by omega), if_neg (by omega), if_pos (by omega)]
          · rw [if_neg c2]
            by_cases c1 : j = r 37 * 18 + 1
            · rw [if_pos c1, if_neg (by omega), if_pos (by omega)]
            · rw [if_neg c1]
              by_cases c0 : j = r 37 * 18 + 0
              · rw [if_pos c0, if_pos (by omega)]
              · rw [if_neg c0, if_pos (by omega), if_neg (by omega), if_neg (by omega), if_neg (by omega), if_pos (by omega)]
    · refine TL_k hR.2.2.1 ((o3 8 (by omega)).trans (xo 8 (by omega) (by omega))) ((o3 9 (by omega)).trans (xo 9 (by omega) (by omega))) (newR_o (by omega) (by omega)) (fun j a b => newR_o (by omega) (by omega))
theorem g_setRoute (hI : IH B r) (q1 : 0 ≤ v1 ∧ v1 < r 4) (q2 : 0 ≤ v2 ∧ v2 ≤ 29) (q3 : ¬ sClosed r v1) (q4 : sCnt (r 37) (fun k => r (38 + 18 * k + 0) = v1) < 5) (q5 : r 37 < 24) : ChgW r (newR r v1 v2) (r 37) (fW_setRoute v1 v2) ∧ IH B (newR r v1 v2) := by
  have hn := hI.1
  unfold IHn at hn
  refine ⟨fun z hR hu hl => ?_, IH_newR hI q1 q2 q5⟩
  · obtain ⟨z1, e1, R1, w1⟩ := c_rem hR hI hu hl
    obtain ⟨z2, e2, R2, f2⟩ := c_addRoute (v1 := v1) (v2 := v2) R1 hI q5
    have ef : fX4_isFull 6 z = some 0 := by
      unfold fX4_isFull
      rw [(RCn hR).2.1, if_pos (show r 37 < zMR 6 from q5)]
    refine ⟨zup z2 159 0 (r 37), ?_, ?_, Qt_RC Qt_159 R2, w1 _ (fun a p1 p2 p3 p4 p5 => ?_)⟩
    · simp only [fW_setRoute, wrp, fX5_setRoute, n_row, n_btw, (RCn hR).1, if_pos q1, if_pos q2, Option.bind_some, c_isClosed hR hI q1, ite_bI, if_neg q3, c_routesOn hR hI, if_pos q4, ef, if_true, e1, e2]
    · rw [zup_at, if_pos rfl]
    · rw [zup_ne p3, f2 a (by omega) (by omega)]
end ST

theorem c_removeRow {z : ZZ} {t : Nat} {k : Int} (ht : isT t) (hk : 0 ≤ k ∧ k < z t 3) (hm : z t 3 ≤ zMR t) : ∃ z', fX4_removeRow t k z = some z' ∧ z' t 3 = z t 3 - 1 ∧ (∀ j, z' (t + 1) j = if k * zCO t ≤ j ∧ j + zCO t < (zTS t : Int) then z (t + 1) (j + zCO t) else z (t + 1) j) ∧ ∀ a, a ≠ t → a ≠ t + 1 → z' a = z a := by
  have hT := isT_all t ht.1 ht.2
  have h1 : 0 ≤ k * zCO t := Int.mul_nonneg hk.1 hT.2.2.2.2.2.1
  have h2 : k * zCO t + zCO t ≤ (zTS t : Int) := by
    have : (k + 1) * zCO t ≤ zMR t * zCO t := Int.mul_le_mul_of_nonneg_right (by omega) hT.2.2.2.2.2.1
    rw [Int.add_mul, Int.one_mul, hT.2.2.2.2.2.2.2] at this
    exact this
  generalize hb : k * zCO t = b at *
  obtain ⟨o, eo, o1, o2⟩ := lp_rel (step := fun q : Int × ZZ => fX4_removeRow_s16 t q.1 q.2) (fun _ (a : Unit) => a) (fun i _ s => s.1 = i ∧ (∀ j, s.2 (t + 1) j = if b ≤ j ∧ j < i then z (t + 1) (j + zCO t) else z (t + 1) j) ∧ ∀ a, a ≠ t + 1 → s.2 a = z a) (fun _ o => (∀ j, o (t + 1) j = if b ≤ j ∧ j + zCO t < (zTS t : Int) then z (t + 1) (j + zCO t) else z (t + 1) j) ∧ ∀ a, a ≠ t + 1 → o a = z a) ((zTS t : Int) - zCO t - b).toNat b () (b, z) FU (FU_lt (by omega)) ⟨rfl, fun j => by rw [if_neg (by omega)], fun _ _ => rfl⟩ (fun i q s g1 g2 h => by
      obtain ⟨s1, s2⟩ := s
      obtain ⟨x1, x3, x4⟩ := h
      dsimp only at x1 x3 x4
      subst x1
      have k1 : inR (s1 + zCO t) := inR_s (by omega)
      have k2 : s1 + zCO t < (zTS t : Int) := by omega
      have k3 : (0 : Int) ≤ s1 + zCO t ∧ s1 + zCO t < (zTS t : Int) := by omega
      have k4 : (0 : Int) ≤ s1 ∧ s1 < (zTS t : Int) := by omega
      have k5 : inR (s1 + 1) := inR_s (by omega)
      have ev : s2 (t + 1) (s1 + zCO t) = z (t + 1) (s1 + zCO t) := by rw [x3, if_neg (by omega)]
      refine ⟨(s1 + 1, zup s2 (t + 1) s1 (z (t + 1) (s1 + zCO t))), ?_, rfl, fun j => ?_, fun a p => ?_⟩
      · simp only [fX4_removeRow_s16, zl, if_pos k1, if_pos k2, if_pos k3, if_pos k4, ev, if_pos k5]
      · show zup _ _ _ _ (t + 1) j = _
        rw [zup_at, x3]
        by_cases e : j = s1
        · rw [if_pos e, if_pos (by omega), e]
        · rw [if_neg e]
          by_cases e2 : b ≤ j ∧ j < s1
          · rw [if_pos e2, if_pos (by omega)]
          · rw [if_neg e2, if_neg (by omega)]
      · show zup _ _ _ _ a = _
        rw [zup_ne p]
        exact x4 a p) (fun q s h => by
      obtain ⟨s1, s2⟩ := s
      obtain ⟨x1, x3, x4⟩ := h
      dsimp only at x1 x3 x4
      have k1 : inR (s1 + zCO t) := inR_s (by omega)
      refine ⟨s2, ?_, fun j => ?_, x4⟩
      · dsimp only
        unfold fX4_removeRow_s16
        rw [if_pos k1, if_neg (by omega)]
      · rw [x3]
        by_cases e2 : b ≤ j ∧ j + zCO t < (zTS t : Int)
        · rw [if_pos e2, if_pos (by omega)]
        · rw [if_neg e2, if_neg (by omega)])
  have ot : o t 3 = z t 3 := by rw [o2 t (by omega)]
  refine ⟨zup o t 3 (z t 3 - 1), ?_, by rw [zup_at, if_pos rfl], fun j => by rw [zup_ne (by omega)]; exact o1 j, fun a p q => by rw [zup_ne p]; exact o2 a q⟩
  have e1 : fX4_hasRow t k z = some 1 := by
    unfold fX4_hasRow
    rw [if_neg (by omega), if_pos hk.2]
  unfold fX4_removeRow zl
  rw [e1]
  simp only [Option.bind_some]
  rw [if_neg (by decide), hb, if_pos (inR_s (by omega)), eo]
  simp only [Option.bind_some]
  rw [ot, if_pos (inR_s (by omega))]
def arA (r : Row) : Row := if r 644 = 30 then (fun j => if j = 644 then 29 else if 645 ≤ j ∧ j < 761 then r (j + 4) else r j) else r
def arB (r : Row) (k g : Int) : Row := fun j => if j = 644 then arA r 644 + 1 else if j = 645 + 4 * arA r 644 + 3 then r (38 + 18 * k + 4) else if j = 645 + 4 * arA r 644 + 2 then r 3 else if j = 645 + 4 * arA r 644 + 1 then g else if j = 645 + 4 * arA r 644 + 0 then r (38 + 18 * k + 0) else arA r j
def offR (r : Row) (k : Int) : Row := fun j => if j = 37 then r 37 - 1 else if 38 + 18 * k ≤ j ∧ j < 38 + 18 * (r 37 - 1) then r (j + 18) else arB r k (sGr r k) j
theorem arA_o {r : Row} {j : Int} (h : j < 644) : arA r j = r j := by
  unfold arA
  split
  · dsimp only
    rw [if_neg (by omega), if_neg (by omega)]
  · rfl
theorem arA_n {r : Row} (h : 0 ≤ r 644 ∧ r 644 ≤ 30) : 0 ≤ arA r 644 ∧ arA r 644 < 30 := by
  by_cases q : r 644 = 30
  · have e : arA r 644 = 29 := by
      unfold arA
      rw [if_pos q]
      rfl
    omega
  · have e : arA r = r := if_neg q
    rw [e]
    omega
section OF
variable {z : ZZ} {r : Row} {B k g : Int}
theorem offR_o {j : Int} (h4 : 0 ≤ arA r 644) (hk : 0 ≤ k) (h : j < 37 ∨ (470 ≤ j ∧ j < 644)) (h3 : r 37 ≤ 24) : offR r k j = r j := by
  unfold offR arB
  rw [if_neg (by omega), if_neg (by omega), if_neg (by omega), if_neg (by omega), if_neg (by omega), if_neg (by omega), if_neg (by omega), arA_o (by omega)]
theorem offR_c {k' c : Int} (hI : IH B r) (hk : 0 ≤ k) (h : 0 ≤ k' ∧ k' < r 37 - 1) (hc : 0 ≤ c ∧ c < 18) : offR r k (38 + 18 * k' + c) = r (38 + 18 * (if k ≤ k' then k' + 1 else k') + c) := by
  have hn := hI.1
  unfold IHn at hn
  have ha := arA_n (r := r) (by omega)
  unfold offR
  rw [if_neg (by omega)]
  by_cases e : k ≤ k'
  · rw [if_pos (by omega), if_pos e]
    congr 1
    omega
  · rw [if_neg (by omega), if_neg e]
    unfold arB
    rw [if_neg (by omega), if_neg (by omega), if_neg (by omega), if_neg (by omega), if_neg (by omega), arA_o (by omega)]
theorem offR_37 : offR r k 37 = r 37 - 1 := if_pos rfl
theorem offR_644 (h3 : r 37 ≤ 24) : offR r k 644 = arA r 644 + 1 := by
  unfold offR arB
  rw [if_neg (by omega), if_neg (by omega), if_pos rfl]
theorem IH_off (hI : IH B r) (hk : 0 ≤ k ∧ k < r 37) : IH B (offR r k) := by
  have hn := hI.1
  unfold IHn at hn
  have ha := arA_n (r := r) (by omega)
  refine IH_46 hI (fun j h => offR_o ha.1 hk.1 h (by omega)) (by rw [offR_37]; omega) (by rw [offR_644 (by omega)]; omega) (fun i a b => ?_)
  rw [offR_37] at b
  have hx := hI.2.2.1 (if k ≤ i then i + 1 else i) (by split <;> omega) (by split <;> omega)
  rw [offR_c hI hk.1 ⟨a, b⟩ (by omega), offR_c hI hk.1 ⟨a, b⟩ (by omega), offR_c hI hk.1 ⟨a, b⟩ (by omega), offR_c hI hk.1 ⟨a, b⟩ (by omega), offR_c hI hk.1 ⟨a, b⟩ (by omega), offR_o ha.1 hk.1 (by omega) (by omega)]
  refine ⟨hx.1, hx.2.1, hx.2.2.1, hx.2.2.2.1, hx.2.2.2.2.1, fun m x y => ?_⟩
  rw [offR_c hI hk.1 ⟨a, b⟩ (by omega)]
  exact hx.2.2.2.2.2 m x y
theorem IH_arA (hI : IH B r) : IH B (arA r) := by
  have hn := hI.1
  unfold IHn at hn
  have ha := arA_n (r := r) (by omega)
  refine IH_46 hI (fun j h => arA_o (by omega)) (by rw [arA_o (by omega)]; omega) (by omega) (fun i a b => ?_)
  rw [arA_o (by omega)] at b
  have hx := hI.2.2.1 i a b
  rw [arA_o (by omega), arA_o (by omega), arA_o (by omega), arA_o (by omega), arA_o (by omega), arA_o (by omega)]
  refine ⟨hx.1, hx.2.1, hx.2.2.1, hx.2.2.2.1, hx.2.2.2.2.1, fun m x y => ?_⟩
  rw [arA_o (by omega)]
  exact hx.2.2.2.2.2 m x y
/-- the class makes room in the archive -/
theorem c_room (hR : RC z r) (hI : IH B r) : ∃ y, (if r 644 < 30 then some z else fX4_removeRow 8 0 z) = some y ∧ RC y (arA r) ∧ ∀ a, a ≠ 8 → a ≠ 9 → y a = z a := by
  have hn := hI.1
  unfold IHn at hn
  by_cases q : r 644 = 30
  · obtain ⟨y, ey, y1, y2, y3⟩ := c_removeRow (z := z) (k := 0) kT8 (by rw [(RCn hR).2.2.1]; omega) (by rw [(RCn hR).2.2.1]; show r 644 ≤ 30; omega)
    have eA : arA r = fun j => if j = 644 then 29 else if 645 ≤ j ∧ j < 761 then r (j + 4) else r j := if_pos q
    refine ⟨y, by rw [if_neg (by omega)]; exact ey, ?_, y3⟩
    refine RC_46 hR hI.1 (fun a p w x => y3 a (by omega) (by omega)) (fun j h => arA_o (by omega)) (TL_k hR.2.1 (y3 6 (by omega) (by omega)) (y3 7 (by omega) (by omega)) (arA_o (by omega)) (fun j a b => arA_o (by omega))) ⟨?_, fun j a b => ?_⟩
    · rw [y1, (RCn hR).2.2.1, q, eA]
      rfl
    · have e29 : arA r 644 = 29 := by rw [eA]; rfl
      rw [e29] at b
      have y2' : y 9 j = if 0 * 4 ≤ j ∧ j + 4 < 120 then z 9 (j + 4) else z 9 j := y2 j
      show y 9 j = _
      rw [y2', if_pos (by omega), eA]
      show _ = if 645 + j = 644 then 29 else if 645 ≤ 645 + j ∧ 645 + j < 761 then r (645 + j + 4) else r (645 + j)
      rw [if_neg (by omega), if_pos (by omega), show z 9 (j + 4) = r (645 + (j + 4)) from hR.2.2.1.2 (j + 4) (by omega) (by omega)]
      congr 1
      omega
  · exact ⟨z, by rw [if_pos (by omega)], by rw [show arA r = r from if_neg q]; exact hR, fun _ _ _ => rfl⟩
theorem c_archive (hR : RC z r) (hI : IH B r) (hk : 0 ≤ k ∧ k < r 37) : ∃ z', fX1_archiveRoute k z = some (sGr r k, z') ∧ RC z' (offR r k) ∧ ∀ a, a ≠ 1 → a ≠ 2 → ¬ (6 ≤ a ∧ a ≤ 9) → z' a = z a := by
  have hn := hI.1
  unfold IHn at hn
  have ha := arA_n (r := r) (by omega)
  obtain ⟨z1, e1, f1⟩ := c_gradeOf hR hI hk
  have R1 := RC_12 hR f1
  obtain ⟨y, ey, R2, f2⟩ := c_room R1 hI
  have I2 := IH_arA hI
  have n8 := (RCn R2).2.2.1
  have n6 := (RCn R2).2.1
  rw [arA_o (by omega)] at n6
  have n3 := (RCn R2).2.2.2.2.2.2.1
  rw [arA_o (by omega)] at n3
  obtain ⟨x, ex, x1, x2, x3⟩ := c_addRow (z := y) kT8 (by rw [n8]; exact ha)
  rw [n8] at ex x1 x2
  have x2' : ∀ j, x 9 j = if arA r 644 * 4 ≤ j ∧ j < arA r 644 * 4 + 4 then 0 else y 9 j := x2
  have r7 : ∀ j, 0 ≤ j → j < 18 * r 37 → y 7 j = r (38 + j) := fun j a b => by
    rw [show y 7 j = arA r (38 + j) from R2.2.1.2 j a (by rw [arA_o (by omega)]; exact b), arA_o (by omega)]
  have g6 : ∀ (w : ZZ) (c : Int), w 6 = y 6 → w 7 = y 7 → 0 ≤ c ∧ c < 18 → fX4_get 6 k c w = some (r (38 + 18 * k + c)) := fun w c h6 h7 hc => by
    rw [get_ok kT6 (by rw [h6, n6]; exact hk) (by rw [h6, n6]; show r 37 ≤ 24; omega) (show 0 ≤ c ∧ c < 18 from hc)]
    show some (w 7 (k * 18 + c)) = _
    rw [h7, r7 _ (by omega) (by omega)]
    congr 2
    omega
  have s8 : ∀ (w : ZZ) (c v : Int), w 8 3 = arA r 644 + 1 → 0 ≤ c ∧ c < 4 → fX4_set 8 (arA r 644) c v w = some (zup w 9 (arA r 644 * 4 + c) v) := fun w c v h8 hc => set_ok kT8 (by rw [h8]; omega) (by rw [h8]; show arA r 644 + 1 ≤ 30; omega) (show 0 ≤ c ∧ c < 4 from hc)
  have g0 := g6 x 0 (x3 6 (by omega) (by omega)) (x3 7 (by omega) (by omega)) (by omega)
  have t0 := s8 x 0 (r (38 + 18 * k + 0)) x1 (by omega)
  have t1 := s8 (zup x 9 (arA r 644 * 4 + 0) (r (38 + 18 * k + 0))) 1 (sGr r k) (by rw [zup_ne (by decide)]; exact x1) (by omega)
  have d3 : zup (zup x 9 (arA r 644 * 4 + 0) (r (38 + 18 * k + 0))) 9 (arA r 644 * 4 + 1) (sGr r k) 3 7 = r 3 := by
    rw [zup_ne (by decide), zup_ne (by decide), x3 3 (by omega) (by omega), n3]
  have t2 := s8 (zup (zup x 9 (arA r 644 * 4 + 0) (r (38 + 18 * k + 0))) 9 (arA r 644 * 4 + 1) (sGr r k)) 2 (r 3) (by rw [zup_ne (by decide), zup_ne (by decide)]; exact x1) (by omega)
  have g4 := g6 (zup (zup (zup x 9 (arA r 644 * 4 + 0) (r (38 + 18 * k + 0))) 9 (arA r 644 * 4 + 1) (sGr r k)) 9 (arA r 644 * 4 + 2) (r 3)) 4 (by rw [zup_ne (by decide), zup_ne (by decide), zup_ne (by decide)]; exact x3 6 (by omega) (by omega)) (by rw [zup_ne (by decide), zup_ne (by decide), zup_ne (by decide)]; exact x3 7 (by omega) (by omega)) (by omega)
  have t3 := s8 (zup (zup (zup x 9 (arA r 644 * 4 + 0) (r (38 + 18 * k + 0))) 9 (arA r 644 * 4 + 1) (sGr r k)) 9 (arA r 644 * 4 + 2) (r 3)) 3 (r (38 + 18 * k + 4)) (by rw [zup_ne (by decide), zup_ne (by decide), zup_ne (by decide)]; exact x1) (by omega)
  generalize hw : zup (zup (zup (zup x 9 (arA r 644 * 4 + 0) (r (38 + 18 * k + 0))) 9 (arA r 644 * 4 + 1) (sGr r k)) 9 (arA r 644 * 4 + 2) (r 3)) 9 (arA r 644 * 4 + 3) (r (38 + 18 * k + 4)) = w at t3
  have wo : ∀ a, a ≠ 8 → a ≠ 9 → w a = y a := fun a p q => by rw [← hw, zup_ne q, zup_ne q, zup_ne q, zup_ne q, x3 a p q]
  have w8 : w 8 3 = arA r 644 + 1 := by rw [← hw, zup_ne (by decide), zup_ne (by decide), zup_ne (by decide), zup_ne (by decide), x1]
  have w9 : ∀ j, w 9 j = if j = arA r 644 * 4 + 3 then r (38 + 18 * k + 4) else if j = arA r 644 * 4 + 2 then r 3 else if j = arA r 644 * 4 + 1 then sGr r k else if j = arA r 644 * 4 + 0 then r (38 + 18 * k + 0) else if arA r 644 * 4 ≤ j ∧ j < arA r 644 * 4 + 4 then 0 else y 9 j := fun j => by rw [← hw, zup_at, zup_at, zup_at, zup_at, x2']
  have w6 : w 6 3 = r 37 := by rw [wo 6 (by omega) (by omega), n6]
  obtain ⟨v, ev, v1, v2, v3⟩ := c_removeRow (z := w) (k := k) kT6 (by rw [w6]; exact hk) (by rw [w6]; show r 37 ≤ 24; omega)
  rw [w6] at v1
  have v2' : ∀ j, v 7 j = if k * 18 ≤ j ∧ j + 18 < 432 then w 7 (j + 18) else w 7 j := v2
  have b24 : fX1_archiveRoute_b24 k (sGr r k) y = some (sGr r k, v) := by
    simp only [fX1_archiveRoute_b24, ex, Option.bind_some, g0, t0, t1, d3, t2, g4, t3, ev]
  refine ⟨v, ?_, ?_, fun a p q u => ?_⟩
  · unfold fX1_archiveRoute fX4_isFull
    rw [e1]
    simp only [Option.bind_some]
    have n81 := (RCn R1).2.2.1
    by_cases q : r 644 < 30
    · rw [if_pos q] at ey
      cases ey
      rw [if_pos (show z1 8 3 < zMR 8 by rw [n81]; exact q)]
      simp only [Option.bind_some, if_true]
      exact b24
    · rw [if_neg q] at ey
      rw [if_neg (show ¬ z1 8 3 < zMR 8 by rw [n81]; exact q)]
      simp only [Option.bind_some]
      rw [if_neg (by decide), ey]
      simp only [Option.bind_some]
      exact b24
  · refine RC_46 R2 I2.1 (fun a p q u => (v3 a (by omega) (by omega)).trans (wo a (by omega) (by omega))) (fun j h => by rw [offR_o ha.1 hk.1 h (by omega), arA_o (by omega)]) ⟨by rw [offR_37]; exact v1, fun j a b => ?_⟩ ⟨?_, fun j a b => ?_⟩
    · rw [offR_37] at b
      show v 7 j = _
      rw [v2', wo 7 (by omega) (by omega)]
      unfold offR
      by_cases e : k * 18 ≤ j
      · rw [if_pos ⟨e, by omega⟩, if_neg (by omega), if_pos (by omega), r7 _ (by omega) (by omega)]
        congr 1
        omega
      · rw [if_neg (fun x => e x.1), if_neg (by omega), if_neg (by omega), r7 _ (by omega) (by omega)]
        unfold arB
        rw [if_neg (by omega), if_neg (by omega), if_neg (by omega), if_neg (by omega), if_neg (by omega), arA_o (by omega)]
    · rw [offR_644 (by omega), v3 8 (by omega) (by omega), w8]
    · rw [offR_644 (by omega)] at b
      show v 9 j = _
      rw [v3 9 (by omega) (by omega), w9]
      unfold offR arB
      have g1 : ¬ 645 + j = 37 := by omega
      have g2 : ¬ (38 + 18 * k ≤ 645 + j ∧ 645 + j < 38 + 18 * (r 37 - 1)) := by omega
      have g3 : ¬ 645 + j = 644 := by omega
      by_cases c3 : j = arA r 644 * 4 + 3
      · rw [if_pos c3, if_neg g1, if_neg g2, if_neg g3, if_pos (by omega)]
      · rw [if_neg c3, if_neg g1, if_neg g2, if_neg g3]
        by_cases c2 : j = arA r 644 * 4 + 2
        · rw [if_pos c2, if_neg (by omega), if_pos (by omega)]
        · rw [if_neg c2]
          by_cases c1 : j = arA r 644 * 4 + 1
          · rw [if_pos c1, if_neg (by omega), if_neg (by omega), if_pos (by omega)]
          · rw [if_neg c1]
            by_cases c0 : j = arA r 644 * 4 + 0
            · rw [if_pos c0, if_neg (by omega), if_neg (by omega), if_neg (by omega), if_pos (by omega)]
            · rw [if_neg c0, if_neg (by omega), if_neg (by omega), if_neg (by omega), if_neg (by omega), if_neg (by omega)]
              exact R2.2.2.1.2 j a (by omega)
  · rw [v3 a (by omega) (by omega), wo a (by omega) (by omega), f2 a (by omega) (by omega), f1 a (by omega)]
theorem g_removeRoute (hI : IH B r) (q1 : 0 ≤ k ∧ k < r 37) : ChgW r (offR r k) (sGr r k) (fW_removeRoute k) ∧ IH B (offR r k) := by
  refine ⟨fun z hR hu hl => ?_, IH_off hI q1⟩
  · obtain ⟨z1, e1, R1, w1⟩ := c_rem hR hI hu hl
    obtain ⟨z2, e2, R2, f2⟩ := c_archive R1 hI q1
    refine ⟨zup z2 159 0 (sGr r k), ?_, ?_, Qt_RC Qt_159 R2, w1 _ (fun a p1 p2 p3 p4 p5 => ?_)⟩
    · simp only [fW_removeRoute, wrp, fX5_removeRoute, n_row, (RCn hR).2.1, if_pos q1, Option.bind_some, e1, e2]
    · rw [zup_at, if_pos rfl]
    · rw [zup_ne p3, f2 a p1 p2 (by omega)]
end OF

def rsF (w : Int) (_ : Int) (q : Row × Int × Int) : Row × Int × Int := if q.1 (38 + 18 * q.2.2 + 0) = w then (offR q.1 q.2.2, q.2.1 + 1, q.2.2) else (q.1, q.2.1, q.2.2 + 1)
def rsE (r : Row) (w : Int) : Row × Int × Int := ita (rsF w) (r 37).toNat 0 (r, 0, 0)
def rsR (r : Row) (w : Int) : Row := rup (rsE r w).1 (5 + 4 * w + 3) (r 3 + r (5 + 4 * w + 2))
def RP (B : Int) (r : Row) (i : Int) (q : Row × Int × Int) : Prop := IH B q.1 ∧ (∀ j, j < 37 ∨ (470 ≤ j ∧ j < 644) → q.1 j = r j) ∧ 0 ≤ q.2.1 ∧ 0 ≤ q.2.2 ∧ q.2.1 + q.2.2 = i ∧ q.1 37 = r 37 - q.2.1
section RS
variable {z : ZZ} {r : Row} {B w : Int}
theorem RP_s {i : Int} {q : Row × Int × Int} (hI : IH B r) (hi : 0 ≤ i ∧ i < r 37) (h : RP B r i q) : RP B r (i + 1) (rsF w i q) := by
  have hn := hI.1
  unfold IHn at hn
  obtain ⟨h1, h2, h3, h4, h5, h6⟩ := h
  have hn1 := h1.1
  unfold IHn at hn1
  have ha := arA_n (r := q.1) (by omega)
  unfold rsF
  split
  · refine ⟨IH_off h1 ⟨h4, by omega⟩, fun j hj => ?_, by show 0 ≤ q.2.1 + 1; omega, h4, by show q.2.1 + 1 + q.2.2 = i + 1; omega, by show offR q.1 q.2.2 37 = r 37 - (q.2.1 + 1); rw [offR_37]; omega⟩
    show offR q.1 q.2.2 j = _
    rw [offR_o ha.1 h4 hj (by omega)]
    exact h2 j hj
  · exact ⟨h1, h2, h3, by show 0 ≤ q.2.2 + 1; omega, by show q.2.1 + (q.2.2 + 1) = i + 1; omega, h6⟩
theorem RP_0 (hI : IH B r) : RP B r 0 (r, 0, 0) := ⟨hI, fun _ _ => rfl, Int.le_refl _, Int.le_refl _, rfl, by show r 37 = r 37 - 0; omega⟩
theorem RP_E (hI : IH B r) : RP B r (r 37) (rsE r w) := by
  have hn := hI.1
  unfold IHn at hn
  have h := ita_P (f := rsF w) (RP B r) (r 37).toNat 0 (r, 0, 0) (RP_0 hI) (fun i a h1 h2 h => RP_s hI (by omega) h)
  rw [show (0 : Int) + ((r 37).toNat : Nat) = r 37 by omega] at h
  exact h
theorem IH_rsR (hI : IH B r) (hw : 0 ≤ w ∧ w < r 4) : IH B (rsR r w) ∧ (∀ j, j < 5 ∨ (470 ≤ j ∧ j < 644) → rsR r w j = r j) ∧ 0 ≤ (rsE r w).2.1 ∧ (rsE r w).2.1 ≤ 24 := by
  have hn := hI.1
  unfold IHn at hn
  have hp := (hI.2.1 w hw.1 hw.2).2.1
  obtain ⟨h1, h2, h3, h4, h5, h6⟩ := RP_E (w := w) hI
  refine ⟨IH_up4 h1 (by rw [h2 4 (by omega)]; exact hw) (by omega), fun j hj => ?_, h3, by omega⟩
  unfold rsR
  rw [rup_ne (by omega), h2 j (by omega)]
theorem c_resetWall (hR : RC z r) (hI : IH B r) (hw : 0 ≤ w ∧ w < r 4) : ∃ z', fX1_resetWall w z = some ((rsE r w).2.1, z') ∧ RC z' (rsR r w) ∧ ∀ a, a ≠ 1 → a ≠ 2 → ¬ (5 ≤ a ∧ a ≤ 9) → z' a = z a := by
  have hn := hI.1
  unfold IHn at hn
  have hp := (hI.2.1 w hw.1 hw.2).2.1
  obtain ⟨h1, h2, h3, h4, h5, h6⟩ := RP_E (w := w) hI
  obtain ⟨o, eo, o1, o2, o3⟩ := lp_rel (step := fun q : Int × Int × Int × ZZ => fX1_resetWall_s16 w (z 6 3) q.1 q.2.1 q.2.2.1 q.2.2.2) (rsF w) (fun i q s => RP B r i q ∧ s.1 = q.2.1 ∧ s.2.1 = q.2.2 ∧ s.2.2.1 = i ∧ RC s.2.2.2 q.1 ∧ ∀ a, a ≠ 1 → a ≠ 2 → ¬ (6 ≤ a ∧ a ≤ 9) → s.2.2.2 a = z a) (fun q o => o.1 = q.2.1 ∧ RC o.2 q.1 ∧ ∀ a, a ≠ 1 → a ≠ 2 → ¬ (6 ≤ a ∧ a ≤ 9) → o.2 a = z a) (r 37).toNat 0 (r, 0, 0) (0, 0, 0, z) FU (FU_lt (by omega)) ⟨RP_0 hI, rfl, rfl, rfl, hR, fun _ _ _ _ => rfl⟩ (fun i q s g1 g2 h => by
      obtain ⟨s1, s2, s3, s4⟩ := s
      obtain ⟨hF, x1, x2, x3, x4, x5⟩ := h
      dsimp only at x1 x2 x3 x4 x5
      subst x1 x2 x3
      have hF1 := RP_s (w := w) hI (show 0 ≤ s3 ∧ s3 < r 37 by omega) hF
      obtain ⟨y1, y2, y3, y4, y5, y6⟩ := hF
      have k1 : s3 < z 6 3 := by rw [(RCn hR).2.1]; omega
      have k2 : inR (s3 + 1) := inR_s (by omega)
      have k3 : inR (q.2.1 + 1) := inR_s (by omega)
      have k4 : inR (q.2.2 + 1) := inR_s (by omega)
      have g6 := cg6 x4 y1 (k := q.2.2) (c := 0) ⟨y4, by omega⟩ (by omega)
      dsimp only
      by_cases hb : q.1 (38 + 18 * q.2.2 + 0) = w
      · obtain ⟨v, ev, Rv, fv⟩ := c_archive x4 y1 (k := q.2.2) ⟨y4, by omega⟩
        refine ⟨(q.2.1 + 1, q.2.2, s3 + 1, v), ?_, hF1, ?_, ?_, rfl, ?_, fun a p1 p2 p3 => (fv a p1 p2 p3).trans (x5 a p1 p2 p3)⟩
        · simp only [fX1_resetWall_s16, fX1_resetWall_b51, if_pos k1, g6, Option.bind_some, if_pos hb, ev, if_pos k3, if_pos k2]
        · simp only [rsF, if_pos hb]
        · simp only [rsF, if_pos hb]
        · simp only [rsF, if_pos hb]
          exact Rv
      · refine ⟨(q.2.1, q.2.2 + 1, s3 + 1, s4), ?_, hF1, ?_, ?_, rfl, ?_, x5⟩
        · simp only [fX1_resetWall_s16, fX1_resetWall_b51, if_pos k1, g6, Option.bind_some, if_neg hb, if_pos k4, if_pos k2]
        · simp only [rsF, if_neg hb]
        · simp only [rsF, if_neg hb]
        · simp only [rsF, if_neg hb]
          exact x4) (fun q s h => by
      obtain ⟨s1, s2, s3, s4⟩ := s
      obtain ⟨hF, x1, x2, x3, x4, x5⟩ := h
      dsimp only at x1 x2 x3 x4 x5
      subst x1 x2 x3
      refine ⟨(q.2.1, s4), ?_, rfl, x4, x5⟩
      dsimp only
      unfold fX1_resetWall_s16
      rw [if_neg (by rw [(RCn hR).2.1]; omega)])
  obtain ⟨ov, oz⟩ := o
  dsimp only at o1 o2 o3 eo
  subst o1
  have eo' : zlp (fun q : Int × Int × Int × ZZ => fX1_resetWall_s16 w (z 6 3) q.1 q.2.1 q.2.2.1 q.2.2.2) FU (0, 0, 0, z) = some ((rsE r w).2.1, oz) := eo
  have o2' : RC oz (rsE r w).1 := o2
  have g4 := cg4 o2' h1 (k := w) (c := 2) (by rw [h2 4 (by omega)]; exact hw) (by omega)
  rw [h2 (5 + 4 * w + 2) (by omega)] at g4
  have d3 : oz 3 7 = r 3 := by rw [(RCn o2').2.2.2.2.2.2.1, h2 3 (by omega)]
  have s4 : fX4_set 4 w 3 (r 3 + r (5 + 4 * w + 2)) oz = some (zup oz 5 (w * 4 + 3) (r 3 + r (5 + 4 * w + 2))) := set_ok kT4 (by rw [(RCn o2').1, h2 4 (by omega)]; exact hw) (by rw [(RCn o2').1, h2 4 (by omega)]; show r 4 ≤ 8; omega) (show (0 : Int) ≤ 3 ∧ (3 : Int) < 4 by omega)
  have i1 : inR (r 3 + r (5 + 4 * w + 2)) := inR_s (by omega)
  refine ⟨zup oz 5 (w * 4 + 3) (r 3 + r (5 + 4 * w + 2)), ?_, RC_up4 o2' h1.1 (by rw [h2 4 (by omega)]; exact hw) (by omega), fun a p1 p2 p3 => by rw [zup_ne (by omega)]; exact o3 a p1 p2 (by omega)⟩
  simp only [fX1_resetWall, eo', Option.bind_some, g4, d3, if_pos i1, s4]
end RS
def dwF (w : Int) (q : Row × Int) : Row × Int := if sClosed q.1 w then (rsR q.1 w, q.2 + (rsE q.1 w).2.1) else q
def dwE (r : Row) : Row × Int := ita dwF (r 4).toNat 0 (r, 0)
def mkF (m : Int) (q : Row) : Row := if q (547 + 6 * m + 3) = -1 then q else rup q (547 + 6 * m + 5) (q (547 + 6 * m + 5) + 1)
def mkE (r : Row) : Row := ita mkF (r 546).toNat 0 r
def dayR (r : Row) : Row := rup (mkE (dwE r).1) 3 (r 3 + 1)
def DP (B : Int) (r : Row) (i : Int) (q : Row × Int) : Prop := IH B q.1 ∧ (∀ j, j < 5 ∨ (470 ≤ j ∧ j < 644) → q.1 j = r j) ∧ 0 ≤ q.2 ∧ q.2 ≤ 24 * i
def KP (B : Int) (r : Row) (i : Int) (q : Row) : Prop := IH (B + 1) q ∧ ∀ j, j < 547 ∨ 547 + 6 * i ≤ j → q j = r j
section DY
variable {z : ZZ} {r : Row} {B : Int}
theorem DP_s {i : Int} {q : Row × Int} (hi : 0 ≤ i ∧ i < r 4) (h : DP B r i q) : DP B r (i + 1) (dwF i q) := by
  obtain ⟨h1, h2, h3, h4⟩ := h
  obtain ⟨g1, g2, g3, g4⟩ := IH_rsR (w := i) h1 (by rw [h2 4 (by omega)]; exact hi)
  unfold dwF
  split
  · refine ⟨g1, fun j hj => ?_, by show 0 ≤ q.2 + _; omega, by show q.2 + _ ≤ _; omega⟩
    show rsR q.1 i j = _
    rw [g2 j hj, h2 j hj]
  · exact ⟨h1, h2, h3, by omega⟩
theorem DP_0 (hI : IH B r) : DP B r 0 (r, 0) := ⟨hI, fun _ _ => rfl, Int.le_refl _, Int.le_refl _⟩
theorem DP_E (hI : IH B r) : DP B r (r 4) (dwE r) := by
  have hn := hI.1
  unfold IHn at hn
  have h := ita_P (f := dwF) (DP B r) (r 4).toNat 0 (r, 0) (DP_0 hI) (fun i a h1 h2 h => DP_s (by omega) h)
  rw [show (0 : Int) + ((r 4).toNat : Nat) = r 4 by omega] at h
  exact h
theorem KP_s {i : Int} {q : Row} (hI : IH B r) (hi : 0 ≤ i ∧ i < r 546) (h : KP B r i q) : KP B r (i + 1) (mkF i q) := by
  obtain ⟨h1, h2⟩ := h
  have hk := (hI.2.2.2.2.1 i hi.1 hi.2).2.2.2.2.1
  have e5 := h2 (547 + 6 * i + 5) (by omega)
  unfold mkF
  split
  · exact ⟨h1, fun j hj => h2 j (by omega)⟩
  · refine ⟨IH_up12 h1 (by rw [h2 546 (by omega)]; exact hi) (by omega) (by omega) ⟨fun e => by omega, fun e => by omega, fun e => by omega, fun _ => by rw [e5]; omega⟩, fun j hj => ?_⟩
    rw [rup_ne (by omega)]
    exact h2 j (by omega)
theorem KP_0 (hI : IH B r) (hB : B + 1 ≤ 1000000) : KP B r 0 r := ⟨IH_mono hI (by omega) hB, fun _ _ => rfl⟩
theorem KP_E (hI : IH B r) (hB : B + 1 ≤ 1000000) : KP B r (r 546) (mkE r) := by
  have hn := hI.1
  unfold IHn at hn
  have h := ita_P (f := mkF) (KP B r) (r 546).toNat 0 r (KP_0 hI hB) (fun i a h1 h2 h => KP_s hI (by omega) h)
  rw [show (0 : Int) + ((r 546).toNat : Nat) = r 546 by omega] at h
  exact h
theorem IH_up3 {v : Int} (hI : IH B r) (hv : 0 ≤ v ∧ v ≤ 9999) : IH B (rup r 3 v) := by
  have hn := hI.1
  unfold IHn at hn
  obtain ⟨hn', hw, hr, hh, hm, hcc⟩ := hI
  have eX : ∀ i, i ≠ 3 → rup r 3 v i = r i := fun m a => rup_ne a
  refine ⟨?_, fun i a b => ?_, fun i a b => ?_, fun i a b => ?_, fun i a b => ?_, fun i a b => ?_⟩
  · unfold IHn
    rw [eX 4 (by omega), eX 37 (by omega), eX 470 (by omega), eX 546 (by omega), eX 619 (by omega), eX 644 (by omega), rup_at, if_pos rfl, eX 0 (by omega), eX 1 (by omega), eX 2 (by omega)]
    omega
  · rw [eX 4 (by omega)] at b
    rw [eX _ (by omega), eX _ (by omega), eX _ (by omega)]
    exact hw i a b
  · rw [eX 37 (by omega)] at b
    have q := hr i a b
    rw [eX _ (by omega), eX _ (by omega), eX _ (by omega), eX _ (by omega), eX _ (by omega), eX _ (by omega)]
    refine ⟨q.1, q.2.1, q.2.2.1, q.2.2.2.1, q.2.2.2.2.1, fun m x y => ?_⟩
    rw [eX _ (by omega)]
    exact q.2.2.2.2.2 m x y
  · rw [eX 470 (by omega)] at b
    have q := hh i a b
    rw [eX 546 (by omega), eX _ (by omega), eX _ (by omega), eX _ (by omega), eX _ (by omega)]
    refine ⟨q.1, q.2.1, q.2.2.1, q.2.2.2.1, q.2.2.2.2.trans ⟨?_, ?_⟩⟩
    · rintro ⟨m, x, y, w⟩
      exact ⟨m, x, y, by rw [eX _ (by omega)]; exact w⟩
    · rintro ⟨m, x, y, w⟩
      rw [eX _ (by omega)] at w
      exact ⟨m, x, y, w⟩
  · rw [eX 546 (by omega)] at b
    have q := hm i a b
    rw [eX 470 (by omega), eX 546 (by omega), eX 619 (by omega), eX _ (by omega), eX _ (by omega), eX _ (by omega), eX _ (by omega), eX _ (by omega)]
    refine ⟨q.1, q.2.1, q.2.2.1, q.2.2.2.1, q.2.2.2.2.1, fun m x y => ?_⟩
    rw [eX _ (by omega)]
    exact q.2.2.2.2.2 m x y
  · rw [eX 619 (by omega)] at b
    rw [eX _ (by omega), eX _ (by omega), eX _ (by omega)]
    exact hcc i a b
theorem RC_up3 {v : Int} (hR : RC z r) (hn : IHn B r) : RC (zup z 3 7 v) (rup r 3 v) := by
  unfold IHn at hn
  have k : ∀ a, a ≠ 3 → zup z 3 7 v a = z a := fun a p => zup_ne p
  obtain ⟨h1, h2, h3, h4, h5, h6, h7, h8, h9, h10⟩ := hR
  refine ⟨TL_k h1 (k _ (by decide)) (k _ (by decide)) (rup_ne (by omega)) (fun j a b => rup_ne (by omega)), TL_k h2 (k _ (by decide)) (k _ (by decide)) (rup_ne (by omega)) (fun j a b => rup_ne (by omega)), TL_k h3 (k _ (by decide)) (k _ (by decide)) (rup_ne (by omega)) (fun j a b => rup_ne (by omega)), TH_k h4 (k _ (by decide)) (k _ (by decide)) (rup_ne (by omega)) (fun j a b => rup_ne (by omega)), TL_k h5 (k _ (by decide)) (k _ (by decide)) (rup_ne (by omega)) (fun j a b => rup_ne (by omega)), TL_k h6 (k _ (by decide)) (k _ (by decide)) (rup_ne (by omega)) (fun j a b => rup_ne (by omega)), ?_, ?_, ?_, ?_⟩
  · rw [zup_at, if_pos rfl, rup_at, if_pos rfl]
  · rw [zup_at, if_neg (by decide), rup_ne (by omega)]; exact h8
  · rw [zup_at, if_neg (by decide), rup_ne (by omega)]; exact h9
  · rw [zup_at, if_neg (by decide), rup_ne (by omega)]; exact h10
theorem IH_day (hI : IH B r) (hB : B + 1 ≤ 1000000) (h3 : r 3 < 9999) : IH (B + 1) (dayR r) ∧ dayR r 3 = r 3 + 1 ∧ 0 ≤ (dwE r).2 ∧ (dwE r).2 ≤ 192 := by
  have hn := hI.1
  unfold IHn at hn
  obtain ⟨h1, h2, h4, h5⟩ := DP_E hI
  obtain ⟨g1, g2⟩ := KP_E h1 hB
  exact ⟨IH_up3 g1 (by omega), by unfold dayR; rw [rup_at, if_pos rfl], h4, by omega⟩
theorem c_endDay (hR : RC z r) (hI : IH B r) (hB : B + 1 ≤ 1000000) (h3 : r 3 < 9999) : ∃ z', fX1_endDay z = some ((dwE r).2, z') ∧ RC z' (dayR r) ∧ ∀ a, a ≠ 1 → a ≠ 2 → ¬ (3 ≤ a ∧ a ≤ 15) → z' a = z a := by
  have hn := hI.1
  unfold IHn at hn
  obtain ⟨d1, d2, d4, d5⟩ := DP_E hI
  obtain ⟨m1, m2⟩ := KP_E d1 hB
  obtain ⟨o, eo, o1, o2, o3⟩ := lp_rel (step := fun q : Int × Int × ZZ => fX1_endDay_s4 q.1 q.2.1 q.2.2) dwF (fun i q s => DP B r i q ∧ s.1 = q.2 ∧ s.2.1 = i ∧ RC s.2.2 q.1 ∧ ∀ a, a ≠ 1 → a ≠ 2 → ¬ (3 ≤ a ∧ a ≤ 15) → s.2.2 a = z a) (fun q o => o.1 = q.2 ∧ RC o.2 q.1 ∧ ∀ a, a ≠ 1 → a ≠ 2 → ¬ (3 ≤ a ∧ a ≤ 15) → o.2 a = z a) (r 4).toNat 0 (r, 0) (0, 0, z) FU (FU_lt (by omega)) ⟨DP_0 hI, rfl, rfl, hR, fun _ _ _ _ => rfl⟩ (fun i q s g1 g2 h => by
      obtain ⟨s1, s2, s3⟩ := s
      obtain ⟨hF, x1, x2, x4, x5⟩ := h
      dsimp only at x1 x2 x4 x5
      subst x1 x2
      have hF1 := DP_s (show 0 ≤ s2 ∧ s2 < r 4 by omega) hF
      obtain ⟨y1, y2, y3, y4⟩ := hF
      have e4 := y2 4 (by omega)
      have k1 : s2 < s3 4 3 := by rw [(RCn x4).1, e4]; omega
      have k2 : inR (s2 + 1) := inR_s (by omega)
      have hw : 0 ≤ s2 ∧ s2 < q.1 4 := by rw [e4]; omega
      have gc := c_isClosed x4 y1 hw
      have hb4 := (IH_rsR y1 hw).2.2
      have k3 : inR (q.2 + (rsE q.1 s2).2.1) := inR_s (by omega)
      dsimp only
      by_cases hb : sClosed q.1 s2
      · obtain ⟨v, ev, Rv, fv⟩ := c_resetWall x4 y1 hw
        refine ⟨(q.2 + (rsE q.1 s2).2.1, s2 + 1, v), ?_, hF1, ?_, rfl, ?_, fun a p1 p2 p3 => (fv a p1 p2 (by omega)).trans (x5 a p1 p2 p3)⟩
        · simp only [fX1_endDay_s4, fX1_endDay_b31, if_pos k1, gc, Option.bind_some, ite_bI, if_pos hb, ev, if_pos k3, if_pos k2]
        · simp only [dwF, if_pos hb]
        · simp only [dwF, if_pos hb]
          exact Rv
      · refine ⟨(q.2, s2 + 1, s3), ?_, hF1, ?_, rfl, ?_, x5⟩
        · simp only [fX1_endDay_s4, fX1_endDay_b31, if_pos k1, gc, Option.bind_some, ite_bI, if_neg hb, if_pos k2]
        · simp only [dwF, if_neg hb]
        · simp only [dwF, if_neg hb]
          exact x4) (fun q s h => by
      obtain ⟨s1, s2, s3⟩ := s
      obtain ⟨hF, x1, x2, x4, x5⟩ := h
      dsimp only at x1 x2 x4 x5
      subst x1 x2
      have e4 := hF.2.1 4 (by omega)
      refine ⟨(q.2, s3), ?_, rfl, x4, x5⟩
      dsimp only
      unfold fX1_endDay_s4
      rw [if_neg (by rw [(RCn x4).1, e4]; omega)])
  obtain ⟨ov, oz⟩ := o
  dsimp only at o1 o2 o3 eo
  subst o1
  have eo' : zlp (fun q : Int × Int × ZZ => fX1_endDay_s4 q.1 q.2.1 q.2.2) FU (0, 0, z) = some ((dwE r).2, oz) := eo
  have o2' : RC oz (dwE r).1 := o2
  have e546 : (dwE r).1 546 = r 546 := d2 546 (by omega)
  obtain ⟨p, ep, p1, p2⟩ := lp_rel (step := fun q : Int × ZZ => fX1_endDay_s39 (dwE r).2 q.1 q.2) mkF (fun i q s => KP B (dwE r).1 i q ∧ s.1 = i ∧ RC s.2 q ∧ ∀ a, a ≠ 13 → s.2 a = oz a) (fun q o => RC o q ∧ ∀ a, a ≠ 13 → o a = oz a) ((dwE r).1 546).toNat 0 (dwE r).1 (0, oz) FU (FU_lt (by omega)) ⟨KP_0 d1 hB, rfl, o2', fun _ _ => rfl⟩ (fun i q s g1 g2 h => by
      obtain ⟨s2, s3⟩ := s
      obtain ⟨hF, x2, x4, x5⟩ := h
      dsimp only at x2 x4 x5
      subst x2
      have hF1 := KP_s d1 (show 0 ≤ s2 ∧ s2 < (dwE r).1 546 by omega) hF
      obtain ⟨y1, y2⟩ := hF
      have f546 := y2 546 (by omega)
      have hm : 0 ≤ s2 ∧ s2 < q 546 := by rw [f546]; omega
      have k1 : s2 < s3 12 3 := by rw [(RCn x4).2.2.2.2.1]; omega
      have k2 : inR (s2 + 1) := inR_s (by omega)
      have gh := c_harnessOf x4 y1 hm
      have hk := (y1.2.2.2.2.1 s2 hm.1 hm.2).2.2.2.2.1
      have hn1 := y1.1
      unfold IHn at hn1
      dsimp only
      by_cases hb : q (547 + 6 * s2 + 3) = -1
      · refine ⟨(s2 + 1, s3), ?_, hF1, rfl, ?_, x5⟩
        · simp only [fX1_endDay_s39, fX1_endDay_b69, if_pos k1, gh, Option.bind_some, if_pos hb, if_pos k2]
        · simp only [mkF, if_pos hb]
          exact x4
      · have ey : s3 13 (s2 * 6 + 5) = q (547 + 6 * s2 + 5) := by
          rw [show s3 13 (s2 * 6 + 5) = _ from x4.2.2.2.2.1.2 (s2 * 6 + 5) (by omega) (by omega)]
          congr 1
          omega
        have s6 : fX4_add 12 s2 5 1 s3 = some (zup s3 13 (s2 * 6 + 5) (q (547 + 6 * s2 + 5) + 1)) := by
          have := add_ok (z := s3) (k := s2) (c := 5) (v := 1) kT12 (by rw [(RCn x4).2.2.2.2.1]; exact hm) (by rw [(RCn x4).2.2.2.2.1]; show q 546 ≤ 12; omega) (show (0 : Int) ≤ 5 ∧ (5 : Int) < 6 by omega) (by
            show inR (s3 13 (s2 * 6 + 5) + 1)
            rw [ey]
            exact inR_s (by omega))
          rw [show s3 (12 + 1) (s2 * zCO 12 + 5) = _ from ey] at this
          exact this
        refine ⟨(s2 + 1, zup s3 13 (s2 * 6 + 5) (q (547 + 6 * s2 + 5) + 1)), ?_, hF1, rfl, ?_, fun a w => ?_⟩
        · simp only [fX1_endDay_s39, fX1_endDay_b69, if_pos k1, gh, Option.bind_some, if_neg hb, s6, if_pos k2]
        · simp only [mkF, if_neg hb]
          exact RC_up12 x4 y1.1 hm (by omega)
        · show zup _ _ _ _ a = _
          rw [zup_ne w]
          exact x5 a w) (fun q s h => by
      obtain ⟨s2, s3⟩ := s
      obtain ⟨hF, x2, x4, x5⟩ := h
      dsimp only at x2 x4 x5
      subst x2
      have f546 := hF.2 546 (by omega)
      refine ⟨s3, ?_, x4, x5⟩
      dsimp only
      unfold fX1_endDay_s39
      rw [if_neg (by rw [(RCn x4).2.2.2.2.1]; omega)])
  have p1' : RC p (mkE (dwE r).1) := p1
  have d37 : p 3 7 = r 3 := by rw [(RCn p1').2.2.2.2.2.2.1, m2 3 (by omega), d2 3 (by omega)]
  have i1 : inR (r 3 + 1) := inR_s (by omega)
  refine ⟨zup p 3 7 (r 3 + 1), ?_, RC_up3 p1' m1.1, fun a q1 q2 q3 => by rw [zup_ne (by omega), p2 a (by omega)]; exact o3 a q1 q2 q3⟩
  simp only [fX1_endDay, zl, eo', Option.bind_some, ep, d37, if_pos i1]
def edF (_ : Int) (q : Row × Int) : Row × Int := (dayR q.1, q.2 + (dwE q.1).2)
def EP (B : Int) (r : Row) (i : Int) (q : Row × Int) : Prop := IH (B + i) q.1 ∧ q.1 3 = r 3 + i ∧ 0 ≤ q.2 ∧ q.2 ≤ 192 * i
theorem EP_s {i n : Int} {q : Row × Int} (hB : B ≤ 900000) (hd : r 3 + n ≤ 9999) (hi : 0 ≤ i ∧ i < n) (hn : n ≤ 60) (h : EP B r i q) : EP B r (i + 1) (edF i q) := by
  obtain ⟨h1, h2, h3, h4⟩ := h
  obtain ⟨g1, g2, g3, g4⟩ := IH_day h1 (by omega) (by omega)
  refine ⟨by rw [show B + (i + 1) = B + i + 1 by omega]; exact g1, by show dayR q.1 3 = _; omega, by show 0 ≤ q.2 + _; omega, by show q.2 + _ ≤ _; omega⟩
theorem EP_0 (hI : IH B r) : EP B r 0 (r, 0) := ⟨by rw [Int.add_zero]; exact hI, by show r 3 = r 3 + 0; omega, Int.le_refl _, Int.le_refl _⟩
theorem g_endDays {v1 : Int} (hI : IH B r) (hB : B ≤ 900000) (q1 : 1 ≤ v1 ∧ v1 ≤ 60) (q2 : r 3 + v1 ≤ 9999) : ChgW r (ita edF v1.toNat 0 (r, 0)).1 (ita edF v1.toNat 0 (r, 0)).2 (fW_endDays v1) ∧ IH (B + 60) (ita edF v1.toNat 0 (r, 0)).1 := by
  have hn := hI.1
  unfold IHn at hn
  have FE := ita_P (f := edF) (EP B r) v1.toNat 0 (r, 0) (EP_0 hI) (fun i a h1 h2 h => EP_s hB q2 (by omega) q1.2 h)
  have ed : ∀ z : ZZ, RC z r → z 3 7 = r 3 := fun z hR => (RCn hR).2.2.2.2.2.2.1
  have i1 : inR (r 3 + v1) := inR_s (by omega)
  have q3 : 1 ≤ r 3 + v1 ∧ r 3 + v1 ≤ 9999 := by omega
  refine ⟨fun z hR hu hl => ?_, IH_mono FE.1 (by omega) (by omega)⟩
  · obtain ⟨z1, e1, R1, w1⟩ := c_rem hR hI hu hl
    obtain ⟨o, eo, o1, o2, o3⟩ := lp_rel (step := fun q : Int × Int × ZZ => fX5_endDays_s38 v1 q.1 q.2.1 q.2.2) edF (fun i q s => EP B r i q ∧ s.1 = q.2 ∧ s.2.1 = i ∧ RC s.2.2 q.1 ∧ ∀ a, a ≠ 1 → a ≠ 2 → ¬ (3 ≤ a ∧ a ≤ 15) → s.2.2 a = z1 a) (fun q o => o.1 = q.2 ∧ RC o.2 q.1 ∧ ∀ a, a ≠ 1 → a ≠ 2 → ¬ (3 ≤ a ∧ a ≤ 15) → o.2 a = z1 a) v1.toNat 0 (r, 0) (0, 0, z1) FU (FU_lt (by omega)) ⟨EP_0 hI, rfl, rfl, R1, fun _ _ _ _ => rfl⟩ (fun i q s g1 g2 h => by
        obtain ⟨s1, s2, s3⟩ := s
        obtain ⟨hF, x1, x2, x4, x5⟩ := h
        dsimp only at x1 x2 x4 x5
        subst x1 x2
        have hF1 := EP_s hB q2 (show 0 ≤ s2 ∧ s2 < v1 by omega) q1.2 hF
        obtain ⟨y1, y2, y3, y4⟩ := hF
        obtain ⟨v, ev, Rv, fv⟩ := c_endDay x4 y1 (by omega) (by omega)
        have hb := (IH_day y1 (by omega) (by omega)).2.2
        have k1 : s2 < v1 := by omega
        have k2 : inR (s2 + 1) := inR_s (by omega)
        have k3 : inR (q.2 + (dwE q.1).2) := inR_s (by omega)
        refine ⟨(q.2 + (dwE q.1).2, s2 + 1, v), ?_, hF1, rfl, rfl, Rv, fun a p1 p2 p3 => (fv a p1 p2 p3).trans (x5 a p1 p2 p3)⟩
        simp only [fX5_endDays_s38, if_pos k1, ev, Option.bind_some, if_pos k3, if_pos k2]) (fun q s h => by
        obtain ⟨s1, s2, s3⟩ := s
        obtain ⟨hF, x1, x2, x4, x5⟩ := h
        dsimp only at x1 x2 x4 x5
        subst x1 x2
        refine ⟨(q.2, s3), ?_, rfl, x4, x5⟩
        dsimp only
        unfold fX5_endDays_s38
        rw [if_neg (by omega)])
    obtain ⟨ov, oz⟩ := o
    dsimp only at o1 o2 o3 eo
    subst o1
    refine ⟨zup oz 159 0 (ita edF v1.toNat 0 (r, 0)).2, ?_, ?_, Qt_RC Qt_159 o2, w1 _ (fun a p1 p2 p3 p4 p5 => ?_)⟩
    · simp only [fW_endDays, wrp, fX5_endDays, n_btw, ed z hR, if_pos q1, if_pos i1, if_pos q3, Option.bind_some, e1, eo]
    · rw [zup_at, if_pos rfl]
    · rw [zup_ne p3, o3 a p1 p2 p5]
end DY


/-! a loop that changes what is beside it; bits of any number; finishing a course -/
theorem lp_rel {S R A : Type} {step : S → Option (S ⊕ R)} (f : Int → A → A) (Rel : Int → A → S → Prop) (Out : A → R → Prop) : ∀ (n : Nat) (lo : Int) (a : A) (s : S) (fuel : Nat), n < fuel → Rel lo a s →
    (∀ i a s, lo ≤ i → i < lo + n → Rel i a s → ∃ s', step s = some (.inl s') ∧ Rel (i + 1) (f i a) s') → (∀ a s, Rel (lo + n) a s → ∃ r, step s = some (.inr r) ∧ Out a r) →
    ∃ r, zlp step fuel s = some r ∧ Out (ita f n lo a) r
  | 0, lo, a, s, fuel, hf, hP, _, h2 => by
    obtain ⟨m, rfl⟩ : ∃ m, fuel = m + 1 := ⟨fuel - 1, by omega⟩
    have e0 : lo + (0 : Nat) = lo := by omega
    rw [e0] at h2
    obtain ⟨r, e, o⟩ := h2 a s hP
    exact ⟨r, zlp_end e, o⟩
  | n + 1, lo, a, s, fuel, hf, hP, h1, h2 => by
    obtain ⟨m, rfl⟩ : ∃ m, fuel = m + 1 := ⟨fuel - 1, by omega⟩
    obtain ⟨s', e, hR⟩ := h1 lo a s (Int.le_refl _) (by omega) hP
    rw [zlp_next e]
    have e0 : lo + (n + 1 : Nat) = lo + 1 + n := by omega
    rw [e0] at h2
    exact lp_rel f Rel Out n (lo + 1) (f lo a) s' m (by omega) hR (fun i a s q1 q2 => h1 i a s (by omega) (by omega)) h2
theorem shr_and {x M : BitVec 32} {s : Nat} (hM : ∀ i, i < 32 → M.getLsbD i = true → s + i < 32) : x.sshiftRight s &&& M = (x >>> s) &&& M := by
  apply BitVec.eq_of_getLsbD_eq
  intro i hi
  rw [BitVec.getLsbD_and, BitVec.getLsbD_and, BitVec.getLsbD_sshiftRight, BitVec.getLsbD_ushiftRight]
  cases hm : M.getLsbD i
  · rw [Bool.and_false, Bool.and_false]
  · have h := hM i hi hm
    rw [if_pos h, decide_eq_false (by omega : ¬ 32 ≤ i)]
    rfl
theorem zand_shr {a b : Int} {k : Nat} (hk : k < 32) (hM : ∀ i, i < 32 → (iN b).toBitVec.getLsbD i = true → k + i < 32) : zand (zshr a k) b = zand (zushr a k) b := by
  have hz := zcnt k hk
  unfold zand zshr zushr
  rw [iN_of, iN_of, hz.1]
  congr 1
  apply i32_ext
  rw [Int32.toBitVec_and, Int32.toBitVec_and]
  have h1 : (iN a >>> iN (k : Int)).toBitVec = (iN a).toBitVec.sshiftRight ((iN (k : Int)).toBitVec.smod 32).toNat := rfl
  have h2 : ((iN a).toUInt32 >>> ((iN (k : Int)).toUInt32 &&& Int32.toUInt32 31)).toInt32.toBitVec = (iN a).toBitVec >>> (((iN (k : Int)).toUInt32 &&& Int32.toUInt32 31).toBitVec % 32).toNat := rfl
  rw [h1, h2, hz.2.1, hz.2.2]
  exact shr_and hM
theorem bit_1 : ∀ i, i < 32 → (iN 1).toBitVec.getLsbD i = true → i = 0 := by decide +kernel
theorem bit_255 : ∀ i, i < 32 → (iN 255).toBitVec.getLsbD i = true → i < 8 := by decide +kernel
theorem m_has2 {a k : Int} {z : ZZ} (hk : 0 ≤ k ∧ k < 32) : fX6_has a k z = some (bI (sBit a k)) := by
  have e : zand (zshr a k) 1 = zand (zushr a k) 1 := by
    have h := zand_shr (a := a) (b := 1) (k := k.toNat) (by omega) (fun i h1 h2 => by have := bit_1 i h1 h2; omega)
    rw [Int.toNat_of_nonneg hk.1] at h
    exact h
  unfold fX6_has bI
  rw [e]
  split <;> rfl
theorem sSet_bit {n m : Int} (hn : 0 ≤ n ∧ n ≤ 12) (hm : 0 ≤ m ∧ m < 12) (p : Int → Prop) [∀ k, Decidable (p k)] : sBit (sSet n p) m ↔ m < n ∧ p m := by
  obtain ⟨j, rfl⟩ : ∃ j : Nat, m = j := ⟨m.toNat, by omega⟩
  have key := ita_P (f := fun k s => if p k then zor s (zshl 1 k) else s) (fun i s => ∃ N : Nat, s = N ∧ N < 4096 ∧ ∀ k : Nat, N.testBit k = true ↔ ((k : Int) < i ∧ p k)) n.toNat 0 0 ⟨0, rfl, by decide, fun k => by
    rw [Nat.zero_testBit]
    exact ⟨fun h => (by cases h), fun h => by omega⟩⟩ (fun i a h1 h2 h => by
    obtain ⟨N, rfl, hN, hb⟩ := h
    obtain ⟨l, rfl⟩ : ∃ l : Nat, i = l := ⟨i.toNat, by omega⟩
    show ∃ M : Nat, (if p l then zor N (zshl 1 l) else (N : Int)) = M ∧ _
    by_cases hp : p l
    · rw [if_pos hp]
      have hl : (2 : Nat) ^ l < 2 ^ 12 := Nat.pow_lt_pow_right (by decide) (by omega)
      have ho : N ||| 2 ^ l < 2 ^ 12 := Nat.or_lt_two_pow (by omega) hl
      refine ⟨N ||| 2 ^ l, ?_, by omega, fun k => ?_⟩
      · rw [zshl_1 l (by omega), zor_nat (by omega) (by omega)]
      · rw [Nat.testBit_or, Nat.testBit_two_pow, Bool.or_eq_true, decide_eq_true_eq, hb]
        constructor
        · rintro (h | h)
          · exact ⟨by omega, h.2⟩
          · subst h
            exact ⟨by omega, hp⟩
        · intro h
          by_cases e : l = k
          · exact Or.inr e
          · exact Or.inl ⟨by omega, h.2⟩
    · rw [if_neg hp]
      refine ⟨N, rfl, hN, fun k => ?_⟩
      rw [hb]
      constructor
      · intro h
        exact ⟨by omega, h.2⟩
      · intro h
        by_cases e : l = k
        · subst e
          exact absurd h.2 hp
        · exact ⟨by omega, h.2⟩)
  obtain ⟨N, e, hN, hb⟩ := key
  have e2 : sSet n p = N := e
  unfold sBit
  rw [e2, zushr_nat (by omega) (by omega), show (1 : Int) = ((1 : Nat) : Int) from rfl, zand_nat (by have := Nat.div_le_self N (2 ^ j); omega), Nat.and_one_is_mod]
  have h := hb j
  rw [Nat.testBit_eq_decide_div_mod_eq, decide_eq_true_eq] at h
  rw [show (0 : Int) + (n.toNat : Nat) = n by omega] at h
  rw [← h]
  omega
/-! finishing -/
def finF (r0 : Row) (c p : Int) (m : Int) (q : Row × Int) : Row × Int := if q.1 (547 + 6 * m + 4) = c then (if sBit p m then (rup (rup q.1 (547 + 6 * m + 4) (-1)) (547 + 6 * m + 1) (r0 (620 + 3 * c + 0)), q.2 + 1) else (rup q.1 (547 + 6 * m + 4) (-1), q.2)) else q
def FP (B : Int) (r : Row) (i : Int) (q : Row × Int) : Prop := IH B q.1 ∧ (∀ j, j < 547 ∨ 547 + 6 * i ≤ j → q.1 j = r j) ∧ 0 ≤ q.2 ∧ q.2 ≤ i
section FN
variable {z : ZZ} {r : Row} {B v1 v2 : Int}
theorem FP_s {i : Int} {q : Row × Int} (hI : IH B r) (q1 : 0 ≤ v1 ∧ v1 < r 619) (hi : 0 ≤ i ∧ i < r 546) (h : FP B r i q) : FP B r (i + 1) (finF r v1 v2 i q) := by
  have hn := hI.1
  unfold IHn at hn
  obtain ⟨h1, h2, h3, h4⟩ := h
  have hc := (hI.2.2.2.2.2 v1 q1.1 q1.2).1
  have e546 := h2 546 (by omega)
  have I1 : IH B (rup q.1 (547 + 6 * i + 4) (-1)) := IH_up12 h1 (by rw [e546]; exact hi) (by omega) (by omega) ⟨fun e => by omega, fun e => by omega, fun _ => by rw [h2 619 (by omega)]; omega, fun e => by omega⟩
  unfold finF
  split
  · split
    · refine ⟨IH_up12 I1 (by rw [rup_ne (by omega), e546]; exact hi) (by omega) (by omega) ⟨fun _ => by omega, fun e => by omega, fun e => by omega, fun e => by omega⟩, fun j hj => ?_, by show 0 ≤ q.2 + 1; omega, by show q.2 + 1 ≤ i + 1; omega⟩
      show rup (rup q.1 _ _) _ _ j = _
      rw [rup_ne (by omega), rup_ne (by omega)]
      exact h2 j (by omega)
    · refine ⟨I1, fun j hj => ?_, h3, by omega⟩
      show rup q.1 _ _ j = _
      rw [rup_ne (by omega)]
      exact h2 j (by omega)
  · exact ⟨h1, fun j hj => h2 j (by omega), h3, by omega⟩
theorem g_finish (hI : IH B r) (q1 : 0 ≤ v1 ∧ v1 < r 619) : ∃ r' v, Chg r r' v (fL_finish v1 v2) (fX6_finish v1 v2) ∧ IH B r' := by
  have hn := hI.1
  unfold IHn at hn
  have F0 : FP B r 0 (r, 0) := ⟨hI, fun j _ => rfl, Int.le_refl _, Int.le_refl _⟩
  have FE := ita_P (f := finF r v1 v2) (FP B r) (r 546).toNat 0 (r, 0) F0 (fun i a h1 h2 h => FP_s hI q1 (by omega) h)
  refine ⟨(ita (finF r v1 v2) (r 546).toNat 0 (r, 0)).1, (ita (finF r v1 v2) (r 546).toNat 0 (r, 0)).2, ⟨fun z hR hu hl => ?_, fun z hM h8 => ?_⟩, FE.1⟩
  · obtain ⟨z1, e1, R1, w1⟩ := c_rem hR hI hu hl
    obtain ⟨o, eo, o1, o2, o3⟩ := lp_rel (step := fun q : Int × Int × ZZ => fX1_endCourse_s12 v1 v2 (sIn r v1) q.1 q.2.1 q.2.2) (finF r v1 v2) (fun i q s => FP B r i q ∧ s.1 = q.2 ∧ s.2.1 = i ∧ RC s.2.2 q.1 ∧ ∀ a, a ≠ 13 → s.2.2 a = z1 a) (fun q o => o.1 = q.2 ∧ RC o.2 q.1 ∧ ∀ a, a ≠ 13 → o.2 a = z1 a) (r 546).toNat 0 (r, 0) (0, 0, z1) FU (FU_lt (by omega)) ⟨F0, rfl, rfl, R1, fun _ _ => rfl⟩ (fun i q s h1 h2 h => by
      obtain ⟨s1, s2, s3⟩ := s
      obtain ⟨hF, x1, x2, x3, x4⟩ := h
      dsimp only at x1 x2 x3 x4
      subst x1 x2
      have hF1 := FP_s (v2 := v2) hI q1 (show 0 ≤ s2 ∧ s2 < r 546 by omega) hF
      obtain ⟨y1, y2, y3, y4⟩ := hF
      have e546 := y2 546 (by omega)
      have e619 := y2 619 (by omega)
      have eb : sBit (sIn r v1) s2 ↔ q.1 (547 + 6 * s2 + 4) = v1 := by
        rw [sSet_bit (by omega) (by omega), y2 _ (by omega)]
        exact ⟨fun h => h.2, fun h => ⟨by omega, h⟩⟩
      have k1 : s2 < s3 12 3 := by rw [(RCn x3).2.2.2.2.1, e546]; omega
      have k2 : inR (s2 + 1) := inR_s (by omega)
      have k3 : inR (q.2 + 1) := inR_s (by omega)
      dsimp only
      by_cases hb : q.1 (547 + 6 * s2 + 4) = v1
      · have s4 : fX4_set 12 s2 4 (-1) s3 = some (zup s3 13 (s2 * 6 + 4) (-1)) := set_ok kT12 (by rw [(RCn x3).2.2.2.2.1, e546]; omega) (by rw [(RCn x3).2.2.2.2.1, e546]; show r 546 ≤ 12; omega) (show (0 : Int) ≤ 4 ∧ (4 : Int) < 6 by omega)
        have R4 := RC_up12 (v := -1) x3 y1.1 (k := s2) (c := 4) (by rw [e546]; omega) (by omega)
        have I4 : IH B (rup q.1 (547 + 6 * s2 + 4) (-1)) := IH_up12 y1 (by rw [e546]; omega) (by omega) (by omega) ⟨fun e => by omega, fun e => by omega, fun _ => by rw [e619]; omega, fun e => by omega⟩
        by_cases hp : sBit v2 s2
        · have g5 := cg14 R4 I4 (k := v1) (c := 0) (by rw [rup_ne (by omega), e619]; exact q1) (by omega)
          rw [rup_ne (by omega), y2 _ (by omega)] at g5
          have s5 : fX4_set 12 s2 1 (r (620 + 3 * v1 + 0)) (zup s3 13 (s2 * 6 + 4) (-1)) = some (zup (zup s3 13 (s2 * 6 + 4) (-1)) 13 (s2 * 6 + 1) (r (620 + 3 * v1 + 0))) := set_ok kT12 (by rw [(RCn R4).2.2.2.2.1, rup_ne (by omega), e546]; omega) (by rw [(RCn R4).2.2.2.2.1, rup_ne (by omega), e546]; show r 546 ≤ 12; omega) (show (0 : Int) ≤ 1 ∧ (1 : Int) < 6 by omega)
          have R5 := RC_up12 (v := r (620 + 3 * v1 + 0)) R4 I4.1 (k := s2) (c := 1) (by rw [rup_ne (by omega), e546]; omega) (by omega)
          refine ⟨(q.2 + 1, s2 + 1, zup (zup s3 13 (s2 * 6 + 4) (-1)) 13 (s2 * 6 + 1) (r (620 + 3 * v1 + 0))), ?_, hF1, ?_, rfl, ?_, fun a p => ?_⟩
          · simp only [fX1_endCourse_s12, fX1_endCourse_b78, if_pos k1, if_pos (eb.mpr hb), s4, Option.bind_some, if_pos hp, g5, s5, if_pos k3, if_pos k2]
          · simp only [finF, if_pos hb, if_pos hp]
          · simp only [finF, if_pos hb, if_pos hp]
            exact R5
          · show zup _ _ _ _ a = _
            rw [zup_ne p, zup_ne p]
            exact x4 a p
        · refine ⟨(q.2, s2 + 1, zup s3 13 (s2 * 6 + 4) (-1)), ?_, hF1, ?_, rfl, ?_, fun a p => ?_⟩
          · simp only [fX1_endCourse_s12, fX1_endCourse_b78, if_pos k1, if_pos (eb.mpr hb), s4, Option.bind_some, if_neg hp, if_pos k2]
          · simp only [finF, if_pos hb, if_neg hp]
          · simp only [finF, if_pos hb, if_neg hp]
            exact R4
          · show zup _ _ _ _ a = _
            rw [zup_ne p]
            exact x4 a p
      · refine ⟨(q.2, s2 + 1, s3), ?_, hF1, ?_, rfl, ?_, x4⟩
        · simp only [fX1_endCourse_s12, fX1_endCourse_b78, if_pos k1, if_neg (fun w => hb (eb.mp w)), if_pos k2]
        · simp only [finF, if_neg hb]
        · simp only [finF, if_neg hb]
          exact x3) (fun q s h => by
      obtain ⟨s1, s2, s3⟩ := s
      obtain ⟨hF, x1, x2, x3, x4⟩ := h
      dsimp only at x1 x2 x3 x4
      subst x1 x2
      have e546 := hF.2.1 546 (by omega)
      refine ⟨(q.2, s3), ?_, rfl, x3, x4⟩
      dsimp only
      unfold fX1_endCourse_s12
      rw [if_neg (by rw [(RCn x3).2.2.2.2.1, e546]; omega)])
    obtain ⟨ov, oz⟩ := o
    dsimp only at o1 o2 o3 eo
    subst o1
    refine ⟨zup oz 159 0 (ita (finF r v1 v2) (r 546).toNat 0 (r, 0)).2, ?_, ?_, Qt_RC Qt_159 o2, w1 _ (fun a p1 p2 p3 p4 p5 => ?_)⟩
    · simp only [fL_finish, fX5_finish, fX1_endCourse, n_row, (RCn hR).2.2.2.2.2.1, if_pos q1, Option.bind_some, e1, c_membersIn R1 hI, eo]
    · rw [zup_at, if_pos rfl]
    · rw [zup_ne p3, o3 a (by omega)]
  · have hM1 := zup_154 (e := 0) hM
    obtain ⟨z1, e1, r1, w1⟩ := m_rec hM h8 (FM_rf _)
    obtain ⟨o, eo, o1, o2, o3⟩ := lp_rel (step := fun q : Int × Int × ZZ => fX6_finish_s29 v1 v2 q.1 q.2.1 q.2.2) (finF r v1 v2) (fun i q s => FP B r i q ∧ s.1 = q.2 ∧ s.2.1 = i ∧ s.2.2 154 = q.1 ∧ ∀ a, a ≠ 154 → s.2.2 a = z1 a) (fun q o => o.1 = q.2 ∧ o.2 154 = q.1 ∧ ∀ a, a ≠ 154 → o.2 a = z1 a) (r 546).toNat 0 (r, 0) (0, 0, z1) FU (FU_lt (by omega)) ⟨F0, rfl, rfl, r1, fun _ _ => rfl⟩ (fun i q s h1 h2 h => by
      obtain ⟨s1, s2, s3⟩ := s
      obtain ⟨hF, x1, x2, x3, x4⟩ := h
      dsimp only at x1 x2 x3 x4
      subst x1 x2
      have hF1 := FP_s (v2 := v2) hI q1 (show 0 ≤ s2 ∧ s2 < r 546 by omega) hF
      obtain ⟨y1, y2, y3, y4⟩ := hF
      have e546 := y2 546 (by omega)
      have k1 : s2 < s3 154 546 := by rw [x3, e546]; omega
      have k2 : inR (s2 + 1) := inR_s (by omega)
      have k3 : inR (q.2 + 1) := inR_s (by omega)
      have u4 : (0 : Int) ≤ 547 + 6 * s2 + 4 ∧ 547 + 6 * s2 + 4 < 765 := by omega
      have u1 : (0 : Int) ≤ 547 + 6 * s2 + 1 ∧ 547 + 6 * s2 + 1 < 765 := by omega
      have r4 : zup s3 154 (547 + 6 * s2 + 4) (-1) 154 = rup q.1 (547 + 6 * s2 + 4) (-1) := by
        funext j
        rw [zup_at, x3]
        rfl
      dsimp only
      by_cases hb : q.1 (547 + 6 * s2 + 4) = v1
      · by_cases hp : sBit v2 s2
        · have g5 := mg14 r4 (k := v1) (c := 0) (by omega)
          rw [rup_ne (by omega), y2 _ (by omega)] at g5
          refine ⟨(q.2 + 1, s2 + 1, zup (zup s3 154 (547 + 6 * s2 + 4) (-1)) 154 (547 + 6 * s2 + 1) (r (620 + 3 * v1 + 0))), ?_, hF1, ?_, rfl, ?_, fun a p => ?_⟩
          · simp only [fX6_finish_s29, fX6_finish_b89, fX6_setMember, zl, if_pos k1, mg12 x3 u4, Option.bind_some, if_pos hb, if_pos u4, m_has2 (a := v2) (k := s2) (by omega), ite_bI, if_pos hp, g5, if_pos u1, if_pos k3, if_pos k2]
          · simp only [finF, if_pos hb, if_pos hp]
          · simp only [finF, if_pos hb, if_pos hp]
            funext j
            rw [zup_at, r4]
            rfl
          · show zup _ _ _ _ a = _
            rw [zup_ne p, zup_ne p]
            exact x4 a p
        · refine ⟨(q.2, s2 + 1, zup s3 154 (547 + 6 * s2 + 4) (-1)), ?_, hF1, ?_, rfl, ?_, fun a p => ?_⟩
          · simp only [fX6_finish_s29, fX6_finish_b89, fX6_setMember, zl, if_pos k1, mg12 x3 u4, Option.bind_some, if_pos hb, if_pos u4, m_has2 (a := v2) (k := s2) (by omega), ite_bI, if_neg hp, if_pos k2]
          · simp only [finF, if_pos hb, if_neg hp]
          · simp only [finF, if_pos hb, if_neg hp]
            exact r4
          · show zup _ _ _ _ a = _
            rw [zup_ne p]
            exact x4 a p
      · refine ⟨(q.2, s2 + 1, s3), ?_, hF1, ?_, rfl, ?_, x4⟩
        · simp only [fX6_finish_s29, fX6_finish_b89, if_pos k1, mg12 x3 u4, Option.bind_some, if_neg hb, if_pos k2]
        · simp only [finF, if_neg hb]
        · simp only [finF, if_neg hb]
          exact x3) (fun q s h => by
      obtain ⟨s1, s2, s3⟩ := s
      obtain ⟨hF, x1, x2, x3, x4⟩ := h
      dsimp only at x1 x2 x3 x4
      subst x1 x2
      have e546 := hF.2.1 546 (by omega)
      refine ⟨(q.2, s3), ?_, rfl, x3, x4⟩
      dsimp only
      unfold fX6_finish_s29
      rw [if_neg (by rw [x3, e546]; omega)])
    obtain ⟨ov, oz⟩ := o
    dsimp only at o1 o2 o3 eo
    subst o1
    refine ⟨oz, ?_, o2, w1 _ (fun a p1 p2 p3 p4 => o3 a p2) (fun j p1 p2 p3 => by rw [o3 151 (by decide)])⟩
    simp only [fX6_finish, zl, mi_course hM1 hI, m_failsb, if_pos q1, if_true, Option.bind_some, e1, eo]
theorem k_finish (hI : IH B r) (hB : B ≤ 900000) (v1 v2 : Int) : (∃ r' v, Chg r r' v (fL_finish v1 v2) (fX6_finish v1 v2) ∧ IH (B + 60) r') ∨ Ask r (fL_finish v1 v2) (fX6_finish v1 v2) := by
  have hn := hI.1
  unfold IHn at hn
  by_cases q1 : 0 ≤ v1 ∧ v1 < r 619
  · obtain ⟨r', v, h1, h2⟩ := g_finish (v2 := v2) hI q1
    exact Or.inl ⟨r', v, h1, IH_mono h2 (by omega) (by omega)⟩
  · refine Or.inr ?_
    refine ask_er 1 (by decide) (fun z hR => ⟨z, ?_, fun _ _ => rfl⟩) (fun z hM => ⟨0, zup z 151 0 0, ?_, FM_rf _⟩)
    · simp only [fL_finish, fX5_finish, n_row, RCn hR, if_neg q1, Option.bind_some, if_true] <;> rfl
    · have hM1 := zup_154 (e := 0) hM
      simp only [fX6_finish, zl, hM1, mi_course hM1 hI, m_failsb, if_neg q1, Option.bind_some, if_true] <;> rfl
theorem w_c13 {v : Int} {ln : Nat} (hV : INV B z) (hB : B ≤ 900000) (h5 : 0 ≤ v ∧ v + 5 < ln) : ∃ z', fL_c13 ln v z = some (1, z') ∧ INV (B + 60) z' ∧ z' 1000000 = z 1000000 := by
  obtain ⟨z', e, f⟩ := w_of hV hB (k_finish hV.2.1 hB (z 1000000 (v + 1)) (z 1000000 (v + 2))) (M := fun y => fX6_finish (y 1000000 (v + 1)) (y 1000000 (v + 2)) y) (fun y hy => by rw [hy])
  refine ⟨z', ?_, f⟩
  unfold fL_c13
  rw [if_pos (by omega), if_pos (by omega)]
  exact e
end FN

set_option maxRecDepth 20000
/-! a course is finished -/
def pcN (y : Nat) : Nat → Nat
  | 0 => 0
  | n + 1 => pcN y n + y / 2 ^ n % 2
theorem pcN_12 (y : Nat) : pcN y 12 = pcn y := by
  unfold pcn
  show 0 + y / 2 ^ 0 % 2 + y / 2 ^ 1 % 2 + y / 2 ^ 2 % 2 + y / 2 ^ 3 % 2 + y / 2 ^ 4 % 2 + y / 2 ^ 5 % 2 + y / 2 ^ 6 % 2 + y / 2 ^ 7 % 2 + y / 2 ^ 8 % 2 + y / 2 ^ 9 % 2 + y / 2 ^ 10 % 2 + y / 2 ^ 11 % 2 = _
  simp only [Nat.pow_zero, Nat.div_one, Nat.zero_add, show 2 ^ 1 = 2 from rfl, show 2 ^ 2 = 4 from rfl, show 2 ^ 3 = 8 from rfl, show 2 ^ 4 = 16 from rfl, show 2 ^ 5 = 32 from rfl, show 2 ^ 6 = 64 from rfl, show 2 ^ 7 = 128 from rfl, show 2 ^ 8 = 256 from rfl, show 2 ^ 9 = 512 from rfl, show 2 ^ 10 = 1024 from rfl, show 2 ^ 11 = 2048 from rfl]
theorem pcN_hi {y n : Nat} (h : y < 2 ^ n) : ∀ k, pcN y (n + k) = pcN y n
  | 0 => rfl
  | k + 1 => by
    show pcN y (n + k) + y / 2 ^ (n + k) % 2 = _
    have : y < 2 ^ (n + k) := Nat.lt_of_lt_of_le h (Nat.pow_le_pow_right (by decide) (by omega))
    rw [Nat.div_eq_of_lt this, pcN_hi h k]
    rfl
theorem pcN_cnt {y : Nat} {p : Int → Prop} [∀ k, Decidable (p k)] : ∀ n : Nat, (∀ k : Nat, k < n → (p k ↔ y / 2 ^ k % 2 = 1)) → sCnt (n : Int) p = (pcN y n : Int)
  | 0, _ => rfl
  | n + 1, h => by
    rw [sCnt_nat, pcN_cnt n (fun k hk => h k (by omega))]
    show _ = ((pcN y n + y / 2 ^ n % 2 : Nat) : Int)
    by_cases c : p n
    · rw [if_pos c, (h n (Nat.lt_succ_self n)).mp c]
      rfl
    · rw [if_neg c]
      have : y / 2 ^ n % 2 = 0 := by
        rcases Nat.mod_two_eq_zero_or_one (y / 2 ^ n) with h0 | h1
        · exact h0
        · exact absurd ((h n (Nat.lt_succ_self n)).mpr h1) c
      rw [this, Nat.add_zero]
theorem sBit_nat {a : Nat} {k : Nat} (ha : a < 2147483648) (hk : k < 32) : sBit (a : Int) (k : Int) ↔ a / 2 ^ k % 2 = 1 := by
  have h2 := zushr_nat (a := a) (k := k) ha hk
  have hle : a / 2 ^ k ≤ a := Nat.div_le_self _ _
  have h3 := zand_nat (a := a / 2 ^ k) (b := 1) (by omega)
  have e : ((1 : Nat) : Int) = 1 := rfl
  rw [e] at h3
  unfold sBit
  rw [h2, h3, Nat.and_one_is_mod]
  omega
theorem bit_and {a b k : Nat} : (a &&& b) / 2 ^ k % 2 = 1 ↔ a / 2 ^ k % 2 = 1 ∧ b / 2 ^ k % 2 = 1 := by
  have h := Nat.testBit_and a b k
  rw [Nat.testBit_eq_decide_div_mod_eq, Nat.testBit_eq_decide_div_mod_eq, Nat.testBit_eq_decide_div_mod_eq] at h
  constructor
  · intro q
    rw [decide_eq_true q] at h
    have h := h.symm
    rw [Bool.and_eq_true, decide_eq_true_eq, decide_eq_true_eq] at h
    exact h
  · intro q
    rw [decide_eq_true q.1, decide_eq_true q.2] at h
    exact of_decide_eq_true h
theorem zbit1 {a k : Int} (ha : 0 ≤ a ∧ a < 2147483648) (hk : 0 ≤ k ∧ k < 32) : (zand (zshr a k) 1 = 1 ↔ sBit a k) ∧ (zand (zshr a k) 1 = 0 ↔ ¬ sBit a k) := by
  have h1 := zshr_nat (a := a.toNat) (k := k.toNat) (by omega) (by omega)
  have h2 := zushr_nat (a := a.toNat) (k := k.toNat) (by omega) (by omega)
  rw [Int.toNat_of_nonneg ha.1, Int.toNat_of_nonneg hk.1] at h1 h2
  have hle : a.toNat / 2 ^ k.toNat ≤ a.toNat := Nat.div_le_self _ _
  have h3 := zand_nat (a := a.toNat / 2 ^ k.toNat) (b := 1) (by omega)
  have e : ((1 : Nat) : Int) = 1 := rfl
  rw [e] at h3
  unfold sBit
  rw [h1, h2, h3, Nat.and_one_is_mod]
  omega
section AC
variable {col : Col} {D : DD} {g : Int} {r : Row} {M B x y mem rt hs cs wl im ir : Int} {h : HLs}
theorem fin_cnt {r : Row} {c p : Int} (hI : IH B r) (hc : 0 ≤ c ∧ c < r 619) (hp : 0 ≤ p ∧ p < 2147483648) : (ita (finF r c p) (r 546).toNat 0 (r, 0)).2 = ((pcn (zand (sIn r c) p).toNat : Nat) : Int) := by
  have hn := hI.1
  unfold IHn at hn
  have F0 : FP B r 0 (r, 0) := ⟨hI, fun j _ => rfl, Int.le_refl _, Int.le_refl _⟩
  have hs := sIn_ok (c := c) hI
  have cnt : ∀ n : Nat, (n : Int) ≤ r 546 → FP B r n (ita (finF r c p) n 0 (r, 0)) ∧ (ita (finF r c p) n 0 (r, 0)).2 = sCnt (n : Int) (fun m => r (547 + 6 * m + 4) = c ∧ sBit p m) := by
    intro n
    induction n with
    | zero => exact fun _ => ⟨F0, rfl⟩
    | succ n ih =>
      intro hle
      obtain ⟨i1, i2⟩ := ih (by omega)
      have st := FP_s (v2 := p) hI hc (show 0 ≤ (n : Int) ∧ (n : Int) < r 546 by omega) i1
      rw [ita_succ, Int.zero_add]
      refine ⟨st, ?_⟩
      rw [sCnt_nat, ← i2]
      have e4 : (ita (finF r c p) n 0 (r, 0)).1 (547 + 6 * (n : Int) + 4) = r (547 + 6 * (n : Int) + 4) := i1.2.1 _ (by omega)
      generalize ita (finF r c p) n 0 (r, 0) = Q at *
      unfold finF
      rw [e4]
      by_cases c1 : r (547 + 6 * (n : Int) + 4) = c
      · rw [if_pos c1]
        by_cases c2 : sBit p n
        · rw [if_pos c2, if_pos ⟨c1, c2⟩]
        · rw [if_neg c2, if_neg (fun q => c2 q.2)]
      · rw [if_neg c1, if_neg (fun q => c1 q.1)]
  have e546 : (((r 546).toNat : Nat) : Int) = r 546 := Int.toNat_of_nonneg hn.2.2.2.2.2.2.1
  rw [(cnt (r 546).toNat (by omega)).2]
  have hz := zand_nat (a := (sIn r c).toNat) (b := p.toNat) (by omega)
  rw [Int.toNat_of_nonneg hs.1, Int.toNat_of_nonneg hp.1] at hz
  rw [hz, Int.toNat_natCast, ← pcN_12]
  have hlt : (sIn r c).toNat &&& p.toNat ≤ (sIn r c).toNat := Nat.and_le_left
  have bits : ∀ k : Nat, k < 12 → (((sIn r c).toNat &&& p.toNat) / 2 ^ k % 2 = 1 ↔ ((k : Int) < r 546 ∧ r (547 + 6 * (k : Int) + 4) = c) ∧ sBit p k) := fun k hk => by
    rw [bit_and]
    have b1 := sSet_bit (n := r 546) (m := (k : Int)) ⟨hn.2.2.2.2.2.2.1, by omega⟩ ⟨by omega, by omega⟩ (fun m => r (547 + 6 * m + 4) = c)
    have b2 := sBit_nat (a := (sIn r c).toNat) (k := k) (by omega) (by omega)
    rw [Int.toNat_of_nonneg hs.1] at b2
    have b3 := sBit_nat (a := p.toNat) (k := k) (by omega) (by omega)
    rw [Int.toNat_of_nonneg hp.1] at b3
    rw [← b2, ← b3]
    exact and_congr_left (fun _ => b1)
  have h12 : sCnt ((12 : Nat) : Int) (fun m => (m < r 546 ∧ r (547 + 6 * m + 4) = c) ∧ sBit p m) = (pcN ((sIn r c).toNat &&& p.toNat) 12 : Int) := pcN_cnt 12 (fun k hk => (bits k hk).symm)
  rw [← h12]
  have up : ∀ d : Nat, sCnt (((r 546).toNat + d : Nat) : Int) (fun m => (m < r 546 ∧ r (547 + 6 * m + 4) = c) ∧ sBit p m) = sCnt (((r 546).toNat : Nat) : Int) (fun m => r (547 + 6 * m + 4) = c ∧ sBit p m) := by
    intro d
    induction d with
    | zero =>
      rw [Nat.add_zero]
      refine sCnt_congr (fun i a b => ?_)
      constructor
      · rintro ⟨⟨-, q1⟩, q2⟩; exact ⟨q1, q2⟩
      · rintro ⟨q1, q2⟩; exact ⟨⟨by omega, q1⟩, q2⟩
    | succ d ih =>
      rw [← Nat.add_assoc, sCnt_nat, ih, if_neg]
      rintro ⟨⟨q, -⟩, -⟩
      omega
  have := up (12 - (r 546).toNat)
  rw [show (r 546).toNat + (12 - (r 546).toNat) = 12 by omega] at this
  exact this.symm
theorem a_finish (H : RLh col D g r M h) (hI : IH B r) (hJ : XJ r) (hB : B ≤ 900000) (hc : 0 ≤ cs ∧ cs ≤ r 619) (hx : 0 ≤ x ∧ x < 2147483648) : ∃ due D', fL_act_b106 g 19 x y mem rt hs cs wl im ir D = some (due, D') ∧ Res col D g r M B (fX5_finish cs x) due D' := by
  have hn := hI.1
  unfold IHn at hn
  have hN := H.nc
  have hNm := H.nm
  unfold fL_act_b106
  rw [if_neg (by decide), if_neg (by decide), if_neg (by decide), if_neg (by decide), if_neg (by decide), if_neg (by decide), if_neg (by decide), if_neg (by decide), if_neg (by decide), if_pos rfl, if_pos H.o, s_size H.cs.1]
  simp only [Option.bind_some]
  rw [if_pos H.cs.1.1, hN]
  by_cases q1 : cs = r 619
  · rw [if_pos q1]
    refine ⟨_, _, rfl, errE H (E := 0) (by decide) rfl (fun z hR => ⟨z, ?_, fun _ _ => rfl⟩)⟩
    simp only [fX5_finish, n_row, RCn hR, if_neg (show ¬ (0 ≤ cs ∧ cs < r 619) by omega), Option.bind_some] <;> rfl
  have q1' : 0 ≤ cs ∧ cs < r 619 := by omega
  have hs := sIn_ok (c := cs) hI
  rw [if_neg q1, l_inCourse H hI]
  simp only [Option.bind_some]
  have F0 : FP B r 0 (r, 0) := ⟨hI, fun j _ => rfl, Int.le_refl _, Int.le_refl _⟩
  have loop := lp_FU (f := fun q : Int × DD => fL_act_s1004 g x cs (sIn r cs) q.1 q.2)
    (fun i q => q.1 = (i : Int) ∧ FP B r i (ita (finF r cs x) i 0 (r, 0)) ∧ RLh col q.2 g (ita (finF r cs x) i 0 (r, 0)).1 M h ∧ Ev (fun a => (col a).1 = g) 0 0 D q.2)
    (fun q => RLh col q g (ita (finF r cs x) (r 546).toNat 0 (r, 0)).1 M h ∧ Ev (fun a => (col a).1 = g) 0 0 D q) (r 546).toNat (by omega)
    (fun i q hi hq => by
      obtain ⟨k, q⟩ := q
      obtain ⟨k1, k2, k3, k4⟩ := hq
      have k1 : k = (i : Int) := k1
      subst k1
      have hi' : 0 ≤ (i : Int) ∧ (i : Int) < r 546 := by omega
      have k2' := FP_s (v2 := x) hI q1' hi' k2
      have k3 : RLh col q g (ita (finF r cs x) i 0 (r, 0)).1 M h := k3
      have k4 : Ev (fun a => (col a).1 = g) 0 0 D q := k4
      rw [show ((i : Int) + 1) = ((i + 1 : Nat) : Int) by omega] at k2'
      have es : ita (finF r cs x) (i + 1) 0 (r, 0) = finF r cs x i (ita (finF r cs x) i 0 (r, 0)) := by rw [ita_succ, Int.zero_add]
      rw [← es] at k2'
      have e4 : (ita (finF r cs x) i 0 (r, 0)).1 (547 + 6 * (i : Int) + 4) = r (547 + 6 * (i : Int) + 4) := k2.2.1 _ (by omega)
      have eb := k2.2.1
      have e546 := eb 546 (by omega)
      have e619 := eb 619 (by omega)
      generalize hq0 : ita (finF r cs x) i 0 (r, 0) = Q at *
      obtain ⟨q2, p2⟩ := k3.gm (w := (i : Int)) (by rw [e546]; exact hi')
      have hn3 := k3.nm
      have bt := zbit1 (a := sIn r cs) (k := (i : Int)) ⟨hs.1, by omega⟩ ⟨by omega, by omega⟩
      have bx := zbit1 (a := x) (k := (i : Int)) hx ⟨by omega, by omega⟩
      have sb : sBit (sIn r cs) i ↔ r (547 + 6 * (i : Int) + 4) = cs := by
        rw [sSet_bit ⟨hn.2.2.2.2.2.2.1, by omega⟩ ⟨by omega, by omega⟩]
        exact ⟨fun h => h.2, fun h => ⟨hi'.2, h⟩⟩
      left
      show ∃ s', fL_act_s1004 g x cs (sIn r cs) (i : Int) q = some (.inl s') ∧ _
      unfold fL_act_s1004 fL_act_b1076
      rw [if_pos k3.o, s_size k3.mb.1]
      simp only [Option.bind_some]
      rw [if_pos k3.mb.1.1, if_pos (by omega), q2]
      simp only [Option.bind_some]
      rw [if_pos p2.1.1]
      by_cases c1 : r (547 + 6 * (i : Int) + 4) = cs
      · have A := k3.mcell (v := -1) (j := 4) (k := (i : Int)) k2.1.1 (by rw [e546]; exact hi') ⟨by decide, by decide⟩
        have EA : Ev (fun a => (col a).1 = g) 0 0 q (dup q (h.lm.getD (i : Int).toNat 0) 4 (-1)) := Ev.dup q (fun _ => by rw [p2.2.1])
        rw [if_neg (fun w => bt.2.mp w (sb.mpr c1)), if_pos (p2.rng (i := 4) ⟨by decide, by decide⟩), zl_eq]
        by_cases c2 : sBit x i
        · obtain ⟨q3, p3⟩ := A.gc (w := cs) (by rw [rup_neq (by omega), e619]; exact q1')
          obtain ⟨q4, p4⟩ := A.gm (w := (i : Int)) (by rw [rup_neq (by omega), e546]; exact hi')
          have c0 : dW (dup q (h.lm.getD (i : Int).toNat 0) 4 (-1)) (h.lc.getD cs.toNat 0) 0 = r (620 + 3 * cs + 0) := by
            rw [p3.at (i := 0) ⟨by decide, by decide⟩]
            show rup Q.1 _ _ (620 + 3 * cs + 0) = _
            rw [rup_neq (by omega)]
            exact eb _ (Or.inr (by omega))
          have A2 := A.mcell (v := r (620 + 3 * cs + 0)) (j := 1) (k := (i : Int)) (k2.1.1.up (v := -1) (p := 547 + 6 * (i : Int) + 4) (by omega)) (by rw [rup_neq (by omega), e546]; exact hi') ⟨by decide, by decide⟩
          rw [if_pos (bx.1.mpr c2), q3]
          simp only [Option.bind_some]
          rw [if_pos A.cs.1.1, if_pos p3.1.1, if_pos (p3.rng (i := 0) ⟨by decide, by decide⟩), if_pos (p4.rng (i := 1) ⟨by decide, by decide⟩), zl_eq, c0, if_pos (by constructor <;> omega)]
          refine ⟨_, rfl, by show (i : Int) + 1 = ((i + 1 : Nat) : Int); omega, k2', ?_, ((k4.trans EA (fun _ _ z => z)).trans (Ev.dup (P := fun a => (col a).1 = g) _ (fun _ => by rw [p2.2.1])) (fun _ _ z => z)).mono (by decide) (by decide) (fun _ _ z => z)⟩
          rw [es]
          unfold finF
          rw [e4, if_pos c1, if_pos c2]
          exact A2
        · rw [if_neg (fun w => c2 (bx.1.mp w)), if_pos (by constructor <;> omega)]
          refine ⟨_, rfl, by show (i : Int) + 1 = ((i + 1 : Nat) : Int); omega, k2', ?_, (k4.trans EA (fun _ _ z => z)).mono (by decide) (by decide) (fun _ _ z => z)⟩
          rw [es]
          unfold finF
          rw [e4, if_pos c1, if_neg c2]
          exact A
      · rw [if_pos (bt.2.mpr (fun w => c1 (sb.mp w))), if_pos (by constructor <;> omega)]
        refine ⟨_, rfl, by show (i : Int) + 1 = ((i + 1 : Nat) : Int); omega, k2', ?_, k4⟩
        rw [es]
        unfold finF
        rw [e4, if_neg c1]
        exact k3)
    (fun q hq => by
      obtain ⟨k, q⟩ := q
      obtain ⟨k1, k2, k3, k4⟩ := hq
      have k1 : k = ((r 546).toNat : Int) := k1
      subst k1
      have e546 := k2.2.1 546 (by omega)
      have hn3 := k3.nm
      show ∃ s', fL_act_s1004 g x cs (sIn r cs) ((r 546).toNat : Int) q = some (.inr s') ∧ _
      unfold fL_act_s1004
      rw [if_pos k3.o, s_size k3.mb.1]
      simp only [Option.bind_some]
      rw [if_pos k3.mb.1.1, if_neg (by rw [hn3, e546]; omega)]
      exact ⟨_, rfl, k3, k4⟩)
    (0, D) ⟨rfl, F0, H, (Ev.refl _ D)⟩
  obtain ⟨D1, w1, w2, w3⟩ := loop
  rw [w1]
  simp only [Option.bind_some]
  have hz := zand_nat (a := (sIn r cs).toNat) (b := x.toNat) (by omega)
  rw [Int.toNat_of_nonneg hs.1, Int.toNat_of_nonneg hx.1] at hz
  have hlt : (sIn r cs).toNat &&& x.toNat ≤ (sIn r cs).toNat := Nat.and_le_left
  rw [l_bits (by rw [hz]; omega)]
  obtain ⟨g1, g2⟩ := g_finish (v2 := x) hI q1'
  have FE := ita_P (f := finF r cs x) (FP B r) (r 546).toNat 0 (r, 0) F0 (fun i a h1 h2 h => FP_s hI q1' (by omega) h)
  rw [Int.zero_add] at FE
  refine ⟨_, _, rfl, Or.inl ⟨_, by omega, by rw [← fin_cnt hI q1' hx]; exact ChgC_of g1, IH_mono g2 (by omega) (by omega), Suc.cg hJ (FE.2.1 3 (by omega)) (FE.2.1 37 (by omega)) (fun k a b => FE.2.1 _ (by omega)), ?_⟩⟩
  exact Out.of w2 (w3.mono (by decide) (by decide) (fun _ _ z => z)) (by decide)
end AC

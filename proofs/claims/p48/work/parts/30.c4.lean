def fJ6_bitCount_0f7a4 (v0 : Int) (z : ZZ) : Option (Int) := some ((zand (((zand (((zand (v0 - (zand (zushr v0 1) 1431655765)) 858993459) + (zand (zushr (v0 - (zand (zushr v0 1) 1431655765)) 2) 858993459)) + (zushr ((zand (v0 - (zand (zushr v0 1) 1431655765)) 858993459) + (zand (zushr (v0 - (zand (zushr v0 1) 1431655765)) 2) 858993459)) 4)) 252645135) + (zushr (zand (((zand (v0 - (zand (zushr v0 1) 1431655765)) 858993459) + (zand (zushr (v0 - (zand (zushr v0 1) 1431655765)) 2) 858993459)) + (zushr ((zand (v0 - (zand (zushr v0 1) 1431655765)) 858993459) + (zand (zushr (v0 - (zand (zushr v0 1) 1431655765)) 2) 858993459)) 4)) 252645135) 8)) + (zushr ((zand (((zand (v0 - (zand (zushr v0 1) 1431655765)) 858993459) + (zand (zushr (v0 - (zand (zushr v0 1) 1431655765)) 2) 858993459)) + (zushr ((zand (v0 - (zand (zushr v0 1) 1431655765)) 858993459) + (zand (zushr (v0 - (zand (zushr v0 1) 1431655765)) 2) 858993459)) 4)) 252645135) + (zushr (zand (((zand (v0 - (zand (zushr v0 1) 1431655765)) 858993459) + (zand (zushr (v0 - (zand (zushr v0 1) 1431655765)) 2) 858993459)) + (zushr ((zand (v0 - (zand (zushr v0 1) 1431655765)) 858993459) + (zand (zushr (v0 - (zand (zushr v0 1) 1431655765)) 2) 858993459)) 4)) 252645135) 8)) 16)) 63))
set_option maxRecDepth 100000 in
theorem CJ6_bitCount_0f7a4 {ln : ZR} {N : Nat} {z : ZZ} {v0 : Int} (hN : 151 ≤ N ∧ N < 999999) (hz : okz z) (rv0 : inR v0) {p : Int} (h : fJ6_bitCount_0f7a4 v0 z = some p) : X mJ6_bitCount_0f7a4 0 (xEnt [.int (iN (v0))] (xL mJ6_bitCount_0f7a4)) [] (zmk ln N z) (cc_r p) (6 * cc_r p) (Qd (fa_r p) (rs_r p) (st_r ln N z p)) := by
  have k : Fin_r (Qd (fa_r p) (rs_r p) (st_r ln N z p)) ln N z p := Fin_r_i
  unfold fJ6_bitCount_0f7a4 at h
  refine X_to (M := [some (.int (iN (v0)))]) (su := []) rfl rfl ?_
  refine X_iload_n (pc' := 1) dJ6_bitCount_0f7a4_0 rfl rfl ?_
  refine X_iload_n (pc' := 2) dJ6_bitCount_0f7a4_1 rfl rfl ?_
  refine X_iconst (pc' := 3) dJ6_bitCount_0f7a4_2 rfl ?_
  refine X_iushr (pc' := 4) dJ6_bitCount_0f7a4_3 rfl ?_
  refine X_ldcw (pc' := 7) dJ6_bitCount_0f7a4_4 rfl tq1891 (n := 1431655765) rfl ?_
  refine X_iand (pc' := 8) dJ6_bitCount_0f7a4_7 rfl ?_
  refine X_isub (pc' := 9) dJ6_bitCount_0f7a4_8 rfl ?_
  refine X_istore_n (pc' := 10) dJ6_bitCount_0f7a4_9 rfl (cl rfl) (Or.inl rfl) (L' := [some (.int (iN ((v0 - (zand (zushr v0 1) 1431655765)))))]) rfl ?_
  refine X_iload_n (pc' := 11) dJ6_bitCount_0f7a4_10 rfl rfl ?_
  refine X_ldcw (pc' := 14) dJ6_bitCount_0f7a4_11 rfl tq1892 (n := 858993459) rfl ?_
  refine X_iand (pc' := 15) dJ6_bitCount_0f7a4_14 rfl ?_
  refine X_iload_n (pc' := 16) dJ6_bitCount_0f7a4_15 rfl rfl ?_
  refine X_iconst (pc' := 17) dJ6_bitCount_0f7a4_16 rfl ?_
  refine X_iushr (pc' := 18) dJ6_bitCount_0f7a4_17 rfl ?_
  refine X_ldcw (pc' := 21) dJ6_bitCount_0f7a4_18 rfl tq1892 (n := 858993459) rfl ?_
  refine X_iand (pc' := 22) dJ6_bitCount_0f7a4_21 rfl ?_
  refine X_iadd (pc' := 23) dJ6_bitCount_0f7a4_22 rfl ?_
  refine X_istore_n (pc' := 24) dJ6_bitCount_0f7a4_23 rfl (cl rfl) (Or.inl rfl) (L' := [some (.int (iN (((zand (v0 - (zand (zushr v0 1) 1431655765)) 858993459) + (zand (zushr (v0 - (zand (zushr v0 1) 1431655765)) 2) 858993459)))))]) rfl ?_
  refine X_iload_n (pc' := 25) dJ6_bitCount_0f7a4_24 rfl rfl ?_
  refine X_iload_n (pc' := 26) dJ6_bitCount_0f7a4_25 rfl rfl ?_
  refine X_iconst (pc' := 27) dJ6_bitCount_0f7a4_26 rfl ?_
  refine X_iushr (pc' := 28) dJ6_bitCount_0f7a4_27 rfl ?_
  refine X_iadd (pc' := 29) dJ6_bitCount_0f7a4_28 rfl ?_
  refine X_ldcw (pc' := 32) dJ6_bitCount_0f7a4_29 rfl tq1893 (n := 252645135) rfl ?_
  refine X_iand (pc' := 33) dJ6_bitCount_0f7a4_32 rfl ?_
  refine X_istore_n (pc' := 34) dJ6_bitCount_0f7a4_33 rfl (cl rfl) (Or.inl rfl) (L' := [some (.int (iN ((zand (((zand (v0 - (zand (zushr v0 1) 1431655765)) 858993459) + (zand (zushr (v0 - (zand (zushr v0 1) 1431655765)) 2) 858993459)) + (zushr ((zand (v0 - (zand (zushr v0 1) 1431655765)) 858993459) + (zand (zushr (v0 - (zand (zushr v0 1) 1431655765)) 2) 858993459)) 4)) 252645135))))]) rfl ?_
  refine X_iload_n (pc' := 35) dJ6_bitCount_0f7a4_34 rfl rfl ?_
  refine X_iload_n (pc' := 36) dJ6_bitCount_0f7a4_35 rfl rfl ?_
  refine X_bipush (pc' := 38) dJ6_bitCount_0f7a4_36 rfl (by decide) ?_
  refine X_iushr (pc' := 39) dJ6_bitCount_0f7a4_38 rfl ?_
  refine X_iadd (pc' := 40) dJ6_bitCount_0f7a4_39 rfl ?_
  refine X_istore_n (pc' := 41) dJ6_bitCount_0f7a4_40 rfl (cl rfl) (Or.inl rfl) (L' := [some (.int (iN (((zand (((zand (v0 - (zand (zushr v0 1) 1431655765)) 858993459) + (zand (zushr (v0 - (zand (zushr v0 1) 1431655765)) 2) 858993459)) + (zushr ((zand (v0 - (zand (zushr v0 1) 1431655765)) 858993459) + (zand (zushr (v0 - (zand (zushr v0 1) 1431655765)) 2) 858993459)) 4)) 252645135) + (zushr (zand (((zand (v0 - (zand (zushr v0 1) 1431655765)) 858993459) + (zand (zushr (v0 - (zand (zushr v0 1) 1431655765)) 2) 858993459)) + (zushr ((zand (v0 - (zand (zushr v0 1) 1431655765)) 858993459) + (zand (zushr (v0 - (zand (zushr v0 1) 1431655765)) 2) 858993459)) 4)) 252645135) 8)))))]) rfl ?_
  refine X_iload_n (pc' := 42) dJ6_bitCount_0f7a4_41 rfl rfl ?_
  refine X_iload_n (pc' := 43) dJ6_bitCount_0f7a4_42 rfl rfl ?_
  refine X_bipush (pc' := 45) dJ6_bitCount_0f7a4_43 rfl (by decide) ?_
  refine X_iushr (pc' := 46) dJ6_bitCount_0f7a4_45 rfl ?_
  refine X_iadd (pc' := 47) dJ6_bitCount_0f7a4_46 rfl ?_
  refine X_istore_n (pc' := 48) dJ6_bitCount_0f7a4_47 rfl (cl rfl) (Or.inl rfl) (L' := [some (.int (iN ((((zand (((zand (v0 - (zand (zushr v0 1) 1431655765)) 858993459) + (zand (zushr (v0 - (zand (zushr v0 1) 1431655765)) 2) 858993459)) + (zushr ((zand (v0 - (zand (zushr v0 1) 1431655765)) 858993459) + (zand (zushr (v0 - (zand (zushr v0 1) 1431655765)) 2) 858993459)) 4)) 252645135) + (zushr (zand (((zand (v0 - (zand (zushr v0 1) 1431655765)) 858993459) + (zand (zushr (v0 - (zand (zushr v0 1) 1431655765)) 2) 858993459)) + (zushr ((zand (v0 - (zand (zushr v0 1) 1431655765)) 858993459) + (zand (zushr (v0 - (zand (zushr v0 1) 1431655765)) 2) 858993459)) 4)) 252645135) 8)) + (zushr ((zand (((zand (v0 - (zand (zushr v0 1) 1431655765)) 858993459) + (zand (zushr (v0 - (zand (zushr v0 1) 1431655765)) 2) 858993459)) + (zushr ((zand (v0 - (zand (zushr v0 1) 1431655765)) 858993459) + (zand (zushr (v0 - (zand (zushr v0 1) 1431655765)) 2) 858993459)) 4)) 252645135) + (zushr (zand (((zand (v0 - (zand (zushr v0 1) 1431655765)) 858993459) + (zand (zushr (v0 - (zand (zushr v0 1) 1431655765)) 2) 858993459)) + (zushr ((zand (v0 - (zand (zushr v0 1) 1431655765)) 858993459) + (zand (zushr (v0 - (zand (zushr v0 1) 1431655765)) 2) 858993459)) 4)) 252645135) 8)) 16)))))]) rfl ?_
  refine X_iload_n (pc' := 49) dJ6_bitCount_0f7a4_48 rfl rfl ?_
  refine X_bipush (pc' := 51) dJ6_bitCount_0f7a4_49 rfl (by decide) ?_
  refine X_iand (pc' := 52) dJ6_bitCount_0f7a4_51 rfl ?_
  cases h
  exact X_iret dJ6_bitCount_0f7a4_52 rfl (k (inR_zand _ _))
def fX0_addVotes (v1 : Int) (v2 : Int) (z : ZZ) : Option (ZZ) := (if (v1) < (0) then some z else (if (v1) < (30) then (if inR (((z 2 (v1)) + v2)) then (zl (zup z 2 (v1) (((z 2 (v1)) + v2))) fun z4 => (if inR (((z4 1 1) + v2)) then (zl (zup z4 1 1 (((z4 1 1) + v2))) fun z6 => some z6) else none)) else none) else some z))
set_option maxRecDepth 100000 in
theorem CX0_addVotes {ln : ZR} {N : Nat} {z : ZZ} {v1 : Int} {v2 : Int} (hN : 151 ≤ N ∧ N < 999999) (hz : okz z) (rv1 : inR v1) (rv2 : inR v2) {p : ZZ} (h : fX0_addVotes v1 v2 z = some p) : X mX0_addVotes 0 (xEnt [.ref (1), .int (iN (v1)), .int (iN (v2))] (xL mX0_addVotes)) [] (zmk ln N z) (cc_w p) (6 * cc_w p) (Qd (fa_w p) (rs_w p) (st_w ln N p)) := by
  have k : Fin_w (Qd (fa_w p) (rs_w p) (st_w ln N p)) ln N p := Fin_w_i
  unfold fX0_addVotes at h
  refine X_to (M := [some (.ref (1)), some (.int (iN (v1))), some (.int (iN (v2)))]) (su := []) rfl rfl ?_
  refine X_iload_n (pc' := 1) dX0_addVotes_0 rfl rfl ?_
  refine X_if_lt dX0_addVotes_1 (tgt := 33) rfl (pc' := 4) rfl rv1 (fun c1 => ?_) (fun c1 => ?_)
  · have h := if_t c1 h
    cases h
    exact X_vret dX0_addVotes_33 rfl (k hz)
  have h := if_f (Int.not_lt.mpr c1) h
  refine X_iload_n (pc' := 5) dX0_addVotes_4 rfl rfl ?_
  refine X_aload_n (pc' := 6) dX0_addVotes_5 rfl rfl ?_
  refine Y_get (pc' := 9) dX0_addVotes_6 rfl FX0_9 (zlN hN (by decide)) (congrArg Prod.fst (sh1 ln)) (ct1_0 z) ?_
  refine Y_alen (pc' := 10) dX0_addVotes_9 rfl (zlN hN (by decide)) (sh2 ln) (by decide) ?_
  refine X_icmp_ge dX0_addVotes_10 (tgt := 33) rfl (pc' := 13) rfl ⟨rv1.1, rv1.2, (inR_c (n := 30) rfl).1, (inR_c (n := 30) rfl).2⟩ (fun c2 => ?_) (fun c2 => ?_)
  · have h := if_f (Int.not_lt.mpr c2) h
    cases h
    exact X_vret dX0_addVotes_33 rfl (k hz)
  have h := if_t c2 h
  refine X_aload_n (pc' := 14) dX0_addVotes_13 rfl rfl ?_
  refine Y_get (pc' := 17) dX0_addVotes_14 rfl FX0_9 (zlN hN (by decide)) (congrArg Prod.fst (sh1 ln)) (ct1_0 z) ?_
  refine X_iload_n (pc' := 18) dX0_addVotes_17 rfl rfl ?_
  refine X_dup2 (pc' := 19) dX0_addVotes_18 rfl rfl rfl ?_
  refine Y_iald (pc' := 20) dX0_addVotes_19 rfl (zlN hN (by decide)) (sh2 ln) (by decide) ⟨c1, c2⟩ ?_
  refine X_iload_n (pc' := 21) dX0_addVotes_20 rfl rfl ?_
  refine X_iadd (pc' := 22) dX0_addVotes_21 rfl ?_
  obtain ⟨g3, h⟩ := gs h
  refine Y_iast (pc' := 23) dX0_addVotes_22 rfl (zlN hN (by decide)) (sh2 ln) (by decide) ⟨c1, c2⟩ ?_
  obtain ⟨z4, e4, hz4, h⟩ := zl_some (P := okz) h (okz_up hz g3)
  rw [e4]
  refine X_aload_n (pc' := 24) dX0_addVotes_23 rfl rfl ?_
  refine X_dup (pc' := 25) dX0_addVotes_24 rfl rfl ?_
  refine Y_get (pc' := 28) dX0_addVotes_25 rfl FX0_15 (zlN hN (by decide)) (congrArg Prod.fst (sh1 ln)) (ct1_1 z4) ?_
  refine X_iload_n (pc' := 29) dX0_addVotes_28 rfl rfl ?_
  refine X_iadd (pc' := 30) dX0_addVotes_29 rfl ?_
  obtain ⟨g5, h⟩ := gs h
  refine Y_put (k := 1) (j := 1) (v := ((z4 1 1) + v2)) (pc' := 33) dX0_addVotes_30 rfl FX0_15 (zlN hN (by decide)) (congrArg Prod.fst (sh1 ln)) (fun r hr => by cases hr; rfl) (xFit_int _) rfl rfl ?_
  obtain ⟨z6, e6, hz6, h⟩ := zl_some (P := okz) h (okz_up hz4 g5)
  rw [e6]
  cases h
  exact X_vret dX0_addVotes_33 rfl (k hz6)
def fX0_clear_s7 (v1 : Int) (z : ZZ) : Option ((Int × ZZ) ⊕ (ZZ)) := (if (v1) < (30) then (if (0 : Int) ≤ (v1) ∧ (v1) < (30 : Int) then (zl (zup z 2 (v1) (0)) fun z3 => (if inR ((v1 + 1)) then some (.inl ((v1 + 1), z3)) else none)) else none) else some (.inr z))
set_option maxRecDepth 100000 in
theorem SX0_clear_7 {ln : ZR} {N : Nat} {z : ZZ} {v1 : Int} {c9 s9 : Nat} {Φ : xRes → xS → Prop} (hN : 151 ≤ N ∧ N < 999999) (hz : okz z) (rv1 : inR v1) {p : (Int × ZZ) ⊕ (ZZ)} (h : fX0_clear_s7 v1 z = some p) (k1 : ∀ (v1' : Int) (z' : ZZ), p = .inl (v1', z') → inR v1' → okz z' → X mX0_clear 7 [some (.ref (1)), some (.int (iN (v1')))] [] (zmk ln N z') c9 s9 Φ) (k2 : ∀ (z' : ZZ), p = .inr z' → okz z' → X mX0_clear 29 [none, none] [] (zmk ln N z') c9 s9 Φ) : X mX0_clear 7 [some (.ref (1)), some (.int (iN (v1)))] [] (zmk ln N z) c9 s9 Φ := by
  unfold fX0_clear_s7 at h
  refine X_iload_n (pc' := 8) dX0_clear_7 rfl rfl ?_
  refine X_aload_n (pc' := 9) dX0_clear_8 rfl rfl ?_
  refine Y_get (pc' := 12) dX0_clear_9 rfl FX0_9 (zlN hN (by decide)) (congrArg Prod.fst (sh1 ln)) (ct1_0 z) ?_
  refine Y_alen (pc' := 13) dX0_clear_12 rfl (zlN hN (by decide)) (sh2 ln) (by decide) ?_
  refine X_icmp_ge dX0_clear_13 (tgt := 29) rfl (pc' := 16) rfl ⟨rv1.1, rv1.2, (inR_c (n := 30) rfl).1, (inR_c (n := 30) rfl).2⟩ (fun c1 => ?_) (fun c1 => ?_)
  · have h := if_f (Int.not_lt.mpr c1) h
    cases h
    exact X_sub (sub_n (sub_n sub_0)) (k2 _ rfl hz)
  have h := if_t c1 h
  refine X_aload_n (pc' := 17) dX0_clear_16 rfl rfl ?_
  refine Y_get (pc' := 20) dX0_clear_17 rfl FX0_9 (zlN hN (by decide)) (congrArg Prod.fst (sh1 ln)) (ct1_0 z) ?_
  refine X_iload_n (pc' := 21) dX0_clear_20 rfl rfl ?_
  refine X_iconst (pc' := 22) dX0_clear_21 rfl ?_
  obtain ⟨g2, h⟩ := gs h
  refine Y_iast (pc' := 23) dX0_clear_22 rfl (zlN hN (by decide)) (sh2 ln) (by decide) g2 ?_
  obtain ⟨z3, e3, hz3, h⟩ := zl_some (P := okz) h (okz_up hz (inR_c (n := 0) rfl))
  rw [e3]
  refine X_iinc (pc' := 26) dX0_clear_23 rfl rfl (Or.inr rfl) (L' := [some (.ref (1)), some (.int (iN (v1 + 1)))]) rfl ?_
  refine X_goto dX0_clear_26 (tgt := 7) rfl ?_
  obtain ⟨g4, h⟩ := gs h
  cases h
  exact X_sub (sub_s (sub_s sub_0)) (k1 _ _ rfl g4 hz3)
theorem LX0_clear_7 {ln : ZR} {N : Nat} {c9 s9 : Nat} {Φ : xRes → xS → Prop} (hN : 151 ≤ N ∧ N < 999999) {r : ZZ} (k2 : ∀ (z' : ZZ), r = z' → okz z' → X mX0_clear 29 [none, none] [] (zmk ln N z') c9 s9 Φ) : ∀ (n : Nat) (v1 : Int) (z : ZZ), inR v1 → okz z → zlp (fun q => fX0_clear_s7 q.1 q.2) n (v1, z) = some r → X mX0_clear 7 [some (.ref (1)), some (.int (iN (v1)))] [] (zmk ln N z) c9 s9 Φ := by
  intro n
  induction n with
  | zero => intro v1 z rv1 hz h; cases h
  | succ n ih =>
    intro v1 z rv1 hz h
    rcases zlp_s h with ⟨⟨v1', z'⟩, e, h'⟩ | e
    · exact SX0_clear_7 hN hz rv1 e (fun v1₁ z₁ hh f0 f1 => by cases hh; exact ih _ _ f0 f1 h') (fun z₁ hh f0 => by cases hh)
    · exact SX0_clear_7 hN hz rv1 e (fun v1₁ z₁ hh f0 f1 => by cases hh) (fun z₁ hh f0 => by cases hh; exact k2 _ rfl f0)
def fX0_clear (z : ZZ) : Option (ZZ) := (zl (zup z 1 1 (0)) fun z1 => (Option.bind (zlp (fun q => fX0_clear_s7 q.1 q.2) FU (0, z1)) fun x2_z => some x2_z))
set_option maxRecDepth 100000 in
theorem CX0_clear {ln : ZR} {N : Nat} {z : ZZ} (hN : 151 ≤ N ∧ N < 999999) (hz : okz z) {p : ZZ} (h : fX0_clear z = some p) : X mX0_clear 0 (xEnt [.ref (1)] (xL mX0_clear)) [] (zmk ln N z) (cc_w p) (6 * cc_w p) (Qd (fa_w p) (rs_w p) (st_w ln N p)) := by
  have k : Fin_w (Qd (fa_w p) (rs_w p) (st_w ln N p)) ln N p := Fin_w_i
  unfold fX0_clear at h
  refine X_to (M := [some (.ref (1)), none]) (su := []) rfl rfl ?_
  refine X_aload_n (pc' := 1) dX0_clear_0 rfl rfl ?_
  refine X_iconst (pc' := 2) dX0_clear_1 rfl ?_
  refine Y_put (k := 1) (j := 1) (v := 0) (pc' := 5) dX0_clear_2 rfl FX0_15 (zlN hN (by decide)) (congrArg Prod.fst (sh1 ln)) (fun r hr => by cases hr; rfl) (xFit_int _) rfl rfl ?_
  obtain ⟨z1, e1, hz1, h⟩ := zl_some (P := okz) h (okz_up hz (inR_c (n := 0) rfl))
  rw [e1]
  refine X_iconst (pc' := 6) dX0_clear_5 rfl ?_
  refine X_istore_n (pc' := 7) dX0_clear_6 rfl (cl rfl) (Or.inr rfl) (L' := [some (.ref (1)), some (.int (iN (0)))]) rfl ?_
  obtain ⟨x2_z, q2, h⟩ := bs h
  refine X_sub (sub_s (sub_s sub_0)) (LX0_clear_7 hN (fun x2_z₁ hh hx2_z => ?_) FU _ _ (inR_c (n := 0) rfl) hz1 q2)
  cases hh
  cases h
  exact X_vret dX0_clear_29 rfl (k hx2_z)
def fX0_nearestGrade (z : ZZ) : Option (Int) := (if (0) < ((z 1 3)) then (if inR (((2 * (z 1 2)) + (z 1 3))) then (if inR ((2 * (z 1 3))) then (if (0 : Int) ≤ (((2 * (z 1 2)) + (z 1 3))) ∧ (0 : Int) < ((2 * (z 1 3))) then some ((((2 * (z 1 2)) + (z 1 3)) / (2 * (z 1 3)))) else none) else none) else none) else some (0))
set_option maxRecDepth 100000 in
theorem CX0_nearestGrade {ln : ZR} {N : Nat} {z : ZZ} (hN : 151 ≤ N ∧ N < 999999) (hz : okz z) {p : Int} (h : fX0_nearestGrade z = some p) : X mX0_nearestGrade 0 (xEnt [.ref (1)] (xL mX0_nearestGrade)) [] (zmk ln N z) (cc_r p) (6 * cc_r p) (Qd (fa_r p) (rs_r p) (st_r ln N z p)) := by
  have k : Fin_r (Qd (fa_r p) (rs_r p) (st_r ln N z p)) ln N z p := Fin_r_i
  unfold fX0_nearestGrade at h
  refine X_to (M := [some (.ref (1))]) (su := []) rfl rfl ?_
  refine X_aload_n (pc' := 1) dX0_nearestGrade_0 rfl rfl ?_
  refine Y_get (pc' := 4) dX0_nearestGrade_1 rfl FX0_22 (zlN hN (by decide)) (congrArg Prod.fst (sh1 ln)) (ct1_3 z) ?_
  refine X_if_le dX0_nearestGrade_4 (tgt := 28) rfl (pc' := 7) rfl (hz 1 3 (by decide)) (fun c1 => ?_) (fun c1 => ?_)
  · have h := if_f (Int.not_lt.mpr c1) h
    refine X_iconst (pc' := 29) dX0_nearestGrade_28 rfl ?_
    cases h
    exact X_iret dX0_nearestGrade_29 rfl (k (inR_c (n := 0) rfl))
  have h := if_t c1 h
  refine X_iconst (pc' := 8) dX0_nearestGrade_7 rfl ?_
  refine X_aload_n (pc' := 9) dX0_nearestGrade_8 rfl rfl ?_
  refine Y_get (pc' := 12) dX0_nearestGrade_9 rfl FX0_19 (zlN hN (by decide)) (congrArg Prod.fst (sh1 ln)) (ct1_2 z) ?_
  refine X_imul (pc' := 13) dX0_nearestGrade_12 rfl ?_
  refine X_aload_n (pc' := 14) dX0_nearestGrade_13 rfl rfl ?_
  refine Y_get (pc' := 17) dX0_nearestGrade_14 rfl FX0_22 (zlN hN (by decide)) (congrArg Prod.fst (sh1 ln)) (ct1_3 z) ?_
  refine X_iadd (pc' := 18) dX0_nearestGrade_17 rfl ?_
  refine X_iconst (pc' := 19) dX0_nearestGrade_18 rfl ?_
  refine X_aload_n (pc' := 20) dX0_nearestGrade_19 rfl rfl ?_
  refine Y_get (pc' := 23) dX0_nearestGrade_20 rfl FX0_22 (zlN hN (by decide)) (congrArg Prod.fst (sh1 ln)) (ct1_3 z) ?_
  refine X_imul (pc' := 24) dX0_nearestGrade_23 rfl ?_
  obtain ⟨g2, h⟩ := gs h
  obtain ⟨g3, h⟩ := gs h
  obtain ⟨g4, h⟩ := gs h
  refine X_idiv (pc' := 25) dX0_nearestGrade_24 rfl ⟨g4.1, g2.2, g4.2, g3.2⟩ ?_
  refine X_goto dX0_nearestGrade_25 (tgt := 29) rfl ?_
  cases h
  exact X_iret dX0_nearestGrade_29 rfl (k (inR_div g4 g2))
def fX0_trimEnds_b109 (v2 : Int) (v3 : Int) (v4 : Int) (v5 : Int) (z : ZZ) : Option ((Int × Int × ZZ) ⊕ (ZZ)) := (if inR ((v5 + 1)) then some (.inl (v4, (v5 + 1), z)) else none)
set_option maxRecDepth 100000 in
theorem BX0_trimEnds_109 {ln : ZR} {N : Nat} {z : ZZ} {v2 : Int} {v3 : Int} {v4 : Int} {v5 : Int} {c9 s9 : Nat} {Φ : xRes → xS → Prop} (hN : 151 ≤ N ∧ N < 999999) (hz : okz z) (rv2 : inR v2) (rv3 : inR v3) (rv4 : inR v4) (rv5 : inR v5) {p : (Int × Int × ZZ) ⊕ (ZZ)} (h : fX0_trimEnds_b109 v2 v3 v4 v5 z = some p) (k1 : ∀ (v4' : Int) (v5' : Int) (z' : ZZ), p = .inl (v4', v5', z') → inR v4' → inR v5' → okz z' → X mX0_trimEnds 35 [some (.ref (1)), none, some (.int (iN (v2))), some (.int (iN (v3))), some (.int (iN (v4'))), some (.int (iN (v5'))), none, none] [] (zmk ln N z') c9 s9 Φ) (k2 : ∀ (z' : ZZ), p = .inr z' → okz z' → X mX0_trimEnds 115 [none, none, none, none, none, none, none, none] [] (zmk ln N z') c9 s9 Φ) : X mX0_trimEnds 109 [some (.ref (1)), none, some (.int (iN (v2))), some (.int (iN (v3))), some (.int (iN (v4))), some (.int (iN (v5))), none, none] [] (zmk ln N z) c9 s9 Φ := by
  unfold fX0_trimEnds_b109 at h
  refine X_iinc (pc' := 112) dX0_trimEnds_109 rfl rfl (Or.inr rfl) (L' := [some (.ref (1)), none, some (.int (iN (v2))), some (.int (iN (v3))), some (.int (iN (v4))), some (.int (iN (v5 + 1))), none, none]) rfl ?_
  refine X_goto dX0_trimEnds_112 (tgt := 35) rfl ?_
  obtain ⟨g1, h⟩ := gs h
  cases h
  exact X_sub (sub_s (sub_n (sub_s (sub_s (sub_s (sub_s (sub_n (sub_n sub_0)))))))) (k1 _ _ _ rfl rv4 g1 hz)
def fX0_trimEnds_b83 (v2 : Int) (v3 : Int) (v4 : Int) (v5 : Int) (v6 : Int) (s0 : Int) (z : ZZ) : Option ((Int × Int × ZZ) ⊕ (ZZ)) := (if (v6) < (s0) then (if inR (((z 1 2) + ((s0 - v6) * v5))) then (zl (zup z 1 2 (((z 1 2) + ((s0 - v6) * v5)))) fun z3 => fX0_trimEnds_b109 (v2) (v3) (v4) (v5) z3) else none) else fX0_trimEnds_b109 (v2) (v3) (v4) (v5) z)
set_option maxRecDepth 100000 in
theorem BX0_trimEnds_83 {ln : ZR} {N : Nat} {z : ZZ} {v2 : Int} {v3 : Int} {v4 : Int} {v5 : Int} {v6 : Int} {s0 : Int} {c9 s9 : Nat} {Φ : xRes → xS → Prop} (hN : 151 ≤ N ∧ N < 999999) (hz : okz z) (rv2 : inR v2) (rv3 : inR v3) (rv4 : inR v4) (rv5 : inR v5) (rv6 : inR v6) (rs0 : inR s0) {p : (Int × Int × ZZ) ⊕ (ZZ)} (h : fX0_trimEnds_b83 v2 v3 v4 v5 v6 s0 z = some p) (k1 : ∀ (v4' : Int) (v5' : Int) (z' : ZZ), p = .inl (v4', v5', z') → inR v4' → inR v5' → okz z' → X mX0_trimEnds 35 [some (.ref (1)), none, some (.int (iN (v2))), some (.int (iN (v3))), some (.int (iN (v4'))), some (.int (iN (v5'))), none, none] [] (zmk ln N z') c9 s9 Φ) (k2 : ∀ (z' : ZZ), p = .inr z' → okz z' → X mX0_trimEnds 115 [none, none, none, none, none, none, none, none] [] (zmk ln N z') c9 s9 Φ) : X mX0_trimEnds 83 [some (.ref (1)), none, some (.int (iN (v2))), some (.int (iN (v3))), some (.int (iN (v4))), some (.int (iN (v5))), some (.int (iN (v6))), none] [.int (iN (s0))] (zmk ln N z) c9 s9 Φ := by
  unfold fX0_trimEnds_b83 at h
  refine X_istore (pc' := 85) dX0_trimEnds_83 rfl (cl rfl) (Or.inr rfl) (L' := [some (.ref (1)), none, some (.int (iN (v2))), some (.int (iN (v3))), some (.int (iN (v4))), some (.int (iN (v5))), some (.int (iN (v6))), some (.int (iN (s0)))]) rfl ?_
  refine X_iload (pc' := 87) dX0_trimEnds_85 rfl rfl ?_
  refine X_iload (pc' := 89) dX0_trimEnds_87 rfl rfl ?_
  refine X_icmp_le dX0_trimEnds_89 (tgt := 109) rfl (pc' := 92) rfl ⟨rs0.1, rs0.2, rv6.1, rv6.2⟩ (fun c1 => ?_) (fun c1 => ?_)
  · have h := if_f (Int.not_lt.mpr c1) h
    exact X_sub (sub_s (sub_n (sub_s (sub_s (sub_s (sub_s (sub_n (sub_n sub_0)))))))) (BX0_trimEnds_109 hN hz rv2 rv3 rv4 rv5 h k1 k2)
  have h := if_t c1 h
  refine X_aload_n (pc' := 93) dX0_trimEnds_92 rfl rfl ?_
  refine X_dup (pc' := 94) dX0_trimEnds_93 rfl rfl ?_
  refine Y_get (pc' := 97) dX0_trimEnds_94 rfl FX0_19 (zlN hN (by decide)) (congrArg Prod.fst (sh1 ln)) (ct1_2 z) ?_
  refine X_iload (pc' := 99) dX0_trimEnds_97 rfl rfl ?_
  refine X_iload (pc' := 101) dX0_trimEnds_99 rfl rfl ?_
  refine X_isub (pc' := 102) dX0_trimEnds_101 rfl ?_
  refine X_iload (pc' := 104) dX0_trimEnds_102 rfl rfl ?_
  refine X_imul (pc' := 105) dX0_trimEnds_104 rfl ?_
  refine X_iadd (pc' := 106) dX0_trimEnds_105 rfl ?_
  obtain ⟨g2, h⟩ := gs h
  refine Y_put (k := 2) (j := 2) (v := ((z 1 2) + ((s0 - v6) * v5))) (pc' := 109) dX0_trimEnds_106 rfl FX0_19 (zlN hN (by decide)) (congrArg Prod.fst (sh1 ln)) (fun r hr => by cases hr; rfl) (xFit_int _) rfl rfl ?_
  obtain ⟨z3, e3, hz3, h⟩ := zl_some (P := okz) h (okz_up hz g2)
  rw [e3]
  exact X_sub (sub_s (sub_n (sub_s (sub_s (sub_s (sub_s (sub_n (sub_n sub_0)))))))) (BX0_trimEnds_109 hN hz3 rv2 rv3 rv4 rv5 h k1 k2)
def fX0_trimEnds_b57 (v2 : Int) (v3 : Int) (v4 : Int) (v5 : Int) (s0 : Int) (z : ZZ) : Option ((Int × Int × ZZ) ⊕ (ZZ)) := (if (0 : Int) ≤ (v5) ∧ (v5) < (30 : Int) then (if inR ((v4 + (z 2 (v5)))) then (if ((v4 + (z 2 (v5)))) < (v3) then fX0_trimEnds_b83 (v2) (v3) ((v4 + (z 2 (v5)))) (v5) (s0) ((v4 + (z 2 (v5)))) z else fX0_trimEnds_b83 (v2) (v3) ((v4 + (z 2 (v5)))) (v5) (s0) (v3) z) else none) else none)
set_option maxRecDepth 100000 in
theorem BX0_trimEnds_57 {ln : ZR} {N : Nat} {z : ZZ} {v2 : Int} {v3 : Int} {v4 : Int} {v5 : Int} {s0 : Int} {c9 s9 : Nat} {Φ : xRes → xS → Prop} (hN : 151 ≤ N ∧ N < 999999) (hz : okz z) (rv2 : inR v2) (rv3 : inR v3) (rv4 : inR v4) (rv5 : inR v5) (rs0 : inR s0) {p : (Int × Int × ZZ) ⊕ (ZZ)} (h : fX0_trimEnds_b57 v2 v3 v4 v5 s0 z = some p) (k1 : ∀ (v4' : Int) (v5' : Int) (z' : ZZ), p = .inl (v4', v5', z') → inR v4' → inR v5' → okz z' → X mX0_trimEnds 35 [some (.ref (1)), none, some (.int (iN (v2))), some (.int (iN (v3))), some (.int (iN (v4'))), some (.int (iN (v5'))), none, none] [] (zmk ln N z') c9 s9 Φ) (k2 : ∀ (z' : ZZ), p = .inr z' → okz z' → X mX0_trimEnds 115 [none, none, none, none, none, none, none, none] [] (zmk ln N z') c9 s9 Φ) : X mX0_trimEnds 57 [some (.ref (1)), none, some (.int (iN (v2))), some (.int (iN (v3))), some (.int (iN (v4))), some (.int (iN (v5))), none, none] [.int (iN (s0))] (zmk ln N z) c9 s9 Φ := by
  unfold fX0_trimEnds_b57 at h
  refine X_istore (pc' := 59) dX0_trimEnds_57 rfl (cl rfl) (Or.inr rfl) (L' := [some (.ref (1)), none, some (.int (iN (v2))), some (.int (iN (v3))), some (.int (iN (v4))), some (.int (iN (v5))), some (.int (iN (s0))), none]) rfl ?_
  refine X_iload (pc' := 61) dX0_trimEnds_59 rfl rfl ?_
  refine X_aload_n (pc' := 62) dX0_trimEnds_61 rfl rfl ?_
  refine Y_get (pc' := 65) dX0_trimEnds_62 rfl FX0_9 (zlN hN (by decide)) (congrArg Prod.fst (sh1 ln)) (ct1_0 z) ?_
  refine X_iload (pc' := 67) dX0_trimEnds_65 rfl rfl ?_
  obtain ⟨g1, h⟩ := gs h
  refine Y_iald (pc' := 68) dX0_trimEnds_67 rfl (zlN hN (by decide)) (sh2 ln) (by decide) g1 ?_
  refine X_iadd (pc' := 69) dX0_trimEnds_68 rfl ?_
  refine X_istore (pc' := 71) dX0_trimEnds_69 rfl (cl rfl) (Or.inr rfl) (L' := [some (.ref (1)), none, some (.int (iN (v2))), some (.int (iN (v3))), some (.int (iN ((v4 + (z 2 (v5)))))), some (.int (iN (v5))), some (.int (iN (s0))), none]) rfl ?_
  refine X_iload (pc' := 73) dX0_trimEnds_71 rfl rfl ?_
  refine X_iload_n (pc' := 74) dX0_trimEnds_73 rfl rfl ?_
  obtain ⟨g2, h⟩ := gs h
  refine X_icmp_ge dX0_trimEnds_74 (tgt := 82) rfl (pc' := 77) rfl ⟨g2.1, g2.2, rv3.1, rv3.2⟩ (fun c3 => ?_) (fun c3 => ?_)
  · have h := if_f (Int.not_lt.mpr c3) h
    refine X_iload_n (pc' := 83) dX0_trimEnds_82 rfl rfl ?_
    exact X_sub (sub_s (sub_n (sub_s (sub_s (sub_s (sub_s (sub_s (sub_n sub_0)))))))) (BX0_trimEnds_83 hN hz rv2 rv3 g2 rv5 rs0 rv3 h k1 k2)
  have h := if_t c3 h
  refine X_iload (pc' := 79) dX0_trimEnds_77 rfl rfl ?_
  refine X_goto dX0_trimEnds_79 (tgt := 83) rfl ?_
  exact X_sub (sub_s (sub_n (sub_s (sub_s (sub_s (sub_s (sub_s (sub_n sub_0)))))))) (BX0_trimEnds_83 hN hz rv2 rv3 g2 rv5 rs0 g2 h k1 k2)
def fX0_trimEnds_s35 (v2 : Int) (v3 : Int) (v4 : Int) (v5 : Int) (z : ZZ) : Option ((Int × Int × ZZ) ⊕ (ZZ)) := (if (v5) < (30) then (if (v2) < (v4) then fX0_trimEnds_b57 (v2) (v3) (v4) (v5) (v4) z else fX0_trimEnds_b57 (v2) (v3) (v4) (v5) (v2) z) else some (.inr z))
set_option maxRecDepth 100000 in
theorem SX0_trimEnds_35 {ln : ZR} {N : Nat} {z : ZZ} {v2 : Int} {v3 : Int} {v4 : Int} {v5 : Int} {c9 s9 : Nat} {Φ : xRes → xS → Prop} (hN : 151 ≤ N ∧ N < 999999) (hz : okz z) (rv2 : inR v2) (rv3 : inR v3) (rv4 : inR v4) (rv5 : inR v5) {p : (Int × Int × ZZ) ⊕ (ZZ)} (h : fX0_trimEnds_s35 v2 v3 v4 v5 z = some p) (k1 : ∀ (v4' : Int) (v5' : Int) (z' : ZZ), p = .inl (v4', v5', z') → inR v4' → inR v5' → okz z' → X mX0_trimEnds 35 [some (.ref (1)), none, some (.int (iN (v2))), some (.int (iN (v3))), some (.int (iN (v4'))), some (.int (iN (v5'))), none, none] [] (zmk ln N z') c9 s9 Φ) (k2 : ∀ (z' : ZZ), p = .inr z' → okz z' → X mX0_trimEnds 115 [none, none, none, none, none, none, none, none] [] (zmk ln N z') c9 s9 Φ) : X mX0_trimEnds 35 [some (.ref (1)), none, some (.int (iN (v2))), some (.int (iN (v3))), some (.int (iN (v4))), some (.int (iN (v5))), none, none] [] (zmk ln N z) c9 s9 Φ := by
  unfold fX0_trimEnds_s35 at h
  refine X_iload (pc' := 37) dX0_trimEnds_35 rfl rfl ?_
  refine X_aload_n (pc' := 38) dX0_trimEnds_37 rfl rfl ?_
  refine Y_get (pc' := 41) dX0_trimEnds_38 rfl FX0_9 (zlN hN (by decide)) (congrArg Prod.fst (sh1 ln)) (ct1_0 z) ?_
  refine Y_alen (pc' := 42) dX0_trimEnds_41 rfl (zlN hN (by decide)) (sh2 ln) (by decide) ?_
  refine X_icmp_ge dX0_trimEnds_42 (tgt := 115) rfl (pc' := 45) rfl ⟨rv5.1, rv5.2, (inR_c (n := 30) rfl).1, (inR_c (n := 30) rfl).2⟩ (fun c1 => ?_) (fun c1 => ?_)
  · have h := if_f (Int.not_lt.mpr c1) h
    cases h
    exact X_sub (sub_n (sub_n (sub_n (sub_n (sub_n (sub_n (sub_n (sub_n sub_0)))))))) (k2 _ rfl hz)
  have h := if_t c1 h
  refine X_iload (pc' := 47) dX0_trimEnds_45 rfl rfl ?_
  refine X_iload_n (pc' := 48) dX0_trimEnds_47 rfl rfl ?_
  refine X_icmp_le dX0_trimEnds_48 (tgt := 56) rfl (pc' := 51) rfl ⟨rv4.1, rv4.2, rv2.1, rv2.2⟩ (fun c2 => ?_) (fun c2 => ?_)
  · have h := if_f (Int.not_lt.mpr c2) h
    refine X_iload_n (pc' := 57) dX0_trimEnds_56 rfl rfl ?_
    exact X_sub (sub_s (sub_n (sub_s (sub_s (sub_s (sub_s (sub_n (sub_n sub_0)))))))) (BX0_trimEnds_57 hN hz rv2 rv3 rv4 rv5 rv2 h k1 k2)
  have h := if_t c2 h
  refine X_iload (pc' := 53) dX0_trimEnds_51 rfl rfl ?_
  refine X_goto dX0_trimEnds_53 (tgt := 57) rfl ?_
  exact X_sub (sub_s (sub_n (sub_s (sub_s (sub_s (sub_s (sub_n (sub_n sub_0)))))))) (BX0_trimEnds_57 hN hz rv2 rv3 rv4 rv5 rv4 h k1 k2)
theorem LX0_trimEnds_35 {ln : ZR} {N : Nat} {v2 : Int} {v3 : Int} {c9 s9 : Nat} {Φ : xRes → xS → Prop} (hN : 151 ≤ N ∧ N < 999999) (rv2 : inR v2) (rv3 : inR v3) {r : ZZ} (k2 : ∀ (z' : ZZ), r = z' → okz z' → X mX0_trimEnds 115 [none, none, none, none, none, none, none, none] [] (zmk ln N z') c9 s9 Φ) : ∀ (n : Nat) (v4 : Int) (v5 : Int) (z : ZZ), inR v4 → inR v5 → okz z → zlp (fun q => fX0_trimEnds_s35 v2 v3 q.1 q.2.1 q.2.2) n (v4, v5, z) = some r → X mX0_trimEnds 35 [some (.ref (1)), none, some (.int (iN (v2))), some (.int (iN (v3))), some (.int (iN (v4))), some (.int (iN (v5))), none, none] [] (zmk ln N z) c9 s9 Φ := by
  intro n
  induction n with
  | zero => intro v4 v5 z rv4 rv5 hz h; cases h
  | succ n ih =>
    intro v4 v5 z rv4 rv5 hz h
    rcases zlp_s h with ⟨⟨v4', v5', z'⟩, e, h'⟩ | e
    · exact SX0_trimEnds_35 hN hz rv2 rv3 rv4 rv5 e (fun v4₁ v5₁ z₁ hh f0 f1 f2 => by cases hh; exact ih _ _ _ f0 f1 f2 h') (fun z₁ hh f0 => by cases hh)
    · exact SX0_trimEnds_35 hN hz rv2 rv3 rv4 rv5 e (fun v4₁ v5₁ z₁ hh f0 f1 f2 => by cases hh) (fun z₁ hh f0 => by cases hh; exact k2 _ rfl f0)
def fX0_trimEnds (v1 : Int) (z : ZZ) : Option (ZZ) := (if inR (((z 1 1) * v1)) then (if (0 : Int) ≤ (((z 1 1) * v1)) ∧ (0 : Int) < (100) then (if inR ((((z 1 1) - (((z 1 1) * v1) / 100)) - (((z 1 1) * v1) / 100))) then (zl (zup z 1 3 ((((z 1 1) - (((z 1 1) * v1) / 100)) - (((z 1 1) * v1) / 100)))) fun z4 => (zl (zup z4 1 2 (0)) fun z5 => (if inR (((z 1 1) - (((z 1 1) * v1) / 100))) then (Option.bind (zlp (fun q => fX0_trimEnds_s35 ((((z 1 1) * v1) / 100)) (((z 1 1) - (((z 1 1) * v1) / 100))) q.1 q.2.1 q.2.2) FU (0, 0, z5)) fun x7_z => some x7_z) else none))) else none) else none) else none)
set_option maxRecDepth 100000 in
theorem CX0_trimEnds {ln : ZR} {N : Nat} {z : ZZ} {v1 : Int} (hN : 151 ≤ N ∧ N < 999999) (hz : okz z) (rv1 : inR v1) {p : ZZ} (h : fX0_trimEnds v1 z = some p) : X mX0_trimEnds 0 (xEnt [.ref (1), .int (iN (v1))] (xL mX0_trimEnds)) [] (zmk ln N z) (cc_w p) (6 * cc_w p) (Qd (fa_w p) (rs_w p) (st_w ln N p)) := by
  have k : Fin_w (Qd (fa_w p) (rs_w p) (st_w ln N p)) ln N p := Fin_w_i
  unfold fX0_trimEnds at h
  refine X_to (M := [some (.ref (1)), some (.int (iN (v1))), none, none, none, none, none, none]) (su := []) rfl rfl ?_
  refine X_aload_n (pc' := 1) dX0_trimEnds_0 rfl rfl ?_
  refine Y_get (pc' := 4) dX0_trimEnds_1 rfl FX0_15 (zlN hN (by decide)) (congrArg Prod.fst (sh1 ln)) (ct1_1 z) ?_
  refine X_iload_n (pc' := 5) dX0_trimEnds_4 rfl rfl ?_
  refine X_imul (pc' := 6) dX0_trimEnds_5 rfl ?_
  refine X_bipush (pc' := 8) dX0_trimEnds_6 rfl (by decide) ?_
  obtain ⟨g1, h⟩ := gs h
  obtain ⟨g2, h⟩ := gs h
  refine X_idiv (pc' := 9) dX0_trimEnds_8 rfl ⟨g2.1, g1.2, g2.2, (inR_c (n := 100) rfl).2⟩ ?_
  refine X_istore_n (pc' := 10) dX0_trimEnds_9 rfl (cl rfl) (Or.inr rfl) (L' := [some (.ref (1)), some (.int (iN (v1))), some (.int (iN ((((z 1 1) * v1) / 100)))), none, none, none, none, none]) rfl ?_
  refine X_aload_n (pc' := 11) dX0_trimEnds_10 rfl rfl ?_
  refine Y_get (pc' := 14) dX0_trimEnds_11 rfl FX0_15 (zlN hN (by decide)) (congrArg Prod.fst (sh1 ln)) (ct1_1 z) ?_
  refine X_iload_n (pc' := 15) dX0_trimEnds_14 rfl rfl ?_
  refine X_isub (pc' := 16) dX0_trimEnds_15 rfl ?_
  refine X_istore_n (pc' := 17) dX0_trimEnds_16 rfl (cl rfl) (Or.inr rfl) (L' := [some (.ref (1)), some (.int (iN (v1))), some (.int (iN ((((z 1 1) * v1) / 100)))), some (.int (iN (((z 1 1) - (((z 1 1) * v1) / 100))))), none, none, none, none]) rfl ?_
  refine X_aload_n (pc' := 18) dX0_trimEnds_17 rfl rfl ?_
  refine X_iload_n (pc' := 19) dX0_trimEnds_18 rfl rfl ?_
  refine X_iload_n (pc' := 20) dX0_trimEnds_19 rfl rfl ?_
  refine X_isub (pc' := 21) dX0_trimEnds_20 rfl ?_
  obtain ⟨g3, h⟩ := gs h
  refine Y_put (k := 3) (j := 3) (v := (((z 1 1) - (((z 1 1) * v1) / 100)) - (((z 1 1) * v1) / 100))) (pc' := 24) dX0_trimEnds_21 rfl FX0_22 (zlN hN (by decide)) (congrArg Prod.fst (sh1 ln)) (fun r hr => by cases hr; rfl) (xFit_int _) rfl rfl ?_
  obtain ⟨z4, e4, hz4, h⟩ := zl_some (P := okz) h (okz_up hz g3)
  rw [e4]
  refine X_aload_n (pc' := 25) dX0_trimEnds_24 rfl rfl ?_
  refine X_iconst (pc' := 26) dX0_trimEnds_25 rfl ?_
  refine Y_put (k := 2) (j := 2) (v := 0) (pc' := 29) dX0_trimEnds_26 rfl FX0_19 (zlN hN (by decide)) (congrArg Prod.fst (sh1 ln)) (fun r hr => by cases hr; rfl) (xFit_int _) rfl rfl ?_
  obtain ⟨z5, e5, hz5, h⟩ := zl_some (P := okz) h (okz_up hz4 (inR_c (n := 0) rfl))
  rw [e5]
  refine X_iconst (pc' := 30) dX0_trimEnds_29 rfl ?_
  refine X_istore (pc' := 32) dX0_trimEnds_30 rfl (cl rfl) (Or.inr rfl) (L' := [some (.ref (1)), some (.int (iN (v1))), some (.int (iN ((((z 1 1) * v1) / 100)))), some (.int (iN (((z 1 1) - (((z 1 1) * v1) / 100))))), some (.int (iN (0))), none, none, none]) rfl ?_
  refine X_iconst (pc' := 33) dX0_trimEnds_32 rfl ?_
  refine X_istore (pc' := 35) dX0_trimEnds_33 rfl (cl rfl) (Or.inr rfl) (L' := [some (.ref (1)), some (.int (iN (v1))), some (.int (iN ((((z 1 1) * v1) / 100)))), some (.int (iN (((z 1 1) - (((z 1 1) * v1) / 100))))), some (.int (iN (0))), some (.int (iN (0))), none, none]) rfl ?_
  obtain ⟨g6, h⟩ := gs h
  obtain ⟨x7_z, q7, h⟩ := bs h
  refine X_sub (sub_s (sub_n (sub_s (sub_s (sub_s (sub_s (sub_n (sub_n sub_0)))))))) (LX0_trimEnds_35 hN (inR_div g2 g1) g6 (fun x7_z₁ hh hx7_z => ?_) FU _ _ _ (inR_c (n := 0) rfl) (inR_c (n := 0) rfl) hz5 q7)
  cases hh
  cases h
  exact X_vret dX0_trimEnds_115 rfl (k hx7_z)
def fX4_set (t : Nat) (v1 : Int) (v2 : Int) (v3 : Int) (z : ZZ) : Option (ZZ) := (if (v1) < (0) then some z else (if (v1) < ((z t 3)) then (if (v2) < (0) then some z else (if (v2) < ((zCO t)) then (if inR (((v1 * (zCO t)) + v2)) then (if (((v1 * (zCO t)) + v2)) < (0) then some z else (if (((v1 * (zCO t)) + v2)) < ((zTS t : Int)) then (zl (zup z (t + 1) (((v1 * (zCO t)) + v2)) (v3)) fun z8 => some z8) else some z)) else none) else some z)) else some z))
set_option maxRecDepth 100000 in
theorem CX4_set {ln : ZR} {N : Nat} {z : ZZ} {t : Nat} {v1 : Int} {v2 : Int} {v3 : Int} (hN : 151 ≤ N ∧ N < 999999) (hz : okz z) (ht : isT t) (rv1 : inR v1) (rv2 : inR v2) (rv3 : inR v3) {p : ZZ} (h : fX4_set t v1 v2 v3 z = some p) : X mX4_set 0 (xEnt [.ref (t), .int (iN (v1)), .int (iN (v2)), .int (iN (v3))] (xL mX4_set)) [] (zmk ln N z) (cc_w p) (6 * cc_w p) (Qd (fa_w p) (rs_w p) (st_w ln N p)) := by
  have k : Fin_w (Qd (fa_w p) (rs_w p) (st_w ln N p)) ln N p := Fin_w_i
  unfold fX4_set at h
  refine X_to (M := [some (.ref (t)), some (.int (iN (v1))), some (.int (iN (v2))), some (.int (iN (v3))), none]) (su := []) rfl rfl ?_
  refine X_iload_n (pc' := 1) dX4_set_0 rfl rfl ?_
  refine X_if_lt dX4_set_1 (tgt := 24) rfl (pc' := 4) rfl rv1 (fun c1 => ?_) (fun c1 => ?_)
  · have h := if_t c1 h
    cases h
    exact X_vret dX4_set_24 rfl (k hz)
  have h := if_f (Int.not_lt.mpr c1) h
  refine X_iload_n (pc' := 5) dX4_set_4 rfl rfl ?_
  refine X_aload_n (pc' := 6) dX4_set_5 rfl rfl ?_
  refine Y_get (pc' := 9) dX4_set_6 rfl FX4_9 (isT_lt ht hN) (isT_sh ht ln) (isT_3 ht z) ?_
  refine X_icmp_ge dX4_set_9 (tgt := 24) rfl (pc' := 12) rfl ⟨rv1.1, rv1.2, (hz t 3 (isT_ne ht)).1, (hz t 3 (isT_ne ht)).2⟩ (fun c2 => ?_) (fun c2 => ?_)
  · have h := if_f (Int.not_lt.mpr c2) h
    cases h
    exact X_vret dX4_set_24 rfl (k hz)
  have h := if_t c2 h
  refine X_iload_n (pc' := 13) dX4_set_12 rfl rfl ?_
  refine X_if_lt dX4_set_13 (tgt := 24) rfl (pc' := 16) rfl rv2 (fun c3 => ?_) (fun c3 => ?_)
  · have h := if_t c3 h
    cases h
    exact X_vret dX4_set_24 rfl (k hz)
  have h := if_f (Int.not_lt.mpr c3) h
  refine X_iload_n (pc' := 17) dX4_set_16 rfl rfl ?_
  refine X_aload_n (pc' := 18) dX4_set_17 rfl rfl ?_
  refine Y_get (pc' := 21) dX4_set_18 rfl FX4_18 (isT_lt ht hN) (isT_sh ht ln) (isT_1 ht z) ?_
  refine X_icmp_lt dX4_set_21 (tgt := 25) rfl (pc' := 24) rfl ⟨rv2.1, rv2.2, (inR_CO ht).1, (inR_CO ht).2⟩ (fun c4 => ?_) (fun c4 => ?_)
  · have h := if_t c4 h
    refine X_iload_n (pc' := 26) dX4_set_25 rfl rfl ?_
    refine X_aload_n (pc' := 27) dX4_set_26 rfl rfl ?_
    refine Y_get (pc' := 30) dX4_set_27 rfl FX4_18 (isT_lt ht hN) (isT_sh ht ln) (isT_1 ht z) ?_
    refine X_imul (pc' := 31) dX4_set_30 rfl ?_
    refine X_iload_n (pc' := 32) dX4_set_31 rfl rfl ?_
    refine X_iadd (pc' := 33) dX4_set_32 rfl ?_
    refine X_istore (pc' := 35) dX4_set_33 rfl (cl rfl) (Or.inr rfl) (L' := [some (.ref (t)), some (.int (iN (v1))), some (.int (iN (v2))), some (.int (iN (v3))), some (.int (iN (((v1 * (zCO t)) + v2))))]) rfl ?_
    refine X_iload (pc' := 37) dX4_set_35 rfl rfl ?_
    obtain ⟨g5, h⟩ := gs h
    refine X_if_lt dX4_set_37 (tgt := 58) rfl (pc' := 40) rfl g5 (fun c6 => ?_) (fun c6 => ?_)
    · have h := if_t c6 h
      cases h
      exact X_vret dX4_set_58 rfl (k hz)
    have h := if_f (Int.not_lt.mpr c6) h
    refine X_iload (pc' := 42) dX4_set_40 rfl rfl ?_
    refine X_aload_n (pc' := 43) dX4_set_42 rfl rfl ?_
    refine Y_get (pc' := 46) dX4_set_43 rfl FX4_27 (isT_lt ht hN) (isT_sh ht ln) (isT_2 ht z) ?_
    refine Y_alen (pc' := 47) dX4_set_46 rfl (isT_lt1 ht hN) (isT_sh1 ht ln) (by decide) ?_
    refine X_icmp_ge dX4_set_47 (tgt := 58) rfl (pc' := 50) rfl ⟨g5.1, g5.2, (inR_TS ht).1, (inR_TS ht).2⟩ (fun c7 => ?_) (fun c7 => ?_)
    · have h := if_f (Int.not_lt.mpr c7) h
      cases h
      exact X_vret dX4_set_58 rfl (k hz)
    have h := if_t c7 h
    refine X_aload_n (pc' := 51) dX4_set_50 rfl rfl ?_
    refine Y_get (pc' := 54) dX4_set_51 rfl FX4_27 (isT_lt ht hN) (isT_sh ht ln) (isT_2 ht z) ?_
    refine X_iload (pc' := 56) dX4_set_54 rfl rfl ?_
    refine X_iload_n (pc' := 57) dX4_set_56 rfl rfl ?_
    refine Y_iast (pc' := 58) dX4_set_57 rfl (isT_lt1 ht hN) (isT_sh1 ht ln) (isT_TS ht) ⟨c6, c7⟩ ?_
    obtain ⟨z8, e8, hz8, h⟩ := zl_some (P := okz) h (okz_up hz rv3)
    rw [e8]
    cases h
    exact X_vret dX4_set_58 rfl (k hz8)
  have h := if_f (Int.not_lt.mpr c4) h
  cases h
  exact X_vret dX4_set_24 rfl (k hz)
def fX4_get (t : Nat) (v1 : Int) (v2 : Int) (z : ZZ) : Option (Int) := (if (v1) < (0) then some (0) else (if (v1) < ((z t 3)) then (if (v2) < (0) then some (0) else (if (v2) < ((zCO t)) then (if inR (((v1 * (zCO t)) + v2)) then (if (((v1 * (zCO t)) + v2)) < (0) then some (0) else (if (((v1 * (zCO t)) + v2)) < ((zTS t : Int)) then some ((z (t + 1) (((v1 * (zCO t)) + v2)))) else some (0))) else none) else some (0))) else some (0)))
set_option maxRecDepth 100000 in
theorem CX4_get {ln : ZR} {N : Nat} {z : ZZ} {t : Nat} {v1 : Int} {v2 : Int} (hN : 151 ≤ N ∧ N < 999999) (hz : okz z) (ht : isT t) (rv1 : inR v1) (rv2 : inR v2) {p : Int} (h : fX4_get t v1 v2 z = some p) : X mX4_get 0 (xEnt [.ref (t), .int (iN (v1)), .int (iN (v2))] (xL mX4_get)) [] (zmk ln N z) (cc_r p) (6 * cc_r p) (Qd (fa_r p) (rs_r p) (st_r ln N z p)) := by
  have k : Fin_r (Qd (fa_r p) (rs_r p) (st_r ln N z p)) ln N z p := Fin_r_i
  unfold fX4_get at h
  refine X_to (M := [some (.ref (t)), some (.int (iN (v1))), some (.int (iN (v2))), none]) (su := []) rfl rfl ?_
  refine X_iload_n (pc' := 1) dX4_get_0 rfl rfl ?_
  refine X_if_lt dX4_get_1 (tgt := 24) rfl (pc' := 4) rfl rv1 (fun c1 => ?_) (fun c1 => ?_)
  · have h := if_t c1 h
    refine X_iconst (pc' := 25) dX4_get_24 rfl ?_
    cases h
    exact X_iret dX4_get_25 rfl (k (inR_c (n := 0) rfl))
  have h := if_f (Int.not_lt.mpr c1) h
  refine X_iload_n (pc' := 5) dX4_get_4 rfl rfl ?_
  refine X_aload_n (pc' := 6) dX4_get_5 rfl rfl ?_
  refine Y_get (pc' := 9) dX4_get_6 rfl FX4_9 (isT_lt ht hN) (isT_sh ht ln) (isT_3 ht z) ?_
  refine X_icmp_ge dX4_get_9 (tgt := 24) rfl (pc' := 12) rfl ⟨rv1.1, rv1.2, (hz t 3 (isT_ne ht)).1, (hz t 3 (isT_ne ht)).2⟩ (fun c2 => ?_) (fun c2 => ?_)
  · have h := if_f (Int.not_lt.mpr c2) h
    refine X_iconst (pc' := 25) dX4_get_24 rfl ?_
    cases h
    exact X_iret dX4_get_25 rfl (k (inR_c (n := 0) rfl))
  have h := if_t c2 h
  refine X_iload_n (pc' := 13) dX4_get_12 rfl rfl ?_
  refine X_if_lt dX4_get_13 (tgt := 24) rfl (pc' := 16) rfl rv2 (fun c3 => ?_) (fun c3 => ?_)
  · have h := if_t c3 h
    refine X_iconst (pc' := 25) dX4_get_24 rfl ?_
    cases h
    exact X_iret dX4_get_25 rfl (k (inR_c (n := 0) rfl))
  have h := if_f (Int.not_lt.mpr c3) h
  refine X_iload_n (pc' := 17) dX4_get_16 rfl rfl ?_
  refine X_aload_n (pc' := 18) dX4_get_17 rfl rfl ?_
  refine Y_get (pc' := 21) dX4_get_18 rfl FX4_18 (isT_lt ht hN) (isT_sh ht ln) (isT_1 ht z) ?_
  refine X_icmp_lt dX4_get_21 (tgt := 26) rfl (pc' := 24) rfl ⟨rv2.1, rv2.2, (inR_CO ht).1, (inR_CO ht).2⟩ (fun c4 => ?_) (fun c4 => ?_)
  · have h := if_t c4 h
    refine X_iload_n (pc' := 27) dX4_get_26 rfl rfl ?_
    refine X_aload_n (pc' := 28) dX4_get_27 rfl rfl ?_
    refine Y_get (pc' := 31) dX4_get_28 rfl FX4_18 (isT_lt ht hN) (isT_sh ht ln) (isT_1 ht z) ?_
    refine X_imul (pc' := 32) dX4_get_31 rfl ?_
    refine X_iload_n (pc' := 33) dX4_get_32 rfl rfl ?_
    refine X_iadd (pc' := 34) dX4_get_33 rfl ?_
    refine X_istore_n (pc' := 35) dX4_get_34 rfl (cl rfl) (Or.inr rfl) (L' := [some (.ref (t)), some (.int (iN (v1))), some (.int (iN (v2))), some (.int (iN (((v1 * (zCO t)) + v2))))]) rfl ?_
    refine X_iload_n (pc' := 36) dX4_get_35 rfl rfl ?_
    obtain ⟨g5, h⟩ := gs h
    refine X_if_lt dX4_get_36 (tgt := 57) rfl (pc' := 39) rfl g5 (fun c6 => ?_) (fun c6 => ?_)
    · have h := if_t c6 h
      refine X_iconst (pc' := 58) dX4_get_57 rfl ?_
      cases h
      exact X_iret dX4_get_58 rfl (k (inR_c (n := 0) rfl))
    have h := if_f (Int.not_lt.mpr c6) h
    refine X_iload_n (pc' := 40) dX4_get_39 rfl rfl ?_
    refine X_aload_n (pc' := 41) dX4_get_40 rfl rfl ?_
    refine Y_get (pc' := 44) dX4_get_41 rfl FX4_27 (isT_lt ht hN) (isT_sh ht ln) (isT_2 ht z) ?_
    refine Y_alen (pc' := 45) dX4_get_44 rfl (isT_lt1 ht hN) (isT_sh1 ht ln) (by decide) ?_
    refine X_icmp_ge dX4_get_45 (tgt := 57) rfl (pc' := 48) rfl ⟨g5.1, g5.2, (inR_TS ht).1, (inR_TS ht).2⟩ (fun c7 => ?_) (fun c7 => ?_)
    · have h := if_f (Int.not_lt.mpr c7) h
      refine X_iconst (pc' := 58) dX4_get_57 rfl ?_
      cases h
      exact X_iret dX4_get_58 rfl (k (inR_c (n := 0) rfl))
    have h := if_t c7 h
    refine X_aload_n (pc' := 49) dX4_get_48 rfl rfl ?_
    refine Y_get (pc' := 52) dX4_get_49 rfl FX4_27 (isT_lt ht hN) (isT_sh ht ln) (isT_2 ht z) ?_
    refine X_iload_n (pc' := 53) dX4_get_52 rfl rfl ?_
    refine Y_iald (pc' := 54) dX4_get_53 rfl (isT_lt1 ht hN) (isT_sh1 ht ln) (isT_TS ht) ⟨c6, c7⟩ ?_
    refine X_goto dX4_get_54 (tgt := 58) rfl ?_
    cases h
    exact X_iret dX4_get_58 rfl (k (hz (t + 1) (((v1 * (zCO t)) + v2)) (isT_ne1 ht)))
  have h := if_f (Int.not_lt.mpr c4) h
  refine X_iconst (pc' := 25) dX4_get_24 rfl ?_
  cases h
  exact X_iret dX4_get_25 rfl (k (inR_c (n := 0) rfl))
def fX4_add (t : Nat) (v1 : Int) (v2 : Int) (v3 : Int) (z : ZZ) : Option (ZZ) := (Option.bind (fX4_get t (v1) (v2) z) fun r1 => (if inR ((r1 + v3)) then (Option.bind (fX4_set t (v1) (v2) ((r1 + v3)) z) fun z3 => some z3) else none))
set_option maxRecDepth 100000 in
theorem CX4_add {ln : ZR} {N : Nat} {z : ZZ} {t : Nat} {v1 : Int} {v2 : Int} {v3 : Int} (hN : 151 ≤ N ∧ N < 999999) (hz : okz z) (ht : isT t) (rv1 : inR v1) (rv2 : inR v2) (rv3 : inR v3) {p : ZZ} (h : fX4_add t v1 v2 v3 z = some p) : X mX4_add 0 (xEnt [.ref (t), .int (iN (v1)), .int (iN (v2)), .int (iN (v3))] (xL mX4_add)) [] (zmk ln N z) (cc_w p) (6 * cc_w p) (Qd (fa_w p) (rs_w p) (st_w ln N p)) := by
  have k : Fin_w (Qd (fa_w p) (rs_w p) (st_w ln N p)) ln N p := Fin_w_i
  unfold fX4_add at h
  refine X_to (M := [some (.ref (t)), some (.int (iN (v1))), some (.int (iN (v2))), some (.int (iN (v3)))]) (su := []) rfl rfl ?_
  refine X_aload_n (pc' := 1) dX4_add_0 rfl rfl ?_
  refine X_iload_n (pc' := 2) dX4_add_1 rfl rfl ?_
  refine X_iload_n (pc' := 3) dX4_add_2 rfl rfl ?_
  refine X_aload_n (pc' := 4) dX4_add_3 rfl rfl ?_
  refine X_iload_n (pc' := 5) dX4_add_4 rfl rfl ?_
  refine X_iload_n (pc' := 6) dX4_add_5 rfl rfl ?_
  obtain ⟨r1, q1, h⟩ := bs h
  refine Y_callV [.int (iN (v1)), .int (iN (v2))] (pc' := 9) dX4_add_6 rfl VX4_31 (by decide) (isT_lt ht hN) (isT_sh ht ln) rfl rfl rfl (cs rfl) (cs rfl) rfl (CX4_get hN hz ht rv1 rv2 q1) (Nat.zero_add _).symm (Nat.zero_add _).symm (fun f1 => ?_)
  refine X_iload_n (pc' := 10) dX4_add_9 rfl rfl ?_
  refine X_iadd (pc' := 11) dX4_add_10 rfl ?_
  obtain ⟨g2, h⟩ := gs h
  obtain ⟨z3, q3, h⟩ := bs h
  refine Y_callVv [.int (iN (v1)), .int (iN (v2)), .int (iN ((r1 + v3)))] (pc' := 14) dX4_add_11 rfl VX4_34 (by decide) (isT_lt ht hN) (isT_sh ht ln) rfl rfl rfl (cs rfl) (cs rfl) rfl (CX4_set hN hz ht rv1 rv2 g2 q3) (Nat.zero_add _).symm (Nat.zero_add _).symm (fun f3 => ?_)
  cases h
  exact X_vret dX4_add_14 rfl (k f3)
def fX4_isFull (t : Nat) (z : ZZ) : Option (Int) := (if ((z t 3)) < ((zMR t)) then some (0) else some (1))
set_option maxRecDepth 100000 in
theorem CX4_isFull {ln : ZR} {N : Nat} {z : ZZ} {t : Nat} (hN : 151 ≤ N ∧ N < 999999) (hz : okz z) (ht : isT t) {p : Int} (h : fX4_isFull t z = some p) : X mX4_isFull 0 (xEnt [.ref (t)] (xL mX4_isFull)) [] (zmk ln N z) (cc_b p) (6 * cc_b p) (Qd (fa_b p) (rs_b p) (st_b ln N z p)) := by
  have k : Fin_b (Qd (fa_b p) (rs_b p) (st_b ln N z p)) ln N z p := Fin_b_i
  unfold fX4_isFull at h
  refine X_to (M := [some (.ref (t))]) (su := []) rfl rfl ?_
  refine X_aload_n (pc' := 1) dX4_isFull_0 rfl rfl ?_
  refine Y_get (pc' := 4) dX4_isFull_1 rfl FX4_9 (isT_lt ht hN) (isT_sh ht ln) (isT_3 ht z) ?_
  refine X_aload_n (pc' := 5) dX4_isFull_4 rfl rfl ?_
  refine Y_get (pc' := 8) dX4_isFull_5 rfl FX4_15 (isT_lt ht hN) (isT_sh ht ln) (isT_0 ht z) ?_
  refine X_icmp_lt dX4_isFull_8 (tgt := 15) rfl (pc' := 11) rfl ⟨(hz t 3 (isT_ne ht)).1, (hz t 3 (isT_ne ht)).2, (inR_MR ht).1, (inR_MR ht).2⟩ (fun c1 => ?_) (fun c1 => ?_)
  · have h := if_t c1 h
    refine X_iconst (pc' := 16) dX4_isFull_15 rfl ?_
    cases h
    exact X_zret dX4_isFull_16 rfl (Or.inl rfl) (k (Or.inl rfl))
  have h := if_f (Int.not_lt.mpr c1) h
  refine X_iconst (pc' := 12) dX4_isFull_11 rfl ?_
  refine X_goto dX4_isFull_12 (tgt := 16) rfl ?_
  cases h
  exact X_zret dX4_isFull_16 rfl (Or.inr rfl) (k (Or.inr rfl))
def fX4_addRow_s26 (t : Nat) (v1 : Int) (v2 : Int) (z : ZZ) : Option ((Int × ZZ) ⊕ (ZZ)) := (if (v2) < ((zCO t)) then (Option.bind (fX4_set t (v1) (v2) (0) z) fun z2 => (if inR ((v2 + 1)) then some (.inl ((v2 + 1), z2)) else none)) else some (.inr z))
set_option maxRecDepth 100000 in
theorem SX4_addRow_26 {ln : ZR} {N : Nat} {z : ZZ} {t : Nat} {v1 : Int} {v2 : Int} {c9 s9 : Nat} {Φ : xRes → xS → Prop} (hN : 151 ≤ N ∧ N < 999999) (hz : okz z) (ht : isT t) (rv1 : inR v1) (rv2 : inR v2) {p : (Int × ZZ) ⊕ (ZZ)} (h : fX4_addRow_s26 t v1 v2 z = some p) (k1 : ∀ (v2' : Int) (z' : ZZ), p = .inl (v2', z') → inR v2' → okz z' → X mX4_addRow 26 [some (.ref (t)), some (.int (iN (v1))), some (.int (iN (v2')))] [] (zmk ln N z') c9 s9 Φ) (k2 : ∀ (z' : ZZ), p = .inr z' → okz z' → X mX4_addRow 47 [none, some (.int (iN (v1))), none] [] (zmk ln N z') c9 s9 Φ) : X mX4_addRow 26 [some (.ref (t)), some (.int (iN (v1))), some (.int (iN (v2)))] [] (zmk ln N z) c9 s9 Φ := by
  unfold fX4_addRow_s26 at h
  refine X_iload_n (pc' := 27) dX4_addRow_26 rfl rfl ?_
  refine X_aload_n (pc' := 28) dX4_addRow_27 rfl rfl ?_
  refine Y_get (pc' := 31) dX4_addRow_28 rfl FX4_18 (isT_lt ht hN) (isT_sh ht ln) (isT_1 ht z) ?_
  refine X_icmp_ge dX4_addRow_31 (tgt := 47) rfl (pc' := 34) rfl ⟨rv2.1, rv2.2, (inR_CO ht).1, (inR_CO ht).2⟩ (fun c1 => ?_) (fun c1 => ?_)
  · have h := if_f (Int.not_lt.mpr c1) h
    cases h
    exact X_sub (sub_n (sub_s (sub_n sub_0))) (k2 _ rfl hz)
  have h := if_t c1 h
  refine X_aload_n (pc' := 35) dX4_addRow_34 rfl rfl ?_
  refine X_iload_n (pc' := 36) dX4_addRow_35 rfl rfl ?_
  refine X_iload_n (pc' := 37) dX4_addRow_36 rfl rfl ?_
  refine X_iconst (pc' := 38) dX4_addRow_37 rfl ?_
  obtain ⟨z2, q2, h⟩ := bs h
  refine Y_callVv [.int (iN (v1)), .int (iN (v2)), .int (iN (0))] (pc' := 41) dX4_addRow_38 rfl VX4_34 (by decide) (isT_lt ht hN) (isT_sh ht ln) rfl rfl rfl (cs rfl) (cs rfl) rfl (CX4_set hN hz ht rv1 rv2 (inR_c (n := 0) rfl) q2) (Nat.zero_add _).symm (Nat.zero_add _).symm (fun f2 => ?_)
  refine X_iinc (pc' := 44) dX4_addRow_41 rfl rfl (Or.inr rfl) (L' := [some (.ref (t)), some (.int (iN (v1))), some (.int (iN (v2 + 1)))]) rfl ?_
  refine X_goto dX4_addRow_44 (tgt := 26) rfl ?_
  obtain ⟨g3, h⟩ := gs h
  cases h
  exact X_sub (sub_s (sub_s (sub_s sub_0))) (k1 _ _ rfl g3 f2)
theorem LX4_addRow_26 {ln : ZR} {N : Nat} {t : Nat} {v1 : Int} {c9 s9 : Nat} {Φ : xRes → xS → Prop} (hN : 151 ≤ N ∧ N < 999999) (ht : isT t) (rv1 : inR v1) {r : ZZ} (k2 : ∀ (z' : ZZ), r = z' → okz z' → X mX4_addRow 47 [none, some (.int (iN (v1))), none] [] (zmk ln N z') c9 s9 Φ) : ∀ (n : Nat) (v2 : Int) (z : ZZ), inR v2 → okz z → zlp (fun q => fX4_addRow_s26 t v1 q.1 q.2) n (v2, z) = some r → X mX4_addRow 26 [some (.ref (t)), some (.int (iN (v1))), some (.int (iN (v2)))] [] (zmk ln N z) c9 s9 Φ := by
  intro n
  induction n with
  | zero => intro v2 z rv2 hz h; cases h
  | succ n ih =>
    intro v2 z rv2 hz h
    rcases zlp_s h with ⟨⟨v2', z'⟩, e, h'⟩ | e
    · exact SX4_addRow_26 hN hz ht rv1 rv2 e (fun v2₁ z₁ hh f0 f1 => by cases hh; exact ih _ _ f0 f1 h') (fun z₁ hh f0 => by cases hh)
    · exact SX4_addRow_26 hN hz ht rv1 rv2 e (fun v2₁ z₁ hh f0 f1 => by cases hh) (fun z₁ hh f0 => by cases hh; exact k2 _ rfl f0)
def fX4_addRow (t : Nat) (z : ZZ) : Option (Int × ZZ) := (Option.bind (fX4_isFull t z) fun r1 => (if (r1) = (0) then (if inR (((z t 3) + 1)) then (zl (zup z t 3 (((z t 3) + 1))) fun z4 => (Option.bind (zlp (fun q => fX4_addRow_s26 t ((z t 3)) q.1 q.2) FU (0, z4)) fun x5_z => some ((z t 3), x5_z))) else none) else some ((-1), z)))
set_option maxRecDepth 100000 in
theorem CX4_addRow {ln : ZR} {N : Nat} {z : ZZ} {t : Nat} (hN : 151 ≤ N ∧ N < 999999) (hz : okz z) (ht : isT t) {p : Int × ZZ} (h : fX4_addRow t z = some p) : X mX4_addRow 0 (xEnt [.ref (t)] (xL mX4_addRow)) [] (zmk ln N z) (cc_wi p) (6 * cc_wi p) (Qd (fa_wi p) (rs_wi p) (st_wi ln N p)) := by
  have k : Fin_wi (Qd (fa_wi p) (rs_wi p) (st_wi ln N p)) ln N p := Fin_wi_i
  unfold fX4_addRow at h
  refine X_to (M := [some (.ref (t)), none, none]) (su := []) rfl rfl ?_
  refine X_aload_n (pc' := 1) dX4_addRow_0 rfl rfl ?_
  obtain ⟨r1, q1, h⟩ := bs h
  refine Y_callV [] (pc' := 4) dX4_addRow_1 rfl VX4_38 (by decide) (isT_lt ht hN) (isT_sh ht ln) rfl rfl rfl (cs rfl) (cs rfl) rfl (CX4_isFull hN hz ht q1) (Nat.zero_add _).symm (Nat.zero_add _).symm (fun f1 => ?_)
  refine X_if_eq dX4_addRow_4 (tgt := 9) rfl (pc' := 7) rfl (inR_b f1) (fun c2 => ?_) (fun c2 => ?_)
  · have h := if_t c2 h
    refine X_aload_n (pc' := 10) dX4_addRow_9 rfl rfl ?_
    refine Y_get (pc' := 13) dX4_addRow_10 rfl FX4_9 (isT_lt ht hN) (isT_sh ht ln) (isT_3 ht z) ?_
    refine X_istore_n (pc' := 14) dX4_addRow_13 rfl (cl rfl) (Or.inr rfl) (L' := [some (.ref (t)), some (.int (iN ((z t 3)))), none]) rfl ?_
    refine X_aload_n (pc' := 15) dX4_addRow_14 rfl rfl ?_
    refine X_dup (pc' := 16) dX4_addRow_15 rfl rfl ?_
    refine Y_get (pc' := 19) dX4_addRow_16 rfl FX4_9 (isT_lt ht hN) (isT_sh ht ln) (isT_3 ht z) ?_
    refine X_iconst (pc' := 20) dX4_addRow_19 rfl ?_
    refine X_iadd (pc' := 21) dX4_addRow_20 rfl ?_
    obtain ⟨g3, h⟩ := gs h
    refine Y_put (k := 3) (j := 3) (v := ((z t 3) + 1)) (pc' := 24) dX4_addRow_21 rfl FX4_9 (isT_lt ht hN) (isT_sh ht ln) (fun r hr => by cases hr; rfl) (xFit_int _) rfl (isT_3v ht _) ?_
    obtain ⟨z4, e4, hz4, h⟩ := zl_some (P := okz) h (okz_up hz g3)
    rw [e4]
    refine X_iconst (pc' := 25) dX4_addRow_24 rfl ?_
    refine X_istore_n (pc' := 26) dX4_addRow_25 rfl (cl rfl) (Or.inr rfl) (L' := [some (.ref (t)), some (.int (iN ((z t 3)))), some (.int (iN (0)))]) rfl ?_
    obtain ⟨x5_z, q5, h⟩ := bs h
    refine X_sub (sub_s (sub_s (sub_s sub_0))) (LX4_addRow_26 hN ht (hz t 3 (isT_ne ht)) (fun x5_z₁ hh hx5_z => ?_) FU _ _ (inR_c (n := 0) rfl) hz4 q5)
    cases hh
    refine X_iload_n (pc' := 48) dX4_addRow_47 rfl rfl ?_
    cases h
    exact X_iret dX4_addRow_48 rfl (k ⟨(hz t 3 (isT_ne ht)), hx5_z⟩)
  have h := if_f c2 h
  refine X_iconst (pc' := 8) dX4_addRow_7 rfl ?_
  cases h
  exact X_iret dX4_addRow_8 rfl (k ⟨(inR_c (n := (-1)) rfl), hz⟩)
def fX4_hasRow (t : Nat) (v1 : Int) (z : ZZ) : Option (Int) := (if (v1) < (0) then some (0) else (if (v1) < ((z t 3)) then some (1) else some (0)))
set_option maxRecDepth 100000 in
theorem CX4_hasRow {ln : ZR} {N : Nat} {z : ZZ} {t : Nat} {v1 : Int} (hN : 151 ≤ N ∧ N < 999999) (hz : okz z) (ht : isT t) (rv1 : inR v1) {p : Int} (h : fX4_hasRow t v1 z = some p) : X mX4_hasRow 0 (xEnt [.ref (t), .int (iN (v1))] (xL mX4_hasRow)) [] (zmk ln N z) (cc_b p) (6 * cc_b p) (Qd (fa_b p) (rs_b p) (st_b ln N z p)) := by
  have k : Fin_b (Qd (fa_b p) (rs_b p) (st_b ln N z p)) ln N z p := Fin_b_i
  unfold fX4_hasRow at h
  refine X_to (M := [some (.ref (t)), some (.int (iN (v1)))]) (su := []) rfl rfl ?_
  refine X_iload_n (pc' := 1) dX4_hasRow_0 rfl rfl ?_
  refine X_if_lt dX4_hasRow_1 (tgt := 16) rfl (pc' := 4) rfl rv1 (fun c1 => ?_) (fun c1 => ?_)
  · have h := if_t c1 h
    refine X_iconst (pc' := 17) dX4_hasRow_16 rfl ?_
    cases h
    exact X_zret dX4_hasRow_17 rfl (Or.inl rfl) (k (Or.inl rfl))
  have h := if_f (Int.not_lt.mpr c1) h
  refine X_iload_n (pc' := 5) dX4_hasRow_4 rfl rfl ?_
  refine X_aload_n (pc' := 6) dX4_hasRow_5 rfl rfl ?_
  refine Y_get (pc' := 9) dX4_hasRow_6 rfl FX4_9 (isT_lt ht hN) (isT_sh ht ln) (isT_3 ht z) ?_
  refine X_icmp_ge dX4_hasRow_9 (tgt := 16) rfl (pc' := 12) rfl ⟨rv1.1, rv1.2, (hz t 3 (isT_ne ht)).1, (hz t 3 (isT_ne ht)).2⟩ (fun c2 => ?_) (fun c2 => ?_)
  · have h := if_f (Int.not_lt.mpr c2) h
    refine X_iconst (pc' := 17) dX4_hasRow_16 rfl ?_
    cases h
    exact X_zret dX4_hasRow_17 rfl (Or.inl rfl) (k (Or.inl rfl))
  have h := if_t c2 h
  refine X_iconst (pc' := 13) dX4_hasRow_12 rfl ?_
  refine X_goto dX4_hasRow_13 (tgt := 17) rfl ?_
  cases h
  exact X_zret dX4_hasRow_17 rfl (Or.inr rfl) (k (Or.inr rfl))
def fX4_removeRow_s16 (t : Nat) (v2 : Int) (z : ZZ) : Option ((Int × ZZ) ⊕ (ZZ)) := (if inR ((v2 + (zCO t))) then (if ((v2 + (zCO t))) < ((zTS t : Int)) then (if (0 : Int) ≤ ((v2 + (zCO t))) ∧ ((v2 + (zCO t))) < (zTS t : Int) then (if (0 : Int) ≤ (v2) ∧ (v2) < (zTS t : Int) then (zl (zup z (t + 1) (v2) ((z (t + 1) ((v2 + (zCO t)))))) fun z5 => (if inR ((v2 + 1)) then some (.inl ((v2 + 1), z5)) else none)) else none) else none) else some (.inr z)) else none)
set_option maxRecDepth 100000 in
theorem SX4_removeRow_16 {ln : ZR} {N : Nat} {z : ZZ} {t : Nat} {v2 : Int} {c9 s9 : Nat} {Φ : xRes → xS → Prop} (hN : 151 ≤ N ∧ N < 999999) (hz : okz z) (ht : isT t) (rv2 : inR v2) {p : (Int × ZZ) ⊕ (ZZ)} (h : fX4_removeRow_s16 t v2 z = some p) (k1 : ∀ (v2' : Int) (z' : ZZ), p = .inl (v2', z') → inR v2' → okz z' → X mX4_removeRow 16 [some (.ref (t)), none, some (.int (iN (v2')))] [] (zmk ln N z') c9 s9 Φ) (k2 : ∀ (z' : ZZ), p = .inr z' → okz z' → X mX4_removeRow 53 [some (.ref (t)), none, none] [] (zmk ln N z') c9 s9 Φ) : X mX4_removeRow 16 [some (.ref (t)), none, some (.int (iN (v2)))] [] (zmk ln N z) c9 s9 Φ := by
  unfold fX4_removeRow_s16 at h
  refine X_iload_n (pc' := 17) dX4_removeRow_16 rfl rfl ?_
  refine X_aload_n (pc' := 18) dX4_removeRow_17 rfl rfl ?_
  refine Y_get (pc' := 21) dX4_removeRow_18 rfl FX4_18 (isT_lt ht hN) (isT_sh ht ln) (isT_1 ht z) ?_
  refine X_iadd (pc' := 22) dX4_removeRow_21 rfl ?_
  refine X_aload_n (pc' := 23) dX4_removeRow_22 rfl rfl ?_
  refine Y_get (pc' := 26) dX4_removeRow_23 rfl FX4_27 (isT_lt ht hN) (isT_sh ht ln) (isT_2 ht z) ?_
  refine Y_alen (pc' := 27) dX4_removeRow_26 rfl (isT_lt1 ht hN) (isT_sh1 ht ln) (by decide) ?_
  obtain ⟨g1, h⟩ := gs h
  refine X_icmp_ge dX4_removeRow_27 (tgt := 53) rfl (pc' := 30) rfl ⟨g1.1, g1.2, (inR_TS ht).1, (inR_TS ht).2⟩ (fun c2 => ?_) (fun c2 => ?_)
  · have h := if_f (Int.not_lt.mpr c2) h
    cases h
    exact X_sub (sub_s (sub_n (sub_n sub_0))) (k2 _ rfl hz)
  have h := if_t c2 h
  refine X_aload_n (pc' := 31) dX4_removeRow_30 rfl rfl ?_
  refine Y_get (pc' := 34) dX4_removeRow_31 rfl FX4_27 (isT_lt ht hN) (isT_sh ht ln) (isT_2 ht z) ?_
  refine X_iload_n (pc' := 35) dX4_removeRow_34 rfl rfl ?_
  refine X_aload_n (pc' := 36) dX4_removeRow_35 rfl rfl ?_
  refine Y_get (pc' := 39) dX4_removeRow_36 rfl FX4_27 (isT_lt ht hN) (isT_sh ht ln) (isT_2 ht z) ?_
  refine X_iload_n (pc' := 40) dX4_removeRow_39 rfl rfl ?_
  refine X_aload_n (pc' := 41) dX4_removeRow_40 rfl rfl ?_
  refine Y_get (pc' := 44) dX4_removeRow_41 rfl FX4_18 (isT_lt ht hN) (isT_sh ht ln) (isT_1 ht z) ?_
  refine X_iadd (pc' := 45) dX4_removeRow_44 rfl ?_
  obtain ⟨g3, h⟩ := gs h
  refine Y_iald (pc' := 46) dX4_removeRow_45 rfl (isT_lt1 ht hN) (isT_sh1 ht ln) (isT_TS ht) g3 ?_
  obtain ⟨g4, h⟩ := gs h
  refine Y_iast (pc' := 47) dX4_removeRow_46 rfl (isT_lt1 ht hN) (isT_sh1 ht ln) (isT_TS ht) g4 ?_
  obtain ⟨z5, e5, hz5, h⟩ := zl_some (P := okz) h (okz_up hz (hz (t + 1) ((v2 + (zCO t))) (isT_ne1 ht)))
  rw [e5]
  refine X_iinc (pc' := 50) dX4_removeRow_47 rfl rfl (Or.inr rfl) (L' := [some (.ref (t)), none, some (.int (iN (v2 + 1)))]) rfl ?_
  refine X_goto dX4_removeRow_50 (tgt := 16) rfl ?_
  obtain ⟨g6, h⟩ := gs h
  cases h
  exact X_sub (sub_s (sub_n (sub_s sub_0))) (k1 _ _ rfl g6 hz5)
theorem LX4_removeRow_16 {ln : ZR} {N : Nat} {t : Nat} {c9 s9 : Nat} {Φ : xRes → xS → Prop} (hN : 151 ≤ N ∧ N < 999999) (ht : isT t) {r : ZZ} (k2 : ∀ (z' : ZZ), r = z' → okz z' → X mX4_removeRow 53 [some (.ref (t)), none, none] [] (zmk ln N z') c9 s9 Φ) : ∀ (n : Nat) (v2 : Int) (z : ZZ), inR v2 → okz z → zlp (fun q => fX4_removeRow_s16 t q.1 q.2) n (v2, z) = some r → X mX4_removeRow 16 [some (.ref (t)), none, some (.int (iN (v2)))] [] (zmk ln N z) c9 s9 Φ := by
  intro n
  induction n with
  | zero => intro v2 z rv2 hz h; cases h
  | succ n ih =>
    intro v2 z rv2 hz h
    rcases zlp_s h with ⟨⟨v2', z'⟩, e, h'⟩ | e
    · exact SX4_removeRow_16 hN hz ht rv2 e (fun v2₁ z₁ hh f0 f1 => by cases hh; exact ih _ _ f0 f1 h') (fun z₁ hh f0 => by cases hh)
    · exact SX4_removeRow_16 hN hz ht rv2 e (fun v2₁ z₁ hh f0 f1 => by cases hh) (fun z₁ hh f0 => by cases hh; exact k2 _ rfl f0)
def fX4_removeRow (t : Nat) (v1 : Int) (z : ZZ) : Option (ZZ) := (Option.bind (fX4_hasRow t (v1) z) fun r1 => (if (r1) = (0) then some z else (if inR ((v1 * (zCO t))) then (Option.bind (zlp (fun q => fX4_removeRow_s16 t q.1 q.2) FU ((v1 * (zCO t)), z)) fun x4_z => (if inR (((x4_z t 3) - 1)) then (zl (zup x4_z t 3 (((x4_z t 3) - 1))) fun z6 => some z6) else none)) else none)))
set_option maxRecDepth 100000 in
theorem CX4_removeRow {ln : ZR} {N : Nat} {z : ZZ} {t : Nat} {v1 : Int} (hN : 151 ≤ N ∧ N < 999999) (hz : okz z) (ht : isT t) (rv1 : inR v1) {p : ZZ} (h : fX4_removeRow t v1 z = some p) : X mX4_removeRow 0 (xEnt [.ref (t), .int (iN (v1))] (xL mX4_removeRow)) [] (zmk ln N z) (cc_w p) (6 * cc_w p) (Qd (fa_w p) (rs_w p) (st_w ln N p)) := by
  have k : Fin_w (Qd (fa_w p) (rs_w p) (st_w ln N p)) ln N p := Fin_w_i
  unfold fX4_removeRow at h
  refine X_to (M := [some (.ref (t)), some (.int (iN (v1))), none]) (su := []) rfl rfl ?_
  refine X_aload_n (pc' := 1) dX4_removeRow_0 rfl rfl ?_
  refine X_iload_n (pc' := 2) dX4_removeRow_1 rfl rfl ?_
  obtain ⟨r1, q1, h⟩ := bs h
  refine Y_callV [.int (iN (v1))] (pc' := 5) dX4_removeRow_2 rfl VX4_42 (by decide) (isT_lt ht hN) (isT_sh ht ln) rfl rfl rfl (cs rfl) (cs rfl) rfl (CX4_hasRow hN hz ht rv1 q1) (Nat.zero_add _).symm (Nat.zero_add _).symm (fun f1 => ?_)
  refine X_if_ne dX4_removeRow_5 (tgt := 9) rfl (pc' := 8) rfl (inR_b f1) (fun c2 => ?_) (fun c2 => ?_)
  · have h := if_f c2 h
    refine X_iload_n (pc' := 10) dX4_removeRow_9 rfl rfl ?_
    refine X_aload_n (pc' := 11) dX4_removeRow_10 rfl rfl ?_
    refine Y_get (pc' := 14) dX4_removeRow_11 rfl FX4_18 (isT_lt ht hN) (isT_sh ht ln) (isT_1 ht z) ?_
    refine X_imul (pc' := 15) dX4_removeRow_14 rfl ?_
    refine X_istore_n (pc' := 16) dX4_removeRow_15 rfl (cl rfl) (Or.inr rfl) (L' := [some (.ref (t)), some (.int (iN (v1))), some (.int (iN ((v1 * (zCO t)))))]) rfl ?_
    obtain ⟨g3, h⟩ := gs h
    obtain ⟨x4_z, q4, h⟩ := bs h
    refine X_sub (sub_s (sub_n (sub_s sub_0))) (LX4_removeRow_16 hN ht (fun x4_z₁ hh hx4_z => ?_) FU _ _ g3 hz q4)
    cases hh
    refine X_aload_n (pc' := 54) dX4_removeRow_53 rfl rfl ?_
    refine X_dup (pc' := 55) dX4_removeRow_54 rfl rfl ?_
    refine Y_get (pc' := 58) dX4_removeRow_55 rfl FX4_9 (isT_lt ht hN) (isT_sh ht ln) (isT_3 ht x4_z) ?_
    refine X_iconst (pc' := 59) dX4_removeRow_58 rfl ?_
    refine X_isub (pc' := 60) dX4_removeRow_59 rfl ?_
    obtain ⟨g5, h⟩ := gs h
    refine Y_put (k := 3) (j := 3) (v := ((x4_z t 3) - 1)) (pc' := 63) dX4_removeRow_60 rfl FX4_9 (isT_lt ht hN) (isT_sh ht ln) (fun r hr => by cases hr; rfl) (xFit_int _) rfl (isT_3v ht _) ?_
    obtain ⟨z6, e6, hz6, h⟩ := zl_some (P := okz) h (okz_up hx4_z g5)
    rw [e6]
    cases h
    exact X_vret dX4_removeRow_63 rfl (k hz6)
  have h := if_t c2 h
  cases h
  exact X_vret dX4_removeRow_8 rfl (k hz)
def fX4_clear (t : Nat) (z : ZZ) : Option (ZZ) := (zl (zup z t 3 (0)) fun z1 => some z1)
set_option maxRecDepth 100000 in
theorem CX4_clear {ln : ZR} {N : Nat} {z : ZZ} {t : Nat} (hN : 151 ≤ N ∧ N < 999999) (hz : okz z) (ht : isT t) {p : ZZ} (h : fX4_clear t z = some p) : X mX4_clear 0 (xEnt [.ref (t)] (xL mX4_clear)) [] (zmk ln N z) (cc_w p) (6 * cc_w p) (Qd (fa_w p) (rs_w p) (st_w ln N p)) := by
  have k : Fin_w (Qd (fa_w p) (rs_w p) (st_w ln N p)) ln N p := Fin_w_i
  unfold fX4_clear at h
  refine X_to (M := [some (.ref (t))]) (su := []) rfl rfl ?_
  refine X_aload_n (pc' := 1) dX4_clear_0 rfl rfl ?_
  refine X_iconst (pc' := 2) dX4_clear_1 rfl ?_
  refine Y_put (k := 3) (j := 3) (v := 0) (pc' := 5) dX4_clear_2 rfl FX4_9 (isT_lt ht hN) (isT_sh ht ln) (fun r hr => by cases hr; rfl) (xFit_int _) rfl (isT_3v ht _) ?_
  obtain ⟨z1, e1, hz1, h⟩ := zl_some (P := okz) h (okz_up hz (inR_c (n := 0) rfl))
  rw [e1]
  cases h
  exact X_vret dX4_clear_5 rfl (k hz1)
def fX4_copyFrom (t : Nat) (t2 : Nat) (z : ZZ) : Option (ZZ) := (zl (zup z t 3 ((z t2 3))) fun z1 => (if (0 : Int) ≤ (0) ∧ (0 : Int) ≤ (0) ∧ 0 ≤ ((min ((zTS t2 : Int)) ((zTS t : Int)))) ∧ (0) + ((min ((zTS t2 : Int)) ((zTS t : Int)))) ≤ (zTS t2 : Int) ∧ (0) + ((min ((zTS t2 : Int)) ((zTS t : Int)))) ≤ (zTS t : Int) then (zl (zcp z1 (t2 + 1) (t + 1) (0) (0) ((min ((zTS t2 : Int)) ((zTS t : Int))))) fun z3 => some z3) else none))
set_option maxRecDepth 100000 in
theorem CX4_copyFrom {ln : ZR} {N : Nat} {z : ZZ} {t : Nat} {t2 : Nat} (hN : 151 ≤ N ∧ N < 999999) (hz : okz z) (ht : isT t) (ht2 : isT t2) {p : ZZ} (h : fX4_copyFrom t t2 z = some p) : X mX4_copyFrom 0 (xEnt [.ref (t), .ref (t2)] (xL mX4_copyFrom)) [] (zmk ln N z) (cc_w p) (6 * cc_w p) (Qd (fa_w p) (rs_w p) (st_w ln N p)) := by
  have k : Fin_w (Qd (fa_w p) (rs_w p) (st_w ln N p)) ln N p := Fin_w_i
  unfold fX4_copyFrom at h
  refine X_to (M := [some (.ref (t)), some (.ref (t2))]) (su := []) rfl rfl ?_
  refine X_aload_n (pc' := 1) dX4_copyFrom_0 rfl rfl ?_
  refine X_aload_n (pc' := 2) dX4_copyFrom_1 rfl rfl ?_
  refine Y_get (pc' := 5) dX4_copyFrom_2 rfl FX4_9 (isT_lt ht2 hN) (isT_sh ht2 ln) (isT_3 ht2 z) ?_
  refine Y_put (k := 3) (j := 3) (v := (z t2 3)) (pc' := 8) dX4_copyFrom_5 rfl FX4_9 (isT_lt ht hN) (isT_sh ht ln) (fun r hr => by cases hr; rfl) (xFit_int _) rfl (isT_3v ht _) ?_
  obtain ⟨z1, e1, hz1, h⟩ := zl_some (P := okz) h (okz_up hz (hz t2 3 (isT_ne ht2)))
  rw [e1]
  refine X_aload_n (pc' := 9) dX4_copyFrom_8 rfl rfl ?_
  refine Y_get (pc' := 12) dX4_copyFrom_9 rfl FX4_27 (isT_lt ht2 hN) (isT_sh ht2 ln) (isT_2 ht2 z1) ?_
  refine X_iconst (pc' := 13) dX4_copyFrom_12 rfl ?_
  refine X_aload_n (pc' := 14) dX4_copyFrom_13 rfl rfl ?_
  refine Y_get (pc' := 17) dX4_copyFrom_14 rfl FX4_27 (isT_lt ht hN) (isT_sh ht ln) (isT_2 ht z1) ?_
  refine X_iconst (pc' := 18) dX4_copyFrom_17 rfl ?_
  refine X_aload_n (pc' := 19) dX4_copyFrom_18 rfl rfl ?_
  refine Y_get (pc' := 22) dX4_copyFrom_19 rfl FX4_27 (isT_lt ht2 hN) (isT_sh ht2 ln) (isT_2 ht2 z1) ?_
  refine Y_alen (pc' := 23) dX4_copyFrom_22 rfl (isT_lt1 ht2 hN) (isT_sh1 ht2 ln) (by decide) ?_
  refine X_aload_n (pc' := 24) dX4_copyFrom_23 rfl rfl ?_
  refine Y_get (pc' := 27) dX4_copyFrom_24 rfl FX4_27 (isT_lt ht hN) (isT_sh ht ln) (isT_2 ht z1) ?_
  refine Y_alen (pc' := 28) dX4_copyFrom_27 rfl (isT_lt1 ht hN) (isT_sh1 ht ln) (by decide) ?_
  refine X_mmin (pc' := 31) dX4_copyFrom_28 rfl tq406 tq363 tq5 tq364 (cs rfl) ⟨(inR_TS ht2).1, (inR_TS ht2).2, (inR_TS ht).1, (inR_TS ht).2⟩ ?_
  obtain ⟨g2, h⟩ := gs h
  refine Y_copy (pc' := 34) dX4_copyFrom_31 rfl tq407 tq409 tq408 tq12 (cs rfl) (isT_lt1 ht2 hN) (isT_sh1 ht2 ln) (isT_lt1 ht hN) (isT_sh1 ht ln) (by have := isT_all t2 ht2.1 ht2.2; omega) (by have := isT_all t ht.1 ht.2; omega) g2 ?_
  obtain ⟨z3, e3, hz3, h⟩ := zl_some (P := okz) h (okz_cp hz1 (isT_ne1 ht2))
  rw [e3]
  cases h
  exact X_vret dX4_copyFrom_34 rfl (k hz3)

def fJ7_checkLength_df160 (v0 : Int) (v1 : Int) (D : DD) : Option (Unit) := (if (v1) < (v0) then none else some ())
set_option maxRecDepth 100000 in
theorem CJ7_checkLength_df160 {ln : Nat} {D : DD} {z : ZZ} {v0 : Int} {v1 : Int} (hD : okD D) (rv0 : inR v0) (rv1 : inR v1) {p : Unit} (h : fJ7_checkLength_df160 v0 v1 D = some p) : XD mJ7_checkLength_df160 0 (xEnt [.int (iN (v0)), .int (iN (v1))] (xL mJ7_checkLength_df160)) [] ln D z (Qd (FdD D D (True)) (.inl (none)) (sD ln D z)) := by
  have k : K_v (Qd (FdD D D (True)) (.inl (none)) (sD ln D z)) ln D z p := fun a => ⟨⟨hD, DLe_refl D, a⟩, rfl, rfl⟩
  unfold fJ7_checkLength_df160 at h
  refine E_ent (c1_i (c1_i c1_n)) (M := [some (.int (iN (v0))), some (.int (iN (v1)))]) rfl ?_
  refine X_iload_n (pc' := 1) dJ7_checkLength_df160_0 rfl rfl ?_
  refine X_iload_n (pc' := 2) dJ7_checkLength_df160_1 rfl rfl ?_
  refine X_icmp_ge dJ7_checkLength_df160_2 (tgt := 37) rfl (pc' := 5) rfl ⟨rv1.1, rv1.2, rv0.1, rv0.2⟩ (fun c1 => ?_) (fun c1 => ?_)
  · have h := if_f (Int.not_lt.mpr c1) h
    cases h
    exact X_vret dJ7_checkLength_df160_37 rfl (k trivial)
  have h := if_t c1 h
  cases h
def fJ7_copyOfRangeByte_39247 (v0 : Int) (v1 : Int) (v2 : Int) (D : DD) : Option (Int × DD) := (Option.bind (fJ7_checkLength_df160 (v1) (v2) D) fun _u1 => (if ((0 : Int) ≤ ((v2 - v1)) ∧ ((v2 - v1) : Int) ≤ 1000000) ∧ dT D < 600000 ∧ dS D + ((v2 - v1)) ≤ 7200000 then (zl (dnew D 21 ((v2 - v1) : Int).toNat) fun D3 => (if isArr D3 (v0) then (if inR (((alen D3 (v0)) - v1)) then (if inR ((v2 - v1)) then (if dO D3 (v0) 21 then (if (0 : Int) ≤ (v1) ∧ (0 : Int) ≤ (0) ∧ 0 ≤ ((min (((alen D3 (v0)) - v1)) ((v2 - v1)))) ∧ (v1) + ((min (((alen D3 (v0)) - v1)) ((v2 - v1)))) ≤ ((dH D3 (v0)).2 : Int) ∧ (0) + ((min (((alen D3 (v0)) - v1)) ((v2 - v1)))) ≤ ((dH D3 ((dT D))).2 : Int) then (zl (dcpy D3 (v0) ((dT D)) (v1) (0) ((min (((alen D3 (v0)) - v1)) ((v2 - v1))))) fun D9 => some ((dT D), D9)) else none) else none) else none) else none) else none)) else none))
set_option maxRecDepth 100000 in
theorem CJ7_copyOfRangeByte_39247 {ln : Nat} {D : DD} {z : ZZ} {v0 : Int} {v1 : Int} {v2 : Int} (hD : okD D) (rv0 : gdV D v0) (rv1 : inR v1) (rv2 : inR v2) {p : Int × DD} (h : fJ7_copyOfRangeByte_39247 v0 v1 v2 D = some p) : XD mJ7_copyOfRangeByte_39247 0 (xEnt [rV (v0), .int (iN (v1)), .int (iN (v2))] (xL mJ7_copyOfRangeByte_39247)) [] ln D z (Qd (FdD D p.2 (gdV p.2 p.1)) (.inl (some (rV p.1))) (sD ln p.2 z)) := by
  have k : K_wR (Qd (FdD D p.2 (gdV p.2 p.1)) (.inl (some (rV p.1))) (sD ln p.2 z)) ln D z p := fun a b c => ⟨⟨a, b, c⟩, rfl, rfl⟩
  unfold fJ7_copyOfRangeByte_39247 at h
  refine E_ent (c1_r (c1_i (c1_i c1_n))) (M := [some (rV (v0)), some (.int (iN (v1))), some (.int (iN (v2))), none, none]) rfl ?_
  refine X_iload_n (pc' := 1) dJ7_copyOfRangeByte_39247_0 rfl rfl ?_
  refine X_iload_n (pc' := 2) dJ7_copyOfRangeByte_39247_1 rfl rfl ?_
  obtain ⟨u1, q1, h⟩ := bs h
  refine E_callS [.int (iN (v1)), .int (iN (v2))] (pc' := 5) dJ7_copyOfRangeByte_39247_2 rfl (xSn SJ7_343) (by decide) rfl (c1_i (c1_i c1_n)) (cs rfl) c1_n (cs rfl) rfl hD (CJ7_checkLength_df160 hD rv1 rv2 q1) (fun a1 b1 f1 => ?_)
  refine X_iload_n (pc' := 6) dJ7_copyOfRangeByte_39247_5 rfl rfl ?_
  refine X_iload_n (pc' := 7) dJ7_copyOfRangeByte_39247_6 rfl rfl ?_
  refine X_isub (pc' := 8) dJ7_copyOfRangeByte_39247_7 rfl ?_
  refine X_istore_n (pc' := 9) dJ7_copyOfRangeByte_39247_8 rfl (cl rfl) (Or.inr rfl) (L' := [some (rV (v0)), some (.int (iN (v1))), some (.int (iN (v2))), some (.int (iN ((v2 - v1)))), none]) rfl ?_
  refine X_iload_n (pc' := 10) dJ7_copyOfRangeByte_39247_9 rfl rfl ?_
  obtain ⟨g2, h⟩ := gs h
  refine E_newB (pc' := 12) dJ7_copyOfRangeByte_39247_10 rfl tq385 hD g2 ?_
  obtain ⟨D3, e3, f3, h⟩ := zl_some (P := fun q => okD q ∧ DLe D q ∧ (dO q (dT D) 21 ∧ ((dH q (dT D)).2 : Int) = ((v2 - v1)))) h ⟨okD_dnew hD (by decide) (by omega) g2.2.1 (by omega), DLe_dnew _ (by decide), dO_dnew hD, dH_dnew g2.1.1⟩
  rw [e3]
  refine E_astore (pc' := 14) dJ7_copyOfRangeByte_39247_12 rfl (cl rfl) (Or.inr rfl) (L' := [some (rV (v0)), some (.int (iN (v1))), some (.int (iN (v2))), some (.int (iN ((v2 - v1)))), some (rV ((dT D)))]) rfl ?_
  refine E_aload_n (pc' := 15) dJ7_copyOfRangeByte_39247_14 rfl rfl ?_
  refine X_iload_n (pc' := 16) dJ7_copyOfRangeByte_39247_15 rfl rfl ?_
  refine E_aload (pc' := 18) dJ7_copyOfRangeByte_39247_16 rfl rfl ?_
  refine X_iconst (pc' := 19) dJ7_copyOfRangeByte_39247_18 rfl ?_
  refine E_aload_n (pc' := 20) dJ7_copyOfRangeByte_39247_19 rfl rfl ?_
  obtain ⟨g4, h⟩ := gs h
  refine E_alenA (pc' := 21) dJ7_copyOfRangeByte_39247_20 rfl f3.1 g4 ?_
  refine X_iload_n (pc' := 22) dJ7_copyOfRangeByte_39247_21 rfl rfl ?_
  refine X_isub (pc' := 23) dJ7_copyOfRangeByte_39247_22 rfl ?_
  refine X_iload_n (pc' := 24) dJ7_copyOfRangeByte_39247_23 rfl rfl ?_
  obtain ⟨g5, h⟩ := gs h
  obtain ⟨g6, h⟩ := gs h
  refine X_mmin (pc' := 27) dJ7_copyOfRangeByte_39247_24 rfl tq594 tq363 tq5 tq364 (Nat.le_trans (Nat.le_of_eq (cat_sum (c1_i (c1_r (c1_i (c1_r c1_n)))))) (cs rfl)) ⟨g5.1, g5.2, g6.1, g6.2⟩ ?_
  obtain ⟨g7, h⟩ := gs h
  obtain ⟨g8, h⟩ := gs h
  refine E_copyB (pc' := 30) dJ7_copyOfRangeByte_39247_27 rfl tq595 tq409 tq408 tq12 c1_n (cs rfl) f3.1 g7 f3.2.2.1 g8 ?_
  obtain ⟨D9, e9, f9, h⟩ := zl_some (P := fun q => okD q ∧ DLe D3 q) h ⟨okD_dcpy f3.1 g7 f3.2.2.1.2.2 (by decide) g8.1, DLe_dcpy _ _ _ _ _ _⟩
  rw [e9]
  refine E_aload (pc' := 32) dJ7_copyOfRangeByte_39247_30 rfl rfl ?_
  cases h
  exact E_aret dJ7_copyOfRangeByte_39247_32 rfl (Or.inr ⟨_, rfl⟩) (k f9.1 (DLe_trans f3.2.1 f9.2) (gdV_le f9.2 (dO_gd f3.2.2.1 (by decide))))
def fJ7_copyOfRange_39247_b10 (v0 : Int) (v1 : Int) (v2 : Int) (D : DD) : Option (Int × DD) := (Option.bind (fJ7_copyOfRangeByte_39247 (v0) (v1) (v2) D) fun q1 => match q1 with | (r1, D1) => some (r1, D1))
set_option maxRecDepth 100000 in
theorem BJ7_copyOfRange_39247_10 {ln : Nat} {D : DD} {z : ZZ} {v0 : Int} {v1 : Int} {v2 : Int} {Φ : xRes → xS → Prop} (hD : okD D) (rv0 : gdV D v0) (rv1 : inR v1) (rv2 : inR v2) {p : Int × DD} (h : fJ7_copyOfRange_39247_b10 v0 v1 v2 D = some p) (k : K_wR Φ ln D z p) : XD mJ7_copyOfRange_39247 10 [some (rV (v0)), some (.int (iN (v1))), some (.int (iN (v2)))] [] ln D z Φ := by
  unfold fJ7_copyOfRange_39247_b10 at h
  refine E_aload_n (pc' := 11) dJ7_copyOfRange_39247_10 rfl rfl ?_
  refine X_iload_n (pc' := 12) dJ7_copyOfRange_39247_11 rfl rfl ?_
  refine X_iload_n (pc' := 13) dJ7_copyOfRange_39247_12 rfl rfl ?_
  obtain ⟨⟨r1, D1⟩, q1, h⟩ := bs h
  refine E_callS [rV (v0), .int (iN (v1)), .int (iN (v2))] (pc' := 16) dJ7_copyOfRange_39247_13 rfl (xSn SJ7_339) (by decide) rfl (c1_r (c1_i (c1_i c1_n))) (cs rfl) c1_n (cs rfl) rfl hD (CJ7_copyOfRangeByte_39247 hD rv0 rv1 rv2 q1) (fun a1 b1 f1 => ?_)
  cases h
  exact E_aret dJ7_copyOfRange_39247_16 rfl (Or.inr ⟨_, rfl⟩) (k a1 b1 f1)
def fJ7_copyOfRange_39247 (v0 : Int) (v1 : Int) (v2 : Int) (D : DD) : Option (Int × DD) := (if (v1) = (0) then (if isArr D (v0) then (if (v2) = ((alen D (v0))) then (if dO D (v0) 21 then (if dT D < 600000 ∧ dS D + ((dH D (v0)).2 : Int) ≤ 7200000 then (zl (dclb D (v0) (dH D (v0)).2) fun D6 => some ((dT D), D6)) else none) else none) else fJ7_copyOfRange_39247_b10 (v0) (v1) (v2) D) else none) else fJ7_copyOfRange_39247_b10 (v0) (v1) (v2) D)
set_option maxRecDepth 100000 in
theorem CJ7_copyOfRange_39247 {ln : Nat} {D : DD} {z : ZZ} {v0 : Int} {v1 : Int} {v2 : Int} (hD : okD D) (rv0 : gdV D v0) (rv1 : inR v1) (rv2 : inR v2) {p : Int × DD} (h : fJ7_copyOfRange_39247 v0 v1 v2 D = some p) : XD mJ7_copyOfRange_39247 0 (xEnt [rV (v0), .int (iN (v1)), .int (iN (v2))] (xL mJ7_copyOfRange_39247)) [] ln D z (Qd (FdD D p.2 (gdV p.2 p.1)) (.inl (some (rV p.1))) (sD ln p.2 z)) := by
  have k : K_wR (Qd (FdD D p.2 (gdV p.2 p.1)) (.inl (some (rV p.1))) (sD ln p.2 z)) ln D z p := fun a b c => ⟨⟨a, b, c⟩, rfl, rfl⟩
  unfold fJ7_copyOfRange_39247 at h
  refine E_ent (c1_r (c1_i (c1_i c1_n))) (M := [some (rV (v0)), some (.int (iN (v1))), some (.int (iN (v2)))]) rfl ?_
  refine X_iload_n (pc' := 1) dJ7_copyOfRange_39247_0 rfl rfl ?_
  refine X_if_ne dJ7_copyOfRange_39247_1 (tgt := 10) rfl (pc' := 4) rfl rv1 (fun c1 => ?_) (fun c1 => ?_)
  · have h := if_f c1 h
    exact X_sub (sub_s (sub_s (sub_s sub_0))) (BJ7_copyOfRange_39247_10 hD rv0 rv1 rv2 h (fun a b c => k a (DLe_trans (DLe_refl _) b) c))
  have h := if_t c1 h
  refine X_iload_n (pc' := 5) dJ7_copyOfRange_39247_4 rfl rfl ?_
  refine E_aload_n (pc' := 6) dJ7_copyOfRange_39247_5 rfl rfl ?_
  obtain ⟨g2, h⟩ := gs h
  refine E_alenA (pc' := 7) dJ7_copyOfRange_39247_6 rfl hD g2 ?_
  refine X_icmp_eq dJ7_copyOfRange_39247_7 (tgt := 17) rfl (pc' := 10) rfl ⟨rv2.1, rv2.2, (in_alen hD g2).1, (in_alen hD g2).2⟩ (fun c3 => ?_) (fun c3 => ?_)
  · have h := if_t c3 h
    refine E_aload_n (pc' := 18) dJ7_copyOfRange_39247_17 rfl rfl ?_
    obtain ⟨g4, h⟩ := gs h
    obtain ⟨g5, h⟩ := gs h
    refine E_cloneB (pc' := 21) dJ7_copyOfRange_39247_18 rfl tq1171 c1_n (cs rfl) hD g4 g5 ?_
    obtain ⟨D6, e6, f6, h⟩ := zl_some (P := fun q => okD q ∧ DLe D q ∧ dO q (dT D) 21) h ⟨okD_dclb hD (sz_le hD g4) ⟨g4.1, g4.2.1⟩ g4.2.2 g5.1 g5.2, DLe_dclb _ _ _, dO_dclb hD⟩
    rw [e6]
    refine E_cast (pc' := 24) dJ7_copyOfRange_39247_21 rfl tq1175 (dO_pos f6.2.2) (dO_isB f6.1 f6.2.2) ?_
    cases h
    exact E_aret dJ7_copyOfRange_39247_24 rfl (Or.inr ⟨_, rfl⟩) (k f6.1 f6.2.1 (dO_gd f6.2.2 (by decide)))
  have h := if_f c3 h
  exact X_sub (sub_s (sub_s (sub_s sub_0))) (BJ7_copyOfRange_39247_10 hD rv0 rv1 rv2 h (fun a b c => k a (DLe_trans (DLe_refl _) b) c))
def fJ0_init_db425_b79 (v0 : Int) (v3 : Int) (v4 : Int) (D : DD) : Option (DD) := (if dO D (v0) 18 then (if (-128 : Int) ≤ (1) ∧ (1 : Int) < 128 then (zl (dup D (v0) 1 (1)) fun D3 => (Option.bind (fJ7_copyOfRange_39247 (v3) (0) ((zshl v4 1)) D3) fun q4 => match q4 with | (r4, D4) => (zl (dup D4 (v0) 0 (r4)) fun D5 => some D5))) else none) else none)
set_option maxRecDepth 100000 in
theorem BJ0_init_db425_79 {ln : Nat} {D : DD} {z : ZZ} {v0 : Int} {v3 : Int} {v4 : Int} {Φ : xRes → xS → Prop} (hD : okD D) (rv0 : gdV D v0) (rv3 : gdV D v3) (rv4 : inR v4) {p : DD} (h : fJ0_init_db425_b79 v0 v3 v4 D = some p) (k : K_w Φ ln D z p) : XD mJ0_init_db425 79 [some (rV (v0)), none, none, some (rV (v3)), some (.int (iN (v4)))] [] ln D z Φ := by
  unfold fJ0_init_db425_b79 at h
  refine E_aload_n (pc' := 80) dJ0_init_db425_79 rfl rfl ?_
  refine X_iconst (pc' := 81) dJ0_init_db425_80 rfl ?_
  obtain ⟨g1, h⟩ := gs h
  obtain ⟨g2, h⟩ := gs h
  refine E_putI (pc' := 84) dJ0_init_db425_81 rfl FJ0_15_17 hD g1 rfl (fun r hr => by cases hr; exact Or.inr ⟨rfl, rfl⟩) (xFit_byte g2) (j := 1) rfl ?_
  obtain ⟨D3, e3, f3, h⟩ := zl_some (P := fun q => okD q ∧ DLe D q) h ⟨okD_dup (k := 1) hD (okS_I g1 rfl (by decide) (by decide) (inR_byte g2)), DLe_dup _ _ _ _⟩
  rw [e3]
  refine E_aload_n (pc' := 85) dJ0_init_db425_84 rfl rfl ?_
  refine E_aload_n (pc' := 86) dJ0_init_db425_85 rfl rfl ?_
  refine X_iconst (pc' := 87) dJ0_init_db425_86 rfl ?_
  refine X_iload (pc' := 89) dJ0_init_db425_87 rfl rfl ?_
  refine X_iconst (pc' := 90) dJ0_init_db425_89 rfl ?_
  refine X_ishl (pc' := 91) dJ0_init_db425_90 rfl ?_
  obtain ⟨⟨r4, D4⟩, q4, h⟩ := bs h
  refine E_callS [rV (v3), .int (iN (0)), .int (iN ((zshl v4 1)))] (pc' := 94) dJ0_init_db425_91 rfl (xSn SJ0_54) (by decide) rfl (c1_r (c1_i (c1_i c1_n))) (cs rfl) (c1_r c1_n) (cs rfl) rfl f3.1 (CJ7_copyOfRange_39247 f3.1 (gdV_le f3.2 rv3) (inR_c (n := 0) rfl) (inR_zshl _ _) q4) (fun a4 b4 f4 => ?_)
  refine E_putR (pc' := 97) dJ0_init_db425_94 rfl FJ0_9_17 a4 (dO_le b4 (dO_le f3.2 g1)) rfl (fun r hr => by cases hr; exact Or.inr ⟨rfl, rfl⟩) (Or.inr ⟨_, rfl⟩) (j := 0) rfl ?_
  obtain ⟨D5, e5, f5, h⟩ := zl_some (P := fun q => okD q ∧ DLe D4 q) h ⟨okD_dup (k := 0) a4 (okS_R (dO_le b4 (dO_le f3.2 g1)) rfl (by decide) f4), DLe_dup _ _ _ _⟩
  rw [e5]
  cases h
  exact X_vret dJ0_init_db425_97 rfl (k f5.1 (DLe_trans (DLe_trans f3.2 b4) f5.2) trivial)
def fJ0_init_db425 (v0 : Int) (v1 : Int) (v2 : Int) (D : DD) : Option (DD) := (if (151 : Int) ≤ (v0) ∧ (v0 : Int) < dT D ∧ True then (Option.bind (fJ5_getValue_6d5f1 (v1) D) fun r2 => (if dO D (v1) 17 then (Option.bind (fJ4_length_8abf5 (v1) D) fun r4 => (Option.bind (fJ5_isLatin1_aae02 (v1) D) fun r5 => (if (r5) = (0) then (if (1 : Int) = (0) then fJ0_init_db425_b79 (v0) (r2) (r4) D else (if ((dW D (v1) 2)) = (0) then fJ0_init_db425_b79 (v0) (r2) (r4) D else none)) else (if dO D (v0) 18 then (if (-128 : Int) ≤ (0) ∧ (0 : Int) < 128 then (zl (dup D (v0) 1 (0)) fun D11 => (Option.bind (fJ7_copyOfRange_39247 (r2) (0) (r4) D11) fun q12 => match q12 with | (r12, D12) => (zl (dup D12 (v0) 0 (r12)) fun D13 => some D13))) else none) else none)))) else none)) else none)
set_option maxRecDepth 100000 in
theorem CJ0_init_db425 {ln : Nat} {D : DD} {z : ZZ} {v0 : Int} {v1 : Int} {v2 : Int} (hD : okD D) (rv0 : gdV D v0) (rv1 : gdV D v1) (rv2 : gdV D v2) {p : DD} (h : fJ0_init_db425 v0 v1 v2 D = some p) : XD mJ0_init_db425 0 (xEnt [rV (v0), rV (v1), rV (v2)] (xL mJ0_init_db425)) [] ln D z (Qd (FdD D p (True)) (.inl (none)) (sD ln p z)) := by
  have k : K_w (Qd (FdD D p (True)) (.inl (none)) (sD ln p z)) ln D z p := fun a b c => ⟨⟨a, b, c⟩, rfl, rfl⟩
  unfold fJ0_init_db425 at h
  refine E_ent (c1_r (c1_r (c1_r c1_n))) (M := [some (rV (v0)), some (rV (v1)), some (rV (v2)), none, none]) rfl ?_
  refine E_aload_n (pc' := 1) dJ0_init_db425_0 rfl rfl ?_
  obtain ⟨g1, h⟩ := gs h
  refine E_objInit (μ := mJ0_init_db425) (pc' := 4) dJ0_init_db425_1 rfl tq1261 tq53 tq54 hD ⟨g1.1, g1.2.1⟩ c1_n (cs rfl) ?_
  refine E_aload_n (pc' := 5) dJ0_init_db425_4 rfl rfl ?_
  obtain ⟨r2, q2, h⟩ := bs h
  obtain ⟨g3, h⟩ := gs h
  refine E_callV [] (pc' := 8) dJ0_init_db425_5 rfl VJ0_552_J4 (by decide) ⟨dO_pos g3, dO_is hD g3 rfl⟩ rfl c1_n (cs rfl) c1_n (cs rfl) rfl hD (CJ5_getValue_6d5f1 hD rv1 q2) (fun a2 b2 f2 => ?_)
  refine E_astore_n (pc' := 9) dJ0_init_db425_8 rfl (cl rfl) (Or.inr (xC1_R _)) (L' := [some (rV (v0)), some (rV (v1)), some (rV (v2)), some (rV (r2)), none]) rfl ?_
  refine E_aload_n (pc' := 10) dJ0_init_db425_9 rfl rfl ?_
  obtain ⟨r4, q4, h⟩ := bs h
  refine E_callU [] (pc' := 13) dJ0_init_db425_10 rfl UJ0_549 (by decide) ⟨dO_pos g3, dO_is hD g3 rfl⟩ rfl c1_n (cs rfl) c1_n (cs rfl) rfl hD (CJ4_length_8abf5 hD rv1 q4) (fun a4 b4 f4 => ?_)
  refine X_istore (pc' := 15) dJ0_init_db425_13 rfl (cl rfl) (Or.inr (xC1_R _)) (L' := [some (rV (v0)), some (rV (v1)), some (rV (v2)), some (rV (r2)), some (.int (iN (r4)))]) rfl ?_
  refine E_aload_n (pc' := 16) dJ0_init_db425_15 rfl rfl ?_
  obtain ⟨r5, q5, h⟩ := bs h
  refine E_callV [] (pc' := 19) dJ0_init_db425_16 rfl VJ0_1047_J4 (by decide) ⟨dO_pos g3, dO_is hD g3 rfl⟩ rfl c1_n (cs rfl) c1_n (cs rfl) rfl hD (CJ5_isLatin1_aae02 hD rv1 q5) (fun a5 b5 f5 => ?_)
  refine X_if_eq dJ0_init_db425_19 (tgt := 41) rfl (pc' := 22) rfl (inR_b f5) (fun c6 => ?_) (fun c6 => ?_)
  · have h := if_t c6 h
    refine X_gets (pc' := 44) dJ0_init_db425_41 rfl (List.mem_of_getElem? (i := 3) rfl) tq312 ?_
    refine X_to (M := [some (rV (v0)), some (rV (v1)), some (rV (v2)), some (rV (r2)), some (.int (iN (r4)))]) (su := [.int (iN (1))]) rfl rfl ?_
    refine X_if_eq dJ0_init_db425_44 (tgt := 79) rfl (pc' := 47) rfl (inR_c (n := 1) rfl) (fun c7 => ?_) (fun c7 => ?_)
    · have h := if_t c7 h
      exact X_sub (sub_s (sub_n (sub_n (sub_s (sub_s sub_0))))) (BJ0_init_db425_79 hD rv0 f2 f4 h (fun a b c => k a (DLe_trans (DLe_refl _) b) c))
    have h := if_f c7 h
    refine E_aload_n (pc' := 48) dJ0_init_db425_47 rfl rfl ?_
    refine E_getI (pc' := 51) dJ0_init_db425_48 rfl FJ0_1048_16 hD g3 rfl (j := 2) rfl ?_
    refine X_if_eq dJ0_init_db425_51 (tgt := 79) rfl (pc' := 54) rfl (in_slot (k := 2) hD g3 rfl (by decide)) (fun c8 => ?_) (fun c8 => ?_)
    · have h := if_t c8 h
      exact X_sub (sub_s (sub_n (sub_n (sub_s (sub_s sub_0))))) (BJ0_init_db425_79 hD rv0 f2 f4 h (fun a b c => k a (DLe_trans (DLe_refl _) b) c))
    have h := if_f c8 h
    refine E_aload_n (pc' := 55) dJ0_init_db425_54 rfl rfl ?_
    refine E_aload_n (pc' := 56) dJ0_init_db425_55 rfl rfl ?_
    refine X_iconst (pc' := 57) dJ0_init_db425_56 rfl ?_
    refine X_iload (pc' := 59) dJ0_init_db425_57 rfl rfl ?_
    cases h
  have h := if_f c6 h
  refine E_aload_n (pc' := 23) dJ0_init_db425_22 rfl rfl ?_
  refine X_iconst (pc' := 24) dJ0_init_db425_23 rfl ?_
  obtain ⟨g9, h⟩ := gs h
  obtain ⟨g10, h⟩ := gs h
  refine E_putI (pc' := 27) dJ0_init_db425_24 rfl FJ0_15_17 hD g9 rfl (fun r hr => by cases hr; exact Or.inr ⟨rfl, rfl⟩) (xFit_byte g10) (j := 1) rfl ?_
  obtain ⟨D11, e11, f11, h⟩ := zl_some (P := fun q => okD q ∧ DLe D q) h ⟨okD_dup (k := 1) hD (okS_I g9 rfl (by decide) (by decide) (inR_byte g10)), DLe_dup _ _ _ _⟩
  rw [e11]
  refine E_aload_n (pc' := 28) dJ0_init_db425_27 rfl rfl ?_
  refine E_aload_n (pc' := 29) dJ0_init_db425_28 rfl rfl ?_
  refine X_iconst (pc' := 30) dJ0_init_db425_29 rfl ?_
  refine X_iload (pc' := 32) dJ0_init_db425_30 rfl rfl ?_
  obtain ⟨⟨r12, D12⟩, q12, h⟩ := bs h
  refine E_callS [rV (r2), .int (iN (0)), .int (iN (r4))] (pc' := 35) dJ0_init_db425_32 rfl (xSn SJ0_54) (by decide) rfl (c1_r (c1_i (c1_i c1_n))) (cs rfl) (c1_r c1_n) (cs rfl) rfl f11.1 (CJ7_copyOfRange_39247 f11.1 (gdV_le f11.2 f2) (inR_c (n := 0) rfl) f4 q12) (fun a12 b12 f12 => ?_)
  refine E_putR (pc' := 38) dJ0_init_db425_35 rfl FJ0_9_17 a12 (dO_le b12 (dO_le f11.2 g9)) rfl (fun r hr => by cases hr; exact Or.inr ⟨rfl, rfl⟩) (Or.inr ⟨_, rfl⟩) (j := 0) rfl ?_
  obtain ⟨D13, e13, f13, h⟩ := zl_some (P := fun q => okD q ∧ DLe D12 q) h ⟨okD_dup (k := 0) a12 (okS_R (dO_le b12 (dO_le f11.2 g9)) rfl (by decide) f12), DLe_dup _ _ _ _⟩
  rw [e13]
  refine X_goto dJ0_init_db425_38 (tgt := 97) rfl ?_
  cases h
  exact X_vret dJ0_init_db425_97 rfl (k f13.1 (DLe_trans (DLe_trans f11.2 b12) f13.2) trivial)
def fJ0_init_81219 (v0 : Int) (v1 : Int) (D : DD) : Option (DD) := (Option.bind (fJ0_init_db425 (v0) (v1) (0) D) fun D1 => (if (151 : Int) ≤ (v0) ∧ (v0 : Int) < dT D ∧ True then some D1 else none))
set_option maxRecDepth 100000 in
theorem CJ0_init_81219 {ln : Nat} {D : DD} {z : ZZ} {v0 : Int} {v1 : Int} (hD : okD D) (rv0 : gdV D v0) (rv1 : gdV D v1) {p : DD} (h : fJ0_init_81219 v0 v1 D = some p) : XD mJ0_init_81219 0 (xEnt [rV (v0), rV (v1)] (xL mJ0_init_81219)) [] ln D z (Qd (FdD D p (True)) (.inl (none)) (sD ln p z)) := by
  have k : K_w (Qd (FdD D p (True)) (.inl (none)) (sD ln p z)) ln D z p := fun a b c => ⟨⟨a, b, c⟩, rfl, rfl⟩
  unfold fJ0_init_81219 at h
  refine E_ent (c1_r (c1_r c1_n)) (M := [some (rV (v0)), some (rV (v1))]) rfl ?_
  refine E_aload_n (pc' := 1) dJ0_init_81219_0 rfl rfl ?_
  refine E_aload_n (pc' := 2) dJ0_init_81219_1 rfl rfl ?_
  refine E_null (pc' := 3) dJ0_init_81219_2 rfl ?_
  obtain ⟨D1, q1, h⟩ := bs h
  obtain ⟨g2, h⟩ := gs h
  refine E_callI (μ := mJ0_init_81219) (μ' := mJ0_init_db425) [rV (v1), rV (0)] (pc' := 6) dJ0_init_81219_3 rfl tq1258 IJ0_489 (by decide) ⟨g2.1, g2.2.1⟩ rfl (c1_r (c1_r c1_n)) (cs rfl) c1_n (cs rfl) rfl hD (CJ0_init_db425 hD rv0 rv1 (Or.inl (Or.inl rfl)) q1) (fun a1 b1 f1 => ?_)
  cases h
  exact X_vret dJ0_init_81219_6 rfl (k a1 b1 trivial)
def fJ4_toString_0e30d (v0 : Int) (D : DD) : Option (Int × DD) := (if dT D < 600000 ∧ dS D + 4 ≤ 7200000 then (zl (dnew D 18 4) fun D2 => (Option.bind (fJ0_init_81219 ((dT D)) (v0) D2) fun D3 => some ((dT D), D3))) else none)
set_option maxRecDepth 100000 in
theorem CJ4_toString_0e30d {ln : Nat} {D : DD} {z : ZZ} {v0 : Int} (hD : okD D) (rv0 : gdV D v0) {p : Int × DD} (h : fJ4_toString_0e30d v0 D = some p) : XD mJ4_toString_0e30d 0 (xEnt [rV (v0)] (xL mJ4_toString_0e30d)) [] ln D z (Qd (FdD D p.2 (gdV p.2 p.1)) (.inl (some (rV p.1))) (sD ln p.2 z)) := by
  have k : K_wR (Qd (FdD D p.2 (gdV p.2 p.1)) (.inl (some (rV p.1))) (sD ln p.2 z)) ln D z p := fun a b c => ⟨⟨a, b, c⟩, rfl, rfl⟩
  unfold fJ4_toString_0e30d at h
  refine E_ent (c1_r c1_n) (M := [some (rV (v0))]) rfl ?_
  obtain ⟨g1, h⟩ := gs h
  refine E_new (c := 17) (n := 4) (pc' := 3) dJ4_toString_0e30d_0 rfl rfl rfl (by decide) tq1253 tq1254 tq13 hD g1 ?_
  obtain ⟨D2, e2, f2, h⟩ := zl_some (P := fun q => okD q ∧ DLe D q ∧ dO q (dT D) 18) h ⟨okD_dnew hD (by decide) (by decide) g1.1 g1.2, DLe_dnew _ (by decide), dO_dnew hD⟩
  rw [e2]
  refine X_dup (pc' := 4) dJ4_toString_0e30d_3 rfl (rV_cat _) ?_
  refine E_aload_n (pc' := 5) dJ4_toString_0e30d_4 rfl rfl ?_
  obtain ⟨D3, q3, h⟩ := bs h
  refine E_callI (μ := mJ4_toString_0e30d) (μ' := mJ0_init_81219) [rV (v0)] (pc' := 8) dJ4_toString_0e30d_5 rfl tq1255 IJ4_137 (by decide) ⟨f2.2.2.1, f2.2.2.2.1⟩ rfl (c1_r c1_n) (cs rfl) (c1_r c1_n) (cs rfl) rfl f2.1 (CJ0_init_81219 f2.1 (dO_gd f2.2.2 (by decide)) (gdV_le f2.2.1 rv0) q3) (fun a3 b3 f3 => ?_)
  cases h
  exact E_aret dJ4_toString_0e30d_8 rfl (Or.inl ⟨_, rfl⟩) (k a3 (DLe_trans f2.2.1 b3) (gdV_le b3 (dO_gd f2.2.2 (by decide))))
def fJ4_append_cf1ce (v0 : Int) (v1 : Int) (D : DD) : Option (Int × DD) := (Option.bind (fJ4_append_15ec4 (v0) (v1) D) fun q1 => match q1 with | (r1, D1) => (if dO D (v0) 17 then some (r1, D1) else none))
set_option maxRecDepth 100000 in
theorem CJ4_append_cf1ce {ln : Nat} {D : DD} {z : ZZ} {v0 : Int} {v1 : Int} (hD : okD D) (rv0 : gdV D v0) (rv1 : gdV D v1) {p : Int × DD} (h : fJ4_append_cf1ce v0 v1 D = some p) : XD mJ4_append_cf1ce 0 (xEnt [rV (v0), rV (v1)] (xL mJ4_append_cf1ce)) [] ln D z (Qd (FdD D p.2 (gdV p.2 p.1)) (.inl (some (rV p.1))) (sD ln p.2 z)) := by
  have k : K_wR (Qd (FdD D p.2 (gdV p.2 p.1)) (.inl (some (rV p.1))) (sD ln p.2 z)) ln D z p := fun a b c => ⟨⟨a, b, c⟩, rfl, rfl⟩
  unfold fJ4_append_cf1ce at h
  refine E_ent (c1_r (c1_r c1_n)) (M := [some (rV (v0)), some (rV (v1))]) rfl ?_
  refine E_aload_n (pc' := 1) dJ4_append_cf1ce_0 rfl rfl ?_
  refine E_aload_n (pc' := 2) dJ4_append_cf1ce_1 rfl rfl ?_
  obtain ⟨⟨r1, D1⟩, q1, h⟩ := bs h
  obtain ⟨g2, h⟩ := gs h
  refine E_callV [rV (v1)] (pc' := 5) dJ4_append_cf1ce_2 rfl (xVc VJ4_23) (by decide) ⟨dO_pos g2, dO_is hD g2 rfl⟩ rfl (c1_r c1_n) (cs rfl) c1_n (cs rfl) rfl hD (CJ4_append_15ec4 hD rv0 rv1 q1) (fun a1 b1 f1 => ?_)
  cases h
  exact E_aret dJ4_append_cf1ce_5 rfl (Or.inl ⟨_, rfl⟩) (k a1 b1 f1)
def fJ5_init_a7421_b53 (v0 : Int) (v1 : Int) (s0 : Int) (s1 : Int) (D : DD) : Option (DD) := (if dO D (s0) 17 then (zl (dup D (s0) 0 (s1)) fun D2 => (Option.bind (fJ4_append_cf1ce (v0) (v1) D2) fun q3 => match q3 with | (r3, D3) => (if dO D2 (v0) 17 then some D3 else none))) else none)
set_option maxRecDepth 100000 in
theorem BJ5_init_a7421_53 {ln : Nat} {D : DD} {z : ZZ} {v0 : Int} {v1 : Int} {s0 : Int} {s1 : Int} {Φ : xRes → xS → Prop} (hD : okD D) (rv0 : gdV D v0) (rv1 : gdV D v1) (rs0 : gdV D s0) (rs1 : gdV D s1) {p : DD} (h : fJ5_init_a7421_b53 v0 v1 s0 s1 D = some p) (k : K_w Φ ln D z p) : XD mJ5_init_a7421 53 [some (rV (v0)), some (rV (v1)), none, none, none] [rV (s1), rV (s0)] ln D z Φ := by
  unfold fJ5_init_a7421_b53 at h
  obtain ⟨g1, h⟩ := gs h
  refine E_putR (pc' := 56) dJ5_init_a7421_53 rfl FJ5_15_16 hD g1 rfl (fun r hr => by cases hr; exact Or.inl rfl) (Or.inr ⟨_, rfl⟩) (j := 0) rfl ?_
  obtain ⟨D2, e2, f2, h⟩ := zl_some (P := fun q => okD q ∧ DLe D q) h ⟨okD_dup (k := 0) hD (okS_R g1 rfl (by decide) rs1), DLe_dup _ _ _ _⟩
  rw [e2]
  refine E_aload_n (pc' := 57) dJ5_init_a7421_56 rfl rfl ?_
  refine E_aload_n (pc' := 58) dJ5_init_a7421_57 rfl rfl ?_
  obtain ⟨⟨r3, D3⟩, q3, h⟩ := bs h
  obtain ⟨g4, h⟩ := gs h
  refine E_callU [rV (v1)] (pc' := 61) dJ5_init_a7421_58 rfl UJ5_43 (by decide) ⟨dO_pos g4, dO_is f2.1 g4 rfl⟩ rfl (c1_r c1_n) (cs rfl) c1_n (cs rfl) rfl f2.1 (CJ4_append_cf1ce f2.1 (gdV_le f2.2 rv0) (gdV_le f2.2 rv1) q3) (fun a3 b3 f3 => ?_)
  refine X_pop (pc' := 62) dJ5_init_a7421_61 rfl (rV_cat _) ?_
  cases h
  exact X_vret dJ5_init_a7421_62 rfl (k a3 (DLe_trans f2.2 b3) trivial)
def fJ5_init_a7421_b24 (v0 : Int) (v1 : Int) (s0 : Int) (D : DD) : Option (DD) := (Option.bind (fJ0_coder_7d493 (v1) D) fun r1 => (if isStr (v1) ∨ dO D (v1) 18 then (if dO D (v0) 17 then (if (-128 : Int) ≤ (r1) ∧ (r1 : Int) < 128 then (zl (dup D (v0) 1 (r1)) fun D5 => (if (r1) = (0) then (if ((0 : Int) ≤ (s0) ∧ (s0 : Int) ≤ 1000000) ∧ dT D5 < 600000 ∧ dS D5 + (s0) ≤ 7200000 then (zl (dnew D5 21 (s0 : Int).toNat) fun D8 => fJ5_init_a7421_b53 (v0) (v1) (v0) ((dT D5)) D8) else none) else none)) else none) else none) else none))
set_option maxRecDepth 100000 in
theorem BJ5_init_a7421_24 {ln : Nat} {D : DD} {z : ZZ} {v0 : Int} {v1 : Int} {s0 : Int} {Φ : xRes → xS → Prop} (hD : okD D) (rv0 : gdV D v0) (rv1 : gdV D v1) (rs0 : inR s0) {p : DD} (h : fJ5_init_a7421_b24 v0 v1 s0 D = some p) (k : K_w Φ ln D z p) : XD mJ5_init_a7421 24 [some (rV (v0)), some (rV (v1)), none, none, none] [.int (iN (s0))] ln D z Φ := by
  unfold fJ5_init_a7421_b24 at h
  refine X_istore_n (pc' := 25) dJ5_init_a7421_24 rfl (cl rfl) (Or.inr rfl) (L' := [some (rV (v0)), some (rV (v1)), none, some (.int (iN (s0))), none]) rfl ?_
  refine E_aload_n (pc' := 26) dJ5_init_a7421_25 rfl rfl ?_
  obtain ⟨r1, q1, h⟩ := bs h
  obtain ⟨g2, h⟩ := gs h
  refine E_callV [] (pc' := 29) dJ5_init_a7421_26 rfl (xVc VJ5_40) (by decide) (str_recv hD g2) rfl c1_n (cs rfl) c1_n (cs rfl) rfl hD (CJ0_coder_7d493 hD rv1 q1) (fun a1 b1 f1 => ?_)
  refine X_istore (pc' := 31) dJ5_init_a7421_29 rfl (cl rfl) (Or.inr rfl) (L' := [some (rV (v0)), some (rV (v1)), none, some (.int (iN (s0))), some (.int (iN (r1)))]) rfl ?_
  refine E_aload_n (pc' := 32) dJ5_init_a7421_31 rfl rfl ?_
  refine X_iload (pc' := 34) dJ5_init_a7421_32 rfl rfl ?_
  obtain ⟨g3, h⟩ := gs h
  obtain ⟨g4, h⟩ := gs h
  refine E_putI (pc' := 37) dJ5_init_a7421_34 rfl FJ5_22_16 hD g3 rfl (fun r hr => by cases hr; exact Or.inl rfl) (xFit_byte g4) (j := 1) rfl ?_
  obtain ⟨D5, e5, f5, h⟩ := zl_some (P := fun q => okD q ∧ DLe D q) h ⟨okD_dup (k := 1) hD (okS_I g3 rfl (by decide) (by decide) (inR_byte g4)), DLe_dup _ _ _ _⟩
  rw [e5]
  refine E_aload_n (pc' := 38) dJ5_init_a7421_37 rfl rfl ?_
  refine X_iload (pc' := 40) dJ5_init_a7421_38 rfl rfl ?_
  refine X_if_ne dJ5_init_a7421_40 (tgt := 49) rfl (pc' := 43) rfl f1 (fun c6 => ?_) (fun c6 => ?_)
  · have h := if_f c6 h
    refine X_iload_n (pc' := 50) dJ5_init_a7421_49 rfl rfl ?_
    cases h
  have h := if_t c6 h
  refine X_iload_n (pc' := 44) dJ5_init_a7421_43 rfl rfl ?_
  obtain ⟨g7, h⟩ := gs h
  refine E_newB (pc' := 46) dJ5_init_a7421_44 rfl tq385 f5.1 g7 ?_
  obtain ⟨D8, e8, f8, h⟩ := zl_some (P := fun q => okD q ∧ DLe D5 q ∧ (dO q (dT D5) 21 ∧ ((dH q (dT D5)).2 : Int) = (s0))) h ⟨okD_dnew f5.1 (by decide) (by omega) g7.2.1 (by omega), DLe_dnew _ (by decide), dO_dnew f5.1, dH_dnew g7.1.1⟩
  rw [e8]
  refine X_goto dJ5_init_a7421_46 (tgt := 53) rfl ?_
  exact X_sub (sub_s (sub_s (sub_n (sub_n (sub_n sub_0))))) (BJ5_init_a7421_53 f8.1 (gdV_le f8.2.1 (gdV_le f5.2 rv0)) (gdV_le f8.2.1 (gdV_le f5.2 rv1)) (gdV_le f8.2.1 (gdV_le f5.2 rv0)) (dO_gd f8.2.2.1 (by decide)) h (fun a b c => k a (DLe_trans (DLe_trans f5.2 f8.2.1) b) c))
def fJ5_init_a7421 (v0 : Int) (v1 : Int) (D : DD) : Option (DD) := (if (151 : Int) ≤ (v0) ∧ (v0 : Int) < dT D ∧ True then (Option.bind (fJ0_length_8abf5 (v1) D) fun r2 => (if isStr (v1) ∨ dO D (v1) 18 then (if (r2) < (2147483631) then (if inR ((r2 + 16)) then fJ5_init_a7421_b24 (v0) (v1) ((r2 + 16)) D else none) else fJ5_init_a7421_b24 (v0) (v1) (2147483647) D) else none)) else none)
set_option maxRecDepth 100000 in
theorem CJ5_init_a7421 {ln : Nat} {D : DD} {z : ZZ} {v0 : Int} {v1 : Int} (hD : okD D) (rv0 : gdV D v0) (rv1 : gdV D v1) {p : DD} (h : fJ5_init_a7421 v0 v1 D = some p) : XD mJ5_init_a7421 0 (xEnt [rV (v0), rV (v1)] (xL mJ5_init_a7421)) [] ln D z (Qd (FdD D p (True)) (.inl (none)) (sD ln p z)) := by
  have k : K_w (Qd (FdD D p (True)) (.inl (none)) (sD ln p z)) ln D z p := fun a b c => ⟨⟨a, b, c⟩, rfl, rfl⟩
  unfold fJ5_init_a7421 at h
  refine E_ent (c1_r (c1_r c1_n)) (M := [some (rV (v0)), some (rV (v1)), none, none, none]) rfl ?_
  refine E_aload_n (pc' := 1) dJ5_init_a7421_0 rfl rfl ?_
  obtain ⟨g1, h⟩ := gs h
  refine E_objInit (μ := mJ5_init_a7421) (pc' := 4) dJ5_init_a7421_1 rfl tq1126 tq53 tq54 hD ⟨g1.1, g1.2.1⟩ c1_n (cs rfl) ?_
  refine E_aload_n (pc' := 5) dJ5_init_a7421_4 rfl rfl ?_
  obtain ⟨r2, q2, h⟩ := bs h
  obtain ⟨g3, h⟩ := gs h
  refine E_callV [] (pc' := 8) dJ5_init_a7421_5 rfl (xVc VJ5_32) (by decide) (str_recv hD g3) rfl c1_n (cs rfl) c1_n (cs rfl) rfl hD (CJ0_length_8abf5 hD rv1 q2) (fun a2 b2 f2 => ?_)
  refine X_istore_n (pc' := 9) dJ5_init_a7421_8 rfl (cl rfl) (Or.inr (xC1_R _)) (L' := [some (rV (v0)), some (rV (v1)), some (.int (iN (r2))), none, none]) rfl ?_
  refine X_iload_n (pc' := 10) dJ5_init_a7421_9 rfl rfl ?_
  refine X_ldcI (pc' := 12) dJ5_init_a7421_10 rfl tq1385 (n := 2147483631) rfl ?_
  refine X_icmp_ge dJ5_init_a7421_12 (tgt := 22) rfl (pc' := 15) rfl ⟨f2.1, f2.2, (inR_c (n := 2147483631) rfl).1, (inR_c (n := 2147483631) rfl).2⟩ (fun c4 => ?_) (fun c4 => ?_)
  · have h := if_f (Int.not_lt.mpr c4) h
    refine X_ldcI (pc' := 24) dJ5_init_a7421_22 rfl tq1167 (n := 2147483647) rfl ?_
    exact X_sub (sub_s (sub_s (sub_n (sub_n (sub_n sub_0))))) (BJ5_init_a7421_24 hD rv0 rv1 (inR_c (n := 2147483647) rfl) h (fun a b c => k a (DLe_trans (DLe_refl _) b) c))
  have h := if_t c4 h
  refine X_iload_n (pc' := 16) dJ5_init_a7421_15 rfl rfl ?_
  refine X_bipush (pc' := 18) dJ5_init_a7421_16 rfl (by decide) ?_
  refine X_iadd (pc' := 19) dJ5_init_a7421_18 rfl ?_
  refine X_goto dJ5_init_a7421_19 (tgt := 24) rfl ?_
  obtain ⟨g5, h⟩ := gs h
  exact X_sub (sub_s (sub_s (sub_n (sub_n (sub_n sub_0))))) (BJ5_init_a7421_24 hD rv0 rv1 g5 h (fun a b c => k a (DLe_trans (DLe_refl _) b) c))
def fJ4_init_a7421 (v0 : Int) (v1 : Int) (D : DD) : Option (DD) := (Option.bind (fJ5_init_a7421 (v0) (v1) D) fun D1 => (if (151 : Int) ≤ (v0) ∧ (v0 : Int) < dT D ∧ True then some D1 else none))
set_option maxRecDepth 100000 in
theorem CJ4_init_a7421 {ln : Nat} {D : DD} {z : ZZ} {v0 : Int} {v1 : Int} (hD : okD D) (rv0 : gdV D v0) (rv1 : gdV D v1) {p : DD} (h : fJ4_init_a7421 v0 v1 D = some p) : XD mJ4_init_a7421 0 (xEnt [rV (v0), rV (v1)] (xL mJ4_init_a7421)) [] ln D z (Qd (FdD D p (True)) (.inl (none)) (sD ln p z)) := by
  have k : K_w (Qd (FdD D p (True)) (.inl (none)) (sD ln p z)) ln D z p := fun a b c => ⟨⟨a, b, c⟩, rfl, rfl⟩
  unfold fJ4_init_a7421 at h
  refine E_ent (c1_r (c1_r c1_n)) (M := [some (rV (v0)), some (rV (v1))]) rfl ?_
  refine E_aload_n (pc' := 1) dJ4_init_a7421_0 rfl rfl ?_
  refine E_aload_n (pc' := 2) dJ4_init_a7421_1 rfl rfl ?_
  obtain ⟨D1, q1, h⟩ := bs h
  obtain ⟨g2, h⟩ := gs h
  refine E_callI (μ := mJ4_init_a7421) (μ' := mJ5_init_a7421) [rV (v1)] (pc' := 5) dJ4_init_a7421_2 rfl tq1382 IJ4_7 (by decide) ⟨g2.1, g2.2.1⟩ rfl (c1_r c1_n) (cs rfl) c1_n (cs rfl) rfl hD (CJ5_init_a7421 hD rv0 rv1 q1) (fun a1 b1 f1 => ?_)
  cases h
  exact X_vret dJ4_init_a7421_5 rfl (k a1 b1 trivial)
def fJ1_canEncode_fc78d (v0 : Int) (D : DD) : Option (Int) := (if (255) < (v0) then some (0) else some (1))
set_option maxRecDepth 100000 in
theorem CJ1_canEncode_fc78d {ln : Nat} {D : DD} {z : ZZ} {v0 : Int} (hD : okD D) (rv0 : inR v0) {p : Int} (h : fJ1_canEncode_fc78d v0 D = some p) : XD mJ1_canEncode_fc78d 0 (xEnt [.int (iN (v0))] (xL mJ1_canEncode_fc78d)) [] ln D z (Qd (FdD D D (p = 0 ∨ p = 1)) (.inl (some (.int (iN p)))) (sD ln D z)) := by
  have k : K_b (Qd (FdD D D (p = 0 ∨ p = 1)) (.inl (some (.int (iN p)))) (sD ln D z)) ln D z p := fun a => ⟨⟨hD, DLe_refl D, a⟩, rfl, rfl⟩
  unfold fJ1_canEncode_fc78d at h
  refine E_ent (c1_i c1_n) (M := [some (.int (iN (v0)))]) rfl ?_
  refine X_iload_n (pc' := 1) dJ1_canEncode_fc78d_0 rfl rfl ?_
  refine X_sipush (pc' := 4) dJ1_canEncode_fc78d_1 rfl (by decide) ?_
  refine X_icmp_gt dJ1_canEncode_fc78d_4 (tgt := 11) rfl (pc' := 7) rfl ⟨rv0.1, rv0.2, (inR_c (n := 255) rfl).1, (inR_c (n := 255) rfl).2⟩ (fun c1 => ?_) (fun c1 => ?_)
  · have h := if_t c1 h
    refine X_iconst (pc' := 12) dJ1_canEncode_fc78d_11 rfl ?_
    cases h
    exact X_zret dJ1_canEncode_fc78d_12 rfl (Or.inl rfl) (k (Or.inl rfl))
  have h := if_f (Int.not_lt.mpr c1) h
  refine X_iconst (pc' := 8) dJ1_canEncode_fc78d_7 rfl ?_
  refine X_goto dJ1_canEncode_fc78d_8 (tgt := 12) rfl ?_
  cases h
  exact X_zret dJ1_canEncode_fc78d_12 rfl (Or.inr rfl) (k (Or.inr rfl))
def fJ5_append_3fe6f_b56 (v0 : Int) (v1 : Int) (D : DD) : Option (Int × DD) := (if dO D (v0) 17 then (if inR (((dW D (v0) 3) + 1)) then (zl (dup D (v0) 3 (((dW D (v0) 3) + 1))) fun D3 => none) else none) else none)
set_option maxRecDepth 100000 in
theorem BJ5_append_3fe6f_56 {ln : Nat} {D : DD} {z : ZZ} {v0 : Int} {v1 : Int} {Φ : xRes → xS → Prop} (hD : okD D) (rv0 : gdV D v0) (rv1 : inR v1) {p : Int × DD} (h : fJ5_append_3fe6f_b56 v0 v1 D = some p) (k : K_wR Φ ln D z p) : XD mJ5_append_3fe6f 56 [some (rV (v0)), some (.int (iN (v1)))] [] ln D z Φ := by
  unfold fJ5_append_3fe6f_b56 at h
  refine E_aload_n (pc' := 57) dJ5_append_3fe6f_56 rfl rfl ?_
  obtain ⟨g1, h⟩ := gs h
  refine E_getR (pc' := 60) dJ5_append_3fe6f_57 rfl FJ5_15_16 hD g1 rfl (j := 0) rfl ?_
  refine E_aload_n (pc' := 61) dJ5_append_3fe6f_60 rfl rfl ?_
  refine X_dup (pc' := 62) dJ5_append_3fe6f_61 rfl (rV_cat _) ?_
  refine E_getI (pc' := 65) dJ5_append_3fe6f_62 rfl FJ5_79_16 hD g1 rfl (j := 3) rfl ?_
  refine X_dup_x1 (pc' := 66) dJ5_append_3fe6f_65 rfl rfl (rV_cat _) ?_
  refine X_iconst (pc' := 67) dJ5_append_3fe6f_66 rfl ?_
  refine X_iadd (pc' := 68) dJ5_append_3fe6f_67 rfl ?_
  obtain ⟨g2, h⟩ := gs h
  refine E_putI (pc' := 71) dJ5_append_3fe6f_68 rfl FJ5_79_16 hD g1 rfl (fun r hr => by cases hr; exact Or.inl rfl) (xFit_int _) (j := 3) rfl ?_
  obtain ⟨D3, e3, f3, h⟩ := zl_some (P := fun q => okD q ∧ DLe D q) h ⟨okD_dup (k := 3) hD (okS_I g1 rfl (by decide) (by decide) g2), DLe_dup _ _ _ _⟩
  rw [e3]
  refine X_iload_n (pc' := 72) dJ5_append_3fe6f_71 rfl rfl ?_
  cases h
def fJ5_append_3fe6f_b45 (v0 : Int) (v1 : Int) (D : DD) : Option (Int × DD) := (Option.bind (fJ5_isLatin1_aae02 (v0) D) fun r1 => (if dO D (v0) 17 then (if (r1) = (0) then fJ5_append_3fe6f_b56 (v0) (v1) D else none) else none))
set_option maxRecDepth 100000 in
theorem BJ5_append_3fe6f_45 {ln : Nat} {D : DD} {z : ZZ} {v0 : Int} {v1 : Int} {Φ : xRes → xS → Prop} (hD : okD D) (rv0 : gdV D v0) (rv1 : inR v1) {p : Int × DD} (h : fJ5_append_3fe6f_b45 v0 v1 D = some p) (k : K_wR Φ ln D z p) : XD mJ5_append_3fe6f 45 [some (rV (v0)), some (.int (iN (v1)))] [] ln D z Φ := by
  unfold fJ5_append_3fe6f_b45 at h
  refine E_aload_n (pc' := 46) dJ5_append_3fe6f_45 rfl rfl ?_
  obtain ⟨r1, q1, h⟩ := bs h
  obtain ⟨g2, h⟩ := gs h
  refine E_callV [] (pc' := 49) dJ5_append_3fe6f_46 rfl VJ5_83_J4 (by decide) ⟨dO_pos g2, dO_is hD g2 rfl⟩ rfl c1_n (cs rfl) c1_n (cs rfl) rfl hD (CJ5_isLatin1_aae02 hD rv0 q1) (fun a1 b1 f1 => ?_)
  refine X_if_eq dJ5_append_3fe6f_49 (tgt := 56) rfl (pc' := 52) rfl (inR_b f1) (fun c3 => ?_) (fun c3 => ?_)
  · have h := if_t c3 h
    exact X_sub (sub_s (sub_s sub_0)) (BJ5_append_3fe6f_56 hD rv0 rv1 h (fun a b c => k a (DLe_trans (DLe_refl _) b) c))
  have h := if_f c3 h
  refine E_aload_n (pc' := 53) dJ5_append_3fe6f_52 rfl rfl ?_
  cases h
def fJ5_append_3fe6f (v0 : Int) (v1 : Int) (D : DD) : Option (Int × DD) := (if dO D (v0) 17 then (if inR (((dW D (v0) 3) + 1)) then (Option.bind (fJ5_ensureCapacityInternal_d00df (v0) (((dW D (v0) 3) + 1)) D) fun D3 => (Option.bind (fJ5_isLatin1_aae02 (v0) D3) fun r4 => (if (r4) = (0) then fJ5_append_3fe6f_b45 (v0) (v1) D3 else (Option.bind (fJ1_canEncode_fc78d (v1) D3) fun r6 => (if (r6) = (0) then fJ5_append_3fe6f_b45 (v0) (v1) D3 else (if inR (((dW D3 (v0) 3) + 1)) then (zl (dup D3 (v0) 3 (((dW D3 (v0) 3) + 1))) fun D9 => (if (-128 : Int) ≤ (v1) ∧ (v1 : Int) < 128 then (if dO D9 ((dW D3 (v0) 0)) 21 then (if (0 : Int) ≤ ((dW D3 (v0) 3)) ∧ ((dW D3 (v0) 3) : Int) < ((dH D9 ((dW D3 (v0) 0))).2 : Int) then (if (-128 : Int) ≤ (v1) ∧ (v1 : Int) < 128 then (zl (dup D9 ((dW D3 (v0) 0)) ((dW D3 (v0) 3)) (v1)) fun D14 => some (v0, D14)) else none) else none) else none) else none)) else none)))))) else none) else none)
set_option maxRecDepth 100000 in
theorem CJ5_append_3fe6f {ln : Nat} {D : DD} {z : ZZ} {v0 : Int} {v1 : Int} (hD : okD D) (rv0 : gdV D v0) (rv1 : inR v1) {p : Int × DD} (h : fJ5_append_3fe6f v0 v1 D = some p) : XD mJ5_append_3fe6f 0 (xEnt [rV (v0), .int (iN (v1))] (xL mJ5_append_3fe6f)) [] ln D z (Qd (FdD D p.2 (gdV p.2 p.1)) (.inl (some (rV p.1))) (sD ln p.2 z)) := by
  have k : K_wR (Qd (FdD D p.2 (gdV p.2 p.1)) (.inl (some (rV p.1))) (sD ln p.2 z)) ln D z p := fun a b c => ⟨⟨a, b, c⟩, rfl, rfl⟩
  unfold fJ5_append_3fe6f at h
  refine E_ent (c1_r (c1_i c1_n)) (M := [some (rV (v0)), some (.int (iN (v1)))]) rfl ?_
  refine E_aload_n (pc' := 1) dJ5_append_3fe6f_0 rfl rfl ?_
  refine E_aload_n (pc' := 2) dJ5_append_3fe6f_1 rfl rfl ?_
  obtain ⟨g1, h⟩ := gs h
  refine E_getI (pc' := 5) dJ5_append_3fe6f_2 rfl FJ5_79_16 hD g1 rfl (j := 3) rfl ?_
  refine X_iconst (pc' := 6) dJ5_append_3fe6f_5 rfl ?_
  refine X_iadd (pc' := 7) dJ5_append_3fe6f_6 rfl ?_
  obtain ⟨g2, h⟩ := gs h
  obtain ⟨D3, q3, h⟩ := bs h
  refine E_callV [.int (iN (((dW D (v0) 3) + 1)))] (pc' := 10) dJ5_append_3fe6f_7 rfl VJ5_100_J4 (by decide) ⟨dO_pos g1, dO_is hD g1 rfl⟩ rfl (c1_i c1_n) (cs rfl) c1_n (cs rfl) rfl hD (CJ5_ensureCapacityInternal_d00df hD rv0 g2 q3) (fun a3 b3 f3 => ?_)
  refine E_aload_n (pc' := 11) dJ5_append_3fe6f_10 rfl rfl ?_
  obtain ⟨r4, q4, h⟩ := bs h
  refine E_callV [] (pc' := 14) dJ5_append_3fe6f_11 rfl VJ5_83_J4 (by decide) ⟨dO_pos (dO_le b3 g1), dO_is a3 (dO_le b3 g1) rfl⟩ rfl c1_n (cs rfl) c1_n (cs rfl) rfl a3 (CJ5_isLatin1_aae02 a3 (gdV_le b3 rv0) q4) (fun a4 b4 f4 => ?_)
  refine X_if_eq dJ5_append_3fe6f_14 (tgt := 45) rfl (pc' := 17) rfl (inR_b f4) (fun c5 => ?_) (fun c5 => ?_)
  · have h := if_t c5 h
    exact X_sub (sub_s (sub_s sub_0)) (BJ5_append_3fe6f_45 a3 (gdV_le b3 rv0) rv1 h (fun a b c => k a (DLe_trans b3 b) c))
  have h := if_f c5 h
  refine X_iload_n (pc' := 18) dJ5_append_3fe6f_17 rfl rfl ?_
  obtain ⟨r6, q6, h⟩ := bs h
  refine E_callS [.int (iN (v1))] (pc' := 21) dJ5_append_3fe6f_18 rfl (xSn SJ5_191) (by decide) rfl (c1_i c1_n) (cs rfl) c1_n (cs rfl) rfl a3 (CJ1_canEncode_fc78d a3 rv1 q6) (fun a6 b6 f6 => ?_)
  refine X_if_eq dJ5_append_3fe6f_21 (tgt := 45) rfl (pc' := 24) rfl (inR_b f6) (fun c7 => ?_) (fun c7 => ?_)
  · have h := if_t c7 h
    exact X_sub (sub_s (sub_s sub_0)) (BJ5_append_3fe6f_45 a3 (gdV_le b3 rv0) rv1 h (fun a b c => k a (DLe_trans b3 b) c))
  have h := if_f c7 h
  refine E_aload_n (pc' := 25) dJ5_append_3fe6f_24 rfl rfl ?_
  refine E_getR (pc' := 28) dJ5_append_3fe6f_25 rfl FJ5_15_16 a3 (dO_le b3 g1) rfl (j := 0) rfl ?_
  refine E_aload_n (pc' := 29) dJ5_append_3fe6f_28 rfl rfl ?_
  refine X_dup (pc' := 30) dJ5_append_3fe6f_29 rfl (rV_cat _) ?_
  refine E_getI (pc' := 33) dJ5_append_3fe6f_30 rfl FJ5_79_16 a3 (dO_le b3 g1) rfl (j := 3) rfl ?_
  refine X_dup_x1 (pc' := 34) dJ5_append_3fe6f_33 rfl rfl (rV_cat _) ?_
  refine X_iconst (pc' := 35) dJ5_append_3fe6f_34 rfl ?_
  refine X_iadd (pc' := 36) dJ5_append_3fe6f_35 rfl ?_
  obtain ⟨g8, h⟩ := gs h
  refine E_putI (pc' := 39) dJ5_append_3fe6f_36 rfl FJ5_79_16 a3 (dO_le b3 g1) rfl (fun r hr => by cases hr; exact Or.inl rfl) (xFit_int _) (j := 3) rfl ?_
  obtain ⟨D9, e9, f9, h⟩ := zl_some (P := fun q => okD q ∧ DLe D3 q) h ⟨okD_dup (k := 3) a3 (okS_I (dO_le b3 g1) rfl (by decide) (by decide) g8), DLe_dup _ _ _ _⟩
  rw [e9]
  refine X_iload_n (pc' := 40) dJ5_append_3fe6f_39 rfl rfl ?_
  obtain ⟨g10, h⟩ := gs h
  refine X_i2b (pc' := 41) dJ5_append_3fe6f_40 rfl g10 ?_
  obtain ⟨g11, h⟩ := gs h
  obtain ⟨g12, h⟩ := gs h
  obtain ⟨g13, h⟩ := gs h
  refine E_bast (pc' := 42) dJ5_append_3fe6f_41 rfl f9.1 g11 g12 g13 ?_
  obtain ⟨D14, e14, f14, h⟩ := zl_some (P := fun q => okD q ∧ DLe D9 q) h ⟨okD_dupJ f9.1 g12.1 (okS_at21 g11 g13), DLe_dup _ _ _ _⟩
  rw [e14]
  refine X_goto dJ5_append_3fe6f_42 (tgt := 75) rfl ?_
  refine E_aload_n (pc' := 76) dJ5_append_3fe6f_75 rfl rfl ?_
  cases h
  exact E_aret dJ5_append_3fe6f_76 rfl (Or.inl ⟨_, rfl⟩) (k f14.1 (DLe_trans (DLe_trans b3 f9.2) f14.2) (gdV_le f14.2 (gdV_le f9.2 (gdV_le b3 rv0))))
def fJ4_append_cf468 (v0 : Int) (v1 : Int) (D : DD) : Option (Int × DD) := (Option.bind (fJ5_append_3fe6f (v0) (v1) D) fun q1 => match q1 with | (r1, D1) => (if dO D (v0) 17 then some (v0, D1) else none))
set_option maxRecDepth 100000 in
theorem CJ4_append_cf468 {ln : Nat} {D : DD} {z : ZZ} {v0 : Int} {v1 : Int} (hD : okD D) (rv0 : gdV D v0) (rv1 : inR v1) {p : Int × DD} (h : fJ4_append_cf468 v0 v1 D = some p) : XD mJ4_append_cf468 0 (xEnt [rV (v0), .int (iN (v1))] (xL mJ4_append_cf468)) [] ln D z (Qd (FdD D p.2 (gdV p.2 p.1)) (.inl (some (rV p.1))) (sD ln p.2 z)) := by
  have k : K_wR (Qd (FdD D p.2 (gdV p.2 p.1)) (.inl (some (rV p.1))) (sD ln p.2 z)) ln D z p := fun a b c => ⟨⟨a, b, c⟩, rfl, rfl⟩
  unfold fJ4_append_cf468 at h
  refine E_ent (c1_r (c1_i c1_n)) (M := [some (rV (v0)), some (.int (iN (v1)))]) rfl ?_
  refine E_aload_n (pc' := 1) dJ4_append_cf468_0 rfl rfl ?_
  refine X_iload_n (pc' := 2) dJ4_append_cf468_1 rfl rfl ?_
  obtain ⟨⟨r1, D1⟩, q1, h⟩ := bs h
  obtain ⟨g2, h⟩ := gs h
  refine E_callP [.int (iN (v1))] (pc' := 5) dJ4_append_cf468_2 rfl PJ4_50 (by decide) ⟨dO_pos g2, dO_is hD g2 rfl⟩ rfl (c1_i c1_n) (cs rfl) c1_n (cs rfl) rfl hD (CJ5_append_3fe6f hD rv0 rv1 q1) (fun a1 b1 f1 => ?_)
  refine X_pop (pc' := 6) dJ4_append_cf468_5 rfl (rV_cat _) ?_
  refine E_aload_n (pc' := 7) dJ4_append_cf468_6 rfl rfl ?_
  cases h
  exact E_aret dJ4_append_cf468_7 rfl (Or.inl ⟨_, rfl⟩) (k a1 b1 (gdV_le b1 rv0))
def fX17_init (v0 : Int) (v1 : Int) (D : DD) : Option (DD) := (if dO D (v0) 16 then (zl (dup D (v0) 0 (v1)) fun D2 => (Option.bind (fJxa1e45_init_da8c8 (v0) D2) fun _u3 => some D2)) else none)
set_option maxRecDepth 100000 in
theorem CX17_init {ln : Nat} {D : DD} {z : ZZ} {v0 : Int} {v1 : Int} (hD : okD D) (rv0 : gdV D v0) (rv1 : gdV D v1) {p : DD} (h : fX17_init v0 v1 D = some p) : XD mX17_init 0 (xEnt [rV (v0), rV (v1)] (xL mX17_init)) [] ln D z (Qd (FdD D p (True)) (.inl (none)) (sD ln p z)) := by
  have k : K_w (Qd (FdD D p (True)) (.inl (none)) (sD ln p z)) ln D z p := fun a b c => ⟨⟨a, b, c⟩, rfl, rfl⟩
  unfold fX17_init at h
  refine E_ent (c1_r (c1_r c1_n)) (M := [some (rV (v0)), some (rV (v1))]) rfl ?_
  refine E_aload_n (pc' := 1) dX17_init_0 rfl rfl ?_
  refine E_aload_n (pc' := 2) dX17_init_1 rfl rfl ?_
  obtain ⟨g1, h⟩ := gs h
  refine E_putR (pc' := 5) dX17_init_2 rfl FX17_1_15 hD g1 rfl (fun r hr => by cases hr; exact Or.inr ⟨rfl, rfl⟩) (Or.inl ⟨_, rfl⟩) (j := 0) rfl ?_
  obtain ⟨D2, e2, f2, h⟩ := zl_some (P := fun q => okD q ∧ DLe D q) h ⟨okD_dup (k := 0) hD (okS_R g1 rfl (by decide) rv1), DLe_dup _ _ _ _⟩
  rw [e2]
  refine E_aload_n (pc' := 6) dX17_init_5 rfl rfl ?_
  obtain ⟨u3, q3, h⟩ := bs h
  refine E_callI (μ := mX17_init) (μ' := mJxa1e45_init_da8c8) [] (pc' := 9) dX17_init_6 rfl tq1550 IX17_7 (by decide) ⟨(dO_le f2.2 g1).1, (dO_le f2.2 g1).2.1⟩ rfl c1_n (cs rfl) c1_n (cs rfl) rfl f2.1 (CJxa1e45_init_da8c8 f2.1 (gdV_le f2.2 rv0) q3) (fun a3 b3 f3 => ?_)
  cases h
  exact X_vret dX17_init_9 rfl (k f2.1 f2.2 trivial)
def fX18_values (v0 : Int) (D : DD) : Option (Int × DD) := (if dO D (v0) 11 then (if ((dW D (v0) 1)) = 0 then (if dT D < 600000 ∧ dS D + 1 ≤ 7200000 then (zl (dnew D 16 1) fun D4 => (Option.bind (fX17_init ((dT D)) (v0) D4) fun D5 => (zl (dup D5 (v0) 1 ((dT D))) fun D6 => some ((dT D), D6)))) else none) else some ((dW D (v0) 1), D)) else none)
set_option maxRecDepth 100000 in
theorem CX18_values {ln : Nat} {D : DD} {z : ZZ} {v0 : Int} (hD : okD D) (rv0 : gdV D v0) {p : Int × DD} (h : fX18_values v0 D = some p) : XD mX18_values 0 (xEnt [rV (v0)] (xL mX18_values)) [] ln D z (Qd (FdD D p.2 (gdV p.2 p.1)) (.inl (some (rV p.1))) (sD ln p.2 z)) := by
  have k : K_wR (Qd (FdD D p.2 (gdV p.2 p.1)) (.inl (some (rV p.1))) (sD ln p.2 z)) ln D z p := fun a b c => ⟨⟨a, b, c⟩, rfl, rfl⟩
  unfold fX18_values at h
  refine E_ent (c1_r c1_n) (M := [some (rV (v0)), none]) rfl ?_
  refine E_aload_n (pc' := 1) dX18_values_0 rfl rfl ?_
  obtain ⟨g1, h⟩ := gs h
  refine E_getR (pc' := 4) dX18_values_1 rfl FX18_233_10 hD g1 rfl (j := 1) rfl ?_
  refine E_astore_n (pc' := 5) dX18_values_4 rfl (cl rfl) (Or.inr (xC1_R _)) (L' := [some (rV (v0)), some (rV ((dW D (v0) 1)))]) rfl ?_
  refine E_aload_n (pc' := 6) dX18_values_5 rfl rfl ?_
  refine E_ifnonnull dX18_values_6 (tgt := 23) rfl (pc' := 9) rfl hD (gd_slot (k := 1) hD g1 rfl (by decide)) (fun c2 => ?_) (fun c2 => ?_)
  · have h := if_f c2 h
    refine E_aload_n (pc' := 24) dX18_values_23 rfl rfl ?_
    cases h
    exact E_aret dX18_values_24 rfl (Or.inl ⟨_, rfl⟩) (k hD (DLe_refl _) (gd_slot (k := 1) hD g1 rfl (by decide)))
  have h := if_t c2 h
  obtain ⟨g3, h⟩ := gs h
  refine E_new (c := 15) (n := 1) (pc' := 12) dX18_values_9 rfl rfl rfl (by decide) tq1545 tq1546 tq30 hD g3 ?_
  obtain ⟨D4, e4, f4, h⟩ := zl_some (P := fun q => okD q ∧ DLe D q ∧ dO q (dT D) 16) h ⟨okD_dnew hD (by decide) (by decide) g3.1 g3.2, DLe_dnew _ (by decide), dO_dnew hD⟩
  rw [e4]
  refine X_dup (pc' := 13) dX18_values_12 rfl (rV_cat _) ?_
  refine E_aload_n (pc' := 14) dX18_values_13 rfl rfl ?_
  obtain ⟨D5, q5, h⟩ := bs h
  refine E_callI (μ := mX18_values) (μ' := mX17_init) [rV (v0)] (pc' := 17) dX18_values_14 rfl tq1547 IX18_239 (by decide) ⟨f4.2.2.1, f4.2.2.2.1⟩ rfl (c1_r c1_n) (cs rfl) (c1_r c1_n) (cs rfl) rfl f4.1 (CX17_init f4.1 (dO_gd f4.2.2 (by decide)) (gdV_le f4.2.1 rv0) q5) (fun a5 b5 f5 => ?_)
  refine E_astore_n (pc' := 18) dX18_values_17 rfl (cl rfl) (Or.inr (xC1_R _)) (L' := [some (rV (v0)), some (rV ((dT D)))]) rfl ?_
  refine E_aload_n (pc' := 19) dX18_values_18 rfl rfl ?_
  refine E_aload_n (pc' := 20) dX18_values_19 rfl rfl ?_
  refine E_putR (pc' := 23) dX18_values_20 rfl FX18_233_10 a5 (dO_le b5 (dO_le f4.2.1 g1)) rfl (fun r hr => by cases hr; exact Or.inl rfl) (Or.inl ⟨_, rfl⟩) (j := 1) rfl ?_
  obtain ⟨D6, e6, f6, h⟩ := zl_some (P := fun q => okD q ∧ DLe D5 q) h ⟨okD_dup (k := 1) a5 (okS_R (dO_le b5 (dO_le f4.2.1 g1)) rfl (by decide) (gdV_le b5 (dO_gd f4.2.2 (by decide)))), DLe_dup _ _ _ _⟩
  rw [e6]
  refine E_aload_n (pc' := 24) dX18_values_23 rfl rfl ?_
  cases h
  exact E_aret dX18_values_24 rfl (Or.inl ⟨_, rfl⟩) (k f6.1 (DLe_trans (DLe_trans f4.2.1 b5) f6.2) (gdV_le f6.2 (gdV_le b5 (dO_gd f4.2.2 (by decide)))))
def fX16_init (v0 : Int) (v1 : Int) (v2 : Int) (D : DD) : Option (DD) := (Option.bind (fX15_init_15 (v0) (v1) (v2) D) fun D1 => (if (151 : Int) ≤ (v0) ∧ (v0 : Int) < dT D ∧ True then some D1 else none))
set_option maxRecDepth 100000 in
theorem CX16_init {ln : Nat} {D : DD} {z : ZZ} {v0 : Int} {v1 : Int} {v2 : Int} (hD : okD D) (rv0 : gdV D v0) (rv1 : gdV D v1) (rv2 : gdV D v2) {p : DD} (h : fX16_init v0 v1 v2 D = some p) : XD mX16_init 0 (xEnt [rV (v0), rV (v1), rV (v2)] (xL mX16_init)) [] ln D z (Qd (FdD D p (True)) (.inl (none)) (sD ln p z)) := by
  have k : K_w (Qd (FdD D p (True)) (.inl (none)) (sD ln p z)) ln D z p := fun a b c => ⟨⟨a, b, c⟩, rfl, rfl⟩
  unfold fX16_init at h
  refine E_ent (c1_r (c1_r (c1_r c1_n))) (M := [some (rV (v0)), some (rV (v1)), some (rV (v2))]) rfl ?_
  refine E_aload_n (pc' := 1) dX16_init_0 rfl rfl ?_
  refine E_aload_n (pc' := 2) dX16_init_1 rfl rfl ?_
  refine E_aload_n (pc' := 3) dX16_init_2 rfl rfl ?_
  obtain ⟨D1, q1, h⟩ := bs h
  obtain ⟨g2, h⟩ := gs h
  refine E_callI (μ := mX16_init) (μ' := mX15_init) [rV (v1), rV (v2)] (pc' := 6) dX16_init_3 rfl tq1577 IX16_1 (by decide) ⟨g2.1, g2.2.1⟩ rfl (c1_r (c1_r c1_n)) (cs rfl) c1_n (cs rfl) rfl hD (CX15_init_15 hD rv0 rv1 rv2 q1) (fun a1 b1 f1 => ?_)
  cases h
  exact X_vret dX16_init_6 rfl (k a1 b1 trivial)
def fX17_iterator (v0 : Int) (D : DD) : Option (Int × DD) := (if dT D < 600000 ∧ dS D + 4 ≤ 7200000 then (zl (dnew D 15 4) fun D2 => (if dO D2 (v0) 16 then (Option.bind (fX18_getFirstEntry ((dW D2 (v0) 0)) D2) fun r4 => (if dO D2 ((dW D2 (v0) 0)) 11 then (Option.bind (fX16_init ((dT D)) ((dW D2 (v0) 0)) (r4) D2) fun D6 => some ((dT D), D6)) else none)) else none)) else none)
set_option maxRecDepth 100000 in
theorem CX17_iterator {ln : Nat} {D : DD} {z : ZZ} {v0 : Int} (hD : okD D) (rv0 : gdV D v0) {p : Int × DD} (h : fX17_iterator v0 D = some p) : XD mX17_iterator 0 (xEnt [rV (v0)] (xL mX17_iterator)) [] ln D z (Qd (FdD D p.2 (gdV p.2 p.1)) (.inl (some (rV p.1))) (sD ln p.2 z)) := by
  have k : K_wR (Qd (FdD D p.2 (gdV p.2 p.1)) (.inl (some (rV p.1))) (sD ln p.2 z)) ln D z p := fun a b c => ⟨⟨a, b, c⟩, rfl, rfl⟩
  unfold fX17_iterator at h
  refine E_ent (c1_r c1_n) (M := [some (rV (v0))]) rfl ?_
  obtain ⟨g1, h⟩ := gs h
  refine E_new (c := 14) (n := 4) (pc' := 3) dX17_iterator_0 rfl rfl rfl (by decide) tq1571 tq1572 tq33 hD g1 ?_
  obtain ⟨D2, e2, f2, h⟩ := zl_some (P := fun q => okD q ∧ DLe D q ∧ dO q (dT D) 15) h ⟨okD_dnew hD (by decide) (by decide) g1.1 g1.2, DLe_dnew _ (by decide), dO_dnew hD⟩
  rw [e2]
  refine X_dup (pc' := 4) dX17_iterator_3 rfl (rV_cat _) ?_
  refine E_aload_n (pc' := 5) dX17_iterator_4 rfl rfl ?_
  obtain ⟨g3, h⟩ := gs h
  refine E_getR (pc' := 8) dX17_iterator_5 rfl FX17_1_15 f2.1 g3 rfl (j := 0) rfl ?_
  refine E_aload_n (pc' := 9) dX17_iterator_8 rfl rfl ?_
  refine E_getR (pc' := 12) dX17_iterator_9 rfl FX17_1_15 f2.1 g3 rfl (j := 0) rfl ?_
  obtain ⟨r4, q4, h⟩ := bs h
  obtain ⟨g5, h⟩ := gs h
  refine E_callV [] (pc' := 15) dX17_iterator_12 rfl (xVc VX17_15) (by decide) ⟨dO_pos g5, dO_is f2.1 g5 rfl⟩ rfl c1_n (cs rfl) (c1_r (c1_r (c1_r c1_n))) (cs rfl) rfl f2.1 (CX18_getFirstEntry f2.1 (gd_slot (k := 0) f2.1 g3 rfl (by decide)) q4) (fun a4 b4 f4 => ?_)
  obtain ⟨D6, q6, h⟩ := bs h
  refine E_callI (μ := mX17_iterator) (μ' := mX16_init) [rV ((dW D2 (v0) 0)), rV (r4)] (pc' := 18) dX17_iterator_15 rfl tq1574 IX17_21 (by decide) ⟨f2.2.2.1, f2.2.2.2.1⟩ rfl (c1_r (c1_r c1_n)) (cs rfl) (c1_r c1_n) (cs rfl) rfl f2.1 (CX16_init f2.1 (dO_gd f2.2.2 (by decide)) (gd_slot (k := 0) f2.1 g3 rfl (by decide)) f4 q6) (fun a6 b6 f6 => ?_)
  cases h
  exact E_aret dX17_iterator_18 rfl (Or.inl ⟨_, rfl⟩) (k a6 (DLe_trans f2.2.1 b6) (gdV_le b6 (dO_gd f2.2.2 (by decide))))
def fJ6_intValue_8abf5 (v0 : Int) (D : DD) : Option (Int) := (if isBox (v0) then some ((v0 - 1000428)) else none)
set_option maxRecDepth 100000 in
theorem CJ6_intValue_8abf5 {ln : Nat} {D : DD} {z : ZZ} {v0 : Int} (hD : okD D) (rv0 : gdV D v0) {p : Int} (h : fJ6_intValue_8abf5 v0 D = some p) : XD mJ6_intValue_8abf5 0 (xEnt [rV (v0)] (xL mJ6_intValue_8abf5)) [] ln D z (Qd (FdD D D (inR p)) (.inl (some (.int (iN p)))) (sD ln D z)) := by
  have k : K_r (Qd (FdD D D (inR p)) (.inl (some (.int (iN p)))) (sD ln D z)) ln D z p := fun a => ⟨⟨hD, DLe_refl D, a⟩, rfl, rfl⟩
  unfold fJ6_intValue_8abf5 at h
  refine E_ent (c1_r c1_n) (M := [some (rV (v0))]) rfl ?_
  refine E_aload_n (pc' := 1) dJ6_intValue_8abf5_0 rfl rfl ?_
  obtain ⟨g1, h⟩ := gs h
  refine E_boxv (pc' := 4) dJ6_intValue_8abf5_1 rfl tq1603 g1 ?_
  cases h
  exact X_iret dJ6_intValue_8abf5_4 rfl (k (box_in g1))
def fJ6_valueOf_2dffe_b23 (v0 : Int) (D : DD) : Option (Int) := none
set_option maxRecDepth 100000 in
theorem BJ6_valueOf_2dffe_23 {ln : Nat} {D : DD} {z : ZZ} {v0 : Int} {Φ : xRes → xS → Prop} (hD : okD D) (rv0 : inR v0) {p : Int} (h : fJ6_valueOf_2dffe_b23 v0 D = some p) (k : K_R Φ ln D z p) : XD mJ6_valueOf_2dffe 23 [some (.int (iN (v0)))] [] ln D z Φ := by
  unfold fJ6_valueOf_2dffe_b23 at h
  cases h
def fJ6_valueOf_2dffe (v0 : Int) (D : DD) : Option (Int) := (if (v0) < ((-128)) then fJ6_valueOf_2dffe_b23 (v0) D else (if (127) < (v0) then fJ6_valueOf_2dffe_b23 (v0) D else (if (0 : Int) ≤ ((v0 + 128)) ∧ ((v0 + 128) : Int) < 256 then some ((1000300 + (v0 + 128))) else none)))
set_option maxRecDepth 100000 in
theorem CJ6_valueOf_2dffe {ln : Nat} {D : DD} {z : ZZ} {v0 : Int} (hD : okD D) (rv0 : inR v0) {p : Int} (h : fJ6_valueOf_2dffe v0 D = some p) : XD mJ6_valueOf_2dffe 0 (xEnt [.int (iN (v0))] (xL mJ6_valueOf_2dffe)) [] ln D z (Qd (FdD D D (gdV D p)) (.inl (some (rV p))) (sD ln D z)) := by
  have k : K_R (Qd (FdD D D (gdV D p)) (.inl (some (rV p))) (sD ln D z)) ln D z p := fun a => ⟨⟨hD, DLe_refl D, a⟩, rfl, rfl⟩
  unfold fJ6_valueOf_2dffe at h
  refine E_ent (c1_i c1_n) (M := [some (.int (iN (v0)))]) rfl ?_
  refine X_iload_n (pc' := 1) dJ6_valueOf_2dffe_0 rfl rfl ?_
  refine X_bipush (pc' := 3) dJ6_valueOf_2dffe_1 rfl (by decide) ?_
  refine X_icmp_lt dJ6_valueOf_2dffe_3 (tgt := 23) rfl (pc' := 6) rfl ⟨rv0.1, rv0.2, (inR_c (n := (-128)) rfl).1, (inR_c (n := (-128)) rfl).2⟩ (fun c1 => ?_) (fun c1 => ?_)
  · have h := if_t c1 h
    exact X_sub (sub_s sub_0) (BJ6_valueOf_2dffe_23 hD rv0 h k)
  have h := if_f (Int.not_lt.mpr c1) h
  refine X_iload_n (pc' := 7) dJ6_valueOf_2dffe_6 rfl rfl ?_
  refine X_gets (pc' := 10) dJ6_valueOf_2dffe_7 rfl (List.mem_of_getElem? (i := 8) rfl) tq1591 ?_
  refine X_to (M := [some (.int (iN (v0)))]) (su := [.int (iN (127)), .int (iN (v0))]) rfl rfl ?_
  refine X_icmp_gt dJ6_valueOf_2dffe_10 (tgt := 23) rfl (pc' := 13) rfl ⟨rv0.1, rv0.2, (inR_c (n := 127) rfl).1, (inR_c (n := 127) rfl).2⟩ (fun c2 => ?_) (fun c2 => ?_)
  · have h := if_t c2 h
    exact X_sub (sub_s sub_0) (BJ6_valueOf_2dffe_23 hD rv0 h k)
  have h := if_f (Int.not_lt.mpr c2) h
  refine E_gets (v := 1000299) (pc' := 16) dJ6_valueOf_2dffe_13 rfl (List.mem_of_getElem? (i := 9) rfl) tq1593 rfl ?_
  refine X_iload_n (pc' := 17) dJ6_valueOf_2dffe_16 rfl rfl ?_
  refine X_sipush (pc' := 20) dJ6_valueOf_2dffe_17 rfl (by decide) ?_
  refine X_iadd (pc' := 21) dJ6_valueOf_2dffe_20 rfl ?_
  obtain ⟨g3, h⟩ := gs h
  refine E_box (pc' := 22) dJ6_valueOf_2dffe_21 rfl g3 ?_
  cases h
  exact E_aret dJ6_valueOf_2dffe_22 rfl (Or.inl ⟨_, rfl⟩) (k (gdV_box (box_of g3)))
def fJx4a65c_isEmpty_aae02 (v0 : Int) (D : DD) : Option (Int) := (if dO D (v0) 9 then (if ((dW D (v0) 2)) = (0) then some (1) else some (0)) else none)
set_option maxRecDepth 100000 in
theorem CJx4a65c_isEmpty_aae02 {ln : Nat} {D : DD} {z : ZZ} {v0 : Int} (hD : okD D) (rv0 : gdV D v0) {p : Int} (h : fJx4a65c_isEmpty_aae02 v0 D = some p) : XD mJx4a65c_isEmpty_aae02 0 (xEnt [rV (v0)] (xL mJx4a65c_isEmpty_aae02)) [] ln D z (Qd (FdD D D (p = 0 ∨ p = 1)) (.inl (some (.int (iN p)))) (sD ln D z)) := by
  have k : K_b (Qd (FdD D D (p = 0 ∨ p = 1)) (.inl (some (.int (iN p)))) (sD ln D z)) ln D z p := fun a => ⟨⟨hD, DLe_refl D, a⟩, rfl, rfl⟩
  unfold fJx4a65c_isEmpty_aae02 at h
  refine E_ent (c1_r c1_n) (M := [some (rV (v0))]) rfl ?_
  refine E_aload_n (pc' := 1) dJx4a65c_isEmpty_aae02_0 rfl rfl ?_
  obtain ⟨g1, h⟩ := gs h
  refine E_getI (pc' := 4) dJx4a65c_isEmpty_aae02_1 rfl FJx4a65c_48_8 hD g1 rfl (j := 2) rfl ?_
  refine X_if_ne dJx4a65c_isEmpty_aae02_4 (tgt := 11) rfl (pc' := 7) rfl (in_slot (k := 2) hD g1 rfl (by decide)) (fun c2 => ?_) (fun c2 => ?_)
  · have h := if_f c2 h
    refine X_iconst (pc' := 12) dJx4a65c_isEmpty_aae02_11 rfl ?_
    cases h
    exact X_zret dJx4a65c_isEmpty_aae02_12 rfl (Or.inl rfl) (k (Or.inl rfl))
  have h := if_t c2 h
  refine X_iconst (pc' := 8) dJx4a65c_isEmpty_aae02_7 rfl ?_
  refine X_goto dJx4a65c_isEmpty_aae02_8 (tgt := 12) rfl ?_
  cases h
  exact X_zret dJx4a65c_isEmpty_aae02_12 rfl (Or.inr rfl) (k (Or.inr rfl))
def fJx4a65c_size_8abf5 (v0 : Int) (D : DD) : Option (Int) := (if dO D (v0) 9 then some ((dW D (v0) 2)) else none)
set_option maxRecDepth 100000 in
theorem CJx4a65c_size_8abf5 {ln : Nat} {D : DD} {z : ZZ} {v0 : Int} (hD : okD D) (rv0 : gdV D v0) {p : Int} (h : fJx4a65c_size_8abf5 v0 D = some p) : XD mJx4a65c_size_8abf5 0 (xEnt [rV (v0)] (xL mJx4a65c_size_8abf5)) [] ln D z (Qd (FdD D D (inR p)) (.inl (some (.int (iN p)))) (sD ln D z)) := by
  have k : K_r (Qd (FdD D D (inR p)) (.inl (some (.int (iN p)))) (sD ln D z)) ln D z p := fun a => ⟨⟨hD, DLe_refl D, a⟩, rfl, rfl⟩
  unfold fJx4a65c_size_8abf5 at h
  refine E_ent (c1_r c1_n) (M := [some (rV (v0))]) rfl ?_
  refine E_aload_n (pc' := 1) dJx4a65c_size_8abf5_0 rfl rfl ?_
  obtain ⟨g1, h⟩ := gs h
  refine E_getI (pc' := 4) dJx4a65c_size_8abf5_1 rfl FJx4a65c_48_8 hD g1 rfl (j := 2) rfl ?_
  cases h
  exact X_iret dJx4a65c_size_8abf5_4 rfl (k (in_slot (k := 2) hD g1 rfl (by decide)))
def fJ3_checkIndex_8e157 (v0 : Int) (v1 : Int) (D : DD) : Option (Int) := (if (v0) < (0) then none else (if (v0) < (v1) then some (v0) else none))
set_option maxRecDepth 100000 in
theorem CJ3_checkIndex_8e157 {ln : Nat} {D : DD} {z : ZZ} {v0 : Int} {v1 : Int} {v2 : Int} (hD : okD D) (rv0 : inR v0) (rv1 : inR v1) {p : Int} (h : fJ3_checkIndex_8e157 v0 v1 D = some p) : XD mJ3_checkIndex_8e157 0 (xEnt [.int (iN (v0)), .int (iN (v1)), rV (v2)] (xL mJ3_checkIndex_8e157)) [] ln D z (Qd (FdD D D (inR p)) (.inl (some (.int (iN p)))) (sD ln D z)) := by
  have k : K_r (Qd (FdD D D (inR p)) (.inl (some (.int (iN p)))) (sD ln D z)) ln D z p := fun a => ⟨⟨hD, DLe_refl D, a⟩, rfl, rfl⟩
  unfold fJ3_checkIndex_8e157 at h
  refine E_ent (c1_i (c1_i (c1_r c1_n))) (M := [some (.int (iN (v0))), some (.int (iN (v1))), some (rV (v2))]) rfl ?_
  refine X_iload_n (pc' := 1) dJ3_checkIndex_8e157_0 rfl rfl ?_
  refine X_if_lt dJ3_checkIndex_8e157_1 (tgt := 9) rfl (pc' := 4) rfl rv0 (fun c1 => ?_) (fun c1 => ?_)
  · have h := if_t c1 h
    cases h
  have h := if_f (Int.not_lt.mpr c1) h
  refine X_iload_n (pc' := 5) dJ3_checkIndex_8e157_4 rfl rfl ?_
  refine X_iload_n (pc' := 6) dJ3_checkIndex_8e157_5 rfl rfl ?_
  refine X_icmp_lt dJ3_checkIndex_8e157_6 (tgt := 16) rfl (pc' := 9) rfl ⟨rv0.1, rv0.2, rv1.1, rv1.2⟩ (fun c2 => ?_) (fun c2 => ?_)
  · have h := if_t c2 h
    refine X_iload_n (pc' := 17) dJ3_checkIndex_8e157_16 rfl rfl ?_
    cases h
    exact X_iret dJ3_checkIndex_8e157_17 rfl (k rv0)
  have h := if_f (Int.not_lt.mpr c2) h
  cases h
def fJ15_checkIndex_7cf53 (v0 : Int) (v1 : Int) (D : DD) : Option (Int) := (Option.bind (fJ3_checkIndex_8e157 (v0) (v1) D) fun r1 => some (r1))
set_option maxRecDepth 100000 in
theorem CJ15_checkIndex_7cf53 {ln : Nat} {D : DD} {z : ZZ} {v0 : Int} {v1 : Int} (hD : okD D) (rv0 : inR v0) (rv1 : inR v1) {p : Int} (h : fJ15_checkIndex_7cf53 v0 v1 D = some p) : XD mJ15_checkIndex_7cf53 0 (xEnt [.int (iN (v0)), .int (iN (v1))] (xL mJ15_checkIndex_7cf53)) [] ln D z (Qd (FdD D D (inR p)) (.inl (some (.int (iN p)))) (sD ln D z)) := by
  have k : K_r (Qd (FdD D D (inR p)) (.inl (some (.int (iN p)))) (sD ln D z)) ln D z p := fun a => ⟨⟨hD, DLe_refl D, a⟩, rfl, rfl⟩
  unfold fJ15_checkIndex_7cf53 at h
  refine E_ent (c1_i (c1_i c1_n)) (M := [some (.int (iN (v0))), some (.int (iN (v1)))]) rfl ?_
  refine X_iload_n (pc' := 1) dJ15_checkIndex_7cf53_0 rfl rfl ?_
  refine X_iload_n (pc' := 2) dJ15_checkIndex_7cf53_1 rfl rfl ?_
  refine E_null (pc' := 3) dJ15_checkIndex_7cf53_2 rfl ?_
  obtain ⟨r1, q1, h⟩ := bs h
  refine E_callS [.int (iN (v0)), .int (iN (v1)), rV (0)] (pc' := 6) dJ15_checkIndex_7cf53_3 rfl (xSn SJ15_105) (by decide) rfl (c1_i (c1_i (c1_r c1_n))) (cs rfl) c1_n (cs rfl) rfl hD (CJ3_checkIndex_8e157 hD rv0 rv1 q1) (fun a1 b1 f1 => ?_)
  cases h
  exact X_iret dJ15_checkIndex_7cf53_6 rfl (k f1)
def fJx4a65c_elementData_915e3 (v0 : Int) (v1 : Int) (D : DD) : Option (Int) := (if dO D (v0) 9 then (if dO D ((dW D (v0) 1)) 22 then (if (0 : Int) ≤ (v1) ∧ (v1 : Int) < ((dH D ((dW D (v0) 1))).2 : Int) then some ((dW D ((dW D (v0) 1)) (v1))) else none) else none) else none)
set_option maxRecDepth 100000 in
theorem CJx4a65c_elementData_915e3 {ln : Nat} {D : DD} {z : ZZ} {v0 : Int} {v1 : Int} (hD : okD D) (rv0 : gdV D v0) (rv1 : inR v1) {p : Int} (h : fJx4a65c_elementData_915e3 v0 v1 D = some p) : XD mJx4a65c_elementData_915e3 0 (xEnt [rV (v0), .int (iN (v1))] (xL mJx4a65c_elementData_915e3)) [] ln D z (Qd (FdD D D (gdV D p)) (.inl (some (rV p))) (sD ln D z)) := by
  have k : K_R (Qd (FdD D D (gdV D p)) (.inl (some (rV p))) (sD ln D z)) ln D z p := fun a => ⟨⟨hD, DLe_refl D, a⟩, rfl, rfl⟩
  unfold fJx4a65c_elementData_915e3 at h
  refine E_ent (c1_r (c1_i c1_n)) (M := [some (rV (v0)), some (.int (iN (v1)))]) rfl ?_
  refine E_aload_n (pc' := 1) dJx4a65c_elementData_915e3_0 rfl rfl ?_
  obtain ⟨g1, h⟩ := gs h
  refine E_getR (pc' := 4) dJx4a65c_elementData_915e3_1 rfl FJx4a65c_9_8 hD g1 rfl (j := 1) rfl ?_
  refine X_iload_n (pc' := 5) dJx4a65c_elementData_915e3_4 rfl rfl ?_
  obtain ⟨g2, h⟩ := gs h
  obtain ⟨g3, h⟩ := gs h
  refine E_aald (pc' := 6) dJx4a65c_elementData_915e3_5 rfl hD g2 g3 ?_
  cases h
  exact E_aret dJx4a65c_elementData_915e3_6 rfl (Or.inl ⟨_, rfl⟩) (k (Or.inl (gd_at hD g2 g3.1)))
def fJx4a65c_get_915e3 (v0 : Int) (v1 : Int) (D : DD) : Option (Int) := (if dO D (v0) 9 then (Option.bind (fJ15_checkIndex_7cf53 (v1) ((dW D (v0) 2)) D) fun r2 => (Option.bind (fJx4a65c_elementData_915e3 (v0) (v1) D) fun r3 => some (r3))) else none)
set_option maxRecDepth 100000 in
theorem CJx4a65c_get_915e3 {ln : Nat} {D : DD} {z : ZZ} {v0 : Int} {v1 : Int} (hD : okD D) (rv0 : gdV D v0) (rv1 : inR v1) {p : Int} (h : fJx4a65c_get_915e3 v0 v1 D = some p) : XD mJx4a65c_get_915e3 0 (xEnt [rV (v0), .int (iN (v1))] (xL mJx4a65c_get_915e3)) [] ln D z (Qd (FdD D D (gdV D p)) (.inl (some (rV p))) (sD ln D z)) := by
  have k : K_R (Qd (FdD D D (gdV D p)) (.inl (some (rV p))) (sD ln D z)) ln D z p := fun a => ⟨⟨hD, DLe_refl D, a⟩, rfl, rfl⟩
  unfold fJx4a65c_get_915e3 at h
  refine E_ent (c1_r (c1_i c1_n)) (M := [some (rV (v0)), some (.int (iN (v1)))]) rfl ?_
  refine X_iload_n (pc' := 1) dJx4a65c_get_915e3_0 rfl rfl ?_
  refine E_aload_n (pc' := 2) dJx4a65c_get_915e3_1 rfl rfl ?_
  obtain ⟨g1, h⟩ := gs h
  refine E_getI (pc' := 5) dJx4a65c_get_915e3_2 rfl FJx4a65c_48_8 hD g1 rfl (j := 2) rfl ?_
  obtain ⟨r2, q2, h⟩ := bs h
  refine E_callS [.int (iN (v1)), .int (iN ((dW D (v0) 2)))] (pc' := 8) dJx4a65c_get_915e3_5 rfl (xSn SJx4a65c_118) (by decide) rfl (c1_i (c1_i c1_n)) (cs rfl) c1_n (cs rfl) rfl hD (CJ15_checkIndex_7cf53 hD rv1 (in_slot (k := 2) hD g1 rfl (by decide)) q2) (fun a2 b2 f2 => ?_)
  refine X_pop (pc' := 9) dJx4a65c_get_915e3_8 rfl rfl ?_
  refine E_aload_n (pc' := 10) dJx4a65c_get_915e3_9 rfl rfl ?_
  refine X_iload_n (pc' := 11) dJx4a65c_get_915e3_10 rfl rfl ?_
  obtain ⟨r3, q3, h⟩ := bs h
  refine E_callV [.int (iN (v1))] (pc' := 14) dJx4a65c_get_915e3_11 rfl (xVc VJx4a65c_123) (by decide) ⟨dO_pos g1, dO_is hD g1 rfl⟩ rfl (c1_i c1_n) (cs rfl) c1_n (cs rfl) rfl hD (CJx4a65c_elementData_915e3 hD rv0 rv1 q3) (fun a3 b3 f3 => ?_)
  cases h
  exact E_aret dJx4a65c_get_915e3_14 rfl (Or.inl ⟨_, rfl⟩) (k f3)
def fX11_insertionSort_b64 (v0 : Int) (v1 : Int) (v2 : Int) (v4 : Int) (D : DD) : Option ((Int × DD) ⊕ (DD)) := some (.inl (v4, D))
set_option maxRecDepth 100000 in
theorem BX11_insertionSort_64 {ln : Nat} {D : DD} {z : ZZ} {v0 : Int} {v1 : Int} {v2 : Int} {v4 : Int} {Φ : xRes → xS → Prop} (hD : okD D) (rv0 : gdV D v0) (rv1 : inR v1) (rv2 : inR v2) (rv4 : inR v4) {p : (Int × DD) ⊕ (DD)} (h : fX11_insertionSort_b64 v0 v1 v2 v4 D = some p) (k1 : ∀ (v4' : Int) (D' : DD), p = .inl (v4', D') → okD D' → DLe D D' → inR v4' → XD mX11_insertionSort 3 [some (rV (v0)), some (.int (iN (v1))), some (.int (iN (v2))), none, some (.int (iN (v4'))), none] [] ln D' z Φ) (k2 : ∀ (D' : DD), p = .inr D' → okD D' → DLe D D' → XD mX11_insertionSort 67 [none, none, none, none, none, none] [] ln D' z Φ) : XD mX11_insertionSort 64 [some (rV (v0)), some (.int (iN (v1))), some (.int (iN (v2))), none, some (.int (iN (v4))), none] [] ln D z Φ := by
  unfold fX11_insertionSort_b64 at h
  refine X_goto dX11_insertionSort_64 (tgt := 3) rfl ?_
  cases h
  exact X_sub (sub_s (sub_s (sub_s (sub_n (sub_s (sub_n sub_0)))))) (k1 _ _ rfl hD (DLe_refl _) rv4)
def fX11_insertionSort_s30 (v0 : Int) (v1 : Int) (v2 : Int) (v4 : Int) (v5 : Int) (v3 : Int) (D : DD) : Option ((Int × DD) ⊕ (Int × DD)) := (if inR ((v3 + (-1))) then (if ((v3 + (-1))) < (v1) then some (.inr ((v3 + (-1)), D)) else (if dO D (v0) 20 then (if (0 : Int) ≤ ((v3 + (-1))) ∧ ((v3 + (-1)) : Int) < ((dH D (v0)).2 : Int) then (if (v5) < ((dW D (v0) ((v3 + (-1))))) then (if (0 : Int) ≤ (((v3 + (-1)) + 1)) ∧ (((v3 + (-1)) + 1) : Int) < ((dH D (v0)).2 : Int) then (zl (dup D (v0) (((v3 + (-1)) + 1)) ((dW D (v0) ((v3 + (-1)))))) fun D7 => some (.inl ((v3 + (-1)), D7))) else none) else some (.inr ((v3 + (-1)), D))) else none) else none)) else none)
set_option maxRecDepth 100000 in
theorem SX11_insertionSort_30 {ln : Nat} {D : DD} {z : ZZ} {v0 : Int} {v1 : Int} {v2 : Int} {v4 : Int} {v5 : Int} {v3 : Int} {Φ : xRes → xS → Prop} (hD : okD D) (rv0 : gdV D v0) (rv1 : inR v1) (rv2 : inR v2) (rv4 : inR v4) (rv5 : inR v5) (rv3 : inR v3) {p : (Int × DD) ⊕ (Int × DD)} (h : fX11_insertionSort_s30 v0 v1 v2 v4 v5 v3 D = some p) (k1 : ∀ (v3' : Int) (D' : DD), p = .inl (v3', D') → okD D' → DLe D D' → inR v3' → XD mX11_insertionSort 30 [some (rV (v0)), some (.int (iN (v1))), some (.int (iN (v2))), some (.int (iN (v3'))), some (.int (iN (v4))), some (.int (iN (v5)))] [] ln D' z Φ) (k2 : ∀ (v3' : Int) (D' : DD), p = .inr (v3', D') → okD D' → DLe D D' → inR v3' → XD mX11_insertionSort 57 [some (rV (v0)), some (.int (iN (v1))), some (.int (iN (v2))), some (.int (iN (v3'))), some (.int (iN (v4))), some (.int (iN (v5)))] [] ln D' z Φ) : XD mX11_insertionSort 30 [some (rV (v0)), some (.int (iN (v1))), some (.int (iN (v2))), some (.int (iN (v3))), some (.int (iN (v4))), some (.int (iN (v5)))] [] ln D z Φ := by
  unfold fX11_insertionSort_s30 at h
  refine X_iinc (pc' := 33) dX11_insertionSort_30 rfl rfl (Or.inr rfl) (L' := [some (rV (v0)), some (.int (iN (v1))), some (.int (iN (v2))), some (.int (iN (v3 + (-1)))), some (.int (iN (v4))), some (.int (iN (v5)))]) rfl ?_
  refine X_iload_n (pc' := 34) dX11_insertionSort_33 rfl rfl ?_
  refine X_iload_n (pc' := 35) dX11_insertionSort_34 rfl rfl ?_
  obtain ⟨g2, h⟩ := gs h
  refine X_icmp_lt dX11_insertionSort_35 (tgt := 57) rfl (pc' := 38) rfl ⟨g2.1, g2.2, rv1.1, rv1.2⟩ (fun c1 => ?_) (fun c1 => ?_)
  · have h := if_t c1 h
    cases h
    exact X_sub (sub_s (sub_s (sub_s (sub_s (sub_s (sub_s sub_0)))))) (k2 _ _ rfl hD (DLe_refl _) g2)
  have h := if_f (Int.not_lt.mpr c1) h
  refine X_iload (pc' := 40) dX11_insertionSort_38 rfl rfl ?_
  refine E_aload_n (pc' := 41) dX11_insertionSort_40 rfl rfl ?_
  refine X_iload_n (pc' := 42) dX11_insertionSort_41 rfl rfl ?_
  obtain ⟨g3, h⟩ := gs h
  obtain ⟨g4, h⟩ := gs h
  refine E_iald (pc' := 43) dX11_insertionSort_42 rfl hD g3 g4 ?_
  refine X_icmp_ge dX11_insertionSort_43 (tgt := 57) rfl (pc' := 46) rfl ⟨rv5.1, rv5.2, (in_at hD g3 (Or.inl rfl) g4.1).1, (in_at hD g3 (Or.inl rfl) g4.1).2⟩ (fun c5 => ?_) (fun c5 => ?_)
  · have h := if_f (Int.not_lt.mpr c5) h
    cases h
    exact X_sub (sub_s (sub_s (sub_s (sub_s (sub_s (sub_s sub_0)))))) (k2 _ _ rfl hD (DLe_refl _) g2)
  have h := if_t c5 h
  refine E_aload_n (pc' := 47) dX11_insertionSort_46 rfl rfl ?_
  refine X_iload_n (pc' := 48) dX11_insertionSort_47 rfl rfl ?_
  refine X_iconst (pc' := 49) dX11_insertionSort_48 rfl ?_
  refine X_iadd (pc' := 50) dX11_insertionSort_49 rfl ?_
  refine E_aload_n (pc' := 51) dX11_insertionSort_50 rfl rfl ?_
  refine X_iload_n (pc' := 52) dX11_insertionSort_51 rfl rfl ?_
  refine E_iald (pc' := 53) dX11_insertionSort_52 rfl hD g3 g4 ?_
  obtain ⟨g6, h⟩ := gs h
  refine E_iast (pc' := 54) dX11_insertionSort_53 rfl hD g3 g6 ?_
  obtain ⟨D7, e7, f7, h⟩ := zl_some (P := fun q => okD q ∧ DLe D q) h ⟨okD_dupJ hD g6.1 (okS_at20 g3 (in_at hD g3 (Or.inl rfl) g4.1)), DLe_dup _ _ _ _⟩
  rw [e7]
  refine X_goto dX11_insertionSort_54 (tgt := 30) rfl ?_
  cases h
  exact X_sub (sub_s (sub_s (sub_s (sub_s (sub_s (sub_s sub_0)))))) (k1 _ _ rfl f7.1 f7.2 g2)
theorem LX11_insertionSort_30 {ln : Nat} {z : ZZ} {v0 : Int} {v1 : Int} {v2 : Int} {v4 : Int} {v5 : Int} {Φ : xRes → xS → Prop} {r : Int × DD} : ∀ (n : Nat) (v3 : Int) (D : DD), okD D → gdV D v0 → inR v1 → inR v2 → inR v4 → inR v5 → inR v3 → zlp (fun q => fX11_insertionSort_s30 v0 v1 v2 v4 v5 q.1 q.2) n (v3, D) = some r → (∀ (v3' : Int) (D' : DD), r = (v3', D') → okD D' → DLe D D' → inR v3' → XD mX11_insertionSort 57 [some (rV (v0)), some (.int (iN (v1))), some (.int (iN (v2))), some (.int (iN (v3'))), some (.int (iN (v4))), some (.int (iN (v5)))] [] ln D' z Φ) → XD mX11_insertionSort 30 [some (rV (v0)), some (.int (iN (v1))), some (.int (iN (v2))), some (.int (iN (v3))), some (.int (iN (v4))), some (.int (iN (v5)))] [] ln D z Φ := by
  intro n
  induction n with
  | zero => intro v3 D hD rv0 rv1 rv2 rv4 rv5 rv3 h k2; cases h
  | succ n ih =>
    intro v3 D hD rv0 rv1 rv2 rv4 rv5 rv3 h k2
    rcases zlp_s h with ⟨⟨v3', D'⟩, e, h'⟩ | e
    · exact SX11_insertionSort_30 hD rv0 rv1 rv2 rv4 rv5 rv3 e (fun v3₁ D₁ hh a b f0 => by cases hh; exact ih _ _ a (gdV_le b rv0) rv1 rv2 rv4 rv5 f0 h' (fun x0 D9 hh a' b' y0 => k2 x0 D9 hh a' (DLe_trans b b') y0)) (fun x0 D9 hh => by cases hh)
    · exact SX11_insertionSort_30 hD rv0 rv1 rv2 rv4 rv5 rv3 e (fun v3₁ D₁ hh => by cases hh) (fun x0 D9 hh a b y0 => by cases hh; exact k2 _ _ rfl a b y0)
def fX11_insertionSort_s3 (v0 : Int) (v1 : Int) (v2 : Int) (v4 : Int) (D : DD) : Option ((Int × DD) ⊕ (DD)) := (if inR ((v4 + 1)) then (if ((v4 + 1)) < (v2) then (if dO D (v0) 20 then (if (0 : Int) ≤ ((v4 + 1)) ∧ ((v4 + 1) : Int) < ((dH D (v0)).2 : Int) then (if (0 : Int) ≤ (((v4 + 1) - 1)) ∧ (((v4 + 1) - 1) : Int) < ((dH D (v0)).2 : Int) then (if ((dW D (v0) ((v4 + 1)))) < ((dW D (v0) (((v4 + 1) - 1)))) then (Option.bind (zlp (fun q => fX11_insertionSort_s30 (v0) (v1) (v2) ((v4 + 1)) ((dW D (v0) ((v4 + 1)))) q.1 q.2) FU ((v4 + 1), D)) fun q7 => match q7 with | (x7_v3, D7) => (if (0 : Int) ≤ ((x7_v3 + 1)) ∧ ((x7_v3 + 1) : Int) < ((dH D7 (v0)).2 : Int) then (zl (dup D7 (v0) ((x7_v3 + 1)) ((dW D (v0) ((v4 + 1))))) fun D9 => fX11_insertionSort_b64 (v0) (v1) (v2) ((v4 + 1)) D9) else none)) else fX11_insertionSort_b64 (v0) (v1) (v2) ((v4 + 1)) D) else none) else none) else none) else some (.inr D)) else none)
set_option maxRecDepth 100000 in
theorem SX11_insertionSort_3 {ln : Nat} {D : DD} {z : ZZ} {v0 : Int} {v1 : Int} {v2 : Int} {v4 : Int} {Φ : xRes → xS → Prop} (hD : okD D) (rv0 : gdV D v0) (rv1 : inR v1) (rv2 : inR v2) (rv4 : inR v4) {p : (Int × DD) ⊕ (DD)} (h : fX11_insertionSort_s3 v0 v1 v2 v4 D = some p) (k1 : ∀ (v4' : Int) (D' : DD), p = .inl (v4', D') → okD D' → DLe D D' → inR v4' → XD mX11_insertionSort 3 [some (rV (v0)), some (.int (iN (v1))), some (.int (iN (v2))), none, some (.int (iN (v4'))), none] [] ln D' z Φ) (k2 : ∀ (D' : DD), p = .inr D' → okD D' → DLe D D' → XD mX11_insertionSort 67 [none, none, none, none, none, none] [] ln D' z Φ) : XD mX11_insertionSort 3 [some (rV (v0)), some (.int (iN (v1))), some (.int (iN (v2))), none, some (.int (iN (v4))), none] [] ln D z Φ := by
  unfold fX11_insertionSort_s3 at h
  refine X_iinc (pc' := 6) dX11_insertionSort_3 rfl rfl (Or.inr rfl) (L' := [some (rV (v0)), some (.int (iN (v1))), some (.int (iN (v2))), none, some (.int (iN (v4 + 1))), none]) rfl ?_
  refine X_iload (pc' := 8) dX11_insertionSort_6 rfl rfl ?_
  refine X_iload_n (pc' := 9) dX11_insertionSort_8 rfl rfl ?_
  obtain ⟨g2, h⟩ := gs h
  refine X_icmp_ge dX11_insertionSort_9 (tgt := 67) rfl (pc' := 12) rfl ⟨g2.1, g2.2, rv2.1, rv2.2⟩ (fun c1 => ?_) (fun c1 => ?_)
  · have h := if_f (Int.not_lt.mpr c1) h
    cases h
    exact X_sub (sub_n (sub_n (sub_n (sub_n (sub_n (sub_n sub_0)))))) (k2 _ rfl hD (DLe_refl _))
  have h := if_t c1 h
  refine E_aload_n (pc' := 13) dX11_insertionSort_12 rfl rfl ?_
  refine X_iload (pc' := 15) dX11_insertionSort_13 rfl rfl ?_
  refine X_dup (pc' := 16) dX11_insertionSort_15 rfl rfl ?_
  refine X_istore_n (pc' := 17) dX11_insertionSort_16 rfl (cl rfl) (Or.inr rfl) (L' := [some (rV (v0)), some (.int (iN (v1))), some (.int (iN (v2))), some (.int (iN ((v4 + 1)))), some (.int (iN ((v4 + 1)))), none]) rfl ?_
  obtain ⟨g3, h⟩ := gs h
  obtain ⟨g4, h⟩ := gs h
  refine E_iald (pc' := 18) dX11_insertionSort_17 rfl hD g3 g4 ?_
  refine X_istore (pc' := 20) dX11_insertionSort_18 rfl (cl rfl) (Or.inr rfl) (L' := [some (rV (v0)), some (.int (iN (v1))), some (.int (iN (v2))), some (.int (iN ((v4 + 1)))), some (.int (iN ((v4 + 1)))), some (.int (iN ((dW D (v0) ((v4 + 1))))))]) rfl ?_
  refine X_iload (pc' := 22) dX11_insertionSort_20 rfl rfl ?_
  refine E_aload_n (pc' := 23) dX11_insertionSort_22 rfl rfl ?_
  refine X_iload_n (pc' := 24) dX11_insertionSort_23 rfl rfl ?_
  refine X_iconst (pc' := 25) dX11_insertionSort_24 rfl ?_
  refine X_isub (pc' := 26) dX11_insertionSort_25 rfl ?_
  obtain ⟨g5, h⟩ := gs h
  refine E_iald (pc' := 27) dX11_insertionSort_26 rfl hD g3 g5 ?_
  refine X_icmp_ge dX11_insertionSort_27 (tgt := 64) rfl (pc' := 30) rfl ⟨(in_at hD g3 (Or.inl rfl) g4.1).1, (in_at hD g3 (Or.inl rfl) g4.1).2, (in_at hD g3 (Or.inl rfl) g5.1).1, (in_at hD g3 (Or.inl rfl) g5.1).2⟩ (fun c6 => ?_) (fun c6 => ?_)
  · have h := if_f (Int.not_lt.mpr c6) h
    exact X_sub (sub_s (sub_s (sub_s (sub_n (sub_s (sub_n sub_0)))))) (BX11_insertionSort_64 hD rv0 rv1 rv2 g2 h (fun x0 D9 hh a b f0 => k1 x0 D9 hh a (DLe_trans (DLe_refl _) b) f0) (fun D9 hh a b => k2 D9 hh a (DLe_trans (DLe_refl _) b)))
  have h := if_t c6 h
  obtain ⟨⟨x7_v3, D7⟩, q7, h⟩ := bs h
  refine X_sub (sub_s (sub_s (sub_s (sub_s (sub_s (sub_s sub_0)))))) (LX11_insertionSort_30 FU _ _ hD rv0 rv1 rv2 g2 (in_at hD g3 (Or.inl rfl) g4.1) g2 q7 (fun x7_v3₁ D7₁ hh hD7 le7 rx7_v3 => ?_))
  cases hh
  refine E_aload_n (pc' := 58) dX11_insertionSort_57 rfl rfl ?_
  refine X_iload_n (pc' := 59) dX11_insertionSort_58 rfl rfl ?_
  refine X_iconst (pc' := 60) dX11_insertionSort_59 rfl ?_
  refine X_iadd (pc' := 61) dX11_insertionSort_60 rfl ?_
  refine X_iload (pc' := 63) dX11_insertionSort_61 rfl rfl ?_
  obtain ⟨g8, h⟩ := gs h
  refine E_iast (pc' := 64) dX11_insertionSort_63 rfl hD7 (dO_le le7 g3) g8 ?_
  obtain ⟨D9, e9, f9, h⟩ := zl_some (P := fun q => okD q ∧ DLe D7 q) h ⟨okD_dupJ hD7 g8.1 (okS_at20 (dO_le le7 g3) (in_at hD g3 (Or.inl rfl) g4.1)), DLe_dup _ _ _ _⟩
  rw [e9]
  exact X_sub (sub_s (sub_s (sub_s (sub_n (sub_s (sub_n sub_0)))))) (BX11_insertionSort_64 f9.1 (gdV_le f9.2 (gdV_le le7 rv0)) rv1 rv2 g2 h (fun x0 D9 hh a b f0 => k1 x0 D9 hh a (DLe_trans (DLe_trans le7 f9.2) b) f0) (fun D9 hh a b => k2 D9 hh a (DLe_trans (DLe_trans le7 f9.2) b)))
theorem LX11_insertionSort_3 {ln : Nat} {z : ZZ} {v0 : Int} {v1 : Int} {v2 : Int} {Φ : xRes → xS → Prop} {r : DD} : ∀ (n : Nat) (v4 : Int) (D : DD), okD D → gdV D v0 → inR v1 → inR v2 → inR v4 → zlp (fun q => fX11_insertionSort_s3 v0 v1 v2 q.1 q.2) n (v4, D) = some r → (∀ (D' : DD), r = D' → okD D' → DLe D D' → XD mX11_insertionSort 67 [none, none, none, none, none, none] [] ln D' z Φ) → XD mX11_insertionSort 3 [some (rV (v0)), some (.int (iN (v1))), some (.int (iN (v2))), none, some (.int (iN (v4))), none] [] ln D z Φ := by
  intro n
  induction n with
  | zero => intro v4 D hD rv0 rv1 rv2 rv4 h k2; cases h
  | succ n ih =>
    intro v4 D hD rv0 rv1 rv2 rv4 h k2
    rcases zlp_s h with ⟨⟨v4', D'⟩, e, h'⟩ | e
    · exact SX11_insertionSort_3 hD rv0 rv1 rv2 rv4 e (fun v4₁ D₁ hh a b f0 => by cases hh; exact ih _ _ a (gdV_le b rv0) rv1 rv2 f0 h' (fun D9 hh a' b' => k2 D9 hh a' (DLe_trans b b'))) (fun D9 hh => by cases hh)
    · exact SX11_insertionSort_3 hD rv0 rv1 rv2 rv4 e (fun v4₁ D₁ hh => by cases hh) (fun D9 hh a b => by cases hh; exact k2 _ rfl a b )
def fX11_insertionSort (v0 : Int) (v1 : Int) (v2 : Int) (D : DD) : Option (DD) := (Option.bind (zlp (fun q => fX11_insertionSort_s3 (v0) (v1) (v2) q.1 q.2) FU (v1, D)) fun D1 => some D1)
set_option maxRecDepth 100000 in
theorem CX11_insertionSort {ln : Nat} {D : DD} {z : ZZ} {v0 : Int} {v1 : Int} {v2 : Int} (hD : okD D) (rv0 : gdV D v0) (rv1 : inR v1) (rv2 : inR v2) {p : DD} (h : fX11_insertionSort v0 v1 v2 D = some p) : XD mX11_insertionSort 0 (xEnt [rV (v0), .int (iN (v1)), .int (iN (v2))] (xL mX11_insertionSort)) [] ln D z (Qd (FdD D p (True)) (.inl (none)) (sD ln p z)) := by
  have k : K_w (Qd (FdD D p (True)) (.inl (none)) (sD ln p z)) ln D z p := fun a b c => ⟨⟨a, b, c⟩, rfl, rfl⟩
  unfold fX11_insertionSort at h
  refine E_ent (c1_r (c1_i (c1_i c1_n))) (M := [some (rV (v0)), some (.int (iN (v1))), some (.int (iN (v2))), none, none, none]) rfl ?_
  refine X_iload_n (pc' := 1) dX11_insertionSort_0 rfl rfl ?_
  refine X_istore (pc' := 3) dX11_insertionSort_1 rfl (cl rfl) (Or.inr rfl) (L' := [some (rV (v0)), some (.int (iN (v1))), some (.int (iN (v2))), none, some (.int (iN (v1))), none]) rfl ?_
  obtain ⟨D1, q1, h⟩ := bs h
  refine X_sub (sub_s (sub_s (sub_s (sub_n (sub_s (sub_n sub_0)))))) (LX11_insertionSort_3 FU _ _ hD rv0 rv1 rv2 rv1 q1 (fun D1₁ hh hD1 le1 => ?_))
  cases hh
  cases h
  exact X_vret dX11_insertionSort_67 rfl (k hD1 le1 trivial)
def fX11_sort__b46 (v1 : Int) (v2 : Int) (v3 : Int) (v4 : Int) (v6 : Int) (D : DD) : Option (DD) := (if (v6) < (44) then (Option.bind (fX11_insertionSort (v1) (v3) (v4) D) fun D2 => some D2) else none)
set_option maxRecDepth 100000 in
theorem BX11_sort__46 {ln : Nat} {D : DD} {z : ZZ} {v1 : Int} {v2 : Int} {v3 : Int} {v4 : Int} {v6 : Int} {Φ : xRes → xS → Prop} (hD : okD D) (rv1 : gdV D v1) (rv2 : inR v2) (rv3 : inR v3) (rv4 : inR v4) (rv6 : inR v6) {p : DD} (h : fX11_sort__b46 v1 v2 v3 v4 v6 D = some p) (k : K_w Φ ln D z p) : XD mX11_sort_ 46 [none, some (rV (v1)), some (.int (iN (v2))), some (.int (iN (v3))), some (.int (iN (v4))), none, some (.int (iN (v6))), none, none, none, none, none, none, none, none, none, none, none, none, none, none] [] ln D z Φ := by
  unfold fX11_sort__b46 at h
  refine X_iload (pc' := 48) dX11_sort__46 rfl rfl ?_
  refine X_bipush (pc' := 50) dX11_sort__48 rfl (by decide) ?_
  refine X_icmp_ge dX11_sort__50 (tgt := 61) rfl (pc' := 53) rfl ⟨rv6.1, rv6.2, (inR_c (n := 44) rfl).1, (inR_c (n := 44) rfl).2⟩ (fun c1 => ?_) (fun c1 => ?_)
  · have h := if_f (Int.not_lt.mpr c1) h
    cases h
  have h := if_t c1 h
  refine E_aload_n (pc' := 54) dX11_sort__53 rfl rfl ?_
  refine X_iload_n (pc' := 55) dX11_sort__54 rfl rfl ?_
  refine X_iload (pc' := 57) dX11_sort__55 rfl rfl ?_
  obtain ⟨D2, q2, h⟩ := bs h
  refine E_callS [rV (v1), .int (iN (v3)), .int (iN (v4))] (pc' := 60) dX11_sort__57 rfl (xSn SX11_34) (by decide) rfl (c1_r (c1_i (c1_i c1_n))) (cs rfl) c1_n (cs rfl) rfl hD (CX11_insertionSort hD rv1 rv3 rv4 q2) (fun a2 b2 f2 => ?_)
  cases h
  exact X_vret dX11_sort__60 rfl (k a2 b2 trivial)
def fX11_sort_ (v0 : Int) (v1 : Int) (v2 : Int) (v3 : Int) (v4 : Int) (D : DD) : Option (DD) := (if inR ((v4 - v3)) then (if inR ((65 + v2)) then (if ((v4 - v3)) < ((65 + v2)) then (if (0) < ((zand v2 1)) then none else fX11_sort__b46 (v1) (v2) (v3) (v4) ((v4 - v3)) D) else fX11_sort__b46 (v1) (v2) (v3) (v4) ((v4 - v3)) D) else none) else none)
set_option maxRecDepth 100000 in
theorem CX11_sort_ {ln : Nat} {D : DD} {z : ZZ} {v0 : Int} {v1 : Int} {v2 : Int} {v3 : Int} {v4 : Int} (hD : okD D) (rv0 : gdV D v0) (rv1 : gdV D v1) (rv2 : inR v2) (rv3 : inR v3) (rv4 : inR v4) {p : DD} (h : fX11_sort_ v0 v1 v2 v3 v4 D = some p) : XD mX11_sort_ 0 (xEnt [rV (v0), rV (v1), .int (iN (v2)), .int (iN (v3)), .int (iN (v4))] (xL mX11_sort_)) [] ln D z (Qd (FdD D p (True)) (.inl (none)) (sD ln p z)) := by
  have k : K_w (Qd (FdD D p (True)) (.inl (none)) (sD ln p z)) ln D z p := fun a b c => ⟨⟨a, b, c⟩, rfl, rfl⟩
  unfold fX11_sort_ at h
  refine E_ent (c1_r (c1_r (c1_i (c1_i (c1_i c1_n))))) (M := [some (rV (v0)), some (rV (v1)), some (.int (iN (v2))), some (.int (iN (v3))), some (.int (iN (v4))), none, none, none, none, none, none, none, none, none, none, none, none, none, none, none, none]) rfl ?_
  refine X_iload (pc' := 2) dX11_sort__0 rfl rfl ?_
  refine X_iconst (pc' := 3) dX11_sort__2 rfl ?_
  refine X_isub (pc' := 4) dX11_sort__3 rfl ?_
  refine X_istore (pc' := 6) dX11_sort__4 rfl (cl rfl) (Or.inr rfl) (L' := [some (rV (v0)), some (rV (v1)), some (.int (iN (v2))), some (.int (iN (v3))), some (.int (iN (v4))), some (.int (iN ((v4 - 1)))), none, none, none, none, none, none, none, none, none, none, none, none, none, none, none]) rfl ?_
  refine X_iload (pc' := 8) dX11_sort__6 rfl rfl ?_
  refine X_iload_n (pc' := 9) dX11_sort__8 rfl rfl ?_
  refine X_isub (pc' := 10) dX11_sort__9 rfl ?_
  refine X_istore (pc' := 12) dX11_sort__10 rfl (cl rfl) (Or.inr rfl) (L' := [some (rV (v0)), some (rV (v1)), some (.int (iN (v2))), some (.int (iN (v3))), some (.int (iN (v4))), some (.int (iN ((v4 - 1)))), some (.int (iN ((v4 - v3)))), none, none, none, none, none, none, none, none, none, none, none, none, none, none]) rfl ?_
  refine X_iload (pc' := 14) dX11_sort__12 rfl rfl ?_
  refine X_bipush (pc' := 16) dX11_sort__14 rfl (by decide) ?_
  refine X_iload_n (pc' := 17) dX11_sort__16 rfl rfl ?_
  refine X_iadd (pc' := 18) dX11_sort__17 rfl ?_
  obtain ⟨g2, h⟩ := gs h
  obtain ⟨g3, h⟩ := gs h
  refine X_icmp_ge dX11_sort__18 (tgt := 46) rfl (pc' := 21) rfl ⟨g2.1, g2.2, g3.1, g3.2⟩ (fun c1 => ?_) (fun c1 => ?_)
  · have h := if_f (Int.not_lt.mpr c1) h
    exact X_sub (sub_n (sub_s (sub_s (sub_s (sub_s (sub_n (sub_s (sub_n (sub_n (sub_n (sub_n (sub_n (sub_n (sub_n (sub_n (sub_n (sub_n (sub_n (sub_n (sub_n (sub_n sub_0))))))))))))))))))))) (BX11_sort__46 hD rv1 rv2 rv3 rv4 g2 h (fun a b c => k a (DLe_trans (DLe_refl _) b) c))
  have h := if_t c1 h
  refine X_iload_n (pc' := 22) dX11_sort__21 rfl rfl ?_
  refine X_iconst (pc' := 23) dX11_sort__22 rfl ?_
  refine X_iand (pc' := 24) dX11_sort__23 rfl ?_
  refine X_if_le dX11_sort__24 (tgt := 46) rfl (pc' := 27) rfl (inR_zand _ _) (fun c4 => ?_) (fun c4 => ?_)
  · have h := if_f (Int.not_lt.mpr c4) h
    exact X_sub (sub_n (sub_s (sub_s (sub_s (sub_s (sub_n (sub_s (sub_n (sub_n (sub_n (sub_n (sub_n (sub_n (sub_n (sub_n (sub_n (sub_n (sub_n (sub_n (sub_n (sub_n sub_0))))))))))))))))))))) (BX11_sort__46 hD rv1 rv2 rv3 rv4 g2 h (fun a b c => k a (DLe_trans (DLe_refl _) b) c))
  have h := if_t c4 h
  cases h
def fX11_sort (v0 : Int) (v1 : Int) (v2 : Int) (v3 : Int) (D : DD) : Option (DD) := (if (1) < (v1) then none else (Option.bind (fX11_sort_ (0) (v0) (0) (v2) (v3) D) fun D2 => some D2))
set_option maxRecDepth 100000 in
theorem CX11_sort {ln : Nat} {D : DD} {z : ZZ} {v0 : Int} {v1 : Int} {v2 : Int} {v3 : Int} (hD : okD D) (rv0 : gdV D v0) (rv1 : inR v1) (rv2 : inR v2) (rv3 : inR v3) {p : DD} (h : fX11_sort v0 v1 v2 v3 D = some p) : XD mX11_sort 0 (xEnt [rV (v0), .int (iN (v1)), .int (iN (v2)), .int (iN (v3))] (xL mX11_sort)) [] ln D z (Qd (FdD D p (True)) (.inl (none)) (sD ln p z)) := by
  have k : K_w (Qd (FdD D p (True)) (.inl (none)) (sD ln p z)) ln D z p := fun a b c => ⟨⟨a, b, c⟩, rfl, rfl⟩
  unfold fX11_sort at h
  refine E_ent (c1_r (c1_i (c1_i (c1_i c1_n)))) (M := [some (rV (v0)), some (.int (iN (v1))), some (.int (iN (v2))), some (.int (iN (v3))), none, none, none]) rfl ?_
  refine X_iload_n (pc' := 1) dX11_sort_0 rfl rfl ?_
  refine X_iload_n (pc' := 2) dX11_sort_1 rfl rfl ?_
  refine X_isub (pc' := 3) dX11_sort_2 rfl ?_
  refine X_istore (pc' := 5) dX11_sort_3 rfl (cl rfl) (Or.inr rfl) (L' := [some (rV (v0)), some (.int (iN (v1))), some (.int (iN (v2))), some (.int (iN (v3))), some (.int (iN ((v3 - v2)))), none, none]) rfl ?_
  refine X_iload_n (pc' := 6) dX11_sort_5 rfl rfl ?_
  refine X_iconst (pc' := 7) dX11_sort_6 rfl ?_
  refine X_icmp_le dX11_sort_7 (tgt := 68) rfl (pc' := 10) rfl ⟨rv1.1, rv1.2, (inR_c (n := 1) rfl).1, (inR_c (n := 1) rfl).2⟩ (fun c1 => ?_) (fun c1 => ?_)
  · have h := if_f (Int.not_lt.mpr c1) h
    refine E_null (pc' := 69) dX11_sort_68 rfl ?_
    refine E_aload_n (pc' := 70) dX11_sort_69 rfl rfl ?_
    refine X_iconst (pc' := 71) dX11_sort_70 rfl ?_
    refine X_iload_n (pc' := 72) dX11_sort_71 rfl rfl ?_
    refine X_iload_n (pc' := 73) dX11_sort_72 rfl rfl ?_
    obtain ⟨D2, q2, h⟩ := bs h
    refine E_callS [rV (0), rV (v0), .int (iN (0)), .int (iN (v2)), .int (iN (v3))] (pc' := 76) dX11_sort_73 rfl (xSn SX11_26) (by decide) rfl (c1_r (c1_r (c1_i (c1_i (c1_i c1_n))))) (cs rfl) c1_n (cs rfl) rfl hD (CX11_sort_ hD (Or.inl (Or.inl rfl)) rv0 (inR_c (n := 0) rfl) rv2 rv3 q2) (fun a2 b2 f2 => ?_)
    cases h
    exact X_vret dX11_sort_76 rfl (k a2 b2 trivial)
  have h := if_t c1 h
  cases h
def fJ7_sort_2022b (v0 : Int) (D : DD) : Option (DD) := (if isArr D (v0) then (Option.bind (fX11_sort (v0) (0) (0) ((alen D (v0))) D) fun D2 => some D2) else none)
set_option maxRecDepth 100000 in
theorem CJ7_sort_2022b {ln : Nat} {D : DD} {z : ZZ} {v0 : Int} (hD : okD D) (rv0 : gdV D v0) {p : DD} (h : fJ7_sort_2022b v0 D = some p) : XD mJ7_sort_2022b 0 (xEnt [rV (v0)] (xL mJ7_sort_2022b)) [] ln D z (Qd (FdD D p (True)) (.inl (none)) (sD ln p z)) := by
  have k : K_w (Qd (FdD D p (True)) (.inl (none)) (sD ln p z)) ln D z p := fun a b c => ⟨⟨a, b, c⟩, rfl, rfl⟩
  unfold fJ7_sort_2022b at h
  refine E_ent (c1_r c1_n) (M := [some (rV (v0))]) rfl ?_
  refine E_aload_n (pc' := 1) dJ7_sort_2022b_0 rfl rfl ?_
  refine X_iconst (pc' := 2) dJ7_sort_2022b_1 rfl ?_
  refine X_iconst (pc' := 3) dJ7_sort_2022b_2 rfl ?_
  refine E_aload_n (pc' := 4) dJ7_sort_2022b_3 rfl rfl ?_
  obtain ⟨g1, h⟩ := gs h
  refine E_alenA (pc' := 5) dJ7_sort_2022b_4 rfl hD g1 ?_
  obtain ⟨D2, q2, h⟩ := bs h
  refine E_callS [rV (v0), .int (iN (0)), .int (iN (0)), .int (iN ((alen D (v0))))] (pc' := 8) dJ7_sort_2022b_5 rfl (xSn SJ7_7) (by decide) rfl (c1_r (c1_i (c1_i (c1_i c1_n)))) (cs rfl) c1_n (cs rfl) rfl hD (CX11_sort hD rv0 (inR_c (n := 0) rfl) (inR_c (n := 0) rfl) (in_alen hD g1) q2) (fun a2 b2 f2 => ?_)
  cases h
  exact X_vret dJ7_sort_2022b_8 rfl (k a2 b2 trivial)
def fJx4a65c_fastRemove_b59b0_b34 (v0 : Int) (v1 : Int) (v3 : Int) (D : DD) : Option (DD) := (if dO D (v0) 9 then (zl (dup D (v0) 2 (v3)) fun D2 => (if dO D2 (v1) 22 then (if (0 : Int) ≤ (v3) ∧ (v3 : Int) < ((dH D2 (v1)).2 : Int) then (if gdE D2 (0) then (zl (dup D2 (v1) (v3) (0)) fun D6 => some D6) else none) else none) else none)) else none)
set_option maxRecDepth 100000 in
theorem BJx4a65c_fastRemove_b59b0_34 {ln : Nat} {D : DD} {z : ZZ} {v0 : Int} {v1 : Int} {v3 : Int} {Φ : xRes → xS → Prop} (hD : okD D) (rv0 : gdV D v0) (rv1 : gdV D v1) (rv3 : inR v3) {p : DD} (h : fJx4a65c_fastRemove_b59b0_b34 v0 v1 v3 D = some p) (k : K_w Φ ln D z p) : XD mJx4a65c_fastRemove_b59b0 34 [some (rV (v0)), some (rV (v1)), none, some (.int (iN (v3)))] [] ln D z Φ := by
  unfold fJx4a65c_fastRemove_b59b0_b34 at h
  refine E_aload_n (pc' := 35) dJx4a65c_fastRemove_b59b0_34 rfl rfl ?_
  refine E_aload_n (pc' := 36) dJx4a65c_fastRemove_b59b0_35 rfl rfl ?_
  refine X_iload_n (pc' := 37) dJx4a65c_fastRemove_b59b0_36 rfl rfl ?_
  refine X_dup_x1 (pc' := 38) dJx4a65c_fastRemove_b59b0_37 rfl rfl (rV_cat _) ?_
  obtain ⟨g1, h⟩ := gs h
  refine E_putI (pc' := 41) dJx4a65c_fastRemove_b59b0_38 rfl FJx4a65c_48_8 hD g1 rfl (fun r hr => by cases hr; exact Or.inl rfl) (xFit_int _) (j := 2) rfl ?_
  obtain ⟨D2, e2, f2, h⟩ := zl_some (P := fun q => okD q ∧ DLe D q) h ⟨okD_dup (k := 2) hD (okS_I g1 rfl (by decide) (by decide) rv3), DLe_dup _ _ _ _⟩
  rw [e2]
  refine E_null (pc' := 42) dJx4a65c_fastRemove_b59b0_41 rfl ?_
  obtain ⟨g3, h⟩ := gs h
  obtain ⟨g4, h⟩ := gs h
  obtain ⟨g5, h⟩ := gs h
  refine E_aast (pc' := 43) dJx4a65c_fastRemove_b59b0_42 rfl f2.1 g3 g4 g5 ?_
  obtain ⟨D6, e6, f6, h⟩ := zl_some (P := fun q => okD q ∧ DLe D2 q) h ⟨okD_dupJ f2.1 g4.1 (okS_at22 g3 g5), DLe_dup _ _ _ _⟩
  rw [e6]
  cases h
  exact X_vret dJx4a65c_fastRemove_b59b0_43 rfl (k f6.1 (DLe_trans f2.2 f6.2) trivial)
def fJx4a65c_fastRemove_b59b0 (v0 : Int) (v1 : Int) (v2 : Int) (D : DD) : Option (DD) := (if dO D (v0) 9 then (if inR (((dW D (v0) 0) + 1)) then (zl (dup D (v0) 0 (((dW D (v0) 0) + 1))) fun D3 => (if inR (((dW D3 (v0) 2) - 1)) then (if (v2) < (((dW D3 (v0) 2) - 1)) then (if dO D3 (v1) 22 then (if (0 : Int) ≤ ((v2 + 1)) ∧ (0 : Int) ≤ (v2) ∧ 0 ≤ ((((dW D3 (v0) 2) - 1) - v2)) ∧ ((v2 + 1)) + ((((dW D3 (v0) 2) - 1) - v2)) ≤ ((dH D3 (v1)).2 : Int) ∧ (v2) + ((((dW D3 (v0) 2) - 1) - v2)) ≤ ((dH D3 (v1)).2 : Int) then (zl (dcpy D3 (v1) (v1) ((v2 + 1)) (v2) ((((dW D3 (v0) 2) - 1) - v2))) fun D8 => fJx4a65c_fastRemove_b59b0_b34 (v0) (v1) (((dW D3 (v0) 2) - 1)) D8) else none) else none) else fJx4a65c_fastRemove_b59b0_b34 (v0) (v1) (((dW D3 (v0) 2) - 1)) D3) else none)) else none) else none)
set_option maxRecDepth 100000 in
theorem CJx4a65c_fastRemove_b59b0 {ln : Nat} {D : DD} {z : ZZ} {v0 : Int} {v1 : Int} {v2 : Int} (hD : okD D) (rv0 : gdV D v0) (rv1 : gdV D v1) (rv2 : inR v2) {p : DD} (h : fJx4a65c_fastRemove_b59b0 v0 v1 v2 D = some p) : XD mJx4a65c_fastRemove_b59b0 0 (xEnt [rV (v0), rV (v1), .int (iN (v2))] (xL mJx4a65c_fastRemove_b59b0)) [] ln D z (Qd (FdD D p (True)) (.inl (none)) (sD ln p z)) := by
  have k : K_w (Qd (FdD D p (True)) (.inl (none)) (sD ln p z)) ln D z p := fun a b c => ⟨⟨a, b, c⟩, rfl, rfl⟩
  unfold fJx4a65c_fastRemove_b59b0 at h
  refine E_ent (c1_r (c1_r (c1_i c1_n))) (M := [some (rV (v0)), some (rV (v1)), some (.int (iN (v2))), none]) rfl ?_
  refine E_aload_n (pc' := 1) dJx4a65c_fastRemove_b59b0_0 rfl rfl ?_
  refine X_dup (pc' := 2) dJx4a65c_fastRemove_b59b0_1 rfl (rV_cat _) ?_
  obtain ⟨g1, h⟩ := gs h
  refine E_getI (pc' := 5) dJx4a65c_fastRemove_b59b0_2 rfl FJx4a65c_63_8 hD g1 rfl (j := 0) rfl ?_
  refine X_iconst (pc' := 6) dJx4a65c_fastRemove_b59b0_5 rfl ?_
  refine X_iadd (pc' := 7) dJx4a65c_fastRemove_b59b0_6 rfl ?_
  obtain ⟨g2, h⟩ := gs h
  refine E_putI (pc' := 10) dJx4a65c_fastRemove_b59b0_7 rfl FJx4a65c_63_8 hD g1 rfl (fun r hr => by cases hr; exact Or.inl rfl) (xFit_int _) (j := 0) rfl ?_
  obtain ⟨D3, e3, f3, h⟩ := zl_some (P := fun q => okD q ∧ DLe D q) h ⟨okD_dup (k := 0) hD (okS_I g1 rfl (by decide) (by decide) g2), DLe_dup _ _ _ _⟩
  rw [e3]
  refine E_aload_n (pc' := 11) dJx4a65c_fastRemove_b59b0_10 rfl rfl ?_
  refine E_getI (pc' := 14) dJx4a65c_fastRemove_b59b0_11 rfl FJx4a65c_48_8 f3.1 (dO_le f3.2 g1) rfl (j := 2) rfl ?_
  refine X_iconst (pc' := 15) dJx4a65c_fastRemove_b59b0_14 rfl ?_
  refine X_isub (pc' := 16) dJx4a65c_fastRemove_b59b0_15 rfl ?_
  refine X_dup (pc' := 17) dJx4a65c_fastRemove_b59b0_16 rfl rfl ?_
  refine X_istore_n (pc' := 18) dJx4a65c_fastRemove_b59b0_17 rfl (cl rfl) (Or.inr rfl) (L' := [some (rV (v0)), some (rV (v1)), some (.int (iN (v2))), some (.int (iN (((dW D3 (v0) 2) - 1))))]) rfl ?_
  refine X_iload_n (pc' := 19) dJx4a65c_fastRemove_b59b0_18 rfl rfl ?_
  obtain ⟨g5, h⟩ := gs h
  refine X_icmp_le dJx4a65c_fastRemove_b59b0_19 (tgt := 34) rfl (pc' := 22) rfl ⟨g5.1, g5.2, rv2.1, rv2.2⟩ (fun c4 => ?_) (fun c4 => ?_)
  · have h := if_f (Int.not_lt.mpr c4) h
    exact X_sub (sub_s (sub_s (sub_n (sub_s sub_0)))) (BJx4a65c_fastRemove_b59b0_34 f3.1 (gdV_le f3.2 rv0) (gdV_le f3.2 rv1) g5 h (fun a b c => k a (DLe_trans f3.2 b) c))
  have h := if_t c4 h
  refine E_aload_n (pc' := 23) dJx4a65c_fastRemove_b59b0_22 rfl rfl ?_
  refine X_iload_n (pc' := 24) dJx4a65c_fastRemove_b59b0_23 rfl rfl ?_
  refine X_iconst (pc' := 25) dJx4a65c_fastRemove_b59b0_24 rfl ?_
  refine X_iadd (pc' := 26) dJx4a65c_fastRemove_b59b0_25 rfl ?_
  refine E_aload_n (pc' := 27) dJx4a65c_fastRemove_b59b0_26 rfl rfl ?_
  refine X_iload_n (pc' := 28) dJx4a65c_fastRemove_b59b0_27 rfl rfl ?_
  refine X_iload_n (pc' := 29) dJx4a65c_fastRemove_b59b0_28 rfl rfl ?_
  refine X_iload_n (pc' := 30) dJx4a65c_fastRemove_b59b0_29 rfl rfl ?_
  refine X_isub (pc' := 31) dJx4a65c_fastRemove_b59b0_30 rfl ?_
  obtain ⟨g6, h⟩ := gs h
  obtain ⟨g7, h⟩ := gs h
  refine E_copyO (pc' := 34) dJx4a65c_fastRemove_b59b0_31 rfl tq1877 tq409 tq408 tq12 c1_n (cs rfl) f3.1 g6 g6 g7 ?_
  obtain ⟨D8, e8, f8, h⟩ := zl_some (P := fun q => okD q ∧ DLe D3 q) h ⟨okD_dcpy f3.1 g6 g6.2.2 (by decide) g7.1, DLe_dcpy _ _ _ _ _ _⟩
  rw [e8]
  exact X_sub (sub_s (sub_s (sub_n (sub_s sub_0)))) (BJx4a65c_fastRemove_b59b0_34 f8.1 (gdV_le f8.2 (gdV_le f3.2 rv0)) (gdV_le f8.2 (gdV_le f3.2 rv1)) g5 h (fun a b c => k a (DLe_trans (DLe_trans f3.2 f8.2) b) c))
def fJx4a65c_remove_915e3 (v0 : Int) (v1 : Int) (D : DD) : Option (Int × DD) := (if dO D (v0) 9 then (Option.bind (fJ15_checkIndex_7cf53 (v1) ((dW D (v0) 2)) D) fun r2 => (if dO D ((dW D (v0) 1)) 22 then (if (0 : Int) ≤ (v1) ∧ (v1 : Int) < ((dH D ((dW D (v0) 1))).2 : Int) then (Option.bind (fJx4a65c_fastRemove_b59b0 (v0) ((dW D (v0) 1)) (v1) D) fun D5 => some ((dW D ((dW D (v0) 1)) (v1)), D5)) else none) else none)) else none)
set_option maxRecDepth 100000 in
theorem CJx4a65c_remove_915e3 {ln : Nat} {D : DD} {z : ZZ} {v0 : Int} {v1 : Int} (hD : okD D) (rv0 : gdV D v0) (rv1 : inR v1) {p : Int × DD} (h : fJx4a65c_remove_915e3 v0 v1 D = some p) : XD mJx4a65c_remove_915e3 0 (xEnt [rV (v0), .int (iN (v1))] (xL mJx4a65c_remove_915e3)) [] ln D z (Qd (FdD D p.2 (gdV p.2 p.1)) (.inl (some (rV p.1))) (sD ln p.2 z)) := by
  have k : K_wR (Qd (FdD D p.2 (gdV p.2 p.1)) (.inl (some (rV p.1))) (sD ln p.2 z)) ln D z p := fun a b c => ⟨⟨a, b, c⟩, rfl, rfl⟩
  unfold fJx4a65c_remove_915e3 at h
  refine E_ent (c1_r (c1_i c1_n)) (M := [some (rV (v0)), some (.int (iN (v1))), none, none]) rfl ?_
  refine X_iload_n (pc' := 1) dJx4a65c_remove_915e3_0 rfl rfl ?_
  refine E_aload_n (pc' := 2) dJx4a65c_remove_915e3_1 rfl rfl ?_
  obtain ⟨g1, h⟩ := gs h
  refine E_getI (pc' := 5) dJx4a65c_remove_915e3_2 rfl FJx4a65c_48_8 hD g1 rfl (j := 2) rfl ?_
  obtain ⟨r2, q2, h⟩ := bs h
  refine E_callS [.int (iN (v1)), .int (iN ((dW D (v0) 2)))] (pc' := 8) dJx4a65c_remove_915e3_5 rfl (xSn SJx4a65c_118) (by decide) rfl (c1_i (c1_i c1_n)) (cs rfl) c1_n (cs rfl) rfl hD (CJ15_checkIndex_7cf53 hD rv1 (in_slot (k := 2) hD g1 rfl (by decide)) q2) (fun a2 b2 f2 => ?_)
  refine X_pop (pc' := 9) dJx4a65c_remove_915e3_8 rfl rfl ?_
  refine E_aload_n (pc' := 10) dJx4a65c_remove_915e3_9 rfl rfl ?_
  refine E_getR (pc' := 13) dJx4a65c_remove_915e3_10 rfl FJx4a65c_9_8 hD g1 rfl (j := 1) rfl ?_
  refine E_astore_n (pc' := 14) dJx4a65c_remove_915e3_13 rfl (cl rfl) (Or.inr rfl) (L' := [some (rV (v0)), some (.int (iN (v1))), some (rV ((dW D (v0) 1))), none]) rfl ?_
  refine E_aload_n (pc' := 15) dJx4a65c_remove_915e3_14 rfl rfl ?_
  refine X_iload_n (pc' := 16) dJx4a65c_remove_915e3_15 rfl rfl ?_
  obtain ⟨g3, h⟩ := gs h
  obtain ⟨g4, h⟩ := gs h
  refine E_aald (pc' := 17) dJx4a65c_remove_915e3_16 rfl hD g3 g4 ?_
  refine E_astore_n (pc' := 18) dJx4a65c_remove_915e3_17 rfl (cl rfl) (Or.inr (xC1_R _)) (L' := [some (rV (v0)), some (.int (iN (v1))), some (rV ((dW D (v0) 1))), some (rV ((dW D ((dW D (v0) 1)) (v1))))]) rfl ?_
  refine E_aload_n (pc' := 19) dJx4a65c_remove_915e3_18 rfl rfl ?_
  refine E_aload_n (pc' := 20) dJx4a65c_remove_915e3_19 rfl rfl ?_
  refine X_iload_n (pc' := 21) dJx4a65c_remove_915e3_20 rfl rfl ?_
  obtain ⟨D5, q5, h⟩ := bs h
  refine E_callV [rV ((dW D (v0) 1)), .int (iN (v1))] (pc' := 24) dJx4a65c_remove_915e3_21 rfl (xVc VJx4a65c_144) (by decide) ⟨dO_pos g1, dO_is hD g1 rfl⟩ rfl (c1_r (c1_i c1_n)) (cs rfl) c1_n (cs rfl) rfl hD (CJx4a65c_fastRemove_b59b0 hD rv0 (gd_slot (k := 1) hD g1 rfl (by decide)) rv1 q5) (fun a5 b5 f5 => ?_)
  refine E_aload_n (pc' := 25) dJx4a65c_remove_915e3_24 rfl rfl ?_
  cases h
  exact E_aret dJx4a65c_remove_915e3_25 rfl (Or.inl ⟨_, rfl⟩) (k a5 b5 (gdV_le b5 (Or.inl (gd_at hD g3 g4.1))))
def fJ6_bitCount_0f7a4_D (v0 : Int) (D : DD) : Option (Int) := some ((zand (((zand (((zand (v0 - (zand (zushr v0 1) 1431655765)) 858993459) + (zand (zushr (v0 - (zand (zushr v0 1) 1431655765)) 2) 858993459)) + (zushr ((zand (v0 - (zand (zushr v0 1) 1431655765)) 858993459) + (zand (zushr (v0 - (zand (zushr v0 1) 1431655765)) 2) 858993459)) 4)) 252645135) + (zushr (zand (((zand (v0 - (zand (zushr v0 1) 1431655765)) 858993459) + (zand (zushr (v0 - (zand (zushr v0 1) 1431655765)) 2) 858993459)) + (zushr ((zand (v0 - (zand (zushr v0 1) 1431655765)) 858993459) + (zand (zushr (v0 - (zand (zushr v0 1) 1431655765)) 2) 858993459)) 4)) 252645135) 8)) + (zushr ((zand (((zand (v0 - (zand (zushr v0 1) 1431655765)) 858993459) + (zand (zushr (v0 - (zand (zushr v0 1) 1431655765)) 2) 858993459)) + (zushr ((zand (v0 - (zand (zushr v0 1) 1431655765)) 858993459) + (zand (zushr (v0 - (zand (zushr v0 1) 1431655765)) 2) 858993459)) 4)) 252645135) + (zushr (zand (((zand (v0 - (zand (zushr v0 1) 1431655765)) 858993459) + (zand (zushr (v0 - (zand (zushr v0 1) 1431655765)) 2) 858993459)) + (zushr ((zand (v0 - (zand (zushr v0 1) 1431655765)) 858993459) + (zand (zushr (v0 - (zand (zushr v0 1) 1431655765)) 2) 858993459)) 4)) 252645135) 8)) 16)) 63))
set_option maxRecDepth 100000 in
theorem CJ6_bitCount_0f7a4_D {ln : Nat} {D : DD} {z : ZZ} {v0 : Int} (hD : okD D) (rv0 : inR v0) {p : Int} (h : fJ6_bitCount_0f7a4_D v0 D = some p) : XD mJ6_bitCount_0f7a4 0 (xEnt [.int (iN (v0))] (xL mJ6_bitCount_0f7a4)) [] ln D z (Qd (FdD D D (inR p)) (.inl (some (.int (iN p)))) (sD ln D z)) := by
  have k : K_r (Qd (FdD D D (inR p)) (.inl (some (.int (iN p)))) (sD ln D z)) ln D z p := fun a => ⟨⟨hD, DLe_refl D, a⟩, rfl, rfl⟩
  unfold fJ6_bitCount_0f7a4_D at h
  refine E_ent (c1_i c1_n) (M := [some (.int (iN (v0)))]) rfl ?_
  refine X_iload_n (pc' := 1) dJ6_bitCount_0f7a4_0 rfl rfl ?_
  refine X_iload_n (pc' := 2) dJ6_bitCount_0f7a4_1 rfl rfl ?_
  refine X_iconst (pc' := 3) dJ6_bitCount_0f7a4_2 rfl ?_
  refine X_iushr (pc' := 4) dJ6_bitCount_0f7a4_3 rfl ?_
  refine X_ldcw (pc' := 7) dJ6_bitCount_0f7a4_4 rfl tq1891 (n := 1431655765) rfl ?_
  refine X_iand (pc' := 8) dJ6_bitCount_0f7a4_7 rfl ?_
  refine X_isub (pc' := 9) dJ6_bitCount_0f7a4_8 rfl ?_
  refine X_istore_n (pc' := 10) dJ6_bitCount_0f7a4_9 rfl (cl rfl) (Or.inl rfl) (L' := [some (.int (iN ((v0 - (zand (zushr v0 1) 1431655765)))))]) rfl ?_
  refine X_iload_n (pc' := 11) dJ6_bitCount_0f7a4_10 rfl rfl ?_
  refine X_ldcw (pc' := 14) dJ6_bitCount_0f7a4_11 rfl tq1892 (n := 858993459) rfl ?_
  refine X_iand (pc' := 15) dJ6_bitCount_0f7a4_14 rfl ?_
  refine X_iload_n (pc' := 16) dJ6_bitCount_0f7a4_15 rfl rfl ?_
  refine X_iconst (pc' := 17) dJ6_bitCount_0f7a4_16 rfl ?_
  refine X_iushr (pc' := 18) dJ6_bitCount_0f7a4_17 rfl ?_
  refine X_ldcw (pc' := 21) dJ6_bitCount_0f7a4_18 rfl tq1892 (n := 858993459) rfl ?_
  refine X_iand (pc' := 22) dJ6_bitCount_0f7a4_21 rfl ?_
  refine X_iadd (pc' := 23) dJ6_bitCount_0f7a4_22 rfl ?_
  refine X_istore_n (pc' := 24) dJ6_bitCount_0f7a4_23 rfl (cl rfl) (Or.inl rfl) (L' := [some (.int (iN (((zand (v0 - (zand (zushr v0 1) 1431655765)) 858993459) + (zand (zushr (v0 - (zand (zushr v0 1) 1431655765)) 2) 858993459)))))]) rfl ?_
  refine X_iload_n (pc' := 25) dJ6_bitCount_0f7a4_24 rfl rfl ?_
  refine X_iload_n (pc' := 26) dJ6_bitCount_0f7a4_25 rfl rfl ?_
  refine X_iconst (pc' := 27) dJ6_bitCount_0f7a4_26 rfl ?_
  refine X_iushr (pc' := 28) dJ6_bitCount_0f7a4_27 rfl ?_
  refine X_iadd (pc' := 29) dJ6_bitCount_0f7a4_28 rfl ?_
  refine X_ldcw (pc' := 32) dJ6_bitCount_0f7a4_29 rfl tq1893 (n := 252645135) rfl ?_
  refine X_iand (pc' := 33) dJ6_bitCount_0f7a4_32 rfl ?_
  refine X_istore_n (pc' := 34) dJ6_bitCount_0f7a4_33 rfl (cl rfl) (Or.inl rfl) (L' := [some (.int (iN ((zand (((zand (v0 - (zand (zushr v0 1) 1431655765)) 858993459) + (zand (zushr (v0 - (zand (zushr v0 1) 1431655765)) 2) 858993459)) + (zushr ((zand (v0 - (zand (zushr v0 1) 1431655765)) 858993459) + (zand (zushr (v0 - (zand (zushr v0 1) 1431655765)) 2) 858993459)) 4)) 252645135))))]) rfl ?_
  refine X_iload_n (pc' := 35) dJ6_bitCount_0f7a4_34 rfl rfl ?_
  refine X_iload_n (pc' := 36) dJ6_bitCount_0f7a4_35 rfl rfl ?_
  refine X_bipush (pc' := 38) dJ6_bitCount_0f7a4_36 rfl (by decide) ?_
  refine X_iushr (pc' := 39) dJ6_bitCount_0f7a4_38 rfl ?_
  refine X_iadd (pc' := 40) dJ6_bitCount_0f7a4_39 rfl ?_
  refine X_istore_n (pc' := 41) dJ6_bitCount_0f7a4_40 rfl (cl rfl) (Or.inl rfl) (L' := [some (.int (iN (((zand (((zand (v0 - (zand (zushr v0 1) 1431655765)) 858993459) + (zand (zushr (v0 - (zand (zushr v0 1) 1431655765)) 2) 858993459)) + (zushr ((zand (v0 - (zand (zushr v0 1) 1431655765)) 858993459) + (zand (zushr (v0 - (zand (zushr v0 1) 1431655765)) 2) 858993459)) 4)) 252645135) + (zushr (zand (((zand (v0 - (zand (zushr v0 1) 1431655765)) 858993459) + (zand (zushr (v0 - (zand (zushr v0 1) 1431655765)) 2) 858993459)) + (zushr ((zand (v0 - (zand (zushr v0 1) 1431655765)) 858993459) + (zand (zushr (v0 - (zand (zushr v0 1) 1431655765)) 2) 858993459)) 4)) 252645135) 8)))))]) rfl ?_
  refine X_iload_n (pc' := 42) dJ6_bitCount_0f7a4_41 rfl rfl ?_
  refine X_iload_n (pc' := 43) dJ6_bitCount_0f7a4_42 rfl rfl ?_
  refine X_bipush (pc' := 45) dJ6_bitCount_0f7a4_43 rfl (by decide) ?_
  refine X_iushr (pc' := 46) dJ6_bitCount_0f7a4_45 rfl ?_
  refine X_iadd (pc' := 47) dJ6_bitCount_0f7a4_46 rfl ?_
  refine X_istore_n (pc' := 48) dJ6_bitCount_0f7a4_47 rfl (cl rfl) (Or.inl rfl) (L' := [some (.int (iN ((((zand (((zand (v0 - (zand (zushr v0 1) 1431655765)) 858993459) + (zand (zushr (v0 - (zand (zushr v0 1) 1431655765)) 2) 858993459)) + (zushr ((zand (v0 - (zand (zushr v0 1) 1431655765)) 858993459) + (zand (zushr (v0 - (zand (zushr v0 1) 1431655765)) 2) 858993459)) 4)) 252645135) + (zushr (zand (((zand (v0 - (zand (zushr v0 1) 1431655765)) 858993459) + (zand (zushr (v0 - (zand (zushr v0 1) 1431655765)) 2) 858993459)) + (zushr ((zand (v0 - (zand (zushr v0 1) 1431655765)) 858993459) + (zand (zushr (v0 - (zand (zushr v0 1) 1431655765)) 2) 858993459)) 4)) 252645135) 8)) + (zushr ((zand (((zand (v0 - (zand (zushr v0 1) 1431655765)) 858993459) + (zand (zushr (v0 - (zand (zushr v0 1) 1431655765)) 2) 858993459)) + (zushr ((zand (v0 - (zand (zushr v0 1) 1431655765)) 858993459) + (zand (zushr (v0 - (zand (zushr v0 1) 1431655765)) 2) 858993459)) 4)) 252645135) + (zushr (zand (((zand (v0 - (zand (zushr v0 1) 1431655765)) 858993459) + (zand (zushr (v0 - (zand (zushr v0 1) 1431655765)) 2) 858993459)) + (zushr ((zand (v0 - (zand (zushr v0 1) 1431655765)) 858993459) + (zand (zushr (v0 - (zand (zushr v0 1) 1431655765)) 2) 858993459)) 4)) 252645135) 8)) 16)))))]) rfl ?_
  refine X_iload_n (pc' := 49) dJ6_bitCount_0f7a4_48 rfl rfl ?_
  refine X_bipush (pc' := 51) dJ6_bitCount_0f7a4_49 rfl (by decide) ?_
  refine X_iand (pc' := 52) dJ6_bitCount_0f7a4_51 rfl ?_
  cases h
  exact X_iret dJ6_bitCount_0f7a4_52 rfl (k (inR_zand _ _))
def fJ0_isLatin1_aae02 (v0 : Int) (D : DD) : Option (Int) := (if (1 : Int) = (0) then some (0) else (if isStr (v0) ∨ dO D (v0) 18 then (if ((strC D (v0))) = (0) then some (1) else some (0)) else none))
set_option maxRecDepth 100000 in
theorem CJ0_isLatin1_aae02 {ln : Nat} {D : DD} {z : ZZ} {v0 : Int} (hD : okD D) (rv0 : gdV D v0) {p : Int} (h : fJ0_isLatin1_aae02 v0 D = some p) : XD mJ0_isLatin1_aae02 0 (xEnt [rV (v0)] (xL mJ0_isLatin1_aae02)) [] ln D z (Qd (FdD D D (p = 0 ∨ p = 1)) (.inl (some (.int (iN p)))) (sD ln D z)) := by
  have k : K_b (Qd (FdD D D (p = 0 ∨ p = 1)) (.inl (some (.int (iN p)))) (sD ln D z)) ln D z p := fun a => ⟨⟨hD, DLe_refl D, a⟩, rfl, rfl⟩
  unfold fJ0_isLatin1_aae02 at h
  refine E_ent (c1_r c1_n) (M := [some (rV (v0))]) rfl ?_
  refine X_gets (pc' := 3) dJ0_isLatin1_aae02_0 rfl (List.mem_of_getElem? (i := 3) rfl) tq312 ?_
  refine X_to (M := [some (rV (v0))]) (su := [.int (iN (1))]) rfl rfl ?_
  refine X_if_eq dJ0_isLatin1_aae02_3 (tgt := 17) rfl (pc' := 6) rfl (inR_c (n := 1) rfl) (fun c1 => ?_) (fun c1 => ?_)
  · have h := if_t c1 h
    refine X_iconst (pc' := 18) dJ0_isLatin1_aae02_17 rfl ?_
    cases h
    exact X_zret dJ0_isLatin1_aae02_18 rfl (Or.inl rfl) (k (Or.inl rfl))
  have h := if_f c1 h
  refine E_aload_n (pc' := 7) dJ0_isLatin1_aae02_6 rfl rfl ?_
  obtain ⟨g2, h⟩ := gs h
  refine E_strC (pc' := 10) dJ0_isLatin1_aae02_7 rfl tq1369 FJ0_15_17 hD g2 ?_
  refine X_if_ne dJ0_isLatin1_aae02_10 (tgt := 17) rfl (pc' := 13) rfl (in_strC hD g2) (fun c3 => ?_) (fun c3 => ?_)
  · have h := if_f c3 h
    refine X_iconst (pc' := 18) dJ0_isLatin1_aae02_17 rfl ?_
    cases h
    exact X_zret dJ0_isLatin1_aae02_18 rfl (Or.inl rfl) (k (Or.inl rfl))
  have h := if_t c3 h
  refine X_iconst (pc' := 14) dJ0_isLatin1_aae02_13 rfl ?_
  refine X_goto dJ0_isLatin1_aae02_14 (tgt := 18) rfl ?_
  cases h
  exact X_zret dJ0_isLatin1_aae02_18 rfl (Or.inr rfl) (k (Or.inr rfl))
def fJ0_checkIndex_df160 (v0 : Int) (v1 : Int) (D : DD) : Option (Unit) := (Option.bind (fJ3_checkIndex_8e157 (v0) (v1) D) fun r1 => some ())
set_option maxRecDepth 100000 in
theorem CJ0_checkIndex_df160 {ln : Nat} {D : DD} {z : ZZ} {v0 : Int} {v1 : Int} (hD : okD D) (rv0 : inR v0) (rv1 : inR v1) {p : Unit} (h : fJ0_checkIndex_df160 v0 v1 D = some p) : XD mJ0_checkIndex_df160 0 (xEnt [.int (iN (v0)), .int (iN (v1))] (xL mJ0_checkIndex_df160)) [] ln D z (Qd (FdD D D (True)) (.inl (none)) (sD ln D z)) := by
  have k : K_v (Qd (FdD D D (True)) (.inl (none)) (sD ln D z)) ln D z p := fun a => ⟨⟨hD, DLe_refl D, a⟩, rfl, rfl⟩
  unfold fJ0_checkIndex_df160 at h
  refine E_ent (c1_i (c1_i c1_n)) (M := [some (.int (iN (v0))), some (.int (iN (v1)))]) rfl ?_
  refine X_iload_n (pc' := 1) dJ0_checkIndex_df160_0 rfl rfl ?_
  refine X_iload_n (pc' := 2) dJ0_checkIndex_df160_1 rfl rfl ?_
  refine E_gets (v := 1000050) (pc' := 5) dJ0_checkIndex_df160_2 rfl (List.mem_of_getElem? (i := 4) rfl) tq328 rfl ?_
  obtain ⟨r1, q1, h⟩ := bs h
  refine E_callS [.int (iN (v0)), .int (iN (v1)), rV (1000050)] (pc' := 8) dJ0_checkIndex_df160_5 rfl (xSn SJ0_1059) (by decide) rfl (c1_i (c1_i (c1_r c1_n))) (cs rfl) c1_n (cs rfl) rfl hD (CJ3_checkIndex_8e157 hD rv0 rv1 q1) (fun a1 b1 f1 => ?_)
  refine X_pop (pc' := 9) dJ0_checkIndex_df160_8 rfl rfl ?_
  cases h
  exact X_vret dJ0_checkIndex_df160_9 rfl (k trivial)
def fJ1_charAt_3b067 (v0 : Int) (v1 : Int) (D : DD) : Option (Int) := (if isArr D (v0) then (Option.bind (fJ0_checkIndex_df160 (v1) ((alen D (v0))) D) fun _u2 => (if dO D (v0) 21 then (if (0 : Int) ≤ (v1) ∧ (v1 : Int) < ((dH D (v0)).2 : Int) then (if (0 : Int) ≤ ((zand (dW D (v0) (v1)) 255)) ∧ ((zand (dW D (v0) (v1)) 255) : Int) < 65536 then (if (0 : Int) ≤ ((zand (dW D (v0) (v1)) 255)) ∧ ((zand (dW D (v0) (v1)) 255) : Int) < 65536 then some ((zand (dW D (v0) (v1)) 255)) else none) else none) else none) else none)) else none)
set_option maxRecDepth 100000 in
theorem CJ1_charAt_3b067 {ln : Nat} {D : DD} {z : ZZ} {v0 : Int} {v1 : Int} (hD : okD D) (rv0 : gdV D v0) (rv1 : inR v1) {p : Int} (h : fJ1_charAt_3b067 v0 v1 D = some p) : XD mJ1_charAt_3b067 0 (xEnt [rV (v0), .int (iN (v1))] (xL mJ1_charAt_3b067)) [] ln D z (Qd (FdD D D (inR p)) (.inl (some (.int (iN p)))) (sD ln D z)) := by
  have k : K_r (Qd (FdD D D (inR p)) (.inl (some (.int (iN p)))) (sD ln D z)) ln D z p := fun a => ⟨⟨hD, DLe_refl D, a⟩, rfl, rfl⟩
  unfold fJ1_charAt_3b067 at h
  refine E_ent (c1_r (c1_i c1_n)) (M := [some (rV (v0)), some (.int (iN (v1)))]) rfl ?_
  refine X_iload_n (pc' := 1) dJ1_charAt_3b067_0 rfl rfl ?_
  refine E_aload_n (pc' := 2) dJ1_charAt_3b067_1 rfl rfl ?_
  obtain ⟨g1, h⟩ := gs h
  refine E_alenA (pc' := 3) dJ1_charAt_3b067_2 rfl hD g1 ?_
  obtain ⟨u2, q2, h⟩ := bs h
  refine E_callS [.int (iN (v1)), .int (iN ((alen D (v0))))] (pc' := 6) dJ1_charAt_3b067_3 rfl (xSn SJ1_9) (by decide) rfl (c1_i (c1_i c1_n)) (cs rfl) c1_n (cs rfl) rfl hD (CJ0_checkIndex_df160 hD rv1 (in_alen hD g1) q2) (fun a2 b2 f2 => ?_)
  refine E_aload_n (pc' := 7) dJ1_charAt_3b067_6 rfl rfl ?_
  refine X_iload_n (pc' := 8) dJ1_charAt_3b067_7 rfl rfl ?_
  obtain ⟨g3, h⟩ := gs h
  obtain ⟨g4, h⟩ := gs h
  refine E_bald (pc' := 9) dJ1_charAt_3b067_8 rfl hD g3 g4 ?_
  refine X_sipush (pc' := 12) dJ1_charAt_3b067_9 rfl (by decide) ?_
  refine X_iand (pc' := 13) dJ1_charAt_3b067_12 rfl ?_
  obtain ⟨g5, h⟩ := gs h
  refine X_i2cN (pc' := 14) dJ1_charAt_3b067_13 rfl g5 ?_
  obtain ⟨g6, h⟩ := gs h
  cases h
  exact E_cret dJ1_charAt_3b067_14 rfl g6 (k (inR_zand _ _))
def fJ0_charAt_5068e (v0 : Int) (v1 : Int) (D : DD) : Option (Int) := (Option.bind (fJ0_isLatin1_aae02 (v0) D) fun r1 => (if isStr (v0) ∨ dO D (v0) 18 then (if (r1) = (0) then none else (Option.bind (fJ1_charAt_3b067 ((strV D (v0))) (v1) D) fun r4 => (if (0 : Int) ≤ (r4) ∧ (r4 : Int) < 65536 then some (r4) else none))) else none))
set_option maxRecDepth 100000 in
theorem CJ0_charAt_5068e {ln : Nat} {D : DD} {z : ZZ} {v0 : Int} {v1 : Int} (hD : okD D) (rv0 : gdV D v0) (rv1 : inR v1) {p : Int} (h : fJ0_charAt_5068e v0 v1 D = some p) : XD mJ0_charAt_5068e 0 (xEnt [rV (v0), .int (iN (v1))] (xL mJ0_charAt_5068e)) [] ln D z (Qd (FdD D D (inR p)) (.inl (some (.int (iN p)))) (sD ln D z)) := by
  have k : K_r (Qd (FdD D D (inR p)) (.inl (some (.int (iN p)))) (sD ln D z)) ln D z p := fun a => ⟨⟨hD, DLe_refl D, a⟩, rfl, rfl⟩
  unfold fJ0_charAt_5068e at h
  refine E_ent (c1_r (c1_i c1_n)) (M := [some (rV (v0)), some (.int (iN (v1)))]) rfl ?_
  refine E_aload_n (pc' := 1) dJ0_charAt_5068e_0 rfl rfl ?_
  obtain ⟨r1, q1, h⟩ := bs h
  obtain ⟨g2, h⟩ := gs h
  refine E_callV [] (pc' := 4) dJ0_charAt_5068e_1 rfl (xVc VJ0_492) (by decide) (str_recv hD g2) rfl c1_n (cs rfl) c1_n (cs rfl) rfl hD (CJ0_isLatin1_aae02 hD rv0 q1) (fun a1 b1 f1 => ?_)
  refine X_if_eq dJ0_charAt_5068e_4 (tgt := 16) rfl (pc' := 7) rfl (inR_b f1) (fun c3 => ?_) (fun c3 => ?_)
  · have h := if_t c3 h
    refine E_aload_n (pc' := 17) dJ0_charAt_5068e_16 rfl rfl ?_
    refine E_strV (pc' := 20) dJ0_charAt_5068e_17 rfl tq1368 FJ0_9_17 hD g2 ?_
    refine X_iload_n (pc' := 21) dJ0_charAt_5068e_20 rfl rfl ?_
    cases h
  have h := if_f c3 h
  refine E_aload_n (pc' := 8) dJ0_charAt_5068e_7 rfl rfl ?_
  refine E_strV (pc' := 11) dJ0_charAt_5068e_8 rfl tq1368 FJ0_9_17 hD g2 ?_
  refine X_iload_n (pc' := 12) dJ0_charAt_5068e_11 rfl rfl ?_
  obtain ⟨r4, q4, h⟩ := bs h
  refine E_callS [rV ((strV D (v0))), .int (iN (v1))] (pc' := 15) dJ0_charAt_5068e_12 rfl (xSn SJ0_495) (by decide) rfl (c1_r (c1_i c1_n)) (cs rfl) c1_n (cs rfl) rfl hD (CJ1_charAt_3b067 hD (gd_strV hD g2) rv1 q4) (fun a4 b4 f4 => ?_)
  obtain ⟨g5, h⟩ := gs h
  cases h
  exact E_cret dJ0_charAt_5068e_15 rfl g5 (k f4)
def fJx4a65c_clear_da8c8_s27 (v1 : Int) (v2 : Int) (v3 : Int) (D : DD) : Option ((Int × DD) ⊕ (DD)) := (if (v3) < (v2) then (if dO D (v1) 22 then (if (0 : Int) ≤ (v3) ∧ (v3 : Int) < ((dH D (v1)).2 : Int) then (if gdE D (0) then (zl (dup D (v1) (v3) (0)) fun D5 => (if inR ((v3 + 1)) then some (.inl ((v3 + 1), D5)) else none)) else none) else none) else none) else some (.inr D))
set_option maxRecDepth 100000 in
theorem SJx4a65c_clear_da8c8_27 {ln : Nat} {D : DD} {z : ZZ} {v1 : Int} {v2 : Int} {v3 : Int} {Φ : xRes → xS → Prop} (hD : okD D) (rv1 : gdV D v1) (rv2 : inR v2) (rv3 : inR v3) {p : (Int × DD) ⊕ (DD)} (h : fJx4a65c_clear_da8c8_s27 v1 v2 v3 D = some p) (k1 : ∀ (v3' : Int) (D' : DD), p = .inl (v3', D') → okD D' → DLe D D' → inR v3' → XD mJx4a65c_clear_da8c8 27 [none, some (rV (v1)), some (.int (iN (v2))), some (.int (iN (v3')))] [] ln D' z Φ) (k2 : ∀ (D' : DD), p = .inr D' → okD D' → DLe D D' → XD mJx4a65c_clear_da8c8 42 [none, none, none, none] [] ln D' z Φ) : XD mJx4a65c_clear_da8c8 27 [none, some (rV (v1)), some (.int (iN (v2))), some (.int (iN (v3)))] [] ln D z Φ := by
  unfold fJx4a65c_clear_da8c8_s27 at h
  refine X_iload_n (pc' := 28) dJx4a65c_clear_da8c8_27 rfl rfl ?_
  refine X_iload_n (pc' := 29) dJx4a65c_clear_da8c8_28 rfl rfl ?_
  refine X_icmp_ge dJx4a65c_clear_da8c8_29 (tgt := 42) rfl (pc' := 32) rfl ⟨rv3.1, rv3.2, rv2.1, rv2.2⟩ (fun c1 => ?_) (fun c1 => ?_)
  · have h := if_f (Int.not_lt.mpr c1) h
    cases h
    exact X_sub (sub_n (sub_n (sub_n (sub_n sub_0)))) (k2 _ rfl hD (DLe_refl _))
  have h := if_t c1 h
  refine E_aload_n (pc' := 33) dJx4a65c_clear_da8c8_32 rfl rfl ?_
  refine X_iload_n (pc' := 34) dJx4a65c_clear_da8c8_33 rfl rfl ?_
  refine E_null (pc' := 35) dJx4a65c_clear_da8c8_34 rfl ?_
  obtain ⟨g2, h⟩ := gs h
  obtain ⟨g3, h⟩ := gs h
  obtain ⟨g4, h⟩ := gs h
  refine E_aast (pc' := 36) dJx4a65c_clear_da8c8_35 rfl hD g2 g3 g4 ?_
  obtain ⟨D5, e5, f5, h⟩ := zl_some (P := fun q => okD q ∧ DLe D q) h ⟨okD_dupJ hD g3.1 (okS_at22 g2 g4), DLe_dup _ _ _ _⟩
  rw [e5]
  refine X_iinc (pc' := 39) dJx4a65c_clear_da8c8_36 rfl rfl (Or.inr rfl) (L' := [none, some (rV (v1)), some (.int (iN (v2))), some (.int (iN (v3 + 1)))]) rfl ?_
  refine X_goto dJx4a65c_clear_da8c8_39 (tgt := 27) rfl ?_
  obtain ⟨g6, h⟩ := gs h
  cases h
  exact X_sub (sub_n (sub_s (sub_s (sub_s sub_0)))) (k1 _ _ rfl f5.1 f5.2 g6)
theorem LJx4a65c_clear_da8c8_27 {ln : Nat} {z : ZZ} {v1 : Int} {v2 : Int} {Φ : xRes → xS → Prop} {r : DD} : ∀ (n : Nat) (v3 : Int) (D : DD), okD D → gdV D v1 → inR v2 → inR v3 → zlp (fun q => fJx4a65c_clear_da8c8_s27 v1 v2 q.1 q.2) n (v3, D) = some r → (∀ (D' : DD), r = D' → okD D' → DLe D D' → XD mJx4a65c_clear_da8c8 42 [none, none, none, none] [] ln D' z Φ) → XD mJx4a65c_clear_da8c8 27 [none, some (rV (v1)), some (.int (iN (v2))), some (.int (iN (v3)))] [] ln D z Φ := by
  intro n
  induction n with
  | zero => intro v3 D hD rv1 rv2 rv3 h k2; cases h
  | succ n ih =>
    intro v3 D hD rv1 rv2 rv3 h k2
    rcases zlp_s h with ⟨⟨v3', D'⟩, e, h'⟩ | e
    · exact SJx4a65c_clear_da8c8_27 hD rv1 rv2 rv3 e (fun v3₁ D₁ hh a b f0 => by cases hh; exact ih _ _ a (gdV_le b rv1) rv2 f0 h' (fun D9 hh a' b' => k2 D9 hh a' (DLe_trans b b'))) (fun D9 hh => by cases hh)
    · exact SJx4a65c_clear_da8c8_27 hD rv1 rv2 rv3 e (fun v3₁ D₁ hh => by cases hh) (fun D9 hh a b => by cases hh; exact k2 _ rfl a b )
def fJx4a65c_clear_da8c8 (v0 : Int) (D : DD) : Option (DD) := (if dO D (v0) 9 then (if inR (((dW D (v0) 0) + 1)) then (zl (dup D (v0) 0 (((dW D (v0) 0) + 1))) fun D3 => (zl (dup D3 (v0) 2 (0)) fun D4 => (Option.bind (zlp (fun q => fJx4a65c_clear_da8c8_s27 ((dW D3 (v0) 1)) ((dW D3 (v0) 2)) q.1 q.2) FU (0, D4)) fun D5 => some D5))) else none) else none)
set_option maxRecDepth 100000 in
theorem CJx4a65c_clear_da8c8 {ln : Nat} {D : DD} {z : ZZ} {v0 : Int} (hD : okD D) (rv0 : gdV D v0) {p : DD} (h : fJx4a65c_clear_da8c8 v0 D = some p) : XD mJx4a65c_clear_da8c8 0 (xEnt [rV (v0)] (xL mJx4a65c_clear_da8c8)) [] ln D z (Qd (FdD D p (True)) (.inl (none)) (sD ln p z)) := by
  have k : K_w (Qd (FdD D p (True)) (.inl (none)) (sD ln p z)) ln D z p := fun a b c => ⟨⟨a, b, c⟩, rfl, rfl⟩
  unfold fJx4a65c_clear_da8c8 at h
  refine E_ent (c1_r c1_n) (M := [some (rV (v0)), none, none, none]) rfl ?_
  refine E_aload_n (pc' := 1) dJx4a65c_clear_da8c8_0 rfl rfl ?_
  refine X_dup (pc' := 2) dJx4a65c_clear_da8c8_1 rfl (rV_cat _) ?_
  obtain ⟨g1, h⟩ := gs h
  refine E_getI (pc' := 5) dJx4a65c_clear_da8c8_2 rfl FJx4a65c_63_8 hD g1 rfl (j := 0) rfl ?_
  refine X_iconst (pc' := 6) dJx4a65c_clear_da8c8_5 rfl ?_
  refine X_iadd (pc' := 7) dJx4a65c_clear_da8c8_6 rfl ?_
  obtain ⟨g2, h⟩ := gs h
  refine E_putI (pc' := 10) dJx4a65c_clear_da8c8_7 rfl FJx4a65c_63_8 hD g1 rfl (fun r hr => by cases hr; exact Or.inl rfl) (xFit_int _) (j := 0) rfl ?_
  obtain ⟨D3, e3, f3, h⟩ := zl_some (P := fun q => okD q ∧ DLe D q) h ⟨okD_dup (k := 0) hD (okS_I g1 rfl (by decide) (by decide) g2), DLe_dup _ _ _ _⟩
  rw [e3]
  refine E_aload_n (pc' := 11) dJx4a65c_clear_da8c8_10 rfl rfl ?_
  refine E_getR (pc' := 14) dJx4a65c_clear_da8c8_11 rfl FJx4a65c_9_8 f3.1 (dO_le f3.2 g1) rfl (j := 1) rfl ?_
  refine E_astore_n (pc' := 15) dJx4a65c_clear_da8c8_14 rfl (cl rfl) (Or.inr (xC1_R _)) (L' := [some (rV (v0)), some (rV ((dW D3 (v0) 1))), none, none]) rfl ?_
  refine E_aload_n (pc' := 16) dJx4a65c_clear_da8c8_15 rfl rfl ?_
  refine E_getI (pc' := 19) dJx4a65c_clear_da8c8_16 rfl FJx4a65c_48_8 f3.1 (dO_le f3.2 g1) rfl (j := 2) rfl ?_
  refine X_istore_n (pc' := 20) dJx4a65c_clear_da8c8_19 rfl (cl rfl) (Or.inr (xC1_R _)) (L' := [some (rV (v0)), some (rV ((dW D3 (v0) 1))), some (.int (iN ((dW D3 (v0) 2)))), none]) rfl ?_
  refine E_aload_n (pc' := 21) dJx4a65c_clear_da8c8_20 rfl rfl ?_
  refine X_iconst (pc' := 22) dJx4a65c_clear_da8c8_21 rfl ?_
  refine X_dup_x1 (pc' := 23) dJx4a65c_clear_da8c8_22 rfl rfl (rV_cat _) ?_
  refine E_putI (pc' := 26) dJx4a65c_clear_da8c8_23 rfl FJx4a65c_48_8 f3.1 (dO_le f3.2 g1) rfl (fun r hr => by cases hr; exact Or.inl rfl) (xFit_int _) (j := 2) rfl ?_
  obtain ⟨D4, e4, f4, h⟩ := zl_some (P := fun q => okD q ∧ DLe D3 q) h ⟨okD_dup (k := 2) f3.1 (okS_I (dO_le f3.2 g1) rfl (by decide) (by decide) (inR_c (n := 0) rfl)), DLe_dup _ _ _ _⟩
  rw [e4]
  refine X_istore_n (pc' := 27) dJx4a65c_clear_da8c8_26 rfl (cl rfl) (Or.inr rfl) (L' := [some (rV (v0)), some (rV ((dW D3 (v0) 1))), some (.int (iN ((dW D3 (v0) 2)))), some (.int (iN (0)))]) rfl ?_
  obtain ⟨D5, q5, h⟩ := bs h
  refine X_sub (sub_n (sub_s (sub_s (sub_s sub_0)))) (LJx4a65c_clear_da8c8_27 FU _ _ f4.1 (gdV_le f4.2 (gd_slot (k := 1) f3.1 (dO_le f3.2 g1) rfl (by decide))) (in_slot (k := 2) f3.1 (dO_le f3.2 g1) rfl (by decide)) (inR_c (n := 0) rfl) q5 (fun D5₁ hh hD5 le5 => ?_))
  cases hh
  cases h
  exact X_vret dJx4a65c_clear_da8c8_42 rfl (k hD5 (DLe_trans (DLe_trans f3.2 f4.2) le5) trivial)
def fX18_size (v0 : Int) (D : DD) : Option (Int) := (if dO D (v0) 11 then some ((dW D (v0) 4)) else none)
set_option maxRecDepth 100000 in
theorem CX18_size {ln : Nat} {D : DD} {z : ZZ} {v0 : Int} (hD : okD D) (rv0 : gdV D v0) {p : Int} (h : fX18_size v0 D = some p) : XD mX18_size 0 (xEnt [rV (v0)] (xL mX18_size)) [] ln D z (Qd (FdD D D (inR p)) (.inl (some (.int (iN p)))) (sD ln D z)) := by
  have k : K_r (Qd (FdD D D (inR p)) (.inl (some (.int (iN p)))) (sD ln D z)) ln D z p := fun a => ⟨⟨hD, DLe_refl D, a⟩, rfl, rfl⟩
  unfold fX18_size at h
  refine E_ent (c1_r c1_n) (M := [some (rV (v0))]) rfl ?_
  refine E_aload_n (pc' := 1) dX18_size_0 rfl rfl ?_
  obtain ⟨g1, h⟩ := gs h
  refine E_getI (pc' := 4) dX18_size_1 rfl FX18_7_10 hD g1 rfl (j := 4) rfl ?_
  cases h
  exact X_iret dX18_size_4 rfl (k (in_slot (k := 4) hD g1 rfl (by decide)))

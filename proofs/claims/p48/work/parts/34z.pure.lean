/-! methods that make nothing, at no room -/
set_option maxRecDepth 100000 in
theorem ZJx4a65c_size_8abf5 {ln : Nat} {D : DD} {z : ZZ} {v0 : Int} (hD : okD D) (rv0 : gdV D v0) {p : Int} (h : fJx4a65c_size_8abf5 v0 D = some p) : X0 mJx4a65c_size_8abf5 0 (xEnt [rV (v0)] (xL mJx4a65c_size_8abf5)) [] ln D z (Qd (FdD D D (inR p)) (.inl (some (.int (iN p)))) (sD ln D z)) := by
  have k : K_r (Qd (FdD D D (inR p)) (.inl (some (.int (iN p)))) (sD ln D z)) ln D z p := fun a => ⟨⟨hD, DLe_refl D, a⟩, rfl, rfl⟩
  unfold fJx4a65c_size_8abf5 at h
  refine E_ent (c1_r c1_n) (M := [some (rV (v0))]) rfl ?_
  refine E_aload_n (pc' := 1) dJx4a65c_size_8abf5_0 rfl rfl ?_
  obtain ⟨g1, h⟩ := gs h
  refine E_getI (pc' := 4) dJx4a65c_size_8abf5_1 rfl FJx4a65c_48_8 hD g1 rfl (j := 2) rfl ?_
  cases h
  exact X_iret dJx4a65c_size_8abf5_4 rfl (k (in_slot (k := 2) hD g1 rfl (by decide)))
set_option maxRecDepth 100000 in
theorem ZL_one {ln : Nat} {D : DD} {z : ZZ} {v0 : Int} {v1 : Int} (hD : okD D) (rv0 : inR v0) (rv1 : inR v1) {p : Int} (h : fL_one v0 v1 D = some p) : X0 mL_one 0 (xEnt [.int (iN (v0)), .int (iN (v1))] (xL mL_one)) [] ln D z (Qd (FdD D D (inR p)) (.inl (some (.int (iN p)))) (sD ln D z)) := by
  have k : K_r (Qd (FdD D D (inR p)) (.inl (some (.int (iN p)))) (sD ln D z)) ln D z p := fun a => ⟨⟨hD, DLe_refl D, a⟩, rfl, rfl⟩
  unfold fL_one at h
  refine E_ent (c1_i (c1_i c1_n)) (M := [some (.int (iN (v0))), some (.int (iN (v1)))]) rfl ?_
  refine X_iload_n (pc' := 1) dL_one_0 rfl rfl ?_
  refine X_bipush (pc' := 3) dL_one_1 rfl (by decide) ?_
  obtain ⟨g1, h⟩ := gs h
  refine X_irem (pc' := 4) dL_one_3 rfl ⟨g1.1, rv0.2, g1.2, (inR_c (n := 29) rfl).2⟩ ?_
  refine X_if_eq dL_one_4 (tgt := 11) rfl (pc' := 7) rfl (inR_mod g1 (inR_c (n := 29) rfl)) (fun c2 => ?_) (fun c2 => ?_)
  · have h := if_t c2 h
    refine X_iload_n (pc' := 12) dL_one_11 rfl rfl ?_
    refine X_goto dL_one_12 (tgt := 18) rfl ?_
    cases h
    exact X_iret dL_one_18 rfl (k rv1)
  have h := if_f c2 h
  refine X_iload_n (pc' := 8) dL_one_7 rfl rfl ?_
  refine X_if_ne dL_one_8 (tgt := 15) rfl (pc' := 11) rfl rv1 (fun c3 => ?_) (fun c3 => ?_)
  · have h := if_f c3 h
    refine X_iload_n (pc' := 16) dL_one_15 rfl rfl ?_
    refine X_iload_n (pc' := 17) dL_one_16 rfl rfl ?_
    obtain ⟨g4, h⟩ := gs h
    refine X_irem (pc' := 18) dL_one_17 rfl ⟨g4.1, rv0.2, g4.2, rv1.2⟩ ?_
    cases h
    exact X_iret dL_one_18 rfl (k (inR_mod g4 rv1))
  have h := if_t c3 h
  refine X_iload_n (pc' := 12) dL_one_11 rfl rfl ?_
  refine X_goto dL_one_12 (tgt := 18) rfl ?_
  cases h
  exact X_iret dL_one_18 rfl (k rv1)
set_option maxRecDepth 100000 in
theorem ZL_some {ln : Nat} {D : DD} {z : ZZ} {v0 : Int} {v1 : Int} {v2 : Int} (hD : okD D) (rv0 : inR v0) (rv1 : inR v1) (rv2 : inR v2) {p : Int} (h : fL_some v0 v1 v2 D = some p) : X0 mL_some 0 (xEnt [.int (iN (v0)), .int (iN (v1)), .int (iN (v2))] (xL mL_some)) [] ln D z (Qd (FdD D D (inR p)) (.inl (some (.int (iN p)))) (sD ln D z)) := by
  have k : K_r (Qd (FdD D D (inR p)) (.inl (some (.int (iN p)))) (sD ln D z)) ln D z p := fun a => ⟨⟨hD, DLe_refl D, a⟩, rfl, rfl⟩
  unfold fL_some at h
  refine E_ent (c1_i (c1_i (c1_i c1_n))) (M := [some (.int (iN (v0))), some (.int (iN (v1))), some (.int (iN (v2)))]) rfl ?_
  refine X_iload_n (pc' := 1) dL_some_0 rfl rfl ?_
  refine X_bipush (pc' := 3) dL_some_1 rfl (by decide) ?_
  obtain ⟨g1, h⟩ := gs h
  refine X_irem (pc' := 4) dL_some_3 rfl ⟨g1.1, rv0.2, g1.2, (inR_c (n := 31) rfl).2⟩ ?_
  refine X_if_ne dL_some_4 (tgt := 13) rfl (pc' := 7) rfl (inR_mod g1 (inR_c (n := 31) rfl)) (fun c2 => ?_) (fun c2 => ?_)
  · have h := if_f c2 h
    refine X_iload_n (pc' := 14) dL_some_13 rfl rfl ?_
    refine X_bipush (pc' := 16) dL_some_14 rfl (by decide) ?_
    obtain ⟨g3, h⟩ := gs h
    refine X_irem (pc' := 17) dL_some_16 rfl ⟨g3.1, rv0.2, g3.2, (inR_c (n := 37) rfl).2⟩ ?_
    refine X_if_ne dL_some_17 (tgt := 26) rfl (pc' := 20) rfl (inR_mod g3 (inR_c (n := 37) rfl)) (fun c4 => ?_) (fun c4 => ?_)
    · have h := if_f c4 h
      refine X_iload_n (pc' := 27) dL_some_26 rfl rfl ?_
      refine X_iload_n (pc' := 28) dL_some_27 rfl rfl ?_
      refine X_iload_n (pc' := 29) dL_some_28 rfl rfl ?_
      refine X_iload_n (pc' := 30) dL_some_29 rfl rfl ?_
      refine X_isub (pc' := 31) dL_some_30 rfl ?_
      refine X_iconst (pc' := 32) dL_some_31 rfl ?_
      refine X_iadd (pc' := 33) dL_some_32 rfl ?_
      obtain ⟨g5, h⟩ := gs h
      obtain ⟨g6, h⟩ := gs h
      refine X_irem (pc' := 34) dL_some_33 rfl ⟨g6.1, rv0.2, g6.2, g5.2⟩ ?_
      refine X_iadd (pc' := 35) dL_some_34 rfl ?_
      obtain ⟨g7, h⟩ := gs h
      cases h
      exact X_iret dL_some_35 rfl (k g7)
    have h := if_t c4 h
    refine X_iload_n (pc' := 21) dL_some_20 rfl rfl ?_
    refine X_iconst (pc' := 22) dL_some_21 rfl ?_
    refine X_isub (pc' := 23) dL_some_22 rfl ?_
    refine X_goto dL_some_23 (tgt := 35) rfl ?_
    obtain ⟨g8, h⟩ := gs h
    cases h
    exact X_iret dL_some_35 rfl (k g8)
  have h := if_t c2 h
  refine X_iload_n (pc' := 8) dL_some_7 rfl rfl ?_
  refine X_iconst (pc' := 9) dL_some_8 rfl ?_
  refine X_iadd (pc' := 10) dL_some_9 rfl ?_
  refine X_goto dL_some_10 (tgt := 35) rfl ?_
  obtain ⟨g9, h⟩ := gs h
  cases h
  exact X_iret dL_some_35 rfl (k g9)
set_option maxRecDepth 100000 in
theorem ZJ0_coder_7d493 {ln : Nat} {D : DD} {z : ZZ} {v0 : Int} (hD : okD D) (rv0 : gdV D v0) {p : Int} (h : fJ0_coder_7d493 v0 D = some p) : X0 mJ0_coder_7d493 0 (xEnt [rV (v0)] (xL mJ0_coder_7d493)) [] ln D z (Qd (FdD D D (inR p)) (.inl (some (.int (iN p)))) (sD ln D z)) := by
  have k : K_r (Qd (FdD D D (inR p)) (.inl (some (.int (iN p)))) (sD ln D z)) ln D z p := fun a => ⟨⟨hD, DLe_refl D, a⟩, rfl, rfl⟩
  unfold fJ0_coder_7d493 at h
  refine E_ent (c1_r c1_n) (M := [some (rV (v0))]) rfl ?_
  refine X_gets (pc' := 3) dJ0_coder_7d493_0 rfl (List.mem_of_getElem? (i := 3) rfl) tq312 ?_
  refine X_to (M := [some (rV (v0))]) (su := [.int (iN (1))]) rfl rfl ?_
  refine X_if_eq dJ0_coder_7d493_3 (tgt := 13) rfl (pc' := 6) rfl (inR_c (n := 1) rfl) (fun c1 => ?_) (fun c1 => ?_)
  · have h := if_t c1 h
    refine X_iconst (pc' := 14) dJ0_coder_7d493_13 rfl ?_
    obtain ⟨g2, h⟩ := gs h
    cases h
    exact E_bret dJ0_coder_7d493_14 rfl g2 (k (inR_c (n := 1) rfl))
  have h := if_f c1 h
  refine E_aload_n (pc' := 7) dJ0_coder_7d493_6 rfl rfl ?_
  obtain ⟨g3, h⟩ := gs h
  refine E_strC (pc' := 10) dJ0_coder_7d493_7 rfl tq1369 FJ0_15_17 hD g3 ?_
  refine X_goto dJ0_coder_7d493_10 (tgt := 14) rfl ?_
  obtain ⟨g4, h⟩ := gs h
  cases h
  exact E_bret dJ0_coder_7d493_14 rfl g4 (k (in_strC hD g3))
set_option maxRecDepth 100000 in
theorem ZJ0_length_8abf5 {ln : Nat} {D : DD} {z : ZZ} {v0 : Int} (hD : okD D) (rv0 : gdV D v0) {p : Int} (h : fJ0_length_8abf5 v0 D = some p) : X0 mJ0_length_8abf5 0 (xEnt [rV (v0)] (xL mJ0_length_8abf5)) [] ln D z (Qd (FdD D D (inR p)) (.inl (some (.int (iN p)))) (sD ln D z)) := by
  have k : K_r (Qd (FdD D D (inR p)) (.inl (some (.int (iN p)))) (sD ln D z)) ln D z p := fun a => ⟨⟨hD, DLe_refl D, a⟩, rfl, rfl⟩
  unfold fJ0_length_8abf5 at h
  refine E_ent (c1_r c1_n) (M := [some (rV (v0))]) rfl ?_
  refine E_aload_n (pc' := 1) dJ0_length_8abf5_0 rfl rfl ?_
  obtain ⟨g1, h⟩ := gs h
  refine E_strV (pc' := 4) dJ0_length_8abf5_1 rfl tq1368 FJ0_9_17 hD g1 ?_
  obtain ⟨g2, h⟩ := gs h
  refine E_bytL (pc' := 5) dJ0_length_8abf5_4 rfl hD g2 ?_
  refine E_aload_n (pc' := 6) dJ0_length_8abf5_5 rfl rfl ?_
  obtain ⟨r3, q3, h⟩ := bs h
  refine E0_callV [] (pc' := 9) dJ0_length_8abf5_6 rfl (xVc VJ0_335) (by decide) (str_recv hD g1) rfl c1_n (cs rfl) (c1_i c1_n) (cs rfl) rfl hD (ZJ0_coder_7d493 hD rv0 q3) (fun a3 b3 f3 => ?_)
  refine X_ishr (pc' := 10) dJ0_length_8abf5_9 rfl ?_
  cases h
  exact X_iret dJ0_length_8abf5_10 rfl (k (inR_zshr _ _))
set_option maxRecDepth 100000 in
theorem ZJ0_isLatin1_aae02 {ln : Nat} {D : DD} {z : ZZ} {v0 : Int} (hD : okD D) (rv0 : gdV D v0) {p : Int} (h : fJ0_isLatin1_aae02 v0 D = some p) : X0 mJ0_isLatin1_aae02 0 (xEnt [rV (v0)] (xL mJ0_isLatin1_aae02)) [] ln D z (Qd (FdD D D (p = 0 ∨ p = 1)) (.inl (some (.int (iN p)))) (sD ln D z)) := by
  have k : K_b (Qd (FdD D D (p = 0 ∨ p = 1)) (.inl (some (.int (iN p)))) (sD ln D z)) ln D z p := fun a => ⟨⟨hD, DLe_refl D, a⟩, rfl, rfl⟩
  unfold fJ0_isLatin1_aae02 at h
  refine E_ent (c1_r c1_n) (M := [some (rV (v0))]) rfl ?_
  refine X_gets (pc' := 3) dJ0_isLatin1_aae02_0 rfl (List.mem_of_getElem? (i := 3) rfl) tq312 ?_
  refine X_to (M := [some (rV (v0))]) (su := [.int (iN (1))]) rfl rfl ?_
  refine X_if_eq dJ0_isLatin1_aae02_3 (tgt := 17) rfl (pc' := 6) rfl (inR_c (n := 1) rfl) (fun c1 => ?_) (fun c1 => ?_)
  · have h := if_t c1 h
    refine X_iconst (pc' := 18) dJ0_isLatin1_aae02_17 rfl ?_
    cases h
    exact X_zret dJ0_isLatin1_aae02_18 rfl (Or.inl rfl) (k (Or.inl rfl))
  have h := if_f c1 h
  refine E_aload_n (pc' := 7) dJ0_isLatin1_aae02_6 rfl rfl ?_
  obtain ⟨g2, h⟩ := gs h
  refine E_strC (pc' := 10) dJ0_isLatin1_aae02_7 rfl tq1369 FJ0_15_17 hD g2 ?_
  refine X_if_ne dJ0_isLatin1_aae02_10 (tgt := 17) rfl (pc' := 13) rfl (in_strC hD g2) (fun c3 => ?_) (fun c3 => ?_)
  · have h := if_f c3 h
    refine X_iconst (pc' := 18) dJ0_isLatin1_aae02_17 rfl ?_
    cases h
    exact X_zret dJ0_isLatin1_aae02_18 rfl (Or.inl rfl) (k (Or.inl rfl))
  have h := if_t c3 h
  refine X_iconst (pc' := 14) dJ0_isLatin1_aae02_13 rfl ?_
  refine X_goto dJ0_isLatin1_aae02_14 (tgt := 18) rfl ?_
  cases h
  exact X_zret dJ0_isLatin1_aae02_18 rfl (Or.inr rfl) (k (Or.inr rfl))
set_option maxRecDepth 100000 in
theorem ZJ3_checkIndex_8e157 {ln : Nat} {D : DD} {z : ZZ} {v0 : Int} {v1 : Int} {v2 : Int} (hD : okD D) (rv0 : inR v0) (rv1 : inR v1) {p : Int} (h : fJ3_checkIndex_8e157 v0 v1 D = some p) : X0 mJ3_checkIndex_8e157 0 (xEnt [.int (iN (v0)), .int (iN (v1)), rV (v2)] (xL mJ3_checkIndex_8e157)) [] ln D z (Qd (FdD D D (inR p)) (.inl (some (.int (iN p)))) (sD ln D z)) := by
  have k : K_r (Qd (FdD D D (inR p)) (.inl (some (.int (iN p)))) (sD ln D z)) ln D z p := fun a => ⟨⟨hD, DLe_refl D, a⟩, rfl, rfl⟩
  unfold fJ3_checkIndex_8e157 at h
  refine E_ent (c1_i (c1_i (c1_r c1_n))) (M := [some (.int (iN (v0))), some (.int (iN (v1))), some (rV (v2))]) rfl ?_
  refine X_iload_n (pc' := 1) dJ3_checkIndex_8e157_0 rfl rfl ?_
  refine X_if_lt dJ3_checkIndex_8e157_1 (tgt := 9) rfl (pc' := 4) rfl rv0 (fun c1 => ?_) (fun c1 => ?_)
  · have h := if_t c1 h
    cases h
  have h := if_f (Int.not_lt.mpr c1) h
  refine X_iload_n (pc' := 5) dJ3_checkIndex_8e157_4 rfl rfl ?_
  refine X_iload_n (pc' := 6) dJ3_checkIndex_8e157_5 rfl rfl ?_
  refine X_icmp_lt dJ3_checkIndex_8e157_6 (tgt := 16) rfl (pc' := 9) rfl ⟨rv0.1, rv0.2, rv1.1, rv1.2⟩ (fun c2 => ?_) (fun c2 => ?_)
  · have h := if_t c2 h
    refine X_iload_n (pc' := 17) dJ3_checkIndex_8e157_16 rfl rfl ?_
    cases h
    exact X_iret dJ3_checkIndex_8e157_17 rfl (k rv0)
  have h := if_f (Int.not_lt.mpr c2) h
  cases h
set_option maxRecDepth 100000 in
theorem ZJ0_checkIndex_df160 {ln : Nat} {D : DD} {z : ZZ} {v0 : Int} {v1 : Int} (hD : okD D) (rv0 : inR v0) (rv1 : inR v1) {p : Unit} (h : fJ0_checkIndex_df160 v0 v1 D = some p) : X0 mJ0_checkIndex_df160 0 (xEnt [.int (iN (v0)), .int (iN (v1))] (xL mJ0_checkIndex_df160)) [] ln D z (Qd (FdD D D (True)) (.inl (none)) (sD ln D z)) := by
  have k : K_v (Qd (FdD D D (True)) (.inl (none)) (sD ln D z)) ln D z p := fun a => ⟨⟨hD, DLe_refl D, a⟩, rfl, rfl⟩
  unfold fJ0_checkIndex_df160 at h
  refine E_ent (c1_i (c1_i c1_n)) (M := [some (.int (iN (v0))), some (.int (iN (v1)))]) rfl ?_
  refine X_iload_n (pc' := 1) dJ0_checkIndex_df160_0 rfl rfl ?_
  refine X_iload_n (pc' := 2) dJ0_checkIndex_df160_1 rfl rfl ?_
  refine E_gets (v := 1000050) (pc' := 5) dJ0_checkIndex_df160_2 rfl (List.mem_of_getElem? (i := 4) rfl) tq328 rfl ?_
  obtain ⟨r1, q1, h⟩ := bs h
  refine E0_callS [.int (iN (v0)), .int (iN (v1)), rV (1000050)] (pc' := 8) dJ0_checkIndex_df160_5 rfl (xSn SJ0_1059) (by decide) rfl (c1_i (c1_i (c1_r c1_n))) (cs rfl) c1_n (cs rfl) rfl hD (ZJ3_checkIndex_8e157 hD rv0 rv1 q1) (fun a1 b1 f1 => ?_)
  refine X_pop (pc' := 9) dJ0_checkIndex_df160_8 rfl rfl ?_
  cases h
  exact X_vret dJ0_checkIndex_df160_9 rfl (k trivial)
def fJ1_charAt_3b067_Z (v0 : Int) (v1 : Int) (D : DD) : Option (Int) := (if isByt D (v0) then (Option.bind (fJ0_checkIndex_df160 (v1) ((blen D (v0))) D) fun _u2 => (if (0 : Int) ≤ (v1) ∧ (v1 : Int) < blen D (v0) then (if (0 : Int) ≤ ((zand (bat D (v0) (v1)) 255)) ∧ ((zand (bat D (v0) (v1)) 255) : Int) < 65536 then (if (0 : Int) ≤ ((zand (bat D (v0) (v1)) 255)) ∧ ((zand (bat D (v0) (v1)) 255) : Int) < 65536 then some ((zand (bat D (v0) (v1)) 255)) else none) else none) else none)) else none)
set_option maxRecDepth 100000 in
theorem ZJ1_charAt_3b067_Z {ln : Nat} {D : DD} {z : ZZ} {v0 : Int} {v1 : Int} (hD : okD D) (rv0 : gdV D v0) (rv1 : inR v1) {p : Int} (h : fJ1_charAt_3b067_Z v0 v1 D = some p) : X0 mJ1_charAt_3b067 0 (xEnt [rV (v0), .int (iN (v1))] (xL mJ1_charAt_3b067)) [] ln D z (Qd (FdD D D (inR p)) (.inl (some (.int (iN p)))) (sD ln D z)) := by
  have k : K_r (Qd (FdD D D (inR p)) (.inl (some (.int (iN p)))) (sD ln D z)) ln D z p := fun a => ⟨⟨hD, DLe_refl D, a⟩, rfl, rfl⟩
  unfold fJ1_charAt_3b067_Z at h
  refine E_ent (c1_r (c1_i c1_n)) (M := [some (rV (v0)), some (.int (iN (v1)))]) rfl ?_
  refine X_iload_n (pc' := 1) dJ1_charAt_3b067_0 rfl rfl ?_
  refine E_aload_n (pc' := 2) dJ1_charAt_3b067_1 rfl rfl ?_
  obtain ⟨g1, h⟩ := gs h
  refine E_bytL (pc' := 3) dJ1_charAt_3b067_2 rfl hD g1 ?_
  obtain ⟨u2, q2, h⟩ := bs h
  refine E0_callS [.int (iN (v1)), .int (iN ((blen D (v0))))] (pc' := 6) dJ1_charAt_3b067_3 rfl (xSn SJ1_9) (by decide) rfl (c1_i (c1_i c1_n)) (cs rfl) c1_n (cs rfl) rfl hD (ZJ0_checkIndex_df160 hD rv1 (in_blen hD g1) q2) (fun a2 b2 f2 => ?_)
  refine E_aload_n (pc' := 7) dJ1_charAt_3b067_6 rfl rfl ?_
  refine X_iload_n (pc' := 8) dJ1_charAt_3b067_7 rfl rfl ?_
  obtain ⟨g3, h⟩ := gs h
  refine E_bytA (pc' := 9) dJ1_charAt_3b067_8 rfl hD g1 g3 ?_
  refine X_sipush (pc' := 12) dJ1_charAt_3b067_9 rfl (by decide) ?_
  refine X_iand (pc' := 13) dJ1_charAt_3b067_12 rfl ?_
  obtain ⟨g4, h⟩ := gs h
  refine X_i2cN (pc' := 14) dJ1_charAt_3b067_13 rfl g4 ?_
  obtain ⟨g5, h⟩ := gs h
  cases h
  exact E_cret dJ1_charAt_3b067_14 rfl g5 (k (inR_zand _ _))
def fJ0_charAt_5068e_Z (v0 : Int) (v1 : Int) (D : DD) : Option (Int) := (Option.bind (fJ0_isLatin1_aae02 (v0) D) fun r1 => (if isStr (v0) ∨ dO D (v0) 18 then (if (r1) = (0) then none else (Option.bind (fJ1_charAt_3b067_Z ((strV D (v0))) (v1) D) fun r4 => (if (0 : Int) ≤ (r4) ∧ (r4 : Int) < 65536 then some (r4) else none))) else none))
set_option maxRecDepth 100000 in
theorem ZJ0_charAt_5068e_Z {ln : Nat} {D : DD} {z : ZZ} {v0 : Int} {v1 : Int} (hD : okD D) (rv0 : gdV D v0) (rv1 : inR v1) {p : Int} (h : fJ0_charAt_5068e_Z v0 v1 D = some p) : X0 mJ0_charAt_5068e 0 (xEnt [rV (v0), .int (iN (v1))] (xL mJ0_charAt_5068e)) [] ln D z (Qd (FdD D D (inR p)) (.inl (some (.int (iN p)))) (sD ln D z)) := by
  have k : K_r (Qd (FdD D D (inR p)) (.inl (some (.int (iN p)))) (sD ln D z)) ln D z p := fun a => ⟨⟨hD, DLe_refl D, a⟩, rfl, rfl⟩
  unfold fJ0_charAt_5068e_Z at h
  refine E_ent (c1_r (c1_i c1_n)) (M := [some (rV (v0)), some (.int (iN (v1)))]) rfl ?_
  refine E_aload_n (pc' := 1) dJ0_charAt_5068e_0 rfl rfl ?_
  obtain ⟨r1, q1, h⟩ := bs h
  obtain ⟨g2, h⟩ := gs h
  refine E0_callV [] (pc' := 4) dJ0_charAt_5068e_1 rfl (xVc VJ0_492) (by decide) (str_recv hD g2) rfl c1_n (cs rfl) c1_n (cs rfl) rfl hD (ZJ0_isLatin1_aae02 hD rv0 q1) (fun a1 b1 f1 => ?_)
  refine X_if_eq dJ0_charAt_5068e_4 (tgt := 16) rfl (pc' := 7) rfl (inR_b f1) (fun c3 => ?_) (fun c3 => ?_)
  · have h := if_t c3 h
    refine E_aload_n (pc' := 17) dJ0_charAt_5068e_16 rfl rfl ?_
    refine E_strV (pc' := 20) dJ0_charAt_5068e_17 rfl tq1368 FJ0_9_17 hD g2 ?_
    refine X_iload_n (pc' := 21) dJ0_charAt_5068e_20 rfl rfl ?_
    cases h
  have h := if_f c3 h
  refine E_aload_n (pc' := 8) dJ0_charAt_5068e_7 rfl rfl ?_
  refine E_strV (pc' := 11) dJ0_charAt_5068e_8 rfl tq1368 FJ0_9_17 hD g2 ?_
  refine X_iload_n (pc' := 12) dJ0_charAt_5068e_11 rfl rfl ?_
  obtain ⟨r4, q4, h⟩ := bs h
  refine E0_callS [rV ((strV D (v0))), .int (iN (v1))] (pc' := 15) dJ0_charAt_5068e_12 rfl (xSn SJ0_495) (by decide) rfl (c1_r (c1_i c1_n)) (cs rfl) c1_n (cs rfl) rfl hD (ZJ1_charAt_3b067_Z hD (gd_strV hD g2) rv1 q4) (fun a4 b4 f4 => ?_)
  obtain ⟨g5, h⟩ := gs h
  cases h
  exact E_cret dJ0_charAt_5068e_15 rfl g5 (k f4)

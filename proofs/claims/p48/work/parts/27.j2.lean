def fX18_compare (v0 : Int) (v1 : Int) (v2 : Int) (D : DD) : Option (Int) := (if dO D (v0) 11 then (if ((dW D (v0) 2)) = 0 then (if isBox (v1) then (Option.bind (fJ6_compareTo_e47da (v1) (v2) D) fun r4 => some (r4)) else none) else none) else none)
set_option maxRecDepth 100000 in
theorem CX18_compare {ln : Nat} {D : DD} {z : ZZ} {v0 : Int} {v1 : Int} {v2 : Int} (hD : okD D) (rv0 : gdV D v0) (rv1 : gdV D v1) (rv2 : gdV D v2) {p : Int} (h : fX18_compare v0 v1 v2 D = some p) : XD mX18_compare 0 (xEnt [rV (v0), rV (v1), rV (v2)] (xL mX18_compare)) [] ln D z (Qd (FdD D D (inR p)) (.inl (some (.int (iN p)))) (sD ln D z)) := by
  have k : K_r (Qd (FdD D D (inR p)) (.inl (some (.int (iN p)))) (sD ln D z)) ln D z p := fun a => ⟨⟨hD, DLe_refl D, a⟩, rfl, rfl⟩
  unfold fX18_compare at h
  refine E_ent (c1_r (c1_r (c1_r c1_n))) (M := [some (rV (v0)), some (rV (v1)), some (rV (v2))]) rfl ?_
  refine E_aload_n (pc' := 1) dX18_compare_0 rfl rfl ?_
  obtain ⟨g1, h⟩ := gs h
  refine E_getR (pc' := 4) dX18_compare_1 rfl FX18_16_10 hD g1 rfl (j := 2) rfl ?_
  refine E_ifnonnull dX18_compare_4 (tgt := 20) rfl (pc' := 7) rfl hD (gd_slot (k := 2) hD g1 rfl (by decide)) (fun c2 => ?_) (fun c2 => ?_)
  · have h := if_f c2 h
    refine E_aload_n (pc' := 21) dX18_compare_20 rfl rfl ?_
    refine E_getR (pc' := 24) dX18_compare_21 rfl FX18_16_10 hD g1 rfl (j := 2) rfl ?_
    refine E_aload_n (pc' := 25) dX18_compare_24 rfl rfl ?_
    refine E_aload_n (pc' := 26) dX18_compare_25 rfl rfl ?_
    cases h
  have h := if_t c2 h
  refine E_aload_n (pc' := 8) dX18_compare_7 rfl rfl ?_
  obtain ⟨g3, h⟩ := gs h
  refine E_castY (pc' := 11) dX18_compare_8 rfl tq771 tq776 (box_pos g3) (box_is g3) ?_
  refine E_aload_n (pc' := 12) dX18_compare_11 rfl rfl ?_
  obtain ⟨r4, q4, h⟩ := bs h
  refine E_callF [rV (v2)] (pc' := 17) dX18_compare_12 rfl F_X18_107_J6 (by decide) ⟨box_pos g3, box_is g3⟩ rfl (c1_r c1_n) (cs rfl) c1_n (cs rfl) rfl hD (CJ6_compareTo_e47da hD rv1 rv2 q4) (fun a4 b4 f4 => ?_)
  refine X_goto dX18_compare_17 (tgt := 31) rfl ?_
  cases h
  exact X_iret dX18_compare_31 rfl (k f4)
def fX12_init (v0 : Int) (v1 : Int) (v2 : Int) (v3 : Int) (D : DD) : Option (DD) := (if (151 : Int) ≤ (v0) ∧ (v0 : Int) < dT D ∧ True then (if dO D (v0) 12 then (zl (dup D (v0) 5 (1)) fun D3 => (zl (dup D3 (v0) 0 (v1)) fun D4 => (zl (dup D4 (v0) 1 (v2)) fun D5 => (zl (dup D5 (v0) 4 (v3)) fun D6 => some D6)))) else none) else none)
set_option maxRecDepth 100000 in
theorem CX12_init {ln : Nat} {D : DD} {z : ZZ} {v0 : Int} {v1 : Int} {v2 : Int} {v3 : Int} (hD : okD D) (rv0 : gdV D v0) (rv1 : gdV D v1) (rv2 : gdV D v2) (rv3 : gdV D v3) {p : DD} (h : fX12_init v0 v1 v2 v3 D = some p) : XD mX12_init 0 (xEnt [rV (v0), rV (v1), rV (v2), rV (v3)] (xL mX12_init)) [] ln D z (Qd (FdD D p (True)) (.inl (none)) (sD ln p z)) := by
  have k : K_w (Qd (FdD D p (True)) (.inl (none)) (sD ln p z)) ln D z p := fun a b c => ⟨⟨a, b, c⟩, rfl, rfl⟩
  unfold fX12_init at h
  refine E_ent (c1_r (c1_r (c1_r (c1_r c1_n)))) (M := [some (rV (v0)), some (rV (v1)), some (rV (v2)), some (rV (v3))]) rfl ?_
  refine E_aload_n (pc' := 1) dX12_init_0 rfl rfl ?_
  obtain ⟨g1, h⟩ := gs h
  refine E_objInit (μ := mX12_init) (pc' := 4) dX12_init_1 rfl tq988 tq53 tq54 hD ⟨g1.1, g1.2.1⟩ c1_n (cs rfl) ?_
  refine E_aload_n (pc' := 5) dX12_init_4 rfl rfl ?_
  refine X_iconst (pc' := 6) dX12_init_5 rfl ?_
  obtain ⟨g2, h⟩ := gs h
  refine E_putI (pc' := 9) dX12_init_6 rfl FX12_9_11 hD g2 rfl (fun r hr => by cases hr; exact Or.inl rfl) (xFit_bool (Or.inr rfl)) (j := 5) rfl ?_
  obtain ⟨D3, e3, f3, h⟩ := zl_some (P := fun q => okD q ∧ DLe D q) h ⟨okD_dup (k := 5) hD (okS_B g2 (Or.inr rfl)), DLe_dup _ _ _ _⟩
  rw [e3]
  refine E_aload_n (pc' := 10) dX12_init_9 rfl rfl ?_
  refine E_aload_n (pc' := 11) dX12_init_10 rfl rfl ?_
  refine E_putR (pc' := 14) dX12_init_11 rfl FX12_15_11 f3.1 (dO_le f3.2 g2) rfl (fun r hr => by cases hr; exact Or.inl rfl) (Or.inl ⟨_, rfl⟩) (j := 0) rfl ?_
  obtain ⟨D4, e4, f4, h⟩ := zl_some (P := fun q => okD q ∧ DLe D3 q) h ⟨okD_dup (k := 0) f3.1 (okS_R (dO_le f3.2 g2) rfl (by decide) (gdV_le f3.2 rv1)), DLe_dup _ _ _ _⟩
  rw [e4]
  refine E_aload_n (pc' := 15) dX12_init_14 rfl rfl ?_
  refine E_aload_n (pc' := 16) dX12_init_15 rfl rfl ?_
  refine E_putR (pc' := 19) dX12_init_16 rfl FX12_19_11 f4.1 (dO_le f4.2 (dO_le f3.2 g2)) rfl (fun r hr => by cases hr; exact Or.inl rfl) (Or.inl ⟨_, rfl⟩) (j := 1) rfl ?_
  obtain ⟨D5, e5, f5, h⟩ := zl_some (P := fun q => okD q ∧ DLe D4 q) h ⟨okD_dup (k := 1) f4.1 (okS_R (dO_le f4.2 (dO_le f3.2 g2)) rfl (by decide) (gdV_le f4.2 (gdV_le f3.2 rv2))), DLe_dup _ _ _ _⟩
  rw [e5]
  refine E_aload_n (pc' := 20) dX12_init_19 rfl rfl ?_
  refine E_aload_n (pc' := 21) dX12_init_20 rfl rfl ?_
  refine E_putR (pc' := 24) dX12_init_21 rfl FX12_22_11 f5.1 (dO_le f5.2 (dO_le f4.2 (dO_le f3.2 g2))) rfl (fun r hr => by cases hr; exact Or.inl rfl) (Or.inl ⟨_, rfl⟩) (j := 4) rfl ?_
  obtain ⟨D6, e6, f6, h⟩ := zl_some (P := fun q => okD q ∧ DLe D5 q) h ⟨okD_dup (k := 4) f5.1 (okS_R (dO_le f5.2 (dO_le f4.2 (dO_le f3.2 g2))) rfl (by decide) (gdV_le f5.2 (gdV_le f4.2 (gdV_le f3.2 rv3)))), DLe_dup _ _ _ _⟩
  rw [e6]
  cases h
  exact X_vret dX12_init_24 rfl (k f6.1 (DLe_trans (DLe_trans (DLe_trans f3.2 f4.2) f5.2) f6.2) trivial)
def fX18_addEntryToEmptyMap (v0 : Int) (v1 : Int) (v2 : Int) (D : DD) : Option (DD) := (Option.bind (fX18_compare (v0) (v1) (v1) D) fun r1 => (if dO D (v0) 11 then (if dT D < 600000 ∧ dS D + 6 ≤ 7200000 then (zl (dnew D 12 6) fun D4 => (Option.bind (fX12_init ((dT D)) (v1) (v2) (0) D4) fun D5 => (zl (dup D5 (v0) 3 ((dT D))) fun D6 => (zl (dup D6 (v0) 4 (1)) fun D7 => (if inR (((dW D7 (v0) 5) + 1)) then (zl (dup D7 (v0) 5 (((dW D7 (v0) 5) + 1))) fun D9 => some D9) else none))))) else none) else none))
set_option maxRecDepth 100000 in
theorem CX18_addEntryToEmptyMap {ln : Nat} {D : DD} {z : ZZ} {v0 : Int} {v1 : Int} {v2 : Int} (hD : okD D) (rv0 : gdV D v0) (rv1 : gdV D v1) (rv2 : gdV D v2) {p : DD} (h : fX18_addEntryToEmptyMap v0 v1 v2 D = some p) : XD mX18_addEntryToEmptyMap 0 (xEnt [rV (v0), rV (v1), rV (v2)] (xL mX18_addEntryToEmptyMap)) [] ln D z (Qd (FdD D p (True)) (.inl (none)) (sD ln p z)) := by
  have k : K_w (Qd (FdD D p (True)) (.inl (none)) (sD ln p z)) ln D z p := fun a b c => ⟨⟨a, b, c⟩, rfl, rfl⟩
  unfold fX18_addEntryToEmptyMap at h
  refine E_ent (c1_r (c1_r (c1_r c1_n))) (M := [some (rV (v0)), some (rV (v1)), some (rV (v2))]) rfl ?_
  refine E_aload_n (pc' := 1) dX18_addEntryToEmptyMap_0 rfl rfl ?_
  refine E_aload_n (pc' := 2) dX18_addEntryToEmptyMap_1 rfl rfl ?_
  refine E_aload_n (pc' := 3) dX18_addEntryToEmptyMap_2 rfl rfl ?_
  obtain ⟨r1, q1, h⟩ := bs h
  obtain ⟨g2, h⟩ := gs h
  refine E_callV [rV (v1), rV (v1)] (pc' := 6) dX18_addEntryToEmptyMap_3 rfl (xVc VX18_123) (by decide) ⟨dO_pos g2, dO_is hD g2 rfl⟩ rfl (c1_r (c1_r c1_n)) (cs rfl) c1_n (cs rfl) rfl hD (CX18_compare hD rv0 rv1 rv1 q1) (fun a1 b1 f1 => ?_)
  refine X_pop (pc' := 7) dX18_addEntryToEmptyMap_6 rfl rfl ?_
  refine E_aload_n (pc' := 8) dX18_addEntryToEmptyMap_7 rfl rfl ?_
  obtain ⟨g3, h⟩ := gs h
  refine E_new (c := 11) (n := 6) (pc' := 11) dX18_addEntryToEmptyMap_8 rfl rfl rfl (by decide) tq983 tq984 tq46 hD g3 ?_
  obtain ⟨D4, e4, f4, h⟩ := zl_some (P := fun q => okD q ∧ DLe D q ∧ dO q (dT D) 12) h ⟨okD_dnew hD (by decide) (by decide) g3.1 g3.2, DLe_dnew _ (by decide), dO_dnew hD⟩
  rw [e4]
  refine X_dup (pc' := 12) dX18_addEntryToEmptyMap_11 rfl (rV_cat _) ?_
  refine E_aload_n (pc' := 13) dX18_addEntryToEmptyMap_12 rfl rfl ?_
  refine E_aload_n (pc' := 14) dX18_addEntryToEmptyMap_13 rfl rfl ?_
  refine E_null (pc' := 15) dX18_addEntryToEmptyMap_14 rfl ?_
  obtain ⟨D5, q5, h⟩ := bs h
  refine E_callI (μ := mX18_addEntryToEmptyMap) (μ' := mX12_init) [rV (v1), rV (v2), rV (0)] (pc' := 18) dX18_addEntryToEmptyMap_15 rfl tq985 IX18_167 (by decide) ⟨f4.2.2.1, f4.2.2.2.1⟩ rfl (c1_r (c1_r (c1_r c1_n))) (cs rfl) (c1_r (c1_r c1_n)) (cs rfl) rfl f4.1 (CX12_init f4.1 (dO_gd f4.2.2 (by decide)) (gdV_le f4.2.1 rv1) (gdV_le f4.2.1 rv2) (Or.inl (Or.inl rfl)) q5) (fun a5 b5 f5 => ?_)
  refine E_putR (pc' := 21) dX18_addEntryToEmptyMap_18 rfl FX18_101_10 a5 (dO_le b5 (dO_le f4.2.1 g2)) rfl (fun r hr => by cases hr; exact Or.inl rfl) (Or.inl ⟨_, rfl⟩) (j := 3) rfl ?_
  obtain ⟨D6, e6, f6, h⟩ := zl_some (P := fun q => okD q ∧ DLe D5 q) h ⟨okD_dup (k := 3) a5 (okS_R (dO_le b5 (dO_le f4.2.1 g2)) rfl (by decide) (gdV_le b5 (dO_gd f4.2.2 (by decide)))), DLe_dup _ _ _ _⟩
  rw [e6]
  refine E_aload_n (pc' := 22) dX18_addEntryToEmptyMap_21 rfl rfl ?_
  refine X_iconst (pc' := 23) dX18_addEntryToEmptyMap_22 rfl ?_
  refine E_putI (pc' := 26) dX18_addEntryToEmptyMap_23 rfl FX18_7_10 f6.1 (dO_le f6.2 (dO_le b5 (dO_le f4.2.1 g2))) rfl (fun r hr => by cases hr; exact Or.inl rfl) (xFit_int _) (j := 4) rfl ?_
  obtain ⟨D7, e7, f7, h⟩ := zl_some (P := fun q => okD q ∧ DLe D6 q) h ⟨okD_dup (k := 4) f6.1 (okS_I (dO_le f6.2 (dO_le b5 (dO_le f4.2.1 g2))) rfl (by decide) (by decide) (inR_c (n := 1) rfl)), DLe_dup _ _ _ _⟩
  rw [e7]
  refine E_aload_n (pc' := 27) dX18_addEntryToEmptyMap_26 rfl rfl ?_
  refine X_dup (pc' := 28) dX18_addEntryToEmptyMap_27 rfl (rV_cat _) ?_
  refine E_getI (pc' := 31) dX18_addEntryToEmptyMap_28 rfl FX18_13_10 f7.1 (dO_le f7.2 (dO_le f6.2 (dO_le b5 (dO_le f4.2.1 g2)))) rfl (j := 5) rfl ?_
  refine X_iconst (pc' := 32) dX18_addEntryToEmptyMap_31 rfl ?_
  refine X_iadd (pc' := 33) dX18_addEntryToEmptyMap_32 rfl ?_
  obtain ⟨g8, h⟩ := gs h
  refine E_putI (pc' := 36) dX18_addEntryToEmptyMap_33 rfl FX18_13_10 f7.1 (dO_le f7.2 (dO_le f6.2 (dO_le b5 (dO_le f4.2.1 g2)))) rfl (fun r hr => by cases hr; exact Or.inl rfl) (xFit_int _) (j := 5) rfl ?_
  obtain ⟨D9, e9, f9, h⟩ := zl_some (P := fun q => okD q ∧ DLe D7 q) h ⟨okD_dup (k := 5) f7.1 (okS_I (dO_le f7.2 (dO_le f6.2 (dO_le b5 (dO_le f4.2.1 g2)))) rfl (by decide) (by decide) g8), DLe_dup _ _ _ _⟩
  rw [e9]
  cases h
  exact X_vret dX18_addEntryToEmptyMap_36 rfl (k f9.1 (DLe_trans (DLe_trans (DLe_trans (DLe_trans f4.2.1 b5) f6.2) f7.2) f9.2) trivial)
def fJ15_requireNonNull_262c5 (v0 : Int) (D : DD) : Option (Int) := (if (v0) = 0 then none else some (v0))
set_option maxRecDepth 100000 in
theorem CJ15_requireNonNull_262c5 {ln : Nat} {D : DD} {z : ZZ} {v0 : Int} (hD : okD D) (rv0 : gdV D v0) {p : Int} (h : fJ15_requireNonNull_262c5 v0 D = some p) : XD mJ15_requireNonNull_262c5 0 (xEnt [rV (v0)] (xL mJ15_requireNonNull_262c5)) [] ln D z (Qd (FdD D D (gdV D p)) (.inl (some (rV p))) (sD ln D z)) := by
  have k : K_R (Qd (FdD D D (gdV D p)) (.inl (some (rV p))) (sD ln D z)) ln D z p := fun a => ⟨⟨hD, DLe_refl D, a⟩, rfl, rfl⟩
  unfold fJ15_requireNonNull_262c5 at h
  refine E_ent (c1_r c1_n) (M := [some (rV (v0))]) rfl ?_
  refine E_aload_n (pc' := 1) dJ15_requireNonNull_262c5_0 rfl rfl ?_
  refine E_ifnonnull dJ15_requireNonNull_262c5_1 (tgt := 12) rfl (pc' := 4) rfl hD rv0 (fun c1 => ?_) (fun c1 => ?_)
  · have h := if_f c1 h
    refine E_aload_n (pc' := 13) dJ15_requireNonNull_262c5_12 rfl rfl ?_
    cases h
    exact E_aret dJ15_requireNonNull_262c5_13 rfl (Or.inl ⟨_, rfl⟩) (k rv0)
  have h := if_t c1 h
  cases h
def fX18_parentOf (v0 : Int) (D : DD) : Option (Int) := (if (v0) = 0 then some (0) else (if dO D (v0) 12 then some ((dW D (v0) 4)) else none))
set_option maxRecDepth 100000 in
theorem CX18_parentOf {ln : Nat} {D : DD} {z : ZZ} {v0 : Int} (hD : okD D) (rv0 : gdV D v0) {p : Int} (h : fX18_parentOf v0 D = some p) : XD mX18_parentOf 0 (xEnt [rV (v0)] (xL mX18_parentOf)) [] ln D z (Qd (FdD D D (gdV D p)) (.inl (some (rV p))) (sD ln D z)) := by
  have k : K_R (Qd (FdD D D (gdV D p)) (.inl (some (rV p))) (sD ln D z)) ln D z p := fun a => ⟨⟨hD, DLe_refl D, a⟩, rfl, rfl⟩
  unfold fX18_parentOf at h
  refine E_ent (c1_r c1_n) (M := [some (rV (v0))]) rfl ?_
  refine E_aload_n (pc' := 1) dX18_parentOf_0 rfl rfl ?_
  refine E_ifnonnull dX18_parentOf_1 (tgt := 8) rfl (pc' := 4) rfl hD rv0 (fun c1 => ?_) (fun c1 => ?_)
  · have h := if_f c1 h
    refine E_aload_n (pc' := 9) dX18_parentOf_8 rfl rfl ?_
    obtain ⟨g2, h⟩ := gs h
    refine E_getR (pc' := 12) dX18_parentOf_9 rfl FX18_124_11 hD g2 rfl (j := 4) rfl ?_
    cases h
    exact E_aret dX18_parentOf_12 rfl (Or.inl ⟨_, rfl⟩) (k (gd_slot (k := 4) hD g2 rfl (by decide)))
  have h := if_t c1 h
  refine E_null (pc' := 5) dX18_parentOf_4 rfl ?_
  refine X_goto dX18_parentOf_5 (tgt := 12) rfl ?_
  cases h
  exact E_aret dX18_parentOf_12 rfl (Or.inl ⟨_, rfl⟩) (k (Or.inl (Or.inl rfl)))
def fX18_leftOf (v0 : Int) (D : DD) : Option (Int) := (if (v0) = 0 then some (0) else (if dO D (v0) 12 then some ((dW D (v0) 2)) else none))
set_option maxRecDepth 100000 in
theorem CX18_leftOf {ln : Nat} {D : DD} {z : ZZ} {v0 : Int} (hD : okD D) (rv0 : gdV D v0) {p : Int} (h : fX18_leftOf v0 D = some p) : XD mX18_leftOf 0 (xEnt [rV (v0)] (xL mX18_leftOf)) [] ln D z (Qd (FdD D D (gdV D p)) (.inl (some (rV p))) (sD ln D z)) := by
  have k : K_R (Qd (FdD D D (gdV D p)) (.inl (some (rV p))) (sD ln D z)) ln D z p := fun a => ⟨⟨hD, DLe_refl D, a⟩, rfl, rfl⟩
  unfold fX18_leftOf at h
  refine E_ent (c1_r c1_n) (M := [some (rV (v0))]) rfl ?_
  refine E_aload_n (pc' := 1) dX18_leftOf_0 rfl rfl ?_
  refine E_ifnonnull dX18_leftOf_1 (tgt := 8) rfl (pc' := 4) rfl hD rv0 (fun c1 => ?_) (fun c1 => ?_)
  · have h := if_f c1 h
    refine E_aload_n (pc' := 9) dX18_leftOf_8 rfl rfl ?_
    obtain ⟨g2, h⟩ := gs h
    refine E_getR (pc' := 12) dX18_leftOf_9 rfl FX18_111_11 hD g2 rfl (j := 2) rfl ?_
    cases h
    exact E_aret dX18_leftOf_12 rfl (Or.inl ⟨_, rfl⟩) (k (gd_slot (k := 2) hD g2 rfl (by decide)))
  have h := if_t c1 h
  refine E_null (pc' := 5) dX18_leftOf_4 rfl ?_
  refine X_goto dX18_leftOf_5 (tgt := 12) rfl ?_
  cases h
  exact E_aret dX18_leftOf_12 rfl (Or.inl ⟨_, rfl⟩) (k (Or.inl (Or.inl rfl)))
def fX18_rightOf (v0 : Int) (D : DD) : Option (Int) := (if (v0) = 0 then some (0) else (if dO D (v0) 12 then some ((dW D (v0) 3)) else none))
set_option maxRecDepth 100000 in
theorem CX18_rightOf {ln : Nat} {D : DD} {z : ZZ} {v0 : Int} (hD : okD D) (rv0 : gdV D v0) {p : Int} (h : fX18_rightOf v0 D = some p) : XD mX18_rightOf 0 (xEnt [rV (v0)] (xL mX18_rightOf)) [] ln D z (Qd (FdD D D (gdV D p)) (.inl (some (rV p))) (sD ln D z)) := by
  have k : K_R (Qd (FdD D D (gdV D p)) (.inl (some (rV p))) (sD ln D z)) ln D z p := fun a => ⟨⟨hD, DLe_refl D, a⟩, rfl, rfl⟩
  unfold fX18_rightOf at h
  refine E_ent (c1_r c1_n) (M := [some (rV (v0))]) rfl ?_
  refine E_aload_n (pc' := 1) dX18_rightOf_0 rfl rfl ?_
  refine E_ifnonnull dX18_rightOf_1 (tgt := 8) rfl (pc' := 4) rfl hD rv0 (fun c1 => ?_) (fun c1 => ?_)
  · have h := if_f c1 h
    refine E_aload_n (pc' := 9) dX18_rightOf_8 rfl rfl ?_
    obtain ⟨g2, h⟩ := gs h
    refine E_getR (pc' := 12) dX18_rightOf_9 rfl FX18_114_11 hD g2 rfl (j := 3) rfl ?_
    cases h
    exact E_aret dX18_rightOf_12 rfl (Or.inl ⟨_, rfl⟩) (k (gd_slot (k := 3) hD g2 rfl (by decide)))
  have h := if_t c1 h
  refine E_null (pc' := 5) dX18_rightOf_4 rfl ?_
  refine X_goto dX18_rightOf_5 (tgt := 12) rfl ?_
  cases h
  exact E_aret dX18_rightOf_12 rfl (Or.inl ⟨_, rfl⟩) (k (Or.inl (Or.inl rfl)))
def fX18_colorOf (v0 : Int) (D : DD) : Option (Int) := (if (v0) = 0 then some (1) else (if dO D (v0) 12 then some ((dW D (v0) 5)) else none))
set_option maxRecDepth 100000 in
theorem CX18_colorOf {ln : Nat} {D : DD} {z : ZZ} {v0 : Int} (hD : okD D) (rv0 : gdV D v0) {p : Int} (h : fX18_colorOf v0 D = some p) : XD mX18_colorOf 0 (xEnt [rV (v0)] (xL mX18_colorOf)) [] ln D z (Qd (FdD D D (p = 0 ∨ p = 1)) (.inl (some (.int (iN p)))) (sD ln D z)) := by
  have k : K_b (Qd (FdD D D (p = 0 ∨ p = 1)) (.inl (some (.int (iN p)))) (sD ln D z)) ln D z p := fun a => ⟨⟨hD, DLe_refl D, a⟩, rfl, rfl⟩
  unfold fX18_colorOf at h
  refine E_ent (c1_r c1_n) (M := [some (rV (v0))]) rfl ?_
  refine E_aload_n (pc' := 1) dX18_colorOf_0 rfl rfl ?_
  refine E_ifnonnull dX18_colorOf_1 (tgt := 8) rfl (pc' := 4) rfl hD rv0 (fun c1 => ?_) (fun c1 => ?_)
  · have h := if_f c1 h
    refine E_aload_n (pc' := 9) dX18_colorOf_8 rfl rfl ?_
    obtain ⟨g2, h⟩ := gs h
    refine E_getI (pc' := 12) dX18_colorOf_9 rfl FX18_290_11 hD g2 rfl (j := 5) rfl ?_
    cases h
    exact X_zret dX18_colorOf_12 rfl (b_slot hD g2) (k (b_slot hD g2))
  have h := if_t c1 h
  refine X_iconst (pc' := 5) dX18_colorOf_4 rfl ?_
  refine X_goto dX18_colorOf_5 (tgt := 12) rfl ?_
  cases h
  exact X_zret dX18_colorOf_12 rfl (Or.inr rfl) (k (Or.inr rfl))
def fX18_setColor (v0 : Int) (v1 : Int) (D : DD) : Option (DD) := (if (v0) = 0 then some D else (if dO D (v0) 12 then (if (v1) = 0 ∨ (v1) = 1 then (zl (dup D (v0) 5 (v1)) fun D4 => some D4) else none) else none))
set_option maxRecDepth 100000 in
theorem CX18_setColor {ln : Nat} {D : DD} {z : ZZ} {v0 : Int} {v1 : Int} (hD : okD D) (rv0 : gdV D v0) (rv1 : inR v1) {p : DD} (h : fX18_setColor v0 v1 D = some p) : XD mX18_setColor 0 (xEnt [rV (v0), .int (iN (v1))] (xL mX18_setColor)) [] ln D z (Qd (FdD D p (True)) (.inl (none)) (sD ln p z)) := by
  have k : K_w (Qd (FdD D p (True)) (.inl (none)) (sD ln p z)) ln D z p := fun a b c => ⟨⟨a, b, c⟩, rfl, rfl⟩
  unfold fX18_setColor at h
  refine E_ent (c1_r (c1_i c1_n)) (M := [some (rV (v0)), some (.int (iN (v1)))]) rfl ?_
  refine E_aload_n (pc' := 1) dX18_setColor_0 rfl rfl ?_
  refine E_ifnull dX18_setColor_1 (tgt := 9) rfl (pc' := 4) rfl hD rv0 (fun c1 => ?_) (fun c1 => ?_)
  · have h := if_t c1 h
    cases h
    exact X_vret dX18_setColor_9 rfl (k hD (DLe_refl _) trivial)
  have h := if_f c1 h
  refine E_aload_n (pc' := 5) dX18_setColor_4 rfl rfl ?_
  refine X_iload_n (pc' := 6) dX18_setColor_5 rfl rfl ?_
  obtain ⟨g2, h⟩ := gs h
  obtain ⟨g3, h⟩ := gs h
  refine E_putI (pc' := 9) dX18_setColor_6 rfl FX18_290_11 hD g2 rfl (fun r hr => by cases hr; exact Or.inl rfl) (xFit_bool g3) (j := 5) rfl ?_
  obtain ⟨D4, e4, f4, h⟩ := zl_some (P := fun q => okD q ∧ DLe D q) h ⟨okD_dup (k := 5) hD (okS_B g2 g3), DLe_dup _ _ _ _⟩
  rw [e4]
  cases h
  exact X_vret dX18_setColor_9 rfl (k f4.1 f4.2 trivial)
def fX18_rotateLeft_b85 (v1 : Int) (v2 : Int) (D : DD) : Option (DD) := (if dO D (v2) 12 then (zl (dup D (v2) 2 (v1)) fun D2 => (if dO D2 (v1) 12 then (zl (dup D2 (v1) 4 (v2)) fun D4 => some D4) else none)) else none)
set_option maxRecDepth 100000 in
theorem BX18_rotateLeft_85 {ln : Nat} {D : DD} {z : ZZ} {v1 : Int} {v2 : Int} {Φ : xRes → xS → Prop} (hD : okD D) (rv1 : gdV D v1) (rv2 : gdV D v2) {p : DD} (h : fX18_rotateLeft_b85 v1 v2 D = some p) (k : K_w Φ ln D z p) : XD mX18_rotateLeft 85 [none, some (rV (v1)), some (rV (v2))] [] ln D z Φ := by
  unfold fX18_rotateLeft_b85 at h
  refine E_aload_n (pc' := 86) dX18_rotateLeft_85 rfl rfl ?_
  refine E_aload_n (pc' := 87) dX18_rotateLeft_86 rfl rfl ?_
  obtain ⟨g1, h⟩ := gs h
  refine E_putR (pc' := 90) dX18_rotateLeft_87 rfl FX18_111_11 hD g1 rfl (fun r hr => by cases hr; exact Or.inl rfl) (Or.inl ⟨_, rfl⟩) (j := 2) rfl ?_
  obtain ⟨D2, e2, f2, h⟩ := zl_some (P := fun q => okD q ∧ DLe D q) h ⟨okD_dup (k := 2) hD (okS_R g1 rfl (by decide) rv1), DLe_dup _ _ _ _⟩
  rw [e2]
  refine E_aload_n (pc' := 91) dX18_rotateLeft_90 rfl rfl ?_
  refine E_aload_n (pc' := 92) dX18_rotateLeft_91 rfl rfl ?_
  obtain ⟨g3, h⟩ := gs h
  refine E_putR (pc' := 95) dX18_rotateLeft_92 rfl FX18_124_11 f2.1 g3 rfl (fun r hr => by cases hr; exact Or.inl rfl) (Or.inl ⟨_, rfl⟩) (j := 4) rfl ?_
  obtain ⟨D4, e4, f4, h⟩ := zl_some (P := fun q => okD q ∧ DLe D2 q) h ⟨okD_dup (k := 4) f2.1 (okS_R g3 rfl (by decide) (gdV_le f2.2 rv2)), DLe_dup _ _ _ _⟩
  rw [e4]
  cases h
  exact X_vret dX18_rotateLeft_95 rfl (k f4.1 (DLe_trans f2.2 f4.2) trivial)
def fX18_rotateLeft_b32 (v0 : Int) (v1 : Int) (v2 : Int) (D : DD) : Option (DD) := (if dO D (v1) 12 then (if dO D (v2) 12 then (zl (dup D (v2) 4 ((dW D (v1) 4))) fun D3 => (if ((dW D3 (v1) 4)) = 0 then (if dO D3 (v0) 11 then (zl (dup D3 (v0) 3 (v2)) fun D12 => fX18_rotateLeft_b85 (v1) (v2) D12) else none) else (if dO D3 ((dW D3 (v1) 4)) 12 then (if cmpV D3 ((dW D3 ((dW D3 (v1) 4)) 2)) then (if cmpV D3 (v1) then (if ((dW D3 ((dW D3 (v1) 4)) 2)) = (v1) then (zl (dup D3 ((dW D3 (v1) 4)) 2 (v2)) fun D10 => fX18_rotateLeft_b85 (v1) (v2) D10) else (zl (dup D3 ((dW D3 (v1) 4)) 3 (v2)) fun D9 => fX18_rotateLeft_b85 (v1) (v2) D9)) else none) else none) else none))) else none) else none)
set_option maxRecDepth 100000 in
theorem BX18_rotateLeft_32 {ln : Nat} {D : DD} {z : ZZ} {v0 : Int} {v1 : Int} {v2 : Int} {Φ : xRes → xS → Prop} (hD : okD D) (rv0 : gdV D v0) (rv1 : gdV D v1) (rv2 : gdV D v2) {p : DD} (h : fX18_rotateLeft_b32 v0 v1 v2 D = some p) (k : K_w Φ ln D z p) : XD mX18_rotateLeft 32 [some (rV (v0)), some (rV (v1)), some (rV (v2))] [] ln D z Φ := by
  unfold fX18_rotateLeft_b32 at h
  refine E_aload_n (pc' := 33) dX18_rotateLeft_32 rfl rfl ?_
  refine E_aload_n (pc' := 34) dX18_rotateLeft_33 rfl rfl ?_
  obtain ⟨g1, h⟩ := gs h
  refine E_getR (pc' := 37) dX18_rotateLeft_34 rfl FX18_124_11 hD g1 rfl (j := 4) rfl ?_
  obtain ⟨g2, h⟩ := gs h
  refine E_putR (pc' := 40) dX18_rotateLeft_37 rfl FX18_124_11 hD g2 rfl (fun r hr => by cases hr; exact Or.inl rfl) (Or.inl ⟨_, rfl⟩) (j := 4) rfl ?_
  obtain ⟨D3, e3, f3, h⟩ := zl_some (P := fun q => okD q ∧ DLe D q) h ⟨okD_dup (k := 4) hD (okS_R g2 rfl (by decide) (gd_slot (k := 4) hD g1 rfl (by decide))), DLe_dup _ _ _ _⟩
  rw [e3]
  refine E_aload_n (pc' := 41) dX18_rotateLeft_40 rfl rfl ?_
  refine E_getR (pc' := 44) dX18_rotateLeft_41 rfl FX18_124_11 f3.1 (dO_le f3.2 g1) rfl (j := 4) rfl ?_
  refine E_ifnonnull dX18_rotateLeft_44 (tgt := 55) rfl (pc' := 47) rfl f3.1 (gd_slot (k := 4) f3.1 (dO_le f3.2 g1) rfl (by decide)) (fun c4 => ?_) (fun c4 => ?_)
  · have h := if_f c4 h
    refine E_aload_n (pc' := 56) dX18_rotateLeft_55 rfl rfl ?_
    refine E_getR (pc' := 59) dX18_rotateLeft_56 rfl FX18_124_11 f3.1 (dO_le f3.2 g1) rfl (j := 4) rfl ?_
    obtain ⟨g5, h⟩ := gs h
    refine E_getR (pc' := 62) dX18_rotateLeft_59 rfl FX18_111_11 f3.1 g5 rfl (j := 2) rfl ?_
    refine E_aload_n (pc' := 63) dX18_rotateLeft_62 rfl rfl ?_
    obtain ⟨g7, h⟩ := gs h
    obtain ⟨g8, h⟩ := gs h
    refine E_acmp_ne dX18_rotateLeft_63 (tgt := 77) rfl (pc' := 66) rfl g7 g8 (fun c6 => ?_) (fun c6 => ?_)
    · have h := if_f c6 h
      refine E_aload_n (pc' := 78) dX18_rotateLeft_77 rfl rfl ?_
      refine E_getR (pc' := 81) dX18_rotateLeft_78 rfl FX18_124_11 f3.1 (dO_le f3.2 g1) rfl (j := 4) rfl ?_
      refine E_aload_n (pc' := 82) dX18_rotateLeft_81 rfl rfl ?_
      refine E_putR (pc' := 85) dX18_rotateLeft_82 rfl FX18_114_11 f3.1 g5 rfl (fun r hr => by cases hr; exact Or.inl rfl) (Or.inl ⟨_, rfl⟩) (j := 3) rfl ?_
      obtain ⟨D9, e9, f9, h⟩ := zl_some (P := fun q => okD q ∧ DLe D3 q) h ⟨okD_dup (k := 3) f3.1 (okS_R g5 rfl (by decide) (gdV_le f3.2 rv2)), DLe_dup _ _ _ _⟩
      rw [e9]
      exact X_sub (sub_n (sub_s (sub_s sub_0))) (BX18_rotateLeft_85 f9.1 (gdV_le f9.2 (gdV_le f3.2 rv1)) (gdV_le f9.2 (gdV_le f3.2 rv2)) h (fun a b c => k a (DLe_trans (DLe_trans f3.2 f9.2) b) c))
    have h := if_t c6 h
    refine E_aload_n (pc' := 67) dX18_rotateLeft_66 rfl rfl ?_
    refine E_getR (pc' := 70) dX18_rotateLeft_67 rfl FX18_124_11 f3.1 (dO_le f3.2 g1) rfl (j := 4) rfl ?_
    refine E_aload_n (pc' := 71) dX18_rotateLeft_70 rfl rfl ?_
    refine E_putR (pc' := 74) dX18_rotateLeft_71 rfl FX18_111_11 f3.1 g5 rfl (fun r hr => by cases hr; exact Or.inl rfl) (Or.inl ⟨_, rfl⟩) (j := 2) rfl ?_
    obtain ⟨D10, e10, f10, h⟩ := zl_some (P := fun q => okD q ∧ DLe D3 q) h ⟨okD_dup (k := 2) f3.1 (okS_R g5 rfl (by decide) (gdV_le f3.2 rv2)), DLe_dup _ _ _ _⟩
    rw [e10]
    refine X_goto dX18_rotateLeft_74 (tgt := 85) rfl ?_
    exact X_sub (sub_n (sub_s (sub_s sub_0))) (BX18_rotateLeft_85 f10.1 (gdV_le f10.2 (gdV_le f3.2 rv1)) (gdV_le f10.2 (gdV_le f3.2 rv2)) h (fun a b c => k a (DLe_trans (DLe_trans f3.2 f10.2) b) c))
  have h := if_t c4 h
  refine E_aload_n (pc' := 48) dX18_rotateLeft_47 rfl rfl ?_
  refine E_aload_n (pc' := 49) dX18_rotateLeft_48 rfl rfl ?_
  obtain ⟨g11, h⟩ := gs h
  refine E_putR (pc' := 52) dX18_rotateLeft_49 rfl FX18_101_10 f3.1 g11 rfl (fun r hr => by cases hr; exact Or.inl rfl) (Or.inl ⟨_, rfl⟩) (j := 3) rfl ?_
  obtain ⟨D12, e12, f12, h⟩ := zl_some (P := fun q => okD q ∧ DLe D3 q) h ⟨okD_dup (k := 3) f3.1 (okS_R g11 rfl (by decide) (gdV_le f3.2 rv2)), DLe_dup _ _ _ _⟩
  rw [e12]
  refine X_goto dX18_rotateLeft_52 (tgt := 85) rfl ?_
  exact X_sub (sub_n (sub_s (sub_s sub_0))) (BX18_rotateLeft_85 f12.1 (gdV_le f12.2 (gdV_le f3.2 rv1)) (gdV_le f12.2 (gdV_le f3.2 rv2)) h (fun a b c => k a (DLe_trans (DLe_trans f3.2 f12.2) b) c))
def fX18_rotateLeft (v0 : Int) (v1 : Int) (D : DD) : Option (DD) := (if (v1) = 0 then some D else (if dO D (v1) 12 then (if dO D ((dW D (v1) 3)) 12 then (zl (dup D (v1) 3 ((dW D ((dW D (v1) 3)) 2))) fun D4 => (if ((dW D4 ((dW D (v1) 3)) 2)) = 0 then fX18_rotateLeft_b32 (v0) (v1) ((dW D (v1) 3)) D4 else (if dO D4 ((dW D4 ((dW D (v1) 3)) 2)) 12 then (zl (dup D4 ((dW D4 ((dW D (v1) 3)) 2)) 4 (v1)) fun D7 => fX18_rotateLeft_b32 (v0) (v1) ((dW D (v1) 3)) D7) else none))) else none) else none))
set_option maxRecDepth 100000 in
theorem CX18_rotateLeft {ln : Nat} {D : DD} {z : ZZ} {v0 : Int} {v1 : Int} (hD : okD D) (rv0 : gdV D v0) (rv1 : gdV D v1) {p : DD} (h : fX18_rotateLeft v0 v1 D = some p) : XD mX18_rotateLeft 0 (xEnt [rV (v0), rV (v1)] (xL mX18_rotateLeft)) [] ln D z (Qd (FdD D p (True)) (.inl (none)) (sD ln p z)) := by
  have k : K_w (Qd (FdD D p (True)) (.inl (none)) (sD ln p z)) ln D z p := fun a b c => ⟨⟨a, b, c⟩, rfl, rfl⟩
  unfold fX18_rotateLeft at h
  refine E_ent (c1_r (c1_r c1_n)) (M := [some (rV (v0)), some (rV (v1)), none]) rfl ?_
  refine E_aload_n (pc' := 1) dX18_rotateLeft_0 rfl rfl ?_
  refine E_ifnull dX18_rotateLeft_1 (tgt := 95) rfl (pc' := 4) rfl hD rv1 (fun c1 => ?_) (fun c1 => ?_)
  · have h := if_t c1 h
    cases h
    exact X_vret dX18_rotateLeft_95 rfl (k hD (DLe_refl _) trivial)
  have h := if_f c1 h
  refine E_aload_n (pc' := 5) dX18_rotateLeft_4 rfl rfl ?_
  obtain ⟨g2, h⟩ := gs h
  refine E_getR (pc' := 8) dX18_rotateLeft_5 rfl FX18_114_11 hD g2 rfl (j := 3) rfl ?_
  refine E_astore_n (pc' := 9) dX18_rotateLeft_8 rfl (cl rfl) (Or.inr (xC1_R _)) (L' := [some (rV (v0)), some (rV (v1)), some (rV ((dW D (v1) 3)))]) rfl ?_
  refine E_aload_n (pc' := 10) dX18_rotateLeft_9 rfl rfl ?_
  refine E_aload_n (pc' := 11) dX18_rotateLeft_10 rfl rfl ?_
  obtain ⟨g3, h⟩ := gs h
  refine E_getR (pc' := 14) dX18_rotateLeft_11 rfl FX18_111_11 hD g3 rfl (j := 2) rfl ?_
  refine E_putR (pc' := 17) dX18_rotateLeft_14 rfl FX18_114_11 hD g2 rfl (fun r hr => by cases hr; exact Or.inl rfl) (Or.inl ⟨_, rfl⟩) (j := 3) rfl ?_
  obtain ⟨D4, e4, f4, h⟩ := zl_some (P := fun q => okD q ∧ DLe D q) h ⟨okD_dup (k := 3) hD (okS_R g2 rfl (by decide) (gd_slot (k := 2) hD g3 rfl (by decide))), DLe_dup _ _ _ _⟩
  rw [e4]
  refine E_aload_n (pc' := 18) dX18_rotateLeft_17 rfl rfl ?_
  refine E_getR (pc' := 21) dX18_rotateLeft_18 rfl FX18_111_11 f4.1 (dO_le f4.2 g3) rfl (j := 2) rfl ?_
  refine E_ifnull dX18_rotateLeft_21 (tgt := 32) rfl (pc' := 24) rfl f4.1 (gd_slot (k := 2) f4.1 (dO_le f4.2 g3) rfl (by decide)) (fun c5 => ?_) (fun c5 => ?_)
  · have h := if_t c5 h
    exact X_sub (sub_s (sub_s (sub_s sub_0))) (BX18_rotateLeft_32 f4.1 (gdV_le f4.2 rv0) (gdV_le f4.2 rv1) (gdV_le f4.2 (gd_slot (k := 3) hD g2 rfl (by decide))) h (fun a b c => k a (DLe_trans f4.2 b) c))
  have h := if_f c5 h
  refine E_aload_n (pc' := 25) dX18_rotateLeft_24 rfl rfl ?_
  refine E_getR (pc' := 28) dX18_rotateLeft_25 rfl FX18_111_11 f4.1 (dO_le f4.2 g3) rfl (j := 2) rfl ?_
  refine E_aload_n (pc' := 29) dX18_rotateLeft_28 rfl rfl ?_
  obtain ⟨g6, h⟩ := gs h
  refine E_putR (pc' := 32) dX18_rotateLeft_29 rfl FX18_124_11 f4.1 g6 rfl (fun r hr => by cases hr; exact Or.inl rfl) (Or.inl ⟨_, rfl⟩) (j := 4) rfl ?_
  obtain ⟨D7, e7, f7, h⟩ := zl_some (P := fun q => okD q ∧ DLe D4 q) h ⟨okD_dup (k := 4) f4.1 (okS_R g6 rfl (by decide) (gdV_le f4.2 rv1)), DLe_dup _ _ _ _⟩
  rw [e7]
  exact X_sub (sub_s (sub_s (sub_s sub_0))) (BX18_rotateLeft_32 f7.1 (gdV_le f7.2 (gdV_le f4.2 rv0)) (gdV_le f7.2 (gdV_le f4.2 rv1)) (gdV_le f7.2 (gdV_le f4.2 (gd_slot (k := 3) hD g2 rfl (by decide)))) h (fun a b c => k a (DLe_trans (DLe_trans f4.2 f7.2) b) c))
def fX18_rotateRight_b85 (v1 : Int) (v2 : Int) (D : DD) : Option (DD) := (if dO D (v2) 12 then (zl (dup D (v2) 3 (v1)) fun D2 => (if dO D2 (v1) 12 then (zl (dup D2 (v1) 4 (v2)) fun D4 => some D4) else none)) else none)
set_option maxRecDepth 100000 in
theorem BX18_rotateRight_85 {ln : Nat} {D : DD} {z : ZZ} {v1 : Int} {v2 : Int} {Φ : xRes → xS → Prop} (hD : okD D) (rv1 : gdV D v1) (rv2 : gdV D v2) {p : DD} (h : fX18_rotateRight_b85 v1 v2 D = some p) (k : K_w Φ ln D z p) : XD mX18_rotateRight 85 [none, some (rV (v1)), some (rV (v2))] [] ln D z Φ := by
  unfold fX18_rotateRight_b85 at h
  refine E_aload_n (pc' := 86) dX18_rotateRight_85 rfl rfl ?_
  refine E_aload_n (pc' := 87) dX18_rotateRight_86 rfl rfl ?_
  obtain ⟨g1, h⟩ := gs h
  refine E_putR (pc' := 90) dX18_rotateRight_87 rfl FX18_114_11 hD g1 rfl (fun r hr => by cases hr; exact Or.inl rfl) (Or.inl ⟨_, rfl⟩) (j := 3) rfl ?_
  obtain ⟨D2, e2, f2, h⟩ := zl_some (P := fun q => okD q ∧ DLe D q) h ⟨okD_dup (k := 3) hD (okS_R g1 rfl (by decide) rv1), DLe_dup _ _ _ _⟩
  rw [e2]
  refine E_aload_n (pc' := 91) dX18_rotateRight_90 rfl rfl ?_
  refine E_aload_n (pc' := 92) dX18_rotateRight_91 rfl rfl ?_
  obtain ⟨g3, h⟩ := gs h
  refine E_putR (pc' := 95) dX18_rotateRight_92 rfl FX18_124_11 f2.1 g3 rfl (fun r hr => by cases hr; exact Or.inl rfl) (Or.inl ⟨_, rfl⟩) (j := 4) rfl ?_
  obtain ⟨D4, e4, f4, h⟩ := zl_some (P := fun q => okD q ∧ DLe D2 q) h ⟨okD_dup (k := 4) f2.1 (okS_R g3 rfl (by decide) (gdV_le f2.2 rv2)), DLe_dup _ _ _ _⟩
  rw [e4]
  cases h
  exact X_vret dX18_rotateRight_95 rfl (k f4.1 (DLe_trans f2.2 f4.2) trivial)
def fX18_rotateRight_b32 (v0 : Int) (v1 : Int) (v2 : Int) (D : DD) : Option (DD) := (if dO D (v1) 12 then (if dO D (v2) 12 then (zl (dup D (v2) 4 ((dW D (v1) 4))) fun D3 => (if ((dW D3 (v1) 4)) = 0 then (if dO D3 (v0) 11 then (zl (dup D3 (v0) 3 (v2)) fun D12 => fX18_rotateRight_b85 (v1) (v2) D12) else none) else (if dO D3 ((dW D3 (v1) 4)) 12 then (if cmpV D3 ((dW D3 ((dW D3 (v1) 4)) 3)) then (if cmpV D3 (v1) then (if ((dW D3 ((dW D3 (v1) 4)) 3)) = (v1) then (zl (dup D3 ((dW D3 (v1) 4)) 3 (v2)) fun D10 => fX18_rotateRight_b85 (v1) (v2) D10) else (zl (dup D3 ((dW D3 (v1) 4)) 2 (v2)) fun D9 => fX18_rotateRight_b85 (v1) (v2) D9)) else none) else none) else none))) else none) else none)
set_option maxRecDepth 100000 in
theorem BX18_rotateRight_32 {ln : Nat} {D : DD} {z : ZZ} {v0 : Int} {v1 : Int} {v2 : Int} {Φ : xRes → xS → Prop} (hD : okD D) (rv0 : gdV D v0) (rv1 : gdV D v1) (rv2 : gdV D v2) {p : DD} (h : fX18_rotateRight_b32 v0 v1 v2 D = some p) (k : K_w Φ ln D z p) : XD mX18_rotateRight 32 [some (rV (v0)), some (rV (v1)), some (rV (v2))] [] ln D z Φ := by
  unfold fX18_rotateRight_b32 at h
  refine E_aload_n (pc' := 33) dX18_rotateRight_32 rfl rfl ?_
  refine E_aload_n (pc' := 34) dX18_rotateRight_33 rfl rfl ?_
  obtain ⟨g1, h⟩ := gs h
  refine E_getR (pc' := 37) dX18_rotateRight_34 rfl FX18_124_11 hD g1 rfl (j := 4) rfl ?_
  obtain ⟨g2, h⟩ := gs h
  refine E_putR (pc' := 40) dX18_rotateRight_37 rfl FX18_124_11 hD g2 rfl (fun r hr => by cases hr; exact Or.inl rfl) (Or.inl ⟨_, rfl⟩) (j := 4) rfl ?_
  obtain ⟨D3, e3, f3, h⟩ := zl_some (P := fun q => okD q ∧ DLe D q) h ⟨okD_dup (k := 4) hD (okS_R g2 rfl (by decide) (gd_slot (k := 4) hD g1 rfl (by decide))), DLe_dup _ _ _ _⟩
  rw [e3]
  refine E_aload_n (pc' := 41) dX18_rotateRight_40 rfl rfl ?_
  refine E_getR (pc' := 44) dX18_rotateRight_41 rfl FX18_124_11 f3.1 (dO_le f3.2 g1) rfl (j := 4) rfl ?_
  refine E_ifnonnull dX18_rotateRight_44 (tgt := 55) rfl (pc' := 47) rfl f3.1 (gd_slot (k := 4) f3.1 (dO_le f3.2 g1) rfl (by decide)) (fun c4 => ?_) (fun c4 => ?_)
  · have h := if_f c4 h
    refine E_aload_n (pc' := 56) dX18_rotateRight_55 rfl rfl ?_
    refine E_getR (pc' := 59) dX18_rotateRight_56 rfl FX18_124_11 f3.1 (dO_le f3.2 g1) rfl (j := 4) rfl ?_
    obtain ⟨g5, h⟩ := gs h
    refine E_getR (pc' := 62) dX18_rotateRight_59 rfl FX18_114_11 f3.1 g5 rfl (j := 3) rfl ?_
    refine E_aload_n (pc' := 63) dX18_rotateRight_62 rfl rfl ?_
    obtain ⟨g7, h⟩ := gs h
    obtain ⟨g8, h⟩ := gs h
    refine E_acmp_ne dX18_rotateRight_63 (tgt := 77) rfl (pc' := 66) rfl g7 g8 (fun c6 => ?_) (fun c6 => ?_)
    · have h := if_f c6 h
      refine E_aload_n (pc' := 78) dX18_rotateRight_77 rfl rfl ?_
      refine E_getR (pc' := 81) dX18_rotateRight_78 rfl FX18_124_11 f3.1 (dO_le f3.2 g1) rfl (j := 4) rfl ?_
      refine E_aload_n (pc' := 82) dX18_rotateRight_81 rfl rfl ?_
      refine E_putR (pc' := 85) dX18_rotateRight_82 rfl FX18_111_11 f3.1 g5 rfl (fun r hr => by cases hr; exact Or.inl rfl) (Or.inl ⟨_, rfl⟩) (j := 2) rfl ?_
      obtain ⟨D9, e9, f9, h⟩ := zl_some (P := fun q => okD q ∧ DLe D3 q) h ⟨okD_dup (k := 2) f3.1 (okS_R g5 rfl (by decide) (gdV_le f3.2 rv2)), DLe_dup _ _ _ _⟩
      rw [e9]
      exact X_sub (sub_n (sub_s (sub_s sub_0))) (BX18_rotateRight_85 f9.1 (gdV_le f9.2 (gdV_le f3.2 rv1)) (gdV_le f9.2 (gdV_le f3.2 rv2)) h (fun a b c => k a (DLe_trans (DLe_trans f3.2 f9.2) b) c))
    have h := if_t c6 h
    refine E_aload_n (pc' := 67) dX18_rotateRight_66 rfl rfl ?_
    refine E_getR (pc' := 70) dX18_rotateRight_67 rfl FX18_124_11 f3.1 (dO_le f3.2 g1) rfl (j := 4) rfl ?_
    refine E_aload_n (pc' := 71) dX18_rotateRight_70 rfl rfl ?_
    refine E_putR (pc' := 74) dX18_rotateRight_71 rfl FX18_114_11 f3.1 g5 rfl (fun r hr => by cases hr; exact Or.inl rfl) (Or.inl ⟨_, rfl⟩) (j := 3) rfl ?_
    obtain ⟨D10, e10, f10, h⟩ := zl_some (P := fun q => okD q ∧ DLe D3 q) h ⟨okD_dup (k := 3) f3.1 (okS_R g5 rfl (by decide) (gdV_le f3.2 rv2)), DLe_dup _ _ _ _⟩
    rw [e10]
    refine X_goto dX18_rotateRight_74 (tgt := 85) rfl ?_
    exact X_sub (sub_n (sub_s (sub_s sub_0))) (BX18_rotateRight_85 f10.1 (gdV_le f10.2 (gdV_le f3.2 rv1)) (gdV_le f10.2 (gdV_le f3.2 rv2)) h (fun a b c => k a (DLe_trans (DLe_trans f3.2 f10.2) b) c))
  have h := if_t c4 h
  refine E_aload_n (pc' := 48) dX18_rotateRight_47 rfl rfl ?_
  refine E_aload_n (pc' := 49) dX18_rotateRight_48 rfl rfl ?_
  obtain ⟨g11, h⟩ := gs h
  refine E_putR (pc' := 52) dX18_rotateRight_49 rfl FX18_101_10 f3.1 g11 rfl (fun r hr => by cases hr; exact Or.inl rfl) (Or.inl ⟨_, rfl⟩) (j := 3) rfl ?_
  obtain ⟨D12, e12, f12, h⟩ := zl_some (P := fun q => okD q ∧ DLe D3 q) h ⟨okD_dup (k := 3) f3.1 (okS_R g11 rfl (by decide) (gdV_le f3.2 rv2)), DLe_dup _ _ _ _⟩
  rw [e12]
  refine X_goto dX18_rotateRight_52 (tgt := 85) rfl ?_
  exact X_sub (sub_n (sub_s (sub_s sub_0))) (BX18_rotateRight_85 f12.1 (gdV_le f12.2 (gdV_le f3.2 rv1)) (gdV_le f12.2 (gdV_le f3.2 rv2)) h (fun a b c => k a (DLe_trans (DLe_trans f3.2 f12.2) b) c))
def fX18_rotateRight (v0 : Int) (v1 : Int) (D : DD) : Option (DD) := (if (v1) = 0 then some D else (if dO D (v1) 12 then (if dO D ((dW D (v1) 2)) 12 then (zl (dup D (v1) 2 ((dW D ((dW D (v1) 2)) 3))) fun D4 => (if ((dW D4 ((dW D (v1) 2)) 3)) = 0 then fX18_rotateRight_b32 (v0) (v1) ((dW D (v1) 2)) D4 else (if dO D4 ((dW D4 ((dW D (v1) 2)) 3)) 12 then (zl (dup D4 ((dW D4 ((dW D (v1) 2)) 3)) 4 (v1)) fun D7 => fX18_rotateRight_b32 (v0) (v1) ((dW D (v1) 2)) D7) else none))) else none) else none))
set_option maxRecDepth 100000 in
theorem CX18_rotateRight {ln : Nat} {D : DD} {z : ZZ} {v0 : Int} {v1 : Int} (hD : okD D) (rv0 : gdV D v0) (rv1 : gdV D v1) {p : DD} (h : fX18_rotateRight v0 v1 D = some p) : XD mX18_rotateRight 0 (xEnt [rV (v0), rV (v1)] (xL mX18_rotateRight)) [] ln D z (Qd (FdD D p (True)) (.inl (none)) (sD ln p z)) := by
  have k : K_w (Qd (FdD D p (True)) (.inl (none)) (sD ln p z)) ln D z p := fun a b c => ⟨⟨a, b, c⟩, rfl, rfl⟩
  unfold fX18_rotateRight at h
  refine E_ent (c1_r (c1_r c1_n)) (M := [some (rV (v0)), some (rV (v1)), none]) rfl ?_
  refine E_aload_n (pc' := 1) dX18_rotateRight_0 rfl rfl ?_
  refine E_ifnull dX18_rotateRight_1 (tgt := 95) rfl (pc' := 4) rfl hD rv1 (fun c1 => ?_) (fun c1 => ?_)
  · have h := if_t c1 h
    cases h
    exact X_vret dX18_rotateRight_95 rfl (k hD (DLe_refl _) trivial)
  have h := if_f c1 h
  refine E_aload_n (pc' := 5) dX18_rotateRight_4 rfl rfl ?_
  obtain ⟨g2, h⟩ := gs h
  refine E_getR (pc' := 8) dX18_rotateRight_5 rfl FX18_111_11 hD g2 rfl (j := 2) rfl ?_
  refine E_astore_n (pc' := 9) dX18_rotateRight_8 rfl (cl rfl) (Or.inr (xC1_R _)) (L' := [some (rV (v0)), some (rV (v1)), some (rV ((dW D (v1) 2)))]) rfl ?_
  refine E_aload_n (pc' := 10) dX18_rotateRight_9 rfl rfl ?_
  refine E_aload_n (pc' := 11) dX18_rotateRight_10 rfl rfl ?_
  obtain ⟨g3, h⟩ := gs h
  refine E_getR (pc' := 14) dX18_rotateRight_11 rfl FX18_114_11 hD g3 rfl (j := 3) rfl ?_
  refine E_putR (pc' := 17) dX18_rotateRight_14 rfl FX18_111_11 hD g2 rfl (fun r hr => by cases hr; exact Or.inl rfl) (Or.inl ⟨_, rfl⟩) (j := 2) rfl ?_
  obtain ⟨D4, e4, f4, h⟩ := zl_some (P := fun q => okD q ∧ DLe D q) h ⟨okD_dup (k := 2) hD (okS_R g2 rfl (by decide) (gd_slot (k := 3) hD g3 rfl (by decide))), DLe_dup _ _ _ _⟩
  rw [e4]
  refine E_aload_n (pc' := 18) dX18_rotateRight_17 rfl rfl ?_
  refine E_getR (pc' := 21) dX18_rotateRight_18 rfl FX18_114_11 f4.1 (dO_le f4.2 g3) rfl (j := 3) rfl ?_
  refine E_ifnull dX18_rotateRight_21 (tgt := 32) rfl (pc' := 24) rfl f4.1 (gd_slot (k := 3) f4.1 (dO_le f4.2 g3) rfl (by decide)) (fun c5 => ?_) (fun c5 => ?_)
  · have h := if_t c5 h
    exact X_sub (sub_s (sub_s (sub_s sub_0))) (BX18_rotateRight_32 f4.1 (gdV_le f4.2 rv0) (gdV_le f4.2 rv1) (gdV_le f4.2 (gd_slot (k := 2) hD g2 rfl (by decide))) h (fun a b c => k a (DLe_trans f4.2 b) c))
  have h := if_f c5 h
  refine E_aload_n (pc' := 25) dX18_rotateRight_24 rfl rfl ?_
  refine E_getR (pc' := 28) dX18_rotateRight_25 rfl FX18_114_11 f4.1 (dO_le f4.2 g3) rfl (j := 3) rfl ?_
  refine E_aload_n (pc' := 29) dX18_rotateRight_28 rfl rfl ?_
  obtain ⟨g6, h⟩ := gs h
  refine E_putR (pc' := 32) dX18_rotateRight_29 rfl FX18_124_11 f4.1 g6 rfl (fun r hr => by cases hr; exact Or.inl rfl) (Or.inl ⟨_, rfl⟩) (j := 4) rfl ?_
  obtain ⟨D7, e7, f7, h⟩ := zl_some (P := fun q => okD q ∧ DLe D4 q) h ⟨okD_dup (k := 4) f4.1 (okS_R g6 rfl (by decide) (gdV_le f4.2 rv1)), DLe_dup _ _ _ _⟩
  rw [e7]
  exact X_sub (sub_s (sub_s (sub_s sub_0))) (BX18_rotateRight_32 f7.1 (gdV_le f7.2 (gdV_le f4.2 rv0)) (gdV_le f7.2 (gdV_le f4.2 rv1)) (gdV_le f7.2 (gdV_le f4.2 (gd_slot (k := 2) hD g2 rfl (by decide)))) h (fun a b c => k a (DLe_trans (DLe_trans f4.2 f7.2) b) c))
def fX18_fixAfterInsertion_b255 (v0 : Int) (v1 : Int) (D : DD) : Option ((Int × DD) ⊕ (DD)) := some (.inl (v1, D))
set_option maxRecDepth 100000 in
theorem BX18_fixAfterInsertion_255 {ln : Nat} {D : DD} {z : ZZ} {v0 : Int} {v1 : Int} {Φ : xRes → xS → Prop} (hD : okD D) (rv0 : gdV D v0) (rv1 : gdV D v1) {p : (Int × DD) ⊕ (DD)} (h : fX18_fixAfterInsertion_b255 v0 v1 D = some p) (k1 : ∀ (v1' : Int) (D' : DD), p = .inl (v1', D') → okD D' → DLe D D' → gdV D' v1' → XD mX18_fixAfterInsertion 5 [some (rV (v0)), some (rV (v1')), none] [] ln D' z Φ) (k2 : ∀ (D' : DD), p = .inr D' → okD D' → DLe D D' → XD mX18_fixAfterInsertion 258 [some (rV (v0)), none, none] [] ln D' z Φ) : XD mX18_fixAfterInsertion 255 [some (rV (v0)), some (rV (v1)), none] [] ln D z Φ := by
  unfold fX18_fixAfterInsertion_b255 at h
  refine X_goto dX18_fixAfterInsertion_255 (tgt := 5) rfl ?_
  cases h
  exact X_sub (sub_s (sub_s (sub_n sub_0))) (k1 _ _ rfl hD (DLe_refl _) rv1)
def fX18_fixAfterInsertion_b225 (v0 : Int) (v1 : Int) (D : DD) : Option ((Int × DD) ⊕ (DD)) := (Option.bind (fX18_parentOf (v1) D) fun r1 => (Option.bind (fX18_setColor (r1) (1) D) fun D2 => (Option.bind (fX18_parentOf (v1) D2) fun r3 => (Option.bind (fX18_parentOf (r3) D2) fun r4 => (Option.bind (fX18_setColor (r4) (0) D2) fun D5 => (Option.bind (fX18_parentOf (v1) D5) fun r6 => (Option.bind (fX18_parentOf (r6) D5) fun r7 => (Option.bind (fX18_rotateLeft (v0) (r7) D5) fun D8 => (if dO D5 (v0) 11 then fX18_fixAfterInsertion_b255 (v0) (v1) D8 else none)))))))))
set_option maxRecDepth 100000 in
theorem BX18_fixAfterInsertion_225 {ln : Nat} {D : DD} {z : ZZ} {v0 : Int} {v1 : Int} {Φ : xRes → xS → Prop} (hD : okD D) (rv0 : gdV D v0) (rv1 : gdV D v1) {p : (Int × DD) ⊕ (DD)} (h : fX18_fixAfterInsertion_b225 v0 v1 D = some p) (k1 : ∀ (v1' : Int) (D' : DD), p = .inl (v1', D') → okD D' → DLe D D' → gdV D' v1' → XD mX18_fixAfterInsertion 5 [some (rV (v0)), some (rV (v1')), none] [] ln D' z Φ) (k2 : ∀ (D' : DD), p = .inr D' → okD D' → DLe D D' → XD mX18_fixAfterInsertion 258 [some (rV (v0)), none, none] [] ln D' z Φ) : XD mX18_fixAfterInsertion 225 [some (rV (v0)), some (rV (v1)), none] [] ln D z Φ := by
  unfold fX18_fixAfterInsertion_b225 at h
  refine E_aload_n (pc' := 226) dX18_fixAfterInsertion_225 rfl rfl ?_
  obtain ⟨r1, q1, h⟩ := bs h
  refine E_callS [rV (v1)] (pc' := 229) dX18_fixAfterInsertion_226 rfl (xSn SX18_294) (by decide) rfl (c1_r c1_n) (cs rfl) c1_n (cs rfl) rfl hD (CX18_parentOf hD rv1 q1) (fun a1 b1 f1 => ?_)
  refine X_iconst (pc' := 230) dX18_fixAfterInsertion_229 rfl ?_
  obtain ⟨D2, q2, h⟩ := bs h
  refine E_callS [rV (r1), .int (iN (1))] (pc' := 233) dX18_fixAfterInsertion_230 rfl (xSn SX18_307) (by decide) rfl (c1_r (c1_i c1_n)) (cs rfl) c1_n (cs rfl) rfl hD (CX18_setColor hD f1 (inR_c (n := 1) rfl) q2) (fun a2 b2 f2 => ?_)
  refine E_aload_n (pc' := 234) dX18_fixAfterInsertion_233 rfl rfl ?_
  obtain ⟨r3, q3, h⟩ := bs h
  refine E_callS [rV (v1)] (pc' := 237) dX18_fixAfterInsertion_234 rfl (xSn SX18_294) (by decide) rfl (c1_r c1_n) (cs rfl) c1_n (cs rfl) rfl a2 (CX18_parentOf a2 (gdV_le b2 rv1) q3) (fun a3 b3 f3 => ?_)
  obtain ⟨r4, q4, h⟩ := bs h
  refine E_callS [rV (r3)] (pc' := 240) dX18_fixAfterInsertion_237 rfl (xSn SX18_294) (by decide) rfl (c1_r c1_n) (cs rfl) c1_n (cs rfl) rfl a2 (CX18_parentOf a2 f3 q4) (fun a4 b4 f4 => ?_)
  refine X_iconst (pc' := 241) dX18_fixAfterInsertion_240 rfl ?_
  obtain ⟨D5, q5, h⟩ := bs h
  refine E_callS [rV (r4), .int (iN (0))] (pc' := 244) dX18_fixAfterInsertion_241 rfl (xSn SX18_307) (by decide) rfl (c1_r (c1_i c1_n)) (cs rfl) c1_n (cs rfl) rfl a2 (CX18_setColor a2 f4 (inR_c (n := 0) rfl) q5) (fun a5 b5 f5 => ?_)
  refine E_aload_n (pc' := 245) dX18_fixAfterInsertion_244 rfl rfl ?_
  refine E_aload_n (pc' := 246) dX18_fixAfterInsertion_245 rfl rfl ?_
  obtain ⟨r6, q6, h⟩ := bs h
  refine E_callS [rV (v1)] (pc' := 249) dX18_fixAfterInsertion_246 rfl (xSn SX18_294) (by decide) rfl (c1_r c1_n) (cs rfl) (c1_r c1_n) (cs rfl) rfl a5 (CX18_parentOf a5 (gdV_le b5 (gdV_le b2 rv1)) q6) (fun a6 b6 f6 => ?_)
  obtain ⟨r7, q7, h⟩ := bs h
  refine E_callS [rV (r6)] (pc' := 252) dX18_fixAfterInsertion_249 rfl (xSn SX18_294) (by decide) rfl (c1_r c1_n) (cs rfl) (c1_r c1_n) (cs rfl) rfl a5 (CX18_parentOf a5 f6 q7) (fun a7 b7 f7 => ?_)
  obtain ⟨D8, q8, h⟩ := bs h
  obtain ⟨g9, h⟩ := gs h
  refine E_callV [rV (r7)] (pc' := 255) dX18_fixAfterInsertion_252 rfl (xVc VX18_311) (by decide) ⟨dO_pos g9, dO_is a5 g9 rfl⟩ rfl (c1_r c1_n) (cs rfl) c1_n (cs rfl) rfl a5 (CX18_rotateLeft a5 (gdV_le b5 (gdV_le b2 rv0)) f7 q8) (fun a8 b8 f8 => ?_)
  exact X_sub (sub_s (sub_s (sub_n sub_0))) (BX18_fixAfterInsertion_255 a8 (gdV_le b8 (gdV_le b5 (gdV_le b2 rv0))) (gdV_le b8 (gdV_le b5 (gdV_le b2 rv1))) h (fun x0 D9 hh a b f0 => k1 x0 D9 hh a (DLe_trans (DLe_trans (DLe_trans b2 b5) b8) b) f0) (fun D9 hh a b => k2 D9 hh a (DLe_trans (DLe_trans (DLe_trans b2 b5) b8) b)))
def fX18_fixAfterInsertion_b148 (v0 : Int) (v1 : Int) (D : DD) : Option ((Int × DD) ⊕ (DD)) := some (.inl (v1, D))
set_option maxRecDepth 100000 in
theorem BX18_fixAfterInsertion_148 {ln : Nat} {D : DD} {z : ZZ} {v0 : Int} {v1 : Int} {Φ : xRes → xS → Prop} (hD : okD D) (rv0 : gdV D v0) (rv1 : gdV D v1) {p : (Int × DD) ⊕ (DD)} (h : fX18_fixAfterInsertion_b148 v0 v1 D = some p) (k1 : ∀ (v1' : Int) (D' : DD), p = .inl (v1', D') → okD D' → DLe D D' → gdV D' v1' → XD mX18_fixAfterInsertion 5 [some (rV (v0)), some (rV (v1')), none] [] ln D' z Φ) (k2 : ∀ (D' : DD), p = .inr D' → okD D' → DLe D D' → XD mX18_fixAfterInsertion 258 [some (rV (v0)), none, none] [] ln D' z Φ) : XD mX18_fixAfterInsertion 148 [some (rV (v0)), some (rV (v1)), none] [] ln D z Φ := by
  unfold fX18_fixAfterInsertion_b148 at h
  refine X_goto dX18_fixAfterInsertion_148 (tgt := 5) rfl ?_
  cases h
  exact X_sub (sub_s (sub_s (sub_n sub_0))) (k1 _ _ rfl hD (DLe_refl _) rv1)
def fX18_fixAfterInsertion_b118 (v0 : Int) (v1 : Int) (D : DD) : Option ((Int × DD) ⊕ (DD)) := (Option.bind (fX18_parentOf (v1) D) fun r1 => (Option.bind (fX18_setColor (r1) (1) D) fun D2 => (Option.bind (fX18_parentOf (v1) D2) fun r3 => (Option.bind (fX18_parentOf (r3) D2) fun r4 => (Option.bind (fX18_setColor (r4) (0) D2) fun D5 => (Option.bind (fX18_parentOf (v1) D5) fun r6 => (Option.bind (fX18_parentOf (r6) D5) fun r7 => (Option.bind (fX18_rotateRight (v0) (r7) D5) fun D8 => (if dO D5 (v0) 11 then fX18_fixAfterInsertion_b148 (v0) (v1) D8 else none)))))))))
set_option maxRecDepth 100000 in
theorem BX18_fixAfterInsertion_118 {ln : Nat} {D : DD} {z : ZZ} {v0 : Int} {v1 : Int} {Φ : xRes → xS → Prop} (hD : okD D) (rv0 : gdV D v0) (rv1 : gdV D v1) {p : (Int × DD) ⊕ (DD)} (h : fX18_fixAfterInsertion_b118 v0 v1 D = some p) (k1 : ∀ (v1' : Int) (D' : DD), p = .inl (v1', D') → okD D' → DLe D D' → gdV D' v1' → XD mX18_fixAfterInsertion 5 [some (rV (v0)), some (rV (v1')), none] [] ln D' z Φ) (k2 : ∀ (D' : DD), p = .inr D' → okD D' → DLe D D' → XD mX18_fixAfterInsertion 258 [some (rV (v0)), none, none] [] ln D' z Φ) : XD mX18_fixAfterInsertion 118 [some (rV (v0)), some (rV (v1)), none] [] ln D z Φ := by
  unfold fX18_fixAfterInsertion_b118 at h
  refine E_aload_n (pc' := 119) dX18_fixAfterInsertion_118 rfl rfl ?_
  obtain ⟨r1, q1, h⟩ := bs h
  refine E_callS [rV (v1)] (pc' := 122) dX18_fixAfterInsertion_119 rfl (xSn SX18_294) (by decide) rfl (c1_r c1_n) (cs rfl) c1_n (cs rfl) rfl hD (CX18_parentOf hD rv1 q1) (fun a1 b1 f1 => ?_)
  refine X_iconst (pc' := 123) dX18_fixAfterInsertion_122 rfl ?_
  obtain ⟨D2, q2, h⟩ := bs h
  refine E_callS [rV (r1), .int (iN (1))] (pc' := 126) dX18_fixAfterInsertion_123 rfl (xSn SX18_307) (by decide) rfl (c1_r (c1_i c1_n)) (cs rfl) c1_n (cs rfl) rfl hD (CX18_setColor hD f1 (inR_c (n := 1) rfl) q2) (fun a2 b2 f2 => ?_)
  refine E_aload_n (pc' := 127) dX18_fixAfterInsertion_126 rfl rfl ?_
  obtain ⟨r3, q3, h⟩ := bs h
  refine E_callS [rV (v1)] (pc' := 130) dX18_fixAfterInsertion_127 rfl (xSn SX18_294) (by decide) rfl (c1_r c1_n) (cs rfl) c1_n (cs rfl) rfl a2 (CX18_parentOf a2 (gdV_le b2 rv1) q3) (fun a3 b3 f3 => ?_)
  obtain ⟨r4, q4, h⟩ := bs h
  refine E_callS [rV (r3)] (pc' := 133) dX18_fixAfterInsertion_130 rfl (xSn SX18_294) (by decide) rfl (c1_r c1_n) (cs rfl) c1_n (cs rfl) rfl a2 (CX18_parentOf a2 f3 q4) (fun a4 b4 f4 => ?_)
  refine X_iconst (pc' := 134) dX18_fixAfterInsertion_133 rfl ?_
  obtain ⟨D5, q5, h⟩ := bs h
  refine E_callS [rV (r4), .int (iN (0))] (pc' := 137) dX18_fixAfterInsertion_134 rfl (xSn SX18_307) (by decide) rfl (c1_r (c1_i c1_n)) (cs rfl) c1_n (cs rfl) rfl a2 (CX18_setColor a2 f4 (inR_c (n := 0) rfl) q5) (fun a5 b5 f5 => ?_)
  refine E_aload_n (pc' := 138) dX18_fixAfterInsertion_137 rfl rfl ?_
  refine E_aload_n (pc' := 139) dX18_fixAfterInsertion_138 rfl rfl ?_
  obtain ⟨r6, q6, h⟩ := bs h
  refine E_callS [rV (v1)] (pc' := 142) dX18_fixAfterInsertion_139 rfl (xSn SX18_294) (by decide) rfl (c1_r c1_n) (cs rfl) (c1_r c1_n) (cs rfl) rfl a5 (CX18_parentOf a5 (gdV_le b5 (gdV_le b2 rv1)) q6) (fun a6 b6 f6 => ?_)
  obtain ⟨r7, q7, h⟩ := bs h
  refine E_callS [rV (r6)] (pc' := 145) dX18_fixAfterInsertion_142 rfl (xSn SX18_294) (by decide) rfl (c1_r c1_n) (cs rfl) (c1_r c1_n) (cs rfl) rfl a5 (CX18_parentOf a5 f6 q7) (fun a7 b7 f7 => ?_)
  obtain ⟨D8, q8, h⟩ := bs h
  obtain ⟨g9, h⟩ := gs h
  refine E_callV [rV (r7)] (pc' := 148) dX18_fixAfterInsertion_145 rfl (xVc VX18_314) (by decide) ⟨dO_pos g9, dO_is a5 g9 rfl⟩ rfl (c1_r c1_n) (cs rfl) c1_n (cs rfl) rfl a5 (CX18_rotateRight a5 (gdV_le b5 (gdV_le b2 rv0)) f7 q8) (fun a8 b8 f8 => ?_)
  exact X_sub (sub_s (sub_s (sub_n sub_0))) (BX18_fixAfterInsertion_148 a8 (gdV_le b8 (gdV_le b5 (gdV_le b2 rv0))) (gdV_le b8 (gdV_le b5 (gdV_le b2 rv1))) h (fun x0 D9 hh a b f0 => k1 x0 D9 hh a (DLe_trans (DLe_trans (DLe_trans b2 b5) b8) b) f0) (fun D9 hh a b => k2 D9 hh a (DLe_trans (DLe_trans (DLe_trans b2 b5) b8) b)))
def fX18_fixAfterInsertion_s5 (v0 : Int) (v1 : Int) (D : DD) : Option ((Int × DD) ⊕ (DD)) := (if (v1) = 0 then some (.inr D) else (if dO D (v0) 11 then (if cmpV D (v1) then (if cmpV D ((dW D (v0) 3)) then (if (v1) = ((dW D (v0) 3)) then some (.inr D) else (if dO D (v1) 12 then (if dO D ((dW D (v1) 4)) 12 then (if ((dW D ((dW D (v1) 4)) 5)) = (0) then (Option.bind (fX18_parentOf (v1) D) fun r9 => (Option.bind (fX18_parentOf (v1) D) fun r10 => (Option.bind (fX18_parentOf (r10) D) fun r11 => (Option.bind (fX18_leftOf (r11) D) fun r12 => (if cmpV D (r9) then (if cmpV D (r12) then (if (r9) = (r12) then (Option.bind (fX18_parentOf (v1) D) fun r35 => (Option.bind (fX18_parentOf (r35) D) fun r36 => (Option.bind (fX18_rightOf (r36) D) fun r37 => (Option.bind (fX18_colorOf (r37) D) fun r38 => (if (r38) = (0) then (Option.bind (fX18_parentOf (v1) D) fun r46 => (Option.bind (fX18_setColor (r46) (1) D) fun D47 => (Option.bind (fX18_setColor (r37) (1) D47) fun D48 => (Option.bind (fX18_parentOf (v1) D48) fun r49 => (Option.bind (fX18_parentOf (r49) D48) fun r50 => (Option.bind (fX18_setColor (r50) (0) D48) fun D51 => (Option.bind (fX18_parentOf (v1) D51) fun r52 => (Option.bind (fX18_parentOf (r52) D51) fun r53 => fX18_fixAfterInsertion_b148 (v0) (r53) D51)))))))) else (Option.bind (fX18_parentOf (v1) D) fun r40 => (Option.bind (fX18_rightOf (r40) D) fun r41 => (if cmpV D (r41) then (if (v1) = (r41) then (Option.bind (fX18_parentOf (v1) D) fun r44 => (Option.bind (fX18_rotateLeft (v0) (r44) D) fun D45 => fX18_fixAfterInsertion_b118 (v0) (r44) D45)) else fX18_fixAfterInsertion_b118 (v0) (v1) D) else none)))))))) else (Option.bind (fX18_parentOf (v1) D) fun r16 => (Option.bind (fX18_parentOf (r16) D) fun r17 => (Option.bind (fX18_leftOf (r17) D) fun r18 => (Option.bind (fX18_colorOf (r18) D) fun r19 => (if (r19) = (0) then (Option.bind (fX18_parentOf (v1) D) fun r27 => (Option.bind (fX18_setColor (r27) (1) D) fun D28 => (Option.bind (fX18_setColor (r18) (1) D28) fun D29 => (Option.bind (fX18_parentOf (v1) D29) fun r30 => (Option.bind (fX18_parentOf (r30) D29) fun r31 => (Option.bind (fX18_setColor (r31) (0) D29) fun D32 => (Option.bind (fX18_parentOf (v1) D32) fun r33 => (Option.bind (fX18_parentOf (r33) D32) fun r34 => fX18_fixAfterInsertion_b255 (v0) (r34) D32)))))))) else (Option.bind (fX18_parentOf (v1) D) fun r21 => (Option.bind (fX18_leftOf (r21) D) fun r22 => (if cmpV D (r22) then (if (v1) = (r22) then (Option.bind (fX18_parentOf (v1) D) fun r25 => (Option.bind (fX18_rotateRight (v0) (r25) D) fun D26 => fX18_fixAfterInsertion_b225 (v0) (r25) D26)) else fX18_fixAfterInsertion_b225 (v0) (v1) D) else none))))))))) else none) else none))))) else some (.inr D)) else none) else none)) else none) else none) else none))
set_option maxRecDepth 100000 in
theorem SX18_fixAfterInsertion_5 {ln : Nat} {D : DD} {z : ZZ} {v0 : Int} {v1 : Int} {Φ : xRes → xS → Prop} (hD : okD D) (rv0 : gdV D v0) (rv1 : gdV D v1) {p : (Int × DD) ⊕ (DD)} (h : fX18_fixAfterInsertion_s5 v0 v1 D = some p) (k1 : ∀ (v1' : Int) (D' : DD), p = .inl (v1', D') → okD D' → DLe D D' → gdV D' v1' → XD mX18_fixAfterInsertion 5 [some (rV (v0)), some (rV (v1')), none] [] ln D' z Φ) (k2 : ∀ (D' : DD), p = .inr D' → okD D' → DLe D D' → XD mX18_fixAfterInsertion 258 [some (rV (v0)), none, none] [] ln D' z Φ) : XD mX18_fixAfterInsertion 5 [some (rV (v0)), some (rV (v1)), none] [] ln D z Φ := by
  unfold fX18_fixAfterInsertion_s5 at h
  refine E_aload_n (pc' := 6) dX18_fixAfterInsertion_5 rfl rfl ?_
  refine E_ifnull dX18_fixAfterInsertion_6 (tgt := 258) rfl (pc' := 9) rfl hD rv1 (fun c1 => ?_) (fun c1 => ?_)
  · have h := if_t c1 h
    cases h
    exact X_sub (sub_s (sub_n (sub_n sub_0))) (k2 _ rfl hD (DLe_refl _))
  have h := if_f c1 h
  refine E_aload_n (pc' := 10) dX18_fixAfterInsertion_9 rfl rfl ?_
  refine E_aload_n (pc' := 11) dX18_fixAfterInsertion_10 rfl rfl ?_
  obtain ⟨g2, h⟩ := gs h
  refine E_getR (pc' := 14) dX18_fixAfterInsertion_11 rfl FX18_101_10 hD g2 rfl (j := 3) rfl ?_
  obtain ⟨g4, h⟩ := gs h
  obtain ⟨g5, h⟩ := gs h
  refine E_acmp_eq dX18_fixAfterInsertion_14 (tgt := 258) rfl (pc' := 17) rfl g4 g5 (fun c3 => ?_) (fun c3 => ?_)
  · have h := if_t c3 h
    cases h
    exact X_sub (sub_s (sub_n (sub_n sub_0))) (k2 _ rfl hD (DLe_refl _))
  have h := if_f c3 h
  refine E_aload_n (pc' := 18) dX18_fixAfterInsertion_17 rfl rfl ?_
  obtain ⟨g6, h⟩ := gs h
  refine E_getR (pc' := 21) dX18_fixAfterInsertion_18 rfl FX18_124_11 hD g6 rfl (j := 4) rfl ?_
  obtain ⟨g7, h⟩ := gs h
  refine E_getI (pc' := 24) dX18_fixAfterInsertion_21 rfl FX18_290_11 hD g7 rfl (j := 5) rfl ?_
  refine X_if_ne dX18_fixAfterInsertion_24 (tgt := 258) rfl (pc' := 27) rfl (in_slot (k := 5) hD g7 rfl (by decide)) (fun c8 => ?_) (fun c8 => ?_)
  · have h := if_f c8 h
    cases h
    exact X_sub (sub_s (sub_n (sub_n sub_0))) (k2 _ rfl hD (DLe_refl _))
  have h := if_t c8 h
  refine E_aload_n (pc' := 28) dX18_fixAfterInsertion_27 rfl rfl ?_
  obtain ⟨r9, q9, h⟩ := bs h
  refine E_callS [rV (v1)] (pc' := 31) dX18_fixAfterInsertion_28 rfl (xSn SX18_294) (by decide) rfl (c1_r c1_n) (cs rfl) c1_n (cs rfl) rfl hD (CX18_parentOf hD rv1 q9) (fun a9 b9 f9 => ?_)
  refine E_aload_n (pc' := 32) dX18_fixAfterInsertion_31 rfl rfl ?_
  obtain ⟨r10, q10, h⟩ := bs h
  refine E_callS [rV (v1)] (pc' := 35) dX18_fixAfterInsertion_32 rfl (xSn SX18_294) (by decide) rfl (c1_r c1_n) (cs rfl) (c1_r c1_n) (cs rfl) rfl hD (CX18_parentOf hD rv1 q10) (fun a10 b10 f10 => ?_)
  obtain ⟨r11, q11, h⟩ := bs h
  refine E_callS [rV (r10)] (pc' := 38) dX18_fixAfterInsertion_35 rfl (xSn SX18_294) (by decide) rfl (c1_r c1_n) (cs rfl) (c1_r c1_n) (cs rfl) rfl hD (CX18_parentOf hD f10 q11) (fun a11 b11 f11 => ?_)
  obtain ⟨r12, q12, h⟩ := bs h
  refine E_callS [rV (r11)] (pc' := 41) dX18_fixAfterInsertion_38 rfl (xSn SX18_297) (by decide) rfl (c1_r c1_n) (cs rfl) (c1_r c1_n) (cs rfl) rfl hD (CX18_leftOf hD f11 q12) (fun a12 b12 f12 => ?_)
  obtain ⟨g14, h⟩ := gs h
  obtain ⟨g15, h⟩ := gs h
  refine E_acmp_ne dX18_fixAfterInsertion_41 (tgt := 151) rfl (pc' := 44) rfl g14 g15 (fun c13 => ?_) (fun c13 => ?_)
  · have h := if_f c13 h
    refine E_aload_n (pc' := 152) dX18_fixAfterInsertion_151 rfl rfl ?_
    obtain ⟨r16, q16, h⟩ := bs h
    refine E_callS [rV (v1)] (pc' := 155) dX18_fixAfterInsertion_152 rfl (xSn SX18_294) (by decide) rfl (c1_r c1_n) (cs rfl) c1_n (cs rfl) rfl hD (CX18_parentOf hD rv1 q16) (fun a16 b16 f16 => ?_)
    obtain ⟨r17, q17, h⟩ := bs h
    refine E_callS [rV (r16)] (pc' := 158) dX18_fixAfterInsertion_155 rfl (xSn SX18_294) (by decide) rfl (c1_r c1_n) (cs rfl) c1_n (cs rfl) rfl hD (CX18_parentOf hD f16 q17) (fun a17 b17 f17 => ?_)
    obtain ⟨r18, q18, h⟩ := bs h
    refine E_callS [rV (r17)] (pc' := 161) dX18_fixAfterInsertion_158 rfl (xSn SX18_297) (by decide) rfl (c1_r c1_n) (cs rfl) c1_n (cs rfl) rfl hD (CX18_leftOf hD f17 q18) (fun a18 b18 f18 => ?_)
    refine E_astore_n (pc' := 162) dX18_fixAfterInsertion_161 rfl (cl rfl) (Or.inr (xC1_R _)) (L' := [some (rV (v0)), some (rV (v1)), some (rV (r18))]) rfl ?_
    refine E_aload_n (pc' := 163) dX18_fixAfterInsertion_162 rfl rfl ?_
    obtain ⟨r19, q19, h⟩ := bs h
    refine E_callS [rV (r18)] (pc' := 166) dX18_fixAfterInsertion_163 rfl (xSn SX18_303) (by decide) rfl (c1_r c1_n) (cs rfl) c1_n (cs rfl) rfl hD (CX18_colorOf hD f18 q19) (fun a19 b19 f19 => ?_)
    refine X_if_ne dX18_fixAfterInsertion_166 (tgt := 204) rfl (pc' := 169) rfl (inR_b f19) (fun c20 => ?_) (fun c20 => ?_)
    · have h := if_f c20 h
      refine E_aload_n (pc' := 205) dX18_fixAfterInsertion_204 rfl rfl ?_
      refine E_aload_n (pc' := 206) dX18_fixAfterInsertion_205 rfl rfl ?_
      obtain ⟨r21, q21, h⟩ := bs h
      refine E_callS [rV (v1)] (pc' := 209) dX18_fixAfterInsertion_206 rfl (xSn SX18_294) (by decide) rfl (c1_r c1_n) (cs rfl) (c1_r c1_n) (cs rfl) rfl hD (CX18_parentOf hD rv1 q21) (fun a21 b21 f21 => ?_)
      obtain ⟨r22, q22, h⟩ := bs h
      refine E_callS [rV (r21)] (pc' := 212) dX18_fixAfterInsertion_209 rfl (xSn SX18_297) (by decide) rfl (c1_r c1_n) (cs rfl) (c1_r c1_n) (cs rfl) rfl hD (CX18_leftOf hD f21 q22) (fun a22 b22 f22 => ?_)
      obtain ⟨g24, h⟩ := gs h
      refine E_acmp_ne dX18_fixAfterInsertion_212 (tgt := 225) rfl (pc' := 215) rfl g4 g24 (fun c23 => ?_) (fun c23 => ?_)
      · have h := if_f c23 h
        exact X_sub (sub_s (sub_s (sub_n sub_0))) (BX18_fixAfterInsertion_225 hD rv0 rv1 h (fun x0 D9 hh a b f0 => k1 x0 D9 hh a (DLe_trans (DLe_refl _) b) f0) (fun D9 hh a b => k2 D9 hh a (DLe_trans (DLe_refl _) b)))
      have h := if_t c23 h
      refine E_aload_n (pc' := 216) dX18_fixAfterInsertion_215 rfl rfl ?_
      obtain ⟨r25, q25, h⟩ := bs h
      refine E_callS [rV (v1)] (pc' := 219) dX18_fixAfterInsertion_216 rfl (xSn SX18_294) (by decide) rfl (c1_r c1_n) (cs rfl) c1_n (cs rfl) rfl hD (CX18_parentOf hD rv1 q25) (fun a25 b25 f25 => ?_)
      refine E_astore_n (pc' := 220) dX18_fixAfterInsertion_219 rfl (cl rfl) (Or.inr (xC1_R _)) (L' := [some (rV (v0)), some (rV (r25)), some (rV (r18))]) rfl ?_
      refine E_aload_n (pc' := 221) dX18_fixAfterInsertion_220 rfl rfl ?_
      refine E_aload_n (pc' := 222) dX18_fixAfterInsertion_221 rfl rfl ?_
      obtain ⟨D26, q26, h⟩ := bs h
      refine E_callV [rV (r25)] (pc' := 225) dX18_fixAfterInsertion_222 rfl (xVc VX18_314) (by decide) ⟨dO_pos g2, dO_is hD g2 rfl⟩ rfl (c1_r c1_n) (cs rfl) c1_n (cs rfl) rfl hD (CX18_rotateRight hD rv0 f25 q26) (fun a26 b26 f26 => ?_)
      exact X_sub (sub_s (sub_s (sub_n sub_0))) (BX18_fixAfterInsertion_225 a26 (gdV_le b26 rv0) (gdV_le b26 f25) h (fun x0 D9 hh a b f0 => k1 x0 D9 hh a (DLe_trans b26 b) f0) (fun D9 hh a b => k2 D9 hh a (DLe_trans b26 b)))
    have h := if_t c20 h
    refine E_aload_n (pc' := 170) dX18_fixAfterInsertion_169 rfl rfl ?_
    obtain ⟨r27, q27, h⟩ := bs h
    refine E_callS [rV (v1)] (pc' := 173) dX18_fixAfterInsertion_170 rfl (xSn SX18_294) (by decide) rfl (c1_r c1_n) (cs rfl) c1_n (cs rfl) rfl hD (CX18_parentOf hD rv1 q27) (fun a27 b27 f27 => ?_)
    refine X_iconst (pc' := 174) dX18_fixAfterInsertion_173 rfl ?_
    obtain ⟨D28, q28, h⟩ := bs h
    refine E_callS [rV (r27), .int (iN (1))] (pc' := 177) dX18_fixAfterInsertion_174 rfl (xSn SX18_307) (by decide) rfl (c1_r (c1_i c1_n)) (cs rfl) c1_n (cs rfl) rfl hD (CX18_setColor hD f27 (inR_c (n := 1) rfl) q28) (fun a28 b28 f28 => ?_)
    refine E_aload_n (pc' := 178) dX18_fixAfterInsertion_177 rfl rfl ?_
    refine X_iconst (pc' := 179) dX18_fixAfterInsertion_178 rfl ?_
    obtain ⟨D29, q29, h⟩ := bs h
    refine E_callS [rV (r18), .int (iN (1))] (pc' := 182) dX18_fixAfterInsertion_179 rfl (xSn SX18_307) (by decide) rfl (c1_r (c1_i c1_n)) (cs rfl) c1_n (cs rfl) rfl a28 (CX18_setColor a28 (gdV_le b28 f18) (inR_c (n := 1) rfl) q29) (fun a29 b29 f29 => ?_)
    refine E_aload_n (pc' := 183) dX18_fixAfterInsertion_182 rfl rfl ?_
    obtain ⟨r30, q30, h⟩ := bs h
    refine E_callS [rV (v1)] (pc' := 186) dX18_fixAfterInsertion_183 rfl (xSn SX18_294) (by decide) rfl (c1_r c1_n) (cs rfl) c1_n (cs rfl) rfl a29 (CX18_parentOf a29 (gdV_le b29 (gdV_le b28 rv1)) q30) (fun a30 b30 f30 => ?_)
    obtain ⟨r31, q31, h⟩ := bs h
    refine E_callS [rV (r30)] (pc' := 189) dX18_fixAfterInsertion_186 rfl (xSn SX18_294) (by decide) rfl (c1_r c1_n) (cs rfl) c1_n (cs rfl) rfl a29 (CX18_parentOf a29 f30 q31) (fun a31 b31 f31 => ?_)
    refine X_iconst (pc' := 190) dX18_fixAfterInsertion_189 rfl ?_
    obtain ⟨D32, q32, h⟩ := bs h
    refine E_callS [rV (r31), .int (iN (0))] (pc' := 193) dX18_fixAfterInsertion_190 rfl (xSn SX18_307) (by decide) rfl (c1_r (c1_i c1_n)) (cs rfl) c1_n (cs rfl) rfl a29 (CX18_setColor a29 f31 (inR_c (n := 0) rfl) q32) (fun a32 b32 f32 => ?_)
    refine E_aload_n (pc' := 194) dX18_fixAfterInsertion_193 rfl rfl ?_
    obtain ⟨r33, q33, h⟩ := bs h
    refine E_callS [rV (v1)] (pc' := 197) dX18_fixAfterInsertion_194 rfl (xSn SX18_294) (by decide) rfl (c1_r c1_n) (cs rfl) c1_n (cs rfl) rfl a32 (CX18_parentOf a32 (gdV_le b32 (gdV_le b29 (gdV_le b28 rv1))) q33) (fun a33 b33 f33 => ?_)
    obtain ⟨r34, q34, h⟩ := bs h
    refine E_callS [rV (r33)] (pc' := 200) dX18_fixAfterInsertion_197 rfl (xSn SX18_294) (by decide) rfl (c1_r c1_n) (cs rfl) c1_n (cs rfl) rfl a32 (CX18_parentOf a32 f33 q34) (fun a34 b34 f34 => ?_)
    refine E_astore_n (pc' := 201) dX18_fixAfterInsertion_200 rfl (cl rfl) (Or.inr (xC1_R _)) (L' := [some (rV (v0)), some (rV (r34)), some (rV (r18))]) rfl ?_
    refine X_goto dX18_fixAfterInsertion_201 (tgt := 255) rfl ?_
    exact X_sub (sub_s (sub_s (sub_n sub_0))) (BX18_fixAfterInsertion_255 a32 (gdV_le b32 (gdV_le b29 (gdV_le b28 rv0))) f34 h (fun x0 D9 hh a b f0 => k1 x0 D9 hh a (DLe_trans (DLe_trans (DLe_trans b28 b29) b32) b) f0) (fun D9 hh a b => k2 D9 hh a (DLe_trans (DLe_trans (DLe_trans b28 b29) b32) b)))
  have h := if_t c13 h
  refine E_aload_n (pc' := 45) dX18_fixAfterInsertion_44 rfl rfl ?_
  obtain ⟨r35, q35, h⟩ := bs h
  refine E_callS [rV (v1)] (pc' := 48) dX18_fixAfterInsertion_45 rfl (xSn SX18_294) (by decide) rfl (c1_r c1_n) (cs rfl) c1_n (cs rfl) rfl hD (CX18_parentOf hD rv1 q35) (fun a35 b35 f35 => ?_)
  obtain ⟨r36, q36, h⟩ := bs h
  refine E_callS [rV (r35)] (pc' := 51) dX18_fixAfterInsertion_48 rfl (xSn SX18_294) (by decide) rfl (c1_r c1_n) (cs rfl) c1_n (cs rfl) rfl hD (CX18_parentOf hD f35 q36) (fun a36 b36 f36 => ?_)
  obtain ⟨r37, q37, h⟩ := bs h
  refine E_callS [rV (r36)] (pc' := 54) dX18_fixAfterInsertion_51 rfl (xSn SX18_300) (by decide) rfl (c1_r c1_n) (cs rfl) c1_n (cs rfl) rfl hD (CX18_rightOf hD f36 q37) (fun a37 b37 f37 => ?_)
  refine E_astore_n (pc' := 55) dX18_fixAfterInsertion_54 rfl (cl rfl) (Or.inr (xC1_R _)) (L' := [some (rV (v0)), some (rV (v1)), some (rV (r37))]) rfl ?_
  refine E_aload_n (pc' := 56) dX18_fixAfterInsertion_55 rfl rfl ?_
  obtain ⟨r38, q38, h⟩ := bs h
  refine E_callS [rV (r37)] (pc' := 59) dX18_fixAfterInsertion_56 rfl (xSn SX18_303) (by decide) rfl (c1_r c1_n) (cs rfl) c1_n (cs rfl) rfl hD (CX18_colorOf hD f37 q38) (fun a38 b38 f38 => ?_)
  refine X_if_ne dX18_fixAfterInsertion_59 (tgt := 97) rfl (pc' := 62) rfl (inR_b f38) (fun c39 => ?_) (fun c39 => ?_)
  · have h := if_f c39 h
    refine E_aload_n (pc' := 98) dX18_fixAfterInsertion_97 rfl rfl ?_
    refine E_aload_n (pc' := 99) dX18_fixAfterInsertion_98 rfl rfl ?_
    obtain ⟨r40, q40, h⟩ := bs h
    refine E_callS [rV (v1)] (pc' := 102) dX18_fixAfterInsertion_99 rfl (xSn SX18_294) (by decide) rfl (c1_r c1_n) (cs rfl) (c1_r c1_n) (cs rfl) rfl hD (CX18_parentOf hD rv1 q40) (fun a40 b40 f40 => ?_)
    obtain ⟨r41, q41, h⟩ := bs h
    refine E_callS [rV (r40)] (pc' := 105) dX18_fixAfterInsertion_102 rfl (xSn SX18_300) (by decide) rfl (c1_r c1_n) (cs rfl) (c1_r c1_n) (cs rfl) rfl hD (CX18_rightOf hD f40 q41) (fun a41 b41 f41 => ?_)
    obtain ⟨g43, h⟩ := gs h
    refine E_acmp_ne dX18_fixAfterInsertion_105 (tgt := 118) rfl (pc' := 108) rfl g4 g43 (fun c42 => ?_) (fun c42 => ?_)
    · have h := if_f c42 h
      exact X_sub (sub_s (sub_s (sub_n sub_0))) (BX18_fixAfterInsertion_118 hD rv0 rv1 h (fun x0 D9 hh a b f0 => k1 x0 D9 hh a (DLe_trans (DLe_refl _) b) f0) (fun D9 hh a b => k2 D9 hh a (DLe_trans (DLe_refl _) b)))
    have h := if_t c42 h
    refine E_aload_n (pc' := 109) dX18_fixAfterInsertion_108 rfl rfl ?_
    obtain ⟨r44, q44, h⟩ := bs h
    refine E_callS [rV (v1)] (pc' := 112) dX18_fixAfterInsertion_109 rfl (xSn SX18_294) (by decide) rfl (c1_r c1_n) (cs rfl) c1_n (cs rfl) rfl hD (CX18_parentOf hD rv1 q44) (fun a44 b44 f44 => ?_)
    refine E_astore_n (pc' := 113) dX18_fixAfterInsertion_112 rfl (cl rfl) (Or.inr (xC1_R _)) (L' := [some (rV (v0)), some (rV (r44)), some (rV (r37))]) rfl ?_
    refine E_aload_n (pc' := 114) dX18_fixAfterInsertion_113 rfl rfl ?_
    refine E_aload_n (pc' := 115) dX18_fixAfterInsertion_114 rfl rfl ?_
    obtain ⟨D45, q45, h⟩ := bs h
    refine E_callV [rV (r44)] (pc' := 118) dX18_fixAfterInsertion_115 rfl (xVc VX18_311) (by decide) ⟨dO_pos g2, dO_is hD g2 rfl⟩ rfl (c1_r c1_n) (cs rfl) c1_n (cs rfl) rfl hD (CX18_rotateLeft hD rv0 f44 q45) (fun a45 b45 f45 => ?_)
    exact X_sub (sub_s (sub_s (sub_n sub_0))) (BX18_fixAfterInsertion_118 a45 (gdV_le b45 rv0) (gdV_le b45 f44) h (fun x0 D9 hh a b f0 => k1 x0 D9 hh a (DLe_trans b45 b) f0) (fun D9 hh a b => k2 D9 hh a (DLe_trans b45 b)))
  have h := if_t c39 h
  refine E_aload_n (pc' := 63) dX18_fixAfterInsertion_62 rfl rfl ?_
  obtain ⟨r46, q46, h⟩ := bs h
  refine E_callS [rV (v1)] (pc' := 66) dX18_fixAfterInsertion_63 rfl (xSn SX18_294) (by decide) rfl (c1_r c1_n) (cs rfl) c1_n (cs rfl) rfl hD (CX18_parentOf hD rv1 q46) (fun a46 b46 f46 => ?_)
  refine X_iconst (pc' := 67) dX18_fixAfterInsertion_66 rfl ?_
  obtain ⟨D47, q47, h⟩ := bs h
  refine E_callS [rV (r46), .int (iN (1))] (pc' := 70) dX18_fixAfterInsertion_67 rfl (xSn SX18_307) (by decide) rfl (c1_r (c1_i c1_n)) (cs rfl) c1_n (cs rfl) rfl hD (CX18_setColor hD f46 (inR_c (n := 1) rfl) q47) (fun a47 b47 f47 => ?_)
  refine E_aload_n (pc' := 71) dX18_fixAfterInsertion_70 rfl rfl ?_
  refine X_iconst (pc' := 72) dX18_fixAfterInsertion_71 rfl ?_
  obtain ⟨D48, q48, h⟩ := bs h
  refine E_callS [rV (r37), .int (iN (1))] (pc' := 75) dX18_fixAfterInsertion_72 rfl (xSn SX18_307) (by decide) rfl (c1_r (c1_i c1_n)) (cs rfl) c1_n (cs rfl) rfl a47 (CX18_setColor a47 (gdV_le b47 f37) (inR_c (n := 1) rfl) q48) (fun a48 b48 f48 => ?_)
  refine E_aload_n (pc' := 76) dX18_fixAfterInsertion_75 rfl rfl ?_
  obtain ⟨r49, q49, h⟩ := bs h
  refine E_callS [rV (v1)] (pc' := 79) dX18_fixAfterInsertion_76 rfl (xSn SX18_294) (by decide) rfl (c1_r c1_n) (cs rfl) c1_n (cs rfl) rfl a48 (CX18_parentOf a48 (gdV_le b48 (gdV_le b47 rv1)) q49) (fun a49 b49 f49 => ?_)
  obtain ⟨r50, q50, h⟩ := bs h
  refine E_callS [rV (r49)] (pc' := 82) dX18_fixAfterInsertion_79 rfl (xSn SX18_294) (by decide) rfl (c1_r c1_n) (cs rfl) c1_n (cs rfl) rfl a48 (CX18_parentOf a48 f49 q50) (fun a50 b50 f50 => ?_)
  refine X_iconst (pc' := 83) dX18_fixAfterInsertion_82 rfl ?_
  obtain ⟨D51, q51, h⟩ := bs h
  refine E_callS [rV (r50), .int (iN (0))] (pc' := 86) dX18_fixAfterInsertion_83 rfl (xSn SX18_307) (by decide) rfl (c1_r (c1_i c1_n)) (cs rfl) c1_n (cs rfl) rfl a48 (CX18_setColor a48 f50 (inR_c (n := 0) rfl) q51) (fun a51 b51 f51 => ?_)
  refine E_aload_n (pc' := 87) dX18_fixAfterInsertion_86 rfl rfl ?_
  obtain ⟨r52, q52, h⟩ := bs h
  refine E_callS [rV (v1)] (pc' := 90) dX18_fixAfterInsertion_87 rfl (xSn SX18_294) (by decide) rfl (c1_r c1_n) (cs rfl) c1_n (cs rfl) rfl a51 (CX18_parentOf a51 (gdV_le b51 (gdV_le b48 (gdV_le b47 rv1))) q52) (fun a52 b52 f52 => ?_)
  obtain ⟨r53, q53, h⟩ := bs h
  refine E_callS [rV (r52)] (pc' := 93) dX18_fixAfterInsertion_90 rfl (xSn SX18_294) (by decide) rfl (c1_r c1_n) (cs rfl) c1_n (cs rfl) rfl a51 (CX18_parentOf a51 f52 q53) (fun a53 b53 f53 => ?_)
  refine E_astore_n (pc' := 94) dX18_fixAfterInsertion_93 rfl (cl rfl) (Or.inr (xC1_R _)) (L' := [some (rV (v0)), some (rV (r53)), some (rV (r37))]) rfl ?_
  refine X_goto dX18_fixAfterInsertion_94 (tgt := 148) rfl ?_
  exact X_sub (sub_s (sub_s (sub_n sub_0))) (BX18_fixAfterInsertion_148 a51 (gdV_le b51 (gdV_le b48 (gdV_le b47 rv0))) f53 h (fun x0 D9 hh a b f0 => k1 x0 D9 hh a (DLe_trans (DLe_trans (DLe_trans b47 b48) b51) b) f0) (fun D9 hh a b => k2 D9 hh a (DLe_trans (DLe_trans (DLe_trans b47 b48) b51) b)))
theorem LX18_fixAfterInsertion_5 {ln : Nat} {z : ZZ} {v0 : Int} {Φ : xRes → xS → Prop} {r : DD} : ∀ (n : Nat) (v1 : Int) (D : DD), okD D → gdV D v0 → gdV D v1 → zlp (fun q => fX18_fixAfterInsertion_s5 v0 q.1 q.2) n (v1, D) = some r → (∀ (D' : DD), r = D' → okD D' → DLe D D' → XD mX18_fixAfterInsertion 258 [some (rV (v0)), none, none] [] ln D' z Φ) → XD mX18_fixAfterInsertion 5 [some (rV (v0)), some (rV (v1)), none] [] ln D z Φ := by
  intro n
  induction n with
  | zero => intro v1 D hD rv0 rv1 h k2; cases h
  | succ n ih =>
    intro v1 D hD rv0 rv1 h k2
    rcases zlp_s h with ⟨⟨v1', D'⟩, e, h'⟩ | e
    · exact SX18_fixAfterInsertion_5 hD rv0 rv1 e (fun v1₁ D₁ hh a b f0 => by cases hh; exact ih _ _ a (gdV_le b rv0) f0 h' (fun D9 hh a' b' => k2 D9 hh a' (DLe_trans b b'))) (fun D9 hh => by cases hh)
    · exact SX18_fixAfterInsertion_5 hD rv0 rv1 e (fun v1₁ D₁ hh => by cases hh) (fun D9 hh a b => by cases hh; exact k2 _ rfl a b )
def fX18_fixAfterInsertion (v0 : Int) (v1 : Int) (D : DD) : Option (DD) := (if dO D (v1) 12 then (zl (dup D (v1) 5 (0)) fun D2 => (Option.bind (zlp (fun q => fX18_fixAfterInsertion_s5 (v0) q.1 q.2) FU (v1, D2)) fun D3 => (if dO D3 (v0) 11 then (if dO D3 ((dW D3 (v0) 3)) 12 then (zl (dup D3 ((dW D3 (v0) 3)) 5 (1)) fun D6 => some D6) else none) else none))) else none)
set_option maxRecDepth 100000 in
theorem CX18_fixAfterInsertion {ln : Nat} {D : DD} {z : ZZ} {v0 : Int} {v1 : Int} (hD : okD D) (rv0 : gdV D v0) (rv1 : gdV D v1) {p : DD} (h : fX18_fixAfterInsertion v0 v1 D = some p) : XD mX18_fixAfterInsertion 0 (xEnt [rV (v0), rV (v1)] (xL mX18_fixAfterInsertion)) [] ln D z (Qd (FdD D p (True)) (.inl (none)) (sD ln p z)) := by
  have k : K_w (Qd (FdD D p (True)) (.inl (none)) (sD ln p z)) ln D z p := fun a b c => ⟨⟨a, b, c⟩, rfl, rfl⟩
  unfold fX18_fixAfterInsertion at h
  refine E_ent (c1_r (c1_r c1_n)) (M := [some (rV (v0)), some (rV (v1)), none]) rfl ?_
  refine E_aload_n (pc' := 1) dX18_fixAfterInsertion_0 rfl rfl ?_
  refine X_iconst (pc' := 2) dX18_fixAfterInsertion_1 rfl ?_
  obtain ⟨g1, h⟩ := gs h
  refine E_putI (pc' := 5) dX18_fixAfterInsertion_2 rfl FX18_290_11 hD g1 rfl (fun r hr => by cases hr; exact Or.inl rfl) (xFit_bool (Or.inl rfl)) (j := 5) rfl ?_
  obtain ⟨D2, e2, f2, h⟩ := zl_some (P := fun q => okD q ∧ DLe D q) h ⟨okD_dup (k := 5) hD (okS_B g1 (Or.inl rfl)), DLe_dup _ _ _ _⟩
  rw [e2]
  obtain ⟨D3, q3, h⟩ := bs h
  refine X_sub (sub_s (sub_s (sub_n sub_0))) (LX18_fixAfterInsertion_5 FU _ _ f2.1 (gdV_le f2.2 rv0) (gdV_le f2.2 rv1) q3 (fun D3₁ hh hD3 le3 => ?_))
  cases hh
  refine E_aload_n (pc' := 259) dX18_fixAfterInsertion_258 rfl rfl ?_
  obtain ⟨g4, h⟩ := gs h
  refine E_getR (pc' := 262) dX18_fixAfterInsertion_259 rfl FX18_101_10 hD3 g4 rfl (j := 3) rfl ?_
  refine X_iconst (pc' := 263) dX18_fixAfterInsertion_262 rfl ?_
  obtain ⟨g5, h⟩ := gs h
  refine E_putI (pc' := 266) dX18_fixAfterInsertion_263 rfl FX18_290_11 hD3 g5 rfl (fun r hr => by cases hr; exact Or.inl rfl) (xFit_bool (Or.inr rfl)) (j := 5) rfl ?_
  obtain ⟨D6, e6, f6, h⟩ := zl_some (P := fun q => okD q ∧ DLe D3 q) h ⟨okD_dup (k := 5) hD3 (okS_B g5 (Or.inr rfl)), DLe_dup _ _ _ _⟩
  rw [e6]
  cases h
  exact X_vret dX18_fixAfterInsertion_266 rfl (k f6.1 (DLe_trans (DLe_trans f2.2 le3) f6.2) trivial)
def fX18_addEntry_b32 (v0 : Int) (v5 : Int) (D : DD) : Option (DD) := (Option.bind (fX18_fixAfterInsertion (v0) (v5) D) fun D1 => (if dO D (v0) 11 then (if inR (((dW D1 (v0) 4) + 1)) then (zl (dup D1 (v0) 4 (((dW D1 (v0) 4) + 1))) fun D4 => (if inR (((dW D4 (v0) 5) + 1)) then (zl (dup D4 (v0) 5 (((dW D4 (v0) 5) + 1))) fun D6 => some D6) else none)) else none) else none))
set_option maxRecDepth 100000 in
theorem BX18_addEntry_32 {ln : Nat} {D : DD} {z : ZZ} {v0 : Int} {v5 : Int} {Φ : xRes → xS → Prop} (hD : okD D) (rv0 : gdV D v0) (rv5 : gdV D v5) {p : DD} (h : fX18_addEntry_b32 v0 v5 D = some p) (k : K_w Φ ln D z p) : XD mX18_addEntry 32 [some (rV (v0)), none, none, none, none, some (rV (v5))] [] ln D z Φ := by
  unfold fX18_addEntry_b32 at h
  refine E_aload_n (pc' := 33) dX18_addEntry_32 rfl rfl ?_
  refine E_aload (pc' := 35) dX18_addEntry_33 rfl rfl ?_
  obtain ⟨D1, q1, h⟩ := bs h
  obtain ⟨g2, h⟩ := gs h
  refine E_callV [rV (v5)] (pc' := 38) dX18_addEntry_35 rfl (xVc VX18_170) (by decide) ⟨dO_pos g2, dO_is hD g2 rfl⟩ rfl (c1_r c1_n) (cs rfl) c1_n (cs rfl) rfl hD (CX18_fixAfterInsertion hD rv0 rv5 q1) (fun a1 b1 f1 => ?_)
  refine E_aload_n (pc' := 39) dX18_addEntry_38 rfl rfl ?_
  refine X_dup (pc' := 40) dX18_addEntry_39 rfl (rV_cat _) ?_
  refine E_getI (pc' := 43) dX18_addEntry_40 rfl FX18_7_10 a1 (dO_le b1 g2) rfl (j := 4) rfl ?_
  refine X_iconst (pc' := 44) dX18_addEntry_43 rfl ?_
  refine X_iadd (pc' := 45) dX18_addEntry_44 rfl ?_
  obtain ⟨g3, h⟩ := gs h
  refine E_putI (pc' := 48) dX18_addEntry_45 rfl FX18_7_10 a1 (dO_le b1 g2) rfl (fun r hr => by cases hr; exact Or.inl rfl) (xFit_int _) (j := 4) rfl ?_
  obtain ⟨D4, e4, f4, h⟩ := zl_some (P := fun q => okD q ∧ DLe D1 q) h ⟨okD_dup (k := 4) a1 (okS_I (dO_le b1 g2) rfl (by decide) (by decide) g3), DLe_dup _ _ _ _⟩
  rw [e4]
  refine E_aload_n (pc' := 49) dX18_addEntry_48 rfl rfl ?_
  refine X_dup (pc' := 50) dX18_addEntry_49 rfl (rV_cat _) ?_
  refine E_getI (pc' := 53) dX18_addEntry_50 rfl FX18_13_10 f4.1 (dO_le f4.2 (dO_le b1 g2)) rfl (j := 5) rfl ?_
  refine X_iconst (pc' := 54) dX18_addEntry_53 rfl ?_
  refine X_iadd (pc' := 55) dX18_addEntry_54 rfl ?_
  obtain ⟨g5, h⟩ := gs h
  refine E_putI (pc' := 58) dX18_addEntry_55 rfl FX18_13_10 f4.1 (dO_le f4.2 (dO_le b1 g2)) rfl (fun r hr => by cases hr; exact Or.inl rfl) (xFit_int _) (j := 5) rfl ?_
  obtain ⟨D6, e6, f6, h⟩ := zl_some (P := fun q => okD q ∧ DLe D4 q) h ⟨okD_dup (k := 5) f4.1 (okS_I (dO_le f4.2 (dO_le b1 g2)) rfl (by decide) (by decide) g5), DLe_dup _ _ _ _⟩
  rw [e6]
  cases h
  exact X_vret dX18_addEntry_58 rfl (k f6.1 (DLe_trans (DLe_trans b1 f4.2) f6.2) trivial)
def fX18_addEntry (v0 : Int) (v1 : Int) (v2 : Int) (v3 : Int) (v4 : Int) (D : DD) : Option (DD) := (if dT D < 600000 ∧ dS D + 6 ≤ 7200000 then (zl (dnew D 12 6) fun D2 => (Option.bind (fX12_init ((dT D)) (v1) (v2) (v3) D2) fun D3 => (if (v4) = (0) then (if dO D3 (v3) 12 then (zl (dup D3 (v3) 3 ((dT D))) fun D6 => fX18_addEntry_b32 (v0) ((dT D)) D6) else none) else (if dO D3 (v3) 12 then (zl (dup D3 (v3) 2 ((dT D))) fun D8 => fX18_addEntry_b32 (v0) ((dT D)) D8) else none)))) else none)
set_option maxRecDepth 100000 in
theorem CX18_addEntry {ln : Nat} {D : DD} {z : ZZ} {v0 : Int} {v1 : Int} {v2 : Int} {v3 : Int} {v4 : Int} (hD : okD D) (rv0 : gdV D v0) (rv1 : gdV D v1) (rv2 : gdV D v2) (rv3 : gdV D v3) (rv4 : inR v4) {p : DD} (h : fX18_addEntry v0 v1 v2 v3 v4 D = some p) : XD mX18_addEntry 0 (xEnt [rV (v0), rV (v1), rV (v2), rV (v3), .int (iN (v4))] (xL mX18_addEntry)) [] ln D z (Qd (FdD D p (True)) (.inl (none)) (sD ln p z)) := by
  have k : K_w (Qd (FdD D p (True)) (.inl (none)) (sD ln p z)) ln D z p := fun a b c => ⟨⟨a, b, c⟩, rfl, rfl⟩
  unfold fX18_addEntry at h
  refine E_ent (c1_r (c1_r (c1_r (c1_r (c1_i c1_n))))) (M := [some (rV (v0)), some (rV (v1)), some (rV (v2)), some (rV (v3)), some (.int (iN (v4))), none]) rfl ?_
  obtain ⟨g1, h⟩ := gs h
  refine E_new (c := 11) (n := 6) (pc' := 3) dX18_addEntry_0 rfl rfl rfl (by decide) tq983 tq984 tq46 hD g1 ?_
  obtain ⟨D2, e2, f2, h⟩ := zl_some (P := fun q => okD q ∧ DLe D q ∧ dO q (dT D) 12) h ⟨okD_dnew hD (by decide) (by decide) g1.1 g1.2, DLe_dnew _ (by decide), dO_dnew hD⟩
  rw [e2]
  refine X_dup (pc' := 4) dX18_addEntry_3 rfl (rV_cat _) ?_
  refine E_aload_n (pc' := 5) dX18_addEntry_4 rfl rfl ?_
  refine E_aload_n (pc' := 6) dX18_addEntry_5 rfl rfl ?_
  refine E_aload_n (pc' := 7) dX18_addEntry_6 rfl rfl ?_
  obtain ⟨D3, q3, h⟩ := bs h
  refine E_callI (μ := mX18_addEntry) (μ' := mX12_init) [rV (v1), rV (v2), rV (v3)] (pc' := 10) dX18_addEntry_7 rfl tq985 IX18_167 (by decide) ⟨f2.2.2.1, f2.2.2.2.1⟩ rfl (c1_r (c1_r (c1_r c1_n))) (cs rfl) (c1_r c1_n) (cs rfl) rfl f2.1 (CX12_init f2.1 (dO_gd f2.2.2 (by decide)) (gdV_le f2.2.1 rv1) (gdV_le f2.2.1 rv2) (gdV_le f2.2.1 rv3) q3) (fun a3 b3 f3 => ?_)
  refine E_astore (pc' := 12) dX18_addEntry_10 rfl (cl rfl) (Or.inr rfl) (L' := [some (rV (v0)), some (rV (v1)), some (rV (v2)), some (rV (v3)), some (.int (iN (v4))), some (rV ((dT D)))]) rfl ?_
  refine X_iload (pc' := 14) dX18_addEntry_12 rfl rfl ?_
  refine X_if_eq dX18_addEntry_14 (tgt := 26) rfl (pc' := 17) rfl rv4 (fun c4 => ?_) (fun c4 => ?_)
  · have h := if_t c4 h
    refine E_aload_n (pc' := 27) dX18_addEntry_26 rfl rfl ?_
    refine E_aload (pc' := 29) dX18_addEntry_27 rfl rfl ?_
    obtain ⟨g5, h⟩ := gs h
    refine E_putR (pc' := 32) dX18_addEntry_29 rfl FX18_114_11 a3 g5 rfl (fun r hr => by cases hr; exact Or.inl rfl) (Or.inl ⟨_, rfl⟩) (j := 3) rfl ?_
    obtain ⟨D6, e6, f6, h⟩ := zl_some (P := fun q => okD q ∧ DLe D3 q) h ⟨okD_dup (k := 3) a3 (okS_R g5 rfl (by decide) (gdV_le b3 (dO_gd f2.2.2 (by decide)))), DLe_dup _ _ _ _⟩
    rw [e6]
    exact X_sub (sub_s (sub_n (sub_n (sub_n (sub_n (sub_s sub_0)))))) (BX18_addEntry_32 f6.1 (gdV_le f6.2 (gdV_le b3 (gdV_le f2.2.1 rv0))) (gdV_le f6.2 (gdV_le b3 (dO_gd f2.2.2 (by decide)))) h (fun a b c => k a (DLe_trans (DLe_trans (DLe_trans f2.2.1 b3) f6.2) b) c))
  have h := if_f c4 h
  refine E_aload_n (pc' := 18) dX18_addEntry_17 rfl rfl ?_
  refine E_aload (pc' := 20) dX18_addEntry_18 rfl rfl ?_
  obtain ⟨g7, h⟩ := gs h
  refine E_putR (pc' := 23) dX18_addEntry_20 rfl FX18_111_11 a3 g7 rfl (fun r hr => by cases hr; exact Or.inl rfl) (Or.inl ⟨_, rfl⟩) (j := 2) rfl ?_
  obtain ⟨D8, e8, f8, h⟩ := zl_some (P := fun q => okD q ∧ DLe D3 q) h ⟨okD_dup (k := 2) a3 (okS_R g7 rfl (by decide) (gdV_le b3 (dO_gd f2.2.2 (by decide)))), DLe_dup _ _ _ _⟩
  rw [e8]
  refine X_goto dX18_addEntry_23 (tgt := 32) rfl ?_
  exact X_sub (sub_s (sub_n (sub_n (sub_n (sub_n (sub_s sub_0)))))) (BX18_addEntry_32 f8.1 (gdV_le f8.2 (gdV_le b3 (gdV_le f2.2.1 rv0))) (gdV_le f8.2 (gdV_le b3 (dO_gd f2.2.2 (by decide)))) h (fun a b c => k a (DLe_trans (DLe_trans (DLe_trans f2.2.1 b3) f8.2) b) c))
def fX18_put__b196 (v0 : Int) (v1 : Int) (v2 : Int) (v3 : Int) (v4 : Int) (v5 : Int) (v6 : Int) (v8 : Int) (D : DD) : Option ((Int) ⊕ ((Int) ⊕ (Int × DD))) := (if (v4) = 0 then (if (v5) < (0) then (Option.bind (fX18_addEntry (v0) (v1) (v2) (v6) (1) D) fun D5 => (if dO D (v0) 11 then some (.inr (.inr ((0, D5)))) else none)) else (Option.bind (fX18_addEntry (v0) (v1) (v2) (v6) (0) D) fun D3 => (if dO D (v0) 11 then some (.inr (.inr ((0, D3)))) else none))) else some (.inl v4))
set_option maxRecDepth 100000 in
theorem BX18_put__196 {ln : Nat} {D : DD} {z : ZZ} {v0 : Int} {v1 : Int} {v2 : Int} {v3 : Int} {v4 : Int} {v5 : Int} {v6 : Int} {v8 : Int} {Φ : xRes → xS → Prop} (hD : okD D) (rv0 : gdV D v0) (rv1 : gdV D v1) (rv2 : gdV D v2) (rv3 : inR v3) (rv4 : gdV D v4) (rv5 : inR v5) (rv6 : gdV D v6) (rv8 : gdV D v8) {p : (Int) ⊕ ((Int) ⊕ (Int × DD))} (h : fX18_put__b196 v0 v1 v2 v3 v4 v5 v6 v8 D = some p) (k1 : ∀ (v4' : Int), p = .inl v4' → gdV D v4' → XD mX18_put_ 123 [some (rV (v0)), some (rV (v1)), some (rV (v2)), some (.int (iN (v3))), some (rV (v4')), none, none, none, some (rV (v8)), none] [] ln D z Φ) (k2 : ∀ (v4' : Int), p = .inr (.inl v4') → gdV D v4' → XD mX18_put_ 171 [none, none, some (rV (v2)), some (.int (iN (v3))), some (rV (v4')), none, none, none, none, none] [] ln D z Φ) (k3 : ∀ t, p = .inr (.inr t) → K_wR Φ ln D z t) : XD mX18_put_ 196 [some (rV (v0)), some (rV (v1)), some (rV (v2)), some (.int (iN (v3))), some (rV (v4)), some (.int (iN (v5))), some (rV (v6)), none, some (rV (v8)), none] [] ln D z Φ := by
  unfold fX18_put__b196 at h
  refine E_aload (pc' := 198) dX18_put__196 rfl rfl ?_
  refine E_ifnonnull dX18_put__198 (tgt := 123) rfl (pc' := 201) rfl hD rv4 (fun c1 => ?_) (fun c1 => ?_)
  · have h := if_f c1 h
    cases h
    exact X_sub (sub_s (sub_s (sub_s (sub_s (sub_s (sub_n (sub_n (sub_n (sub_s (sub_n sub_0)))))))))) (k1 _ rfl rv4)
  have h := if_t c1 h
  refine E_aload_n (pc' := 202) dX18_put__201 rfl rfl ?_
  refine E_aload_n (pc' := 203) dX18_put__202 rfl rfl ?_
  refine E_aload_n (pc' := 204) dX18_put__203 rfl rfl ?_
  refine E_aload (pc' := 206) dX18_put__204 rfl rfl ?_
  refine X_iload (pc' := 208) dX18_put__206 rfl rfl ?_
  refine X_if_ge dX18_put__208 (tgt := 215) rfl (pc' := 211) rfl rv5 (fun c2 => ?_) (fun c2 => ?_)
  · have h := if_f (Int.not_lt.mpr c2) h
    refine X_iconst (pc' := 216) dX18_put__215 rfl ?_
    obtain ⟨D3, q3, h⟩ := bs h
    obtain ⟨g4, h⟩ := gs h
    refine E_callV [rV (v1), rV (v2), rV (v6), .int (iN (0))] (pc' := 219) dX18_put__216 rfl (xVc VX18_139) (by decide) ⟨dO_pos g4, dO_is hD g4 rfl⟩ rfl (c1_r (c1_r (c1_r (c1_i c1_n)))) (cs rfl) c1_n (cs rfl) rfl hD (CX18_addEntry hD rv0 rv1 rv2 rv6 (inR_c (n := 0) rfl) q3) (fun a3 b3 f3 => ?_)
    refine E_null (pc' := 220) dX18_put__219 rfl ?_
    cases h
    exact E_aret dX18_put__220 rfl (Or.inl ⟨_, rfl⟩) ((k3 _ rfl) a3 b3 (Or.inl (Or.inl rfl)))
  have h := if_t c2 h
  refine X_iconst (pc' := 212) dX18_put__211 rfl ?_
  refine X_goto dX18_put__212 (tgt := 216) rfl ?_
  obtain ⟨D5, q5, h⟩ := bs h
  obtain ⟨g6, h⟩ := gs h
  refine E_callV [rV (v1), rV (v2), rV (v6), .int (iN (1))] (pc' := 219) dX18_put__216 rfl (xVc VX18_139) (by decide) ⟨dO_pos g6, dO_is hD g6 rfl⟩ rfl (c1_r (c1_r (c1_r (c1_i c1_n)))) (cs rfl) c1_n (cs rfl) rfl hD (CX18_addEntry hD rv0 rv1 rv2 rv6 (inR_c (n := 1) rfl) q5) (fun a5 b5 f5 => ?_)
  refine E_null (pc' := 220) dX18_put__219 rfl ?_
  cases h
  exact E_aret dX18_put__220 rfl (Or.inl ⟨_, rfl⟩) ((k3 _ rfl) a5 b5 (Or.inl (Or.inl rfl)))
def fX18_put__s123 (v0 : Int) (v1 : Int) (v2 : Int) (v3 : Int) (v8 : Int) (v4 : Int) (D : DD) : Option ((Int) ⊕ ((Int) ⊕ (Int × DD))) := (if dO D (v4) 12 then (Option.bind (fJ6_compareTo_e47da (v8) ((dW D (v4) 0)) D) fun r2 => (if isBox (v8) then (if (r2) < (0) then fX18_put__b196 (v0) (v1) (v2) (v3) ((dW D (v4) 2)) (r2) (v4) (v8) D else (if (0) < (r2) then fX18_put__b196 (v0) (v1) (v2) (v3) ((dW D (v4) 3)) (r2) (v4) (v8) D else some (.inr (.inl v4)))) else none)) else none)
set_option maxRecDepth 100000 in
theorem SX18_put__123 {ln : Nat} {D : DD} {z : ZZ} {v0 : Int} {v1 : Int} {v2 : Int} {v3 : Int} {v8 : Int} {v4 : Int} {Φ : xRes → xS → Prop} (hD : okD D) (rv0 : gdV D v0) (rv1 : gdV D v1) (rv2 : gdV D v2) (rv3 : inR v3) (rv8 : gdV D v8) (rv4 : gdV D v4) {p : (Int) ⊕ ((Int) ⊕ (Int × DD))} (h : fX18_put__s123 v0 v1 v2 v3 v8 v4 D = some p) (k1 : ∀ (v4' : Int), p = .inl v4' → gdV D v4' → XD mX18_put_ 123 [some (rV (v0)), some (rV (v1)), some (rV (v2)), some (.int (iN (v3))), some (rV (v4')), none, none, none, some (rV (v8)), none] [] ln D z Φ) (k2 : ∀ (v4' : Int), p = .inr (.inl v4') → gdV D v4' → XD mX18_put_ 171 [none, none, some (rV (v2)), some (.int (iN (v3))), some (rV (v4')), none, none, none, none, none] [] ln D z Φ) (k3 : ∀ t, p = .inr (.inr t) → K_wR Φ ln D z t) : XD mX18_put_ 123 [some (rV (v0)), some (rV (v1)), some (rV (v2)), some (.int (iN (v3))), some (rV (v4)), none, none, none, some (rV (v8)), none] [] ln D z Φ := by
  unfold fX18_put__s123 at h
  refine E_aload (pc' := 125) dX18_put__123 rfl rfl ?_
  refine E_astore (pc' := 127) dX18_put__125 rfl (cl rfl) (Or.inr rfl) (L' := [some (rV (v0)), some (rV (v1)), some (rV (v2)), some (.int (iN (v3))), some (rV (v4)), none, some (rV (v4)), none, some (rV (v8)), none]) rfl ?_
  refine E_aload (pc' := 129) dX18_put__127 rfl rfl ?_
  refine E_aload (pc' := 131) dX18_put__129 rfl rfl ?_
  obtain ⟨g1, h⟩ := gs h
  refine E_getR (pc' := 134) dX18_put__131 rfl FX18_105_11 hD g1 rfl (j := 0) rfl ?_
  obtain ⟨r2, q2, h⟩ := bs h
  obtain ⟨g3, h⟩ := gs h
  refine E_callF [rV ((dW D (v4) 0))] (pc' := 139) dX18_put__134 rfl F_X18_107_J6 (by decide) ⟨box_pos g3, box_is g3⟩ rfl (c1_r c1_n) (cs rfl) c1_n (cs rfl) rfl hD (CJ6_compareTo_e47da hD rv8 (gd_slot (k := 0) hD g1 rfl (by decide)) q2) (fun a2 b2 f2 => ?_)
  refine X_istore (pc' := 141) dX18_put__139 rfl (cl rfl) (Or.inr (xC1_R _)) (L' := [some (rV (v0)), some (rV (v1)), some (rV (v2)), some (.int (iN (v3))), some (rV (v4)), some (.int (iN (r2))), some (rV (v4)), none, some (rV (v8)), none]) rfl ?_
  refine X_iload (pc' := 143) dX18_put__141 rfl rfl ?_
  refine X_if_ge dX18_put__143 (tgt := 156) rfl (pc' := 146) rfl f2 (fun c4 => ?_) (fun c4 => ?_)
  · have h := if_f (Int.not_lt.mpr c4) h
    refine X_iload (pc' := 158) dX18_put__156 rfl rfl ?_
    refine X_if_le dX18_put__158 (tgt := 171) rfl (pc' := 161) rfl f2 (fun c5 => ?_) (fun c5 => ?_)
    · have h := if_f (Int.not_lt.mpr c5) h
      cases h
      exact X_sub (sub_n (sub_n (sub_s (sub_s (sub_s (sub_n (sub_n (sub_n (sub_n (sub_n sub_0)))))))))) (k2 _ rfl rv4)
    have h := if_t c5 h
    refine E_aload (pc' := 163) dX18_put__161 rfl rfl ?_
    refine E_getR (pc' := 166) dX18_put__163 rfl FX18_114_11 hD g1 rfl (j := 3) rfl ?_
    refine E_astore (pc' := 168) dX18_put__166 rfl (cl rfl) (Or.inr rfl) (L' := [some (rV (v0)), some (rV (v1)), some (rV (v2)), some (.int (iN (v3))), some (rV ((dW D (v4) 3))), some (.int (iN (r2))), some (rV (v4)), none, some (rV (v8)), none]) rfl ?_
    refine X_goto dX18_put__168 (tgt := 196) rfl ?_
    exact X_sub (sub_s (sub_s (sub_s (sub_s (sub_s (sub_s (sub_s (sub_n (sub_s (sub_n sub_0)))))))))) (BX18_put__196 hD rv0 rv1 rv2 rv3 (gd_slot (k := 3) hD g1 rfl (by decide)) f2 rv4 rv8 h k1 k2 k3)
  have h := if_t c4 h
  refine E_aload (pc' := 148) dX18_put__146 rfl rfl ?_
  refine E_getR (pc' := 151) dX18_put__148 rfl FX18_111_11 hD g1 rfl (j := 2) rfl ?_
  refine E_astore (pc' := 153) dX18_put__151 rfl (cl rfl) (Or.inr rfl) (L' := [some (rV (v0)), some (rV (v1)), some (rV (v2)), some (.int (iN (v3))), some (rV ((dW D (v4) 2))), some (.int (iN (r2))), some (rV (v4)), none, some (rV (v8)), none]) rfl ?_
  refine X_goto dX18_put__153 (tgt := 196) rfl ?_
  exact X_sub (sub_s (sub_s (sub_s (sub_s (sub_s (sub_s (sub_s (sub_n (sub_s (sub_n sub_0)))))))))) (BX18_put__196 hD rv0 rv1 rv2 rv3 (gd_slot (k := 2) hD g1 rfl (by decide)) f2 rv4 rv8 h k1 k2 k3)
theorem LX18_put__123 {ln : Nat} {D : DD} {z : ZZ} {v0 : Int} {v1 : Int} {v2 : Int} {v3 : Int} {v8 : Int} {Φ : xRes → xS → Prop} {r : (Int) ⊕ (Int × DD)} : ∀ (n : Nat) (v4 : Int), okD D → gdV D v0 → gdV D v1 → gdV D v2 → inR v3 → gdV D v8 → gdV D v4 → zlp (fun q => fX18_put__s123 v0 v1 v2 v3 v8 q D) n v4 = some r → (∀ (v4' : Int), r = .inl v4' → gdV D v4' → XD mX18_put_ 171 [none, none, some (rV (v2)), some (.int (iN (v3))), some (rV (v4')), none, none, none, none, none] [] ln D z Φ) → (∀ t, r = .inr t → K_wR Φ ln D z t) → XD mX18_put_ 123 [some (rV (v0)), some (rV (v1)), some (rV (v2)), some (.int (iN (v3))), some (rV (v4)), none, none, none, some (rV (v8)), none] [] ln D z Φ := by
  intro n
  induction n with
  | zero => intro v4 hD rv0 rv1 rv2 rv3 rv8 rv4 h k2 k3; cases h
  | succ n ih =>
    intro v4 hD rv0 rv1 rv2 rv3 rv8 rv4 h k2 k3
    rcases zlp_s h with ⟨v4', e, h'⟩ | e
    · exact SX18_put__123 hD rv0 rv1 rv2 rv3 rv8 rv4 e (fun v4₁ hh f0 => by cases hh; exact ih _ hD rv0 rv1 rv2 rv3 rv8 f0 h' k2 k3) (fun x0 hh => by cases hh) (fun t hh => by cases hh)
    · exact SX18_put__123 hD rv0 rv1 rv2 rv3 rv8 rv4 e (fun v4₁ hh => by cases hh) (fun x0 hh y0 => by cases hh; exact k2 _ rfl y0) (fun t hh => by cases hh; exact k3 t rfl)
def fX18_put__s30 (v0 : Int) (v1 : Int) (v2 : Int) (v3 : Int) (v7 : Int) (v4 : Int) (D : DD) : Option ((Int) ⊕ ((Int) ⊕ (Int × DD))) := (if dO D (v4) 12 then none else none)
set_option maxRecDepth 100000 in
theorem SX18_put__30 {ln : Nat} {D : DD} {z : ZZ} {v0 : Int} {v1 : Int} {v2 : Int} {v3 : Int} {v7 : Int} {v4 : Int} {Φ : xRes → xS → Prop} (hD : okD D) (rv0 : gdV D v0) (rv1 : gdV D v1) (rv2 : gdV D v2) (rv3 : inR v3) (rv7 : gdV D v7) (rv4 : gdV D v4) {p : (Int) ⊕ ((Int) ⊕ (Int × DD))} (h : fX18_put__s30 v0 v1 v2 v3 v7 v4 D = some p) (k1 : ∀ (v4' : Int), p = .inl v4' → gdV D v4' → XD mX18_put_ 30 [some (rV (v0)), some (rV (v1)), some (rV (v2)), some (.int (iN (v3))), some (rV (v4')), none, none, some (rV (v7)), none, none] [] ln D z Φ) (k2 : ∀ (v4' : Int), p = .inr (.inl v4') → gdV D v4' → XD mX18_put_ 79 [none, none, some (rV (v2)), some (.int (iN (v3))), some (rV (v4')), none, none, none, none, none] [] ln D z Φ) (k3 : ∀ t, p = .inr (.inr t) → K_wR Φ ln D z t) : XD mX18_put_ 30 [some (rV (v0)), some (rV (v1)), some (rV (v2)), some (.int (iN (v3))), some (rV (v4)), none, none, some (rV (v7)), none, none] [] ln D z Φ := by
  unfold fX18_put__s30 at h
  refine E_aload (pc' := 32) dX18_put__30 rfl rfl ?_
  refine E_astore (pc' := 34) dX18_put__32 rfl (cl rfl) (Or.inr rfl) (L' := [some (rV (v0)), some (rV (v1)), some (rV (v2)), some (.int (iN (v3))), some (rV (v4)), none, some (rV (v4)), some (rV (v7)), none, none]) rfl ?_
  refine E_aload (pc' := 36) dX18_put__34 rfl rfl ?_
  refine E_aload_n (pc' := 37) dX18_put__36 rfl rfl ?_
  refine E_aload (pc' := 39) dX18_put__37 rfl rfl ?_
  obtain ⟨g1, h⟩ := gs h
  refine E_getR (pc' := 42) dX18_put__39 rfl FX18_105_11 hD g1 rfl (j := 0) rfl ?_
  cases h
theorem LX18_put__30 {ln : Nat} {D : DD} {z : ZZ} {v0 : Int} {v1 : Int} {v2 : Int} {v3 : Int} {v7 : Int} {Φ : xRes → xS → Prop} {r : (Int) ⊕ (Int × DD)} : ∀ (n : Nat) (v4 : Int), okD D → gdV D v0 → gdV D v1 → gdV D v2 → inR v3 → gdV D v7 → gdV D v4 → zlp (fun q => fX18_put__s30 v0 v1 v2 v3 v7 q D) n v4 = some r → (∀ (v4' : Int), r = .inl v4' → gdV D v4' → XD mX18_put_ 79 [none, none, some (rV (v2)), some (.int (iN (v3))), some (rV (v4')), none, none, none, none, none] [] ln D z Φ) → (∀ t, r = .inr t → K_wR Φ ln D z t) → XD mX18_put_ 30 [some (rV (v0)), some (rV (v1)), some (rV (v2)), some (.int (iN (v3))), some (rV (v4)), none, none, some (rV (v7)), none, none] [] ln D z Φ := by
  intro n
  induction n with
  | zero => intro v4 hD rv0 rv1 rv2 rv3 rv7 rv4 h k2 k3; cases h
  | succ n ih =>
    intro v4 hD rv0 rv1 rv2 rv3 rv7 rv4 h k2 k3
    rcases zlp_s h with ⟨v4', e, h'⟩ | e
    · exact SX18_put__30 hD rv0 rv1 rv2 rv3 rv7 rv4 e (fun v4₁ hh f0 => by cases hh; exact ih _ hD rv0 rv1 rv2 rv3 rv7 f0 h' k2 k3) (fun x0 hh => by cases hh) (fun t hh => by cases hh)
    · exact SX18_put__30 hD rv0 rv1 rv2 rv3 rv7 rv4 e (fun v4₁ hh => by cases hh) (fun x0 hh y0 => by cases hh; exact k2 _ rfl y0) (fun t hh => by cases hh; exact k3 t rfl)
def fX18_put_ (v0 : Int) (v1 : Int) (v2 : Int) (v3 : Int) (D : DD) : Option (Int × DD) := (if dO D (v0) 11 then (if ((dW D (v0) 3)) = 0 then (Option.bind (fX18_addEntryToEmptyMap (v0) (v1) (v2) D) fun D18 => some (0, D18)) else (if ((dW D (v0) 2)) = 0 then (Option.bind (fJ15_requireNonNull_262c5 (v1) D) fun r4 => (if isBox (v1) then (Option.bind (zlp (fun q => fX18_put__s123 (v0) (v1) (v2) (v3) (v1) q D) FU (dW D (v0) 3)) fun q6 => match q6 with | .inl x6_v4 => (if dO D (x6_v4) 12 then (if (v3) = (0) then (if ((dW D (x6_v4) 1)) = 0 then (zl (dup D (x6_v4) 1 (v2)) fun D11 => some ((dW D (x6_v4) 1), D11)) else some ((dW D (x6_v4) 1), D)) else (zl (dup D (x6_v4) 1 (v2)) fun D9 => some ((dW D (x6_v4) 1), D9))) else none) | .inr y6 => some y6) else none)) else (Option.bind (zlp (fun q => fX18_put__s30 (v0) (v1) (v2) (v3) ((dW D (v0) 2)) q D) FU (dW D (v0) 3)) fun q12 => match q12 with | .inl x12_v4 => (if dO D (x12_v4) 12 then (if (v3) = (0) then (if ((dW D (x12_v4) 1)) = 0 then (zl (dup D (x12_v4) 1 (v2)) fun D17 => some ((dW D (x12_v4) 1), D17)) else some ((dW D (x12_v4) 1), D)) else (zl (dup D (x12_v4) 1 (v2)) fun D15 => some ((dW D (x12_v4) 1), D15))) else none) | .inr y12 => some y12))) else none)
set_option maxRecDepth 100000 in
theorem CX18_put_ {ln : Nat} {D : DD} {z : ZZ} {v0 : Int} {v1 : Int} {v2 : Int} {v3 : Int} (hD : okD D) (rv0 : gdV D v0) (rv1 : gdV D v1) (rv2 : gdV D v2) (rv3 : inR v3) {p : Int × DD} (h : fX18_put_ v0 v1 v2 v3 D = some p) : XD mX18_put_ 0 (xEnt [rV (v0), rV (v1), rV (v2), .int (iN (v3))] (xL mX18_put_)) [] ln D z (Qd (FdD D p.2 (gdV p.2 p.1)) (.inl (some (rV p.1))) (sD ln p.2 z)) := by
  have k : K_wR (Qd (FdD D p.2 (gdV p.2 p.1)) (.inl (some (rV p.1))) (sD ln p.2 z)) ln D z p := fun a b c => ⟨⟨a, b, c⟩, rfl, rfl⟩
  unfold fX18_put_ at h
  refine E_ent (c1_r (c1_r (c1_r (c1_i c1_n)))) (M := [some (rV (v0)), some (rV (v1)), some (rV (v2)), some (.int (iN (v3))), none, none, none, none, none, none]) rfl ?_
  refine E_aload_n (pc' := 1) dX18_put__0 rfl rfl ?_
  obtain ⟨g1, h⟩ := gs h
  refine E_getR (pc' := 4) dX18_put__1 rfl FX18_101_10 hD g1 rfl (j := 3) rfl ?_
  refine E_astore (pc' := 6) dX18_put__4 rfl (cl rfl) (Or.inr rfl) (L' := [some (rV (v0)), some (rV (v1)), some (rV (v2)), some (.int (iN (v3))), some (rV ((dW D (v0) 3))), none, none, none, none, none]) rfl ?_
  refine E_aload (pc' := 8) dX18_put__6 rfl rfl ?_
  refine E_ifnonnull dX18_put__8 (tgt := 19) rfl (pc' := 11) rfl hD (gd_slot (k := 3) hD g1 rfl (by decide)) (fun c2 => ?_) (fun c2 => ?_)
  · have h := if_f c2 h
    refine E_aload_n (pc' := 20) dX18_put__19 rfl rfl ?_
    refine E_getR (pc' := 23) dX18_put__20 rfl FX18_16_10 hD g1 rfl (j := 2) rfl ?_
    refine E_astore (pc' := 25) dX18_put__23 rfl (cl rfl) (Or.inr rfl) (L' := [some (rV (v0)), some (rV (v1)), some (rV (v2)), some (.int (iN (v3))), some (rV ((dW D (v0) 3))), none, none, some (rV ((dW D (v0) 2))), none, none]) rfl ?_
    refine E_aload (pc' := 27) dX18_put__25 rfl rfl ?_
    refine E_ifnull dX18_put__27 (tgt := 112) rfl (pc' := 30) rfl hD (gd_slot (k := 2) hD g1 rfl (by decide)) (fun c3 => ?_) (fun c3 => ?_)
    · have h := if_t c3 h
      refine E_aload_n (pc' := 113) dX18_put__112 rfl rfl ?_
      obtain ⟨r4, q4, h⟩ := bs h
      refine E_callS [rV (v1)] (pc' := 116) dX18_put__113 rfl (xSn SX18_95) (by decide) rfl (c1_r c1_n) (cs rfl) c1_n (cs rfl) rfl hD (CJ15_requireNonNull_262c5 hD rv1 q4) (fun a4 b4 f4 => ?_)
      refine X_pop (pc' := 117) dX18_put__116 rfl (rV_cat _) ?_
      refine E_aload_n (pc' := 118) dX18_put__117 rfl rfl ?_
      obtain ⟨g5, h⟩ := gs h
      refine E_castY (pc' := 121) dX18_put__118 rfl tq771 tq776 (box_pos g5) (box_is g5) ?_
      refine E_astore (pc' := 123) dX18_put__121 rfl (cl rfl) (Or.inr (xC1_R _)) (L' := [some (rV (v0)), some (rV (v1)), some (rV (v2)), some (.int (iN (v3))), some (rV ((dW D (v0) 3))), none, none, some (rV ((dW D (v0) 2))), some (rV (v1)), none]) rfl ?_
      obtain ⟨x6_v4 | y6, q6, h⟩ := bs h
      rotate_left
      · exact X_sub (sub_s (sub_s (sub_s (sub_s (sub_s (sub_n (sub_n (sub_n (sub_s (sub_n sub_0)))))))))) (LX18_put__123 FU _ hD rv0 rv1 rv2 rv3 rv1 (gd_slot (k := 3) hD g1 rfl (by decide)) q6 (fun x6_v4₁ hh rx6_v4 => by cases hh) (fun t hh => by cases hh; cases h; exact k))
      refine X_sub (sub_s (sub_s (sub_s (sub_s (sub_s (sub_n (sub_n (sub_n (sub_s (sub_n sub_0)))))))))) (LX18_put__123 FU _ hD rv0 rv1 rv2 rv3 rv1 (gd_slot (k := 3) hD g1 rfl (by decide)) q6 (fun x6_v4₁ hh rx6_v4 => ?_) (fun t hh => by cases hh))
      cases hh
      refine E_aload (pc' := 173) dX18_put__171 rfl rfl ?_
      obtain ⟨g7, h⟩ := gs h
      refine E_getR (pc' := 176) dX18_put__173 rfl FX18_58_11 hD g7 rfl (j := 1) rfl ?_
      refine E_astore (pc' := 178) dX18_put__176 rfl (cl rfl) (Or.inr rfl) (L' := [none, none, some (rV (v2)), some (.int (iN (v3))), some (rV (x6_v4)), none, none, none, none, some (rV ((dW D (x6_v4) 1)))]) rfl ?_
      refine X_iload_n (pc' := 179) dX18_put__178 rfl rfl ?_
      refine X_if_ne dX18_put__179 (tgt := 187) rfl (pc' := 182) rfl rv3 (fun c8 => ?_) (fun c8 => ?_)
      · have h := if_f c8 h
        refine E_aload (pc' := 189) dX18_put__187 rfl rfl ?_
        refine E_aload_n (pc' := 190) dX18_put__189 rfl rfl ?_
        refine E_putR (pc' := 193) dX18_put__190 rfl FX18_58_11 hD g7 rfl (fun r hr => by cases hr; exact Or.inl rfl) (Or.inl ⟨_, rfl⟩) (j := 1) rfl ?_
        obtain ⟨D9, e9, f9, h⟩ := zl_some (P := fun q => okD q ∧ DLe D q) h ⟨okD_dup (k := 1) hD (okS_R g7 rfl (by decide) rv2), DLe_dup _ _ _ _⟩
        rw [e9]
        refine E_aload (pc' := 195) dX18_put__193 rfl rfl ?_
        cases h
        exact E_aret dX18_put__195 rfl (Or.inl ⟨_, rfl⟩) (k f9.1 f9.2 (gdV_le f9.2 (gd_slot (k := 1) hD g7 rfl (by decide))))
      have h := if_t c8 h
      refine E_aload (pc' := 184) dX18_put__182 rfl rfl ?_
      refine E_ifnonnull dX18_put__184 (tgt := 193) rfl (pc' := 187) rfl hD (gd_slot (k := 1) hD g7 rfl (by decide)) (fun c10 => ?_) (fun c10 => ?_)
      · have h := if_f c10 h
        refine E_aload (pc' := 195) dX18_put__193 rfl rfl ?_
        cases h
        exact E_aret dX18_put__195 rfl (Or.inl ⟨_, rfl⟩) (k hD (DLe_refl _) (gd_slot (k := 1) hD g7 rfl (by decide)))
      have h := if_t c10 h
      refine E_aload (pc' := 189) dX18_put__187 rfl rfl ?_
      refine E_aload_n (pc' := 190) dX18_put__189 rfl rfl ?_
      refine E_putR (pc' := 193) dX18_put__190 rfl FX18_58_11 hD g7 rfl (fun r hr => by cases hr; exact Or.inl rfl) (Or.inl ⟨_, rfl⟩) (j := 1) rfl ?_
      obtain ⟨D11, e11, f11, h⟩ := zl_some (P := fun q => okD q ∧ DLe D q) h ⟨okD_dup (k := 1) hD (okS_R g7 rfl (by decide) rv2), DLe_dup _ _ _ _⟩
      rw [e11]
      refine E_aload (pc' := 195) dX18_put__193 rfl rfl ?_
      cases h
      exact E_aret dX18_put__195 rfl (Or.inl ⟨_, rfl⟩) (k f11.1 f11.2 (gdV_le f11.2 (gd_slot (k := 1) hD g7 rfl (by decide))))
    have h := if_f c3 h
    obtain ⟨x12_v4 | y12, q12, h⟩ := bs h
    rotate_left
    · exact X_sub (sub_s (sub_s (sub_s (sub_s (sub_s (sub_n (sub_n (sub_s (sub_n (sub_n sub_0)))))))))) (LX18_put__30 FU _ hD rv0 rv1 rv2 rv3 (gd_slot (k := 2) hD g1 rfl (by decide)) (gd_slot (k := 3) hD g1 rfl (by decide)) q12 (fun x12_v4₁ hh rx12_v4 => by cases hh) (fun t hh => by cases hh; cases h; exact k))
    refine X_sub (sub_s (sub_s (sub_s (sub_s (sub_s (sub_n (sub_n (sub_s (sub_n (sub_n sub_0)))))))))) (LX18_put__30 FU _ hD rv0 rv1 rv2 rv3 (gd_slot (k := 2) hD g1 rfl (by decide)) (gd_slot (k := 3) hD g1 rfl (by decide)) q12 (fun x12_v4₁ hh rx12_v4 => ?_) (fun t hh => by cases hh))
    cases hh
    refine E_aload (pc' := 81) dX18_put__79 rfl rfl ?_
    obtain ⟨g13, h⟩ := gs h
    refine E_getR (pc' := 84) dX18_put__81 rfl FX18_58_11 hD g13 rfl (j := 1) rfl ?_
    refine E_astore (pc' := 86) dX18_put__84 rfl (cl rfl) (Or.inr rfl) (L' := [none, none, some (rV (v2)), some (.int (iN (v3))), some (rV (x12_v4)), none, none, none, some (rV ((dW D (x12_v4) 1))), none]) rfl ?_
    refine X_iload_n (pc' := 87) dX18_put__86 rfl rfl ?_
    refine X_if_ne dX18_put__87 (tgt := 95) rfl (pc' := 90) rfl rv3 (fun c14 => ?_) (fun c14 => ?_)
    · have h := if_f c14 h
      refine E_aload (pc' := 97) dX18_put__95 rfl rfl ?_
      refine E_aload_n (pc' := 98) dX18_put__97 rfl rfl ?_
      refine E_putR (pc' := 101) dX18_put__98 rfl FX18_58_11 hD g13 rfl (fun r hr => by cases hr; exact Or.inl rfl) (Or.inl ⟨_, rfl⟩) (j := 1) rfl ?_
      obtain ⟨D15, e15, f15, h⟩ := zl_some (P := fun q => okD q ∧ DLe D q) h ⟨okD_dup (k := 1) hD (okS_R g13 rfl (by decide) rv2), DLe_dup _ _ _ _⟩
      rw [e15]
      refine E_aload (pc' := 103) dX18_put__101 rfl rfl ?_
      cases h
      exact E_aret dX18_put__103 rfl (Or.inl ⟨_, rfl⟩) (k f15.1 f15.2 (gdV_le f15.2 (gd_slot (k := 1) hD g13 rfl (by decide))))
    have h := if_t c14 h
    refine E_aload (pc' := 92) dX18_put__90 rfl rfl ?_
    refine E_ifnonnull dX18_put__92 (tgt := 101) rfl (pc' := 95) rfl hD (gd_slot (k := 1) hD g13 rfl (by decide)) (fun c16 => ?_) (fun c16 => ?_)
    · have h := if_f c16 h
      refine E_aload (pc' := 103) dX18_put__101 rfl rfl ?_
      cases h
      exact E_aret dX18_put__103 rfl (Or.inl ⟨_, rfl⟩) (k hD (DLe_refl _) (gd_slot (k := 1) hD g13 rfl (by decide)))
    have h := if_t c16 h
    refine E_aload (pc' := 97) dX18_put__95 rfl rfl ?_
    refine E_aload_n (pc' := 98) dX18_put__97 rfl rfl ?_
    refine E_putR (pc' := 101) dX18_put__98 rfl FX18_58_11 hD g13 rfl (fun r hr => by cases hr; exact Or.inl rfl) (Or.inl ⟨_, rfl⟩) (j := 1) rfl ?_
    obtain ⟨D17, e17, f17, h⟩ := zl_some (P := fun q => okD q ∧ DLe D q) h ⟨okD_dup (k := 1) hD (okS_R g13 rfl (by decide) rv2), DLe_dup _ _ _ _⟩
    rw [e17]
    refine E_aload (pc' := 103) dX18_put__101 rfl rfl ?_
    cases h
    exact E_aret dX18_put__103 rfl (Or.inl ⟨_, rfl⟩) (k f17.1 f17.2 (gdV_le f17.2 (gd_slot (k := 1) hD g13 rfl (by decide))))
  have h := if_t c2 h
  refine E_aload_n (pc' := 12) dX18_put__11 rfl rfl ?_
  refine E_aload_n (pc' := 13) dX18_put__12 rfl rfl ?_
  refine E_aload_n (pc' := 14) dX18_put__13 rfl rfl ?_
  obtain ⟨D18, q18, h⟩ := bs h
  refine E_callV [rV (v1), rV (v2)] (pc' := 17) dX18_put__14 rfl (xVc VX18_135) (by decide) ⟨dO_pos g1, dO_is hD g1 rfl⟩ rfl (c1_r (c1_r c1_n)) (cs rfl) c1_n (cs rfl) rfl hD (CX18_addEntryToEmptyMap hD rv0 rv1 rv2 q18) (fun a18 b18 f18 => ?_)
  refine E_null (pc' := 18) dX18_put__17 rfl ?_
  cases h
  exact E_aret dX18_put__18 rfl (Or.inl ⟨_, rfl⟩) (k a18 b18 (Or.inl (Or.inl rfl)))
def fX18_put (v0 : Int) (v1 : Int) (v2 : Int) (D : DD) : Option (Int × DD) := (Option.bind (fX18_put_ (v0) (v1) (v2) (1) D) fun q1 => match q1 with | (r1, D1) => (if dO D (v0) 11 then some (r1, D1) else none))
set_option maxRecDepth 100000 in
theorem CX18_put {ln : Nat} {D : DD} {z : ZZ} {v0 : Int} {v1 : Int} {v2 : Int} (hD : okD D) (rv0 : gdV D v0) (rv1 : gdV D v1) (rv2 : gdV D v2) {p : Int × DD} (h : fX18_put v0 v1 v2 D = some p) : XD mX18_put 0 (xEnt [rV (v0), rV (v1), rV (v2)] (xL mX18_put)) [] ln D z (Qd (FdD D p.2 (gdV p.2 p.1)) (.inl (some (rV p.1))) (sD ln p.2 z)) := by
  have k : K_wR (Qd (FdD D p.2 (gdV p.2 p.1)) (.inl (some (rV p.1))) (sD ln p.2 z)) ln D z p := fun a b c => ⟨⟨a, b, c⟩, rfl, rfl⟩
  unfold fX18_put at h
  refine E_ent (c1_r (c1_r (c1_r c1_n))) (M := [some (rV (v0)), some (rV (v1)), some (rV (v2))]) rfl ?_
  refine E_aload_n (pc' := 1) dX18_put_0 rfl rfl ?_
  refine E_aload_n (pc' := 2) dX18_put_1 rfl rfl ?_
  refine E_aload_n (pc' := 3) dX18_put_2 rfl rfl ?_
  refine X_iconst (pc' := 4) dX18_put_3 rfl ?_
  obtain ⟨⟨r1, D1⟩, q1, h⟩ := bs h
  obtain ⟨g2, h⟩ := gs h
  refine E_callV [rV (v1), rV (v2), .int (iN (1))] (pc' := 7) dX18_put_4 rfl (xVc VX18_127) (by decide) ⟨dO_pos g2, dO_is hD g2 rfl⟩ rfl (c1_r (c1_r (c1_i c1_n))) (cs rfl) c1_n (cs rfl) rfl hD (CX18_put_ hD rv0 rv1 rv2 (inR_c (n := 1) rfl) q1) (fun a1 b1 f1 => ?_)
  cases h
  exact E_aret dX18_put_7 rfl (Or.inl ⟨_, rfl⟩) (k a1 b1 f1)
def fJ5_init_d00df (v0 : Int) (v1 : Int) (D : DD) : Option (DD) := (if (151 : Int) ≤ (v0) ∧ (v0 : Int) < dT D ∧ True then (if (1 : Int) = (0) then none else (if ((0 : Int) ≤ (v1) ∧ (v1 : Int) ≤ 1000000) ∧ dT D < 600000 ∧ dS D + (v1) ≤ 7200000 then (zl (dnew D 21 (v1 : Int).toNat) fun D4 => (if dO D4 (v0) 17 then (zl (dup D4 (v0) 0 ((dT D))) fun D6 => (if (-128 : Int) ≤ (0) ∧ (0 : Int) < 128 then (zl (dup D6 (v0) 1 (0)) fun D8 => some D8) else none)) else none)) else none)) else none)
set_option maxRecDepth 100000 in
theorem CJ5_init_d00df {ln : Nat} {D : DD} {z : ZZ} {v0 : Int} {v1 : Int} (hD : okD D) (rv0 : gdV D v0) (rv1 : inR v1) {p : DD} (h : fJ5_init_d00df v0 v1 D = some p) : XD mJ5_init_d00df 0 (xEnt [rV (v0), .int (iN (v1))] (xL mJ5_init_d00df)) [] ln D z (Qd (FdD D p (True)) (.inl (none)) (sD ln p z)) := by
  have k : K_w (Qd (FdD D p (True)) (.inl (none)) (sD ln p z)) ln D z p := fun a b c => ⟨⟨a, b, c⟩, rfl, rfl⟩
  unfold fJ5_init_d00df at h
  refine E_ent (c1_r (c1_i c1_n)) (M := [some (rV (v0)), some (.int (iN (v1)))]) rfl ?_
  refine E_aload_n (pc' := 1) dJ5_init_d00df_0 rfl rfl ?_
  obtain ⟨g1, h⟩ := gs h
  refine E_objInit (μ := mJ5_init_d00df) (pc' := 4) dJ5_init_d00df_1 rfl tq1126 tq53 tq54 hD ⟨g1.1, g1.2.1⟩ c1_n (cs rfl) ?_
  refine X_gets (pc' := 7) dJ5_init_d00df_4 rfl (List.mem_of_getElem? (i := 3) rfl) tq957 ?_
  refine X_to (M := [some (rV (v0)), some (.int (iN (v1)))]) (su := [.int (iN (1))]) rfl rfl ?_
  refine X_if_eq dJ5_init_d00df_7 (tgt := 25) rfl (pc' := 10) rfl (inR_c (n := 1) rfl) (fun c2 => ?_) (fun c2 => ?_)
  · have h := if_t c2 h
    refine E_aload_n (pc' := 26) dJ5_init_d00df_25 rfl rfl ?_
    refine X_iload_n (pc' := 27) dJ5_init_d00df_26 rfl rfl ?_
    cases h
  have h := if_f c2 h
  refine E_aload_n (pc' := 11) dJ5_init_d00df_10 rfl rfl ?_
  refine X_iload_n (pc' := 12) dJ5_init_d00df_11 rfl rfl ?_
  obtain ⟨g3, h⟩ := gs h
  refine E_newB (pc' := 14) dJ5_init_d00df_12 rfl tq385 hD g3 ?_
  obtain ⟨D4, e4, f4, h⟩ := zl_some (P := fun q => okD q ∧ DLe D q ∧ (dO q (dT D) 21 ∧ ((dH q (dT D)).2 : Int) = (v1))) h ⟨okD_dnew hD (by decide) (by omega) g3.2.1 (by omega), DLe_dnew _ (by decide), dO_dnew hD, dH_dnew g3.1.1⟩
  rw [e4]
  obtain ⟨g5, h⟩ := gs h
  refine E_putR (pc' := 17) dJ5_init_d00df_14 rfl FJ5_15_16 f4.1 g5 rfl (fun r hr => by cases hr; exact Or.inl rfl) (Or.inr ⟨_, rfl⟩) (j := 0) rfl ?_
  obtain ⟨D6, e6, f6, h⟩ := zl_some (P := fun q => okD q ∧ DLe D4 q) h ⟨okD_dup (k := 0) f4.1 (okS_R g5 rfl (by decide) (dO_gd f4.2.2.1 (by decide))), DLe_dup _ _ _ _⟩
  rw [e6]
  refine E_aload_n (pc' := 18) dJ5_init_d00df_17 rfl rfl ?_
  refine X_iconst (pc' := 19) dJ5_init_d00df_18 rfl ?_
  obtain ⟨g7, h⟩ := gs h
  refine E_putI (pc' := 22) dJ5_init_d00df_19 rfl FJ5_22_16 f6.1 (dO_le f6.2 g5) rfl (fun r hr => by cases hr; exact Or.inl rfl) (xFit_byte g7) (j := 1) rfl ?_
  obtain ⟨D8, e8, f8, h⟩ := zl_some (P := fun q => okD q ∧ DLe D6 q) h ⟨okD_dup (k := 1) f6.1 (okS_I (dO_le f6.2 g5) rfl (by decide) (by decide) (inR_byte g7)), DLe_dup _ _ _ _⟩
  rw [e8]
  refine X_goto dJ5_init_d00df_22 (tgt := 38) rfl ?_
  cases h
  exact X_vret dJ5_init_d00df_38 rfl (k f8.1 (DLe_trans (DLe_trans f4.2.1 f6.2) f8.2) trivial)
def fJ4_init_da8c8 (v0 : Int) (D : DD) : Option (DD) := (Option.bind (fJ5_init_d00df (v0) (16) D) fun D1 => (if (151 : Int) ≤ (v0) ∧ (v0 : Int) < dT D ∧ True then some D1 else none))
set_option maxRecDepth 100000 in
theorem CJ4_init_da8c8 {ln : Nat} {D : DD} {z : ZZ} {v0 : Int} (hD : okD D) (rv0 : gdV D v0) {p : DD} (h : fJ4_init_da8c8 v0 D = some p) : XD mJ4_init_da8c8 0 (xEnt [rV (v0)] (xL mJ4_init_da8c8)) [] ln D z (Qd (FdD D p (True)) (.inl (none)) (sD ln p z)) := by
  have k : K_w (Qd (FdD D p (True)) (.inl (none)) (sD ln p z)) ln D z p := fun a b c => ⟨⟨a, b, c⟩, rfl, rfl⟩
  unfold fJ4_init_da8c8 at h
  refine E_ent (c1_r c1_n) (M := [some (rV (v0))]) rfl ?_
  refine E_aload_n (pc' := 1) dJ4_init_da8c8_0 rfl rfl ?_
  refine X_bipush (pc' := 3) dJ4_init_da8c8_1 rfl (by decide) ?_
  obtain ⟨D1, q1, h⟩ := bs h
  obtain ⟨g2, h⟩ := gs h
  refine E_callI (μ := mJ4_init_da8c8) (μ' := mJ5_init_d00df) [.int (iN (16))] (pc' := 6) dJ4_init_da8c8_3 rfl tq1123 IJ4_1 (by decide) ⟨g2.1, g2.2.1⟩ rfl (c1_i c1_n) (cs rfl) c1_n (cs rfl) rfl hD (CJ5_init_d00df hD rv0 (inR_c (n := 16) rfl) q1) (fun a1 b1 f1 => ?_)
  cases h
  exact X_vret dJ4_init_da8c8_6 rfl (k a1 b1 trivial)
def fJ0_coder_7d493 (v0 : Int) (D : DD) : Option (Int) := (if (1 : Int) = (0) then (if (-128 : Int) ≤ (1) ∧ (1 : Int) < 128 then some (1) else none) else (if isStr (v0) ∨ dO D (v0) 18 then (if (-128 : Int) ≤ ((strC D (v0))) ∧ ((strC D (v0)) : Int) < 128 then some ((strC D (v0))) else none) else none))
set_option maxRecDepth 100000 in
theorem CJ0_coder_7d493 {ln : Nat} {D : DD} {z : ZZ} {v0 : Int} (hD : okD D) (rv0 : gdV D v0) {p : Int} (h : fJ0_coder_7d493 v0 D = some p) : XD mJ0_coder_7d493 0 (xEnt [rV (v0)] (xL mJ0_coder_7d493)) [] ln D z (Qd (FdD D D (inR p)) (.inl (some (.int (iN p)))) (sD ln D z)) := by
  have k : K_r (Qd (FdD D D (inR p)) (.inl (some (.int (iN p)))) (sD ln D z)) ln D z p := fun a => ⟨⟨hD, DLe_refl D, a⟩, rfl, rfl⟩
  unfold fJ0_coder_7d493 at h
  refine E_ent (c1_r c1_n) (M := [some (rV (v0))]) rfl ?_
  refine X_gets (pc' := 3) dJ0_coder_7d493_0 rfl (List.mem_of_getElem? (i := 3) rfl) tq312 ?_
  refine X_to (M := [some (rV (v0))]) (su := [.int (iN (1))]) rfl rfl ?_
  refine X_if_eq dJ0_coder_7d493_3 (tgt := 13) rfl (pc' := 6) rfl (inR_c (n := 1) rfl) (fun c1 => ?_) (fun c1 => ?_)
  · have h := if_t c1 h
    refine X_iconst (pc' := 14) dJ0_coder_7d493_13 rfl ?_
    obtain ⟨g2, h⟩ := gs h
    cases h
    exact E_bret dJ0_coder_7d493_14 rfl g2 (k (inR_c (n := 1) rfl))
  have h := if_f c1 h
  refine E_aload_n (pc' := 7) dJ0_coder_7d493_6 rfl rfl ?_
  obtain ⟨g3, h⟩ := gs h
  refine E_strC (pc' := 10) dJ0_coder_7d493_7 rfl tq1369 FJ0_15_17 hD g3 ?_
  refine X_goto dJ0_coder_7d493_10 (tgt := 14) rfl ?_
  obtain ⟨g4, h⟩ := gs h
  cases h
  exact E_bret dJ0_coder_7d493_14 rfl g4 (k (in_strC hD g3))
def fJ0_length_8abf5 (v0 : Int) (D : DD) : Option (Int) := (if isStr (v0) ∨ dO D (v0) 18 then (if isByt D ((strV D (v0))) then (Option.bind (fJ0_coder_7d493 (v0) D) fun r3 => some ((zshr (blen D ((strV D (v0)))) r3))) else none) else none)
set_option maxRecDepth 100000 in
theorem CJ0_length_8abf5 {ln : Nat} {D : DD} {z : ZZ} {v0 : Int} (hD : okD D) (rv0 : gdV D v0) {p : Int} (h : fJ0_length_8abf5 v0 D = some p) : XD mJ0_length_8abf5 0 (xEnt [rV (v0)] (xL mJ0_length_8abf5)) [] ln D z (Qd (FdD D D (inR p)) (.inl (some (.int (iN p)))) (sD ln D z)) := by
  have k : K_r (Qd (FdD D D (inR p)) (.inl (some (.int (iN p)))) (sD ln D z)) ln D z p := fun a => ⟨⟨hD, DLe_refl D, a⟩, rfl, rfl⟩
  unfold fJ0_length_8abf5 at h
  refine E_ent (c1_r c1_n) (M := [some (rV (v0))]) rfl ?_
  refine E_aload_n (pc' := 1) dJ0_length_8abf5_0 rfl rfl ?_
  obtain ⟨g1, h⟩ := gs h
  refine E_strV (pc' := 4) dJ0_length_8abf5_1 rfl tq1368 FJ0_9_17 hD g1 ?_
  obtain ⟨g2, h⟩ := gs h
  refine E_bytL (pc' := 5) dJ0_length_8abf5_4 rfl hD g2 ?_
  refine E_aload_n (pc' := 6) dJ0_length_8abf5_5 rfl rfl ?_
  obtain ⟨r3, q3, h⟩ := bs h
  refine E_callV [] (pc' := 9) dJ0_length_8abf5_6 rfl (xVc VJ0_335) (by decide) (str_recv hD g1) rfl c1_n (cs rfl) (c1_i c1_n) (cs rfl) rfl hD (CJ0_coder_7d493 hD rv0 q3) (fun a3 b3 f3 => ?_)
  refine X_ishr (pc' := 10) dJ0_length_8abf5_9 rfl ?_
  cases h
  exact X_iret dJ0_length_8abf5_10 rfl (k (inR_zshr _ _))
def fJ5_newCapacity_0f7a4 (v0 : Int) (v1 : Int) (D : DD) : Option (Int) := (if dO D (v0) 17 then (if isArr D ((dW D (v0) 0)) then (if inR (((zshl v1 (dW D (v0) 1)) - (alen D ((dW D (v0) 0))))) then (if inR (((alen D ((dW D (v0) 0))) + (zshl 2 (dW D (v0) 1)))) then (Option.bind (fJ8_newLength_cabcc ((alen D ((dW D (v0) 0)))) (((zshl v1 (dW D (v0) 1)) - (alen D ((dW D (v0) 0))))) (((alen D ((dW D (v0) 0))) + (zshl 2 (dW D (v0) 1)))) D) fun r5 => (if (r5) = (2147483647) then none else some ((zshr r5 (dW D (v0) 1))))) else none) else none) else none) else none)
set_option maxRecDepth 100000 in
theorem CJ5_newCapacity_0f7a4 {ln : Nat} {D : DD} {z : ZZ} {v0 : Int} {v1 : Int} (hD : okD D) (rv0 : gdV D v0) (rv1 : inR v1) {p : Int} (h : fJ5_newCapacity_0f7a4 v0 v1 D = some p) : XD mJ5_newCapacity_0f7a4 0 (xEnt [rV (v0), .int (iN (v1))] (xL mJ5_newCapacity_0f7a4)) [] ln D z (Qd (FdD D D (inR p)) (.inl (some (.int (iN p)))) (sD ln D z)) := by
  have k : K_r (Qd (FdD D D (inR p)) (.inl (some (.int (iN p)))) (sD ln D z)) ln D z p := fun a => ⟨⟨hD, DLe_refl D, a⟩, rfl, rfl⟩
  unfold fJ5_newCapacity_0f7a4 at h
  refine E_ent (c1_r (c1_i c1_n)) (M := [some (rV (v0)), some (.int (iN (v1))), none, none, none, none]) rfl ?_
  refine E_aload_n (pc' := 1) dJ5_newCapacity_0f7a4_0 rfl rfl ?_
  obtain ⟨g1, h⟩ := gs h
  refine E_getR (pc' := 4) dJ5_newCapacity_0f7a4_1 rfl FJ5_15_16 hD g1 rfl (j := 0) rfl ?_
  obtain ⟨g2, h⟩ := gs h
  refine E_alenA (pc' := 5) dJ5_newCapacity_0f7a4_4 rfl hD g2 ?_
  refine X_istore_n (pc' := 6) dJ5_newCapacity_0f7a4_5 rfl (cl rfl) (Or.inr rfl) (L' := [some (rV (v0)), some (.int (iN (v1))), some (.int (iN ((alen D ((dW D (v0) 0)))))), none, none, none]) rfl ?_
  refine X_iload_n (pc' := 7) dJ5_newCapacity_0f7a4_6 rfl rfl ?_
  refine E_aload_n (pc' := 8) dJ5_newCapacity_0f7a4_7 rfl rfl ?_
  refine E_getI (pc' := 11) dJ5_newCapacity_0f7a4_8 rfl FJ5_22_16 hD g1 rfl (j := 1) rfl ?_
  refine X_ishl (pc' := 12) dJ5_newCapacity_0f7a4_11 rfl ?_
  refine X_istore_n (pc' := 13) dJ5_newCapacity_0f7a4_12 rfl (cl rfl) (Or.inr rfl) (L' := [some (rV (v0)), some (.int (iN (v1))), some (.int (iN ((alen D ((dW D (v0) 0)))))), some (.int (iN ((zshl v1 (dW D (v0) 1))))), none, none]) rfl ?_
  refine X_iload_n (pc' := 14) dJ5_newCapacity_0f7a4_13 rfl rfl ?_
  refine X_iload_n (pc' := 15) dJ5_newCapacity_0f7a4_14 rfl rfl ?_
  refine X_isub (pc' := 16) dJ5_newCapacity_0f7a4_15 rfl ?_
  refine X_istore (pc' := 18) dJ5_newCapacity_0f7a4_16 rfl (cl rfl) (Or.inr rfl) (L' := [some (rV (v0)), some (.int (iN (v1))), some (.int (iN ((alen D ((dW D (v0) 0)))))), some (.int (iN ((zshl v1 (dW D (v0) 1))))), some (.int (iN (((zshl v1 (dW D (v0) 1)) - (alen D ((dW D (v0) 0))))))), none]) rfl ?_
  refine X_iload_n (pc' := 19) dJ5_newCapacity_0f7a4_18 rfl rfl ?_
  refine X_iload (pc' := 21) dJ5_newCapacity_0f7a4_19 rfl rfl ?_
  refine X_iload_n (pc' := 22) dJ5_newCapacity_0f7a4_21 rfl rfl ?_
  refine X_iconst (pc' := 23) dJ5_newCapacity_0f7a4_22 rfl ?_
  refine E_aload_n (pc' := 24) dJ5_newCapacity_0f7a4_23 rfl rfl ?_
  refine E_getI (pc' := 27) dJ5_newCapacity_0f7a4_24 rfl FJ5_22_16 hD g1 rfl (j := 1) rfl ?_
  refine X_ishl (pc' := 28) dJ5_newCapacity_0f7a4_27 rfl ?_
  refine X_iadd (pc' := 29) dJ5_newCapacity_0f7a4_28 rfl ?_
  obtain ⟨g3, h⟩ := gs h
  obtain ⟨g4, h⟩ := gs h
  obtain ⟨r5, q5, h⟩ := bs h
  refine E_callS [.int (iN ((alen D ((dW D (v0) 0))))), .int (iN (((zshl v1 (dW D (v0) 1)) - (alen D ((dW D (v0) 0)))))), .int (iN (((alen D ((dW D (v0) 0))) + (zshl 2 (dW D (v0) 1)))))] (pc' := 32) dJ5_newCapacity_0f7a4_29 rfl (xSn SJ5_114) (by decide) rfl (c1_i (c1_i (c1_i c1_n))) (cs rfl) c1_n (cs rfl) rfl hD (CJ8_newLength_cabcc hD (in_alen hD g2) g3 g4 q5) (fun a5 b5 f5 => ?_)
  refine X_istore (pc' := 34) dJ5_newCapacity_0f7a4_32 rfl (cl rfl) (Or.inr rfl) (L' := [some (rV (v0)), some (.int (iN (v1))), some (.int (iN ((alen D ((dW D (v0) 0)))))), some (.int (iN ((zshl v1 (dW D (v0) 1))))), some (.int (iN (((zshl v1 (dW D (v0) 1)) - (alen D ((dW D (v0) 0))))))), some (.int (iN (r5)))]) rfl ?_
  refine X_iload (pc' := 36) dJ5_newCapacity_0f7a4_34 rfl rfl ?_
  refine X_ldcI (pc' := 38) dJ5_newCapacity_0f7a4_36 rfl tq1167 (n := 2147483647) rfl ?_
  refine X_icmp_ne dJ5_newCapacity_0f7a4_38 (tgt := 51) rfl (pc' := 41) rfl ⟨f5.1, f5.2, (inR_c (n := 2147483647) rfl).1, (inR_c (n := 2147483647) rfl).2⟩ (fun c6 => ?_) (fun c6 => ?_)
  · have h := if_f c6 h
    refine X_iload (pc' := 53) dJ5_newCapacity_0f7a4_51 rfl rfl ?_
    refine E_aload_n (pc' := 54) dJ5_newCapacity_0f7a4_53 rfl rfl ?_
    refine E_getI (pc' := 57) dJ5_newCapacity_0f7a4_54 rfl FJ5_22_16 hD g1 rfl (j := 1) rfl ?_
    refine X_ishr (pc' := 58) dJ5_newCapacity_0f7a4_57 rfl ?_
    cases h
    exact X_iret dJ5_newCapacity_0f7a4_58 rfl (k (inR_zshr _ _))
  have h := if_t c6 h
  cases h
def fJ7_copyOf_9075b (v0 : Int) (v1 : Int) (D : DD) : Option (Int × DD) := (if isArr D (v0) then (if (v1) = ((alen D (v0))) then (if dO D (v0) 21 then (if dT D < 600000 ∧ dS D + ((dH D (v0)).2 : Int) ≤ 7200000 then (zl (dclb D (v0) (dH D (v0)).2) fun D11 => some ((dT D), D11)) else none) else none) else (if ((0 : Int) ≤ (v1) ∧ (v1 : Int) ≤ 1000000) ∧ dT D < 600000 ∧ dS D + (v1) ≤ 7200000 then (zl (dnew D 21 (v1 : Int).toNat) fun D4 => (if isArr D4 (v0) then (if dO D4 (v0) 21 then (if (0 : Int) ≤ (0) ∧ (0 : Int) ≤ (0) ∧ 0 ≤ ((min ((alen D4 (v0))) (v1))) ∧ (0) + ((min ((alen D4 (v0))) (v1))) ≤ ((dH D4 (v0)).2 : Int) ∧ (0) + ((min ((alen D4 (v0))) (v1))) ≤ ((dH D4 ((dT D))).2 : Int) then (zl (dcpy D4 (v0) ((dT D)) (0) (0) ((min ((alen D4 (v0))) (v1)))) fun D8 => some ((dT D), D8)) else none) else none) else none)) else none)) else none)
set_option maxRecDepth 100000 in
theorem CJ7_copyOf_9075b {ln : Nat} {D : DD} {z : ZZ} {v0 : Int} {v1 : Int} (hD : okD D) (rv0 : gdV D v0) (rv1 : inR v1) {p : Int × DD} (h : fJ7_copyOf_9075b v0 v1 D = some p) : XD mJ7_copyOf_9075b 0 (xEnt [rV (v0), .int (iN (v1))] (xL mJ7_copyOf_9075b)) [] ln D z (Qd (FdD D p.2 (gdV p.2 p.1)) (.inl (some (rV p.1))) (sD ln p.2 z)) := by
  have k : K_wR (Qd (FdD D p.2 (gdV p.2 p.1)) (.inl (some (rV p.1))) (sD ln p.2 z)) ln D z p := fun a b c => ⟨⟨a, b, c⟩, rfl, rfl⟩
  unfold fJ7_copyOf_9075b at h
  refine E_ent (c1_r (c1_i c1_n)) (M := [some (rV (v0)), some (.int (iN (v1))), none]) rfl ?_
  refine X_iload_n (pc' := 1) dJ7_copyOf_9075b_0 rfl rfl ?_
  refine E_aload_n (pc' := 2) dJ7_copyOf_9075b_1 rfl rfl ?_
  obtain ⟨g1, h⟩ := gs h
  refine E_alenA (pc' := 3) dJ7_copyOf_9075b_2 rfl hD g1 ?_
  refine X_icmp_ne dJ7_copyOf_9075b_3 (tgt := 14) rfl (pc' := 6) rfl ⟨rv1.1, rv1.2, (in_alen hD g1).1, (in_alen hD g1).2⟩ (fun c2 => ?_) (fun c2 => ?_)
  · have h := if_f c2 h
    refine X_iload_n (pc' := 15) dJ7_copyOf_9075b_14 rfl rfl ?_
    obtain ⟨g3, h⟩ := gs h
    refine E_newB (pc' := 17) dJ7_copyOf_9075b_15 rfl tq385 hD g3 ?_
    obtain ⟨D4, e4, f4, h⟩ := zl_some (P := fun q => okD q ∧ DLe D q ∧ (dO q (dT D) 21 ∧ ((dH q (dT D)).2 : Int) = (v1))) h ⟨okD_dnew hD (by decide) (by omega) g3.2.1 (by omega), DLe_dnew _ (by decide), dO_dnew hD, dH_dnew g3.1.1⟩
    rw [e4]
    refine E_astore_n (pc' := 18) dJ7_copyOf_9075b_17 rfl (cl rfl) (Or.inr rfl) (L' := [some (rV (v0)), some (.int (iN (v1))), some (rV ((dT D)))]) rfl ?_
    refine E_aload_n (pc' := 19) dJ7_copyOf_9075b_18 rfl rfl ?_
    refine X_iconst (pc' := 20) dJ7_copyOf_9075b_19 rfl ?_
    refine E_aload_n (pc' := 21) dJ7_copyOf_9075b_20 rfl rfl ?_
    refine X_iconst (pc' := 22) dJ7_copyOf_9075b_21 rfl ?_
    refine E_aload_n (pc' := 23) dJ7_copyOf_9075b_22 rfl rfl ?_
    obtain ⟨g5, h⟩ := gs h
    refine E_alenA (pc' := 24) dJ7_copyOf_9075b_23 rfl f4.1 g5 ?_
    refine X_iload_n (pc' := 25) dJ7_copyOf_9075b_24 rfl rfl ?_
    refine X_mmin (pc' := 28) dJ7_copyOf_9075b_25 rfl tq594 tq363 tq5 tq364 (Nat.le_trans (Nat.le_of_eq (cat_sum (c1_i (c1_r (c1_i (c1_r c1_n)))))) (cs rfl)) ⟨(in_alen f4.1 g5).1, (in_alen f4.1 g5).2, rv1.1, rv1.2⟩ ?_
    obtain ⟨g6, h⟩ := gs h
    obtain ⟨g7, h⟩ := gs h
    refine E_copyB (pc' := 31) dJ7_copyOf_9075b_28 rfl tq595 tq409 tq408 tq12 c1_n (cs rfl) f4.1 g6 f4.2.2.1 g7 ?_
    obtain ⟨D8, e8, f8, h⟩ := zl_some (P := fun q => okD q ∧ DLe D4 q) h ⟨okD_dcpy f4.1 g6 f4.2.2.1.2.2 (by decide) g7.1, DLe_dcpy _ _ _ _ _ _⟩
    rw [e8]
    refine E_aload_n (pc' := 32) dJ7_copyOf_9075b_31 rfl rfl ?_
    cases h
    exact E_aret dJ7_copyOf_9075b_32 rfl (Or.inr ⟨_, rfl⟩) (k f8.1 (DLe_trans f4.2.1 f8.2) (gdV_le f8.2 (dO_gd f4.2.2.1 (by decide))))
  have h := if_t c2 h
  refine E_aload_n (pc' := 7) dJ7_copyOf_9075b_6 rfl rfl ?_
  obtain ⟨g9, h⟩ := gs h
  obtain ⟨g10, h⟩ := gs h
  refine E_cloneB (pc' := 10) dJ7_copyOf_9075b_7 rfl tq1171 c1_n (cs rfl) hD g9 g10 ?_
  obtain ⟨D11, e11, f11, h⟩ := zl_some (P := fun q => okD q ∧ DLe D q ∧ dO q (dT D) 21) h ⟨okD_dclb hD (sz_le hD g9) ⟨g9.1, g9.2.1⟩ g9.2.2 g10.1 g10.2, DLe_dclb _ _ _, dO_dclb hD⟩
  rw [e11]
  refine E_cast (pc' := 13) dJ7_copyOf_9075b_10 rfl tq1175 (dO_pos f11.2.2) (dO_isB f11.1 f11.2.2) ?_
  cases h
  exact E_aret dJ7_copyOf_9075b_13 rfl (Or.inr ⟨_, rfl⟩) (k f11.1 f11.2.1 (dO_gd f11.2.2 (by decide)))
def fJ5_ensureCapacityInternal_d00df (v0 : Int) (v1 : Int) (D : DD) : Option (DD) := (if dO D (v0) 17 then (if isArr D ((dW D (v0) 0)) then (if inR ((v1 - (zshr (alen D ((dW D (v0) 0))) (dW D (v0) 1)))) then (if (0) < ((v1 - (zshr (alen D ((dW D (v0) 0))) (dW D (v0) 1)))) then (Option.bind (fJ5_newCapacity_0f7a4 (v0) (v1) D) fun r5 => (Option.bind (fJ7_copyOf_9075b ((dW D (v0) 0)) ((zshl r5 (dW D (v0) 1))) D) fun q6 => match q6 with | (r6, D6) => (zl (dup D6 (v0) 0 (r6)) fun D7 => some D7))) else some D) else none) else none) else none)
set_option maxRecDepth 100000 in
theorem CJ5_ensureCapacityInternal_d00df {ln : Nat} {D : DD} {z : ZZ} {v0 : Int} {v1 : Int} (hD : okD D) (rv0 : gdV D v0) (rv1 : inR v1) {p : DD} (h : fJ5_ensureCapacityInternal_d00df v0 v1 D = some p) : XD mJ5_ensureCapacityInternal_d00df 0 (xEnt [rV (v0), .int (iN (v1))] (xL mJ5_ensureCapacityInternal_d00df)) [] ln D z (Qd (FdD D p (True)) (.inl (none)) (sD ln p z)) := by
  have k : K_w (Qd (FdD D p (True)) (.inl (none)) (sD ln p z)) ln D z p := fun a b c => ⟨⟨a, b, c⟩, rfl, rfl⟩
  unfold fJ5_ensureCapacityInternal_d00df at h
  refine E_ent (c1_r (c1_i c1_n)) (M := [some (rV (v0)), some (.int (iN (v1))), none]) rfl ?_
  refine E_aload_n (pc' := 1) dJ5_ensureCapacityInternal_d00df_0 rfl rfl ?_
  obtain ⟨g1, h⟩ := gs h
  refine E_getR (pc' := 4) dJ5_ensureCapacityInternal_d00df_1 rfl FJ5_15_16 hD g1 rfl (j := 0) rfl ?_
  obtain ⟨g2, h⟩ := gs h
  refine E_alenA (pc' := 5) dJ5_ensureCapacityInternal_d00df_4 rfl hD g2 ?_
  refine E_aload_n (pc' := 6) dJ5_ensureCapacityInternal_d00df_5 rfl rfl ?_
  refine E_getI (pc' := 9) dJ5_ensureCapacityInternal_d00df_6 rfl FJ5_22_16 hD g1 rfl (j := 1) rfl ?_
  refine X_ishr (pc' := 10) dJ5_ensureCapacityInternal_d00df_9 rfl ?_
  refine X_istore_n (pc' := 11) dJ5_ensureCapacityInternal_d00df_10 rfl (cl rfl) (Or.inr rfl) (L' := [some (rV (v0)), some (.int (iN (v1))), some (.int (iN ((zshr (alen D ((dW D (v0) 0))) (dW D (v0) 1)))))]) rfl ?_
  refine X_iload_n (pc' := 12) dJ5_ensureCapacityInternal_d00df_11 rfl rfl ?_
  refine X_iload_n (pc' := 13) dJ5_ensureCapacityInternal_d00df_12 rfl rfl ?_
  refine X_isub (pc' := 14) dJ5_ensureCapacityInternal_d00df_13 rfl ?_
  obtain ⟨g4, h⟩ := gs h
  refine X_if_le dJ5_ensureCapacityInternal_d00df_14 (tgt := 38) rfl (pc' := 17) rfl g4 (fun c3 => ?_) (fun c3 => ?_)
  · have h := if_f (Int.not_lt.mpr c3) h
    cases h
    exact X_vret dJ5_ensureCapacityInternal_d00df_38 rfl (k hD (DLe_refl _) trivial)
  have h := if_t c3 h
  refine E_aload_n (pc' := 18) dJ5_ensureCapacityInternal_d00df_17 rfl rfl ?_
  refine E_aload_n (pc' := 19) dJ5_ensureCapacityInternal_d00df_18 rfl rfl ?_
  refine E_getR (pc' := 22) dJ5_ensureCapacityInternal_d00df_19 rfl FJ5_15_16 hD g1 rfl (j := 0) rfl ?_
  refine E_aload_n (pc' := 23) dJ5_ensureCapacityInternal_d00df_22 rfl rfl ?_
  refine X_iload_n (pc' := 24) dJ5_ensureCapacityInternal_d00df_23 rfl rfl ?_
  obtain ⟨r5, q5, h⟩ := bs h
  refine E_callV [.int (iN (v1))] (pc' := 27) dJ5_ensureCapacityInternal_d00df_24 rfl VJ5_104_J4 (by decide) ⟨dO_pos g1, dO_is hD g1 rfl⟩ rfl (c1_i c1_n) (cs rfl) (c1_r (c1_r c1_n)) (cs rfl) rfl hD (CJ5_newCapacity_0f7a4 hD rv0 rv1 q5) (fun a5 b5 f5 => ?_)
  refine E_aload_n (pc' := 28) dJ5_ensureCapacityInternal_d00df_27 rfl rfl ?_
  refine E_getI (pc' := 31) dJ5_ensureCapacityInternal_d00df_28 rfl FJ5_22_16 hD g1 rfl (j := 1) rfl ?_
  refine X_ishl (pc' := 32) dJ5_ensureCapacityInternal_d00df_31 rfl ?_
  obtain ⟨⟨r6, D6⟩, q6, h⟩ := bs h
  refine E_callS [rV ((dW D (v0) 0)), .int (iN ((zshl r5 (dW D (v0) 1))))] (pc' := 35) dJ5_ensureCapacityInternal_d00df_32 rfl (xSn SJ5_108) (by decide) rfl (c1_r (c1_i c1_n)) (cs rfl) (c1_r c1_n) (cs rfl) rfl hD (CJ7_copyOf_9075b hD (gd_slot (k := 0) hD g1 rfl (by decide)) (inR_zshl _ _) q6) (fun a6 b6 f6 => ?_)
  refine E_putR (pc' := 38) dJ5_ensureCapacityInternal_d00df_35 rfl FJ5_15_16 a6 (dO_le b6 g1) rfl (fun r hr => by cases hr; exact Or.inl rfl) (Or.inr ⟨_, rfl⟩) (j := 0) rfl ?_
  obtain ⟨D7, e7, f7, h⟩ := zl_some (P := fun q => okD q ∧ DLe D6 q) h ⟨okD_dup (k := 0) a6 (okS_R (dO_le b6 g1) rfl (by decide) f6), DLe_dup _ _ _ _⟩
  rw [e7]
  cases h
  exact X_vret dJ5_ensureCapacityInternal_d00df_38 rfl (k f7.1 (DLe_trans b6 f7.2) trivial)
def fJ5_inflateIfNeededFor_a7421 (v0 : Int) (v1 : Int) (D : DD) : Option (Unit) := (if (1 : Int) = (0) then some () else (if dO D (v0) 17 then (Option.bind (fJ0_coder_7d493 (v1) D) fun r3 => (if isStr (v1) ∨ dO D (v1) 18 then (if ((dW D (v0) 1)) = (r3) then some () else none) else none)) else none))
set_option maxRecDepth 100000 in
theorem CJ5_inflateIfNeededFor_a7421 {ln : Nat} {D : DD} {z : ZZ} {v0 : Int} {v1 : Int} (hD : okD D) (rv0 : gdV D v0) (rv1 : gdV D v1) {p : Unit} (h : fJ5_inflateIfNeededFor_a7421 v0 v1 D = some p) : XD mJ5_inflateIfNeededFor_a7421 0 (xEnt [rV (v0), rV (v1)] (xL mJ5_inflateIfNeededFor_a7421)) [] ln D z (Qd (FdD D D (True)) (.inl (none)) (sD ln D z)) := by
  have k : K_v (Qd (FdD D D (True)) (.inl (none)) (sD ln D z)) ln D z p := fun a => ⟨⟨hD, DLe_refl D, a⟩, rfl, rfl⟩
  unfold fJ5_inflateIfNeededFor_a7421 at h
  refine E_ent (c1_r (c1_r c1_n)) (M := [some (rV (v0)), some (rV (v1))]) rfl ?_
  refine X_gets (pc' := 3) dJ5_inflateIfNeededFor_a7421_0 rfl (List.mem_of_getElem? (i := 3) rfl) tq957 ?_
  refine X_to (M := [some (rV (v0)), some (rV (v1))]) (su := [.int (iN (1))]) rfl rfl ?_
  refine X_if_eq dJ5_inflateIfNeededFor_a7421_3 (tgt := 21) rfl (pc' := 6) rfl (inR_c (n := 1) rfl) (fun c1 => ?_) (fun c1 => ?_)
  · have h := if_t c1 h
    cases h
    exact X_vret dJ5_inflateIfNeededFor_a7421_21 rfl (k trivial)
  have h := if_f c1 h
  refine E_aload_n (pc' := 7) dJ5_inflateIfNeededFor_a7421_6 rfl rfl ?_
  obtain ⟨g2, h⟩ := gs h
  refine E_getI (pc' := 10) dJ5_inflateIfNeededFor_a7421_7 rfl FJ5_22_16 hD g2 rfl (j := 1) rfl ?_
  refine E_aload_n (pc' := 11) dJ5_inflateIfNeededFor_a7421_10 rfl rfl ?_
  obtain ⟨r3, q3, h⟩ := bs h
  obtain ⟨g4, h⟩ := gs h
  refine E_callV [] (pc' := 14) dJ5_inflateIfNeededFor_a7421_11 rfl (xVc VJ5_40) (by decide) (str_recv hD g4) rfl c1_n (cs rfl) (c1_i c1_n) (cs rfl) rfl hD (CJ0_coder_7d493 hD rv1 q3) (fun a3 b3 f3 => ?_)
  refine X_icmp_eq dJ5_inflateIfNeededFor_a7421_14 (tgt := 21) rfl (pc' := 17) rfl ⟨(in_slot (k := 1) hD g2 rfl (by decide)).1, (in_slot (k := 1) hD g2 rfl (by decide)).2, f3.1, f3.2⟩ (fun c5 => ?_) (fun c5 => ?_)
  · have h := if_t c5 h
    cases h
    exact X_vret dJ5_inflateIfNeededFor_a7421_21 rfl (k trivial)
  have h := if_f c5 h
  refine E_aload_n (pc' := 18) dJ5_inflateIfNeededFor_a7421_17 rfl rfl ?_
  cases h
def fJ0_getBytes_840e7 (v0 : Int) (v1 : Int) (v2 : Int) (v3 : Int) (D : DD) : Option (DD) := (Option.bind (fJ0_coder_7d493 (v0) D) fun r1 => (if isStr (v0) ∨ dO D (v0) 18 then (if (r1) = (v3) then (if isByt D ((strV D (v0))) then (if dO D (v1) 21 then (if (0 : Int) ≤ (0) ∧ (0 : Int) ≤ ((zshl v2 v3)) ∧ 0 ≤ ((blen D ((strV D (v0))))) ∧ (0) + ((blen D ((strV D (v0))))) ≤ blen D ((strV D (v0))) ∧ ((zshl v2 v3)) + ((blen D ((strV D (v0))))) ≤ ((dH D (v1)).2 : Int) then (zl (dcps D ((strV D (v0))) (v1) (0) ((zshl v2 v3)) ((blen D ((strV D (v0)))))) fun D8 => some D8) else none) else none) else none) else (if isByt D ((strV D (v0))) then none else none)) else none))
set_option maxRecDepth 100000 in
theorem CJ0_getBytes_840e7 {ln : Nat} {D : DD} {z : ZZ} {v0 : Int} {v1 : Int} {v2 : Int} {v3 : Int} (hD : okD D) (rv0 : gdV D v0) (rv1 : gdV D v1) (rv2 : inR v2) (rv3 : inR v3) {p : DD} (h : fJ0_getBytes_840e7 v0 v1 v2 v3 D = some p) : XD mJ0_getBytes_840e7 0 (xEnt [rV (v0), rV (v1), .int (iN (v2)), .int (iN (v3))] (xL mJ0_getBytes_840e7)) [] ln D z (Qd (FdD D p (True)) (.inl (none)) (sD ln p z)) := by
  have k : K_w (Qd (FdD D p (True)) (.inl (none)) (sD ln p z)) ln D z p := fun a b c => ⟨⟨a, b, c⟩, rfl, rfl⟩
  unfold fJ0_getBytes_840e7 at h
  refine E_ent (c1_r (c1_r (c1_i (c1_i c1_n)))) (M := [some (rV (v0)), some (rV (v1)), some (.int (iN (v2))), some (.int (iN (v3)))]) rfl ?_
  refine E_aload_n (pc' := 1) dJ0_getBytes_840e7_0 rfl rfl ?_
  obtain ⟨r1, q1, h⟩ := bs h
  obtain ⟨g2, h⟩ := gs h
  refine E_callV [] (pc' := 4) dJ0_getBytes_840e7_1 rfl (xVc VJ0_335) (by decide) (str_recv hD g2) rfl c1_n (cs rfl) c1_n (cs rfl) rfl hD (CJ0_coder_7d493 hD rv0 q1) (fun a1 b1 f1 => ?_)
  refine X_iload_n (pc' := 5) dJ0_getBytes_840e7_4 rfl rfl ?_
  refine X_icmp_ne dJ0_getBytes_840e7_5 (tgt := 28) rfl (pc' := 8) rfl ⟨f1.1, f1.2, rv3.1, rv3.2⟩ (fun c3 => ?_) (fun c3 => ?_)
  · have h := if_f c3 h
    refine E_aload_n (pc' := 29) dJ0_getBytes_840e7_28 rfl rfl ?_
    refine E_strV (pc' := 32) dJ0_getBytes_840e7_29 rfl tq1368 FJ0_9_17 hD g2 ?_
    refine X_iconst (pc' := 33) dJ0_getBytes_840e7_32 rfl ?_
    refine E_aload_n (pc' := 34) dJ0_getBytes_840e7_33 rfl rfl ?_
    refine X_iload_n (pc' := 35) dJ0_getBytes_840e7_34 rfl rfl ?_
    refine E_aload_n (pc' := 36) dJ0_getBytes_840e7_35 rfl rfl ?_
    refine E_strV (pc' := 39) dJ0_getBytes_840e7_36 rfl tq1368 FJ0_9_17 hD g2 ?_
    obtain ⟨g4, h⟩ := gs h
    refine E_bytL (pc' := 40) dJ0_getBytes_840e7_39 rfl hD g4 ?_
    cases h
  have h := if_t c3 h
  refine E_aload_n (pc' := 9) dJ0_getBytes_840e7_8 rfl rfl ?_
  refine E_strV (pc' := 12) dJ0_getBytes_840e7_9 rfl tq1368 FJ0_9_17 hD g2 ?_
  refine X_iconst (pc' := 13) dJ0_getBytes_840e7_12 rfl ?_
  refine E_aload_n (pc' := 14) dJ0_getBytes_840e7_13 rfl rfl ?_
  refine X_iload_n (pc' := 15) dJ0_getBytes_840e7_14 rfl rfl ?_
  refine X_iload_n (pc' := 16) dJ0_getBytes_840e7_15 rfl rfl ?_
  refine X_ishl (pc' := 17) dJ0_getBytes_840e7_16 rfl ?_
  refine E_aload_n (pc' := 18) dJ0_getBytes_840e7_17 rfl rfl ?_
  refine E_strV (pc' := 21) dJ0_getBytes_840e7_18 rfl tq1368 FJ0_9_17 hD g2 ?_
  obtain ⟨g5, h⟩ := gs h
  refine E_bytL (pc' := 22) dJ0_getBytes_840e7_21 rfl hD g5 ?_
  obtain ⟨g6, h⟩ := gs h
  obtain ⟨g7, h⟩ := gs h
  refine E_copyS (pc' := 25) dJ0_getBytes_840e7_22 rfl tq1221 tq409 tq408 tq12 c1_n (cs rfl) hD g5 g6 g7 ?_
  obtain ⟨D8, e8, f8, h⟩ := zl_some (P := fun q => okD q ∧ DLe D q) h ⟨okD_dcps hD g5 g6 g7, DLe_dcps _ _ _ _ _ _⟩
  rw [e8]
  refine X_goto dJ0_getBytes_840e7_25 (tgt := 43) rfl ?_
  cases h
  exact X_vret dJ0_getBytes_840e7_43 rfl (k f8.1 f8.2 trivial)
def fJ5_putStringAt_47b60 (v0 : Int) (v1 : Int) (v2 : Int) (D : DD) : Option (DD) := (Option.bind (fJ5_inflateIfNeededFor_a7421 (v0) (v2) D) fun _u1 => (if dO D (v0) 17 then (Option.bind (fJ0_getBytes_840e7 (v2) ((dW D (v0) 0)) (v1) ((dW D (v0) 1)) D) fun D3 => (if isStr (v2) ∨ dO D (v2) 18 then some D3 else none)) else none))
set_option maxRecDepth 100000 in
theorem CJ5_putStringAt_47b60 {ln : Nat} {D : DD} {z : ZZ} {v0 : Int} {v1 : Int} {v2 : Int} (hD : okD D) (rv0 : gdV D v0) (rv1 : inR v1) (rv2 : gdV D v2) {p : DD} (h : fJ5_putStringAt_47b60 v0 v1 v2 D = some p) : XD mJ5_putStringAt_47b60 0 (xEnt [rV (v0), .int (iN (v1)), rV (v2)] (xL mJ5_putStringAt_47b60)) [] ln D z (Qd (FdD D p (True)) (.inl (none)) (sD ln p z)) := by
  have k : K_w (Qd (FdD D p (True)) (.inl (none)) (sD ln p z)) ln D z p := fun a b c => ⟨⟨a, b, c⟩, rfl, rfl⟩
  unfold fJ5_putStringAt_47b60 at h
  refine E_ent (c1_r (c1_i (c1_r c1_n))) (M := [some (rV (v0)), some (.int (iN (v1))), some (rV (v2))]) rfl ?_
  refine E_aload_n (pc' := 1) dJ5_putStringAt_47b60_0 rfl rfl ?_
  refine E_aload_n (pc' := 2) dJ5_putStringAt_47b60_1 rfl rfl ?_
  obtain ⟨u1, q1, h⟩ := bs h
  obtain ⟨g2, h⟩ := gs h
  refine E_callV [rV (v2)] (pc' := 5) dJ5_putStringAt_47b60_2 rfl VJ5_397_J4 (by decide) ⟨dO_pos g2, dO_is hD g2 rfl⟩ rfl (c1_r c1_n) (cs rfl) c1_n (cs rfl) rfl hD (CJ5_inflateIfNeededFor_a7421 hD rv0 rv2 q1) (fun a1 b1 f1 => ?_)
  refine E_aload_n (pc' := 6) dJ5_putStringAt_47b60_5 rfl rfl ?_
  refine E_aload_n (pc' := 7) dJ5_putStringAt_47b60_6 rfl rfl ?_
  refine E_getR (pc' := 10) dJ5_putStringAt_47b60_7 rfl FJ5_15_16 hD g2 rfl (j := 0) rfl ?_
  refine X_iload_n (pc' := 11) dJ5_putStringAt_47b60_10 rfl rfl ?_
  refine E_aload_n (pc' := 12) dJ5_putStringAt_47b60_11 rfl rfl ?_
  refine E_getI (pc' := 15) dJ5_putStringAt_47b60_12 rfl FJ5_22_16 hD g2 rfl (j := 1) rfl ?_
  obtain ⟨D3, q3, h⟩ := bs h
  obtain ⟨g4, h⟩ := gs h
  refine E_callV [rV ((dW D (v0) 0)), .int (iN (v1)), .int (iN ((dW D (v0) 1)))] (pc' := 18) dJ5_putStringAt_47b60_15 rfl (xVc VJ5_399) (by decide) (str_recv hD g4) rfl (c1_r (c1_i (c1_i c1_n))) (cs rfl) c1_n (cs rfl) rfl hD (CJ0_getBytes_840e7 hD rv2 (gd_slot (k := 0) hD g2 rfl (by decide)) rv1 (in_slot (k := 1) hD g2 rfl (by decide)) q3) (fun a3 b3 f3 => ?_)
  cases h
  exact X_vret dJ5_putStringAt_47b60_18 rfl (k a3 b3 trivial)
def fJ5_append_cf1ce (v0 : Int) (v1 : Int) (D : DD) : Option (Int × DD) := (if (v1) = 0 then none else (Option.bind (fJ0_length_8abf5 (v1) D) fun r2 => (if isStr (v1) ∨ dO D (v1) 18 then (if dO D (v0) 17 then (if inR (((dW D (v0) 3) + r2)) then (Option.bind (fJ5_ensureCapacityInternal_d00df (v0) (((dW D (v0) 3) + r2)) D) fun D6 => (Option.bind (fJ5_putStringAt_47b60 (v0) ((dW D6 (v0) 3)) (v1) D6) fun D7 => (if inR (((dW D7 (v0) 3) + r2)) then (zl (dup D7 (v0) 3 (((dW D7 (v0) 3) + r2))) fun D9 => some (v0, D9)) else none))) else none) else none) else none)))
set_option maxRecDepth 100000 in
theorem CJ5_append_cf1ce {ln : Nat} {D : DD} {z : ZZ} {v0 : Int} {v1 : Int} (hD : okD D) (rv0 : gdV D v0) (rv1 : gdV D v1) {p : Int × DD} (h : fJ5_append_cf1ce v0 v1 D = some p) : XD mJ5_append_cf1ce 0 (xEnt [rV (v0), rV (v1)] (xL mJ5_append_cf1ce)) [] ln D z (Qd (FdD D p.2 (gdV p.2 p.1)) (.inl (some (rV p.1))) (sD ln p.2 z)) := by
  have k : K_wR (Qd (FdD D p.2 (gdV p.2 p.1)) (.inl (some (rV p.1))) (sD ln p.2 z)) ln D z p := fun a b c => ⟨⟨a, b, c⟩, rfl, rfl⟩
  unfold fJ5_append_cf1ce at h
  refine E_ent (c1_r (c1_r c1_n)) (M := [some (rV (v0)), some (rV (v1)), none]) rfl ?_
  refine E_aload_n (pc' := 1) dJ5_append_cf1ce_0 rfl rfl ?_
  refine E_ifnonnull dJ5_append_cf1ce_1 (tgt := 9) rfl (pc' := 4) rfl hD rv1 (fun c1 => ?_) (fun c1 => ?_)
  · have h := if_f c1 h
    refine E_aload_n (pc' := 10) dJ5_append_cf1ce_9 rfl rfl ?_
    obtain ⟨r2, q2, h⟩ := bs h
    obtain ⟨g3, h⟩ := gs h
    refine E_callV [] (pc' := 13) dJ5_append_cf1ce_10 rfl (xVc VJ5_32) (by decide) (str_recv hD g3) rfl c1_n (cs rfl) c1_n (cs rfl) rfl hD (CJ0_length_8abf5 hD rv1 q2) (fun a2 b2 f2 => ?_)
    refine X_istore_n (pc' := 14) dJ5_append_cf1ce_13 rfl (cl rfl) (Or.inr (xC1_R _)) (L' := [some (rV (v0)), some (rV (v1)), some (.int (iN (r2)))]) rfl ?_
    refine E_aload_n (pc' := 15) dJ5_append_cf1ce_14 rfl rfl ?_
    refine E_aload_n (pc' := 16) dJ5_append_cf1ce_15 rfl rfl ?_
    obtain ⟨g4, h⟩ := gs h
    refine E_getI (pc' := 19) dJ5_append_cf1ce_16 rfl FJ5_79_16 hD g4 rfl (j := 3) rfl ?_
    refine X_iload_n (pc' := 20) dJ5_append_cf1ce_19 rfl rfl ?_
    refine X_iadd (pc' := 21) dJ5_append_cf1ce_20 rfl ?_
    obtain ⟨g5, h⟩ := gs h
    obtain ⟨D6, q6, h⟩ := bs h
    refine E_callV [.int (iN (((dW D (v0) 3) + r2)))] (pc' := 24) dJ5_append_cf1ce_21 rfl VJ5_100_J4 (by decide) ⟨dO_pos g4, dO_is hD g4 rfl⟩ rfl (c1_i c1_n) (cs rfl) c1_n (cs rfl) rfl hD (CJ5_ensureCapacityInternal_d00df hD rv0 g5 q6) (fun a6 b6 f6 => ?_)
    refine E_aload_n (pc' := 25) dJ5_append_cf1ce_24 rfl rfl ?_
    refine E_aload_n (pc' := 26) dJ5_append_cf1ce_25 rfl rfl ?_
    refine E_getI (pc' := 29) dJ5_append_cf1ce_26 rfl FJ5_79_16 a6 (dO_le b6 g4) rfl (j := 3) rfl ?_
    refine E_aload_n (pc' := 30) dJ5_append_cf1ce_29 rfl rfl ?_
    obtain ⟨D7, q7, h⟩ := bs h
    refine E_callV [.int (iN ((dW D6 (v0) 3))), rV (v1)] (pc' := 33) dJ5_append_cf1ce_30 rfl VJ5_208_J4 (by decide) ⟨dO_pos (dO_le b6 g4), dO_is a6 (dO_le b6 g4) rfl⟩ rfl (c1_i (c1_r c1_n)) (cs rfl) c1_n (cs rfl) rfl a6 (CJ5_putStringAt_47b60 a6 (gdV_le b6 rv0) (in_slot (k := 3) a6 (dO_le b6 g4) rfl (by decide)) (gdV_le b6 rv1) q7) (fun a7 b7 f7 => ?_)
    refine E_aload_n (pc' := 34) dJ5_append_cf1ce_33 rfl rfl ?_
    refine X_dup (pc' := 35) dJ5_append_cf1ce_34 rfl (rV_cat _) ?_
    refine E_getI (pc' := 38) dJ5_append_cf1ce_35 rfl FJ5_79_16 a7 (dO_le b7 (dO_le b6 g4)) rfl (j := 3) rfl ?_
    refine X_iload_n (pc' := 39) dJ5_append_cf1ce_38 rfl rfl ?_
    refine X_iadd (pc' := 40) dJ5_append_cf1ce_39 rfl ?_
    obtain ⟨g8, h⟩ := gs h
    refine E_putI (pc' := 43) dJ5_append_cf1ce_40 rfl FJ5_79_16 a7 (dO_le b7 (dO_le b6 g4)) rfl (fun r hr => by cases hr; exact Or.inl rfl) (xFit_int _) (j := 3) rfl ?_
    obtain ⟨D9, e9, f9, h⟩ := zl_some (P := fun q => okD q ∧ DLe D7 q) h ⟨okD_dup (k := 3) a7 (okS_I (dO_le b7 (dO_le b6 g4)) rfl (by decide) (by decide) g8), DLe_dup _ _ _ _⟩
    rw [e9]
    refine E_aload_n (pc' := 44) dJ5_append_cf1ce_43 rfl rfl ?_
    cases h
    exact E_aret dJ5_append_cf1ce_44 rfl (Or.inl ⟨_, rfl⟩) (k f9.1 (DLe_trans (DLe_trans b6 b7) f9.2) (gdV_le f9.2 (gdV_le b7 (gdV_le b6 rv0))))
  have h := if_t c1 h
  refine E_aload_n (pc' := 5) dJ5_append_cf1ce_4 rfl rfl ?_
  cases h
def fJ4_append_15ec4 (v0 : Int) (v1 : Int) (D : DD) : Option (Int × DD) := (Option.bind (fJ5_append_cf1ce (v0) (v1) D) fun q1 => match q1 with | (r1, D1) => (if dO D (v0) 17 then some (v0, D1) else none))
set_option maxRecDepth 100000 in
theorem CJ4_append_15ec4 {ln : Nat} {D : DD} {z : ZZ} {v0 : Int} {v1 : Int} (hD : okD D) (rv0 : gdV D v0) (rv1 : gdV D v1) {p : Int × DD} (h : fJ4_append_15ec4 v0 v1 D = some p) : XD mJ4_append_15ec4 0 (xEnt [rV (v0), rV (v1)] (xL mJ4_append_15ec4)) [] ln D z (Qd (FdD D p.2 (gdV p.2 p.1)) (.inl (some (rV p.1))) (sD ln p.2 z)) := by
  have k : K_wR (Qd (FdD D p.2 (gdV p.2 p.1)) (.inl (some (rV p.1))) (sD ln p.2 z)) ln D z p := fun a b c => ⟨⟨a, b, c⟩, rfl, rfl⟩
  unfold fJ4_append_15ec4 at h
  refine E_ent (c1_r (c1_r c1_n)) (M := [some (rV (v0)), some (rV (v1))]) rfl ?_
  refine E_aload_n (pc' := 1) dJ4_append_15ec4_0 rfl rfl ?_
  refine E_aload_n (pc' := 2) dJ4_append_15ec4_1 rfl rfl ?_
  obtain ⟨⟨r1, D1⟩, q1, h⟩ := bs h
  obtain ⟨g2, h⟩ := gs h
  refine E_callP [rV (v1)] (pc' := 5) dJ4_append_15ec4_2 rfl PJ4_29 (by decide) ⟨dO_pos g2, dO_is hD g2 rfl⟩ rfl (c1_r c1_n) (cs rfl) c1_n (cs rfl) rfl hD (CJ5_append_cf1ce hD rv0 rv1 q1) (fun a1 b1 f1 => ?_)
  refine X_pop (pc' := 6) dJ4_append_15ec4_5 rfl (rV_cat _) ?_
  refine E_aload_n (pc' := 7) dJ4_append_15ec4_6 rfl rfl ?_
  cases h
  exact E_aret dJ4_append_15ec4_7 rfl (Or.inl ⟨_, rfl⟩) (k a1 b1 (gdV_le b1 rv0))
def fJ6_stringSize_0f7a4_s16 (v0 : Int) (v1 : Int) (v2 : Int) (v3 : Int) (D : DD) : Option ((Int × Int) ⊕ ((Unit) ⊕ (Int))) := (if (v3) < (10) then (if (v2) < (v0) then (if inR ((v3 + v1)) then some (.inr (.inr (((v3 + v1))))) else none) else (if inR ((10 * v2)) then (if inR ((v3 + 1)) then some (.inl ((10 * v2), (v3 + 1))) else none) else none)) else some (.inr (.inl ())))
set_option maxRecDepth 100000 in
theorem SJ6_stringSize_0f7a4_16 {ln : Nat} {D : DD} {z : ZZ} {v0 : Int} {v1 : Int} {v2 : Int} {v3 : Int} {Φ : xRes → xS → Prop} (hD : okD D) (rv0 : inR v0) (rv1 : inR v1) (rv2 : inR v2) (rv3 : inR v3) {p : (Int × Int) ⊕ ((Unit) ⊕ (Int))} (h : fJ6_stringSize_0f7a4_s16 v0 v1 v2 v3 D = some p) (k1 : ∀ (v2' : Int) (v3' : Int), p = .inl (v2', v3') → inR v2' → inR v3' → XD mJ6_stringSize_0f7a4 16 [some (.int (iN (v0))), some (.int (iN (v1))), some (.int (iN (v2'))), some (.int (iN (v3')))] [] ln D z Φ) (k2 : p = .inr (.inl ()) → XD mJ6_stringSize_0f7a4 42 [none, some (.int (iN (v1))), none, none] [] ln D z Φ) (k3 : ∀ t, p = .inr (.inr t) → K_r Φ ln D z t) : XD mJ6_stringSize_0f7a4 16 [some (.int (iN (v0))), some (.int (iN (v1))), some (.int (iN (v2))), some (.int (iN (v3)))] [] ln D z Φ := by
  unfold fJ6_stringSize_0f7a4_s16 at h
  refine X_iload_n (pc' := 17) dJ6_stringSize_0f7a4_16 rfl rfl ?_
  refine X_bipush (pc' := 19) dJ6_stringSize_0f7a4_17 rfl (by decide) ?_
  refine X_icmp_ge dJ6_stringSize_0f7a4_19 (tgt := 42) rfl (pc' := 22) rfl ⟨rv3.1, rv3.2, (inR_c (n := 10) rfl).1, (inR_c (n := 10) rfl).2⟩ (fun c1 => ?_) (fun c1 => ?_)
  · have h := if_f (Int.not_lt.mpr c1) h
    cases h
    exact X_sub (sub_n (sub_s (sub_n (sub_n sub_0)))) (k2  rfl )
  have h := if_t c1 h
  refine X_iload_n (pc' := 23) dJ6_stringSize_0f7a4_22 rfl rfl ?_
  refine X_iload_n (pc' := 24) dJ6_stringSize_0f7a4_23 rfl rfl ?_
  refine X_icmp_le dJ6_stringSize_0f7a4_24 (tgt := 31) rfl (pc' := 27) rfl ⟨rv0.1, rv0.2, rv2.1, rv2.2⟩ (fun c2 => ?_) (fun c2 => ?_)
  · have h := if_f (Int.not_lt.mpr c2) h
    refine X_bipush (pc' := 33) dJ6_stringSize_0f7a4_31 rfl (by decide) ?_
    refine X_iload_n (pc' := 34) dJ6_stringSize_0f7a4_33 rfl rfl ?_
    refine X_imul (pc' := 35) dJ6_stringSize_0f7a4_34 rfl ?_
    refine X_istore_n (pc' := 36) dJ6_stringSize_0f7a4_35 rfl (cl rfl) (Or.inr rfl) (L' := [some (.int (iN (v0))), some (.int (iN (v1))), some (.int (iN ((10 * v2)))), some (.int (iN (v3)))]) rfl ?_
    refine X_iinc (pc' := 39) dJ6_stringSize_0f7a4_36 rfl rfl (Or.inr rfl) (L' := [some (.int (iN (v0))), some (.int (iN (v1))), some (.int (iN ((10 * v2)))), some (.int (iN (v3 + 1)))]) rfl ?_
    refine X_goto dJ6_stringSize_0f7a4_39 (tgt := 16) rfl ?_
    obtain ⟨g3, h⟩ := gs h
    obtain ⟨g4, h⟩ := gs h
    cases h
    exact X_sub (sub_s (sub_s (sub_s (sub_s sub_0)))) (k1 _ _ rfl g3 g4)
  have h := if_t c2 h
  refine X_iload_n (pc' := 28) dJ6_stringSize_0f7a4_27 rfl rfl ?_
  refine X_iload_n (pc' := 29) dJ6_stringSize_0f7a4_28 rfl rfl ?_
  refine X_iadd (pc' := 30) dJ6_stringSize_0f7a4_29 rfl ?_
  obtain ⟨g5, h⟩ := gs h
  cases h
  exact X_iret dJ6_stringSize_0f7a4_30 rfl ((k3 _ rfl) g5)
theorem LJ6_stringSize_0f7a4_16 {ln : Nat} {D : DD} {z : ZZ} {v0 : Int} {v1 : Int} {Φ : xRes → xS → Prop} {r : (Unit) ⊕ (Int)} : ∀ (n : Nat) (v2 : Int) (v3 : Int), okD D → inR v0 → inR v1 → inR v2 → inR v3 → zlp (fun q => fJ6_stringSize_0f7a4_s16 v0 v1 q.1 q.2 D) n (v2, v3) = some r → (r = .inl () → XD mJ6_stringSize_0f7a4 42 [none, some (.int (iN (v1))), none, none] [] ln D z Φ) → (∀ t, r = .inr t → K_r Φ ln D z t) → XD mJ6_stringSize_0f7a4 16 [some (.int (iN (v0))), some (.int (iN (v1))), some (.int (iN (v2))), some (.int (iN (v3)))] [] ln D z Φ := by
  intro n
  induction n with
  | zero => intro v2 v3 hD rv0 rv1 rv2 rv3 h k2 k3; cases h
  | succ n ih =>
    intro v2 v3 hD rv0 rv1 rv2 rv3 h k2 k3
    rcases zlp_s h with ⟨⟨v2', v3'⟩, e, h'⟩ | e
    · exact SJ6_stringSize_0f7a4_16 hD rv0 rv1 rv2 rv3 e (fun v2₁ v3₁ hh f0 f1 => by cases hh; exact ih _ _ hD rv0 rv1 f0 f1 h' k2 k3) (fun hh => by cases hh) (fun t hh => by cases hh)
    · exact SJ6_stringSize_0f7a4_16 hD rv0 rv1 rv2 rv3 e (fun v2₁ v3₁ hh => by cases hh) (fun hh => by cases hh; exact k2  rfl ) (fun t hh => by cases hh; exact k3 t rfl)
def fJ6_stringSize_0f7a4_b11 (v0 : Int) (v1 : Int) (D : DD) : Option (Int) := (Option.bind (zlp (fun q => fJ6_stringSize_0f7a4_s16 (v0) (v1) q.1 q.2 D) FU ((-10), 1)) fun q1 => match q1 with | .inl () => (if inR ((10 + v1)) then some ((10 + v1)) else none) | .inr y1 => some y1)
set_option maxRecDepth 100000 in
theorem BJ6_stringSize_0f7a4_11 {ln : Nat} {D : DD} {z : ZZ} {v0 : Int} {v1 : Int} {Φ : xRes → xS → Prop} (hD : okD D) (rv0 : inR v0) (rv1 : inR v1) {p : Int} (h : fJ6_stringSize_0f7a4_b11 v0 v1 D = some p) (k : K_r Φ ln D z p) : XD mJ6_stringSize_0f7a4 11 [some (.int (iN (v0))), some (.int (iN (v1))), none, none] [] ln D z Φ := by
  unfold fJ6_stringSize_0f7a4_b11 at h
  refine X_bipush (pc' := 13) dJ6_stringSize_0f7a4_11 rfl (by decide) ?_
  refine X_istore_n (pc' := 14) dJ6_stringSize_0f7a4_13 rfl (cl rfl) (Or.inr rfl) (L' := [some (.int (iN (v0))), some (.int (iN (v1))), some (.int (iN ((-10)))), none]) rfl ?_
  refine X_iconst (pc' := 15) dJ6_stringSize_0f7a4_14 rfl ?_
  refine X_istore_n (pc' := 16) dJ6_stringSize_0f7a4_15 rfl (cl rfl) (Or.inr rfl) (L' := [some (.int (iN (v0))), some (.int (iN (v1))), some (.int (iN ((-10)))), some (.int (iN (1)))]) rfl ?_
  obtain ⟨⟨⟩ | y1, q1, h⟩ := bs h
  rotate_left
  · exact X_sub (sub_s (sub_s (sub_s (sub_s sub_0)))) (LJ6_stringSize_0f7a4_16 FU _ _ hD rv0 rv1 (inR_c (n := (-10)) rfl) (inR_c (n := 1) rfl) q1 (fun hh => by cases hh) (fun t hh => by cases hh; cases h; exact k))
  refine X_sub (sub_s (sub_s (sub_s (sub_s sub_0)))) (LJ6_stringSize_0f7a4_16 FU _ _ hD rv0 rv1 (inR_c (n := (-10)) rfl) (inR_c (n := 1) rfl) q1 (fun hh => ?_) (fun t hh => by cases hh))
  cases hh
  refine X_bipush (pc' := 44) dJ6_stringSize_0f7a4_42 rfl (by decide) ?_
  refine X_iload_n (pc' := 45) dJ6_stringSize_0f7a4_44 rfl rfl ?_
  refine X_iadd (pc' := 46) dJ6_stringSize_0f7a4_45 rfl ?_
  obtain ⟨g2, h⟩ := gs h
  cases h
  exact X_iret dJ6_stringSize_0f7a4_46 rfl (k g2)
def fJ6_stringSize_0f7a4 (v0 : Int) (D : DD) : Option (Int) := (if (v0) < (0) then fJ6_stringSize_0f7a4_b11 (v0) (1) D else (if inR ((-v0)) then fJ6_stringSize_0f7a4_b11 ((-v0)) (0) D else none))
set_option maxRecDepth 100000 in
theorem CJ6_stringSize_0f7a4 {ln : Nat} {D : DD} {z : ZZ} {v0 : Int} (hD : okD D) (rv0 : inR v0) {p : Int} (h : fJ6_stringSize_0f7a4 v0 D = some p) : XD mJ6_stringSize_0f7a4 0 (xEnt [.int (iN (v0))] (xL mJ6_stringSize_0f7a4)) [] ln D z (Qd (FdD D D (inR p)) (.inl (some (.int (iN p)))) (sD ln D z)) := by
  have k : K_r (Qd (FdD D D (inR p)) (.inl (some (.int (iN p)))) (sD ln D z)) ln D z p := fun a => ⟨⟨hD, DLe_refl D, a⟩, rfl, rfl⟩
  unfold fJ6_stringSize_0f7a4 at h
  refine E_ent (c1_i c1_n) (M := [some (.int (iN (v0))), none, none, none]) rfl ?_
  refine X_iconst (pc' := 1) dJ6_stringSize_0f7a4_0 rfl ?_
  refine X_istore_n (pc' := 2) dJ6_stringSize_0f7a4_1 rfl (cl rfl) (Or.inr rfl) (L' := [some (.int (iN (v0))), some (.int (iN (1))), none, none]) rfl ?_
  refine X_iload_n (pc' := 3) dJ6_stringSize_0f7a4_2 rfl rfl ?_
  refine X_if_lt dJ6_stringSize_0f7a4_3 (tgt := 11) rfl (pc' := 6) rfl rv0 (fun c1 => ?_) (fun c1 => ?_)
  · have h := if_t c1 h
    exact X_sub (sub_s (sub_s (sub_n (sub_n sub_0)))) (BJ6_stringSize_0f7a4_11 hD rv0 (inR_c (n := 1) rfl) h k)
  have h := if_f (Int.not_lt.mpr c1) h
  refine X_iconst (pc' := 7) dJ6_stringSize_0f7a4_6 rfl ?_
  refine X_istore_n (pc' := 8) dJ6_stringSize_0f7a4_7 rfl (cl rfl) (Or.inr rfl) (L' := [some (.int (iN (v0))), some (.int (iN (0))), none, none]) rfl ?_
  refine X_iload_n (pc' := 9) dJ6_stringSize_0f7a4_8 rfl rfl ?_
  refine X_ineg (pc' := 10) dJ6_stringSize_0f7a4_9 rfl ?_
  refine X_istore_n (pc' := 11) dJ6_stringSize_0f7a4_10 rfl (cl rfl) (Or.inl rfl) (L' := [some (.int (iN ((-v0)))), some (.int (iN (0))), none, none]) rfl ?_
  obtain ⟨g2, h⟩ := gs h
  exact X_sub (sub_s (sub_s (sub_n (sub_n sub_0)))) (BJ6_stringSize_0f7a4_11 hD g2 (inR_c (n := 0) rfl) h k)
def fJ5_isLatin1_aae02 (v0 : Int) (D : DD) : Option (Int) := (if (1 : Int) = (0) then some (0) else (if dO D (v0) 17 then (if ((dW D (v0) 1)) = (0) then some (1) else some (0)) else none))
set_option maxRecDepth 100000 in
theorem CJ5_isLatin1_aae02 {ln : Nat} {D : DD} {z : ZZ} {v0 : Int} (hD : okD D) (rv0 : gdV D v0) {p : Int} (h : fJ5_isLatin1_aae02 v0 D = some p) : XD mJ5_isLatin1_aae02 0 (xEnt [rV (v0)] (xL mJ5_isLatin1_aae02)) [] ln D z (Qd (FdD D D (p = 0 ∨ p = 1)) (.inl (some (.int (iN p)))) (sD ln D z)) := by
  have k : K_b (Qd (FdD D D (p = 0 ∨ p = 1)) (.inl (some (.int (iN p)))) (sD ln D z)) ln D z p := fun a => ⟨⟨hD, DLe_refl D, a⟩, rfl, rfl⟩
  unfold fJ5_isLatin1_aae02 at h
  refine E_ent (c1_r c1_n) (M := [some (rV (v0))]) rfl ?_
  refine X_gets (pc' := 3) dJ5_isLatin1_aae02_0 rfl (List.mem_of_getElem? (i := 3) rfl) tq957 ?_
  refine X_to (M := [some (rV (v0))]) (su := [.int (iN (1))]) rfl rfl ?_
  refine X_if_eq dJ5_isLatin1_aae02_3 (tgt := 17) rfl (pc' := 6) rfl (inR_c (n := 1) rfl) (fun c1 => ?_) (fun c1 => ?_)
  · have h := if_t c1 h
    refine X_iconst (pc' := 18) dJ5_isLatin1_aae02_17 rfl ?_
    cases h
    exact X_zret dJ5_isLatin1_aae02_18 rfl (Or.inl rfl) (k (Or.inl rfl))
  have h := if_f c1 h
  refine E_aload_n (pc' := 7) dJ5_isLatin1_aae02_6 rfl rfl ?_
  obtain ⟨g2, h⟩ := gs h
  refine E_getI (pc' := 10) dJ5_isLatin1_aae02_7 rfl FJ5_22_16 hD g2 rfl (j := 1) rfl ?_
  refine X_if_ne dJ5_isLatin1_aae02_10 (tgt := 17) rfl (pc' := 13) rfl (in_slot (k := 1) hD g2 rfl (by decide)) (fun c3 => ?_) (fun c3 => ?_)
  · have h := if_f c3 h
    refine X_iconst (pc' := 18) dJ5_isLatin1_aae02_17 rfl ?_
    cases h
    exact X_zret dJ5_isLatin1_aae02_18 rfl (Or.inl rfl) (k (Or.inl rfl))
  have h := if_t c3 h
  refine X_iconst (pc' := 14) dJ5_isLatin1_aae02_13 rfl ?_
  refine X_goto dJ5_isLatin1_aae02_14 (tgt := 18) rfl ?_
  cases h
  exact X_zret dJ5_isLatin1_aae02_18 rfl (Or.inr rfl) (k (Or.inr rfl))
def fJ6_getChars_ba4f3_s22 (v2 : Int) (v6 : Int) (v0 : Int) (v5 : Int) (D : DD) : Option ((Int × Int × DD) ⊕ (Int × Int × DD)) := (if ((-100)) < (v0) then some (.inr (v0, v5, D)) else (if (0 : Int) ≤ (v0) ∧ (0 : Int) < (100) then (if (0 : Int) ≤ ((((v0 / 100) * 100) - v0)) ∧ ((((v0 / 100) * 100) - v0) : Int) < 100 then (if dO D (v2) 21 then (if (0 : Int) ≤ ((v5 + (-1))) ∧ ((v5 + (-1)) : Int) < ((dH D (v2)).2 : Int) then (if (-128 : Int) ≤ ((zKC 1000011 ((((v0 / 100) * 100) - v0)))) ∧ ((zKC 1000011 ((((v0 / 100) * 100) - v0))) : Int) < 128 then (zl (dup D (v2) ((v5 + (-1))) ((zKC 1000011 ((((v0 / 100) * 100) - v0))))) fun D7 => (if (0 : Int) ≤ ((((v0 / 100) * 100) - v0)) ∧ ((((v0 / 100) * 100) - v0) : Int) < 100 then (if (0 : Int) ≤ (((v5 + (-1)) + (-1))) ∧ (((v5 + (-1)) + (-1)) : Int) < ((dH D7 (v2)).2 : Int) then (if (-128 : Int) ≤ ((zKC 1000010 ((((v0 / 100) * 100) - v0)))) ∧ ((zKC 1000010 ((((v0 / 100) * 100) - v0))) : Int) < 128 then (zl (dup D7 (v2) (((v5 + (-1)) + (-1))) ((zKC 1000010 ((((v0 / 100) * 100) - v0))))) fun D11 => (if inR (((v5 + (-1)) + (-1))) then some (.inl ((v0 / 100), ((v5 + (-1)) + (-1)), D11)) else none)) else none) else none) else none)) else none) else none) else none) else none) else none))
set_option maxRecDepth 100000 in
theorem SJ6_getChars_ba4f3_22 {ln : Nat} {D : DD} {z : ZZ} {v2 : Int} {v6 : Int} {v0 : Int} {v5 : Int} {Φ : xRes → xS → Prop} (hD : okD D) (rv2 : gdV D v2) (rv6 : inR v6) (rv0 : inR v0) (rv5 : inR v5) {p : (Int × Int × DD) ⊕ (Int × Int × DD)} (h : fJ6_getChars_ba4f3_s22 v2 v6 v0 v5 D = some p) (k1 : ∀ (v0' : Int) (v5' : Int) (D' : DD), p = .inl (v0', v5', D') → okD D' → DLe D D' → inR v0' → inR v5' → XD mJ6_getChars_ba4f3 22 [some (.int (iN (v0'))), none, some (rV (v2)), none, none, some (.int (iN (v5'))), some (.int (iN (v6)))] [] ln D' z Φ) (k2 : ∀ (v0' : Int) (v5' : Int) (D' : DD), p = .inr (v0', v5', D') → okD D' → DLe D D' → inR v0' → inR v5' → XD mJ6_getChars_ba4f3 72 [some (.int (iN (v0'))), none, some (rV (v2)), none, none, some (.int (iN (v5'))), some (.int (iN (v6)))] [] ln D' z Φ) : XD mJ6_getChars_ba4f3 22 [some (.int (iN (v0))), none, some (rV (v2)), none, none, some (.int (iN (v5))), some (.int (iN (v6)))] [] ln D z Φ := by
  unfold fJ6_getChars_ba4f3_s22 at h
  refine X_iload_n (pc' := 23) dJ6_getChars_ba4f3_22 rfl rfl ?_
  refine X_bipush (pc' := 25) dJ6_getChars_ba4f3_23 rfl (by decide) ?_
  refine X_icmp_gt dJ6_getChars_ba4f3_25 (tgt := 72) rfl (pc' := 28) rfl ⟨rv0.1, rv0.2, (inR_c (n := (-100)) rfl).1, (inR_c (n := (-100)) rfl).2⟩ (fun c1 => ?_) (fun c1 => ?_)
  · have h := if_t c1 h
    cases h
    exact X_sub (sub_s (sub_n (sub_s (sub_n (sub_n (sub_s (sub_s sub_0))))))) (k2 _ _ _ rfl hD (DLe_refl _) rv0 rv5)
  have h := if_f (Int.not_lt.mpr c1) h
  refine X_iload_n (pc' := 29) dJ6_getChars_ba4f3_28 rfl rfl ?_
  refine X_bipush (pc' := 31) dJ6_getChars_ba4f3_29 rfl (by decide) ?_
  obtain ⟨g2, h⟩ := gs h
  refine X_idiv (pc' := 32) dJ6_getChars_ba4f3_31 rfl ⟨g2.1, rv0.2, g2.2, (inR_c (n := 100) rfl).2⟩ ?_
  refine X_istore_n (pc' := 33) dJ6_getChars_ba4f3_32 rfl (cl rfl) (Or.inr (xC1_R _)) (L' := [some (.int (iN (v0))), none, some (rV (v2)), some (.int (iN ((v0 / 100)))), none, some (.int (iN (v5))), some (.int (iN (v6)))]) rfl ?_
  refine X_iload_n (pc' := 34) dJ6_getChars_ba4f3_33 rfl rfl ?_
  refine X_bipush (pc' := 36) dJ6_getChars_ba4f3_34 rfl (by decide) ?_
  refine X_imul (pc' := 37) dJ6_getChars_ba4f3_36 rfl ?_
  refine X_iload_n (pc' := 38) dJ6_getChars_ba4f3_37 rfl rfl ?_
  refine X_isub (pc' := 39) dJ6_getChars_ba4f3_38 rfl ?_
  refine X_istore (pc' := 41) dJ6_getChars_ba4f3_39 rfl (cl rfl) (Or.inr rfl) (L' := [some (.int (iN (v0))), none, some (rV (v2)), some (.int (iN ((v0 / 100)))), some (.int (iN ((((v0 / 100) * 100) - v0)))), some (.int (iN (v5))), some (.int (iN (v6)))]) rfl ?_
  refine X_iload_n (pc' := 42) dJ6_getChars_ba4f3_41 rfl rfl ?_
  refine X_istore_n (pc' := 43) dJ6_getChars_ba4f3_42 rfl (cl rfl) (Or.inl rfl) (L' := [some (.int (iN ((v0 / 100)))), none, some (rV (v2)), some (.int (iN ((v0 / 100)))), some (.int (iN ((((v0 / 100) * 100) - v0)))), some (.int (iN (v5))), some (.int (iN (v6)))]) rfl ?_
  refine E_aload_n (pc' := 44) dJ6_getChars_ba4f3_43 rfl rfl ?_
  refine X_iinc (pc' := 47) dJ6_getChars_ba4f3_44 rfl rfl (Or.inr rfl) (L' := [some (.int (iN ((v0 / 100)))), none, some (rV (v2)), some (.int (iN ((v0 / 100)))), some (.int (iN ((((v0 / 100) * 100) - v0)))), some (.int (iN (v5 + (-1)))), some (.int (iN (v6)))]) rfl ?_
  refine X_iload (pc' := 49) dJ6_getChars_ba4f3_47 rfl rfl ?_
  refine E_gets (v := 1000011) (pc' := 52) dJ6_getChars_ba4f3_49 rfl (List.mem_of_getElem? (i := 6) rfl) tq1236 rfl ?_
  refine X_iload (pc' := 54) dJ6_getChars_ba4f3_52 rfl rfl ?_
  obtain ⟨g3, h⟩ := gs h
  refine E_baldK (a := 1000011) (n := 100) (pc' := 55) dJ6_getChars_ba4f3_54 rfl (by decide) rfl (by decide) g3 ?_
  obtain ⟨g4, h⟩ := gs h
  obtain ⟨g5, h⟩ := gs h
  obtain ⟨g6, h⟩ := gs h
  refine E_bast (pc' := 56) dJ6_getChars_ba4f3_55 rfl hD g4 g5 g6 ?_
  obtain ⟨D7, e7, f7, h⟩ := zl_some (P := fun q => okD q ∧ DLe D q) h ⟨okD_dupJ hD g5.1 (okS_at21 g4 g6), DLe_dup _ _ _ _⟩
  rw [e7]
  refine E_aload_n (pc' := 57) dJ6_getChars_ba4f3_56 rfl rfl ?_
  refine X_iinc (pc' := 60) dJ6_getChars_ba4f3_57 rfl rfl (Or.inr rfl) (L' := [some (.int (iN ((v0 / 100)))), none, some (rV (v2)), some (.int (iN ((v0 / 100)))), some (.int (iN ((((v0 / 100) * 100) - v0)))), some (.int (iN ((v5 + (-1)) + (-1)))), some (.int (iN (v6)))]) rfl ?_
  refine X_iload (pc' := 62) dJ6_getChars_ba4f3_60 rfl rfl ?_
  refine E_gets (v := 1000010) (pc' := 65) dJ6_getChars_ba4f3_62 rfl (List.mem_of_getElem? (i := 7) rfl) tq1238 rfl ?_
  refine X_iload (pc' := 67) dJ6_getChars_ba4f3_65 rfl rfl ?_
  obtain ⟨g8, h⟩ := gs h
  refine E_baldK (a := 1000010) (n := 100) (pc' := 68) dJ6_getChars_ba4f3_67 rfl (by decide) rfl (by decide) g8 ?_
  obtain ⟨g9, h⟩ := gs h
  obtain ⟨g10, h⟩ := gs h
  refine E_bast (pc' := 69) dJ6_getChars_ba4f3_68 rfl f7.1 (dO_le f7.2 g4) g9 g10 ?_
  obtain ⟨D11, e11, f11, h⟩ := zl_some (P := fun q => okD q ∧ DLe D7 q) h ⟨okD_dupJ f7.1 g9.1 (okS_at21 (dO_le f7.2 g4) g10), DLe_dup _ _ _ _⟩
  rw [e11]
  refine X_goto dJ6_getChars_ba4f3_69 (tgt := 22) rfl ?_
  obtain ⟨g12, h⟩ := gs h
  cases h
  exact X_sub (sub_s (sub_n (sub_s (sub_n (sub_n (sub_s (sub_s sub_0))))))) (k1 _ _ _ rfl f11.1 (DLe_trans f7.2 f11.2) (inR_div g2 rv0) g12)
theorem LJ6_getChars_ba4f3_22 {ln : Nat} {z : ZZ} {v2 : Int} {v6 : Int} {Φ : xRes → xS → Prop} {r : Int × Int × DD} : ∀ (n : Nat) (v0 : Int) (v5 : Int) (D : DD), okD D → gdV D v2 → inR v6 → inR v0 → inR v5 → zlp (fun q => fJ6_getChars_ba4f3_s22 v2 v6 q.1 q.2.1 q.2.2) n (v0, v5, D) = some r → (∀ (v0' : Int) (v5' : Int) (D' : DD), r = (v0', v5', D') → okD D' → DLe D D' → inR v0' → inR v5' → XD mJ6_getChars_ba4f3 72 [some (.int (iN (v0'))), none, some (rV (v2)), none, none, some (.int (iN (v5'))), some (.int (iN (v6)))] [] ln D' z Φ) → XD mJ6_getChars_ba4f3 22 [some (.int (iN (v0))), none, some (rV (v2)), none, none, some (.int (iN (v5))), some (.int (iN (v6)))] [] ln D z Φ := by
  intro n
  induction n with
  | zero => intro v0 v5 D hD rv2 rv6 rv0 rv5 h k2; cases h
  | succ n ih =>
    intro v0 v5 D hD rv2 rv6 rv0 rv5 h k2
    rcases zlp_s h with ⟨⟨v0', v5', D'⟩, e, h'⟩ | e
    · exact SJ6_getChars_ba4f3_22 hD rv2 rv6 rv0 rv5 e (fun v0₁ v5₁ D₁ hh a b f0 f1 => by cases hh; exact ih _ _ _ a (gdV_le b rv2) rv6 f0 f1 h' (fun x0 x1 D9 hh a' b' y0 y1 => k2 x0 x1 D9 hh a' (DLe_trans b b') y0 y1)) (fun x0 x1 D9 hh => by cases hh)
    · exact SJ6_getChars_ba4f3_22 hD rv2 rv6 rv0 rv5 e (fun v0₁ v5₁ D₁ hh => by cases hh) (fun x0 x1 D9 hh a b y0 y1 => by cases hh; exact k2 _ _ _ rfl a b y0 y1)
def fJ6_getChars_ba4f3_b104 (v2 : Int) (v5 : Int) (v6 : Int) (D : DD) : Option (Int × DD) := (if (v6) = (0) then some (v5, D) else (if dO D (v2) 21 then (if (0 : Int) ≤ ((v5 + (-1))) ∧ ((v5 + (-1)) : Int) < ((dH D (v2)).2 : Int) then (if (-128 : Int) ≤ (45) ∧ (45 : Int) < 128 then (zl (dup D (v2) ((v5 + (-1))) (45)) fun D5 => (if inR ((v5 + (-1))) then some ((v5 + (-1)), D5) else none)) else none) else none) else none))
set_option maxRecDepth 100000 in
theorem BJ6_getChars_ba4f3_104 {ln : Nat} {D : DD} {z : ZZ} {v2 : Int} {v5 : Int} {v6 : Int} {Φ : xRes → xS → Prop} (hD : okD D) (rv2 : gdV D v2) (rv5 : inR v5) (rv6 : inR v6) {p : Int × DD} (h : fJ6_getChars_ba4f3_b104 v2 v5 v6 D = some p) (k : K_wi Φ ln D z p) : XD mJ6_getChars_ba4f3 104 [none, none, some (rV (v2)), none, none, some (.int (iN (v5))), some (.int (iN (v6)))] [] ln D z Φ := by
  unfold fJ6_getChars_ba4f3_b104 at h
  refine X_iload (pc' := 106) dJ6_getChars_ba4f3_104 rfl rfl ?_
  refine X_if_eq dJ6_getChars_ba4f3_106 (tgt := 118) rfl (pc' := 109) rfl rv6 (fun c1 => ?_) (fun c1 => ?_)
  · have h := if_t c1 h
    refine X_iload (pc' := 120) dJ6_getChars_ba4f3_118 rfl rfl ?_
    cases h
    exact X_iret dJ6_getChars_ba4f3_120 rfl (k hD (DLe_refl _) rv5)
  have h := if_f c1 h
  refine E_aload_n (pc' := 110) dJ6_getChars_ba4f3_109 rfl rfl ?_
  refine X_iinc (pc' := 113) dJ6_getChars_ba4f3_110 rfl rfl (Or.inr rfl) (L' := [none, none, some (rV (v2)), none, none, some (.int (iN (v5 + (-1)))), some (.int (iN (v6)))]) rfl ?_
  refine X_iload (pc' := 115) dJ6_getChars_ba4f3_113 rfl rfl ?_
  refine X_bipush (pc' := 117) dJ6_getChars_ba4f3_115 rfl (by decide) ?_
  obtain ⟨g2, h⟩ := gs h
  obtain ⟨g3, h⟩ := gs h
  obtain ⟨g4, h⟩ := gs h
  refine E_bast (pc' := 118) dJ6_getChars_ba4f3_117 rfl hD g2 g3 g4 ?_
  obtain ⟨D5, e5, f5, h⟩ := zl_some (P := fun q => okD q ∧ DLe D q) h ⟨okD_dupJ hD g3.1 (okS_at21 g2 g4), DLe_dup _ _ _ _⟩
  rw [e5]
  refine X_iload (pc' := 120) dJ6_getChars_ba4f3_118 rfl rfl ?_
  obtain ⟨g6, h⟩ := gs h
  cases h
  exact X_iret dJ6_getChars_ba4f3_120 rfl (k f5.1 f5.2 g6)
def fJ6_getChars_ba4f3_b12 (v0 : Int) (v2 : Int) (v5 : Int) (s0 : Int) (D : DD) : Option (Int × DD) := (if (s0) = (0) then (if inR ((-v0)) then (Option.bind (zlp (fun q => fJ6_getChars_ba4f3_s22 (v2) (s0) q.1 q.2.1 q.2.2) FU ((-v0), v5, D)) fun q16 => match q16 with | (x16_v0, x16_v5, D16) => (if (0 : Int) ≤ ((-x16_v0)) ∧ ((-x16_v0) : Int) < 100 then (if dO D16 (v2) 21 then (if (0 : Int) ≤ ((x16_v5 + (-1))) ∧ ((x16_v5 + (-1)) : Int) < ((dH D16 (v2)).2 : Int) then (if (-128 : Int) ≤ ((zKC 1000011 ((-x16_v0)))) ∧ ((zKC 1000011 ((-x16_v0))) : Int) < 128 then (zl (dup D16 (v2) ((x16_v5 + (-1))) ((zKC 1000011 ((-x16_v0))))) fun D21 => (if (x16_v0) < ((-9)) then (if (0 : Int) ≤ ((-x16_v0)) ∧ ((-x16_v0) : Int) < 100 then (if (0 : Int) ≤ (((x16_v5 + (-1)) + (-1))) ∧ (((x16_v5 + (-1)) + (-1)) : Int) < ((dH D21 (v2)).2 : Int) then (if (-128 : Int) ≤ ((zKC 1000010 ((-x16_v0)))) ∧ ((zKC 1000010 ((-x16_v0))) : Int) < 128 then (zl (dup D21 (v2) (((x16_v5 + (-1)) + (-1))) ((zKC 1000010 ((-x16_v0))))) fun D27 => (if inR (((x16_v5 + (-1)) + (-1))) then fJ6_getChars_ba4f3_b104 (v2) (((x16_v5 + (-1)) + (-1))) (s0) D27 else none)) else none) else none) else none) else (if inR ((x16_v5 + (-1))) then fJ6_getChars_ba4f3_b104 (v2) ((x16_v5 + (-1))) (s0) D21 else none))) else none) else none) else none) else none)) else none) else (Option.bind (zlp (fun q => fJ6_getChars_ba4f3_s22 (v2) (s0) q.1 q.2.1 q.2.2) FU (v0, v5, D)) fun q2 => match q2 with | (x2_v0, x2_v5, D2) => (if (0 : Int) ≤ ((-x2_v0)) ∧ ((-x2_v0) : Int) < 100 then (if dO D2 (v2) 21 then (if (0 : Int) ≤ ((x2_v5 + (-1))) ∧ ((x2_v5 + (-1)) : Int) < ((dH D2 (v2)).2 : Int) then (if (-128 : Int) ≤ ((zKC 1000011 ((-x2_v0)))) ∧ ((zKC 1000011 ((-x2_v0))) : Int) < 128 then (zl (dup D2 (v2) ((x2_v5 + (-1))) ((zKC 1000011 ((-x2_v0))))) fun D7 => (if (x2_v0) < ((-9)) then (if (0 : Int) ≤ ((-x2_v0)) ∧ ((-x2_v0) : Int) < 100 then (if (0 : Int) ≤ (((x2_v5 + (-1)) + (-1))) ∧ (((x2_v5 + (-1)) + (-1)) : Int) < ((dH D7 (v2)).2 : Int) then (if (-128 : Int) ≤ ((zKC 1000010 ((-x2_v0)))) ∧ ((zKC 1000010 ((-x2_v0))) : Int) < 128 then (zl (dup D7 (v2) (((x2_v5 + (-1)) + (-1))) ((zKC 1000010 ((-x2_v0))))) fun D13 => (if inR (((x2_v5 + (-1)) + (-1))) then fJ6_getChars_ba4f3_b104 (v2) (((x2_v5 + (-1)) + (-1))) (s0) D13 else none)) else none) else none) else none) else (if inR ((x2_v5 + (-1))) then fJ6_getChars_ba4f3_b104 (v2) ((x2_v5 + (-1))) (s0) D7 else none))) else none) else none) else none) else none)))
set_option maxRecDepth 100000 in
theorem BJ6_getChars_ba4f3_12 {ln : Nat} {D : DD} {z : ZZ} {v0 : Int} {v2 : Int} {v5 : Int} {s0 : Int} {Φ : xRes → xS → Prop} (hD : okD D) (rv0 : inR v0) (rv2 : gdV D v2) (rv5 : inR v5) (rs0 : inR s0) {p : Int × DD} (h : fJ6_getChars_ba4f3_b12 v0 v2 v5 s0 D = some p) (k : K_wi Φ ln D z p) : XD mJ6_getChars_ba4f3 12 [some (.int (iN (v0))), none, some (rV (v2)), none, none, some (.int (iN (v5))), none] [.int (iN (s0))] ln D z Φ := by
  unfold fJ6_getChars_ba4f3_b12 at h
  refine X_istore (pc' := 14) dJ6_getChars_ba4f3_12 rfl (cl rfl) (Or.inr rfl) (L' := [some (.int (iN (v0))), none, some (rV (v2)), none, none, some (.int (iN (v5))), some (.int (iN (s0)))]) rfl ?_
  refine X_iload (pc' := 16) dJ6_getChars_ba4f3_14 rfl rfl ?_
  refine X_if_ne dJ6_getChars_ba4f3_16 (tgt := 22) rfl (pc' := 19) rfl rs0 (fun c1 => ?_) (fun c1 => ?_)
  · have h := if_f c1 h
    obtain ⟨⟨x2_v0, x2_v5, D2⟩, q2, h⟩ := bs h
    refine X_sub (sub_s (sub_n (sub_s (sub_n (sub_n (sub_s (sub_s sub_0))))))) (LJ6_getChars_ba4f3_22 FU _ _ _ hD rv2 rs0 rv0 rv5 q2 (fun x2_v0₁ x2_v5₁ D2₁ hh hD2 le2 rx2_v0 rx2_v5 => ?_))
    cases hh
    refine E_aload_n (pc' := 73) dJ6_getChars_ba4f3_72 rfl rfl ?_
    refine X_iinc (pc' := 76) dJ6_getChars_ba4f3_73 rfl rfl (Or.inr rfl) (L' := [some (.int (iN (x2_v0))), none, some (rV (v2)), none, none, some (.int (iN (x2_v5 + (-1)))), some (.int (iN (s0)))]) rfl ?_
    refine X_iload (pc' := 78) dJ6_getChars_ba4f3_76 rfl rfl ?_
    refine E_gets (v := 1000011) (pc' := 81) dJ6_getChars_ba4f3_78 rfl (List.mem_of_getElem? (i := 6) rfl) tq1236 rfl ?_
    refine X_iload_n (pc' := 82) dJ6_getChars_ba4f3_81 rfl rfl ?_
    refine X_ineg (pc' := 83) dJ6_getChars_ba4f3_82 rfl ?_
    obtain ⟨g3, h⟩ := gs h
    refine E_baldK (a := 1000011) (n := 100) (pc' := 84) dJ6_getChars_ba4f3_83 rfl (by decide) rfl (by decide) g3 ?_
    obtain ⟨g4, h⟩ := gs h
    obtain ⟨g5, h⟩ := gs h
    obtain ⟨g6, h⟩ := gs h
    refine E_bast (pc' := 85) dJ6_getChars_ba4f3_84 rfl hD2 g4 g5 g6 ?_
    obtain ⟨D7, e7, f7, h⟩ := zl_some (P := fun q => okD q ∧ DLe D2 q) h ⟨okD_dupJ hD2 g5.1 (okS_at21 g4 g6), DLe_dup _ _ _ _⟩
    rw [e7]
    refine X_iload_n (pc' := 86) dJ6_getChars_ba4f3_85 rfl rfl ?_
    refine X_bipush (pc' := 88) dJ6_getChars_ba4f3_86 rfl (by decide) ?_
    refine X_icmp_ge dJ6_getChars_ba4f3_88 (tgt := 104) rfl (pc' := 91) rfl ⟨rx2_v0.1, rx2_v0.2, (inR_c (n := (-9)) rfl).1, (inR_c (n := (-9)) rfl).2⟩ (fun c8 => ?_) (fun c8 => ?_)
    · have h := if_f (Int.not_lt.mpr c8) h
      obtain ⟨g9, h⟩ := gs h
      exact X_sub (sub_n (sub_n (sub_s (sub_n (sub_n (sub_s (sub_s sub_0))))))) (BJ6_getChars_ba4f3_104 f7.1 (gdV_le f7.2 (gdV_le le2 rv2)) g9 rs0 h (fun a b c => k a (DLe_trans (DLe_trans le2 f7.2) b) c))
    have h := if_t c8 h
    refine E_aload_n (pc' := 92) dJ6_getChars_ba4f3_91 rfl rfl ?_
    refine X_iinc (pc' := 95) dJ6_getChars_ba4f3_92 rfl rfl (Or.inr rfl) (L' := [some (.int (iN (x2_v0))), none, some (rV (v2)), none, none, some (.int (iN ((x2_v5 + (-1)) + (-1)))), some (.int (iN (s0)))]) rfl ?_
    refine X_iload (pc' := 97) dJ6_getChars_ba4f3_95 rfl rfl ?_
    refine E_gets (v := 1000010) (pc' := 100) dJ6_getChars_ba4f3_97 rfl (List.mem_of_getElem? (i := 7) rfl) tq1238 rfl ?_
    refine X_iload_n (pc' := 101) dJ6_getChars_ba4f3_100 rfl rfl ?_
    refine X_ineg (pc' := 102) dJ6_getChars_ba4f3_101 rfl ?_
    obtain ⟨g10, h⟩ := gs h
    refine E_baldK (a := 1000010) (n := 100) (pc' := 103) dJ6_getChars_ba4f3_102 rfl (by decide) rfl (by decide) g10 ?_
    obtain ⟨g11, h⟩ := gs h
    obtain ⟨g12, h⟩ := gs h
    refine E_bast (pc' := 104) dJ6_getChars_ba4f3_103 rfl f7.1 (dO_le f7.2 g4) g11 g12 ?_
    obtain ⟨D13, e13, f13, h⟩ := zl_some (P := fun q => okD q ∧ DLe D7 q) h ⟨okD_dupJ f7.1 g11.1 (okS_at21 (dO_le f7.2 g4) g12), DLe_dup _ _ _ _⟩
    rw [e13]
    obtain ⟨g14, h⟩ := gs h
    exact X_sub (sub_n (sub_n (sub_s (sub_n (sub_n (sub_s (sub_s sub_0))))))) (BJ6_getChars_ba4f3_104 f13.1 (gdV_le f13.2 (gdV_le f7.2 (gdV_le le2 rv2))) g14 rs0 h (fun a b c => k a (DLe_trans (DLe_trans (DLe_trans le2 f7.2) f13.2) b) c))
  have h := if_t c1 h
  refine X_iload_n (pc' := 20) dJ6_getChars_ba4f3_19 rfl rfl ?_
  refine X_ineg (pc' := 21) dJ6_getChars_ba4f3_20 rfl ?_
  refine X_istore_n (pc' := 22) dJ6_getChars_ba4f3_21 rfl (cl rfl) (Or.inl rfl) (L' := [some (.int (iN ((-v0)))), none, some (rV (v2)), none, none, some (.int (iN (v5))), some (.int (iN (s0)))]) rfl ?_
  obtain ⟨g15, h⟩ := gs h
  obtain ⟨⟨x16_v0, x16_v5, D16⟩, q16, h⟩ := bs h
  refine X_sub (sub_s (sub_n (sub_s (sub_n (sub_n (sub_s (sub_s sub_0))))))) (LJ6_getChars_ba4f3_22 FU _ _ _ hD rv2 rs0 g15 rv5 q16 (fun x16_v0₁ x16_v5₁ D16₁ hh hD16 le16 rx16_v0 rx16_v5 => ?_))
  cases hh
  refine E_aload_n (pc' := 73) dJ6_getChars_ba4f3_72 rfl rfl ?_
  refine X_iinc (pc' := 76) dJ6_getChars_ba4f3_73 rfl rfl (Or.inr rfl) (L' := [some (.int (iN (x16_v0))), none, some (rV (v2)), none, none, some (.int (iN (x16_v5 + (-1)))), some (.int (iN (s0)))]) rfl ?_
  refine X_iload (pc' := 78) dJ6_getChars_ba4f3_76 rfl rfl ?_
  refine E_gets (v := 1000011) (pc' := 81) dJ6_getChars_ba4f3_78 rfl (List.mem_of_getElem? (i := 6) rfl) tq1236 rfl ?_
  refine X_iload_n (pc' := 82) dJ6_getChars_ba4f3_81 rfl rfl ?_
  refine X_ineg (pc' := 83) dJ6_getChars_ba4f3_82 rfl ?_
  obtain ⟨g17, h⟩ := gs h
  refine E_baldK (a := 1000011) (n := 100) (pc' := 84) dJ6_getChars_ba4f3_83 rfl (by decide) rfl (by decide) g17 ?_
  obtain ⟨g18, h⟩ := gs h
  obtain ⟨g19, h⟩ := gs h
  obtain ⟨g20, h⟩ := gs h
  refine E_bast (pc' := 85) dJ6_getChars_ba4f3_84 rfl hD16 g18 g19 g20 ?_
  obtain ⟨D21, e21, f21, h⟩ := zl_some (P := fun q => okD q ∧ DLe D16 q) h ⟨okD_dupJ hD16 g19.1 (okS_at21 g18 g20), DLe_dup _ _ _ _⟩
  rw [e21]
  refine X_iload_n (pc' := 86) dJ6_getChars_ba4f3_85 rfl rfl ?_
  refine X_bipush (pc' := 88) dJ6_getChars_ba4f3_86 rfl (by decide) ?_
  refine X_icmp_ge dJ6_getChars_ba4f3_88 (tgt := 104) rfl (pc' := 91) rfl ⟨rx16_v0.1, rx16_v0.2, (inR_c (n := (-9)) rfl).1, (inR_c (n := (-9)) rfl).2⟩ (fun c22 => ?_) (fun c22 => ?_)
  · have h := if_f (Int.not_lt.mpr c22) h
    obtain ⟨g23, h⟩ := gs h
    exact X_sub (sub_n (sub_n (sub_s (sub_n (sub_n (sub_s (sub_s sub_0))))))) (BJ6_getChars_ba4f3_104 f21.1 (gdV_le f21.2 (gdV_le le16 rv2)) g23 rs0 h (fun a b c => k a (DLe_trans (DLe_trans le16 f21.2) b) c))
  have h := if_t c22 h
  refine E_aload_n (pc' := 92) dJ6_getChars_ba4f3_91 rfl rfl ?_
  refine X_iinc (pc' := 95) dJ6_getChars_ba4f3_92 rfl rfl (Or.inr rfl) (L' := [some (.int (iN (x16_v0))), none, some (rV (v2)), none, none, some (.int (iN ((x16_v5 + (-1)) + (-1)))), some (.int (iN (s0)))]) rfl ?_
  refine X_iload (pc' := 97) dJ6_getChars_ba4f3_95 rfl rfl ?_
  refine E_gets (v := 1000010) (pc' := 100) dJ6_getChars_ba4f3_97 rfl (List.mem_of_getElem? (i := 7) rfl) tq1238 rfl ?_
  refine X_iload_n (pc' := 101) dJ6_getChars_ba4f3_100 rfl rfl ?_
  refine X_ineg (pc' := 102) dJ6_getChars_ba4f3_101 rfl ?_
  obtain ⟨g24, h⟩ := gs h
  refine E_baldK (a := 1000010) (n := 100) (pc' := 103) dJ6_getChars_ba4f3_102 rfl (by decide) rfl (by decide) g24 ?_
  obtain ⟨g25, h⟩ := gs h
  obtain ⟨g26, h⟩ := gs h
  refine E_bast (pc' := 104) dJ6_getChars_ba4f3_103 rfl f21.1 (dO_le f21.2 g18) g25 g26 ?_
  obtain ⟨D27, e27, f27, h⟩ := zl_some (P := fun q => okD q ∧ DLe D21 q) h ⟨okD_dupJ f21.1 g25.1 (okS_at21 (dO_le f21.2 g18) g26), DLe_dup _ _ _ _⟩
  rw [e27]
  obtain ⟨g28, h⟩ := gs h
  exact X_sub (sub_n (sub_n (sub_s (sub_n (sub_n (sub_s (sub_s sub_0))))))) (BJ6_getChars_ba4f3_104 f27.1 (gdV_le f27.2 (gdV_le f21.2 (gdV_le le16 rv2))) g28 rs0 h (fun a b c => k a (DLe_trans (DLe_trans (DLe_trans le16 f21.2) f27.2) b) c))
def fJ6_getChars_ba4f3 (v0 : Int) (v1 : Int) (v2 : Int) (D : DD) : Option (Int × DD) := (if (v0) < (0) then fJ6_getChars_ba4f3_b12 (v0) (v2) (v1) (1) D else fJ6_getChars_ba4f3_b12 (v0) (v2) (v1) (0) D)
set_option maxRecDepth 100000 in
theorem CJ6_getChars_ba4f3 {ln : Nat} {D : DD} {z : ZZ} {v0 : Int} {v1 : Int} {v2 : Int} (hD : okD D) (rv0 : inR v0) (rv1 : inR v1) (rv2 : gdV D v2) {p : Int × DD} (h : fJ6_getChars_ba4f3 v0 v1 v2 D = some p) : XD mJ6_getChars_ba4f3 0 (xEnt [.int (iN (v0)), .int (iN (v1)), rV (v2)] (xL mJ6_getChars_ba4f3)) [] ln D z (Qd (FdD D p.2 (inR p.1)) (.inl (some (.int (iN p.1)))) (sD ln p.2 z)) := by
  have k : K_wi (Qd (FdD D p.2 (inR p.1)) (.inl (some (.int (iN p.1)))) (sD ln p.2 z)) ln D z p := fun a b c => ⟨⟨a, b, c⟩, rfl, rfl⟩
  unfold fJ6_getChars_ba4f3 at h
  refine E_ent (c1_i (c1_i (c1_r c1_n))) (M := [some (.int (iN (v0))), some (.int (iN (v1))), some (rV (v2)), none, none, none, none]) rfl ?_
  refine X_iload_n (pc' := 1) dJ6_getChars_ba4f3_0 rfl rfl ?_
  refine X_istore (pc' := 3) dJ6_getChars_ba4f3_1 rfl (cl rfl) (Or.inr rfl) (L' := [some (.int (iN (v0))), some (.int (iN (v1))), some (rV (v2)), none, none, some (.int (iN (v1))), none]) rfl ?_
  refine X_iload_n (pc' := 4) dJ6_getChars_ba4f3_3 rfl rfl ?_
  refine X_if_ge dJ6_getChars_ba4f3_4 (tgt := 11) rfl (pc' := 7) rfl rv0 (fun c1 => ?_) (fun c1 => ?_)
  · have h := if_f (Int.not_lt.mpr c1) h
    refine X_iconst (pc' := 12) dJ6_getChars_ba4f3_11 rfl ?_
    exact X_sub (sub_s (sub_n (sub_s (sub_n (sub_n (sub_s (sub_n sub_0))))))) (BJ6_getChars_ba4f3_12 hD rv0 rv2 rv1 (inR_c (n := 0) rfl) h (fun a b c => k a (DLe_trans (DLe_refl _) b) c))
  have h := if_t c1 h
  refine X_iconst (pc' := 8) dJ6_getChars_ba4f3_7 rfl ?_
  refine X_goto dJ6_getChars_ba4f3_8 (tgt := 12) rfl ?_
  exact X_sub (sub_s (sub_n (sub_s (sub_n (sub_n (sub_s (sub_n sub_0))))))) (BJ6_getChars_ba4f3_12 hD rv0 rv2 rv1 (inR_c (n := 1) rfl) h (fun a b c => k a (DLe_trans (DLe_refl _) b) c))
def fJ5_append_c97b9 (v0 : Int) (v1 : Int) (D : DD) : Option (Int × DD) := (if dO D (v0) 17 then (Option.bind (fJ6_stringSize_0f7a4 (v1) D) fun r2 => (if inR (((dW D (v0) 3) + r2)) then (Option.bind (fJ5_ensureCapacityInternal_d00df (v0) (((dW D (v0) 3) + r2)) D) fun D4 => (Option.bind (fJ5_isLatin1_aae02 (v0) D4) fun r5 => (if (r5) = (0) then none else (Option.bind (fJ6_getChars_ba4f3 (v1) (((dW D (v0) 3) + r2)) ((dW D4 (v0) 0)) D4) fun q7 => match q7 with | (r7, D7) => (zl (dup D7 (v0) 3 (((dW D (v0) 3) + r2))) fun D8 => some (v0, D8)))))) else none)) else none)
set_option maxRecDepth 100000 in
theorem CJ5_append_c97b9 {ln : Nat} {D : DD} {z : ZZ} {v0 : Int} {v1 : Int} (hD : okD D) (rv0 : gdV D v0) (rv1 : inR v1) {p : Int × DD} (h : fJ5_append_c97b9 v0 v1 D = some p) : XD mJ5_append_c97b9 0 (xEnt [rV (v0), .int (iN (v1))] (xL mJ5_append_c97b9)) [] ln D z (Qd (FdD D p.2 (gdV p.2 p.1)) (.inl (some (rV p.1))) (sD ln p.2 z)) := by
  have k : K_wR (Qd (FdD D p.2 (gdV p.2 p.1)) (.inl (some (rV p.1))) (sD ln p.2 z)) ln D z p := fun a b c => ⟨⟨a, b, c⟩, rfl, rfl⟩
  unfold fJ5_append_c97b9 at h
  refine E_ent (c1_r (c1_i c1_n)) (M := [some (rV (v0)), some (.int (iN (v1))), none, none]) rfl ?_
  refine E_aload_n (pc' := 1) dJ5_append_c97b9_0 rfl rfl ?_
  obtain ⟨g1, h⟩ := gs h
  refine E_getI (pc' := 4) dJ5_append_c97b9_1 rfl FJ5_79_16 hD g1 rfl (j := 3) rfl ?_
  refine X_istore_n (pc' := 5) dJ5_append_c97b9_4 rfl (cl rfl) (Or.inr rfl) (L' := [some (rV (v0)), some (.int (iN (v1))), some (.int (iN ((dW D (v0) 3)))), none]) rfl ?_
  refine X_iload_n (pc' := 6) dJ5_append_c97b9_5 rfl rfl ?_
  refine X_iload_n (pc' := 7) dJ5_append_c97b9_6 rfl rfl ?_
  obtain ⟨r2, q2, h⟩ := bs h
  refine E_callS [.int (iN (v1))] (pc' := 10) dJ5_append_c97b9_7 rfl (xSn SJ5_245) (by decide) rfl (c1_i c1_n) (cs rfl) (c1_i c1_n) (cs rfl) rfl hD (CJ6_stringSize_0f7a4 hD rv1 q2) (fun a2 b2 f2 => ?_)
  refine X_iadd (pc' := 11) dJ5_append_c97b9_10 rfl ?_
  refine X_istore_n (pc' := 12) dJ5_append_c97b9_11 rfl (cl rfl) (Or.inr rfl) (L' := [some (rV (v0)), some (.int (iN (v1))), some (.int (iN ((dW D (v0) 3)))), some (.int (iN (((dW D (v0) 3) + r2))))]) rfl ?_
  refine E_aload_n (pc' := 13) dJ5_append_c97b9_12 rfl rfl ?_
  refine X_iload_n (pc' := 14) dJ5_append_c97b9_13 rfl rfl ?_
  obtain ⟨g3, h⟩ := gs h
  obtain ⟨D4, q4, h⟩ := bs h
  refine E_callV [.int (iN (((dW D (v0) 3) + r2)))] (pc' := 17) dJ5_append_c97b9_14 rfl VJ5_100_J4 (by decide) ⟨dO_pos g1, dO_is hD g1 rfl⟩ rfl (c1_i c1_n) (cs rfl) c1_n (cs rfl) rfl hD (CJ5_ensureCapacityInternal_d00df hD rv0 g3 q4) (fun a4 b4 f4 => ?_)
  refine E_aload_n (pc' := 18) dJ5_append_c97b9_17 rfl rfl ?_
  obtain ⟨r5, q5, h⟩ := bs h
  refine E_callV [] (pc' := 21) dJ5_append_c97b9_18 rfl VJ5_83_J4 (by decide) ⟨dO_pos (dO_le b4 g1), dO_is a4 (dO_le b4 g1) rfl⟩ rfl c1_n (cs rfl) c1_n (cs rfl) rfl a4 (CJ5_isLatin1_aae02 a4 (gdV_le b4 rv0) q5) (fun a5 b5 f5 => ?_)
  refine X_if_eq dJ5_append_c97b9_21 (tgt := 37) rfl (pc' := 24) rfl (inR_b f5) (fun c6 => ?_) (fun c6 => ?_)
  · have h := if_t c6 h
    refine X_iload_n (pc' := 38) dJ5_append_c97b9_37 rfl rfl ?_
    refine X_iload_n (pc' := 39) dJ5_append_c97b9_38 rfl rfl ?_
    refine X_iload_n (pc' := 40) dJ5_append_c97b9_39 rfl rfl ?_
    refine E_aload_n (pc' := 41) dJ5_append_c97b9_40 rfl rfl ?_
    refine E_getR (pc' := 44) dJ5_append_c97b9_41 rfl FJ5_15_16 a4 (dO_le b4 g1) rfl (j := 0) rfl ?_
    cases h
  have h := if_f c6 h
  refine X_iload_n (pc' := 25) dJ5_append_c97b9_24 rfl rfl ?_
  refine X_iload_n (pc' := 26) dJ5_append_c97b9_25 rfl rfl ?_
  refine E_aload_n (pc' := 27) dJ5_append_c97b9_26 rfl rfl ?_
  refine E_getR (pc' := 30) dJ5_append_c97b9_27 rfl FJ5_15_16 a4 (dO_le b4 g1) rfl (j := 0) rfl ?_
  obtain ⟨⟨r7, D7⟩, q7, h⟩ := bs h
  refine E_callS [.int (iN (v1)), .int (iN (((dW D (v0) 3) + r2))), rV ((dW D4 (v0) 0))] (pc' := 33) dJ5_append_c97b9_30 rfl (xSn SJ5_248) (by decide) rfl (c1_i (c1_i (c1_r c1_n))) (cs rfl) c1_n (cs rfl) rfl a4 (CJ6_getChars_ba4f3 a4 rv1 g3 (gd_slot (k := 0) a4 (dO_le b4 g1) rfl (by decide)) q7) (fun a7 b7 f7 => ?_)
  refine X_pop (pc' := 34) dJ5_append_c97b9_33 rfl rfl ?_
  refine X_goto dJ5_append_c97b9_34 (tgt := 48) rfl ?_
  refine E_aload_n (pc' := 49) dJ5_append_c97b9_48 rfl rfl ?_
  refine X_iload_n (pc' := 50) dJ5_append_c97b9_49 rfl rfl ?_
  refine E_putI (pc' := 53) dJ5_append_c97b9_50 rfl FJ5_79_16 a7 (dO_le b7 (dO_le b4 g1)) rfl (fun r hr => by cases hr; exact Or.inl rfl) (xFit_int _) (j := 3) rfl ?_
  obtain ⟨D8, e8, f8, h⟩ := zl_some (P := fun q => okD q ∧ DLe D7 q) h ⟨okD_dup (k := 3) a7 (okS_I (dO_le b7 (dO_le b4 g1)) rfl (by decide) (by decide) g3), DLe_dup _ _ _ _⟩
  rw [e8]
  refine E_aload_n (pc' := 54) dJ5_append_c97b9_53 rfl rfl ?_
  cases h
  exact E_aret dJ5_append_c97b9_54 rfl (Or.inl ⟨_, rfl⟩) (k f8.1 (DLe_trans (DLe_trans b4 b7) f8.2) (gdV_le f8.2 (gdV_le b7 (gdV_le b4 rv0))))
def fJ4_append_bf812 (v0 : Int) (v1 : Int) (D : DD) : Option (Int × DD) := (Option.bind (fJ5_append_c97b9 (v0) (v1) D) fun q1 => match q1 with | (r1, D1) => (if dO D (v0) 17 then some (v0, D1) else none))
set_option maxRecDepth 100000 in
theorem CJ4_append_bf812 {ln : Nat} {D : DD} {z : ZZ} {v0 : Int} {v1 : Int} (hD : okD D) (rv0 : gdV D v0) (rv1 : inR v1) {p : Int × DD} (h : fJ4_append_bf812 v0 v1 D = some p) : XD mJ4_append_bf812 0 (xEnt [rV (v0), .int (iN (v1))] (xL mJ4_append_bf812)) [] ln D z (Qd (FdD D p.2 (gdV p.2 p.1)) (.inl (some (rV p.1))) (sD ln p.2 z)) := by
  have k : K_wR (Qd (FdD D p.2 (gdV p.2 p.1)) (.inl (some (rV p.1))) (sD ln p.2 z)) ln D z p := fun a b c => ⟨⟨a, b, c⟩, rfl, rfl⟩
  unfold fJ4_append_bf812 at h
  refine E_ent (c1_r (c1_i c1_n)) (M := [some (rV (v0)), some (.int (iN (v1)))]) rfl ?_
  refine E_aload_n (pc' := 1) dJ4_append_bf812_0 rfl rfl ?_
  refine X_iload_n (pc' := 2) dJ4_append_bf812_1 rfl rfl ?_
  obtain ⟨⟨r1, D1⟩, q1, h⟩ := bs h
  obtain ⟨g2, h⟩ := gs h
  refine E_callP [.int (iN (v1))] (pc' := 5) dJ4_append_bf812_2 rfl PJ4_53 (by decide) ⟨dO_pos g2, dO_is hD g2 rfl⟩ rfl (c1_i c1_n) (cs rfl) c1_n (cs rfl) rfl hD (CJ5_append_c97b9 hD rv0 rv1 q1) (fun a1 b1 f1 => ?_)
  refine X_pop (pc' := 6) dJ4_append_bf812_5 rfl (rV_cat _) ?_
  refine E_aload_n (pc' := 7) dJ4_append_bf812_6 rfl rfl ?_
  cases h
  exact E_aret dJ4_append_bf812_7 rfl (Or.inl ⟨_, rfl⟩) (k a1 b1 (gdV_le b1 rv0))
def fJ5_getValue_6d5f1 (v0 : Int) (D : DD) : Option (Int) := (if dO D (v0) 17 then some ((dW D (v0) 0)) else none)
set_option maxRecDepth 100000 in
theorem CJ5_getValue_6d5f1 {ln : Nat} {D : DD} {z : ZZ} {v0 : Int} (hD : okD D) (rv0 : gdV D v0) {p : Int} (h : fJ5_getValue_6d5f1 v0 D = some p) : XD mJ5_getValue_6d5f1 0 (xEnt [rV (v0)] (xL mJ5_getValue_6d5f1)) [] ln D z (Qd (FdD D D (gdV D p)) (.inl (some (rV p))) (sD ln D z)) := by
  have k : K_R (Qd (FdD D D (gdV D p)) (.inl (some (rV p))) (sD ln D z)) ln D z p := fun a => ⟨⟨hD, DLe_refl D, a⟩, rfl, rfl⟩
  unfold fJ5_getValue_6d5f1 at h
  refine E_ent (c1_r c1_n) (M := [some (rV (v0))]) rfl ?_
  refine E_aload_n (pc' := 1) dJ5_getValue_6d5f1_0 rfl rfl ?_
  obtain ⟨g1, h⟩ := gs h
  refine E_getR (pc' := 4) dJ5_getValue_6d5f1_1 rfl FJ5_15_16 hD g1 rfl (j := 0) rfl ?_
  cases h
  exact E_aret dJ5_getValue_6d5f1_4 rfl (Or.inr ⟨_, rfl⟩) (k (gd_slot (k := 0) hD g1 rfl (by decide)))
def fJ5_length_8abf5 (v0 : Int) (D : DD) : Option (Int) := (if dO D (v0) 17 then some ((dW D (v0) 3)) else none)
set_option maxRecDepth 100000 in
theorem CJ5_length_8abf5 {ln : Nat} {D : DD} {z : ZZ} {v0 : Int} (hD : okD D) (rv0 : gdV D v0) {p : Int} (h : fJ5_length_8abf5 v0 D = some p) : XD mJ5_length_8abf5 0 (xEnt [rV (v0)] (xL mJ5_length_8abf5)) [] ln D z (Qd (FdD D D (inR p)) (.inl (some (.int (iN p)))) (sD ln D z)) := by
  have k : K_r (Qd (FdD D D (inR p)) (.inl (some (.int (iN p)))) (sD ln D z)) ln D z p := fun a => ⟨⟨hD, DLe_refl D, a⟩, rfl, rfl⟩
  unfold fJ5_length_8abf5 at h
  refine E_ent (c1_r c1_n) (M := [some (rV (v0))]) rfl ?_
  refine E_aload_n (pc' := 1) dJ5_length_8abf5_0 rfl rfl ?_
  obtain ⟨g1, h⟩ := gs h
  refine E_getI (pc' := 4) dJ5_length_8abf5_1 rfl FJ5_79_16 hD g1 rfl (j := 3) rfl ?_
  cases h
  exact X_iret dJ5_length_8abf5_4 rfl (k (in_slot (k := 3) hD g1 rfl (by decide)))
def fJ4_length_8abf5 (v0 : Int) (D : DD) : Option (Int) := (Option.bind (fJ5_length_8abf5 (v0) D) fun r1 => (if dO D (v0) 17 then some (r1) else none))
set_option maxRecDepth 100000 in
theorem CJ4_length_8abf5 {ln : Nat} {D : DD} {z : ZZ} {v0 : Int} (hD : okD D) (rv0 : gdV D v0) {p : Int} (h : fJ4_length_8abf5 v0 D = some p) : XD mJ4_length_8abf5 0 (xEnt [rV (v0)] (xL mJ4_length_8abf5)) [] ln D z (Qd (FdD D D (inR p)) (.inl (some (.int (iN p)))) (sD ln D z)) := by
  have k : K_r (Qd (FdD D D (inR p)) (.inl (some (.int (iN p)))) (sD ln D z)) ln D z p := fun a => ⟨⟨hD, DLe_refl D, a⟩, rfl, rfl⟩
  unfold fJ4_length_8abf5 at h
  refine E_ent (c1_r c1_n) (M := [some (rV (v0))]) rfl ?_
  refine E_aload_n (pc' := 1) dJ4_length_8abf5_0 rfl rfl ?_
  obtain ⟨r1, q1, h⟩ := bs h
  obtain ⟨g2, h⟩ := gs h
  refine E_callP [] (pc' := 4) dJ4_length_8abf5_1 rfl PJ4_343 (by decide) ⟨dO_pos g2, dO_is hD g2 rfl⟩ rfl c1_n (cs rfl) c1_n (cs rfl) rfl hD (CJ5_length_8abf5 hD rv0 q1) (fun a1 b1 f1 => ?_)
  cases h
  exact X_iret dJ4_length_8abf5_4 rfl (k f1)

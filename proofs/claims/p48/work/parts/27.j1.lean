def fJxa1e45_init_da8c8 (v0 : Int) (D : DD) : Option (Unit) := (if (151 : Int) ≤ (v0) ∧ (v0 : Int) < dT D ∧ True then some () else none)
set_option maxRecDepth 100000 in
theorem CJxa1e45_init_da8c8 {ln : Nat} {D : DD} {z : ZZ} {v0 : Int} (hD : okD D) (rv0 : gdV D v0) {p : Unit} (h : fJxa1e45_init_da8c8 v0 D = some p) : XD mJxa1e45_init_da8c8 0 (xEnt [rV (v0)] (xL mJxa1e45_init_da8c8)) [] ln D z (Qd (FdD D D (True)) (.inl (none)) (sD ln D z)) := by
  have k : K_v (Qd (FdD D D (True)) (.inl (none)) (sD ln D z)) ln D z p := fun a => ⟨⟨hD, DLe_refl D, a⟩, rfl, rfl⟩
  unfold fJxa1e45_init_da8c8 at h
  refine E_ent (c1_r c1_n) (M := [some (rV (v0))]) rfl ?_
  refine E_aload_n (pc' := 1) dJxa1e45_init_da8c8_0 rfl rfl ?_
  obtain ⟨g1, h⟩ := gs h
  refine E_objInit (μ := mJxa1e45_init_da8c8) (pc' := 4) dJxa1e45_init_da8c8_1 rfl tq427 tq53 tq54 hD ⟨g1.1, g1.2.1⟩ c1_n (cs rfl) ?_
  cases h
  exact X_vret dJxa1e45_init_da8c8_4 rfl (k trivial)
def fJxc12de_init_da8c8 (v0 : Int) (D : DD) : Option (DD) := (Option.bind (fJxa1e45_init_da8c8 (v0) D) fun _u1 => (if (151 : Int) ≤ (v0) ∧ (v0 : Int) < dT D ∧ True then (if dO D (v0) 9 then (zl (dup D (v0) 0 (0)) fun D4 => some D4) else none) else none))
set_option maxRecDepth 100000 in
theorem CJxc12de_init_da8c8 {ln : Nat} {D : DD} {z : ZZ} {v0 : Int} (hD : okD D) (rv0 : gdV D v0) {p : DD} (h : fJxc12de_init_da8c8 v0 D = some p) : XD mJxc12de_init_da8c8 0 (xEnt [rV (v0)] (xL mJxc12de_init_da8c8)) [] ln D z (Qd (FdD D p (True)) (.inl (none)) (sD ln p z)) := by
  have k : K_w (Qd (FdD D p (True)) (.inl (none)) (sD ln p z)) ln D z p := fun a b c => ⟨⟨a, b, c⟩, rfl, rfl⟩
  unfold fJxc12de_init_da8c8 at h
  refine E_ent (c1_r c1_n) (M := [some (rV (v0))]) rfl ?_
  refine E_aload_n (pc' := 1) dJxc12de_init_da8c8_0 rfl rfl ?_
  obtain ⟨u1, q1, h⟩ := bs h
  obtain ⟨g2, h⟩ := gs h
  refine E_callI (μ := mJxc12de_init_da8c8) (μ' := mJxa1e45_init_da8c8) [] (pc' := 4) dJxc12de_init_da8c8_1 rfl tq424 IJxc12de_1 (by decide) ⟨g2.1, g2.2.1⟩ rfl c1_n (cs rfl) c1_n (cs rfl) rfl hD (CJxa1e45_init_da8c8 hD rv0 q1) (fun a1 b1 f1 => ?_)
  refine E_aload_n (pc' := 5) dJxc12de_init_da8c8_4 rfl rfl ?_
  refine X_iconst (pc' := 6) dJxc12de_init_da8c8_5 rfl ?_
  obtain ⟨g3, h⟩ := gs h
  refine E_putI (pc' := 9) dJxc12de_init_da8c8_6 rfl FJxc12de_7_8 hD g3 rfl (fun r hr => by cases hr; exact Or.inl rfl) (xFit_int _) (j := 0) rfl ?_
  obtain ⟨D4, e4, f4, h⟩ := zl_some (P := fun q => okD q ∧ DLe D q) h ⟨okD_dup (k := 0) hD (okS_I g3 rfl (by decide) (by decide) (inR_c (n := 0) rfl)), DLe_dup _ _ _ _⟩
  rw [e4]
  cases h
  exact X_vret dJxc12de_init_da8c8_9 rfl (k f4.1 f4.2 trivial)
def fJx4a65c_init_da8c8 (v0 : Int) (D : DD) : Option (DD) := (Option.bind (fJxc12de_init_da8c8 (v0) D) fun D1 => (if (151 : Int) ≤ (v0) ∧ (v0 : Int) < dT D ∧ True then (if dO D1 (v0) 9 then (zl (dup D1 (v0) 1 (1000012)) fun D4 => some D4) else none) else none))
set_option maxRecDepth 100000 in
theorem CJx4a65c_init_da8c8 {ln : Nat} {D : DD} {z : ZZ} {v0 : Int} (hD : okD D) (rv0 : gdV D v0) {p : DD} (h : fJx4a65c_init_da8c8 v0 D = some p) : XD mJx4a65c_init_da8c8 0 (xEnt [rV (v0)] (xL mJx4a65c_init_da8c8)) [] ln D z (Qd (FdD D p (True)) (.inl (none)) (sD ln p z)) := by
  have k : K_w (Qd (FdD D p (True)) (.inl (none)) (sD ln p z)) ln D z p := fun a b c => ⟨⟨a, b, c⟩, rfl, rfl⟩
  unfold fJx4a65c_init_da8c8 at h
  refine E_ent (c1_r c1_n) (M := [some (rV (v0))]) rfl ?_
  refine E_aload_n (pc' := 1) dJx4a65c_init_da8c8_0 rfl rfl ?_
  obtain ⟨D1, q1, h⟩ := bs h
  obtain ⟨g2, h⟩ := gs h
  refine E_callI (μ := mJx4a65c_init_da8c8) (μ' := mJxc12de_init_da8c8) [] (pc' := 4) dJx4a65c_init_da8c8_1 rfl tq421 IJx4a65c_1 (by decide) ⟨g2.1, g2.2.1⟩ rfl c1_n (cs rfl) c1_n (cs rfl) rfl hD (CJxc12de_init_da8c8 hD rv0 q1) (fun a1 b1 f1 => ?_)
  refine E_aload_n (pc' := 5) dJx4a65c_init_da8c8_4 rfl rfl ?_
  refine E_gets (v := 1000012) (pc' := 8) dJx4a65c_init_da8c8_5 rfl (List.mem_of_getElem? (i := 5) rfl) tq428 rfl ?_
  obtain ⟨g3, h⟩ := gs h
  refine E_putR (pc' := 11) dJx4a65c_init_da8c8_8 rfl FJx4a65c_9_8 a1 g3 rfl (fun r hr => by cases hr; exact Or.inl rfl) (Or.inr ⟨_, rfl⟩) (j := 1) rfl ?_
  obtain ⟨D4, e4, f4, h⟩ := zl_some (P := fun q => okD q ∧ DLe D1 q) h ⟨okD_dup (k := 1) a1 (okS_R g3 rfl (by decide) (Or.inr (Or.inl rfl))), DLe_dup _ _ _ _⟩
  rw [e4]
  cases h
  exact X_vret dJx4a65c_init_da8c8_11 rfl (k f4.1 (DLe_trans b1 f4.2) trivial)
def fJx35411_init_45d68 (v0 : Int) (v1 : Int) (D : DD) : Option (DD) := (if dO D (v0) 10 then (zl (dup D (v0) 3 (v1)) fun D2 => (zl (dup D2 (v0) 1 ((-1))) fun D3 => (if dO D3 ((dW D3 (v0) 3)) 9 then (zl (dup D3 (v0) 2 ((dW D3 ((dW D3 (v0) 3)) 0))) fun D5 => some D5) else none))) else none)
set_option maxRecDepth 100000 in
theorem CJx35411_init_45d68 {ln : Nat} {D : DD} {z : ZZ} {v0 : Int} {v1 : Int} (hD : okD D) (rv0 : gdV D v0) (rv1 : gdV D v1) {p : DD} (h : fJx35411_init_45d68 v0 v1 D = some p) : XD mJx35411_init_45d68 0 (xEnt [rV (v0), rV (v1)] (xL mJx35411_init_45d68)) [] ln D z (Qd (FdD D p (True)) (.inl (none)) (sD ln p z)) := by
  have k : K_w (Qd (FdD D p (True)) (.inl (none)) (sD ln p z)) ln D z p := fun a b c => ⟨⟨a, b, c⟩, rfl, rfl⟩
  unfold fJx35411_init_45d68 at h
  refine E_ent (c1_r (c1_r c1_n)) (M := [some (rV (v0)), some (rV (v1))]) rfl ?_
  refine E_aload_n (pc' := 1) dJx35411_init_45d68_0 rfl rfl ?_
  refine E_aload_n (pc' := 2) dJx35411_init_45d68_1 rfl rfl ?_
  obtain ⟨g1, h⟩ := gs h
  refine E_putR (pc' := 5) dJx35411_init_45d68_2 rfl FJx35411_1_9 hD g1 rfl (fun r hr => by cases hr; exact Or.inr ⟨rfl, rfl⟩) (Or.inl ⟨_, rfl⟩) (j := 3) rfl ?_
  obtain ⟨D2, e2, f2, h⟩ := zl_some (P := fun q => okD q ∧ DLe D q) h ⟨okD_dup (k := 3) hD (okS_R g1 rfl (by decide) rv1), DLe_dup _ _ _ _⟩
  rw [e2]
  refine E_aload_n (pc' := 6) dJx35411_init_45d68_5 rfl rfl ?_
  refine E_objInit (μ := mJx35411_init_45d68) (pc' := 9) dJx35411_init_45d68_6 rfl tq454 tq53 tq54 f2.1 ⟨(dO_le f2.2 g1).1, (dO_le f2.2 g1).2.1⟩ c1_n (cs rfl) ?_
  refine E_aload_n (pc' := 10) dJx35411_init_45d68_9 rfl rfl ?_
  refine X_iconst (pc' := 11) dJx35411_init_45d68_10 rfl ?_
  refine E_putI (pc' := 14) dJx35411_init_45d68_11 rfl FJx35411_13_9 f2.1 (dO_le f2.2 g1) rfl (fun r hr => by cases hr; exact Or.inl rfl) (xFit_int _) (j := 1) rfl ?_
  obtain ⟨D3, e3, f3, h⟩ := zl_some (P := fun q => okD q ∧ DLe D2 q) h ⟨okD_dup (k := 1) f2.1 (okS_I (dO_le f2.2 g1) rfl (by decide) (by decide) (inR_c (n := (-1)) rfl)), DLe_dup _ _ _ _⟩
  rw [e3]
  refine E_aload_n (pc' := 15) dJx35411_init_45d68_14 rfl rfl ?_
  refine E_aload_n (pc' := 16) dJx35411_init_45d68_15 rfl rfl ?_
  refine E_getR (pc' := 19) dJx35411_init_45d68_16 rfl FJx35411_1_9 f3.1 (dO_le f3.2 (dO_le f2.2 g1)) rfl (j := 3) rfl ?_
  obtain ⟨g4, h⟩ := gs h
  refine E_getI (pc' := 22) dJx35411_init_45d68_19 rfl FJx35411_17_8 f3.1 g4 rfl (j := 0) rfl ?_
  refine E_putI (pc' := 25) dJx35411_init_45d68_22 rfl FJx35411_22_9 f3.1 (dO_le f3.2 (dO_le f2.2 g1)) rfl (fun r hr => by cases hr; exact Or.inl rfl) (xFit_int _) (j := 2) rfl ?_
  obtain ⟨D5, e5, f5, h⟩ := zl_some (P := fun q => okD q ∧ DLe D3 q) h ⟨okD_dup (k := 2) f3.1 (okS_I (dO_le f3.2 (dO_le f2.2 g1)) rfl (by decide) (by decide) (in_slot (k := 0) f3.1 g4 rfl (by decide))), DLe_dup _ _ _ _⟩
  rw [e5]
  cases h
  exact X_vret dJx35411_init_45d68_25 rfl (k f5.1 (DLe_trans (DLe_trans f2.2 f3.2) f5.2) trivial)
def fJx4a65c_iterator_32c93 (v0 : Int) (D : DD) : Option (Int × DD) := (if dT D < 600000 ∧ dS D + 4 ≤ 7200000 then (zl (dnew D 10 4) fun D2 => (Option.bind (fJx35411_init_45d68 ((dT D)) (v0) D2) fun D3 => some ((dT D), D3))) else none)
set_option maxRecDepth 100000 in
theorem CJx4a65c_iterator_32c93 {ln : Nat} {D : DD} {z : ZZ} {v0 : Int} (hD : okD D) (rv0 : gdV D v0) {p : Int × DD} (h : fJx4a65c_iterator_32c93 v0 D = some p) : XD mJx4a65c_iterator_32c93 0 (xEnt [rV (v0)] (xL mJx4a65c_iterator_32c93)) [] ln D z (Qd (FdD D p.2 (gdV p.2 p.1)) (.inl (some (rV p.1))) (sD ln p.2 z)) := by
  have k : K_wR (Qd (FdD D p.2 (gdV p.2 p.1)) (.inl (some (rV p.1))) (sD ln p.2 z)) ln D z p := fun a b c => ⟨⟨a, b, c⟩, rfl, rfl⟩
  unfold fJx4a65c_iterator_32c93 at h
  refine E_ent (c1_r c1_n) (M := [some (rV (v0))]) rfl ?_
  obtain ⟨g1, h⟩ := gs h
  refine E_new (c := 9) (n := 4) (pc' := 3) dJx4a65c_iterator_32c93_0 rfl rfl rfl (by decide) tq449 tq450 tq27 hD g1 ?_
  obtain ⟨D2, e2, f2, h⟩ := zl_some (P := fun q => okD q ∧ DLe D q ∧ dO q (dT D) 10) h ⟨okD_dnew hD (by decide) (by decide) g1.1 g1.2, DLe_dnew _ (by decide), dO_dnew hD⟩
  rw [e2]
  refine X_dup (pc' := 4) dJx4a65c_iterator_32c93_3 rfl (rV_cat _) ?_
  refine E_aload_n (pc' := 5) dJx4a65c_iterator_32c93_4 rfl rfl ?_
  obtain ⟨D3, q3, h⟩ := bs h
  refine E_callI (μ := mJx4a65c_iterator_32c93) (μ' := mJx35411_init_45d68) [rV (v0)] (pc' := 8) dJx4a65c_iterator_32c93_5 rfl tq451 IJx4a65c_269 (by decide) ⟨f2.2.2.1, f2.2.2.2.1⟩ rfl (c1_r c1_n) (cs rfl) (c1_r c1_n) (cs rfl) rfl f2.1 (CJx35411_init_45d68 f2.1 (dO_gd f2.2.2 (by decide)) (gdV_le f2.2.1 rv0) q3) (fun a3 b3 f3 => ?_)
  cases h
  exact E_aret dJx4a65c_iterator_32c93_8 rfl (Or.inl ⟨_, rfl⟩) (k a3 (DLe_trans f2.2.1 b3) (gdV_le b3 (dO_gd f2.2.2 (by decide))))
def fJx35411_hasNext_aae02 (v0 : Int) (D : DD) : Option (Int) := (if dO D (v0) 10 then (if dO D ((dW D (v0) 3)) 9 then (if ((dW D (v0) 0)) = ((dW D ((dW D (v0) 3)) 2)) then some (0) else some (1)) else none) else none)
set_option maxRecDepth 100000 in
theorem CJx35411_hasNext_aae02 {ln : Nat} {D : DD} {z : ZZ} {v0 : Int} (hD : okD D) (rv0 : gdV D v0) {p : Int} (h : fJx35411_hasNext_aae02 v0 D = some p) : XD mJx35411_hasNext_aae02 0 (xEnt [rV (v0)] (xL mJx35411_hasNext_aae02)) [] ln D z (Qd (FdD D D (p = 0 ∨ p = 1)) (.inl (some (.int (iN p)))) (sD ln D z)) := by
  have k : K_b (Qd (FdD D D (p = 0 ∨ p = 1)) (.inl (some (.int (iN p)))) (sD ln D z)) ln D z p := fun a => ⟨⟨hD, DLe_refl D, a⟩, rfl, rfl⟩
  unfold fJx35411_hasNext_aae02 at h
  refine E_ent (c1_r c1_n) (M := [some (rV (v0))]) rfl ?_
  refine E_aload_n (pc' := 1) dJx35411_hasNext_aae02_0 rfl rfl ?_
  obtain ⟨g1, h⟩ := gs h
  refine E_getI (pc' := 4) dJx35411_hasNext_aae02_1 rfl FJx35411_25_9 hD g1 rfl (j := 0) rfl ?_
  refine E_aload_n (pc' := 5) dJx35411_hasNext_aae02_4 rfl rfl ?_
  refine E_getR (pc' := 8) dJx35411_hasNext_aae02_5 rfl FJx35411_1_9 hD g1 rfl (j := 3) rfl ?_
  obtain ⟨g2, h⟩ := gs h
  refine E_getI (pc' := 11) dJx35411_hasNext_aae02_8 rfl FJx35411_28_8 hD g2 rfl (j := 2) rfl ?_
  refine X_icmp_eq dJx35411_hasNext_aae02_11 (tgt := 18) rfl (pc' := 14) rfl ⟨(in_slot (k := 0) hD g1 rfl (by decide)).1, (in_slot (k := 0) hD g1 rfl (by decide)).2, (in_slot (k := 2) hD g2 rfl (by decide)).1, (in_slot (k := 2) hD g2 rfl (by decide)).2⟩ (fun c3 => ?_) (fun c3 => ?_)
  · have h := if_t c3 h
    refine X_iconst (pc' := 19) dJx35411_hasNext_aae02_18 rfl ?_
    cases h
    exact X_zret dJx35411_hasNext_aae02_19 rfl (Or.inl rfl) (k (Or.inl rfl))
  have h := if_f c3 h
  refine X_iconst (pc' := 15) dJx35411_hasNext_aae02_14 rfl ?_
  refine X_goto dJx35411_hasNext_aae02_15 (tgt := 19) rfl ?_
  cases h
  exact X_zret dJx35411_hasNext_aae02_19 rfl (Or.inr rfl) (k (Or.inr rfl))
def fX15_hasNext_13 (v0 : Int) (D : DD) : Option (Int) := (if dO D (v0) 13 then (if ((dW D (v0) 0)) = 0 then some (0) else some (1)) else none)
set_option maxRecDepth 100000 in
theorem CX15_hasNext_13 {ln : Nat} {D : DD} {z : ZZ} {v0 : Int} (hD : okD D) (rv0 : gdV D v0) {p : Int} (h : fX15_hasNext_13 v0 D = some p) : XD mX15_hasNext 0 (xEnt [rV (v0)] (xL mX15_hasNext)) [] ln D z (Qd (FdD D D (p = 0 ∨ p = 1)) (.inl (some (.int (iN p)))) (sD ln D z)) := by
  have k : K_b (Qd (FdD D D (p = 0 ∨ p = 1)) (.inl (some (.int (iN p)))) (sD ln D z)) ln D z p := fun a => ⟨⟨hD, DLe_refl D, a⟩, rfl, rfl⟩
  unfold fX15_hasNext_13 at h
  refine E_ent (c1_r c1_n) (M := [some (rV (v0))]) rfl ?_
  refine E_aload_n (pc' := 1) dX15_hasNext_0 rfl rfl ?_
  obtain ⟨g1, h⟩ := gs h
  refine E_getR (pc' := 4) dX15_hasNext_1 rfl FX15_26_12 hD g1 rfl (j := 0) rfl ?_
  refine E_ifnull dX15_hasNext_4 (tgt := 11) rfl (pc' := 7) rfl hD (gd_slot (k := 0) hD g1 rfl (by decide)) (fun c2 => ?_) (fun c2 => ?_)
  · have h := if_t c2 h
    refine X_iconst (pc' := 12) dX15_hasNext_11 rfl ?_
    cases h
    exact X_zret dX15_hasNext_12 rfl (Or.inl rfl) (k (Or.inl rfl))
  have h := if_f c2 h
  refine X_iconst (pc' := 8) dX15_hasNext_7 rfl ?_
  refine X_goto dX15_hasNext_8 (tgt := 12) rfl ?_
  cases h
  exact X_zret dX15_hasNext_12 rfl (Or.inr rfl) (k (Or.inr rfl))
def fX15_hasNext_15 (v0 : Int) (D : DD) : Option (Int) := (if dO D (v0) 15 then (if ((dW D (v0) 0)) = 0 then some (0) else some (1)) else none)
set_option maxRecDepth 100000 in
theorem CX15_hasNext_15 {ln : Nat} {D : DD} {z : ZZ} {v0 : Int} (hD : okD D) (rv0 : gdV D v0) {p : Int} (h : fX15_hasNext_15 v0 D = some p) : XD mX15_hasNext 0 (xEnt [rV (v0)] (xL mX15_hasNext)) [] ln D z (Qd (FdD D D (p = 0 ∨ p = 1)) (.inl (some (.int (iN p)))) (sD ln D z)) := by
  have k : K_b (Qd (FdD D D (p = 0 ∨ p = 1)) (.inl (some (.int (iN p)))) (sD ln D z)) ln D z p := fun a => ⟨⟨hD, DLe_refl D, a⟩, rfl, rfl⟩
  unfold fX15_hasNext_15 at h
  refine E_ent (c1_r c1_n) (M := [some (rV (v0))]) rfl ?_
  refine E_aload_n (pc' := 1) dX15_hasNext_0 rfl rfl ?_
  obtain ⟨g1, h⟩ := gs h
  refine E_getR (pc' := 4) dX15_hasNext_1 rfl FX15_26_14 hD g1 rfl (j := 0) rfl ?_
  refine E_ifnull dX15_hasNext_4 (tgt := 11) rfl (pc' := 7) rfl hD (gd_slot (k := 0) hD g1 rfl (by decide)) (fun c2 => ?_) (fun c2 => ?_)
  · have h := if_t c2 h
    refine X_iconst (pc' := 12) dX15_hasNext_11 rfl ?_
    cases h
    exact X_zret dX15_hasNext_12 rfl (Or.inl rfl) (k (Or.inl rfl))
  have h := if_f c2 h
  refine X_iconst (pc' := 8) dX15_hasNext_7 rfl ?_
  refine X_goto dX15_hasNext_8 (tgt := 12) rfl ?_
  cases h
  exact X_zret dX15_hasNext_12 rfl (Or.inr rfl) (k (Or.inr rfl))
def fJx35411_checkForComodification_da8c8 (v0 : Int) (D : DD) : Option (Unit) := (if dO D (v0) 10 then (if dO D ((dW D (v0) 3)) 9 then (if ((dW D ((dW D (v0) 3)) 0)) = ((dW D (v0) 2)) then some () else none) else none) else none)
set_option maxRecDepth 100000 in
theorem CJx35411_checkForComodification_da8c8 {ln : Nat} {D : DD} {z : ZZ} {v0 : Int} (hD : okD D) (rv0 : gdV D v0) {p : Unit} (h : fJx35411_checkForComodification_da8c8 v0 D = some p) : XD mJx35411_checkForComodification_da8c8 0 (xEnt [rV (v0)] (xL mJx35411_checkForComodification_da8c8)) [] ln D z (Qd (FdD D D (True)) (.inl (none)) (sD ln D z)) := by
  have k : K_v (Qd (FdD D D (True)) (.inl (none)) (sD ln D z)) ln D z p := fun a => ⟨⟨hD, DLe_refl D, a⟩, rfl, rfl⟩
  unfold fJx35411_checkForComodification_da8c8 at h
  refine E_ent (c1_r c1_n) (M := [some (rV (v0))]) rfl ?_
  refine E_aload_n (pc' := 1) dJx35411_checkForComodification_da8c8_0 rfl rfl ?_
  obtain ⟨g1, h⟩ := gs h
  refine E_getR (pc' := 4) dJx35411_checkForComodification_da8c8_1 rfl FJx35411_1_9 hD g1 rfl (j := 3) rfl ?_
  obtain ⟨g2, h⟩ := gs h
  refine E_getI (pc' := 7) dJx35411_checkForComodification_da8c8_4 rfl FJx35411_17_8 hD g2 rfl (j := 0) rfl ?_
  refine E_aload_n (pc' := 8) dJx35411_checkForComodification_da8c8_7 rfl rfl ?_
  refine E_getI (pc' := 11) dJx35411_checkForComodification_da8c8_8 rfl FJx35411_22_9 hD g1 rfl (j := 2) rfl ?_
  refine X_icmp_eq dJx35411_checkForComodification_da8c8_11 (tgt := 22) rfl (pc' := 14) rfl ⟨(in_slot (k := 0) hD g2 rfl (by decide)).1, (in_slot (k := 0) hD g2 rfl (by decide)).2, (in_slot (k := 2) hD g1 rfl (by decide)).1, (in_slot (k := 2) hD g1 rfl (by decide)).2⟩ (fun c3 => ?_) (fun c3 => ?_)
  · have h := if_t c3 h
    cases h
    exact X_vret dJx35411_checkForComodification_da8c8_22 rfl (k trivial)
  have h := if_f c3 h
  cases h
def fJx35411_next_0502b (v0 : Int) (D : DD) : Option (Int × DD) := (Option.bind (fJx35411_checkForComodification_da8c8 (v0) D) fun _u1 => (if dO D (v0) 10 then (if dO D ((dW D (v0) 3)) 9 then (if ((dW D (v0) 0)) < ((dW D ((dW D (v0) 3)) 2)) then (if isArr D ((dW D ((dW D (v0) 3)) 1)) then (if ((dW D (v0) 0)) < ((alen D ((dW D ((dW D (v0) 3)) 1)))) then (if inR (((dW D (v0) 0) + 1)) then (zl (dup D (v0) 0 (((dW D (v0) 0) + 1))) fun D8 => (zl (dup D8 (v0) 1 ((dW D (v0) 0))) fun D9 => (if dO D9 ((dW D ((dW D (v0) 3)) 1)) 22 then (if (0 : Int) ≤ ((dW D (v0) 0)) ∧ ((dW D (v0) 0) : Int) < ((dH D9 ((dW D ((dW D (v0) 3)) 1))).2 : Int) then some ((dW D9 ((dW D ((dW D (v0) 3)) 1)) ((dW D (v0) 0))), D9) else none) else none))) else none) else none) else none) else none) else none) else none))
set_option maxRecDepth 100000 in
theorem CJx35411_next_0502b {ln : Nat} {D : DD} {z : ZZ} {v0 : Int} (hD : okD D) (rv0 : gdV D v0) {p : Int × DD} (h : fJx35411_next_0502b v0 D = some p) : XD mJx35411_next_0502b 0 (xEnt [rV (v0)] (xL mJx35411_next_0502b)) [] ln D z (Qd (FdD D p.2 (gdV p.2 p.1)) (.inl (some (rV p.1))) (sD ln p.2 z)) := by
  have k : K_wR (Qd (FdD D p.2 (gdV p.2 p.1)) (.inl (some (rV p.1))) (sD ln p.2 z)) ln D z p := fun a b c => ⟨⟨a, b, c⟩, rfl, rfl⟩
  unfold fJx35411_next_0502b at h
  refine E_ent (c1_r c1_n) (M := [some (rV (v0)), none, none]) rfl ?_
  refine E_aload_n (pc' := 1) dJx35411_next_0502b_0 rfl rfl ?_
  obtain ⟨u1, q1, h⟩ := bs h
  obtain ⟨g2, h⟩ := gs h
  refine E_callV [] (pc' := 4) dJx35411_next_0502b_1 rfl (xVc VJx35411_31) (by decide) ⟨dO_pos g2, dO_is hD g2 rfl⟩ rfl c1_n (cs rfl) c1_n (cs rfl) rfl hD (CJx35411_checkForComodification_da8c8 hD rv0 q1) (fun a1 b1 f1 => ?_)
  refine E_aload_n (pc' := 5) dJx35411_next_0502b_4 rfl rfl ?_
  refine E_getI (pc' := 8) dJx35411_next_0502b_5 rfl FJx35411_25_9 hD g2 rfl (j := 0) rfl ?_
  refine X_istore_n (pc' := 9) dJx35411_next_0502b_8 rfl (cl rfl) (Or.inr (xC1_R _)) (L' := [some (rV (v0)), some (.int (iN ((dW D (v0) 0)))), none]) rfl ?_
  refine X_iload_n (pc' := 10) dJx35411_next_0502b_9 rfl rfl ?_
  refine E_aload_n (pc' := 11) dJx35411_next_0502b_10 rfl rfl ?_
  refine E_getR (pc' := 14) dJx35411_next_0502b_11 rfl FJx35411_1_9 hD g2 rfl (j := 3) rfl ?_
  obtain ⟨g3, h⟩ := gs h
  refine E_getI (pc' := 17) dJx35411_next_0502b_14 rfl FJx35411_28_8 hD g3 rfl (j := 2) rfl ?_
  refine X_icmp_lt dJx35411_next_0502b_17 (tgt := 28) rfl (pc' := 20) rfl ⟨(in_slot (k := 0) hD g2 rfl (by decide)).1, (in_slot (k := 0) hD g2 rfl (by decide)).2, (in_slot (k := 2) hD g3 rfl (by decide)).1, (in_slot (k := 2) hD g3 rfl (by decide)).2⟩ (fun c4 => ?_) (fun c4 => ?_)
  · have h := if_t c4 h
    refine E_aload_n (pc' := 29) dJx35411_next_0502b_28 rfl rfl ?_
    refine E_getR (pc' := 32) dJx35411_next_0502b_29 rfl FJx35411_1_9 hD g2 rfl (j := 3) rfl ?_
    refine E_getR (pc' := 35) dJx35411_next_0502b_32 rfl FJx35411_37_8 hD g3 rfl (j := 1) rfl ?_
    refine E_astore_n (pc' := 36) dJx35411_next_0502b_35 rfl (cl rfl) (Or.inr rfl) (L' := [some (rV (v0)), some (.int (iN ((dW D (v0) 0)))), some (rV ((dW D ((dW D (v0) 3)) 1)))]) rfl ?_
    refine X_iload_n (pc' := 37) dJx35411_next_0502b_36 rfl rfl ?_
    refine E_aload_n (pc' := 38) dJx35411_next_0502b_37 rfl rfl ?_
    obtain ⟨g5, h⟩ := gs h
    refine E_alenA (pc' := 39) dJx35411_next_0502b_38 rfl hD g5 ?_
    refine X_icmp_lt dJx35411_next_0502b_39 (tgt := 50) rfl (pc' := 42) rfl ⟨(in_slot (k := 0) hD g2 rfl (by decide)).1, (in_slot (k := 0) hD g2 rfl (by decide)).2, (in_alen hD g5).1, (in_alen hD g5).2⟩ (fun c6 => ?_) (fun c6 => ?_)
    · have h := if_t c6 h
      refine E_aload_n (pc' := 51) dJx35411_next_0502b_50 rfl rfl ?_
      refine X_iload_n (pc' := 52) dJx35411_next_0502b_51 rfl rfl ?_
      refine X_iconst (pc' := 53) dJx35411_next_0502b_52 rfl ?_
      refine X_iadd (pc' := 54) dJx35411_next_0502b_53 rfl ?_
      obtain ⟨g7, h⟩ := gs h
      refine E_putI (pc' := 57) dJx35411_next_0502b_54 rfl FJx35411_25_9 hD g2 rfl (fun r hr => by cases hr; exact Or.inl rfl) (xFit_int _) (j := 0) rfl ?_
      obtain ⟨D8, e8, f8, h⟩ := zl_some (P := fun q => okD q ∧ DLe D q) h ⟨okD_dup (k := 0) hD (okS_I g2 rfl (by decide) (by decide) g7), DLe_dup _ _ _ _⟩
      rw [e8]
      refine E_aload_n (pc' := 58) dJx35411_next_0502b_57 rfl rfl ?_
      refine E_aload_n (pc' := 59) dJx35411_next_0502b_58 rfl rfl ?_
      refine X_iload_n (pc' := 60) dJx35411_next_0502b_59 rfl rfl ?_
      refine X_dup_x1 (pc' := 61) dJx35411_next_0502b_60 rfl rfl (rV_cat _) ?_
      refine E_putI (pc' := 64) dJx35411_next_0502b_61 rfl FJx35411_13_9 f8.1 (dO_le f8.2 g2) rfl (fun r hr => by cases hr; exact Or.inl rfl) (xFit_int _) (j := 1) rfl ?_
      obtain ⟨D9, e9, f9, h⟩ := zl_some (P := fun q => okD q ∧ DLe D8 q) h ⟨okD_dup (k := 1) f8.1 (okS_I (dO_le f8.2 g2) rfl (by decide) (by decide) (in_slot (k := 0) hD g2 rfl (by decide))), DLe_dup _ _ _ _⟩
      rw [e9]
      obtain ⟨g10, h⟩ := gs h
      obtain ⟨g11, h⟩ := gs h
      refine E_aald (pc' := 65) dJx35411_next_0502b_64 rfl f9.1 g10 g11 ?_
      cases h
      exact E_aret dJx35411_next_0502b_65 rfl (Or.inl ⟨_, rfl⟩) (k f9.1 (DLe_trans f8.2 f9.2) (Or.inl (gd_at f9.1 g10 g11.1)))
    have h := if_f (Int.not_lt.mpr c6) h
    cases h
  have h := if_f (Int.not_lt.mpr c4) h
  cases h
def fX18_successor_s42 (v1 : Int) (v2 : Int) (D : DD) : Option ((Int × Int) ⊕ (Int)) := (if (v1) = 0 then some (.inr v1) else (if dO D (v1) 12 then (if cmpV D (v2) then (if cmpV D ((dW D (v1) 3)) then (if (v2) = ((dW D (v1) 3)) then some (.inl ((dW D (v1) 4), v1)) else some (.inr v1)) else none) else none) else none))
set_option maxRecDepth 100000 in
theorem SX18_successor_42 {ln : Nat} {D : DD} {z : ZZ} {v1 : Int} {v2 : Int} {Φ : xRes → xS → Prop} (hD : okD D) (rv1 : gdV D v1) (rv2 : gdV D v2) {p : (Int × Int) ⊕ (Int)} (h : fX18_successor_s42 v1 v2 D = some p) (k1 : ∀ (v1' : Int) (v2' : Int), p = .inl (v1', v2') → gdV D v1' → gdV D v2' → XD mX18_successor 42 [none, some (rV (v1')), some (rV (v2'))] [] ln D z Φ) (k2 : ∀ (v1' : Int), p = .inr v1' → gdV D v1' → XD mX18_successor 64 [none, some (rV (v1')), none] [] ln D z Φ) : XD mX18_successor 42 [none, some (rV (v1)), some (rV (v2))] [] ln D z Φ := by
  unfold fX18_successor_s42 at h
  refine E_aload_n (pc' := 43) dX18_successor_42 rfl rfl ?_
  refine E_ifnull dX18_successor_43 (tgt := 64) rfl (pc' := 46) rfl hD rv1 (fun c1 => ?_) (fun c1 => ?_)
  · have h := if_t c1 h
    cases h
    exact X_sub (sub_n (sub_s (sub_n sub_0))) (k2 _ rfl rv1)
  have h := if_f c1 h
  refine E_aload_n (pc' := 47) dX18_successor_46 rfl rfl ?_
  refine E_aload_n (pc' := 48) dX18_successor_47 rfl rfl ?_
  obtain ⟨g2, h⟩ := gs h
  refine E_getR (pc' := 51) dX18_successor_48 rfl FX18_114_11 hD g2 rfl (j := 3) rfl ?_
  obtain ⟨g4, h⟩ := gs h
  obtain ⟨g5, h⟩ := gs h
  refine E_acmp_ne dX18_successor_51 (tgt := 64) rfl (pc' := 54) rfl g4 g5 (fun c3 => ?_) (fun c3 => ?_)
  · have h := if_f c3 h
    cases h
    exact X_sub (sub_n (sub_s (sub_n sub_0))) (k2 _ rfl rv1)
  have h := if_t c3 h
  refine E_aload_n (pc' := 55) dX18_successor_54 rfl rfl ?_
  refine E_astore_n (pc' := 56) dX18_successor_55 rfl (cl rfl) (Or.inr (xC1_R _)) (L' := [none, some (rV (v1)), some (rV (v1))]) rfl ?_
  refine E_aload_n (pc' := 57) dX18_successor_56 rfl rfl ?_
  refine E_getR (pc' := 60) dX18_successor_57 rfl FX18_124_11 hD g2 rfl (j := 4) rfl ?_
  refine E_astore_n (pc' := 61) dX18_successor_60 rfl (cl rfl) (Or.inr rfl) (L' := [none, some (rV ((dW D (v1) 4))), some (rV (v1))]) rfl ?_
  refine X_goto dX18_successor_61 (tgt := 42) rfl ?_
  cases h
  exact X_sub (sub_n (sub_s (sub_s sub_0))) (k1 _ _ rfl (gd_slot (k := 4) hD g2 rfl (by decide)) rv1)
theorem LX18_successor_42 {ln : Nat} {D : DD} {z : ZZ} {Φ : xRes → xS → Prop} {r : Int} : ∀ (n : Nat) (v1 : Int) (v2 : Int), okD D → gdV D v1 → gdV D v2 → zlp (fun q => fX18_successor_s42 q.1 q.2 D) n (v1, v2) = some r → (∀ (v1' : Int), r = v1' → gdV D v1' → XD mX18_successor 64 [none, some (rV (v1')), none] [] ln D z Φ) → XD mX18_successor 42 [none, some (rV (v1)), some (rV (v2))] [] ln D z Φ := by
  intro n
  induction n with
  | zero => intro v1 v2 hD rv1 rv2 h k2; cases h
  | succ n ih =>
    intro v1 v2 hD rv1 rv2 h k2
    rcases zlp_s h with ⟨⟨v1', v2'⟩, e, h'⟩ | e
    · exact SX18_successor_42 hD rv1 rv2 e (fun v1₁ v2₁ hh f0 f1 => by cases hh; exact ih _ _ hD f0 f1 h' k2) (fun x0 hh => by cases hh)
    · exact SX18_successor_42 hD rv1 rv2 e (fun v1₁ v2₁ hh => by cases hh) (fun x0 hh y0 => by cases hh; exact k2 _ rfl y0)
def fX18_successor_s18 (v1 : Int) (D : DD) : Option ((Int) ⊕ (Int)) := (if dO D (v1) 12 then (if ((dW D (v1) 2)) = 0 then some (.inr v1) else some (.inl (dW D (v1) 2))) else none)
set_option maxRecDepth 100000 in
theorem SX18_successor_18 {ln : Nat} {D : DD} {z : ZZ} {v1 : Int} {Φ : xRes → xS → Prop} (hD : okD D) (rv1 : gdV D v1) {p : (Int) ⊕ (Int)} (h : fX18_successor_s18 v1 D = some p) (k1 : ∀ (v1' : Int), p = .inl v1' → gdV D v1' → XD mX18_successor 18 [none, some (rV (v1')), none] [] ln D z Φ) (k2 : ∀ (v1' : Int), p = .inr v1' → gdV D v1' → XD mX18_successor 33 [none, some (rV (v1')), none] [] ln D z Φ) : XD mX18_successor 18 [none, some (rV (v1)), none] [] ln D z Φ := by
  unfold fX18_successor_s18 at h
  refine E_aload_n (pc' := 19) dX18_successor_18 rfl rfl ?_
  obtain ⟨g1, h⟩ := gs h
  refine E_getR (pc' := 22) dX18_successor_19 rfl FX18_111_11 hD g1 rfl (j := 2) rfl ?_
  refine E_ifnull dX18_successor_22 (tgt := 33) rfl (pc' := 25) rfl hD (gd_slot (k := 2) hD g1 rfl (by decide)) (fun c2 => ?_) (fun c2 => ?_)
  · have h := if_t c2 h
    cases h
    exact X_sub (sub_n (sub_s (sub_n sub_0))) (k2 _ rfl rv1)
  have h := if_f c2 h
  refine E_aload_n (pc' := 26) dX18_successor_25 rfl rfl ?_
  refine E_getR (pc' := 29) dX18_successor_26 rfl FX18_111_11 hD g1 rfl (j := 2) rfl ?_
  refine E_astore_n (pc' := 30) dX18_successor_29 rfl (cl rfl) (Or.inr rfl) (L' := [none, some (rV ((dW D (v1) 2))), none]) rfl ?_
  refine X_goto dX18_successor_30 (tgt := 18) rfl ?_
  cases h
  exact X_sub (sub_n (sub_s (sub_n sub_0))) (k1 _ rfl (gd_slot (k := 2) hD g1 rfl (by decide)))
theorem LX18_successor_18 {ln : Nat} {D : DD} {z : ZZ} {Φ : xRes → xS → Prop} {r : Int} : ∀ (n : Nat) (v1 : Int), okD D → gdV D v1 → zlp (fun q => fX18_successor_s18 q D) n v1 = some r → (∀ (v1' : Int), r = v1' → gdV D v1' → XD mX18_successor 33 [none, some (rV (v1')), none] [] ln D z Φ) → XD mX18_successor 18 [none, some (rV (v1)), none] [] ln D z Φ := by
  intro n
  induction n with
  | zero => intro v1 hD rv1 h k2; cases h
  | succ n ih =>
    intro v1 hD rv1 h k2
    rcases zlp_s h with ⟨v1', e, h'⟩ | e
    · exact SX18_successor_18 hD rv1 e (fun v1₁ hh f0 => by cases hh; exact ih _ hD f0 h' k2) (fun x0 hh => by cases hh)
    · exact SX18_successor_18 hD rv1 e (fun v1₁ hh => by cases hh) (fun x0 hh y0 => by cases hh; exact k2 _ rfl y0)
def fX18_successor (v0 : Int) (D : DD) : Option (Int) := (if (v0) = 0 then some (0) else (if dO D (v0) 12 then (if ((dW D (v0) 3)) = 0 then (Option.bind (zlp (fun q => fX18_successor_s42 q.1 q.2 D) FU ((dW D (v0) 4), v0)) fun x4_v1 => some (x4_v1)) else (Option.bind (zlp (fun q => fX18_successor_s18 q D) FU (dW D (v0) 3)) fun x5_v1 => some (x5_v1))) else none))
set_option maxRecDepth 100000 in
theorem CX18_successor {ln : Nat} {D : DD} {z : ZZ} {v0 : Int} (hD : okD D) (rv0 : gdV D v0) {p : Int} (h : fX18_successor v0 D = some p) : XD mX18_successor 0 (xEnt [rV (v0)] (xL mX18_successor)) [] ln D z (Qd (FdD D D (gdV D p)) (.inl (some (rV p))) (sD ln D z)) := by
  have k : K_R (Qd (FdD D D (gdV D p)) (.inl (some (rV p))) (sD ln D z)) ln D z p := fun a => ⟨⟨hD, DLe_refl D, a⟩, rfl, rfl⟩
  unfold fX18_successor at h
  refine E_ent (c1_r c1_n) (M := [some (rV (v0)), none, none]) rfl ?_
  refine E_aload_n (pc' := 1) dX18_successor_0 rfl rfl ?_
  refine E_ifnonnull dX18_successor_1 (tgt := 6) rfl (pc' := 4) rfl hD rv0 (fun c1 => ?_) (fun c1 => ?_)
  · have h := if_f c1 h
    refine E_aload_n (pc' := 7) dX18_successor_6 rfl rfl ?_
    obtain ⟨g2, h⟩ := gs h
    refine E_getR (pc' := 10) dX18_successor_7 rfl FX18_114_11 hD g2 rfl (j := 3) rfl ?_
    refine E_ifnull dX18_successor_10 (tgt := 35) rfl (pc' := 13) rfl hD (gd_slot (k := 3) hD g2 rfl (by decide)) (fun c3 => ?_) (fun c3 => ?_)
    · have h := if_t c3 h
      refine E_aload_n (pc' := 36) dX18_successor_35 rfl rfl ?_
      refine E_getR (pc' := 39) dX18_successor_36 rfl FX18_124_11 hD g2 rfl (j := 4) rfl ?_
      refine E_astore_n (pc' := 40) dX18_successor_39 rfl (cl rfl) (Or.inr (xC1_R _)) (L' := [some (rV (v0)), some (rV ((dW D (v0) 4))), none]) rfl ?_
      refine E_aload_n (pc' := 41) dX18_successor_40 rfl rfl ?_
      refine E_astore_n (pc' := 42) dX18_successor_41 rfl (cl rfl) (Or.inr (xC1_R _)) (L' := [some (rV (v0)), some (rV ((dW D (v0) 4))), some (rV (v0))]) rfl ?_
      obtain ⟨x4_v1, q4, h⟩ := bs h
      refine X_sub (sub_n (sub_s (sub_s sub_0))) (LX18_successor_42 FU _ _ hD (gd_slot (k := 4) hD g2 rfl (by decide)) rv0 q4 (fun x4_v1₁ hh rx4_v1 => ?_))
      cases hh
      refine E_aload_n (pc' := 65) dX18_successor_64 rfl rfl ?_
      cases h
      exact E_aret dX18_successor_65 rfl (Or.inl ⟨_, rfl⟩) (k rx4_v1)
    have h := if_f c3 h
    refine E_aload_n (pc' := 14) dX18_successor_13 rfl rfl ?_
    refine E_getR (pc' := 17) dX18_successor_14 rfl FX18_114_11 hD g2 rfl (j := 3) rfl ?_
    refine E_astore_n (pc' := 18) dX18_successor_17 rfl (cl rfl) (Or.inr (xC1_R _)) (L' := [some (rV (v0)), some (rV ((dW D (v0) 3))), none]) rfl ?_
    obtain ⟨x5_v1, q5, h⟩ := bs h
    refine X_sub (sub_n (sub_s (sub_n sub_0))) (LX18_successor_18 FU _ hD (gd_slot (k := 3) hD g2 rfl (by decide)) q5 (fun x5_v1₁ hh rx5_v1 => ?_))
    cases hh
    refine E_aload_n (pc' := 34) dX18_successor_33 rfl rfl ?_
    cases h
    exact E_aret dX18_successor_34 rfl (Or.inl ⟨_, rfl⟩) (k rx5_v1)
  have h := if_t c1 h
  refine E_null (pc' := 5) dX18_successor_4 rfl ?_
  cases h
  exact E_aret dX18_successor_5 rfl (Or.inl ⟨_, rfl⟩) (k (Or.inl (Or.inl rfl)))
def fX15_nextEntry_13 (v0 : Int) (D : DD) : Option (Int × DD) := (if dO D (v0) 13 then (if ((dW D (v0) 0)) = 0 then none else (if dO D ((dW D (v0) 3)) 11 then (if ((dW D ((dW D (v0) 3)) 5)) = ((dW D (v0) 2)) then (Option.bind (fX18_successor ((dW D (v0) 0)) D) fun r5 => (zl (dup D (v0) 0 (r5)) fun D6 => (zl (dup D6 (v0) 1 ((dW D (v0) 0))) fun D7 => some ((dW D (v0) 0), D7)))) else none) else none)) else none)
set_option maxRecDepth 100000 in
theorem CX15_nextEntry_13 {ln : Nat} {D : DD} {z : ZZ} {v0 : Int} (hD : okD D) (rv0 : gdV D v0) {p : Int × DD} (h : fX15_nextEntry_13 v0 D = some p) : XD mX15_nextEntry 0 (xEnt [rV (v0)] (xL mX15_nextEntry)) [] ln D z (Qd (FdD D p.2 (gdV p.2 p.1)) (.inl (some (rV p.1))) (sD ln p.2 z)) := by
  have k : K_wR (Qd (FdD D p.2 (gdV p.2 p.1)) (.inl (some (rV p.1))) (sD ln p.2 z)) ln D z p := fun a b c => ⟨⟨a, b, c⟩, rfl, rfl⟩
  unfold fX15_nextEntry_13 at h
  refine E_ent (c1_r c1_n) (M := [some (rV (v0)), none]) rfl ?_
  refine E_aload_n (pc' := 1) dX15_nextEntry_0 rfl rfl ?_
  obtain ⟨g1, h⟩ := gs h
  refine E_getR (pc' := 4) dX15_nextEntry_1 rfl FX15_26_12 hD g1 rfl (j := 0) rfl ?_
  refine E_astore_n (pc' := 5) dX15_nextEntry_4 rfl (cl rfl) (Or.inr (xC1_R _)) (L' := [some (rV (v0)), some (rV ((dW D (v0) 0)))]) rfl ?_
  refine E_aload_n (pc' := 6) dX15_nextEntry_5 rfl rfl ?_
  refine E_ifnonnull dX15_nextEntry_6 (tgt := 17) rfl (pc' := 9) rfl hD (gd_slot (k := 0) hD g1 rfl (by decide)) (fun c2 => ?_) (fun c2 => ?_)
  · have h := if_f c2 h
    refine E_aload_n (pc' := 18) dX15_nextEntry_17 rfl rfl ?_
    refine E_getR (pc' := 21) dX15_nextEntry_18 rfl FX15_1_12 hD g1 rfl (j := 3) rfl ?_
    obtain ⟨g3, h⟩ := gs h
    refine E_getI (pc' := 24) dX15_nextEntry_21 rfl FX15_13_10 hD g3 rfl (j := 5) rfl ?_
    refine E_aload_n (pc' := 25) dX15_nextEntry_24 rfl rfl ?_
    refine E_getI (pc' := 28) dX15_nextEntry_25 rfl FX15_19_12 hD g1 rfl (j := 2) rfl ?_
    refine X_icmp_eq dX15_nextEntry_28 (tgt := 39) rfl (pc' := 31) rfl ⟨(in_slot (k := 5) hD g3 rfl (by decide)).1, (in_slot (k := 5) hD g3 rfl (by decide)).2, (in_slot (k := 2) hD g1 rfl (by decide)).1, (in_slot (k := 2) hD g1 rfl (by decide)).2⟩ (fun c4 => ?_) (fun c4 => ?_)
    · have h := if_t c4 h
      refine E_aload_n (pc' := 40) dX15_nextEntry_39 rfl rfl ?_
      refine E_aload_n (pc' := 41) dX15_nextEntry_40 rfl rfl ?_
      obtain ⟨r5, q5, h⟩ := bs h
      refine E_callS [rV ((dW D (v0) 0))] (pc' := 44) dX15_nextEntry_41 rfl (xSn SX15_35) (by decide) rfl (c1_r c1_n) (cs rfl) (c1_r c1_n) (cs rfl) rfl hD (CX18_successor hD (gd_slot (k := 0) hD g1 rfl (by decide)) q5) (fun a5 b5 f5 => ?_)
      refine E_putR (pc' := 47) dX15_nextEntry_44 rfl FX15_26_12 hD g1 rfl (fun r hr => by cases hr; exact Or.inl rfl) (Or.inl ⟨_, rfl⟩) (j := 0) rfl ?_
      obtain ⟨D6, e6, f6, h⟩ := zl_some (P := fun q => okD q ∧ DLe D q) h ⟨okD_dup (k := 0) hD (okS_R g1 rfl (by decide) f5), DLe_dup _ _ _ _⟩
      rw [e6]
      refine E_aload_n (pc' := 48) dX15_nextEntry_47 rfl rfl ?_
      refine E_aload_n (pc' := 49) dX15_nextEntry_48 rfl rfl ?_
      refine E_putR (pc' := 52) dX15_nextEntry_49 rfl FX15_22_12 f6.1 (dO_le f6.2 g1) rfl (fun r hr => by cases hr; exact Or.inl rfl) (Or.inl ⟨_, rfl⟩) (j := 1) rfl ?_
      obtain ⟨D7, e7, f7, h⟩ := zl_some (P := fun q => okD q ∧ DLe D6 q) h ⟨okD_dup (k := 1) f6.1 (okS_R (dO_le f6.2 g1) rfl (by decide) (gdV_le f6.2 (gd_slot (k := 0) hD g1 rfl (by decide)))), DLe_dup _ _ _ _⟩
      rw [e7]
      refine E_aload_n (pc' := 53) dX15_nextEntry_52 rfl rfl ?_
      cases h
      exact E_aret dX15_nextEntry_53 rfl (Or.inl ⟨_, rfl⟩) (k f7.1 (DLe_trans f6.2 f7.2) (gdV_le f7.2 (gdV_le f6.2 (gd_slot (k := 0) hD g1 rfl (by decide)))))
    have h := if_f c4 h
    cases h
  have h := if_t c2 h
  cases h
def fX15_nextEntry_15 (v0 : Int) (D : DD) : Option (Int × DD) := (if dO D (v0) 15 then (if ((dW D (v0) 0)) = 0 then none else (if dO D ((dW D (v0) 3)) 11 then (if ((dW D ((dW D (v0) 3)) 5)) = ((dW D (v0) 2)) then (Option.bind (fX18_successor ((dW D (v0) 0)) D) fun r5 => (zl (dup D (v0) 0 (r5)) fun D6 => (zl (dup D6 (v0) 1 ((dW D (v0) 0))) fun D7 => some ((dW D (v0) 0), D7)))) else none) else none)) else none)
set_option maxRecDepth 100000 in
theorem CX15_nextEntry_15 {ln : Nat} {D : DD} {z : ZZ} {v0 : Int} (hD : okD D) (rv0 : gdV D v0) {p : Int × DD} (h : fX15_nextEntry_15 v0 D = some p) : XD mX15_nextEntry 0 (xEnt [rV (v0)] (xL mX15_nextEntry)) [] ln D z (Qd (FdD D p.2 (gdV p.2 p.1)) (.inl (some (rV p.1))) (sD ln p.2 z)) := by
  have k : K_wR (Qd (FdD D p.2 (gdV p.2 p.1)) (.inl (some (rV p.1))) (sD ln p.2 z)) ln D z p := fun a b c => ⟨⟨a, b, c⟩, rfl, rfl⟩
  unfold fX15_nextEntry_15 at h
  refine E_ent (c1_r c1_n) (M := [some (rV (v0)), none]) rfl ?_
  refine E_aload_n (pc' := 1) dX15_nextEntry_0 rfl rfl ?_
  obtain ⟨g1, h⟩ := gs h
  refine E_getR (pc' := 4) dX15_nextEntry_1 rfl FX15_26_14 hD g1 rfl (j := 0) rfl ?_
  refine E_astore_n (pc' := 5) dX15_nextEntry_4 rfl (cl rfl) (Or.inr (xC1_R _)) (L' := [some (rV (v0)), some (rV ((dW D (v0) 0)))]) rfl ?_
  refine E_aload_n (pc' := 6) dX15_nextEntry_5 rfl rfl ?_
  refine E_ifnonnull dX15_nextEntry_6 (tgt := 17) rfl (pc' := 9) rfl hD (gd_slot (k := 0) hD g1 rfl (by decide)) (fun c2 => ?_) (fun c2 => ?_)
  · have h := if_f c2 h
    refine E_aload_n (pc' := 18) dX15_nextEntry_17 rfl rfl ?_
    refine E_getR (pc' := 21) dX15_nextEntry_18 rfl FX15_1_14 hD g1 rfl (j := 3) rfl ?_
    obtain ⟨g3, h⟩ := gs h
    refine E_getI (pc' := 24) dX15_nextEntry_21 rfl FX15_13_10 hD g3 rfl (j := 5) rfl ?_
    refine E_aload_n (pc' := 25) dX15_nextEntry_24 rfl rfl ?_
    refine E_getI (pc' := 28) dX15_nextEntry_25 rfl FX15_19_14 hD g1 rfl (j := 2) rfl ?_
    refine X_icmp_eq dX15_nextEntry_28 (tgt := 39) rfl (pc' := 31) rfl ⟨(in_slot (k := 5) hD g3 rfl (by decide)).1, (in_slot (k := 5) hD g3 rfl (by decide)).2, (in_slot (k := 2) hD g1 rfl (by decide)).1, (in_slot (k := 2) hD g1 rfl (by decide)).2⟩ (fun c4 => ?_) (fun c4 => ?_)
    · have h := if_t c4 h
      refine E_aload_n (pc' := 40) dX15_nextEntry_39 rfl rfl ?_
      refine E_aload_n (pc' := 41) dX15_nextEntry_40 rfl rfl ?_
      obtain ⟨r5, q5, h⟩ := bs h
      refine E_callS [rV ((dW D (v0) 0))] (pc' := 44) dX15_nextEntry_41 rfl (xSn SX15_35) (by decide) rfl (c1_r c1_n) (cs rfl) (c1_r c1_n) (cs rfl) rfl hD (CX18_successor hD (gd_slot (k := 0) hD g1 rfl (by decide)) q5) (fun a5 b5 f5 => ?_)
      refine E_putR (pc' := 47) dX15_nextEntry_44 rfl FX15_26_14 hD g1 rfl (fun r hr => by cases hr; exact Or.inl rfl) (Or.inl ⟨_, rfl⟩) (j := 0) rfl ?_
      obtain ⟨D6, e6, f6, h⟩ := zl_some (P := fun q => okD q ∧ DLe D q) h ⟨okD_dup (k := 0) hD (okS_R g1 rfl (by decide) f5), DLe_dup _ _ _ _⟩
      rw [e6]
      refine E_aload_n (pc' := 48) dX15_nextEntry_47 rfl rfl ?_
      refine E_aload_n (pc' := 49) dX15_nextEntry_48 rfl rfl ?_
      refine E_putR (pc' := 52) dX15_nextEntry_49 rfl FX15_22_14 f6.1 (dO_le f6.2 g1) rfl (fun r hr => by cases hr; exact Or.inl rfl) (Or.inl ⟨_, rfl⟩) (j := 1) rfl ?_
      obtain ⟨D7, e7, f7, h⟩ := zl_some (P := fun q => okD q ∧ DLe D6 q) h ⟨okD_dup (k := 1) f6.1 (okS_R (dO_le f6.2 g1) rfl (by decide) (gdV_le f6.2 (gd_slot (k := 0) hD g1 rfl (by decide)))), DLe_dup _ _ _ _⟩
      rw [e7]
      refine E_aload_n (pc' := 53) dX15_nextEntry_52 rfl rfl ?_
      cases h
      exact E_aret dX15_nextEntry_53 rfl (Or.inl ⟨_, rfl⟩) (k f7.1 (DLe_trans f6.2 f7.2) (gdV_le f7.2 (gdV_le f6.2 (gd_slot (k := 0) hD g1 rfl (by decide)))))
    have h := if_f c4 h
    cases h
  have h := if_t c2 h
  cases h
def fX13_next (v0 : Int) (D : DD) : Option (Int × DD) := (Option.bind (fX15_nextEntry_13 (v0) D) fun q1 => match q1 with | (r1, D1) => (if dO D (v0) 13 then some (r1, D1) else none))
set_option maxRecDepth 100000 in
theorem CX13_next {ln : Nat} {D : DD} {z : ZZ} {v0 : Int} (hD : okD D) (rv0 : gdV D v0) {p : Int × DD} (h : fX13_next v0 D = some p) : XD mX13_next 0 (xEnt [rV (v0)] (xL mX13_next)) [] ln D z (Qd (FdD D p.2 (gdV p.2 p.1)) (.inl (some (rV p.1))) (sD ln p.2 z)) := by
  have k : K_wR (Qd (FdD D p.2 (gdV p.2 p.1)) (.inl (some (rV p.1))) (sD ln p.2 z)) ln D z p := fun a b c => ⟨⟨a, b, c⟩, rfl, rfl⟩
  unfold fX13_next at h
  refine E_ent (c1_r c1_n) (M := [some (rV (v0))]) rfl ?_
  refine E_aload_n (pc' := 1) dX13_next_0 rfl rfl ?_
  obtain ⟨⟨r1, D1⟩, q1, h⟩ := bs h
  obtain ⟨g2, h⟩ := gs h
  refine E_callU [] (pc' := 4) dX13_next_1 rfl UX13_7 (by decide) ⟨dO_pos g2, dO_is hD g2 rfl⟩ rfl c1_n (cs rfl) c1_n (cs rfl) rfl hD (CX15_nextEntry_13 hD rv0 q1) (fun a1 b1 f1 => ?_)
  cases h
  exact E_aret dX13_next_4 rfl (Or.inl ⟨_, rfl⟩) (k a1 b1 f1)
def fX13_next_ (v0 : Int) (D : DD) : Option (Int × DD) := (Option.bind (fX13_next (v0) D) fun q1 => match q1 with | (r1, D1) => (if dO D (v0) 13 then some (r1, D1) else none))
set_option maxRecDepth 100000 in
theorem CX13_next_ {ln : Nat} {D : DD} {z : ZZ} {v0 : Int} (hD : okD D) (rv0 : gdV D v0) {p : Int × DD} (h : fX13_next_ v0 D = some p) : XD mX13_next_ 0 (xEnt [rV (v0)] (xL mX13_next_)) [] ln D z (Qd (FdD D p.2 (gdV p.2 p.1)) (.inl (some (rV p.1))) (sD ln p.2 z)) := by
  have k : K_wR (Qd (FdD D p.2 (gdV p.2 p.1)) (.inl (some (rV p.1))) (sD ln p.2 z)) ln D z p := fun a b c => ⟨⟨a, b, c⟩, rfl, rfl⟩
  unfold fX13_next_ at h
  refine E_ent (c1_r c1_n) (M := [some (rV (v0))]) rfl ?_
  refine E_aload_n (pc' := 1) dX13_next__0 rfl rfl ?_
  obtain ⟨⟨r1, D1⟩, q1, h⟩ := bs h
  obtain ⟨g2, h⟩ := gs h
  refine E_callV [] (pc' := 4) dX13_next__1 rfl (xVc VX13_13) (by decide) ⟨dO_pos g2, dO_is hD g2 rfl⟩ rfl c1_n (cs rfl) c1_n (cs rfl) rfl hD (CX13_next hD rv0 q1) (fun a1 b1 f1 => ?_)
  cases h
  exact E_aret dX13_next__4 rfl (Or.inl ⟨_, rfl⟩) (k a1 b1 f1)
def fX16_next (v0 : Int) (D : DD) : Option (Int × DD) := (Option.bind (fX15_nextEntry_15 (v0) D) fun q1 => match q1 with | (r1, D1) => (if dO D (v0) 15 then (if dO D1 (r1) 12 then some ((dW D1 (r1) 1), D1) else none) else none))
set_option maxRecDepth 100000 in
theorem CX16_next {ln : Nat} {D : DD} {z : ZZ} {v0 : Int} (hD : okD D) (rv0 : gdV D v0) {p : Int × DD} (h : fX16_next v0 D = some p) : XD mX16_next 0 (xEnt [rV (v0)] (xL mX16_next)) [] ln D z (Qd (FdD D p.2 (gdV p.2 p.1)) (.inl (some (rV p.1))) (sD ln p.2 z)) := by
  have k : K_wR (Qd (FdD D p.2 (gdV p.2 p.1)) (.inl (some (rV p.1))) (sD ln p.2 z)) ln D z p := fun a b c => ⟨⟨a, b, c⟩, rfl, rfl⟩
  unfold fX16_next at h
  refine E_ent (c1_r c1_n) (M := [some (rV (v0))]) rfl ?_
  refine E_aload_n (pc' := 1) dX16_next_0 rfl rfl ?_
  obtain ⟨⟨r1, D1⟩, q1, h⟩ := bs h
  obtain ⟨g2, h⟩ := gs h
  refine E_callU [] (pc' := 4) dX16_next_1 rfl UX16_7 (by decide) ⟨dO_pos g2, dO_is hD g2 rfl⟩ rfl c1_n (cs rfl) c1_n (cs rfl) rfl hD (CX15_nextEntry_15 hD rv0 q1) (fun a1 b1 f1 => ?_)
  obtain ⟨g3, h⟩ := gs h
  refine E_getR (pc' := 7) dX16_next_4 rfl FX16_13_11 a1 g3 rfl (j := 1) rfl ?_
  cases h
  exact E_aret dX16_next_7 rfl (Or.inl ⟨_, rfl⟩) (k a1 b1 (gd_slot (k := 1) a1 g3 rfl (by decide)))
def fJ8_newLength_cabcc_b21 (v0 : Int) (v1 : Int) (D : DD) : Option (Int) := none
set_option maxRecDepth 100000 in
theorem BJ8_newLength_cabcc_21 {ln : Nat} {D : DD} {z : ZZ} {v0 : Int} {v1 : Int} {Φ : xRes → xS → Prop} (hD : okD D) (rv0 : inR v0) (rv1 : inR v1) {p : Int} (h : fJ8_newLength_cabcc_b21 v0 v1 D = some p) (k : K_r Φ ln D z p) : XD mJ8_newLength_cabcc 21 [some (.int (iN (v0))), some (.int (iN (v1))), none, none] [] ln D z Φ := by
  unfold fJ8_newLength_cabcc_b21 at h
  refine X_iload_n (pc' := 22) dJ8_newLength_cabcc_21 rfl rfl ?_
  refine X_iload_n (pc' := 23) dJ8_newLength_cabcc_22 rfl rfl ?_
  cases h
def fJ8_newLength_cabcc (v0 : Int) (v1 : Int) (v2 : Int) (D : DD) : Option (Int) := (if inR ((v0 + (max (v1) (v2)))) then (if (0) < ((v0 + (max (v1) (v2)))) then (if (2147483639) < ((v0 + (max (v1) (v2)))) then fJ8_newLength_cabcc_b21 (v0) (v1) D else some ((v0 + (max (v1) (v2))))) else fJ8_newLength_cabcc_b21 (v0) (v1) D) else none)
set_option maxRecDepth 100000 in
theorem CJ8_newLength_cabcc {ln : Nat} {D : DD} {z : ZZ} {v0 : Int} {v1 : Int} {v2 : Int} (hD : okD D) (rv0 : inR v0) (rv1 : inR v1) (rv2 : inR v2) {p : Int} (h : fJ8_newLength_cabcc v0 v1 v2 D = some p) : XD mJ8_newLength_cabcc 0 (xEnt [.int (iN (v0)), .int (iN (v1)), .int (iN (v2))] (xL mJ8_newLength_cabcc)) [] ln D z (Qd (FdD D D (inR p)) (.inl (some (.int (iN p)))) (sD ln D z)) := by
  have k : K_r (Qd (FdD D D (inR p)) (.inl (some (.int (iN p)))) (sD ln D z)) ln D z p := fun a => ⟨⟨hD, DLe_refl D, a⟩, rfl, rfl⟩
  unfold fJ8_newLength_cabcc at h
  refine E_ent (c1_i (c1_i (c1_i c1_n))) (M := [some (.int (iN (v0))), some (.int (iN (v1))), some (.int (iN (v2))), none]) rfl ?_
  refine X_iload_n (pc' := 1) dJ8_newLength_cabcc_0 rfl rfl ?_
  refine X_iload_n (pc' := 2) dJ8_newLength_cabcc_1 rfl rfl ?_
  refine X_iload_n (pc' := 3) dJ8_newLength_cabcc_2 rfl rfl ?_
  refine X_mmax (pc' := 6) dJ8_newLength_cabcc_3 rfl tq552 tq89 tq5 tq90 (Nat.le_trans (Nat.le_of_eq (cat_sum (c1_i c1_n))) (cs rfl)) ⟨rv1.1, rv1.2, rv2.1, rv2.2⟩ ?_
  refine X_iadd (pc' := 7) dJ8_newLength_cabcc_6 rfl ?_
  refine X_istore_n (pc' := 8) dJ8_newLength_cabcc_7 rfl (cl rfl) (Or.inr rfl) (L' := [some (.int (iN (v0))), some (.int (iN (v1))), some (.int (iN (v2))), some (.int (iN ((v0 + (max (v1) (v2))))))]) rfl ?_
  refine X_iconst (pc' := 9) dJ8_newLength_cabcc_8 rfl ?_
  refine X_iload_n (pc' := 10) dJ8_newLength_cabcc_9 rfl rfl ?_
  obtain ⟨g2, h⟩ := gs h
  refine X_icmp_ge dJ8_newLength_cabcc_10 (tgt := 21) rfl (pc' := 13) rfl ⟨(inR_c (n := 0) rfl).1, (inR_c (n := 0) rfl).2, g2.1, g2.2⟩ (fun c1 => ?_) (fun c1 => ?_)
  · have h := if_f (Int.not_lt.mpr c1) h
    exact X_sub (sub_s (sub_s (sub_n (sub_n sub_0)))) (BJ8_newLength_cabcc_21 hD rv0 rv1 h k)
  have h := if_t c1 h
  refine X_iload_n (pc' := 14) dJ8_newLength_cabcc_13 rfl rfl ?_
  refine X_ldcI (pc' := 16) dJ8_newLength_cabcc_14 rfl tq553 (n := 2147483639) rfl ?_
  refine X_icmp_gt dJ8_newLength_cabcc_16 (tgt := 21) rfl (pc' := 19) rfl ⟨g2.1, g2.2, (inR_c (n := 2147483639) rfl).1, (inR_c (n := 2147483639) rfl).2⟩ (fun c3 => ?_) (fun c3 => ?_)
  · have h := if_t c3 h
    exact X_sub (sub_s (sub_s (sub_n (sub_n sub_0)))) (BJ8_newLength_cabcc_21 hD rv0 rv1 h k)
  have h := if_f (Int.not_lt.mpr c3) h
  refine X_iload_n (pc' := 20) dJ8_newLength_cabcc_19 rfl rfl ?_
  cases h
  exact X_iret dJ8_newLength_cabcc_20 rfl (k g2)
def fJ7_copyOf_6403c_b24 (v0 : Int) (v1 : Int) (s0 : Int) (D : DD) : Option (Int × DD) := (if isArr D (v0) then (if dO D (v0) 22 then (if dO D (s0) 22 then (if (0 : Int) ≤ (0) ∧ (0 : Int) ≤ (0) ∧ 0 ≤ ((min ((alen D (v0))) (v1))) ∧ (0) + ((min ((alen D (v0))) (v1))) ≤ ((dH D (v0)).2 : Int) ∧ (0) + ((min ((alen D (v0))) (v1))) ≤ ((dH D (s0)).2 : Int) then (zl (dcpy D (v0) (s0) (0) (0) ((min ((alen D (v0))) (v1)))) fun D5 => some (s0, D5)) else none) else none) else none) else none)
set_option maxRecDepth 100000 in
theorem BJ7_copyOf_6403c_24 {ln : Nat} {D : DD} {z : ZZ} {v0 : Int} {v1 : Int} {s0 : Int} {Φ : xRes → xS → Prop} (hD : okD D) (rv0 : gdV D v0) (rv1 : inR v1) (rs0 : gdV D s0) {p : Int × DD} (h : fJ7_copyOf_6403c_b24 v0 v1 s0 D = some p) (k : K_wR Φ ln D z p) : XD mJ7_copyOf_6403c 24 [some (rV (v0)), some (.int (iN (v1))), none, none] [rV (s0)] ln D z Φ := by
  unfold fJ7_copyOf_6403c_b24 at h
  refine E_astore_n (pc' := 25) dJ7_copyOf_6403c_24 rfl (cl rfl) (Or.inr rfl) (L' := [some (rV (v0)), some (.int (iN (v1))), none, some (rV (s0))]) rfl ?_
  refine E_aload_n (pc' := 26) dJ7_copyOf_6403c_25 rfl rfl ?_
  refine X_iconst (pc' := 27) dJ7_copyOf_6403c_26 rfl ?_
  refine E_aload_n (pc' := 28) dJ7_copyOf_6403c_27 rfl rfl ?_
  refine X_iconst (pc' := 29) dJ7_copyOf_6403c_28 rfl ?_
  refine E_aload_n (pc' := 30) dJ7_copyOf_6403c_29 rfl rfl ?_
  obtain ⟨g1, h⟩ := gs h
  refine E_alenA (pc' := 31) dJ7_copyOf_6403c_30 rfl hD g1 ?_
  refine X_iload_n (pc' := 32) dJ7_copyOf_6403c_31 rfl rfl ?_
  refine X_mmin (pc' := 35) dJ7_copyOf_6403c_32 rfl tq594 tq363 tq5 tq364 (Nat.le_trans (Nat.le_of_eq (cat_sum (c1_i (c1_r (c1_i (c1_r c1_n)))))) (cs rfl)) ⟨(in_alen hD g1).1, (in_alen hD g1).2, rv1.1, rv1.2⟩ ?_
  obtain ⟨g2, h⟩ := gs h
  obtain ⟨g3, h⟩ := gs h
  obtain ⟨g4, h⟩ := gs h
  refine E_copyO (pc' := 38) dJ7_copyOf_6403c_35 rfl tq595 tq409 tq408 tq12 c1_n (cs rfl) hD g2 g3 g4 ?_
  obtain ⟨D5, e5, f5, h⟩ := zl_some (P := fun q => okD q ∧ DLe D q) h ⟨okD_dcpy hD g2 g3.2.2 (by decide) g4.1, DLe_dcpy _ _ _ _ _ _⟩
  rw [e5]
  refine E_aload_n (pc' := 39) dJ7_copyOf_6403c_38 rfl rfl ?_
  cases h
  exact E_aret dJ7_copyOf_6403c_39 rfl (Or.inr ⟨_, rfl⟩) (k f5.1 f5.2 (gdV_le f5.2 rs0))
def fJ7_copyOf_6403c (v0 : Int) (v1 : Int) (D : DD) : Option (Int × DD) := (if ((0 : Int) ≤ (v1) ∧ (v1 : Int) ≤ 1000000) ∧ dT D < 600000 ∧ dS D + (v1) ≤ 7200000 then (zl (dnew D 22 (v1 : Int).toNat) fun D3 => fJ7_copyOf_6403c_b24 (v0) (v1) ((dT D)) D3) else none)
set_option maxRecDepth 100000 in
theorem CJ7_copyOf_6403c {ln : Nat} {D : DD} {z : ZZ} {v0 : Int} {v1 : Int} (hD : okD D) (rv0 : gdV D v0) (rv1 : inR v1) {p : Int × DD} (h : fJ7_copyOf_6403c v0 v1 D = some p) : XD mJ7_copyOf_6403c 0 (xEnt [rV (v0), .int (iN (v1)), .ref 1000013] (xL mJ7_copyOf_6403c)) [] ln D z (Qd (FdD D p.2 (gdV p.2 p.1)) (.inl (some (rV p.1))) (sD ln p.2 z)) := by
  have k : K_wR (Qd (FdD D p.2 (gdV p.2 p.1)) (.inl (some (rV p.1))) (sD ln p.2 z)) ln D z p := fun a b c => ⟨⟨a, b, c⟩, rfl, rfl⟩
  unfold fJ7_copyOf_6403c at h
  refine E_ent (c1_r (c1_i (c1_f rfl c1_n))) (M := [some (rV (v0)), some (.int (iN (v1))), some (.ref 1000013), none]) rfl ?_
  refine X_aload_n (pc' := 1) dJ7_copyOf_6403c_0 rfl rfl ?_
  refine X_ldcM (pc' := 3) dJ7_copyOf_6403c_1 rfl tq591 ?_
  refine X_acmp_mirror dJ7_copyOf_6403c_3 (tgt := 13) rfl (pc' := 6) rfl ?_
  refine X_iload_n (pc' := 7) dJ7_copyOf_6403c_6 rfl rfl ?_
  obtain ⟨g2, h⟩ := gs h
  refine E_newO (pc' := 10) dJ7_copyOf_6403c_7 rfl tq593 hD g2 ?_
  obtain ⟨D3, e3, f3, h⟩ := zl_some (P := fun q => okD q ∧ DLe D q ∧ (dO q (dT D) 22 ∧ ((dH q (dT D)).2 : Int) = (v1))) h ⟨okD_dnew hD (by decide) (by omega) g2.2.1 (by omega), DLe_dnew _ (by decide), dO_dnew hD, dH_dnew g2.1.1⟩
  rw [e3]
  refine X_goto dJ7_copyOf_6403c_10 (tgt := 24) rfl ?_
  exact X_sub (sub_s (sub_s (sub_n (sub_n sub_0)))) (BJ7_copyOf_6403c_24 f3.1 (gdV_le f3.2.1 rv0) rv1 (dO_gd f3.2.2.1 (by decide)) h (fun a b c => k a (DLe_trans f3.2.1 b) c))
def fJ7_copyOf_1904c (v0 : Int) (v1 : Int) (D : DD) : Option (Int × DD) := (if dO D (v0) 22 then (Option.bind (fJ7_copyOf_6403c (v0) (v1) D) fun q2 => match q2 with | (r2, D2) => some (r2, D2)) else none)
set_option maxRecDepth 100000 in
theorem CJ7_copyOf_1904c {ln : Nat} {D : DD} {z : ZZ} {v0 : Int} {v1 : Int} (hD : okD D) (rv0 : gdV D v0) (rv1 : inR v1) {p : Int × DD} (h : fJ7_copyOf_1904c v0 v1 D = some p) : XD mJ7_copyOf_1904c 0 (xEnt [rV (v0), .int (iN (v1))] (xL mJ7_copyOf_1904c)) [] ln D z (Qd (FdD D p.2 (gdV p.2 p.1)) (.inl (some (rV p.1))) (sD ln p.2 z)) := by
  have k : K_wR (Qd (FdD D p.2 (gdV p.2 p.1)) (.inl (some (rV p.1))) (sD ln p.2 z)) ln D z p := fun a b c => ⟨⟨a, b, c⟩, rfl, rfl⟩
  unfold fJ7_copyOf_1904c at h
  refine E_ent (c1_r (c1_i c1_n)) (M := [some (rV (v0)), some (.int (iN (v1)))]) rfl ?_
  refine E_aload_n (pc' := 1) dJ7_copyOf_1904c_0 rfl rfl ?_
  refine X_iload_n (pc' := 2) dJ7_copyOf_1904c_1 rfl rfl ?_
  refine E_aload_n (pc' := 3) dJ7_copyOf_1904c_2 rfl rfl ?_
  obtain ⟨g1, h⟩ := gs h
  refine E_getC (pc' := 6) dJ7_copyOf_1904c_3 rfl tq560 tq2114 tq2113 tq561 tq587 hD g1 (c1_i (c1_r c1_n)) (cs rfl) ?_
  obtain ⟨⟨r2, D2⟩, q2, h⟩ := bs h
  refine E_callS [rV (v0), .int (iN (v1)), .ref 1000013] (pc' := 9) dJ7_copyOf_1904c_6 rfl (xSn SJ7_300) (by decide) rfl (c1_r (c1_i (c1_f rfl c1_n))) (cs rfl) c1_n (cs rfl) rfl hD (CJ7_copyOf_6403c hD rv0 rv1 q2) (fun a2 b2 f2 => ?_)
  cases h
  exact E_aret dJ7_copyOf_1904c_9 rfl (Or.inr ⟨_, rfl⟩) (k a2 b2 f2)
def fJx4a65c_grow_92f84_b20 (v0 : Int) (v1 : Int) (v2 : Int) (D : DD) : Option (Int × DD) := (if inR ((v1 - v2)) then (Option.bind (fJ8_newLength_cabcc (v2) ((v1 - v2)) ((zshr v2 1)) D) fun r2 => (if dO D (v0) 9 then (Option.bind (fJ7_copyOf_1904c ((dW D (v0) 1)) (r2) D) fun q4 => match q4 with | (r4, D4) => (zl (dup D4 (v0) 1 (r4)) fun D5 => some (r4, D5))) else none)) else none)
set_option maxRecDepth 100000 in
theorem BJx4a65c_grow_92f84_20 {ln : Nat} {D : DD} {z : ZZ} {v0 : Int} {v1 : Int} {v2 : Int} {Φ : xRes → xS → Prop} (hD : okD D) (rv0 : gdV D v0) (rv1 : inR v1) (rv2 : inR v2) {p : Int × DD} (h : fJx4a65c_grow_92f84_b20 v0 v1 v2 D = some p) (k : K_wR Φ ln D z p) : XD mJx4a65c_grow_92f84 20 [some (rV (v0)), some (.int (iN (v1))), some (.int (iN (v2))), none] [] ln D z Φ := by
  unfold fJx4a65c_grow_92f84_b20 at h
  refine X_iload_n (pc' := 21) dJx4a65c_grow_92f84_20 rfl rfl ?_
  refine X_iload_n (pc' := 22) dJx4a65c_grow_92f84_21 rfl rfl ?_
  refine X_iload_n (pc' := 23) dJx4a65c_grow_92f84_22 rfl rfl ?_
  refine X_isub (pc' := 24) dJx4a65c_grow_92f84_23 rfl ?_
  refine X_iload_n (pc' := 25) dJx4a65c_grow_92f84_24 rfl rfl ?_
  refine X_iconst (pc' := 26) dJx4a65c_grow_92f84_25 rfl ?_
  refine X_ishr (pc' := 27) dJx4a65c_grow_92f84_26 rfl ?_
  obtain ⟨g1, h⟩ := gs h
  obtain ⟨r2, q2, h⟩ := bs h
  refine E_callS [.int (iN (v2)), .int (iN ((v1 - v2))), .int (iN ((zshr v2 1)))] (pc' := 30) dJx4a65c_grow_92f84_27 rfl (xSn SJx4a65c_73) (by decide) rfl (c1_i (c1_i (c1_i c1_n))) (cs rfl) c1_n (cs rfl) rfl hD (CJ8_newLength_cabcc hD rv2 g1 (inR_zshr _ _) q2) (fun a2 b2 f2 => ?_)
  refine X_istore_n (pc' := 31) dJx4a65c_grow_92f84_30 rfl (cl rfl) (Or.inr rfl) (L' := [some (rV (v0)), some (.int (iN (v1))), some (.int (iN (v2))), some (.int (iN (r2)))]) rfl ?_
  refine E_aload_n (pc' := 32) dJx4a65c_grow_92f84_31 rfl rfl ?_
  refine E_aload_n (pc' := 33) dJx4a65c_grow_92f84_32 rfl rfl ?_
  obtain ⟨g3, h⟩ := gs h
  refine E_getR (pc' := 36) dJx4a65c_grow_92f84_33 rfl FJx4a65c_9_8 hD g3 rfl (j := 1) rfl ?_
  refine X_iload_n (pc' := 37) dJx4a65c_grow_92f84_36 rfl rfl ?_
  obtain ⟨⟨r4, D4⟩, q4, h⟩ := bs h
  refine E_callS [rV ((dW D (v0) 1)), .int (iN (r2))] (pc' := 40) dJx4a65c_grow_92f84_37 rfl (xSn SJx4a65c_66) (by decide) rfl (c1_r (c1_i c1_n)) (cs rfl) (c1_r c1_n) (cs rfl) rfl hD (CJ7_copyOf_1904c hD (gd_slot (k := 1) hD g3 rfl (by decide)) f2 q4) (fun a4 b4 f4 => ?_)
  refine X_dup_x1 (pc' := 41) dJx4a65c_grow_92f84_40 rfl (rV_cat _) (rV_cat _) ?_
  refine E_putR (pc' := 44) dJx4a65c_grow_92f84_41 rfl FJx4a65c_9_8 a4 (dO_le b4 g3) rfl (fun r hr => by cases hr; exact Or.inl rfl) (Or.inr ⟨_, rfl⟩) (j := 1) rfl ?_
  obtain ⟨D5, e5, f5, h⟩ := zl_some (P := fun q => okD q ∧ DLe D4 q) h ⟨okD_dup (k := 1) a4 (okS_R (dO_le b4 g3) rfl (by decide) f4), DLe_dup _ _ _ _⟩
  rw [e5]
  cases h
  exact E_aret dJx4a65c_grow_92f84_44 rfl (Or.inr ⟨_, rfl⟩) (k f5.1 (DLe_trans b4 f5.2) (gdV_le f5.2 f4))
def fJx4a65c_grow_92f84 (v0 : Int) (v1 : Int) (D : DD) : Option (Int × DD) := (if dO D (v0) 9 then (if isArr D ((dW D (v0) 1)) then (if (0) < ((alen D ((dW D (v0) 1)))) then fJx4a65c_grow_92f84_b20 (v0) (v1) ((alen D ((dW D (v0) 1)))) D else (if cmpV D ((dW D (v0) 1)) then (if cmpV D (1000012) then (if ((dW D (v0) 1)) = (1000012) then (if ((0 : Int) ≤ ((max (10) (v1))) ∧ ((max (10) (v1)) : Int) ≤ 1000000) ∧ dT D < 600000 ∧ dS D + ((max (10) (v1))) ≤ 7200000 then (zl (dnew D 22 ((max (10) (v1)) : Int).toNat) fun D8 => (zl (dup D8 (v0) 1 ((dT D))) fun D9 => some ((dT D), D9))) else none) else fJx4a65c_grow_92f84_b20 (v0) (v1) ((alen D ((dW D (v0) 1)))) D) else none) else none)) else none) else none)
set_option maxRecDepth 100000 in
theorem CJx4a65c_grow_92f84 {ln : Nat} {D : DD} {z : ZZ} {v0 : Int} {v1 : Int} (hD : okD D) (rv0 : gdV D v0) (rv1 : inR v1) {p : Int × DD} (h : fJx4a65c_grow_92f84 v0 v1 D = some p) : XD mJx4a65c_grow_92f84 0 (xEnt [rV (v0), .int (iN (v1))] (xL mJx4a65c_grow_92f84)) [] ln D z (Qd (FdD D p.2 (gdV p.2 p.1)) (.inl (some (rV p.1))) (sD ln p.2 z)) := by
  have k : K_wR (Qd (FdD D p.2 (gdV p.2 p.1)) (.inl (some (rV p.1))) (sD ln p.2 z)) ln D z p := fun a b c => ⟨⟨a, b, c⟩, rfl, rfl⟩
  unfold fJx4a65c_grow_92f84 at h
  refine E_ent (c1_r (c1_i c1_n)) (M := [some (rV (v0)), some (.int (iN (v1))), none, none]) rfl ?_
  refine E_aload_n (pc' := 1) dJx4a65c_grow_92f84_0 rfl rfl ?_
  obtain ⟨g1, h⟩ := gs h
  refine E_getR (pc' := 4) dJx4a65c_grow_92f84_1 rfl FJx4a65c_9_8 hD g1 rfl (j := 1) rfl ?_
  obtain ⟨g2, h⟩ := gs h
  refine E_alenA (pc' := 5) dJx4a65c_grow_92f84_4 rfl hD g2 ?_
  refine X_istore_n (pc' := 6) dJx4a65c_grow_92f84_5 rfl (cl rfl) (Or.inr rfl) (L' := [some (rV (v0)), some (.int (iN (v1))), some (.int (iN ((alen D ((dW D (v0) 1)))))), none]) rfl ?_
  refine X_iload_n (pc' := 7) dJx4a65c_grow_92f84_6 rfl rfl ?_
  refine X_if_gt dJx4a65c_grow_92f84_7 (tgt := 20) rfl (pc' := 10) rfl (in_alen hD g2) (fun c3 => ?_) (fun c3 => ?_)
  · have h := if_t c3 h
    exact X_sub (sub_s (sub_s (sub_s (sub_n sub_0)))) (BJx4a65c_grow_92f84_20 hD rv0 rv1 (in_alen hD g2) h (fun a b c => k a (DLe_trans (DLe_refl _) b) c))
  have h := if_f (Int.not_lt.mpr c3) h
  refine E_aload_n (pc' := 11) dJx4a65c_grow_92f84_10 rfl rfl ?_
  refine E_getR (pc' := 14) dJx4a65c_grow_92f84_11 rfl FJx4a65c_9_8 hD g1 rfl (j := 1) rfl ?_
  refine E_gets (v := 1000012) (pc' := 17) dJx4a65c_grow_92f84_14 rfl (List.mem_of_getElem? (i := 5) rfl) tq428 rfl ?_
  obtain ⟨g5, h⟩ := gs h
  obtain ⟨g6, h⟩ := gs h
  refine E_acmp_eq dJx4a65c_grow_92f84_17 (tgt := 45) rfl (pc' := 20) rfl g5 g6 (fun c4 => ?_) (fun c4 => ?_)
  · have h := if_t c4 h
    refine E_aload_n (pc' := 46) dJx4a65c_grow_92f84_45 rfl rfl ?_
    refine X_bipush (pc' := 48) dJx4a65c_grow_92f84_46 rfl (by decide) ?_
    refine X_iload_n (pc' := 49) dJx4a65c_grow_92f84_48 rfl rfl ?_
    refine X_mmax (pc' := 52) dJx4a65c_grow_92f84_49 rfl tq596 tq89 tq5 tq90 (Nat.le_trans (Nat.le_of_eq (cat_sum (c1_r c1_n))) (cs rfl)) ⟨(inR_c (n := 10) rfl).1, (inR_c (n := 10) rfl).2, rv1.1, rv1.2⟩ ?_
    obtain ⟨g7, h⟩ := gs h
    refine E_newO (pc' := 55) dJx4a65c_grow_92f84_52 rfl tq597 hD g7 ?_
    obtain ⟨D8, e8, f8, h⟩ := zl_some (P := fun q => okD q ∧ DLe D q ∧ (dO q (dT D) 22 ∧ ((dH q (dT D)).2 : Int) = ((max (10) (v1))))) h ⟨okD_dnew hD (by decide) (by omega) g7.2.1 (by omega), DLe_dnew _ (by decide), dO_dnew hD, dH_dnew g7.1.1⟩
    rw [e8]
    refine X_dup_x1 (pc' := 56) dJx4a65c_grow_92f84_55 rfl (rV_cat _) (rV_cat _) ?_
    refine E_putR (pc' := 59) dJx4a65c_grow_92f84_56 rfl FJx4a65c_9_8 f8.1 (dO_le f8.2.1 g1) rfl (fun r hr => by cases hr; exact Or.inl rfl) (Or.inr ⟨_, rfl⟩) (j := 1) rfl ?_
    obtain ⟨D9, e9, f9, h⟩ := zl_some (P := fun q => okD q ∧ DLe D8 q) h ⟨okD_dup (k := 1) f8.1 (okS_R (dO_le f8.2.1 g1) rfl (by decide) (dO_gd f8.2.2.1 (by decide))), DLe_dup _ _ _ _⟩
    rw [e9]
    cases h
    exact E_aret dJx4a65c_grow_92f84_59 rfl (Or.inr ⟨_, rfl⟩) (k f9.1 (DLe_trans f8.2.1 f9.2) (gdV_le f9.2 (dO_gd f8.2.2.1 (by decide))))
  have h := if_f c4 h
  exact X_sub (sub_s (sub_s (sub_s (sub_n sub_0)))) (BJx4a65c_grow_92f84_20 hD rv0 rv1 (in_alen hD g2) h (fun a b c => k a (DLe_trans (DLe_refl _) b) c))
def fJx4a65c_grow_d5877 (v0 : Int) (D : DD) : Option (Int × DD) := (if dO D (v0) 9 then (if inR (((dW D (v0) 2) + 1)) then (Option.bind (fJx4a65c_grow_92f84 (v0) (((dW D (v0) 2) + 1)) D) fun q3 => match q3 with | (r3, D3) => some (r3, D3)) else none) else none)
set_option maxRecDepth 100000 in
theorem CJx4a65c_grow_d5877 {ln : Nat} {D : DD} {z : ZZ} {v0 : Int} (hD : okD D) (rv0 : gdV D v0) {p : Int × DD} (h : fJx4a65c_grow_d5877 v0 D = some p) : XD mJx4a65c_grow_d5877 0 (xEnt [rV (v0)] (xL mJx4a65c_grow_d5877)) [] ln D z (Qd (FdD D p.2 (gdV p.2 p.1)) (.inl (some (rV p.1))) (sD ln p.2 z)) := by
  have k : K_wR (Qd (FdD D p.2 (gdV p.2 p.1)) (.inl (some (rV p.1))) (sD ln p.2 z)) ln D z p := fun a b c => ⟨⟨a, b, c⟩, rfl, rfl⟩
  unfold fJx4a65c_grow_d5877 at h
  refine E_ent (c1_r c1_n) (M := [some (rV (v0))]) rfl ?_
  refine E_aload_n (pc' := 1) dJx4a65c_grow_d5877_0 rfl rfl ?_
  refine E_aload_n (pc' := 2) dJx4a65c_grow_d5877_1 rfl rfl ?_
  obtain ⟨g1, h⟩ := gs h
  refine E_getI (pc' := 5) dJx4a65c_grow_d5877_2 rfl FJx4a65c_48_8 hD g1 rfl (j := 2) rfl ?_
  refine X_iconst (pc' := 6) dJx4a65c_grow_d5877_5 rfl ?_
  refine X_iadd (pc' := 7) dJx4a65c_grow_d5877_6 rfl ?_
  obtain ⟨g2, h⟩ := gs h
  obtain ⟨⟨r3, D3⟩, q3, h⟩ := bs h
  refine E_callV [.int (iN (((dW D (v0) 2) + 1)))] (pc' := 10) dJx4a65c_grow_d5877_7 rfl (xVc VJx4a65c_69) (by decide) ⟨dO_pos g1, dO_is hD g1 rfl⟩ rfl (c1_i c1_n) (cs rfl) c1_n (cs rfl) rfl hD (CJx4a65c_grow_92f84 hD rv0 g2 q3) (fun a3 b3 f3 => ?_)
  cases h
  exact E_aret dJx4a65c_grow_d5877_10 rfl (Or.inr ⟨_, rfl⟩) (k a3 b3 f3)
def fJx4a65c_add_72be8_b11 (v0 : Int) (v1 : Int) (v2 : Int) (v3 : Int) (D : DD) : Option (DD) := (if dO D (v2) 22 then (if (0 : Int) ≤ (v3) ∧ (v3 : Int) < ((dH D (v2)).2 : Int) then (if gdE D (v1) then (zl (dup D (v2) (v3) (v1)) fun D4 => (if dO D4 (v0) 9 then (if inR ((v3 + 1)) then (zl (dup D4 (v0) 2 ((v3 + 1))) fun D7 => some D7) else none) else none)) else none) else none) else none)
set_option maxRecDepth 100000 in
theorem BJx4a65c_add_72be8_11 {ln : Nat} {D : DD} {z : ZZ} {v0 : Int} {v1 : Int} {v2 : Int} {v3 : Int} {Φ : xRes → xS → Prop} (hD : okD D) (rv0 : gdV D v0) (rv1 : gdV D v1) (rv2 : gdV D v2) (rv3 : inR v3) {p : DD} (h : fJx4a65c_add_72be8_b11 v0 v1 v2 v3 D = some p) (k : K_w Φ ln D z p) : XD mJx4a65c_add_72be8 11 [some (rV (v0)), some (rV (v1)), some (rV (v2)), some (.int (iN (v3)))] [] ln D z Φ := by
  unfold fJx4a65c_add_72be8_b11 at h
  refine E_aload_n (pc' := 12) dJx4a65c_add_72be8_11 rfl rfl ?_
  refine X_iload_n (pc' := 13) dJx4a65c_add_72be8_12 rfl rfl ?_
  refine E_aload_n (pc' := 14) dJx4a65c_add_72be8_13 rfl rfl ?_
  obtain ⟨g1, h⟩ := gs h
  obtain ⟨g2, h⟩ := gs h
  obtain ⟨g3, h⟩ := gs h
  refine E_aast (pc' := 15) dJx4a65c_add_72be8_14 rfl hD g1 g2 g3 ?_
  obtain ⟨D4, e4, f4, h⟩ := zl_some (P := fun q => okD q ∧ DLe D q) h ⟨okD_dupJ hD g2.1 (okS_at22 g1 g3), DLe_dup _ _ _ _⟩
  rw [e4]
  refine E_aload_n (pc' := 16) dJx4a65c_add_72be8_15 rfl rfl ?_
  refine X_iload_n (pc' := 17) dJx4a65c_add_72be8_16 rfl rfl ?_
  refine X_iconst (pc' := 18) dJx4a65c_add_72be8_17 rfl ?_
  refine X_iadd (pc' := 19) dJx4a65c_add_72be8_18 rfl ?_
  obtain ⟨g5, h⟩ := gs h
  obtain ⟨g6, h⟩ := gs h
  refine E_putI (pc' := 22) dJx4a65c_add_72be8_19 rfl FJx4a65c_48_8 f4.1 g5 rfl (fun r hr => by cases hr; exact Or.inl rfl) (xFit_int _) (j := 2) rfl ?_
  obtain ⟨D7, e7, f7, h⟩ := zl_some (P := fun q => okD q ∧ DLe D4 q) h ⟨okD_dup (k := 2) f4.1 (okS_I g5 rfl (by decide) (by decide) g6), DLe_dup _ _ _ _⟩
  rw [e7]
  cases h
  exact X_vret dJx4a65c_add_72be8_22 rfl (k f7.1 (DLe_trans f4.2 f7.2) trivial)
def fJx4a65c_add_72be8 (v0 : Int) (v1 : Int) (v2 : Int) (v3 : Int) (D : DD) : Option (DD) := (if isArr D (v2) then (if (v3) = ((alen D (v2))) then (Option.bind (fJx4a65c_grow_d5877 (v0) D) fun q3 => match q3 with | (r3, D3) => (if dO D (v0) 9 then fJx4a65c_add_72be8_b11 (v0) (v1) (r3) (v3) D3 else none)) else fJx4a65c_add_72be8_b11 (v0) (v1) (v2) (v3) D) else none)
set_option maxRecDepth 100000 in
theorem CJx4a65c_add_72be8 {ln : Nat} {D : DD} {z : ZZ} {v0 : Int} {v1 : Int} {v2 : Int} {v3 : Int} (hD : okD D) (rv0 : gdV D v0) (rv1 : gdV D v1) (rv2 : gdV D v2) (rv3 : inR v3) {p : DD} (h : fJx4a65c_add_72be8 v0 v1 v2 v3 D = some p) : XD mJx4a65c_add_72be8 0 (xEnt [rV (v0), rV (v1), rV (v2), .int (iN (v3))] (xL mJx4a65c_add_72be8)) [] ln D z (Qd (FdD D p (True)) (.inl (none)) (sD ln p z)) := by
  have k : K_w (Qd (FdD D p (True)) (.inl (none)) (sD ln p z)) ln D z p := fun a b c => ⟨⟨a, b, c⟩, rfl, rfl⟩
  unfold fJx4a65c_add_72be8 at h
  refine E_ent (c1_r (c1_r (c1_r (c1_i c1_n)))) (M := [some (rV (v0)), some (rV (v1)), some (rV (v2)), some (.int (iN (v3)))]) rfl ?_
  refine X_iload_n (pc' := 1) dJx4a65c_add_72be8_0 rfl rfl ?_
  refine E_aload_n (pc' := 2) dJx4a65c_add_72be8_1 rfl rfl ?_
  obtain ⟨g1, h⟩ := gs h
  refine E_alenA (pc' := 3) dJx4a65c_add_72be8_2 rfl hD g1 ?_
  refine X_icmp_ne dJx4a65c_add_72be8_3 (tgt := 11) rfl (pc' := 6) rfl ⟨rv3.1, rv3.2, (in_alen hD g1).1, (in_alen hD g1).2⟩ (fun c2 => ?_) (fun c2 => ?_)
  · have h := if_f c2 h
    exact X_sub (sub_s (sub_s (sub_s (sub_s sub_0)))) (BJx4a65c_add_72be8_11 hD rv0 rv1 rv2 rv3 h (fun a b c => k a (DLe_trans (DLe_refl _) b) c))
  have h := if_t c2 h
  refine E_aload_n (pc' := 7) dJx4a65c_add_72be8_6 rfl rfl ?_
  obtain ⟨⟨r3, D3⟩, q3, h⟩ := bs h
  obtain ⟨g4, h⟩ := gs h
  refine E_callV [] (pc' := 10) dJx4a65c_add_72be8_7 rfl (xVc VJx4a65c_129) (by decide) ⟨dO_pos g4, dO_is hD g4 rfl⟩ rfl c1_n (cs rfl) c1_n (cs rfl) rfl hD (CJx4a65c_grow_d5877 hD rv0 q3) (fun a3 b3 f3 => ?_)
  refine E_astore_n (pc' := 11) dJx4a65c_add_72be8_10 rfl (cl rfl) (Or.inr (xC1_R _)) (L' := [some (rV (v0)), some (rV (v1)), some (rV (r3)), some (.int (iN (v3)))]) rfl ?_
  exact X_sub (sub_s (sub_s (sub_s (sub_s sub_0)))) (BJx4a65c_add_72be8_11 a3 (gdV_le b3 rv0) (gdV_le b3 rv1) f3 rv3 h (fun a b c => k a (DLe_trans b3 b) c))
def fJx4a65c_add_9ea2d (v0 : Int) (v1 : Int) (D : DD) : Option (Int × DD) := (if dO D (v0) 9 then (if inR (((dW D (v0) 0) + 1)) then (zl (dup D (v0) 0 (((dW D (v0) 0) + 1))) fun D3 => (Option.bind (fJx4a65c_add_72be8 (v0) (v1) ((dW D3 (v0) 1)) ((dW D3 (v0) 2)) D3) fun D4 => some (1, D4))) else none) else none)
set_option maxRecDepth 100000 in
theorem CJx4a65c_add_9ea2d {ln : Nat} {D : DD} {z : ZZ} {v0 : Int} {v1 : Int} (hD : okD D) (rv0 : gdV D v0) (rv1 : gdV D v1) {p : Int × DD} (h : fJx4a65c_add_9ea2d v0 v1 D = some p) : XD mJx4a65c_add_9ea2d 0 (xEnt [rV (v0), rV (v1)] (xL mJx4a65c_add_9ea2d)) [] ln D z (Qd (FdD D p.2 (p.1 = 0 ∨ p.1 = 1)) (.inl (some (.int (iN p.1)))) (sD ln p.2 z)) := by
  have k : K_wb (Qd (FdD D p.2 (p.1 = 0 ∨ p.1 = 1)) (.inl (some (.int (iN p.1)))) (sD ln p.2 z)) ln D z p := fun a b c => ⟨⟨a, b, c⟩, rfl, rfl⟩
  unfold fJx4a65c_add_9ea2d at h
  refine E_ent (c1_r (c1_r c1_n)) (M := [some (rV (v0)), some (rV (v1))]) rfl ?_
  refine E_aload_n (pc' := 1) dJx4a65c_add_9ea2d_0 rfl rfl ?_
  refine X_dup (pc' := 2) dJx4a65c_add_9ea2d_1 rfl (rV_cat _) ?_
  obtain ⟨g1, h⟩ := gs h
  refine E_getI (pc' := 5) dJx4a65c_add_9ea2d_2 rfl FJx4a65c_63_8 hD g1 rfl (j := 0) rfl ?_
  refine X_iconst (pc' := 6) dJx4a65c_add_9ea2d_5 rfl ?_
  refine X_iadd (pc' := 7) dJx4a65c_add_9ea2d_6 rfl ?_
  obtain ⟨g2, h⟩ := gs h
  refine E_putI (pc' := 10) dJx4a65c_add_9ea2d_7 rfl FJx4a65c_63_8 hD g1 rfl (fun r hr => by cases hr; exact Or.inl rfl) (xFit_int _) (j := 0) rfl ?_
  obtain ⟨D3, e3, f3, h⟩ := zl_some (P := fun q => okD q ∧ DLe D q) h ⟨okD_dup (k := 0) hD (okS_I g1 rfl (by decide) (by decide) g2), DLe_dup _ _ _ _⟩
  rw [e3]
  refine E_aload_n (pc' := 11) dJx4a65c_add_9ea2d_10 rfl rfl ?_
  refine E_aload_n (pc' := 12) dJx4a65c_add_9ea2d_11 rfl rfl ?_
  refine E_aload_n (pc' := 13) dJx4a65c_add_9ea2d_12 rfl rfl ?_
  refine E_getR (pc' := 16) dJx4a65c_add_9ea2d_13 rfl FJx4a65c_9_8 f3.1 (dO_le f3.2 g1) rfl (j := 1) rfl ?_
  refine E_aload_n (pc' := 17) dJx4a65c_add_9ea2d_16 rfl rfl ?_
  refine E_getI (pc' := 20) dJx4a65c_add_9ea2d_17 rfl FJx4a65c_48_8 f3.1 (dO_le f3.2 g1) rfl (j := 2) rfl ?_
  obtain ⟨D4, q4, h⟩ := bs h
  refine E_callV [rV (v1), rV ((dW D3 (v0) 1)), .int (iN ((dW D3 (v0) 2)))] (pc' := 23) dJx4a65c_add_9ea2d_20 rfl (xVc VJx4a65c_131) (by decide) ⟨dO_pos (dO_le f3.2 g1), dO_is f3.1 (dO_le f3.2 g1) rfl⟩ rfl (c1_r (c1_r (c1_i c1_n))) (cs rfl) c1_n (cs rfl) rfl f3.1 (CJx4a65c_add_72be8 f3.1 (gdV_le f3.2 rv0) (gdV_le f3.2 rv1) (gd_slot (k := 1) f3.1 (dO_le f3.2 g1) rfl (by decide)) (in_slot (k := 2) f3.1 (dO_le f3.2 g1) rfl (by decide)) q4) (fun a4 b4 f4 => ?_)
  refine X_iconst (pc' := 24) dJx4a65c_add_9ea2d_23 rfl ?_
  cases h
  exact X_zret dJx4a65c_add_9ea2d_24 rfl (Or.inr rfl) (k a4 (DLe_trans f3.2 b4) (Or.inr rfl))
def fX9_init (v0 : Int) (D : DD) : Option (Unit) := (if (151 : Int) ≤ (v0) ∧ (v0 : Int) < dT D ∧ True then some () else none)
set_option maxRecDepth 100000 in
theorem CX9_init {ln : Nat} {D : DD} {z : ZZ} {v0 : Int} (hD : okD D) (rv0 : gdV D v0) {p : Unit} (h : fX9_init v0 D = some p) : XD mX9_init 0 (xEnt [rV (v0)] (xL mX9_init)) [] ln D z (Qd (FdD D D (True)) (.inl (none)) (sD ln D z)) := by
  have k : K_v (Qd (FdD D D (True)) (.inl (none)) (sD ln D z)) ln D z p := fun a => ⟨⟨hD, DLe_refl D, a⟩, rfl, rfl⟩
  unfold fX9_init at h
  refine E_ent (c1_r c1_n) (M := [some (rV (v0))]) rfl ?_
  refine E_aload_n (pc' := 1) dX9_init_0 rfl rfl ?_
  obtain ⟨g1, h⟩ := gs h
  refine E_objInit (μ := mX9_init) (pc' := 4) dX9_init_1 rfl tq617 tq53 tq54 hD ⟨g1.1, g1.2.1⟩ c1_n (cs rfl) ?_
  cases h
  exact X_vret dX9_init_4 rfl (k trivial)
def fX18_init (v0 : Int) (D : DD) : Option (DD) := (Option.bind (fX9_init (v0) D) fun _u1 => (if (151 : Int) ≤ (v0) ∧ (v0 : Int) < dT D ∧ True then (if dO D (v0) 11 then (zl (dup D (v0) 4 (0)) fun D4 => (zl (dup D4 (v0) 5 (0)) fun D5 => (zl (dup D5 (v0) 2 (0)) fun D6 => some D6))) else none) else none))
set_option maxRecDepth 100000 in
theorem CX18_init {ln : Nat} {D : DD} {z : ZZ} {v0 : Int} (hD : okD D) (rv0 : gdV D v0) {p : DD} (h : fX18_init v0 D = some p) : XD mX18_init 0 (xEnt [rV (v0)] (xL mX18_init)) [] ln D z (Qd (FdD D p (True)) (.inl (none)) (sD ln p z)) := by
  have k : K_w (Qd (FdD D p (True)) (.inl (none)) (sD ln p z)) ln D z p := fun a b c => ⟨⟨a, b, c⟩, rfl, rfl⟩
  unfold fX18_init at h
  refine E_ent (c1_r c1_n) (M := [some (rV (v0))]) rfl ?_
  refine E_aload_n (pc' := 1) dX18_init_0 rfl rfl ?_
  obtain ⟨u1, q1, h⟩ := bs h
  obtain ⟨g2, h⟩ := gs h
  refine E_callI (μ := mX18_init) (μ' := mX9_init) [] (pc' := 4) dX18_init_1 rfl tq614 IX18_1 (by decide) ⟨g2.1, g2.2.1⟩ rfl c1_n (cs rfl) c1_n (cs rfl) rfl hD (CX9_init hD rv0 q1) (fun a1 b1 f1 => ?_)
  refine E_aload_n (pc' := 5) dX18_init_4 rfl rfl ?_
  refine X_iconst (pc' := 6) dX18_init_5 rfl ?_
  obtain ⟨g3, h⟩ := gs h
  refine E_putI (pc' := 9) dX18_init_6 rfl FX18_7_10 hD g3 rfl (fun r hr => by cases hr; exact Or.inl rfl) (xFit_int _) (j := 4) rfl ?_
  obtain ⟨D4, e4, f4, h⟩ := zl_some (P := fun q => okD q ∧ DLe D q) h ⟨okD_dup (k := 4) hD (okS_I g3 rfl (by decide) (by decide) (inR_c (n := 0) rfl)), DLe_dup _ _ _ _⟩
  rw [e4]
  refine E_aload_n (pc' := 10) dX18_init_9 rfl rfl ?_
  refine X_iconst (pc' := 11) dX18_init_10 rfl ?_
  refine E_putI (pc' := 14) dX18_init_11 rfl FX18_13_10 f4.1 (dO_le f4.2 g3) rfl (fun r hr => by cases hr; exact Or.inl rfl) (xFit_int _) (j := 5) rfl ?_
  obtain ⟨D5, e5, f5, h⟩ := zl_some (P := fun q => okD q ∧ DLe D4 q) h ⟨okD_dup (k := 5) f4.1 (okS_I (dO_le f4.2 g3) rfl (by decide) (by decide) (inR_c (n := 0) rfl)), DLe_dup _ _ _ _⟩
  rw [e5]
  refine E_aload_n (pc' := 15) dX18_init_14 rfl rfl ?_
  refine E_null (pc' := 16) dX18_init_15 rfl ?_
  refine E_putR (pc' := 19) dX18_init_16 rfl FX18_16_10 f5.1 (dO_le f5.2 (dO_le f4.2 g3)) rfl (fun r hr => by cases hr; exact Or.inr ⟨rfl, rfl⟩) (Or.inl ⟨_, rfl⟩) (j := 2) rfl ?_
  obtain ⟨D6, e6, f6, h⟩ := zl_some (P := fun q => okD q ∧ DLe D5 q) h ⟨okD_dup (k := 2) f5.1 (okS_R (dO_le f5.2 (dO_le f4.2 g3)) rfl (by decide) (Or.inl (Or.inl rfl))), DLe_dup _ _ _ _⟩
  rw [e6]
  cases h
  exact X_vret dX18_init_19 rfl (k f6.1 (DLe_trans (DLe_trans f4.2 f5.2) f6.2) trivial)
def fX10_init (v0 : Int) (D : DD) : Option (Unit) := (Option.bind (fJxa1e45_init_da8c8 (v0) D) fun _u1 => (if (151 : Int) ≤ (v0) ∧ (v0 : Int) < dT D ∧ True then some () else none))
set_option maxRecDepth 100000 in
theorem CX10_init {ln : Nat} {D : DD} {z : ZZ} {v0 : Int} (hD : okD D) (rv0 : gdV D v0) {p : Unit} (h : fX10_init v0 D = some p) : XD mX10_init 0 (xEnt [rV (v0)] (xL mX10_init)) [] ln D z (Qd (FdD D D (True)) (.inl (none)) (sD ln D z)) := by
  have k : K_v (Qd (FdD D D (True)) (.inl (none)) (sD ln D z)) ln D z p := fun a => ⟨⟨hD, DLe_refl D, a⟩, rfl, rfl⟩
  unfold fX10_init at h
  refine E_ent (c1_r c1_n) (M := [some (rV (v0))]) rfl ?_
  refine E_aload_n (pc' := 1) dX10_init_0 rfl rfl ?_
  obtain ⟨u1, q1, h⟩ := bs h
  obtain ⟨g2, h⟩ := gs h
  refine E_callI (μ := mX10_init) (μ' := mJxa1e45_init_da8c8) [] (pc' := 4) dX10_init_1 rfl tq689 IX10_1 (by decide) ⟨g2.1, g2.2.1⟩ rfl c1_n (cs rfl) c1_n (cs rfl) rfl hD (CJxa1e45_init_da8c8 hD rv0 q1) (fun a1 b1 f1 => ?_)
  cases h
  exact X_vret dX10_init_4 rfl (k trivial)
def fX14_init (v0 : Int) (v1 : Int) (D : DD) : Option (DD) := (if dO D (v0) 14 then (zl (dup D (v0) 0 (v1)) fun D2 => (Option.bind (fX10_init (v0) D2) fun _u3 => some D2)) else none)
set_option maxRecDepth 100000 in
theorem CX14_init {ln : Nat} {D : DD} {z : ZZ} {v0 : Int} {v1 : Int} (hD : okD D) (rv0 : gdV D v0) (rv1 : gdV D v1) {p : DD} (h : fX14_init v0 v1 D = some p) : XD mX14_init 0 (xEnt [rV (v0), rV (v1)] (xL mX14_init)) [] ln D z (Qd (FdD D p (True)) (.inl (none)) (sD ln p z)) := by
  have k : K_w (Qd (FdD D p (True)) (.inl (none)) (sD ln p z)) ln D z p := fun a b c => ⟨⟨a, b, c⟩, rfl, rfl⟩
  unfold fX14_init at h
  refine E_ent (c1_r (c1_r c1_n)) (M := [some (rV (v0)), some (rV (v1))]) rfl ?_
  refine E_aload_n (pc' := 1) dX14_init_0 rfl rfl ?_
  refine E_aload_n (pc' := 2) dX14_init_1 rfl rfl ?_
  obtain ⟨g1, h⟩ := gs h
  refine E_putR (pc' := 5) dX14_init_2 rfl FX14_1_13 hD g1 rfl (fun r hr => by cases hr; exact Or.inr ⟨rfl, rfl⟩) (Or.inl ⟨_, rfl⟩) (j := 0) rfl ?_
  obtain ⟨D2, e2, f2, h⟩ := zl_some (P := fun q => okD q ∧ DLe D q) h ⟨okD_dup (k := 0) hD (okS_R g1 rfl (by decide) rv1), DLe_dup _ _ _ _⟩
  rw [e2]
  refine E_aload_n (pc' := 6) dX14_init_5 rfl rfl ?_
  obtain ⟨u3, q3, h⟩ := bs h
  refine E_callI (μ := mX14_init) (μ' := mX10_init) [] (pc' := 9) dX14_init_6 rfl tq686 IX14_7 (by decide) ⟨(dO_le f2.2 g1).1, (dO_le f2.2 g1).2.1⟩ rfl c1_n (cs rfl) c1_n (cs rfl) rfl f2.1 (CX10_init f2.1 (gdV_le f2.2 rv0) q3) (fun a3 b3 f3 => ?_)
  cases h
  exact X_vret dX14_init_9 rfl (k f2.1 f2.2 trivial)
def fX18_entrySet (v0 : Int) (D : DD) : Option (Int × DD) := (if dO D (v0) 11 then (if ((dW D (v0) 6)) = 0 then (if dT D < 600000 ∧ dS D + 1 ≤ 7200000 then (zl (dnew D 14 1) fun D4 => (Option.bind (fX14_init ((dT D)) (v0) D4) fun D5 => (zl (dup D5 (v0) 6 ((dT D))) fun D6 => some ((dT D), D6)))) else none) else some ((dW D (v0) 6), D)) else none)
set_option maxRecDepth 100000 in
theorem CX18_entrySet {ln : Nat} {D : DD} {z : ZZ} {v0 : Int} (hD : okD D) (rv0 : gdV D v0) {p : Int × DD} (h : fX18_entrySet v0 D = some p) : XD mX18_entrySet 0 (xEnt [rV (v0)] (xL mX18_entrySet)) [] ln D z (Qd (FdD D p.2 (gdV p.2 p.1)) (.inl (some (rV p.1))) (sD ln p.2 z)) := by
  have k : K_wR (Qd (FdD D p.2 (gdV p.2 p.1)) (.inl (some (rV p.1))) (sD ln p.2 z)) ln D z p := fun a b c => ⟨⟨a, b, c⟩, rfl, rfl⟩
  unfold fX18_entrySet at h
  refine E_ent (c1_r c1_n) (M := [some (rV (v0)), none]) rfl ?_
  refine E_aload_n (pc' := 1) dX18_entrySet_0 rfl rfl ?_
  obtain ⟨g1, h⟩ := gs h
  refine E_getR (pc' := 4) dX18_entrySet_1 rfl FX18_188_10 hD g1 rfl (j := 6) rfl ?_
  refine E_astore_n (pc' := 5) dX18_entrySet_4 rfl (cl rfl) (Or.inr (xC1_R _)) (L' := [some (rV (v0)), some (rV ((dW D (v0) 6)))]) rfl ?_
  refine E_aload_n (pc' := 6) dX18_entrySet_5 rfl rfl ?_
  refine E_ifnull dX18_entrySet_6 (tgt := 13) rfl (pc' := 9) rfl hD (gd_slot (k := 6) hD g1 rfl (by decide)) (fun c2 => ?_) (fun c2 => ?_)
  · have h := if_t c2 h
    refine E_aload_n (pc' := 14) dX18_entrySet_13 rfl rfl ?_
    obtain ⟨g3, h⟩ := gs h
    refine E_new (c := 13) (n := 1) (pc' := 17) dX18_entrySet_14 rfl rfl rfl (by decide) tq681 tq682 tq42 hD g3 ?_
    obtain ⟨D4, e4, f4, h⟩ := zl_some (P := fun q => okD q ∧ DLe D q ∧ dO q (dT D) 14) h ⟨okD_dnew hD (by decide) (by decide) g3.1 g3.2, DLe_dnew _ (by decide), dO_dnew hD⟩
    rw [e4]
    refine X_dup (pc' := 18) dX18_entrySet_17 rfl (rV_cat _) ?_
    refine E_aload_n (pc' := 19) dX18_entrySet_18 rfl rfl ?_
    obtain ⟨D5, q5, h⟩ := bs h
    refine E_callI (μ := mX18_entrySet) (μ' := mX14_init) [rV (v0)] (pc' := 22) dX18_entrySet_19 rfl tq683 IX18_244 (by decide) ⟨f4.2.2.1, f4.2.2.2.1⟩ rfl (c1_r c1_n) (cs rfl) (c1_r (c1_r c1_n)) (cs rfl) rfl f4.1 (CX14_init f4.1 (dO_gd f4.2.2 (by decide)) (gdV_le f4.2.1 rv0) q5) (fun a5 b5 f5 => ?_)
    refine X_dup_x1 (pc' := 23) dX18_entrySet_22 rfl (rV_cat _) (rV_cat _) ?_
    refine E_putR (pc' := 26) dX18_entrySet_23 rfl FX18_188_10 a5 (dO_le b5 (dO_le f4.2.1 g1)) rfl (fun r hr => by cases hr; exact Or.inl rfl) (Or.inl ⟨_, rfl⟩) (j := 6) rfl ?_
    obtain ⟨D6, e6, f6, h⟩ := zl_some (P := fun q => okD q ∧ DLe D5 q) h ⟨okD_dup (k := 6) a5 (okS_R (dO_le b5 (dO_le f4.2.1 g1)) rfl (by decide) (gdV_le b5 (dO_gd f4.2.2 (by decide)))), DLe_dup _ _ _ _⟩
    rw [e6]
    cases h
    exact E_aret dX18_entrySet_26 rfl (Or.inl ⟨_, rfl⟩) (k f6.1 (DLe_trans (DLe_trans f4.2.1 b5) f6.2) (gdV_le f6.2 (gdV_le b5 (dO_gd f4.2.2 (by decide)))))
  have h := if_f c2 h
  refine E_aload_n (pc' := 10) dX18_entrySet_9 rfl rfl ?_
  refine X_goto dX18_entrySet_10 (tgt := 26) rfl ?_
  cases h
  exact E_aret dX18_entrySet_26 rfl (Or.inl ⟨_, rfl⟩) (k hD (DLe_refl _) (gd_slot (k := 6) hD g1 rfl (by decide)))
def fX18_getFirstEntry_s9 (v1 : Int) (D : DD) : Option ((Int) ⊕ (Int)) := (if dO D (v1) 12 then (if ((dW D (v1) 2)) = 0 then some (.inr v1) else some (.inl (dW D (v1) 2))) else none)
set_option maxRecDepth 100000 in
theorem SX18_getFirstEntry_9 {ln : Nat} {D : DD} {z : ZZ} {v1 : Int} {Φ : xRes → xS → Prop} (hD : okD D) (rv1 : gdV D v1) {p : (Int) ⊕ (Int)} (h : fX18_getFirstEntry_s9 v1 D = some p) (k1 : ∀ (v1' : Int), p = .inl v1' → gdV D v1' → XD mX18_getFirstEntry 9 [none, some (rV (v1'))] [] ln D z Φ) (k2 : ∀ (v1' : Int), p = .inr v1' → gdV D v1' → XD mX18_getFirstEntry 24 [none, some (rV (v1'))] [] ln D z Φ) : XD mX18_getFirstEntry 9 [none, some (rV (v1))] [] ln D z Φ := by
  unfold fX18_getFirstEntry_s9 at h
  refine E_aload_n (pc' := 10) dX18_getFirstEntry_9 rfl rfl ?_
  obtain ⟨g1, h⟩ := gs h
  refine E_getR (pc' := 13) dX18_getFirstEntry_10 rfl FX18_111_11 hD g1 rfl (j := 2) rfl ?_
  refine E_ifnull dX18_getFirstEntry_13 (tgt := 24) rfl (pc' := 16) rfl hD (gd_slot (k := 2) hD g1 rfl (by decide)) (fun c2 => ?_) (fun c2 => ?_)
  · have h := if_t c2 h
    cases h
    exact X_sub (sub_n (sub_s sub_0)) (k2 _ rfl rv1)
  have h := if_f c2 h
  refine E_aload_n (pc' := 17) dX18_getFirstEntry_16 rfl rfl ?_
  refine E_getR (pc' := 20) dX18_getFirstEntry_17 rfl FX18_111_11 hD g1 rfl (j := 2) rfl ?_
  refine E_astore_n (pc' := 21) dX18_getFirstEntry_20 rfl (cl rfl) (Or.inr rfl) (L' := [none, some (rV ((dW D (v1) 2)))]) rfl ?_
  refine X_goto dX18_getFirstEntry_21 (tgt := 9) rfl ?_
  cases h
  exact X_sub (sub_n (sub_s sub_0)) (k1 _ rfl (gd_slot (k := 2) hD g1 rfl (by decide)))
theorem LX18_getFirstEntry_9 {ln : Nat} {D : DD} {z : ZZ} {Φ : xRes → xS → Prop} {r : Int} : ∀ (n : Nat) (v1 : Int), okD D → gdV D v1 → zlp (fun q => fX18_getFirstEntry_s9 q D) n v1 = some r → (∀ (v1' : Int), r = v1' → gdV D v1' → XD mX18_getFirstEntry 24 [none, some (rV (v1'))] [] ln D z Φ) → XD mX18_getFirstEntry 9 [none, some (rV (v1))] [] ln D z Φ := by
  intro n
  induction n with
  | zero => intro v1 hD rv1 h k2; cases h
  | succ n ih =>
    intro v1 hD rv1 h k2
    rcases zlp_s h with ⟨v1', e, h'⟩ | e
    · exact SX18_getFirstEntry_9 hD rv1 e (fun v1₁ hh f0 => by cases hh; exact ih _ hD f0 h' k2) (fun x0 hh => by cases hh)
    · exact SX18_getFirstEntry_9 hD rv1 e (fun v1₁ hh => by cases hh) (fun x0 hh y0 => by cases hh; exact k2 _ rfl y0)
def fX18_getFirstEntry (v0 : Int) (D : DD) : Option (Int) := (if dO D (v0) 11 then (if ((dW D (v0) 3)) = 0 then some ((dW D (v0) 3)) else (Option.bind (zlp (fun q => fX18_getFirstEntry_s9 q D) FU (dW D (v0) 3)) fun x3_v1 => some (x3_v1))) else none)
set_option maxRecDepth 100000 in
theorem CX18_getFirstEntry {ln : Nat} {D : DD} {z : ZZ} {v0 : Int} (hD : okD D) (rv0 : gdV D v0) {p : Int} (h : fX18_getFirstEntry v0 D = some p) : XD mX18_getFirstEntry 0 (xEnt [rV (v0)] (xL mX18_getFirstEntry)) [] ln D z (Qd (FdD D D (gdV D p)) (.inl (some (rV p))) (sD ln D z)) := by
  have k : K_R (Qd (FdD D D (gdV D p)) (.inl (some (rV p))) (sD ln D z)) ln D z p := fun a => ⟨⟨hD, DLe_refl D, a⟩, rfl, rfl⟩
  unfold fX18_getFirstEntry at h
  refine E_ent (c1_r c1_n) (M := [some (rV (v0)), none]) rfl ?_
  refine E_aload_n (pc' := 1) dX18_getFirstEntry_0 rfl rfl ?_
  obtain ⟨g1, h⟩ := gs h
  refine E_getR (pc' := 4) dX18_getFirstEntry_1 rfl FX18_101_10 hD g1 rfl (j := 3) rfl ?_
  refine E_astore_n (pc' := 5) dX18_getFirstEntry_4 rfl (cl rfl) (Or.inr (xC1_R _)) (L' := [some (rV (v0)), some (rV ((dW D (v0) 3)))]) rfl ?_
  refine E_aload_n (pc' := 6) dX18_getFirstEntry_5 rfl rfl ?_
  refine E_ifnull dX18_getFirstEntry_6 (tgt := 24) rfl (pc' := 9) rfl hD (gd_slot (k := 3) hD g1 rfl (by decide)) (fun c2 => ?_) (fun c2 => ?_)
  · have h := if_t c2 h
    refine E_aload_n (pc' := 25) dX18_getFirstEntry_24 rfl rfl ?_
    cases h
    exact E_aret dX18_getFirstEntry_25 rfl (Or.inl ⟨_, rfl⟩) (k (gd_slot (k := 3) hD g1 rfl (by decide)))
  have h := if_f c2 h
  obtain ⟨x3_v1, q3, h⟩ := bs h
  refine X_sub (sub_n (sub_s sub_0)) (LX18_getFirstEntry_9 FU _ hD (gd_slot (k := 3) hD g1 rfl (by decide)) q3 (fun x3_v1₁ hh rx3_v1 => ?_))
  cases hh
  refine E_aload_n (pc' := 25) dX18_getFirstEntry_24 rfl rfl ?_
  cases h
  exact E_aret dX18_getFirstEntry_25 rfl (Or.inl ⟨_, rfl⟩) (k rx3_v1)
def fX15_init_13 (v0 : Int) (v1 : Int) (v2 : Int) (D : DD) : Option (DD) := (if dO D (v0) 13 then (zl (dup D (v0) 3 (v1)) fun D2 => (if dO D2 (v1) 11 then (zl (dup D2 (v0) 2 ((dW D2 (v1) 5))) fun D4 => (zl (dup D4 (v0) 1 (0)) fun D5 => (zl (dup D5 (v0) 0 (v2)) fun D6 => some D6))) else none)) else none)
set_option maxRecDepth 100000 in
theorem CX15_init_13 {ln : Nat} {D : DD} {z : ZZ} {v0 : Int} {v1 : Int} {v2 : Int} (hD : okD D) (rv0 : gdV D v0) (rv1 : gdV D v1) (rv2 : gdV D v2) {p : DD} (h : fX15_init_13 v0 v1 v2 D = some p) : XD mX15_init 0 (xEnt [rV (v0), rV (v1), rV (v2)] (xL mX15_init)) [] ln D z (Qd (FdD D p (True)) (.inl (none)) (sD ln p z)) := by
  have k : K_w (Qd (FdD D p (True)) (.inl (none)) (sD ln p z)) ln D z p := fun a b c => ⟨⟨a, b, c⟩, rfl, rfl⟩
  unfold fX15_init_13 at h
  refine E_ent (c1_r (c1_r (c1_r c1_n))) (M := [some (rV (v0)), some (rV (v1)), some (rV (v2))]) rfl ?_
  refine E_aload_n (pc' := 1) dX15_init_0 rfl rfl ?_
  refine E_aload_n (pc' := 2) dX15_init_1 rfl rfl ?_
  obtain ⟨g1, h⟩ := gs h
  refine E_putR (pc' := 5) dX15_init_2 rfl FX15_1_12 hD g1 rfl (fun r hr => by cases hr; exact Or.inr ⟨rfl, rfl⟩) (Or.inl ⟨_, rfl⟩) (j := 3) rfl ?_
  obtain ⟨D2, e2, f2, h⟩ := zl_some (P := fun q => okD q ∧ DLe D q) h ⟨okD_dup (k := 3) hD (okS_R g1 rfl (by decide) rv1), DLe_dup _ _ _ _⟩
  rw [e2]
  refine E_aload_n (pc' := 6) dX15_init_5 rfl rfl ?_
  refine E_objInit (μ := mX15_init) (pc' := 9) dX15_init_6 rfl tq716 tq53 tq54 f2.1 ⟨(dO_le f2.2 g1).1, (dO_le f2.2 g1).2.1⟩ c1_n (cs rfl) ?_
  refine E_aload_n (pc' := 10) dX15_init_9 rfl rfl ?_
  refine E_aload_n (pc' := 11) dX15_init_10 rfl rfl ?_
  obtain ⟨g3, h⟩ := gs h
  refine E_getI (pc' := 14) dX15_init_11 rfl FX15_13_10 f2.1 g3 rfl (j := 5) rfl ?_
  refine E_putI (pc' := 17) dX15_init_14 rfl FX15_19_12 f2.1 (dO_le f2.2 g1) rfl (fun r hr => by cases hr; exact Or.inl rfl) (xFit_int _) (j := 2) rfl ?_
  obtain ⟨D4, e4, f4, h⟩ := zl_some (P := fun q => okD q ∧ DLe D2 q) h ⟨okD_dup (k := 2) f2.1 (okS_I (dO_le f2.2 g1) rfl (by decide) (by decide) (in_slot (k := 5) f2.1 g3 rfl (by decide))), DLe_dup _ _ _ _⟩
  rw [e4]
  refine E_aload_n (pc' := 18) dX15_init_17 rfl rfl ?_
  refine E_null (pc' := 19) dX15_init_18 rfl ?_
  refine E_putR (pc' := 22) dX15_init_19 rfl FX15_22_12 f4.1 (dO_le f4.2 (dO_le f2.2 g1)) rfl (fun r hr => by cases hr; exact Or.inl rfl) (Or.inl ⟨_, rfl⟩) (j := 1) rfl ?_
  obtain ⟨D5, e5, f5, h⟩ := zl_some (P := fun q => okD q ∧ DLe D4 q) h ⟨okD_dup (k := 1) f4.1 (okS_R (dO_le f4.2 (dO_le f2.2 g1)) rfl (by decide) (Or.inl (Or.inl rfl))), DLe_dup _ _ _ _⟩
  rw [e5]
  refine E_aload_n (pc' := 23) dX15_init_22 rfl rfl ?_
  refine E_aload_n (pc' := 24) dX15_init_23 rfl rfl ?_
  refine E_putR (pc' := 27) dX15_init_24 rfl FX15_26_12 f5.1 (dO_le f5.2 (dO_le f4.2 (dO_le f2.2 g1))) rfl (fun r hr => by cases hr; exact Or.inl rfl) (Or.inl ⟨_, rfl⟩) (j := 0) rfl ?_
  obtain ⟨D6, e6, f6, h⟩ := zl_some (P := fun q => okD q ∧ DLe D5 q) h ⟨okD_dup (k := 0) f5.1 (okS_R (dO_le f5.2 (dO_le f4.2 (dO_le f2.2 g1))) rfl (by decide) (gdV_le f5.2 (gdV_le f4.2 (gdV_le f2.2 rv2)))), DLe_dup _ _ _ _⟩
  rw [e6]
  cases h
  exact X_vret dX15_init_27 rfl (k f6.1 (DLe_trans (DLe_trans (DLe_trans f2.2 f4.2) f5.2) f6.2) trivial)
def fX15_init_15 (v0 : Int) (v1 : Int) (v2 : Int) (D : DD) : Option (DD) := (if dO D (v0) 15 then (zl (dup D (v0) 3 (v1)) fun D2 => (if dO D2 (v1) 11 then (zl (dup D2 (v0) 2 ((dW D2 (v1) 5))) fun D4 => (zl (dup D4 (v0) 1 (0)) fun D5 => (zl (dup D5 (v0) 0 (v2)) fun D6 => some D6))) else none)) else none)
set_option maxRecDepth 100000 in
theorem CX15_init_15 {ln : Nat} {D : DD} {z : ZZ} {v0 : Int} {v1 : Int} {v2 : Int} (hD : okD D) (rv0 : gdV D v0) (rv1 : gdV D v1) (rv2 : gdV D v2) {p : DD} (h : fX15_init_15 v0 v1 v2 D = some p) : XD mX15_init 0 (xEnt [rV (v0), rV (v1), rV (v2)] (xL mX15_init)) [] ln D z (Qd (FdD D p (True)) (.inl (none)) (sD ln p z)) := by
  have k : K_w (Qd (FdD D p (True)) (.inl (none)) (sD ln p z)) ln D z p := fun a b c => ⟨⟨a, b, c⟩, rfl, rfl⟩
  unfold fX15_init_15 at h
  refine E_ent (c1_r (c1_r (c1_r c1_n))) (M := [some (rV (v0)), some (rV (v1)), some (rV (v2))]) rfl ?_
  refine E_aload_n (pc' := 1) dX15_init_0 rfl rfl ?_
  refine E_aload_n (pc' := 2) dX15_init_1 rfl rfl ?_
  obtain ⟨g1, h⟩ := gs h
  refine E_putR (pc' := 5) dX15_init_2 rfl FX15_1_14 hD g1 rfl (fun r hr => by cases hr; exact Or.inr ⟨rfl, rfl⟩) (Or.inl ⟨_, rfl⟩) (j := 3) rfl ?_
  obtain ⟨D2, e2, f2, h⟩ := zl_some (P := fun q => okD q ∧ DLe D q) h ⟨okD_dup (k := 3) hD (okS_R g1 rfl (by decide) rv1), DLe_dup _ _ _ _⟩
  rw [e2]
  refine E_aload_n (pc' := 6) dX15_init_5 rfl rfl ?_
  refine E_objInit (μ := mX15_init) (pc' := 9) dX15_init_6 rfl tq716 tq53 tq54 f2.1 ⟨(dO_le f2.2 g1).1, (dO_le f2.2 g1).2.1⟩ c1_n (cs rfl) ?_
  refine E_aload_n (pc' := 10) dX15_init_9 rfl rfl ?_
  refine E_aload_n (pc' := 11) dX15_init_10 rfl rfl ?_
  obtain ⟨g3, h⟩ := gs h
  refine E_getI (pc' := 14) dX15_init_11 rfl FX15_13_10 f2.1 g3 rfl (j := 5) rfl ?_
  refine E_putI (pc' := 17) dX15_init_14 rfl FX15_19_14 f2.1 (dO_le f2.2 g1) rfl (fun r hr => by cases hr; exact Or.inl rfl) (xFit_int _) (j := 2) rfl ?_
  obtain ⟨D4, e4, f4, h⟩ := zl_some (P := fun q => okD q ∧ DLe D2 q) h ⟨okD_dup (k := 2) f2.1 (okS_I (dO_le f2.2 g1) rfl (by decide) (by decide) (in_slot (k := 5) f2.1 g3 rfl (by decide))), DLe_dup _ _ _ _⟩
  rw [e4]
  refine E_aload_n (pc' := 18) dX15_init_17 rfl rfl ?_
  refine E_null (pc' := 19) dX15_init_18 rfl ?_
  refine E_putR (pc' := 22) dX15_init_19 rfl FX15_22_14 f4.1 (dO_le f4.2 (dO_le f2.2 g1)) rfl (fun r hr => by cases hr; exact Or.inl rfl) (Or.inl ⟨_, rfl⟩) (j := 1) rfl ?_
  obtain ⟨D5, e5, f5, h⟩ := zl_some (P := fun q => okD q ∧ DLe D4 q) h ⟨okD_dup (k := 1) f4.1 (okS_R (dO_le f4.2 (dO_le f2.2 g1)) rfl (by decide) (Or.inl (Or.inl rfl))), DLe_dup _ _ _ _⟩
  rw [e5]
  refine E_aload_n (pc' := 23) dX15_init_22 rfl rfl ?_
  refine E_aload_n (pc' := 24) dX15_init_23 rfl rfl ?_
  refine E_putR (pc' := 27) dX15_init_24 rfl FX15_26_14 f5.1 (dO_le f5.2 (dO_le f4.2 (dO_le f2.2 g1))) rfl (fun r hr => by cases hr; exact Or.inl rfl) (Or.inl ⟨_, rfl⟩) (j := 0) rfl ?_
  obtain ⟨D6, e6, f6, h⟩ := zl_some (P := fun q => okD q ∧ DLe D5 q) h ⟨okD_dup (k := 0) f5.1 (okS_R (dO_le f5.2 (dO_le f4.2 (dO_le f2.2 g1))) rfl (by decide) (gdV_le f5.2 (gdV_le f4.2 (gdV_le f2.2 rv2)))), DLe_dup _ _ _ _⟩
  rw [e6]
  cases h
  exact X_vret dX15_init_27 rfl (k f6.1 (DLe_trans (DLe_trans (DLe_trans f2.2 f4.2) f5.2) f6.2) trivial)
def fX13_init (v0 : Int) (v1 : Int) (v2 : Int) (D : DD) : Option (DD) := (Option.bind (fX15_init_13 (v0) (v1) (v2) D) fun D1 => (if (151 : Int) ≤ (v0) ∧ (v0 : Int) < dT D ∧ True then some D1 else none))
set_option maxRecDepth 100000 in
theorem CX13_init {ln : Nat} {D : DD} {z : ZZ} {v0 : Int} {v1 : Int} {v2 : Int} (hD : okD D) (rv0 : gdV D v0) (rv1 : gdV D v1) (rv2 : gdV D v2) {p : DD} (h : fX13_init v0 v1 v2 D = some p) : XD mX13_init 0 (xEnt [rV (v0), rV (v1), rV (v2)] (xL mX13_init)) [] ln D z (Qd (FdD D p (True)) (.inl (none)) (sD ln p z)) := by
  have k : K_w (Qd (FdD D p (True)) (.inl (none)) (sD ln p z)) ln D z p := fun a b c => ⟨⟨a, b, c⟩, rfl, rfl⟩
  unfold fX13_init at h
  refine E_ent (c1_r (c1_r (c1_r c1_n))) (M := [some (rV (v0)), some (rV (v1)), some (rV (v2))]) rfl ?_
  refine E_aload_n (pc' := 1) dX13_init_0 rfl rfl ?_
  refine E_aload_n (pc' := 2) dX13_init_1 rfl rfl ?_
  refine E_aload_n (pc' := 3) dX13_init_2 rfl rfl ?_
  obtain ⟨D1, q1, h⟩ := bs h
  obtain ⟨g2, h⟩ := gs h
  refine E_callI (μ := mX13_init) (μ' := mX15_init) [rV (v1), rV (v2)] (pc' := 6) dX13_init_3 rfl tq713 IX13_1 (by decide) ⟨g2.1, g2.2.1⟩ rfl (c1_r (c1_r c1_n)) (cs rfl) c1_n (cs rfl) rfl hD (CX15_init_13 hD rv0 rv1 rv2 q1) (fun a1 b1 f1 => ?_)
  cases h
  exact X_vret dX13_init_6 rfl (k a1 b1 trivial)
def fX14_iterator (v0 : Int) (D : DD) : Option (Int × DD) := (if dT D < 600000 ∧ dS D + 4 ≤ 7200000 then (zl (dnew D 13 4) fun D2 => (if dO D2 (v0) 14 then (Option.bind (fX18_getFirstEntry ((dW D2 (v0) 0)) D2) fun r4 => (if dO D2 ((dW D2 (v0) 0)) 11 then (Option.bind (fX13_init ((dT D)) ((dW D2 (v0) 0)) (r4) D2) fun D6 => some ((dT D), D6)) else none)) else none)) else none)
set_option maxRecDepth 100000 in
theorem CX14_iterator {ln : Nat} {D : DD} {z : ZZ} {v0 : Int} (hD : okD D) (rv0 : gdV D v0) {p : Int × DD} (h : fX14_iterator v0 D = some p) : XD mX14_iterator 0 (xEnt [rV (v0)] (xL mX14_iterator)) [] ln D z (Qd (FdD D p.2 (gdV p.2 p.1)) (.inl (some (rV p.1))) (sD ln p.2 z)) := by
  have k : K_wR (Qd (FdD D p.2 (gdV p.2 p.1)) (.inl (some (rV p.1))) (sD ln p.2 z)) ln D z p := fun a b c => ⟨⟨a, b, c⟩, rfl, rfl⟩
  unfold fX14_iterator at h
  refine E_ent (c1_r c1_n) (M := [some (rV (v0))]) rfl ?_
  obtain ⟨g1, h⟩ := gs h
  refine E_new (c := 12) (n := 4) (pc' := 3) dX14_iterator_0 rfl rfl rfl (by decide) tq704 tq705 tq32 hD g1 ?_
  obtain ⟨D2, e2, f2, h⟩ := zl_some (P := fun q => okD q ∧ DLe D q ∧ dO q (dT D) 13) h ⟨okD_dnew hD (by decide) (by decide) g1.1 g1.2, DLe_dnew _ (by decide), dO_dnew hD⟩
  rw [e2]
  refine X_dup (pc' := 4) dX14_iterator_3 rfl (rV_cat _) ?_
  refine E_aload_n (pc' := 5) dX14_iterator_4 rfl rfl ?_
  obtain ⟨g3, h⟩ := gs h
  refine E_getR (pc' := 8) dX14_iterator_5 rfl FX14_1_13 f2.1 g3 rfl (j := 0) rfl ?_
  refine E_aload_n (pc' := 9) dX14_iterator_8 rfl rfl ?_
  refine E_getR (pc' := 12) dX14_iterator_9 rfl FX14_1_13 f2.1 g3 rfl (j := 0) rfl ?_
  obtain ⟨r4, q4, h⟩ := bs h
  obtain ⟨g5, h⟩ := gs h
  refine E_callV [] (pc' := 15) dX14_iterator_12 rfl (xVc VX14_15) (by decide) ⟨dO_pos g5, dO_is f2.1 g5 rfl⟩ rfl c1_n (cs rfl) (c1_r (c1_r (c1_r c1_n))) (cs rfl) rfl f2.1 (CX18_getFirstEntry f2.1 (gd_slot (k := 0) f2.1 g3 rfl (by decide)) q4) (fun a4 b4 f4 => ?_)
  obtain ⟨D6, q6, h⟩ := bs h
  refine E_callI (μ := mX14_iterator) (μ' := mX13_init) [rV ((dW D2 (v0) 0)), rV (r4)] (pc' := 18) dX14_iterator_15 rfl tq710 IX14_21 (by decide) ⟨f2.2.2.1, f2.2.2.2.1⟩ rfl (c1_r (c1_r c1_n)) (cs rfl) (c1_r c1_n) (cs rfl) rfl f2.1 (CX13_init f2.1 (dO_gd f2.2.2 (by decide)) (gd_slot (k := 0) f2.1 g3 rfl (by decide)) f4 q6) (fun a6 b6 f6 => ?_)
  cases h
  exact E_aret dX14_iterator_18 rfl (Or.inl ⟨_, rfl⟩) (k a6 (DLe_trans f2.2.1 b6) (gdV_le b6 (dO_gd f2.2.2 (by decide))))
def fX12_getKey (v0 : Int) (D : DD) : Option (Int) := (if dO D (v0) 12 then some ((dW D (v0) 0)) else none)
set_option maxRecDepth 100000 in
theorem CX12_getKey {ln : Nat} {D : DD} {z : ZZ} {v0 : Int} (hD : okD D) (rv0 : gdV D v0) {p : Int} (h : fX12_getKey v0 D = some p) : XD mX12_getKey 0 (xEnt [rV (v0)] (xL mX12_getKey)) [] ln D z (Qd (FdD D D (gdV D p)) (.inl (some (rV p))) (sD ln D z)) := by
  have k : K_R (Qd (FdD D D (gdV D p)) (.inl (some (rV p))) (sD ln D z)) ln D z p := fun a => ⟨⟨hD, DLe_refl D, a⟩, rfl, rfl⟩
  unfold fX12_getKey at h
  refine E_ent (c1_r c1_n) (M := [some (rV (v0))]) rfl ?_
  refine E_aload_n (pc' := 1) dX12_getKey_0 rfl rfl ?_
  obtain ⟨g1, h⟩ := gs h
  refine E_getR (pc' := 4) dX12_getKey_1 rfl FX12_15_11 hD g1 rfl (j := 0) rfl ?_
  cases h
  exact E_aret dX12_getKey_4 rfl (Or.inl ⟨_, rfl⟩) (k (gd_slot (k := 0) hD g1 rfl (by decide)))
def fX12_getValue (v0 : Int) (D : DD) : Option (Int) := (if dO D (v0) 12 then some ((dW D (v0) 1)) else none)
set_option maxRecDepth 100000 in
theorem CX12_getValue {ln : Nat} {D : DD} {z : ZZ} {v0 : Int} (hD : okD D) (rv0 : gdV D v0) {p : Int} (h : fX12_getValue v0 D = some p) : XD mX12_getValue 0 (xEnt [rV (v0)] (xL mX12_getValue)) [] ln D z (Qd (FdD D D (gdV D p)) (.inl (some (rV p))) (sD ln D z)) := by
  have k : K_R (Qd (FdD D D (gdV D p)) (.inl (some (rV p))) (sD ln D z)) ln D z p := fun a => ⟨⟨hD, DLe_refl D, a⟩, rfl, rfl⟩
  unfold fX12_getValue at h
  refine E_ent (c1_r c1_n) (M := [some (rV (v0))]) rfl ?_
  refine E_aload_n (pc' := 1) dX12_getValue_0 rfl rfl ?_
  obtain ⟨g1, h⟩ := gs h
  refine E_getR (pc' := 4) dX12_getValue_1 rfl FX12_19_11 hD g1 rfl (j := 1) rfl ?_
  cases h
  exact E_aret dX12_getValue_4 rfl (Or.inl ⟨_, rfl⟩) (k (gd_slot (k := 1) hD g1 rfl (by decide)))
def fJ6_compare_7cf53 (v0 : Int) (v1 : Int) (D : DD) : Option (Int) := (if (v0) < (v1) then some ((-1)) else (if (v0) = (v1) then some (0) else some (1)))
set_option maxRecDepth 100000 in
theorem CJ6_compare_7cf53 {ln : Nat} {D : DD} {z : ZZ} {v0 : Int} {v1 : Int} (hD : okD D) (rv0 : inR v0) (rv1 : inR v1) {p : Int} (h : fJ6_compare_7cf53 v0 v1 D = some p) : XD mJ6_compare_7cf53 0 (xEnt [.int (iN (v0)), .int (iN (v1))] (xL mJ6_compare_7cf53)) [] ln D z (Qd (FdD D D (inR p)) (.inl (some (.int (iN p)))) (sD ln D z)) := by
  have k : K_r (Qd (FdD D D (inR p)) (.inl (some (.int (iN p)))) (sD ln D z)) ln D z p := fun a => ⟨⟨hD, DLe_refl D, a⟩, rfl, rfl⟩
  unfold fJ6_compare_7cf53 at h
  refine E_ent (c1_i (c1_i c1_n)) (M := [some (.int (iN (v0))), some (.int (iN (v1)))]) rfl ?_
  refine X_iload_n (pc' := 1) dJ6_compare_7cf53_0 rfl rfl ?_
  refine X_iload_n (pc' := 2) dJ6_compare_7cf53_1 rfl rfl ?_
  refine X_icmp_ge dJ6_compare_7cf53_2 (tgt := 9) rfl (pc' := 5) rfl ⟨rv0.1, rv0.2, rv1.1, rv1.2⟩ (fun c1 => ?_) (fun c1 => ?_)
  · have h := if_f (Int.not_lt.mpr c1) h
    refine X_iload_n (pc' := 10) dJ6_compare_7cf53_9 rfl rfl ?_
    refine X_iload_n (pc' := 11) dJ6_compare_7cf53_10 rfl rfl ?_
    refine X_icmp_ne dJ6_compare_7cf53_11 (tgt := 18) rfl (pc' := 14) rfl ⟨rv0.1, rv0.2, rv1.1, rv1.2⟩ (fun c2 => ?_) (fun c2 => ?_)
    · have h := if_f c2 h
      refine X_iconst (pc' := 19) dJ6_compare_7cf53_18 rfl ?_
      cases h
      exact X_iret dJ6_compare_7cf53_19 rfl (k (inR_c (n := 1) rfl))
    have h := if_t c2 h
    refine X_iconst (pc' := 15) dJ6_compare_7cf53_14 rfl ?_
    refine X_goto dJ6_compare_7cf53_15 (tgt := 19) rfl ?_
    cases h
    exact X_iret dJ6_compare_7cf53_19 rfl (k (inR_c (n := 0) rfl))
  have h := if_t c1 h
  refine X_iconst (pc' := 6) dJ6_compare_7cf53_5 rfl ?_
  refine X_goto dJ6_compare_7cf53_6 (tgt := 19) rfl ?_
  cases h
  exact X_iret dJ6_compare_7cf53_19 rfl (k (inR_c (n := (-1)) rfl))
def fJ6_compareTo_e8194 (v0 : Int) (v1 : Int) (D : DD) : Option (Int) := (if isBox (v0) then (if isBox (v1) then (Option.bind (fJ6_compare_7cf53 ((v0 - 1000428)) ((v1 - 1000428)) D) fun r3 => some (r3)) else none) else none)
set_option maxRecDepth 100000 in
theorem CJ6_compareTo_e8194 {ln : Nat} {D : DD} {z : ZZ} {v0 : Int} {v1 : Int} (hD : okD D) (rv0 : gdV D v0) (rv1 : gdV D v1) {p : Int} (h : fJ6_compareTo_e8194 v0 v1 D = some p) : XD mJ6_compareTo_e8194 0 (xEnt [rV (v0), rV (v1)] (xL mJ6_compareTo_e8194)) [] ln D z (Qd (FdD D D (inR p)) (.inl (some (.int (iN p)))) (sD ln D z)) := by
  have k : K_r (Qd (FdD D D (inR p)) (.inl (some (.int (iN p)))) (sD ln D z)) ln D z p := fun a => ⟨⟨hD, DLe_refl D, a⟩, rfl, rfl⟩
  unfold fJ6_compareTo_e8194 at h
  refine E_ent (c1_r (c1_r c1_n)) (M := [some (rV (v0)), some (rV (v1))]) rfl ?_
  refine E_aload_n (pc' := 1) dJ6_compareTo_e8194_0 rfl rfl ?_
  obtain ⟨g1, h⟩ := gs h
  refine E_boxv (pc' := 4) dJ6_compareTo_e8194_1 rfl tq1603 g1 ?_
  refine E_aload_n (pc' := 5) dJ6_compareTo_e8194_4 rfl rfl ?_
  obtain ⟨g2, h⟩ := gs h
  refine E_boxv (pc' := 8) dJ6_compareTo_e8194_5 rfl tq1603 g2 ?_
  obtain ⟨r3, q3, h⟩ := bs h
  refine E_callS [.int (iN ((v0 - 1000428))), .int (iN ((v1 - 1000428)))] (pc' := 11) dJ6_compareTo_e8194_8 rfl (xSn SJ6_259) (by decide) rfl (c1_i (c1_i c1_n)) (cs rfl) c1_n (cs rfl) rfl hD (CJ6_compare_7cf53 hD (box_in g1) (box_in g2) q3) (fun a3 b3 f3 => ?_)
  cases h
  exact X_iret dJ6_compareTo_e8194_11 rfl (k f3)
def fJ6_compareTo_e47da (v0 : Int) (v1 : Int) (D : DD) : Option (Int) := (if isBox (v1) then (Option.bind (fJ6_compareTo_e8194 (v0) (v1) D) fun r2 => (if isBox (v0) then some (r2) else none)) else none)
set_option maxRecDepth 100000 in
theorem CJ6_compareTo_e47da {ln : Nat} {D : DD} {z : ZZ} {v0 : Int} {v1 : Int} (hD : okD D) (rv0 : gdV D v0) (rv1 : gdV D v1) {p : Int} (h : fJ6_compareTo_e47da v0 v1 D = some p) : XD mJ6_compareTo_e47da 0 (xEnt [rV (v0), rV (v1)] (xL mJ6_compareTo_e47da)) [] ln D z (Qd (FdD D D (inR p)) (.inl (some (.int (iN p)))) (sD ln D z)) := by
  have k : K_r (Qd (FdD D D (inR p)) (.inl (some (.int (iN p)))) (sD ln D z)) ln D z p := fun a => ⟨⟨hD, DLe_refl D, a⟩, rfl, rfl⟩
  unfold fJ6_compareTo_e47da at h
  refine E_ent (c1_r (c1_r c1_n)) (M := [some (rV (v0)), some (rV (v1))]) rfl ?_
  refine E_aload_n (pc' := 1) dJ6_compareTo_e47da_0 rfl rfl ?_
  refine E_aload_n (pc' := 2) dJ6_compareTo_e47da_1 rfl rfl ?_
  obtain ⟨g1, h⟩ := gs h
  refine E_cast (pc' := 5) dJ6_compareTo_e47da_2 rfl tq782 (box_pos g1) (box_is g1) ?_
  obtain ⟨r2, q2, h⟩ := bs h
  obtain ⟨g3, h⟩ := gs h
  refine E_callV [rV (v1)] (pc' := 8) dJ6_compareTo_e47da_5 rfl (xVc VJ6_284) (by decide) ⟨box_pos g3, box_is g3⟩ rfl (c1_r c1_n) (cs rfl) c1_n (cs rfl) rfl hD (CJ6_compareTo_e8194 hD rv0 rv1 q2) (fun a2 b2 f2 => ?_)
  cases h
  exact X_iret dJ6_compareTo_e47da_8 rfl (k f2)

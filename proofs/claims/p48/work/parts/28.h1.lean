def fX6_init (v0 : Int) (D : DD) : Option (DD) := (if (151 : Int) ≤ (v0) ∧ (v0 : Int) < dT D ∧ True then (if dO D (v0) 7 then (zl (dup D (v0) 0 (20)) fun D3 => (zl (dup D3 (v0) 1 (2)) fun D4 => (zl (dup D4 (v0) 2 (50)) fun D5 => (if dT D5 < 600000 ∧ dS D5 + 3 ≤ 7200000 then (zl (dnew D5 9 3) fun D7 => (Option.bind (fJx4a65c_init_da8c8 ((dT D5)) D7) fun D8 => (zl (dup D8 (v0) 4 ((dT D5))) fun D9 => (if dT D9 < 600000 ∧ dS D9 + 3 ≤ 7200000 then (zl (dnew D9 9 3) fun D11 => (Option.bind (fJx4a65c_init_da8c8 ((dT D9)) D11) fun D12 => (zl (dup D12 (v0) 5 ((dT D9))) fun D13 => (if dT D13 < 600000 ∧ dS D13 + 3 ≤ 7200000 then (zl (dnew D13 9 3) fun D15 => (Option.bind (fJx4a65c_init_da8c8 ((dT D13)) D15) fun D16 => (zl (dup D16 (v0) 6 ((dT D13))) fun D17 => (if dT D17 < 600000 ∧ dS D17 + 3 ≤ 7200000 then (zl (dnew D17 9 3) fun D19 => (Option.bind (fJx4a65c_init_da8c8 ((dT D17)) D19) fun D20 => (zl (dup D20 (v0) 7 ((dT D17))) fun D21 => (if dT D21 < 600000 ∧ dS D21 + 3 ≤ 7200000 then (zl (dnew D21 9 3) fun D23 => (Option.bind (fJx4a65c_init_da8c8 ((dT D21)) D23) fun D24 => (zl (dup D24 (v0) 8 ((dT D21))) fun D25 => (if dT D25 < 600000 ∧ dS D25 + 3 ≤ 7200000 then (zl (dnew D25 9 3) fun D27 => (Option.bind (fJx4a65c_init_da8c8 ((dT D25)) D27) fun D28 => (zl (dup D28 (v0) 9 ((dT D25))) fun D29 => some D29))) else none)))) else none)))) else none)))) else none)))) else none)))) else none)))) else none) else none)
set_option maxRecDepth 100000 in
theorem CX6_init {ln : Nat} {D : DD} {z : ZZ} {v0 : Int} (hD : okD D) (rv0 : gdV D v0) {p : DD} (h : fX6_init v0 D = some p) : XD mX6_init 0 (xEnt [rV (v0)] (xL mX6_init)) [] ln D z (Qd (FdD D p (True)) (.inl (none)) (sD ln p z)) := by
  have k : K_w (Qd (FdD D p (True)) (.inl (none)) (sD ln p z)) ln D z p := fun a b c => ⟨⟨a, b, c⟩, rfl, rfl⟩
  unfold fX6_init at h
  refine E_ent (c1_r c1_n) (M := [some (rV (v0))]) rfl ?_
  refine E_aload_n (pc' := 1) dX6_init_0 rfl rfl ?_
  obtain ⟨g1, h⟩ := gs h
  refine E_objInit (μ := mX6_init) (pc' := 4) dX6_init_1 rfl tq415 tq53 tq54 hD ⟨g1.1, g1.2.1⟩ c1_n (cs rfl) ?_
  refine E_aload_n (pc' := 5) dX6_init_4 rfl rfl ?_
  refine X_bipush (pc' := 7) dX6_init_5 rfl (by decide) ?_
  obtain ⟨g2, h⟩ := gs h
  refine E_putI (pc' := 10) dX6_init_7 rfl FX6_9_6 hD g2 rfl (fun r hr => by cases hr; exact Or.inl rfl) (xFit_int _) (j := 0) rfl ?_
  obtain ⟨D3, e3, f3, h⟩ := zl_some (P := fun q => okD q ∧ DLe D q) h ⟨okD_dup (k := 0) hD (okS_I g2 rfl (by decide) (by decide) (inR_c (n := 20) rfl)), DLe_dup _ _ _ _⟩
  rw [e3]
  refine E_aload_n (pc' := 11) dX6_init_10 rfl rfl ?_
  refine X_iconst (pc' := 12) dX6_init_11 rfl ?_
  refine E_putI (pc' := 15) dX6_init_12 rfl FX6_15_6 f3.1 (dO_le f3.2 g2) rfl (fun r hr => by cases hr; exact Or.inl rfl) (xFit_int _) (j := 1) rfl ?_
  obtain ⟨D4, e4, f4, h⟩ := zl_some (P := fun q => okD q ∧ DLe D3 q) h ⟨okD_dup (k := 1) f3.1 (okS_I (dO_le f3.2 g2) rfl (by decide) (by decide) (inR_c (n := 2) rfl)), DLe_dup _ _ _ _⟩
  rw [e4]
  refine E_aload_n (pc' := 16) dX6_init_15 rfl rfl ?_
  refine X_bipush (pc' := 18) dX6_init_16 rfl (by decide) ?_
  refine E_putI (pc' := 21) dX6_init_18 rfl FX6_18_6 f4.1 (dO_le f4.2 (dO_le f3.2 g2)) rfl (fun r hr => by cases hr; exact Or.inl rfl) (xFit_int _) (j := 2) rfl ?_
  obtain ⟨D5, e5, f5, h⟩ := zl_some (P := fun q => okD q ∧ DLe D4 q) h ⟨okD_dup (k := 2) f4.1 (okS_I (dO_le f4.2 (dO_le f3.2 g2)) rfl (by decide) (by decide) (inR_c (n := 50) rfl)), DLe_dup _ _ _ _⟩
  rw [e5]
  refine E_aload_n (pc' := 22) dX6_init_21 rfl rfl ?_
  obtain ⟨g6, h⟩ := gs h
  refine E_new (c := 8) (n := 3) (pc' := 25) dX6_init_22 rfl rfl rfl (by decide) tq416 tq417 tq23 f5.1 g6 ?_
  obtain ⟨D7, e7, f7, h⟩ := zl_some (P := fun q => okD q ∧ DLe D5 q ∧ dO q (dT D5) 9) h ⟨okD_dnew f5.1 (by decide) (by decide) g6.1 g6.2, DLe_dnew _ (by decide), dO_dnew f5.1⟩
  rw [e7]
  refine X_dup (pc' := 26) dX6_init_25 rfl (rV_cat _) ?_
  obtain ⟨D8, q8, h⟩ := bs h
  refine E_callI (μ := mX6_init) (μ' := mJx4a65c_init_da8c8) [] (pc' := 29) dX6_init_26 rfl tq418 IX6_23 (by decide) ⟨f7.2.2.1, f7.2.2.2.1⟩ rfl c1_n (cs rfl) (c1_r (c1_r c1_n)) (cs rfl) rfl f7.1 (CJx4a65c_init_da8c8 f7.1 (dO_gd f7.2.2 (by decide)) q8) (fun a8 b8 f8 => ?_)
  refine E_putR (pc' := 32) dX6_init_29 rfl FX6_24_6 a8 (dO_le b8 (dO_le f7.2.1 (dO_le f5.2 (dO_le f4.2 (dO_le f3.2 g2))))) rfl (fun r hr => by cases hr; exact Or.inr ⟨rfl, rfl⟩) (Or.inl ⟨_, rfl⟩) (j := 4) rfl ?_
  obtain ⟨D9, e9, f9, h⟩ := zl_some (P := fun q => okD q ∧ DLe D8 q) h ⟨okD_dup (k := 4) a8 (okS_R (dO_le b8 (dO_le f7.2.1 (dO_le f5.2 (dO_le f4.2 (dO_le f3.2 g2))))) rfl (by decide) (gdV_le b8 (dO_gd f7.2.2 (by decide)))), DLe_dup _ _ _ _⟩
  rw [e9]
  refine E_aload_n (pc' := 33) dX6_init_32 rfl rfl ?_
  obtain ⟨g10, h⟩ := gs h
  refine E_new (c := 8) (n := 3) (pc' := 36) dX6_init_33 rfl rfl rfl (by decide) tq416 tq417 tq23 f9.1 g10 ?_
  obtain ⟨D11, e11, f11, h⟩ := zl_some (P := fun q => okD q ∧ DLe D9 q ∧ dO q (dT D9) 9) h ⟨okD_dnew f9.1 (by decide) (by decide) g10.1 g10.2, DLe_dnew _ (by decide), dO_dnew f9.1⟩
  rw [e11]
  refine X_dup (pc' := 37) dX6_init_36 rfl (rV_cat _) ?_
  obtain ⟨D12, q12, h⟩ := bs h
  refine E_callI (μ := mX6_init) (μ' := mJx4a65c_init_da8c8) [] (pc' := 40) dX6_init_37 rfl tq418 IX6_23 (by decide) ⟨f11.2.2.1, f11.2.2.2.1⟩ rfl c1_n (cs rfl) (c1_r (c1_r c1_n)) (cs rfl) rfl f11.1 (CJx4a65c_init_da8c8 f11.1 (dO_gd f11.2.2 (by decide)) q12) (fun a12 b12 f12 => ?_)
  refine E_putR (pc' := 43) dX6_init_40 rfl FX6_28_6 a12 (dO_le b12 (dO_le f11.2.1 (dO_le f9.2 (dO_le b8 (dO_le f7.2.1 (dO_le f5.2 (dO_le f4.2 (dO_le f3.2 g2)))))))) rfl (fun r hr => by cases hr; exact Or.inr ⟨rfl, rfl⟩) (Or.inl ⟨_, rfl⟩) (j := 5) rfl ?_
  obtain ⟨D13, e13, f13, h⟩ := zl_some (P := fun q => okD q ∧ DLe D12 q) h ⟨okD_dup (k := 5) a12 (okS_R (dO_le b12 (dO_le f11.2.1 (dO_le f9.2 (dO_le b8 (dO_le f7.2.1 (dO_le f5.2 (dO_le f4.2 (dO_le f3.2 g2)))))))) rfl (by decide) (gdV_le b12 (dO_gd f11.2.2 (by decide)))), DLe_dup _ _ _ _⟩
  rw [e13]
  refine E_aload_n (pc' := 44) dX6_init_43 rfl rfl ?_
  obtain ⟨g14, h⟩ := gs h
  refine E_new (c := 8) (n := 3) (pc' := 47) dX6_init_44 rfl rfl rfl (by decide) tq416 tq417 tq23 f13.1 g14 ?_
  obtain ⟨D15, e15, f15, h⟩ := zl_some (P := fun q => okD q ∧ DLe D13 q ∧ dO q (dT D13) 9) h ⟨okD_dnew f13.1 (by decide) (by decide) g14.1 g14.2, DLe_dnew _ (by decide), dO_dnew f13.1⟩
  rw [e15]
  refine X_dup (pc' := 48) dX6_init_47 rfl (rV_cat _) ?_
  obtain ⟨D16, q16, h⟩ := bs h
  refine E_callI (μ := mX6_init) (μ' := mJx4a65c_init_da8c8) [] (pc' := 51) dX6_init_48 rfl tq418 IX6_23 (by decide) ⟨f15.2.2.1, f15.2.2.2.1⟩ rfl c1_n (cs rfl) (c1_r (c1_r c1_n)) (cs rfl) rfl f15.1 (CJx4a65c_init_da8c8 f15.1 (dO_gd f15.2.2 (by decide)) q16) (fun a16 b16 f16 => ?_)
  refine E_putR (pc' := 54) dX6_init_51 rfl FX6_31_6 a16 (dO_le b16 (dO_le f15.2.1 (dO_le f13.2 (dO_le b12 (dO_le f11.2.1 (dO_le f9.2 (dO_le b8 (dO_le f7.2.1 (dO_le f5.2 (dO_le f4.2 (dO_le f3.2 g2))))))))))) rfl (fun r hr => by cases hr; exact Or.inr ⟨rfl, rfl⟩) (Or.inl ⟨_, rfl⟩) (j := 6) rfl ?_
  obtain ⟨D17, e17, f17, h⟩ := zl_some (P := fun q => okD q ∧ DLe D16 q) h ⟨okD_dup (k := 6) a16 (okS_R (dO_le b16 (dO_le f15.2.1 (dO_le f13.2 (dO_le b12 (dO_le f11.2.1 (dO_le f9.2 (dO_le b8 (dO_le f7.2.1 (dO_le f5.2 (dO_le f4.2 (dO_le f3.2 g2))))))))))) rfl (by decide) (gdV_le b16 (dO_gd f15.2.2 (by decide)))), DLe_dup _ _ _ _⟩
  rw [e17]
  refine E_aload_n (pc' := 55) dX6_init_54 rfl rfl ?_
  obtain ⟨g18, h⟩ := gs h
  refine E_new (c := 8) (n := 3) (pc' := 58) dX6_init_55 rfl rfl rfl (by decide) tq416 tq417 tq23 f17.1 g18 ?_
  obtain ⟨D19, e19, f19, h⟩ := zl_some (P := fun q => okD q ∧ DLe D17 q ∧ dO q (dT D17) 9) h ⟨okD_dnew f17.1 (by decide) (by decide) g18.1 g18.2, DLe_dnew _ (by decide), dO_dnew f17.1⟩
  rw [e19]
  refine X_dup (pc' := 59) dX6_init_58 rfl (rV_cat _) ?_
  obtain ⟨D20, q20, h⟩ := bs h
  refine E_callI (μ := mX6_init) (μ' := mJx4a65c_init_da8c8) [] (pc' := 62) dX6_init_59 rfl tq418 IX6_23 (by decide) ⟨f19.2.2.1, f19.2.2.2.1⟩ rfl c1_n (cs rfl) (c1_r (c1_r c1_n)) (cs rfl) rfl f19.1 (CJx4a65c_init_da8c8 f19.1 (dO_gd f19.2.2 (by decide)) q20) (fun a20 b20 f20 => ?_)
  refine E_putR (pc' := 65) dX6_init_62 rfl FX6_34_6 a20 (dO_le b20 (dO_le f19.2.1 (dO_le f17.2 (dO_le b16 (dO_le f15.2.1 (dO_le f13.2 (dO_le b12 (dO_le f11.2.1 (dO_le f9.2 (dO_le b8 (dO_le f7.2.1 (dO_le f5.2 (dO_le f4.2 (dO_le f3.2 g2)))))))))))))) rfl (fun r hr => by cases hr; exact Or.inr ⟨rfl, rfl⟩) (Or.inl ⟨_, rfl⟩) (j := 7) rfl ?_
  obtain ⟨D21, e21, f21, h⟩ := zl_some (P := fun q => okD q ∧ DLe D20 q) h ⟨okD_dup (k := 7) a20 (okS_R (dO_le b20 (dO_le f19.2.1 (dO_le f17.2 (dO_le b16 (dO_le f15.2.1 (dO_le f13.2 (dO_le b12 (dO_le f11.2.1 (dO_le f9.2 (dO_le b8 (dO_le f7.2.1 (dO_le f5.2 (dO_le f4.2 (dO_le f3.2 g2)))))))))))))) rfl (by decide) (gdV_le b20 (dO_gd f19.2.2 (by decide)))), DLe_dup _ _ _ _⟩
  rw [e21]
  refine E_aload_n (pc' := 66) dX6_init_65 rfl rfl ?_
  obtain ⟨g22, h⟩ := gs h
  refine E_new (c := 8) (n := 3) (pc' := 69) dX6_init_66 rfl rfl rfl (by decide) tq416 tq417 tq23 f21.1 g22 ?_
  obtain ⟨D23, e23, f23, h⟩ := zl_some (P := fun q => okD q ∧ DLe D21 q ∧ dO q (dT D21) 9) h ⟨okD_dnew f21.1 (by decide) (by decide) g22.1 g22.2, DLe_dnew _ (by decide), dO_dnew f21.1⟩
  rw [e23]
  refine X_dup (pc' := 70) dX6_init_69 rfl (rV_cat _) ?_
  obtain ⟨D24, q24, h⟩ := bs h
  refine E_callI (μ := mX6_init) (μ' := mJx4a65c_init_da8c8) [] (pc' := 73) dX6_init_70 rfl tq418 IX6_23 (by decide) ⟨f23.2.2.1, f23.2.2.2.1⟩ rfl c1_n (cs rfl) (c1_r (c1_r c1_n)) (cs rfl) rfl f23.1 (CJx4a65c_init_da8c8 f23.1 (dO_gd f23.2.2 (by decide)) q24) (fun a24 b24 f24 => ?_)
  refine E_putR (pc' := 76) dX6_init_73 rfl FX6_37_6 a24 (dO_le b24 (dO_le f23.2.1 (dO_le f21.2 (dO_le b20 (dO_le f19.2.1 (dO_le f17.2 (dO_le b16 (dO_le f15.2.1 (dO_le f13.2 (dO_le b12 (dO_le f11.2.1 (dO_le f9.2 (dO_le b8 (dO_le f7.2.1 (dO_le f5.2 (dO_le f4.2 (dO_le f3.2 g2))))))))))))))))) rfl (fun r hr => by cases hr; exact Or.inr ⟨rfl, rfl⟩) (Or.inl ⟨_, rfl⟩) (j := 8) rfl ?_
  obtain ⟨D25, e25, f25, h⟩ := zl_some (P := fun q => okD q ∧ DLe D24 q) h ⟨okD_dup (k := 8) a24 (okS_R (dO_le b24 (dO_le f23.2.1 (dO_le f21.2 (dO_le b20 (dO_le f19.2.1 (dO_le f17.2 (dO_le b16 (dO_le f15.2.1 (dO_le f13.2 (dO_le b12 (dO_le f11.2.1 (dO_le f9.2 (dO_le b8 (dO_le f7.2.1 (dO_le f5.2 (dO_le f4.2 (dO_le f3.2 g2))))))))))))))))) rfl (by decide) (gdV_le b24 (dO_gd f23.2.2 (by decide)))), DLe_dup _ _ _ _⟩
  rw [e25]
  refine E_aload_n (pc' := 77) dX6_init_76 rfl rfl ?_
  obtain ⟨g26, h⟩ := gs h
  refine E_new (c := 8) (n := 3) (pc' := 80) dX6_init_77 rfl rfl rfl (by decide) tq416 tq417 tq23 f25.1 g26 ?_
  obtain ⟨D27, e27, f27, h⟩ := zl_some (P := fun q => okD q ∧ DLe D25 q ∧ dO q (dT D25) 9) h ⟨okD_dnew f25.1 (by decide) (by decide) g26.1 g26.2, DLe_dnew _ (by decide), dO_dnew f25.1⟩
  rw [e27]
  refine X_dup (pc' := 81) dX6_init_80 rfl (rV_cat _) ?_
  obtain ⟨D28, q28, h⟩ := bs h
  refine E_callI (μ := mX6_init) (μ' := mJx4a65c_init_da8c8) [] (pc' := 84) dX6_init_81 rfl tq418 IX6_23 (by decide) ⟨f27.2.2.1, f27.2.2.2.1⟩ rfl c1_n (cs rfl) (c1_r (c1_r c1_n)) (cs rfl) rfl f27.1 (CJx4a65c_init_da8c8 f27.1 (dO_gd f27.2.2 (by decide)) q28) (fun a28 b28 f28 => ?_)
  refine E_putR (pc' := 87) dX6_init_84 rfl FX6_40_6 a28 (dO_le b28 (dO_le f27.2.1 (dO_le f25.2 (dO_le b24 (dO_le f23.2.1 (dO_le f21.2 (dO_le b20 (dO_le f19.2.1 (dO_le f17.2 (dO_le b16 (dO_le f15.2.1 (dO_le f13.2 (dO_le b12 (dO_le f11.2.1 (dO_le f9.2 (dO_le b8 (dO_le f7.2.1 (dO_le f5.2 (dO_le f4.2 (dO_le f3.2 g2)))))))))))))))))))) rfl (fun r hr => by cases hr; exact Or.inr ⟨rfl, rfl⟩) (Or.inl ⟨_, rfl⟩) (j := 9) rfl ?_
  obtain ⟨D29, e29, f29, h⟩ := zl_some (P := fun q => okD q ∧ DLe D28 q) h ⟨okD_dup (k := 9) a28 (okS_R (dO_le b28 (dO_le f27.2.1 (dO_le f25.2 (dO_le b24 (dO_le f23.2.1 (dO_le f21.2 (dO_le b20 (dO_le f19.2.1 (dO_le f17.2 (dO_le b16 (dO_le f15.2.1 (dO_le f13.2 (dO_le b12 (dO_le f11.2.1 (dO_le f9.2 (dO_le b8 (dO_le f7.2.1 (dO_le f5.2 (dO_le f4.2 (dO_le f3.2 g2)))))))))))))))))))) rfl (by decide) (gdV_le b28 (dO_gd f27.2.2 (by decide)))), DLe_dup _ _ _ _⟩
  rw [e29]
  cases h
  exact X_vret dX6_init_87 rfl (k f29.1 (DLe_trans (DLe_trans (DLe_trans (DLe_trans (DLe_trans (DLe_trans (DLe_trans (DLe_trans (DLe_trans (DLe_trans (DLe_trans (DLe_trans (DLe_trans (DLe_trans (DLe_trans (DLe_trans (DLe_trans (DLe_trans (DLe_trans (DLe_trans f3.2 f4.2) f5.2) f7.2.1) b8) f9.2) f11.2.1) b12) f13.2) f15.2.1) b16) f17.2) f19.2.1) b20) f21.2) f23.2.1) b24) f25.2) f27.2.1) b28) f29.2) trivial)
def fX7_init (v0 : Int) (v1 : Int) (v2 : Int) (v3 : Int) (D : DD) : Option (DD) := (if (151 : Int) ≤ (v0) ∧ (v0 : Int) < dT D ∧ True then (if dT D < 600000 ∧ dS D + 9 ≤ 7200000 then (zl (dnew D 11 9) fun D3 => (Option.bind (fX18_init ((dT D)) D3) fun D4 => (if dO D4 (v0) 8 then (zl (dup D4 (v0) 6 ((dT D))) fun D6 => (zl (dup D6 (v0) 0 (v1)) fun D7 => (zl (dup D7 (v0) 1 (v2)) fun D8 => (zl (dup D8 (v0) 2 (v3)) fun D9 => some D9)))) else none))) else none) else none)
set_option maxRecDepth 100000 in
theorem CX7_init {ln : Nat} {D : DD} {z : ZZ} {v0 : Int} {v1 : Int} {v2 : Int} {v3 : Int} (hD : okD D) (rv0 : gdV D v0) (rv1 : inR v1) (rv2 : inR v2) (rv3 : inR v3) {p : DD} (h : fX7_init v0 v1 v2 v3 D = some p) : XD mX7_init 0 (xEnt [rV (v0), .int (iN (v1)), .int (iN (v2)), .int (iN (v3))] (xL mX7_init)) [] ln D z (Qd (FdD D p (True)) (.inl (none)) (sD ln p z)) := by
  have k : K_w (Qd (FdD D p (True)) (.inl (none)) (sD ln p z)) ln D z p := fun a b c => ⟨⟨a, b, c⟩, rfl, rfl⟩
  unfold fX7_init at h
  refine E_ent (c1_r (c1_i (c1_i (c1_i c1_n)))) (M := [some (rV (v0)), some (.int (iN (v1))), some (.int (iN (v2))), some (.int (iN (v3)))]) rfl ?_
  refine E_aload_n (pc' := 1) dX7_init_0 rfl rfl ?_
  obtain ⟨g1, h⟩ := gs h
  refine E_objInit (μ := mX7_init) (pc' := 4) dX7_init_1 rfl tq608 tq53 tq54 hD ⟨g1.1, g1.2.1⟩ c1_n (cs rfl) ?_
  refine E_aload_n (pc' := 5) dX7_init_4 rfl rfl ?_
  obtain ⟨g2, h⟩ := gs h
  refine E_new (c := 10) (n := 9) (pc' := 8) dX7_init_5 rfl rfl rfl (by decide) tq609 tq610 tq29 hD g2 ?_
  obtain ⟨D3, e3, f3, h⟩ := zl_some (P := fun q => okD q ∧ DLe D q ∧ dO q (dT D) 11) h ⟨okD_dnew hD (by decide) (by decide) g2.1 g2.2, DLe_dnew _ (by decide), dO_dnew hD⟩
  rw [e3]
  refine X_dup (pc' := 9) dX7_init_8 rfl (rV_cat _) ?_
  obtain ⟨D4, q4, h⟩ := bs h
  refine E_callI (μ := mX7_init) (μ' := mX18_init) [] (pc' := 12) dX7_init_9 rfl tq611 IX7_9 (by decide) ⟨f3.2.2.1, f3.2.2.2.1⟩ rfl c1_n (cs rfl) (c1_r (c1_r c1_n)) (cs rfl) rfl f3.1 (CX18_init f3.1 (dO_gd f3.2.2 (by decide)) q4) (fun a4 b4 f4 => ?_)
  obtain ⟨g5, h⟩ := gs h
  refine E_putR (pc' := 15) dX7_init_12 rfl FX7_10_7 a4 g5 rfl (fun r hr => by cases hr; exact Or.inr ⟨rfl, rfl⟩) (Or.inl ⟨_, rfl⟩) (j := 6) rfl ?_
  obtain ⟨D6, e6, f6, h⟩ := zl_some (P := fun q => okD q ∧ DLe D4 q) h ⟨okD_dup (k := 6) a4 (okS_R g5 rfl (by decide) (gdV_le b4 (dO_gd f3.2.2 (by decide)))), DLe_dup _ _ _ _⟩
  rw [e6]
  refine E_aload_n (pc' := 16) dX7_init_15 rfl rfl ?_
  refine X_iload_n (pc' := 17) dX7_init_16 rfl rfl ?_
  refine E_putI (pc' := 20) dX7_init_17 rfl FX7_16_7 f6.1 (dO_le f6.2 g5) rfl (fun r hr => by cases hr; exact Or.inr ⟨rfl, rfl⟩) (xFit_int _) (j := 0) rfl ?_
  obtain ⟨D7, e7, f7, h⟩ := zl_some (P := fun q => okD q ∧ DLe D6 q) h ⟨okD_dup (k := 0) f6.1 (okS_I (dO_le f6.2 g5) rfl (by decide) (by decide) rv1), DLe_dup _ _ _ _⟩
  rw [e7]
  refine E_aload_n (pc' := 21) dX7_init_20 rfl rfl ?_
  refine X_iload_n (pc' := 22) dX7_init_21 rfl rfl ?_
  refine E_putI (pc' := 25) dX7_init_22 rfl FX7_20_7 f7.1 (dO_le f7.2 (dO_le f6.2 g5)) rfl (fun r hr => by cases hr; exact Or.inr ⟨rfl, rfl⟩) (xFit_int _) (j := 1) rfl ?_
  obtain ⟨D8, e8, f8, h⟩ := zl_some (P := fun q => okD q ∧ DLe D7 q) h ⟨okD_dup (k := 1) f7.1 (okS_I (dO_le f7.2 (dO_le f6.2 g5)) rfl (by decide) (by decide) rv2), DLe_dup _ _ _ _⟩
  rw [e8]
  refine E_aload_n (pc' := 26) dX7_init_25 rfl rfl ?_
  refine X_iload_n (pc' := 27) dX7_init_26 rfl rfl ?_
  refine E_putI (pc' := 30) dX7_init_27 rfl FX7_23_7 f8.1 (dO_le f8.2 (dO_le f7.2 (dO_le f6.2 g5))) rfl (fun r hr => by cases hr; exact Or.inr ⟨rfl, rfl⟩) (xFit_int _) (j := 2) rfl ?_
  obtain ⟨D9, e9, f9, h⟩ := zl_some (P := fun q => okD q ∧ DLe D8 q) h ⟨okD_dup (k := 2) f8.1 (okS_I (dO_le f8.2 (dO_le f7.2 (dO_le f6.2 g5))) rfl (by decide) (by decide) rv3), DLe_dup _ _ _ _⟩
  rw [e9]
  cases h
  exact X_vret dX7_init_30 rfl (k f9.1 (DLe_trans (DLe_trans (DLe_trans (DLe_trans (DLe_trans f3.2.1 b4) f6.2) f7.2) f8.2) f9.2) trivial)
def fX7_copy_s57 (v1 : Int) (v2 : Int) (D : DD) : Option ((DD) ⊕ (DD)) := (Option.bind (fX15_hasNext_13 (v2) D) fun r1 => (if dO D (v2) 13 then (if (r1) = (0) then some (.inr D) else (Option.bind (fX13_next_ (v2) D) fun q4 => match q4 with | (r4, D4) => (if dO D4 (r4) 12 then (if dO D4 (v1) 8 then (Option.bind (fX12_getKey (r4) D4) fun r7 => (if isBox (r7) then (Option.bind (fX12_getValue (r4) D4) fun r9 => (if isBox (r9) then (Option.bind (fX18_put ((dW D4 (v1) 6)) (r7) (r9) D4) fun q11 => match q11 with | (r11, D11) => (if dO D4 ((dW D4 (v1) 6)) 11 then some (.inl D11) else none)) else none)) else none)) else none) else none))) else none))
set_option maxRecDepth 100000 in
theorem SX7_copy_57 {ln : Nat} {D : DD} {z : ZZ} {v1 : Int} {v2 : Int} {Φ : xRes → xS → Prop} (hD : okD D) (rv1 : gdV D v1) (rv2 : gdV D v2) {p : (DD) ⊕ (DD)} (h : fX7_copy_s57 v1 v2 D = some p) (k1 : ∀ (D' : DD), p = .inl D' → okD D' → DLe D D' → XD mX7_copy 57 [none, some (rV (v1)), some (rV (v2)), none] [] ln D' z Φ) (k2 : ∀ (D' : DD), p = .inr D' → okD D' → DLe D D' → XD mX7_copy 105 [none, some (rV (v1)), none, none] [] ln D' z Φ) : XD mX7_copy 57 [none, some (rV (v1)), some (rV (v2)), none] [] ln D z Φ := by
  unfold fX7_copy_s57 at h
  refine E_aload_n (pc' := 58) dX7_copy_57 rfl rfl ?_
  obtain ⟨r1, q1, h⟩ := bs h
  obtain ⟨g2, h⟩ := gs h
  refine E_callF [] (pc' := 63) dX7_copy_58 rfl F_X7_48_X13 (by decide) ⟨dO_pos g2, dO_is hD g2 rfl⟩ rfl c1_n (cs rfl) c1_n (cs rfl) rfl hD (CX15_hasNext_13 hD rv2 q1) (fun a1 b1 f1 => ?_)
  refine X_if_eq dX7_copy_63 (tgt := 105) rfl (pc' := 66) rfl (inR_b f1) (fun c3 => ?_) (fun c3 => ?_)
  · have h := if_t c3 h
    cases h
    exact X_sub (sub_n (sub_s (sub_n (sub_n sub_0)))) (k2 _ rfl hD (DLe_refl _))
  have h := if_f c3 h
  refine E_aload_n (pc' := 67) dX7_copy_66 rfl rfl ?_
  obtain ⟨⟨r4, D4⟩, q4, h⟩ := bs h
  refine E_callF [] (pc' := 72) dX7_copy_67 rfl F_X7_54_X13 (by decide) ⟨dO_pos g2, dO_is hD g2 rfl⟩ rfl c1_n (cs rfl) c1_n (cs rfl) rfl hD (CX13_next_ hD rv2 q4) (fun a4 b4 f4 => ?_)
  obtain ⟨g5, h⟩ := gs h
  refine E_castY (pc' := 75) dX7_copy_72 rfl tq734 tq739 (dO_pos g5) (dO_is a4 g5 rfl) ?_
  refine E_astore_n (pc' := 76) dX7_copy_75 rfl (cl rfl) (Or.inr (xC1_R _)) (L' := [none, some (rV (v1)), some (rV (v2)), some (rV (r4))]) rfl ?_
  refine E_aload_n (pc' := 77) dX7_copy_76 rfl rfl ?_
  obtain ⟨g6, h⟩ := gs h
  refine E_getR (pc' := 80) dX7_copy_77 rfl FX7_10_7 a4 g6 rfl (j := 6) rfl ?_
  refine E_aload_n (pc' := 81) dX7_copy_80 rfl rfl ?_
  obtain ⟨r7, q7, h⟩ := bs h
  refine E_callF [] (pc' := 86) dX7_copy_81 rfl F_X7_60_X12 (by decide) ⟨dO_pos g5, dO_is a4 g5 rfl⟩ rfl c1_n (cs rfl) (c1_r c1_n) (cs rfl) rfl a4 (CX12_getKey a4 f4 q7) (fun a7 b7 f7 => ?_)
  obtain ⟨g8, h⟩ := gs h
  refine E_cast (pc' := 89) dX7_copy_86 rfl tq745 (box_pos g8) (box_is g8) ?_
  refine E_aload_n (pc' := 90) dX7_copy_89 rfl rfl ?_
  obtain ⟨r9, q9, h⟩ := bs h
  refine E_callF [] (pc' := 95) dX7_copy_90 rfl F_X7_65_X12 (by decide) ⟨dO_pos g5, dO_is a4 g5 rfl⟩ rfl c1_n (cs rfl) (c1_r (c1_r c1_n)) (cs rfl) rfl a4 (CX12_getValue a4 f4 q9) (fun a9 b9 f9 => ?_)
  obtain ⟨g10, h⟩ := gs h
  refine E_cast (pc' := 98) dX7_copy_95 rfl tq745 (box_pos g10) (box_is g10) ?_
  obtain ⟨⟨r11, D11⟩, q11, h⟩ := bs h
  obtain ⟨g12, h⟩ := gs h
  refine E_callV [rV (r7), rV (r9)] (pc' := 101) dX7_copy_98 rfl (xVc VX7_68) (by decide) ⟨dO_pos g12, dO_is a4 g12 rfl⟩ rfl (c1_r (c1_r c1_n)) (cs rfl) c1_n (cs rfl) rfl a4 (CX18_put a4 (gd_slot (k := 6) a4 g6 rfl (by decide)) f7 f9 q11) (fun a11 b11 f11 => ?_)
  refine X_pop (pc' := 102) dX7_copy_101 rfl (rV_cat _) ?_
  refine X_goto dX7_copy_102 (tgt := 57) rfl ?_
  cases h
  exact X_sub (sub_n (sub_s (sub_s (sub_n sub_0)))) (k1 _ rfl a11 (DLe_trans b4 b11))
theorem LX7_copy_57 {ln : Nat} {z : ZZ} {v1 : Int} {v2 : Int} {Φ : xRes → xS → Prop} {r : DD} : ∀ (n : Nat) (D : DD), okD D → gdV D v1 → gdV D v2 → zlp (fun q => fX7_copy_s57 v1 v2 q) n D = some r → (∀ (D' : DD), r = D' → okD D' → DLe D D' → XD mX7_copy 105 [none, some (rV (v1)), none, none] [] ln D' z Φ) → XD mX7_copy 57 [none, some (rV (v1)), some (rV (v2)), none] [] ln D z Φ := by
  intro n
  induction n with
  | zero => intro D hD rv1 rv2 h k2; cases h
  | succ n ih =>
    intro D hD rv1 rv2 h k2
    rcases zlp_s h with ⟨D', e, h'⟩ | e
    · exact SX7_copy_57 hD rv1 rv2 e (fun D₁ hh a b => by cases hh; exact ih _ a (gdV_le b rv1) (gdV_le b rv2) h' (fun D9 hh a' b' => k2 D9 hh a' (DLe_trans b b'))) (fun D9 hh => by cases hh)
    · exact SX7_copy_57 hD rv1 rv2 e (fun D₁ hh => by cases hh) (fun D9 hh a b => by cases hh; exact k2 _ rfl a b )
def fX7_copy (v0 : Int) (D : DD) : Option (Int × DD) := (if dT D < 600000 ∧ dS D + 7 ≤ 7200000 then (zl (dnew D 8 7) fun D2 => (if dO D2 (v0) 8 then (Option.bind (fX7_init ((dT D)) ((dW D2 (v0) 0)) ((dW D2 (v0) 1)) ((dW D2 (v0) 2)) D2) fun D4 => (zl (dup D4 ((dT D)) 3 ((dW D4 (v0) 3))) fun D5 => (zl (dup D5 ((dT D)) 4 ((dW D5 (v0) 4))) fun D6 => (zl (dup D6 ((dT D)) 5 ((dW D6 (v0) 5))) fun D7 => (Option.bind (fX18_entrySet ((dW D7 (v0) 6)) D7) fun q8 => match q8 with | (r8, D8) => (if dO D7 ((dW D7 (v0) 6)) 11 then (Option.bind (fX14_iterator (r8) D8) fun q10 => match q10 with | (r10, D10) => (if dO D8 (r8) 14 then (Option.bind (zlp (fun q => fX7_copy_s57 ((dT D)) (r10) q) FU D10) fun D12 => some ((dT D), D12)) else none)) else none)))))) else none)) else none)
set_option maxRecDepth 100000 in
theorem CX7_copy {ln : Nat} {D : DD} {z : ZZ} {v0 : Int} (hD : okD D) (rv0 : gdV D v0) {p : Int × DD} (h : fX7_copy v0 D = some p) : XD mX7_copy 0 (xEnt [rV (v0)] (xL mX7_copy)) [] ln D z (Qd (FdD D p.2 (gdV p.2 p.1)) (.inl (some (rV p.1))) (sD ln p.2 z)) := by
  have k : K_wR (Qd (FdD D p.2 (gdV p.2 p.1)) (.inl (some (rV p.1))) (sD ln p.2 z)) ln D z p := fun a b c => ⟨⟨a, b, c⟩, rfl, rfl⟩
  unfold fX7_copy at h
  refine E_ent (c1_r c1_n) (M := [some (rV (v0)), none, none, none]) rfl ?_
  obtain ⟨g1, h⟩ := gs h
  refine E_new (c := 7) (n := 7) (pc' := 3) dX7_copy_0 rfl rfl rfl (by decide) tq603 tq604 tq40 hD g1 ?_
  obtain ⟨D2, e2, f2, h⟩ := zl_some (P := fun q => okD q ∧ DLe D q ∧ dO q (dT D) 8) h ⟨okD_dnew hD (by decide) (by decide) g1.1 g1.2, DLe_dnew _ (by decide), dO_dnew hD⟩
  rw [e2]
  refine X_dup (pc' := 4) dX7_copy_3 rfl (rV_cat _) ?_
  refine E_aload_n (pc' := 5) dX7_copy_4 rfl rfl ?_
  obtain ⟨g3, h⟩ := gs h
  refine E_getI (pc' := 8) dX7_copy_5 rfl FX7_16_7 f2.1 g3 rfl (j := 0) rfl ?_
  refine E_aload_n (pc' := 9) dX7_copy_8 rfl rfl ?_
  refine E_getI (pc' := 12) dX7_copy_9 rfl FX7_20_7 f2.1 g3 rfl (j := 1) rfl ?_
  refine E_aload_n (pc' := 13) dX7_copy_12 rfl rfl ?_
  refine E_getI (pc' := 16) dX7_copy_13 rfl FX7_23_7 f2.1 g3 rfl (j := 2) rfl ?_
  obtain ⟨D4, q4, h⟩ := bs h
  refine E_callI (μ := mX7_copy) (μ' := mX7_init) [.int (iN ((dW D2 (v0) 0))), .int (iN ((dW D2 (v0) 1))), .int (iN ((dW D2 (v0) 2)))] (pc' := 19) dX7_copy_16 rfl tq605 IX7_26 (by decide) ⟨f2.2.2.1, f2.2.2.2.1⟩ rfl (c1_i (c1_i (c1_i c1_n))) (cs rfl) (c1_r c1_n) (cs rfl) rfl f2.1 (CX7_init f2.1 (dO_gd f2.2.2 (by decide)) (in_slot (k := 0) f2.1 g3 rfl (by decide)) (in_slot (k := 1) f2.1 g3 rfl (by decide)) (in_slot (k := 2) f2.1 g3 rfl (by decide)) q4) (fun a4 b4 f4 => ?_)
  refine E_astore_n (pc' := 20) dX7_copy_19 rfl (cl rfl) (Or.inr (xC1_R _)) (L' := [some (rV (v0)), some (rV ((dT D))), none, none]) rfl ?_
  refine E_aload_n (pc' := 21) dX7_copy_20 rfl rfl ?_
  refine E_aload_n (pc' := 22) dX7_copy_21 rfl rfl ?_
  refine E_getI (pc' := 25) dX7_copy_22 rfl FX7_29_7 a4 (dO_le b4 g3) rfl (j := 3) rfl ?_
  refine E_putI (pc' := 28) dX7_copy_25 rfl FX7_29_7 a4 (dO_le b4 f2.2.2) rfl (fun r hr => by cases hr; exact Or.inl rfl) (xFit_int _) (j := 3) rfl ?_
  obtain ⟨D5, e5, f5, h⟩ := zl_some (P := fun q => okD q ∧ DLe D4 q) h ⟨okD_dup (k := 3) a4 (okS_I (dO_le b4 f2.2.2) rfl (by decide) (by decide) (in_slot (k := 3) a4 (dO_le b4 g3) rfl (by decide))), DLe_dup _ _ _ _⟩
  rw [e5]
  refine E_aload_n (pc' := 29) dX7_copy_28 rfl rfl ?_
  refine E_aload_n (pc' := 30) dX7_copy_29 rfl rfl ?_
  refine E_getI (pc' := 33) dX7_copy_30 rfl FX7_32_7 f5.1 (dO_le f5.2 (dO_le b4 g3)) rfl (j := 4) rfl ?_
  refine E_putI (pc' := 36) dX7_copy_33 rfl FX7_32_7 f5.1 (dO_le f5.2 (dO_le b4 f2.2.2)) rfl (fun r hr => by cases hr; exact Or.inl rfl) (xFit_int _) (j := 4) rfl ?_
  obtain ⟨D6, e6, f6, h⟩ := zl_some (P := fun q => okD q ∧ DLe D5 q) h ⟨okD_dup (k := 4) f5.1 (okS_I (dO_le f5.2 (dO_le b4 f2.2.2)) rfl (by decide) (by decide) (in_slot (k := 4) f5.1 (dO_le f5.2 (dO_le b4 g3)) rfl (by decide))), DLe_dup _ _ _ _⟩
  rw [e6]
  refine E_aload_n (pc' := 37) dX7_copy_36 rfl rfl ?_
  refine E_aload_n (pc' := 38) dX7_copy_37 rfl rfl ?_
  refine E_getI (pc' := 41) dX7_copy_38 rfl FX7_35_7 f6.1 (dO_le f6.2 (dO_le f5.2 (dO_le b4 g3))) rfl (j := 5) rfl ?_
  refine E_putI (pc' := 44) dX7_copy_41 rfl FX7_35_7 f6.1 (dO_le f6.2 (dO_le f5.2 (dO_le b4 f2.2.2))) rfl (fun r hr => by cases hr; exact Or.inl rfl) (xFit_int _) (j := 5) rfl ?_
  obtain ⟨D7, e7, f7, h⟩ := zl_some (P := fun q => okD q ∧ DLe D6 q) h ⟨okD_dup (k := 5) f6.1 (okS_I (dO_le f6.2 (dO_le f5.2 (dO_le b4 f2.2.2))) rfl (by decide) (by decide) (in_slot (k := 5) f6.1 (dO_le f6.2 (dO_le f5.2 (dO_le b4 g3))) rfl (by decide))), DLe_dup _ _ _ _⟩
  rw [e7]
  refine E_aload_n (pc' := 45) dX7_copy_44 rfl rfl ?_
  refine E_getR (pc' := 48) dX7_copy_45 rfl FX7_10_7 f7.1 (dO_le f7.2 (dO_le f6.2 (dO_le f5.2 (dO_le b4 g3)))) rfl (j := 6) rfl ?_
  obtain ⟨⟨r8, D8⟩, q8, h⟩ := bs h
  obtain ⟨g9, h⟩ := gs h
  refine E_callV [] (pc' := 51) dX7_copy_48 rfl (xVc VX7_38) (by decide) ⟨dO_pos g9, dO_is f7.1 g9 rfl⟩ rfl c1_n (cs rfl) c1_n (cs rfl) rfl f7.1 (CX18_entrySet f7.1 (gd_slot (k := 6) f7.1 (dO_le f7.2 (dO_le f6.2 (dO_le f5.2 (dO_le b4 g3)))) rfl (by decide)) q8) (fun a8 b8 f8 => ?_)
  obtain ⟨⟨r10, D10⟩, q10, h⟩ := bs h
  obtain ⟨g11, h⟩ := gs h
  refine E_callF [] (pc' := 56) dX7_copy_51 rfl F_X7_42_X14 (by decide) ⟨dO_pos g11, dO_is a8 g11 rfl⟩ rfl c1_n (cs rfl) c1_n (cs rfl) rfl a8 (CX14_iterator a8 f8 q10) (fun a10 b10 f10 => ?_)
  refine E_astore_n (pc' := 57) dX7_copy_56 rfl (cl rfl) (Or.inr (xC1_R _)) (L' := [some (rV (v0)), some (rV ((dT D))), some (rV (r10)), none]) rfl ?_
  obtain ⟨D12, q12, h⟩ := bs h
  refine X_sub (sub_n (sub_s (sub_s (sub_n sub_0)))) (LX7_copy_57 FU _ a10 (gdV_le b10 (gdV_le b8 (gdV_le f7.2 (gdV_le f6.2 (gdV_le f5.2 (gdV_le b4 (dO_gd f2.2.2 (by decide)))))))) f10 q12 (fun D12₁ hh hD12 le12 => ?_))
  cases hh
  refine E_aload_n (pc' := 106) dX7_copy_105 rfl rfl ?_
  cases h
  exact E_aret dX7_copy_106 rfl (Or.inl ⟨_, rfl⟩) (k hD12 (DLe_trans (DLe_trans (DLe_trans (DLe_trans (DLe_trans (DLe_trans (DLe_trans f2.2.1 b4) f5.2) f6.2) f7.2) b8) b10) le12) (gdV_le le12 (gdV_le b10 (gdV_le b8 (gdV_le f7.2 (gdV_le f6.2 (gdV_le f5.2 (gdV_le b4 (dO_gd f2.2.2 (by decide))))))))))
def fX6_init__s127 (v0 : Int) (v1 : Int) (v2 : Int) (D : DD) : Option ((DD) ⊕ (DD)) := (Option.bind (fJx35411_hasNext_aae02 (v2) D) fun r1 => (if dO D (v2) 10 then (if (r1) = (0) then some (.inr D) else (Option.bind (fJx35411_next_0502b (v2) D) fun q4 => match q4 with | (r4, D4) => (if dO D4 (r4) 20 then (if dO D4 (v0) 7 then (if dT D4 < 600000 ∧ dS D4 + ((dH D4 (r4)).2 : Int) ≤ 7200000 then (zl (dcln D4 (r4) (dH D4 (r4)).2) fun D8 => (Option.bind (fJx4a65c_add_9ea2d ((dW D4 (v0) 4)) ((dT D4)) D8) fun q9 => match q9 with | (r9, D9) => (if dO D8 ((dW D4 (v0) 4)) 9 then some (.inl D9) else none))) else none) else none) else none))) else none))
set_option maxRecDepth 100000 in
theorem SX6_init__127 {ln : Nat} {D : DD} {z : ZZ} {v0 : Int} {v1 : Int} {v2 : Int} {Φ : xRes → xS → Prop} (hD : okD D) (rv0 : gdV D v0) (rv1 : gdV D v1) (rv2 : gdV D v2) {p : (DD) ⊕ (DD)} (h : fX6_init__s127 v0 v1 v2 D = some p) (k1 : ∀ (D' : DD), p = .inl D' → okD D' → DLe D D' → XD mX6_init_ 127 [some (rV (v0)), some (rV (v1)), some (rV (v2)), none] [] ln D' z Φ) (k2 : ∀ (D' : DD), p = .inr D' → okD D' → DLe D D' → XD mX6_init_ 164 [some (rV (v0)), some (rV (v1)), none, none] [] ln D' z Φ) : XD mX6_init_ 127 [some (rV (v0)), some (rV (v1)), some (rV (v2)), none] [] ln D z Φ := by
  unfold fX6_init__s127 at h
  refine E_aload_n (pc' := 128) dX6_init__127 rfl rfl ?_
  obtain ⟨r1, q1, h⟩ := bs h
  obtain ⟨g2, h⟩ := gs h
  refine E_callF [] (pc' := 133) dX6_init__128 rfl F_X6_50_Jx35411 (by decide) ⟨dO_pos g2, dO_is hD g2 rfl⟩ rfl c1_n (cs rfl) c1_n (cs rfl) rfl hD (CJx35411_hasNext_aae02 hD rv2 q1) (fun a1 b1 f1 => ?_)
  refine X_if_eq dX6_init__133 (tgt := 164) rfl (pc' := 136) rfl (inR_b f1) (fun c3 => ?_) (fun c3 => ?_)
  · have h := if_t c3 h
    cases h
    exact X_sub (sub_s (sub_s (sub_n (sub_n sub_0)))) (k2 _ rfl hD (DLe_refl _))
  have h := if_f c3 h
  refine E_aload_n (pc' := 137) dX6_init__136 rfl rfl ?_
  obtain ⟨⟨r4, D4⟩, q4, h⟩ := bs h
  refine E_callF [] (pc' := 142) dX6_init__137 rfl F_X6_56_Jx35411 (by decide) ⟨dO_pos g2, dO_is hD g2 rfl⟩ rfl c1_n (cs rfl) c1_n (cs rfl) rfl hD (CJx35411_next_0502b hD rv2 q4) (fun a4 b4 f4 => ?_)
  obtain ⟨g5, h⟩ := gs h
  refine E_cast (pc' := 145) dX6_init__142 rfl tq526 (dO_pos g5) (dO_isI a4 g5) ?_
  refine E_astore_n (pc' := 146) dX6_init__145 rfl (cl rfl) (Or.inr (xC1_R _)) (L' := [some (rV (v0)), some (rV (v1)), some (rV (v2)), some (rV (r4))]) rfl ?_
  refine E_aload_n (pc' := 147) dX6_init__146 rfl rfl ?_
  obtain ⟨g6, h⟩ := gs h
  refine E_getR (pc' := 150) dX6_init__147 rfl FX6_24_6 a4 g6 rfl (j := 4) rfl ?_
  refine E_aload_n (pc' := 151) dX6_init__150 rfl rfl ?_
  obtain ⟨g7, h⟩ := gs h
  refine E_clone (pc' := 154) dX6_init__151 rfl tq527 (c1_r c1_n) (cs rfl) a4 g5 g7 ?_
  obtain ⟨D8, e8, f8, h⟩ := zl_some (P := fun q => okD q ∧ DLe D4 q ∧ dO q (dT D4) 20) h ⟨okD_dcln a4 (sz_le a4 g5) ⟨g5.1, g5.2.1⟩ g5.2.2 g7.1 g7.2, DLe_dcln _ _ _, dO_dcln a4⟩
  rw [e8]
  refine E_cast (pc' := 157) dX6_init__154 rfl tq526 (dO_pos f8.2.2) (dO_isI f8.1 f8.2.2) ?_
  obtain ⟨⟨r9, D9⟩, q9, h⟩ := bs h
  obtain ⟨g10, h⟩ := gs h
  refine E_callV [rV ((dT D4))] (pc' := 160) dX6_init__157 rfl (xVc VX6_65) (by decide) ⟨dO_pos g10, dO_is f8.1 g10 rfl⟩ rfl (c1_r c1_n) (cs rfl) c1_n (cs rfl) rfl f8.1 (CJx4a65c_add_9ea2d f8.1 (gdV_le f8.2.1 (gd_slot (k := 4) a4 g6 rfl (by decide))) (dO_gd f8.2.2 (by decide)) q9) (fun a9 b9 f9 => ?_)
  refine X_pop (pc' := 161) dX6_init__160 rfl rfl ?_
  refine X_goto dX6_init__161 (tgt := 127) rfl ?_
  cases h
  exact X_sub (sub_s (sub_s (sub_s (sub_n sub_0)))) (k1 _ rfl a9 (DLe_trans (DLe_trans b4 f8.2.1) b9))
theorem LX6_init__127 {ln : Nat} {z : ZZ} {v0 : Int} {v1 : Int} {v2 : Int} {Φ : xRes → xS → Prop} {r : DD} : ∀ (n : Nat) (D : DD), okD D → gdV D v0 → gdV D v1 → gdV D v2 → zlp (fun q => fX6_init__s127 v0 v1 v2 q) n D = some r → (∀ (D' : DD), r = D' → okD D' → DLe D D' → XD mX6_init_ 164 [some (rV (v0)), some (rV (v1)), none, none] [] ln D' z Φ) → XD mX6_init_ 127 [some (rV (v0)), some (rV (v1)), some (rV (v2)), none] [] ln D z Φ := by
  intro n
  induction n with
  | zero => intro D hD rv0 rv1 rv2 h k2; cases h
  | succ n ih =>
    intro D hD rv0 rv1 rv2 h k2
    rcases zlp_s h with ⟨D', e, h'⟩ | e
    · exact SX6_init__127 hD rv0 rv1 rv2 e (fun D₁ hh a b => by cases hh; exact ih _ a (gdV_le b rv0) (gdV_le b rv1) (gdV_le b rv2) h' (fun D9 hh a' b' => k2 D9 hh a' (DLe_trans b b'))) (fun D9 hh => by cases hh)
    · exact SX6_init__127 hD rv0 rv1 rv2 e (fun D₁ hh => by cases hh) (fun D9 hh a b => by cases hh; exact k2 _ rfl a b )
def fX6_init__s172 (v0 : Int) (v1 : Int) (v2 : Int) (D : DD) : Option ((DD) ⊕ (DD)) := (Option.bind (fJx35411_hasNext_aae02 (v2) D) fun r1 => (if dO D (v2) 10 then (if (r1) = (0) then some (.inr D) else (Option.bind (fJx35411_next_0502b (v2) D) fun q4 => match q4 with | (r4, D4) => (if dO D4 (r4) 8 then (if dO D4 (v0) 7 then (Option.bind (fX7_copy (r4) D4) fun q7 => match q7 with | (r7, D7) => (Option.bind (fJx4a65c_add_9ea2d ((dW D4 (v0) 5)) (r7) D7) fun q8 => match q8 with | (r8, D8) => (if dO D7 ((dW D4 (v0) 5)) 9 then some (.inl D8) else none))) else none) else none))) else none))
set_option maxRecDepth 100000 in
theorem SX6_init__172 {ln : Nat} {D : DD} {z : ZZ} {v0 : Int} {v1 : Int} {v2 : Int} {Φ : xRes → xS → Prop} (hD : okD D) (rv0 : gdV D v0) (rv1 : gdV D v1) (rv2 : gdV D v2) {p : (DD) ⊕ (DD)} (h : fX6_init__s172 v0 v1 v2 D = some p) (k1 : ∀ (D' : DD), p = .inl D' → okD D' → DLe D D' → XD mX6_init_ 172 [some (rV (v0)), some (rV (v1)), some (rV (v2)), none] [] ln D' z Φ) (k2 : ∀ (D' : DD), p = .inr D' → okD D' → DLe D D' → XD mX6_init_ 206 [some (rV (v0)), some (rV (v1)), none, none] [] ln D' z Φ) : XD mX6_init_ 172 [some (rV (v0)), some (rV (v1)), some (rV (v2)), none] [] ln D z Φ := by
  unfold fX6_init__s172 at h
  refine E_aload_n (pc' := 173) dX6_init__172 rfl rfl ?_
  obtain ⟨r1, q1, h⟩ := bs h
  obtain ⟨g2, h⟩ := gs h
  refine E_callF [] (pc' := 178) dX6_init__173 rfl F_X6_50_Jx35411 (by decide) ⟨dO_pos g2, dO_is hD g2 rfl⟩ rfl c1_n (cs rfl) c1_n (cs rfl) rfl hD (CJx35411_hasNext_aae02 hD rv2 q1) (fun a1 b1 f1 => ?_)
  refine X_if_eq dX6_init__178 (tgt := 206) rfl (pc' := 181) rfl (inR_b f1) (fun c3 => ?_) (fun c3 => ?_)
  · have h := if_t c3 h
    cases h
    exact X_sub (sub_s (sub_s (sub_n (sub_n sub_0)))) (k2 _ rfl hD (DLe_refl _))
  have h := if_f c3 h
  refine E_aload_n (pc' := 182) dX6_init__181 rfl rfl ?_
  obtain ⟨⟨r4, D4⟩, q4, h⟩ := bs h
  refine E_callF [] (pc' := 187) dX6_init__182 rfl F_X6_56_Jx35411 (by decide) ⟨dO_pos g2, dO_is hD g2 rfl⟩ rfl c1_n (cs rfl) c1_n (cs rfl) rfl hD (CJx35411_next_0502b hD rv2 q4) (fun a4 b4 f4 => ?_)
  obtain ⟨g5, h⟩ := gs h
  refine E_cast (pc' := 190) dX6_init__187 rfl tq598 (dO_pos g5) (dO_is a4 g5 rfl) ?_
  refine E_astore_n (pc' := 191) dX6_init__190 rfl (cl rfl) (Or.inr (xC1_R _)) (L' := [some (rV (v0)), some (rV (v1)), some (rV (v2)), some (rV (r4))]) rfl ?_
  refine E_aload_n (pc' := 192) dX6_init__191 rfl rfl ?_
  obtain ⟨g6, h⟩ := gs h
  refine E_getR (pc' := 195) dX6_init__192 rfl FX6_28_6 a4 g6 rfl (j := 5) rfl ?_
  refine E_aload_n (pc' := 196) dX6_init__195 rfl rfl ?_
  obtain ⟨⟨r7, D7⟩, q7, h⟩ := bs h
  refine E_callV [] (pc' := 199) dX6_init__196 rfl (xVc VX6_71) (by decide) ⟨dO_pos g5, dO_is a4 g5 rfl⟩ rfl c1_n (cs rfl) (c1_r c1_n) (cs rfl) rfl a4 (CX7_copy a4 f4 q7) (fun a7 b7 f7 => ?_)
  obtain ⟨⟨r8, D8⟩, q8, h⟩ := bs h
  obtain ⟨g9, h⟩ := gs h
  refine E_callV [rV (r7)] (pc' := 202) dX6_init__199 rfl (xVc VX6_65) (by decide) ⟨dO_pos g9, dO_is a7 g9 rfl⟩ rfl (c1_r c1_n) (cs rfl) c1_n (cs rfl) rfl a7 (CJx4a65c_add_9ea2d a7 (gdV_le b7 (gd_slot (k := 5) a4 g6 rfl (by decide))) f7 q8) (fun a8 b8 f8 => ?_)
  refine X_pop (pc' := 203) dX6_init__202 rfl rfl ?_
  refine X_goto dX6_init__203 (tgt := 172) rfl ?_
  cases h
  exact X_sub (sub_s (sub_s (sub_s (sub_n sub_0)))) (k1 _ rfl a8 (DLe_trans (DLe_trans b4 b7) b8))
theorem LX6_init__172 {ln : Nat} {z : ZZ} {v0 : Int} {v1 : Int} {v2 : Int} {Φ : xRes → xS → Prop} {r : DD} : ∀ (n : Nat) (D : DD), okD D → gdV D v0 → gdV D v1 → gdV D v2 → zlp (fun q => fX6_init__s172 v0 v1 v2 q) n D = some r → (∀ (D' : DD), r = D' → okD D' → DLe D D' → XD mX6_init_ 206 [some (rV (v0)), some (rV (v1)), none, none] [] ln D' z Φ) → XD mX6_init_ 172 [some (rV (v0)), some (rV (v1)), some (rV (v2)), none] [] ln D z Φ := by
  intro n
  induction n with
  | zero => intro D hD rv0 rv1 rv2 h k2; cases h
  | succ n ih =>
    intro D hD rv0 rv1 rv2 h k2
    rcases zlp_s h with ⟨D', e, h'⟩ | e
    · exact SX6_init__172 hD rv0 rv1 rv2 e (fun D₁ hh a b => by cases hh; exact ih _ a (gdV_le b rv0) (gdV_le b rv1) (gdV_le b rv2) h' (fun D9 hh a' b' => k2 D9 hh a' (DLe_trans b b'))) (fun D9 hh => by cases hh)
    · exact SX6_init__172 hD rv0 rv1 rv2 e (fun D₁ hh => by cases hh) (fun D9 hh a b => by cases hh; exact k2 _ rfl a b )
def fX6_init__s214 (v0 : Int) (v1 : Int) (v2 : Int) (D : DD) : Option ((DD) ⊕ (DD)) := (Option.bind (fJx35411_hasNext_aae02 (v2) D) fun r1 => (if dO D (v2) 10 then (if (r1) = (0) then some (.inr D) else (Option.bind (fJx35411_next_0502b (v2) D) fun q4 => match q4 with | (r4, D4) => (if dO D4 (r4) 20 then (if dO D4 (v0) 7 then (if dT D4 < 600000 ∧ dS D4 + ((dH D4 (r4)).2 : Int) ≤ 7200000 then (zl (dcln D4 (r4) (dH D4 (r4)).2) fun D8 => (Option.bind (fJx4a65c_add_9ea2d ((dW D4 (v0) 6)) ((dT D4)) D8) fun q9 => match q9 with | (r9, D9) => (if dO D8 ((dW D4 (v0) 6)) 9 then some (.inl D9) else none))) else none) else none) else none))) else none))
set_option maxRecDepth 100000 in
theorem SX6_init__214 {ln : Nat} {D : DD} {z : ZZ} {v0 : Int} {v1 : Int} {v2 : Int} {Φ : xRes → xS → Prop} (hD : okD D) (rv0 : gdV D v0) (rv1 : gdV D v1) (rv2 : gdV D v2) {p : (DD) ⊕ (DD)} (h : fX6_init__s214 v0 v1 v2 D = some p) (k1 : ∀ (D' : DD), p = .inl D' → okD D' → DLe D D' → XD mX6_init_ 214 [some (rV (v0)), some (rV (v1)), some (rV (v2)), none] [] ln D' z Φ) (k2 : ∀ (D' : DD), p = .inr D' → okD D' → DLe D D' → XD mX6_init_ 251 [some (rV (v0)), some (rV (v1)), none, none] [] ln D' z Φ) : XD mX6_init_ 214 [some (rV (v0)), some (rV (v1)), some (rV (v2)), none] [] ln D z Φ := by
  unfold fX6_init__s214 at h
  refine E_aload_n (pc' := 215) dX6_init__214 rfl rfl ?_
  obtain ⟨r1, q1, h⟩ := bs h
  obtain ⟨g2, h⟩ := gs h
  refine E_callF [] (pc' := 220) dX6_init__215 rfl F_X6_50_Jx35411 (by decide) ⟨dO_pos g2, dO_is hD g2 rfl⟩ rfl c1_n (cs rfl) c1_n (cs rfl) rfl hD (CJx35411_hasNext_aae02 hD rv2 q1) (fun a1 b1 f1 => ?_)
  refine X_if_eq dX6_init__220 (tgt := 251) rfl (pc' := 223) rfl (inR_b f1) (fun c3 => ?_) (fun c3 => ?_)
  · have h := if_t c3 h
    cases h
    exact X_sub (sub_s (sub_s (sub_n (sub_n sub_0)))) (k2 _ rfl hD (DLe_refl _))
  have h := if_f c3 h
  refine E_aload_n (pc' := 224) dX6_init__223 rfl rfl ?_
  obtain ⟨⟨r4, D4⟩, q4, h⟩ := bs h
  refine E_callF [] (pc' := 229) dX6_init__224 rfl F_X6_56_Jx35411 (by decide) ⟨dO_pos g2, dO_is hD g2 rfl⟩ rfl c1_n (cs rfl) c1_n (cs rfl) rfl hD (CJx35411_next_0502b hD rv2 q4) (fun a4 b4 f4 => ?_)
  obtain ⟨g5, h⟩ := gs h
  refine E_cast (pc' := 232) dX6_init__229 rfl tq526 (dO_pos g5) (dO_isI a4 g5) ?_
  refine E_astore_n (pc' := 233) dX6_init__232 rfl (cl rfl) (Or.inr (xC1_R _)) (L' := [some (rV (v0)), some (rV (v1)), some (rV (v2)), some (rV (r4))]) rfl ?_
  refine E_aload_n (pc' := 234) dX6_init__233 rfl rfl ?_
  obtain ⟨g6, h⟩ := gs h
  refine E_getR (pc' := 237) dX6_init__234 rfl FX6_31_6 a4 g6 rfl (j := 6) rfl ?_
  refine E_aload_n (pc' := 238) dX6_init__237 rfl rfl ?_
  obtain ⟨g7, h⟩ := gs h
  refine E_clone (pc' := 241) dX6_init__238 rfl tq527 (c1_r c1_n) (cs rfl) a4 g5 g7 ?_
  obtain ⟨D8, e8, f8, h⟩ := zl_some (P := fun q => okD q ∧ DLe D4 q ∧ dO q (dT D4) 20) h ⟨okD_dcln a4 (sz_le a4 g5) ⟨g5.1, g5.2.1⟩ g5.2.2 g7.1 g7.2, DLe_dcln _ _ _, dO_dcln a4⟩
  rw [e8]
  refine E_cast (pc' := 244) dX6_init__241 rfl tq526 (dO_pos f8.2.2) (dO_isI f8.1 f8.2.2) ?_
  obtain ⟨⟨r9, D9⟩, q9, h⟩ := bs h
  obtain ⟨g10, h⟩ := gs h
  refine E_callV [rV ((dT D4))] (pc' := 247) dX6_init__244 rfl (xVc VX6_65) (by decide) ⟨dO_pos g10, dO_is f8.1 g10 rfl⟩ rfl (c1_r c1_n) (cs rfl) c1_n (cs rfl) rfl f8.1 (CJx4a65c_add_9ea2d f8.1 (gdV_le f8.2.1 (gd_slot (k := 6) a4 g6 rfl (by decide))) (dO_gd f8.2.2 (by decide)) q9) (fun a9 b9 f9 => ?_)
  refine X_pop (pc' := 248) dX6_init__247 rfl rfl ?_
  refine X_goto dX6_init__248 (tgt := 214) rfl ?_
  cases h
  exact X_sub (sub_s (sub_s (sub_s (sub_n sub_0)))) (k1 _ rfl a9 (DLe_trans (DLe_trans b4 f8.2.1) b9))
theorem LX6_init__214 {ln : Nat} {z : ZZ} {v0 : Int} {v1 : Int} {v2 : Int} {Φ : xRes → xS → Prop} {r : DD} : ∀ (n : Nat) (D : DD), okD D → gdV D v0 → gdV D v1 → gdV D v2 → zlp (fun q => fX6_init__s214 v0 v1 v2 q) n D = some r → (∀ (D' : DD), r = D' → okD D' → DLe D D' → XD mX6_init_ 251 [some (rV (v0)), some (rV (v1)), none, none] [] ln D' z Φ) → XD mX6_init_ 214 [some (rV (v0)), some (rV (v1)), some (rV (v2)), none] [] ln D z Φ := by
  intro n
  induction n with
  | zero => intro D hD rv0 rv1 rv2 h k2; cases h
  | succ n ih =>
    intro D hD rv0 rv1 rv2 h k2
    rcases zlp_s h with ⟨D', e, h'⟩ | e
    · exact SX6_init__214 hD rv0 rv1 rv2 e (fun D₁ hh a b => by cases hh; exact ih _ a (gdV_le b rv0) (gdV_le b rv1) (gdV_le b rv2) h' (fun D9 hh a' b' => k2 D9 hh a' (DLe_trans b b'))) (fun D9 hh => by cases hh)
    · exact SX6_init__214 hD rv0 rv1 rv2 e (fun D₁ hh => by cases hh) (fun D9 hh a b => by cases hh; exact k2 _ rfl a b )
def fX6_init__s259 (v0 : Int) (v1 : Int) (v2 : Int) (D : DD) : Option ((DD) ⊕ (DD)) := (Option.bind (fJx35411_hasNext_aae02 (v2) D) fun r1 => (if dO D (v2) 10 then (if (r1) = (0) then some (.inr D) else (Option.bind (fJx35411_next_0502b (v2) D) fun q4 => match q4 with | (r4, D4) => (if dO D4 (r4) 20 then (if dO D4 (v0) 7 then (if dT D4 < 600000 ∧ dS D4 + ((dH D4 (r4)).2 : Int) ≤ 7200000 then (zl (dcln D4 (r4) (dH D4 (r4)).2) fun D8 => (Option.bind (fJx4a65c_add_9ea2d ((dW D4 (v0) 7)) ((dT D4)) D8) fun q9 => match q9 with | (r9, D9) => (if dO D8 ((dW D4 (v0) 7)) 9 then some (.inl D9) else none))) else none) else none) else none))) else none))
set_option maxRecDepth 100000 in
theorem SX6_init__259 {ln : Nat} {D : DD} {z : ZZ} {v0 : Int} {v1 : Int} {v2 : Int} {Φ : xRes → xS → Prop} (hD : okD D) (rv0 : gdV D v0) (rv1 : gdV D v1) (rv2 : gdV D v2) {p : (DD) ⊕ (DD)} (h : fX6_init__s259 v0 v1 v2 D = some p) (k1 : ∀ (D' : DD), p = .inl D' → okD D' → DLe D D' → XD mX6_init_ 259 [some (rV (v0)), some (rV (v1)), some (rV (v2)), none] [] ln D' z Φ) (k2 : ∀ (D' : DD), p = .inr D' → okD D' → DLe D D' → XD mX6_init_ 296 [some (rV (v0)), some (rV (v1)), none, none] [] ln D' z Φ) : XD mX6_init_ 259 [some (rV (v0)), some (rV (v1)), some (rV (v2)), none] [] ln D z Φ := by
  unfold fX6_init__s259 at h
  refine E_aload_n (pc' := 260) dX6_init__259 rfl rfl ?_
  obtain ⟨r1, q1, h⟩ := bs h
  obtain ⟨g2, h⟩ := gs h
  refine E_callF [] (pc' := 265) dX6_init__260 rfl F_X6_50_Jx35411 (by decide) ⟨dO_pos g2, dO_is hD g2 rfl⟩ rfl c1_n (cs rfl) c1_n (cs rfl) rfl hD (CJx35411_hasNext_aae02 hD rv2 q1) (fun a1 b1 f1 => ?_)
  refine X_if_eq dX6_init__265 (tgt := 296) rfl (pc' := 268) rfl (inR_b f1) (fun c3 => ?_) (fun c3 => ?_)
  · have h := if_t c3 h
    cases h
    exact X_sub (sub_s (sub_s (sub_n (sub_n sub_0)))) (k2 _ rfl hD (DLe_refl _))
  have h := if_f c3 h
  refine E_aload_n (pc' := 269) dX6_init__268 rfl rfl ?_
  obtain ⟨⟨r4, D4⟩, q4, h⟩ := bs h
  refine E_callF [] (pc' := 274) dX6_init__269 rfl F_X6_56_Jx35411 (by decide) ⟨dO_pos g2, dO_is hD g2 rfl⟩ rfl c1_n (cs rfl) c1_n (cs rfl) rfl hD (CJx35411_next_0502b hD rv2 q4) (fun a4 b4 f4 => ?_)
  obtain ⟨g5, h⟩ := gs h
  refine E_cast (pc' := 277) dX6_init__274 rfl tq526 (dO_pos g5) (dO_isI a4 g5) ?_
  refine E_astore_n (pc' := 278) dX6_init__277 rfl (cl rfl) (Or.inr (xC1_R _)) (L' := [some (rV (v0)), some (rV (v1)), some (rV (v2)), some (rV (r4))]) rfl ?_
  refine E_aload_n (pc' := 279) dX6_init__278 rfl rfl ?_
  obtain ⟨g6, h⟩ := gs h
  refine E_getR (pc' := 282) dX6_init__279 rfl FX6_34_6 a4 g6 rfl (j := 7) rfl ?_
  refine E_aload_n (pc' := 283) dX6_init__282 rfl rfl ?_
  obtain ⟨g7, h⟩ := gs h
  refine E_clone (pc' := 286) dX6_init__283 rfl tq527 (c1_r c1_n) (cs rfl) a4 g5 g7 ?_
  obtain ⟨D8, e8, f8, h⟩ := zl_some (P := fun q => okD q ∧ DLe D4 q ∧ dO q (dT D4) 20) h ⟨okD_dcln a4 (sz_le a4 g5) ⟨g5.1, g5.2.1⟩ g5.2.2 g7.1 g7.2, DLe_dcln _ _ _, dO_dcln a4⟩
  rw [e8]
  refine E_cast (pc' := 289) dX6_init__286 rfl tq526 (dO_pos f8.2.2) (dO_isI f8.1 f8.2.2) ?_
  obtain ⟨⟨r9, D9⟩, q9, h⟩ := bs h
  obtain ⟨g10, h⟩ := gs h
  refine E_callV [rV ((dT D4))] (pc' := 292) dX6_init__289 rfl (xVc VX6_65) (by decide) ⟨dO_pos g10, dO_is f8.1 g10 rfl⟩ rfl (c1_r c1_n) (cs rfl) c1_n (cs rfl) rfl f8.1 (CJx4a65c_add_9ea2d f8.1 (gdV_le f8.2.1 (gd_slot (k := 7) a4 g6 rfl (by decide))) (dO_gd f8.2.2 (by decide)) q9) (fun a9 b9 f9 => ?_)
  refine X_pop (pc' := 293) dX6_init__292 rfl rfl ?_
  refine X_goto dX6_init__293 (tgt := 259) rfl ?_
  cases h
  exact X_sub (sub_s (sub_s (sub_s (sub_n sub_0)))) (k1 _ rfl a9 (DLe_trans (DLe_trans b4 f8.2.1) b9))
theorem LX6_init__259 {ln : Nat} {z : ZZ} {v0 : Int} {v1 : Int} {v2 : Int} {Φ : xRes → xS → Prop} {r : DD} : ∀ (n : Nat) (D : DD), okD D → gdV D v0 → gdV D v1 → gdV D v2 → zlp (fun q => fX6_init__s259 v0 v1 v2 q) n D = some r → (∀ (D' : DD), r = D' → okD D' → DLe D D' → XD mX6_init_ 296 [some (rV (v0)), some (rV (v1)), none, none] [] ln D' z Φ) → XD mX6_init_ 259 [some (rV (v0)), some (rV (v1)), some (rV (v2)), none] [] ln D z Φ := by
  intro n
  induction n with
  | zero => intro D hD rv0 rv1 rv2 h k2; cases h
  | succ n ih =>
    intro D hD rv0 rv1 rv2 h k2
    rcases zlp_s h with ⟨D', e, h'⟩ | e
    · exact SX6_init__259 hD rv0 rv1 rv2 e (fun D₁ hh a b => by cases hh; exact ih _ a (gdV_le b rv0) (gdV_le b rv1) (gdV_le b rv2) h' (fun D9 hh a' b' => k2 D9 hh a' (DLe_trans b b'))) (fun D9 hh => by cases hh)
    · exact SX6_init__259 hD rv0 rv1 rv2 e (fun D₁ hh => by cases hh) (fun D9 hh a b => by cases hh; exact k2 _ rfl a b )
def fX6_init__s304 (v0 : Int) (v1 : Int) (v2 : Int) (D : DD) : Option ((DD) ⊕ (DD)) := (Option.bind (fJx35411_hasNext_aae02 (v2) D) fun r1 => (if dO D (v2) 10 then (if (r1) = (0) then some (.inr D) else (Option.bind (fJx35411_next_0502b (v2) D) fun q4 => match q4 with | (r4, D4) => (if dO D4 (r4) 20 then (if dO D4 (v0) 7 then (Option.bind (fJx4a65c_add_9ea2d ((dW D4 (v0) 8)) (r4) D4) fun q7 => match q7 with | (r7, D7) => (if dO D4 ((dW D4 (v0) 8)) 9 then some (.inl D7) else none)) else none) else none))) else none))
set_option maxRecDepth 100000 in
theorem SX6_init__304 {ln : Nat} {D : DD} {z : ZZ} {v0 : Int} {v1 : Int} {v2 : Int} {Φ : xRes → xS → Prop} (hD : okD D) (rv0 : gdV D v0) (rv1 : gdV D v1) (rv2 : gdV D v2) {p : (DD) ⊕ (DD)} (h : fX6_init__s304 v0 v1 v2 D = some p) (k1 : ∀ (D' : DD), p = .inl D' → okD D' → DLe D D' → XD mX6_init_ 304 [some (rV (v0)), some (rV (v1)), some (rV (v2)), none] [] ln D' z Φ) (k2 : ∀ (D' : DD), p = .inr D' → okD D' → DLe D D' → XD mX6_init_ 335 [some (rV (v0)), some (rV (v1)), none, none] [] ln D' z Φ) : XD mX6_init_ 304 [some (rV (v0)), some (rV (v1)), some (rV (v2)), none] [] ln D z Φ := by
  unfold fX6_init__s304 at h
  refine E_aload_n (pc' := 305) dX6_init__304 rfl rfl ?_
  obtain ⟨r1, q1, h⟩ := bs h
  obtain ⟨g2, h⟩ := gs h
  refine E_callF [] (pc' := 310) dX6_init__305 rfl F_X6_50_Jx35411 (by decide) ⟨dO_pos g2, dO_is hD g2 rfl⟩ rfl c1_n (cs rfl) c1_n (cs rfl) rfl hD (CJx35411_hasNext_aae02 hD rv2 q1) (fun a1 b1 f1 => ?_)
  refine X_if_eq dX6_init__310 (tgt := 335) rfl (pc' := 313) rfl (inR_b f1) (fun c3 => ?_) (fun c3 => ?_)
  · have h := if_t c3 h
    cases h
    exact X_sub (sub_s (sub_s (sub_n (sub_n sub_0)))) (k2 _ rfl hD (DLe_refl _))
  have h := if_f c3 h
  refine E_aload_n (pc' := 314) dX6_init__313 rfl rfl ?_
  obtain ⟨⟨r4, D4⟩, q4, h⟩ := bs h
  refine E_callF [] (pc' := 319) dX6_init__314 rfl F_X6_56_Jx35411 (by decide) ⟨dO_pos g2, dO_is hD g2 rfl⟩ rfl c1_n (cs rfl) c1_n (cs rfl) rfl hD (CJx35411_next_0502b hD rv2 q4) (fun a4 b4 f4 => ?_)
  obtain ⟨g5, h⟩ := gs h
  refine E_cast (pc' := 322) dX6_init__319 rfl tq526 (dO_pos g5) (dO_isI a4 g5) ?_
  refine E_astore_n (pc' := 323) dX6_init__322 rfl (cl rfl) (Or.inr (xC1_R _)) (L' := [some (rV (v0)), some (rV (v1)), some (rV (v2)), some (rV (r4))]) rfl ?_
  refine E_aload_n (pc' := 324) dX6_init__323 rfl rfl ?_
  obtain ⟨g6, h⟩ := gs h
  refine E_getR (pc' := 327) dX6_init__324 rfl FX6_37_6 a4 g6 rfl (j := 8) rfl ?_
  refine E_aload_n (pc' := 328) dX6_init__327 rfl rfl ?_
  obtain ⟨⟨r7, D7⟩, q7, h⟩ := bs h
  obtain ⟨g8, h⟩ := gs h
  refine E_callV [rV (r4)] (pc' := 331) dX6_init__328 rfl (xVc VX6_65) (by decide) ⟨dO_pos g8, dO_is a4 g8 rfl⟩ rfl (c1_r c1_n) (cs rfl) c1_n (cs rfl) rfl a4 (CJx4a65c_add_9ea2d a4 (gd_slot (k := 8) a4 g6 rfl (by decide)) f4 q7) (fun a7 b7 f7 => ?_)
  refine X_pop (pc' := 332) dX6_init__331 rfl rfl ?_
  refine X_goto dX6_init__332 (tgt := 304) rfl ?_
  cases h
  exact X_sub (sub_s (sub_s (sub_s (sub_n sub_0)))) (k1 _ rfl a7 (DLe_trans b4 b7))
theorem LX6_init__304 {ln : Nat} {z : ZZ} {v0 : Int} {v1 : Int} {v2 : Int} {Φ : xRes → xS → Prop} {r : DD} : ∀ (n : Nat) (D : DD), okD D → gdV D v0 → gdV D v1 → gdV D v2 → zlp (fun q => fX6_init__s304 v0 v1 v2 q) n D = some r → (∀ (D' : DD), r = D' → okD D' → DLe D D' → XD mX6_init_ 335 [some (rV (v0)), some (rV (v1)), none, none] [] ln D' z Φ) → XD mX6_init_ 304 [some (rV (v0)), some (rV (v1)), some (rV (v2)), none] [] ln D z Φ := by
  intro n
  induction n with
  | zero => intro D hD rv0 rv1 rv2 h k2; cases h
  | succ n ih =>
    intro D hD rv0 rv1 rv2 h k2
    rcases zlp_s h with ⟨D', e, h'⟩ | e
    · exact SX6_init__304 hD rv0 rv1 rv2 e (fun D₁ hh a b => by cases hh; exact ih _ a (gdV_le b rv0) (gdV_le b rv1) (gdV_le b rv2) h' (fun D9 hh a' b' => k2 D9 hh a' (DLe_trans b b'))) (fun D9 hh => by cases hh)
    · exact SX6_init__304 hD rv0 rv1 rv2 e (fun D₁ hh => by cases hh) (fun D9 hh a b => by cases hh; exact k2 _ rfl a b )
def fX6_init__s343 (v0 : Int) (v2 : Int) (D : DD) : Option ((DD) ⊕ (DD)) := (Option.bind (fJx35411_hasNext_aae02 (v2) D) fun r1 => (if dO D (v2) 10 then (if (r1) = (0) then some (.inr D) else (Option.bind (fJx35411_next_0502b (v2) D) fun q4 => match q4 with | (r4, D4) => (if dO D4 (r4) 20 then (if dO D4 (v0) 7 then (Option.bind (fJx4a65c_add_9ea2d ((dW D4 (v0) 9)) (r4) D4) fun q7 => match q7 with | (r7, D7) => (if dO D4 ((dW D4 (v0) 9)) 9 then some (.inl D7) else none)) else none) else none))) else none))
set_option maxRecDepth 100000 in
theorem SX6_init__343 {ln : Nat} {D : DD} {z : ZZ} {v0 : Int} {v2 : Int} {Φ : xRes → xS → Prop} (hD : okD D) (rv0 : gdV D v0) (rv2 : gdV D v2) {p : (DD) ⊕ (DD)} (h : fX6_init__s343 v0 v2 D = some p) (k1 : ∀ (D' : DD), p = .inl D' → okD D' → DLe D D' → XD mX6_init_ 343 [some (rV (v0)), none, some (rV (v2)), none] [] ln D' z Φ) (k2 : ∀ (D' : DD), p = .inr D' → okD D' → DLe D D' → XD mX6_init_ 374 [none, none, none, none] [] ln D' z Φ) : XD mX6_init_ 343 [some (rV (v0)), none, some (rV (v2)), none] [] ln D z Φ := by
  unfold fX6_init__s343 at h
  refine E_aload_n (pc' := 344) dX6_init__343 rfl rfl ?_
  obtain ⟨r1, q1, h⟩ := bs h
  obtain ⟨g2, h⟩ := gs h
  refine E_callF [] (pc' := 349) dX6_init__344 rfl F_X6_50_Jx35411 (by decide) ⟨dO_pos g2, dO_is hD g2 rfl⟩ rfl c1_n (cs rfl) c1_n (cs rfl) rfl hD (CJx35411_hasNext_aae02 hD rv2 q1) (fun a1 b1 f1 => ?_)
  refine X_if_eq dX6_init__349 (tgt := 374) rfl (pc' := 352) rfl (inR_b f1) (fun c3 => ?_) (fun c3 => ?_)
  · have h := if_t c3 h
    cases h
    exact X_sub (sub_n (sub_n (sub_n (sub_n sub_0)))) (k2 _ rfl hD (DLe_refl _))
  have h := if_f c3 h
  refine E_aload_n (pc' := 353) dX6_init__352 rfl rfl ?_
  obtain ⟨⟨r4, D4⟩, q4, h⟩ := bs h
  refine E_callF [] (pc' := 358) dX6_init__353 rfl F_X6_56_Jx35411 (by decide) ⟨dO_pos g2, dO_is hD g2 rfl⟩ rfl c1_n (cs rfl) c1_n (cs rfl) rfl hD (CJx35411_next_0502b hD rv2 q4) (fun a4 b4 f4 => ?_)
  obtain ⟨g5, h⟩ := gs h
  refine E_cast (pc' := 361) dX6_init__358 rfl tq526 (dO_pos g5) (dO_isI a4 g5) ?_
  refine E_astore_n (pc' := 362) dX6_init__361 rfl (cl rfl) (Or.inr (xC1_R _)) (L' := [some (rV (v0)), none, some (rV (v2)), some (rV (r4))]) rfl ?_
  refine E_aload_n (pc' := 363) dX6_init__362 rfl rfl ?_
  obtain ⟨g6, h⟩ := gs h
  refine E_getR (pc' := 366) dX6_init__363 rfl FX6_40_6 a4 g6 rfl (j := 9) rfl ?_
  refine E_aload_n (pc' := 367) dX6_init__366 rfl rfl ?_
  obtain ⟨⟨r7, D7⟩, q7, h⟩ := bs h
  obtain ⟨g8, h⟩ := gs h
  refine E_callV [rV (r4)] (pc' := 370) dX6_init__367 rfl (xVc VX6_65) (by decide) ⟨dO_pos g8, dO_is a4 g8 rfl⟩ rfl (c1_r c1_n) (cs rfl) c1_n (cs rfl) rfl a4 (CJx4a65c_add_9ea2d a4 (gd_slot (k := 9) a4 g6 rfl (by decide)) f4 q7) (fun a7 b7 f7 => ?_)
  refine X_pop (pc' := 371) dX6_init__370 rfl rfl ?_
  refine X_goto dX6_init__371 (tgt := 343) rfl ?_
  cases h
  exact X_sub (sub_s (sub_n (sub_s (sub_n sub_0)))) (k1 _ rfl a7 (DLe_trans b4 b7))
theorem LX6_init__343 {ln : Nat} {z : ZZ} {v0 : Int} {v2 : Int} {Φ : xRes → xS → Prop} {r : DD} : ∀ (n : Nat) (D : DD), okD D → gdV D v0 → gdV D v2 → zlp (fun q => fX6_init__s343 v0 v2 q) n D = some r → (∀ (D' : DD), r = D' → okD D' → DLe D D' → XD mX6_init_ 374 [none, none, none, none] [] ln D' z Φ) → XD mX6_init_ 343 [some (rV (v0)), none, some (rV (v2)), none] [] ln D z Φ := by
  intro n
  induction n with
  | zero => intro D hD rv0 rv2 h k2; cases h
  | succ n ih =>
    intro D hD rv0 rv2 h k2
    rcases zlp_s h with ⟨D', e, h'⟩ | e
    · exact SX6_init__343 hD rv0 rv2 e (fun D₁ hh a b => by cases hh; exact ih _ a (gdV_le b rv0) (gdV_le b rv2) h' (fun D9 hh a' b' => k2 D9 hh a' (DLe_trans b b'))) (fun D9 hh => by cases hh)
    · exact SX6_init__343 hD rv0 rv2 e (fun D₁ hh => by cases hh) (fun D9 hh a b => by cases hh; exact k2 _ rfl a b )
def fX6_init_ (v0 : Int) (v1 : Int) (D : DD) : Option (DD) := (if (151 : Int) ≤ (v0) ∧ (v0 : Int) < dT D ∧ True then (if dO D (v0) 7 then (zl (dup D (v0) 0 (20)) fun D3 => (zl (dup D3 (v0) 1 (2)) fun D4 => (zl (dup D4 (v0) 2 (50)) fun D5 => (if dT D5 < 600000 ∧ dS D5 + 3 ≤ 7200000 then (zl (dnew D5 9 3) fun D7 => (Option.bind (fJx4a65c_init_da8c8 ((dT D5)) D7) fun D8 => (zl (dup D8 (v0) 4 ((dT D5))) fun D9 => (if dT D9 < 600000 ∧ dS D9 + 3 ≤ 7200000 then (zl (dnew D9 9 3) fun D11 => (Option.bind (fJx4a65c_init_da8c8 ((dT D9)) D11) fun D12 => (zl (dup D12 (v0) 5 ((dT D9))) fun D13 => (if dT D13 < 600000 ∧ dS D13 + 3 ≤ 7200000 then (zl (dnew D13 9 3) fun D15 => (Option.bind (fJx4a65c_init_da8c8 ((dT D13)) D15) fun D16 => (zl (dup D16 (v0) 6 ((dT D13))) fun D17 => (if dT D17 < 600000 ∧ dS D17 + 3 ≤ 7200000 then (zl (dnew D17 9 3) fun D19 => (Option.bind (fJx4a65c_init_da8c8 ((dT D17)) D19) fun D20 => (zl (dup D20 (v0) 7 ((dT D17))) fun D21 => (if dT D21 < 600000 ∧ dS D21 + 3 ≤ 7200000 then (zl (dnew D21 9 3) fun D23 => (Option.bind (fJx4a65c_init_da8c8 ((dT D21)) D23) fun D24 => (zl (dup D24 (v0) 8 ((dT D21))) fun D25 => (if dT D25 < 600000 ∧ dS D25 + 3 ≤ 7200000 then (zl (dnew D25 9 3) fun D27 => (Option.bind (fJx4a65c_init_da8c8 ((dT D25)) D27) fun D28 => (zl (dup D28 (v0) 9 ((dT D25))) fun D29 => (if dO D29 (v1) 7 then (zl (dup D29 (v0) 0 ((dW D29 (v1) 0))) fun D31 => (zl (dup D31 (v0) 1 ((dW D31 (v1) 1))) fun D32 => (zl (dup D32 (v0) 2 ((dW D32 (v1) 2))) fun D33 => (zl (dup D33 (v0) 3 ((dW D33 (v1) 3))) fun D34 => (Option.bind (fJx4a65c_iterator_32c93 ((dW D34 (v1) 4)) D34) fun q35 => match q35 with | (r35, D35) => (if dO D34 ((dW D34 (v1) 4)) 9 then (Option.bind (zlp (fun q => fX6_init__s127 (v0) (v1) (r35) q) FU D35) fun D37 => (Option.bind (fJx4a65c_iterator_32c93 ((dW D37 (v1) 5)) D37) fun q38 => match q38 with | (r38, D38) => (if dO D37 ((dW D37 (v1) 5)) 9 then (Option.bind (zlp (fun q => fX6_init__s172 (v0) (v1) (r38) q) FU D38) fun D40 => (Option.bind (fJx4a65c_iterator_32c93 ((dW D40 (v1) 6)) D40) fun q41 => match q41 with | (r41, D41) => (if dO D40 ((dW D40 (v1) 6)) 9 then (Option.bind (zlp (fun q => fX6_init__s214 (v0) (v1) (r41) q) FU D41) fun D43 => (Option.bind (fJx4a65c_iterator_32c93 ((dW D43 (v1) 7)) D43) fun q44 => match q44 with | (r44, D44) => (if dO D43 ((dW D43 (v1) 7)) 9 then (Option.bind (zlp (fun q => fX6_init__s259 (v0) (v1) (r44) q) FU D44) fun D46 => (Option.bind (fJx4a65c_iterator_32c93 ((dW D46 (v1) 8)) D46) fun q47 => match q47 with | (r47, D47) => (if dO D46 ((dW D46 (v1) 8)) 9 then (Option.bind (zlp (fun q => fX6_init__s304 (v0) (v1) (r47) q) FU D47) fun D49 => (Option.bind (fJx4a65c_iterator_32c93 ((dW D49 (v1) 9)) D49) fun q50 => match q50 with | (r50, D50) => (if dO D49 ((dW D49 (v1) 9)) 9 then (Option.bind (zlp (fun q => fX6_init__s343 (v0) (r50) q) FU D50) fun D52 => some D52) else none))) else none))) else none))) else none))) else none))) else none)))))) else none)))) else none)))) else none)))) else none)))) else none)))) else none)))) else none)))) else none) else none)
set_option maxRecDepth 100000 in
theorem CX6_init_ {ln : Nat} {D : DD} {z : ZZ} {v0 : Int} {v1 : Int} (hD : okD D) (rv0 : gdV D v0) (rv1 : gdV D v1) {p : DD} (h : fX6_init_ v0 v1 D = some p) : XD mX6_init_ 0 (xEnt [rV (v0), rV (v1)] (xL mX6_init_)) [] ln D z (Qd (FdD D p (True)) (.inl (none)) (sD ln p z)) := by
  have k : K_w (Qd (FdD D p (True)) (.inl (none)) (sD ln p z)) ln D z p := fun a b c => ⟨⟨a, b, c⟩, rfl, rfl⟩
  unfold fX6_init_ at h
  refine E_ent (c1_r (c1_r c1_n)) (M := [some (rV (v0)), some (rV (v1)), none, none]) rfl ?_
  refine E_aload_n (pc' := 1) dX6_init__0 rfl rfl ?_
  obtain ⟨g1, h⟩ := gs h
  refine E_objInit (μ := mX6_init_) (pc' := 4) dX6_init__1 rfl tq415 tq53 tq54 hD ⟨g1.1, g1.2.1⟩ c1_n (cs rfl) ?_
  refine E_aload_n (pc' := 5) dX6_init__4 rfl rfl ?_
  refine X_bipush (pc' := 7) dX6_init__5 rfl (by decide) ?_
  obtain ⟨g2, h⟩ := gs h
  refine E_putI (pc' := 10) dX6_init__7 rfl FX6_9_6 hD g2 rfl (fun r hr => by cases hr; exact Or.inl rfl) (xFit_int _) (j := 0) rfl ?_
  obtain ⟨D3, e3, f3, h⟩ := zl_some (P := fun q => okD q ∧ DLe D q) h ⟨okD_dup (k := 0) hD (okS_I g2 rfl (by decide) (by decide) (inR_c (n := 20) rfl)), DLe_dup _ _ _ _⟩
  rw [e3]
  refine E_aload_n (pc' := 11) dX6_init__10 rfl rfl ?_
  refine X_iconst (pc' := 12) dX6_init__11 rfl ?_
  refine E_putI (pc' := 15) dX6_init__12 rfl FX6_15_6 f3.1 (dO_le f3.2 g2) rfl (fun r hr => by cases hr; exact Or.inl rfl) (xFit_int _) (j := 1) rfl ?_
  obtain ⟨D4, e4, f4, h⟩ := zl_some (P := fun q => okD q ∧ DLe D3 q) h ⟨okD_dup (k := 1) f3.1 (okS_I (dO_le f3.2 g2) rfl (by decide) (by decide) (inR_c (n := 2) rfl)), DLe_dup _ _ _ _⟩
  rw [e4]
  refine E_aload_n (pc' := 16) dX6_init__15 rfl rfl ?_
  refine X_bipush (pc' := 18) dX6_init__16 rfl (by decide) ?_
  refine E_putI (pc' := 21) dX6_init__18 rfl FX6_18_6 f4.1 (dO_le f4.2 (dO_le f3.2 g2)) rfl (fun r hr => by cases hr; exact Or.inl rfl) (xFit_int _) (j := 2) rfl ?_
  obtain ⟨D5, e5, f5, h⟩ := zl_some (P := fun q => okD q ∧ DLe D4 q) h ⟨okD_dup (k := 2) f4.1 (okS_I (dO_le f4.2 (dO_le f3.2 g2)) rfl (by decide) (by decide) (inR_c (n := 50) rfl)), DLe_dup _ _ _ _⟩
  rw [e5]
  refine E_aload_n (pc' := 22) dX6_init__21 rfl rfl ?_
  obtain ⟨g6, h⟩ := gs h
  refine E_new (c := 8) (n := 3) (pc' := 25) dX6_init__22 rfl rfl rfl (by decide) tq416 tq417 tq23 f5.1 g6 ?_
  obtain ⟨D7, e7, f7, h⟩ := zl_some (P := fun q => okD q ∧ DLe D5 q ∧ dO q (dT D5) 9) h ⟨okD_dnew f5.1 (by decide) (by decide) g6.1 g6.2, DLe_dnew _ (by decide), dO_dnew f5.1⟩
  rw [e7]
  refine X_dup (pc' := 26) dX6_init__25 rfl (rV_cat _) ?_
  obtain ⟨D8, q8, h⟩ := bs h
  refine E_callI (μ := mX6_init_) (μ' := mJx4a65c_init_da8c8) [] (pc' := 29) dX6_init__26 rfl tq418 IX6_23 (by decide) ⟨f7.2.2.1, f7.2.2.2.1⟩ rfl c1_n (cs rfl) (c1_r (c1_r c1_n)) (cs rfl) rfl f7.1 (CJx4a65c_init_da8c8 f7.1 (dO_gd f7.2.2 (by decide)) q8) (fun a8 b8 f8 => ?_)
  refine E_putR (pc' := 32) dX6_init__29 rfl FX6_24_6 a8 (dO_le b8 (dO_le f7.2.1 (dO_le f5.2 (dO_le f4.2 (dO_le f3.2 g2))))) rfl (fun r hr => by cases hr; exact Or.inr ⟨rfl, rfl⟩) (Or.inl ⟨_, rfl⟩) (j := 4) rfl ?_
  obtain ⟨D9, e9, f9, h⟩ := zl_some (P := fun q => okD q ∧ DLe D8 q) h ⟨okD_dup (k := 4) a8 (okS_R (dO_le b8 (dO_le f7.2.1 (dO_le f5.2 (dO_le f4.2 (dO_le f3.2 g2))))) rfl (by decide) (gdV_le b8 (dO_gd f7.2.2 (by decide)))), DLe_dup _ _ _ _⟩
  rw [e9]
  refine E_aload_n (pc' := 33) dX6_init__32 rfl rfl ?_
  obtain ⟨g10, h⟩ := gs h
  refine E_new (c := 8) (n := 3) (pc' := 36) dX6_init__33 rfl rfl rfl (by decide) tq416 tq417 tq23 f9.1 g10 ?_
  obtain ⟨D11, e11, f11, h⟩ := zl_some (P := fun q => okD q ∧ DLe D9 q ∧ dO q (dT D9) 9) h ⟨okD_dnew f9.1 (by decide) (by decide) g10.1 g10.2, DLe_dnew _ (by decide), dO_dnew f9.1⟩
  rw [e11]
  refine X_dup (pc' := 37) dX6_init__36 rfl (rV_cat _) ?_
  obtain ⟨D12, q12, h⟩ := bs h
  refine E_callI (μ := mX6_init_) (μ' := mJx4a65c_init_da8c8) [] (pc' := 40) dX6_init__37 rfl tq418 IX6_23 (by decide) ⟨f11.2.2.1, f11.2.2.2.1⟩ rfl c1_n (cs rfl) (c1_r (c1_r c1_n)) (cs rfl) rfl f11.1 (CJx4a65c_init_da8c8 f11.1 (dO_gd f11.2.2 (by decide)) q12) (fun a12 b12 f12 => ?_)
  refine E_putR (pc' := 43) dX6_init__40 rfl FX6_28_6 a12 (dO_le b12 (dO_le f11.2.1 (dO_le f9.2 (dO_le b8 (dO_le f7.2.1 (dO_le f5.2 (dO_le f4.2 (dO_le f3.2 g2)))))))) rfl (fun r hr => by cases hr; exact Or.inr ⟨rfl, rfl⟩) (Or.inl ⟨_, rfl⟩) (j := 5) rfl ?_
  obtain ⟨D13, e13, f13, h⟩ := zl_some (P := fun q => okD q ∧ DLe D12 q) h ⟨okD_dup (k := 5) a12 (okS_R (dO_le b12 (dO_le f11.2.1 (dO_le f9.2 (dO_le b8 (dO_le f7.2.1 (dO_le f5.2 (dO_le f4.2 (dO_le f3.2 g2)))))))) rfl (by decide) (gdV_le b12 (dO_gd f11.2.2 (by decide)))), DLe_dup _ _ _ _⟩
  rw [e13]
  refine E_aload_n (pc' := 44) dX6_init__43 rfl rfl ?_
  obtain ⟨g14, h⟩ := gs h
  refine E_new (c := 8) (n := 3) (pc' := 47) dX6_init__44 rfl rfl rfl (by decide) tq416 tq417 tq23 f13.1 g14 ?_
  obtain ⟨D15, e15, f15, h⟩ := zl_some (P := fun q => okD q ∧ DLe D13 q ∧ dO q (dT D13) 9) h ⟨okD_dnew f13.1 (by decide) (by decide) g14.1 g14.2, DLe_dnew _ (by decide), dO_dnew f13.1⟩
  rw [e15]
  refine X_dup (pc' := 48) dX6_init__47 rfl (rV_cat _) ?_
  obtain ⟨D16, q16, h⟩ := bs h
  refine E_callI (μ := mX6_init_) (μ' := mJx4a65c_init_da8c8) [] (pc' := 51) dX6_init__48 rfl tq418 IX6_23 (by decide) ⟨f15.2.2.1, f15.2.2.2.1⟩ rfl c1_n (cs rfl) (c1_r (c1_r c1_n)) (cs rfl) rfl f15.1 (CJx4a65c_init_da8c8 f15.1 (dO_gd f15.2.2 (by decide)) q16) (fun a16 b16 f16 => ?_)
  refine E_putR (pc' := 54) dX6_init__51 rfl FX6_31_6 a16 (dO_le b16 (dO_le f15.2.1 (dO_le f13.2 (dO_le b12 (dO_le f11.2.1 (dO_le f9.2 (dO_le b8 (dO_le f7.2.1 (dO_le f5.2 (dO_le f4.2 (dO_le f3.2 g2))))))))))) rfl (fun r hr => by cases hr; exact Or.inr ⟨rfl, rfl⟩) (Or.inl ⟨_, rfl⟩) (j := 6) rfl ?_
  obtain ⟨D17, e17, f17, h⟩ := zl_some (P := fun q => okD q ∧ DLe D16 q) h ⟨okD_dup (k := 6) a16 (okS_R (dO_le b16 (dO_le f15.2.1 (dO_le f13.2 (dO_le b12 (dO_le f11.2.1 (dO_le f9.2 (dO_le b8 (dO_le f7.2.1 (dO_le f5.2 (dO_le f4.2 (dO_le f3.2 g2))))))))))) rfl (by decide) (gdV_le b16 (dO_gd f15.2.2 (by decide)))), DLe_dup _ _ _ _⟩
  rw [e17]
  refine E_aload_n (pc' := 55) dX6_init__54 rfl rfl ?_
  obtain ⟨g18, h⟩ := gs h
  refine E_new (c := 8) (n := 3) (pc' := 58) dX6_init__55 rfl rfl rfl (by decide) tq416 tq417 tq23 f17.1 g18 ?_
  obtain ⟨D19, e19, f19, h⟩ := zl_some (P := fun q => okD q ∧ DLe D17 q ∧ dO q (dT D17) 9) h ⟨okD_dnew f17.1 (by decide) (by decide) g18.1 g18.2, DLe_dnew _ (by decide), dO_dnew f17.1⟩
  rw [e19]
  refine X_dup (pc' := 59) dX6_init__58 rfl (rV_cat _) ?_
  obtain ⟨D20, q20, h⟩ := bs h
  refine E_callI (μ := mX6_init_) (μ' := mJx4a65c_init_da8c8) [] (pc' := 62) dX6_init__59 rfl tq418 IX6_23 (by decide) ⟨f19.2.2.1, f19.2.2.2.1⟩ rfl c1_n (cs rfl) (c1_r (c1_r c1_n)) (cs rfl) rfl f19.1 (CJx4a65c_init_da8c8 f19.1 (dO_gd f19.2.2 (by decide)) q20) (fun a20 b20 f20 => ?_)
  refine E_putR (pc' := 65) dX6_init__62 rfl FX6_34_6 a20 (dO_le b20 (dO_le f19.2.1 (dO_le f17.2 (dO_le b16 (dO_le f15.2.1 (dO_le f13.2 (dO_le b12 (dO_le f11.2.1 (dO_le f9.2 (dO_le b8 (dO_le f7.2.1 (dO_le f5.2 (dO_le f4.2 (dO_le f3.2 g2)))))))))))))) rfl (fun r hr => by cases hr; exact Or.inr ⟨rfl, rfl⟩) (Or.inl ⟨_, rfl⟩) (j := 7) rfl ?_
  obtain ⟨D21, e21, f21, h⟩ := zl_some (P := fun q => okD q ∧ DLe D20 q) h ⟨okD_dup (k := 7) a20 (okS_R (dO_le b20 (dO_le f19.2.1 (dO_le f17.2 (dO_le b16 (dO_le f15.2.1 (dO_le f13.2 (dO_le b12 (dO_le f11.2.1 (dO_le f9.2 (dO_le b8 (dO_le f7.2.1 (dO_le f5.2 (dO_le f4.2 (dO_le f3.2 g2)))))))))))))) rfl (by decide) (gdV_le b20 (dO_gd f19.2.2 (by decide)))), DLe_dup _ _ _ _⟩
  rw [e21]
  refine E_aload_n (pc' := 66) dX6_init__65 rfl rfl ?_
  obtain ⟨g22, h⟩ := gs h
  refine E_new (c := 8) (n := 3) (pc' := 69) dX6_init__66 rfl rfl rfl (by decide) tq416 tq417 tq23 f21.1 g22 ?_
  obtain ⟨D23, e23, f23, h⟩ := zl_some (P := fun q => okD q ∧ DLe D21 q ∧ dO q (dT D21) 9) h ⟨okD_dnew f21.1 (by decide) (by decide) g22.1 g22.2, DLe_dnew _ (by decide), dO_dnew f21.1⟩
  rw [e23]
  refine X_dup (pc' := 70) dX6_init__69 rfl (rV_cat _) ?_
  obtain ⟨D24, q24, h⟩ := bs h
  refine E_callI (μ := mX6_init_) (μ' := mJx4a65c_init_da8c8) [] (pc' := 73) dX6_init__70 rfl tq418 IX6_23 (by decide) ⟨f23.2.2.1, f23.2.2.2.1⟩ rfl c1_n (cs rfl) (c1_r (c1_r c1_n)) (cs rfl) rfl f23.1 (CJx4a65c_init_da8c8 f23.1 (dO_gd f23.2.2 (by decide)) q24) (fun a24 b24 f24 => ?_)
  refine E_putR (pc' := 76) dX6_init__73 rfl FX6_37_6 a24 (dO_le b24 (dO_le f23.2.1 (dO_le f21.2 (dO_le b20 (dO_le f19.2.1 (dO_le f17.2 (dO_le b16 (dO_le f15.2.1 (dO_le f13.2 (dO_le b12 (dO_le f11.2.1 (dO_le f9.2 (dO_le b8 (dO_le f7.2.1 (dO_le f5.2 (dO_le f4.2 (dO_le f3.2 g2))))))))))))))))) rfl (fun r hr => by cases hr; exact Or.inr ⟨rfl, rfl⟩) (Or.inl ⟨_, rfl⟩) (j := 8) rfl ?_
  obtain ⟨D25, e25, f25, h⟩ := zl_some (P := fun q => okD q ∧ DLe D24 q) h ⟨okD_dup (k := 8) a24 (okS_R (dO_le b24 (dO_le f23.2.1 (dO_le f21.2 (dO_le b20 (dO_le f19.2.1 (dO_le f17.2 (dO_le b16 (dO_le f15.2.1 (dO_le f13.2 (dO_le b12 (dO_le f11.2.1 (dO_le f9.2 (dO_le b8 (dO_le f7.2.1 (dO_le f5.2 (dO_le f4.2 (dO_le f3.2 g2))))))))))))))))) rfl (by decide) (gdV_le b24 (dO_gd f23.2.2 (by decide)))), DLe_dup _ _ _ _⟩
  rw [e25]
  refine E_aload_n (pc' := 77) dX6_init__76 rfl rfl ?_
  obtain ⟨g26, h⟩ := gs h
  refine E_new (c := 8) (n := 3) (pc' := 80) dX6_init__77 rfl rfl rfl (by decide) tq416 tq417 tq23 f25.1 g26 ?_
  obtain ⟨D27, e27, f27, h⟩ := zl_some (P := fun q => okD q ∧ DLe D25 q ∧ dO q (dT D25) 9) h ⟨okD_dnew f25.1 (by decide) (by decide) g26.1 g26.2, DLe_dnew _ (by decide), dO_dnew f25.1⟩
  rw [e27]
  refine X_dup (pc' := 81) dX6_init__80 rfl (rV_cat _) ?_
  obtain ⟨D28, q28, h⟩ := bs h
  refine E_callI (μ := mX6_init_) (μ' := mJx4a65c_init_da8c8) [] (pc' := 84) dX6_init__81 rfl tq418 IX6_23 (by decide) ⟨f27.2.2.1, f27.2.2.2.1⟩ rfl c1_n (cs rfl) (c1_r (c1_r c1_n)) (cs rfl) rfl f27.1 (CJx4a65c_init_da8c8 f27.1 (dO_gd f27.2.2 (by decide)) q28) (fun a28 b28 f28 => ?_)
  refine E_putR (pc' := 87) dX6_init__84 rfl FX6_40_6 a28 (dO_le b28 (dO_le f27.2.1 (dO_le f25.2 (dO_le b24 (dO_le f23.2.1 (dO_le f21.2 (dO_le b20 (dO_le f19.2.1 (dO_le f17.2 (dO_le b16 (dO_le f15.2.1 (dO_le f13.2 (dO_le b12 (dO_le f11.2.1 (dO_le f9.2 (dO_le b8 (dO_le f7.2.1 (dO_le f5.2 (dO_le f4.2 (dO_le f3.2 g2)))))))))))))))))))) rfl (fun r hr => by cases hr; exact Or.inr ⟨rfl, rfl⟩) (Or.inl ⟨_, rfl⟩) (j := 9) rfl ?_
  obtain ⟨D29, e29, f29, h⟩ := zl_some (P := fun q => okD q ∧ DLe D28 q) h ⟨okD_dup (k := 9) a28 (okS_R (dO_le b28 (dO_le f27.2.1 (dO_le f25.2 (dO_le b24 (dO_le f23.2.1 (dO_le f21.2 (dO_le b20 (dO_le f19.2.1 (dO_le f17.2 (dO_le b16 (dO_le f15.2.1 (dO_le f13.2 (dO_le b12 (dO_le f11.2.1 (dO_le f9.2 (dO_le b8 (dO_le f7.2.1 (dO_le f5.2 (dO_le f4.2 (dO_le f3.2 g2)))))))))))))))))))) rfl (by decide) (gdV_le b28 (dO_gd f27.2.2 (by decide)))), DLe_dup _ _ _ _⟩
  rw [e29]
  refine E_aload_n (pc' := 88) dX6_init__87 rfl rfl ?_
  refine E_aload_n (pc' := 89) dX6_init__88 rfl rfl ?_
  obtain ⟨g30, h⟩ := gs h
  refine E_getI (pc' := 92) dX6_init__89 rfl FX6_9_6 f29.1 g30 rfl (j := 0) rfl ?_
  refine E_putI (pc' := 95) dX6_init__92 rfl FX6_9_6 f29.1 (dO_le f29.2 (dO_le b28 (dO_le f27.2.1 (dO_le f25.2 (dO_le b24 (dO_le f23.2.1 (dO_le f21.2 (dO_le b20 (dO_le f19.2.1 (dO_le f17.2 (dO_le b16 (dO_le f15.2.1 (dO_le f13.2 (dO_le b12 (dO_le f11.2.1 (dO_le f9.2 (dO_le b8 (dO_le f7.2.1 (dO_le f5.2 (dO_le f4.2 (dO_le f3.2 g2))))))))))))))))))))) rfl (fun r hr => by cases hr; exact Or.inl rfl) (xFit_int _) (j := 0) rfl ?_
  obtain ⟨D31, e31, f31, h⟩ := zl_some (P := fun q => okD q ∧ DLe D29 q) h ⟨okD_dup (k := 0) f29.1 (okS_I (dO_le f29.2 (dO_le b28 (dO_le f27.2.1 (dO_le f25.2 (dO_le b24 (dO_le f23.2.1 (dO_le f21.2 (dO_le b20 (dO_le f19.2.1 (dO_le f17.2 (dO_le b16 (dO_le f15.2.1 (dO_le f13.2 (dO_le b12 (dO_le f11.2.1 (dO_le f9.2 (dO_le b8 (dO_le f7.2.1 (dO_le f5.2 (dO_le f4.2 (dO_le f3.2 g2))))))))))))))))))))) rfl (by decide) (by decide) (in_slot (k := 0) f29.1 g30 rfl (by decide))), DLe_dup _ _ _ _⟩
  rw [e31]
  refine E_aload_n (pc' := 96) dX6_init__95 rfl rfl ?_
  refine E_aload_n (pc' := 97) dX6_init__96 rfl rfl ?_
  refine E_getI (pc' := 100) dX6_init__97 rfl FX6_15_6 f31.1 (dO_le f31.2 g30) rfl (j := 1) rfl ?_
  refine E_putI (pc' := 103) dX6_init__100 rfl FX6_15_6 f31.1 (dO_le f31.2 (dO_le f29.2 (dO_le b28 (dO_le f27.2.1 (dO_le f25.2 (dO_le b24 (dO_le f23.2.1 (dO_le f21.2 (dO_le b20 (dO_le f19.2.1 (dO_le f17.2 (dO_le b16 (dO_le f15.2.1 (dO_le f13.2 (dO_le b12 (dO_le f11.2.1 (dO_le f9.2 (dO_le b8 (dO_le f7.2.1 (dO_le f5.2 (dO_le f4.2 (dO_le f3.2 g2)))))))))))))))))))))) rfl (fun r hr => by cases hr; exact Or.inl rfl) (xFit_int _) (j := 1) rfl ?_
  obtain ⟨D32, e32, f32, h⟩ := zl_some (P := fun q => okD q ∧ DLe D31 q) h ⟨okD_dup (k := 1) f31.1 (okS_I (dO_le f31.2 (dO_le f29.2 (dO_le b28 (dO_le f27.2.1 (dO_le f25.2 (dO_le b24 (dO_le f23.2.1 (dO_le f21.2 (dO_le b20 (dO_le f19.2.1 (dO_le f17.2 (dO_le b16 (dO_le f15.2.1 (dO_le f13.2 (dO_le b12 (dO_le f11.2.1 (dO_le f9.2 (dO_le b8 (dO_le f7.2.1 (dO_le f5.2 (dO_le f4.2 (dO_le f3.2 g2)))))))))))))))))))))) rfl (by decide) (by decide) (in_slot (k := 1) f31.1 (dO_le f31.2 g30) rfl (by decide))), DLe_dup _ _ _ _⟩
  rw [e32]
  refine E_aload_n (pc' := 104) dX6_init__103 rfl rfl ?_
  refine E_aload_n (pc' := 105) dX6_init__104 rfl rfl ?_
  refine E_getI (pc' := 108) dX6_init__105 rfl FX6_18_6 f32.1 (dO_le f32.2 (dO_le f31.2 g30)) rfl (j := 2) rfl ?_
  refine E_putI (pc' := 111) dX6_init__108 rfl FX6_18_6 f32.1 (dO_le f32.2 (dO_le f31.2 (dO_le f29.2 (dO_le b28 (dO_le f27.2.1 (dO_le f25.2 (dO_le b24 (dO_le f23.2.1 (dO_le f21.2 (dO_le b20 (dO_le f19.2.1 (dO_le f17.2 (dO_le b16 (dO_le f15.2.1 (dO_le f13.2 (dO_le b12 (dO_le f11.2.1 (dO_le f9.2 (dO_le b8 (dO_le f7.2.1 (dO_le f5.2 (dO_le f4.2 (dO_le f3.2 g2))))))))))))))))))))))) rfl (fun r hr => by cases hr; exact Or.inl rfl) (xFit_int _) (j := 2) rfl ?_
  obtain ⟨D33, e33, f33, h⟩ := zl_some (P := fun q => okD q ∧ DLe D32 q) h ⟨okD_dup (k := 2) f32.1 (okS_I (dO_le f32.2 (dO_le f31.2 (dO_le f29.2 (dO_le b28 (dO_le f27.2.1 (dO_le f25.2 (dO_le b24 (dO_le f23.2.1 (dO_le f21.2 (dO_le b20 (dO_le f19.2.1 (dO_le f17.2 (dO_le b16 (dO_le f15.2.1 (dO_le f13.2 (dO_le b12 (dO_le f11.2.1 (dO_le f9.2 (dO_le b8 (dO_le f7.2.1 (dO_le f5.2 (dO_le f4.2 (dO_le f3.2 g2))))))))))))))))))))))) rfl (by decide) (by decide) (in_slot (k := 2) f32.1 (dO_le f32.2 (dO_le f31.2 g30)) rfl (by decide))), DLe_dup _ _ _ _⟩
  rw [e33]
  refine E_aload_n (pc' := 112) dX6_init__111 rfl rfl ?_
  refine E_aload_n (pc' := 113) dX6_init__112 rfl rfl ?_
  refine E_getI (pc' := 116) dX6_init__113 rfl FX6_43_6 f33.1 (dO_le f33.2 (dO_le f32.2 (dO_le f31.2 g30))) rfl (j := 3) rfl ?_
  refine E_putI (pc' := 119) dX6_init__116 rfl FX6_43_6 f33.1 (dO_le f33.2 (dO_le f32.2 (dO_le f31.2 (dO_le f29.2 (dO_le b28 (dO_le f27.2.1 (dO_le f25.2 (dO_le b24 (dO_le f23.2.1 (dO_le f21.2 (dO_le b20 (dO_le f19.2.1 (dO_le f17.2 (dO_le b16 (dO_le f15.2.1 (dO_le f13.2 (dO_le b12 (dO_le f11.2.1 (dO_le f9.2 (dO_le b8 (dO_le f7.2.1 (dO_le f5.2 (dO_le f4.2 (dO_le f3.2 g2)))))))))))))))))))))))) rfl (fun r hr => by cases hr; exact Or.inl rfl) (xFit_int _) (j := 3) rfl ?_
  obtain ⟨D34, e34, f34, h⟩ := zl_some (P := fun q => okD q ∧ DLe D33 q) h ⟨okD_dup (k := 3) f33.1 (okS_I (dO_le f33.2 (dO_le f32.2 (dO_le f31.2 (dO_le f29.2 (dO_le b28 (dO_le f27.2.1 (dO_le f25.2 (dO_le b24 (dO_le f23.2.1 (dO_le f21.2 (dO_le b20 (dO_le f19.2.1 (dO_le f17.2 (dO_le b16 (dO_le f15.2.1 (dO_le f13.2 (dO_le b12 (dO_le f11.2.1 (dO_le f9.2 (dO_le b8 (dO_le f7.2.1 (dO_le f5.2 (dO_le f4.2 (dO_le f3.2 g2)))))))))))))))))))))))) rfl (by decide) (by decide) (in_slot (k := 3) f33.1 (dO_le f33.2 (dO_le f32.2 (dO_le f31.2 g30))) rfl (by decide))), DLe_dup _ _ _ _⟩
  rw [e34]
  refine E_aload_n (pc' := 120) dX6_init__119 rfl rfl ?_
  refine E_getR (pc' := 123) dX6_init__120 rfl FX6_24_6 f34.1 (dO_le f34.2 (dO_le f33.2 (dO_le f32.2 (dO_le f31.2 g30)))) rfl (j := 4) rfl ?_
  obtain ⟨⟨r35, D35⟩, q35, h⟩ := bs h
  obtain ⟨g36, h⟩ := gs h
  refine E_callV [] (pc' := 126) dX6_init__123 rfl (xVc VX6_46) (by decide) ⟨dO_pos g36, dO_is f34.1 g36 rfl⟩ rfl c1_n (cs rfl) c1_n (cs rfl) rfl f34.1 (CJx4a65c_iterator_32c93 f34.1 (gd_slot (k := 4) f34.1 (dO_le f34.2 (dO_le f33.2 (dO_le f32.2 (dO_le f31.2 g30)))) rfl (by decide)) q35) (fun a35 b35 f35 => ?_)
  refine E_astore_n (pc' := 127) dX6_init__126 rfl (cl rfl) (Or.inr (xC1_R _)) (L' := [some (rV (v0)), some (rV (v1)), some (rV (r35)), none]) rfl ?_
  obtain ⟨D37, q37, h⟩ := bs h
  refine X_sub (sub_s (sub_s (sub_s (sub_n sub_0)))) (LX6_init__127 FU _ a35 (gdV_le b35 (gdV_le f34.2 (gdV_le f33.2 (gdV_le f32.2 (gdV_le f31.2 (gdV_le f29.2 (gdV_le b28 (gdV_le f27.2.1 (gdV_le f25.2 (gdV_le b24 (gdV_le f23.2.1 (gdV_le f21.2 (gdV_le b20 (gdV_le f19.2.1 (gdV_le f17.2 (gdV_le b16 (gdV_le f15.2.1 (gdV_le f13.2 (gdV_le b12 (gdV_le f11.2.1 (gdV_le f9.2 (gdV_le b8 (gdV_le f7.2.1 (gdV_le f5.2 (gdV_le f4.2 (gdV_le f3.2 rv0)))))))))))))))))))))))))) (gdV_le b35 (gdV_le f34.2 (gdV_le f33.2 (gdV_le f32.2 (gdV_le f31.2 (gdV_le f29.2 (gdV_le b28 (gdV_le f27.2.1 (gdV_le f25.2 (gdV_le b24 (gdV_le f23.2.1 (gdV_le f21.2 (gdV_le b20 (gdV_le f19.2.1 (gdV_le f17.2 (gdV_le b16 (gdV_le f15.2.1 (gdV_le f13.2 (gdV_le b12 (gdV_le f11.2.1 (gdV_le f9.2 (gdV_le b8 (gdV_le f7.2.1 (gdV_le f5.2 (gdV_le f4.2 (gdV_le f3.2 rv1)))))))))))))))))))))))))) f35 q37 (fun D37₁ hh hD37 le37 => ?_))
  cases hh
  refine E_aload_n (pc' := 165) dX6_init__164 rfl rfl ?_
  refine E_getR (pc' := 168) dX6_init__165 rfl FX6_28_6 hD37 (dO_le le37 (dO_le b35 (dO_le f34.2 (dO_le f33.2 (dO_le f32.2 (dO_le f31.2 g30)))))) rfl (j := 5) rfl ?_
  obtain ⟨⟨r38, D38⟩, q38, h⟩ := bs h
  obtain ⟨g39, h⟩ := gs h
  refine E_callV [] (pc' := 171) dX6_init__168 rfl (xVc VX6_46) (by decide) ⟨dO_pos g39, dO_is hD37 g39 rfl⟩ rfl c1_n (cs rfl) c1_n (cs rfl) rfl hD37 (CJx4a65c_iterator_32c93 hD37 (gd_slot (k := 5) hD37 (dO_le le37 (dO_le b35 (dO_le f34.2 (dO_le f33.2 (dO_le f32.2 (dO_le f31.2 g30)))))) rfl (by decide)) q38) (fun a38 b38 f38 => ?_)
  refine E_astore_n (pc' := 172) dX6_init__171 rfl (cl rfl) (Or.inr (xC1_R _)) (L' := [some (rV (v0)), some (rV (v1)), some (rV (r38)), none]) rfl ?_
  obtain ⟨D40, q40, h⟩ := bs h
  refine X_sub (sub_s (sub_s (sub_s (sub_n sub_0)))) (LX6_init__172 FU _ a38 (gdV_le b38 (gdV_le le37 (gdV_le b35 (gdV_le f34.2 (gdV_le f33.2 (gdV_le f32.2 (gdV_le f31.2 (gdV_le f29.2 (gdV_le b28 (gdV_le f27.2.1 (gdV_le f25.2 (gdV_le b24 (gdV_le f23.2.1 (gdV_le f21.2 (gdV_le b20 (gdV_le f19.2.1 (gdV_le f17.2 (gdV_le b16 (gdV_le f15.2.1 (gdV_le f13.2 (gdV_le b12 (gdV_le f11.2.1 (gdV_le f9.2 (gdV_le b8 (gdV_le f7.2.1 (gdV_le f5.2 (gdV_le f4.2 (gdV_le f3.2 rv0)))))))))))))))))))))))))))) (gdV_le b38 (gdV_le le37 (gdV_le b35 (gdV_le f34.2 (gdV_le f33.2 (gdV_le f32.2 (gdV_le f31.2 (gdV_le f29.2 (gdV_le b28 (gdV_le f27.2.1 (gdV_le f25.2 (gdV_le b24 (gdV_le f23.2.1 (gdV_le f21.2 (gdV_le b20 (gdV_le f19.2.1 (gdV_le f17.2 (gdV_le b16 (gdV_le f15.2.1 (gdV_le f13.2 (gdV_le b12 (gdV_le f11.2.1 (gdV_le f9.2 (gdV_le b8 (gdV_le f7.2.1 (gdV_le f5.2 (gdV_le f4.2 (gdV_le f3.2 rv1)))))))))))))))))))))))))))) f38 q40 (fun D40₁ hh hD40 le40 => ?_))
  cases hh
  refine E_aload_n (pc' := 207) dX6_init__206 rfl rfl ?_
  refine E_getR (pc' := 210) dX6_init__207 rfl FX6_31_6 hD40 (dO_le le40 (dO_le b38 (dO_le le37 (dO_le b35 (dO_le f34.2 (dO_le f33.2 (dO_le f32.2 (dO_le f31.2 g30)))))))) rfl (j := 6) rfl ?_
  obtain ⟨⟨r41, D41⟩, q41, h⟩ := bs h
  obtain ⟨g42, h⟩ := gs h
  refine E_callV [] (pc' := 213) dX6_init__210 rfl (xVc VX6_46) (by decide) ⟨dO_pos g42, dO_is hD40 g42 rfl⟩ rfl c1_n (cs rfl) c1_n (cs rfl) rfl hD40 (CJx4a65c_iterator_32c93 hD40 (gd_slot (k := 6) hD40 (dO_le le40 (dO_le b38 (dO_le le37 (dO_le b35 (dO_le f34.2 (dO_le f33.2 (dO_le f32.2 (dO_le f31.2 g30)))))))) rfl (by decide)) q41) (fun a41 b41 f41 => ?_)
  refine E_astore_n (pc' := 214) dX6_init__213 rfl (cl rfl) (Or.inr (xC1_R _)) (L' := [some (rV (v0)), some (rV (v1)), some (rV (r41)), none]) rfl ?_
  obtain ⟨D43, q43, h⟩ := bs h
  refine X_sub (sub_s (sub_s (sub_s (sub_n sub_0)))) (LX6_init__214 FU _ a41 (gdV_le b41 (gdV_le le40 (gdV_le b38 (gdV_le le37 (gdV_le b35 (gdV_le f34.2 (gdV_le f33.2 (gdV_le f32.2 (gdV_le f31.2 (gdV_le f29.2 (gdV_le b28 (gdV_le f27.2.1 (gdV_le f25.2 (gdV_le b24 (gdV_le f23.2.1 (gdV_le f21.2 (gdV_le b20 (gdV_le f19.2.1 (gdV_le f17.2 (gdV_le b16 (gdV_le f15.2.1 (gdV_le f13.2 (gdV_le b12 (gdV_le f11.2.1 (gdV_le f9.2 (gdV_le b8 (gdV_le f7.2.1 (gdV_le f5.2 (gdV_le f4.2 (gdV_le f3.2 rv0)))))))))))))))))))))))))))))) (gdV_le b41 (gdV_le le40 (gdV_le b38 (gdV_le le37 (gdV_le b35 (gdV_le f34.2 (gdV_le f33.2 (gdV_le f32.2 (gdV_le f31.2 (gdV_le f29.2 (gdV_le b28 (gdV_le f27.2.1 (gdV_le f25.2 (gdV_le b24 (gdV_le f23.2.1 (gdV_le f21.2 (gdV_le b20 (gdV_le f19.2.1 (gdV_le f17.2 (gdV_le b16 (gdV_le f15.2.1 (gdV_le f13.2 (gdV_le b12 (gdV_le f11.2.1 (gdV_le f9.2 (gdV_le b8 (gdV_le f7.2.1 (gdV_le f5.2 (gdV_le f4.2 (gdV_le f3.2 rv1)))))))))))))))))))))))))))))) f41 q43 (fun D43₁ hh hD43 le43 => ?_))
  cases hh
  refine E_aload_n (pc' := 252) dX6_init__251 rfl rfl ?_
  refine E_getR (pc' := 255) dX6_init__252 rfl FX6_34_6 hD43 (dO_le le43 (dO_le b41 (dO_le le40 (dO_le b38 (dO_le le37 (dO_le b35 (dO_le f34.2 (dO_le f33.2 (dO_le f32.2 (dO_le f31.2 g30)))))))))) rfl (j := 7) rfl ?_
  obtain ⟨⟨r44, D44⟩, q44, h⟩ := bs h
  obtain ⟨g45, h⟩ := gs h
  refine E_callV [] (pc' := 258) dX6_init__255 rfl (xVc VX6_46) (by decide) ⟨dO_pos g45, dO_is hD43 g45 rfl⟩ rfl c1_n (cs rfl) c1_n (cs rfl) rfl hD43 (CJx4a65c_iterator_32c93 hD43 (gd_slot (k := 7) hD43 (dO_le le43 (dO_le b41 (dO_le le40 (dO_le b38 (dO_le le37 (dO_le b35 (dO_le f34.2 (dO_le f33.2 (dO_le f32.2 (dO_le f31.2 g30)))))))))) rfl (by decide)) q44) (fun a44 b44 f44 => ?_)
  refine E_astore_n (pc' := 259) dX6_init__258 rfl (cl rfl) (Or.inr (xC1_R _)) (L' := [some (rV (v0)), some (rV (v1)), some (rV (r44)), none]) rfl ?_
  obtain ⟨D46, q46, h⟩ := bs h
  refine X_sub (sub_s (sub_s (sub_s (sub_n sub_0)))) (LX6_init__259 FU _ a44 (gdV_le b44 (gdV_le le43 (gdV_le b41 (gdV_le le40 (gdV_le b38 (gdV_le le37 (gdV_le b35 (gdV_le f34.2 (gdV_le f33.2 (gdV_le f32.2 (gdV_le f31.2 (gdV_le f29.2 (gdV_le b28 (gdV_le f27.2.1 (gdV_le f25.2 (gdV_le b24 (gdV_le f23.2.1 (gdV_le f21.2 (gdV_le b20 (gdV_le f19.2.1 (gdV_le f17.2 (gdV_le b16 (gdV_le f15.2.1 (gdV_le f13.2 (gdV_le b12 (gdV_le f11.2.1 (gdV_le f9.2 (gdV_le b8 (gdV_le f7.2.1 (gdV_le f5.2 (gdV_le f4.2 (gdV_le f3.2 rv0)))))))))))))))))))))))))))))))) (gdV_le b44 (gdV_le le43 (gdV_le b41 (gdV_le le40 (gdV_le b38 (gdV_le le37 (gdV_le b35 (gdV_le f34.2 (gdV_le f33.2 (gdV_le f32.2 (gdV_le f31.2 (gdV_le f29.2 (gdV_le b28 (gdV_le f27.2.1 (gdV_le f25.2 (gdV_le b24 (gdV_le f23.2.1 (gdV_le f21.2 (gdV_le b20 (gdV_le f19.2.1 (gdV_le f17.2 (gdV_le b16 (gdV_le f15.2.1 (gdV_le f13.2 (gdV_le b12 (gdV_le f11.2.1 (gdV_le f9.2 (gdV_le b8 (gdV_le f7.2.1 (gdV_le f5.2 (gdV_le f4.2 (gdV_le f3.2 rv1)))))))))))))))))))))))))))))))) f44 q46 (fun D46₁ hh hD46 le46 => ?_))
  cases hh
  refine E_aload_n (pc' := 297) dX6_init__296 rfl rfl ?_
  refine E_getR (pc' := 300) dX6_init__297 rfl FX6_37_6 hD46 (dO_le le46 (dO_le b44 (dO_le le43 (dO_le b41 (dO_le le40 (dO_le b38 (dO_le le37 (dO_le b35 (dO_le f34.2 (dO_le f33.2 (dO_le f32.2 (dO_le f31.2 g30)))))))))))) rfl (j := 8) rfl ?_
  obtain ⟨⟨r47, D47⟩, q47, h⟩ := bs h
  obtain ⟨g48, h⟩ := gs h
  refine E_callV [] (pc' := 303) dX6_init__300 rfl (xVc VX6_46) (by decide) ⟨dO_pos g48, dO_is hD46 g48 rfl⟩ rfl c1_n (cs rfl) c1_n (cs rfl) rfl hD46 (CJx4a65c_iterator_32c93 hD46 (gd_slot (k := 8) hD46 (dO_le le46 (dO_le b44 (dO_le le43 (dO_le b41 (dO_le le40 (dO_le b38 (dO_le le37 (dO_le b35 (dO_le f34.2 (dO_le f33.2 (dO_le f32.2 (dO_le f31.2 g30)))))))))))) rfl (by decide)) q47) (fun a47 b47 f47 => ?_)
  refine E_astore_n (pc' := 304) dX6_init__303 rfl (cl rfl) (Or.inr (xC1_R _)) (L' := [some (rV (v0)), some (rV (v1)), some (rV (r47)), none]) rfl ?_
  obtain ⟨D49, q49, h⟩ := bs h
  refine X_sub (sub_s (sub_s (sub_s (sub_n sub_0)))) (LX6_init__304 FU _ a47 (gdV_le b47 (gdV_le le46 (gdV_le b44 (gdV_le le43 (gdV_le b41 (gdV_le le40 (gdV_le b38 (gdV_le le37 (gdV_le b35 (gdV_le f34.2 (gdV_le f33.2 (gdV_le f32.2 (gdV_le f31.2 (gdV_le f29.2 (gdV_le b28 (gdV_le f27.2.1 (gdV_le f25.2 (gdV_le b24 (gdV_le f23.2.1 (gdV_le f21.2 (gdV_le b20 (gdV_le f19.2.1 (gdV_le f17.2 (gdV_le b16 (gdV_le f15.2.1 (gdV_le f13.2 (gdV_le b12 (gdV_le f11.2.1 (gdV_le f9.2 (gdV_le b8 (gdV_le f7.2.1 (gdV_le f5.2 (gdV_le f4.2 (gdV_le f3.2 rv0)))))))))))))))))))))))))))))))))) (gdV_le b47 (gdV_le le46 (gdV_le b44 (gdV_le le43 (gdV_le b41 (gdV_le le40 (gdV_le b38 (gdV_le le37 (gdV_le b35 (gdV_le f34.2 (gdV_le f33.2 (gdV_le f32.2 (gdV_le f31.2 (gdV_le f29.2 (gdV_le b28 (gdV_le f27.2.1 (gdV_le f25.2 (gdV_le b24 (gdV_le f23.2.1 (gdV_le f21.2 (gdV_le b20 (gdV_le f19.2.1 (gdV_le f17.2 (gdV_le b16 (gdV_le f15.2.1 (gdV_le f13.2 (gdV_le b12 (gdV_le f11.2.1 (gdV_le f9.2 (gdV_le b8 (gdV_le f7.2.1 (gdV_le f5.2 (gdV_le f4.2 (gdV_le f3.2 rv1)))))))))))))))))))))))))))))))))) f47 q49 (fun D49₁ hh hD49 le49 => ?_))
  cases hh
  refine E_aload_n (pc' := 336) dX6_init__335 rfl rfl ?_
  refine E_getR (pc' := 339) dX6_init__336 rfl FX6_40_6 hD49 (dO_le le49 (dO_le b47 (dO_le le46 (dO_le b44 (dO_le le43 (dO_le b41 (dO_le le40 (dO_le b38 (dO_le le37 (dO_le b35 (dO_le f34.2 (dO_le f33.2 (dO_le f32.2 (dO_le f31.2 g30)))))))))))))) rfl (j := 9) rfl ?_
  obtain ⟨⟨r50, D50⟩, q50, h⟩ := bs h
  obtain ⟨g51, h⟩ := gs h
  refine E_callV [] (pc' := 342) dX6_init__339 rfl (xVc VX6_46) (by decide) ⟨dO_pos g51, dO_is hD49 g51 rfl⟩ rfl c1_n (cs rfl) c1_n (cs rfl) rfl hD49 (CJx4a65c_iterator_32c93 hD49 (gd_slot (k := 9) hD49 (dO_le le49 (dO_le b47 (dO_le le46 (dO_le b44 (dO_le le43 (dO_le b41 (dO_le le40 (dO_le b38 (dO_le le37 (dO_le b35 (dO_le f34.2 (dO_le f33.2 (dO_le f32.2 (dO_le f31.2 g30)))))))))))))) rfl (by decide)) q50) (fun a50 b50 f50 => ?_)
  refine E_astore_n (pc' := 343) dX6_init__342 rfl (cl rfl) (Or.inr (xC1_R _)) (L' := [some (rV (v0)), some (rV (v1)), some (rV (r50)), none]) rfl ?_
  obtain ⟨D52, q52, h⟩ := bs h
  refine X_sub (sub_s (sub_n (sub_s (sub_n sub_0)))) (LX6_init__343 FU _ a50 (gdV_le b50 (gdV_le le49 (gdV_le b47 (gdV_le le46 (gdV_le b44 (gdV_le le43 (gdV_le b41 (gdV_le le40 (gdV_le b38 (gdV_le le37 (gdV_le b35 (gdV_le f34.2 (gdV_le f33.2 (gdV_le f32.2 (gdV_le f31.2 (gdV_le f29.2 (gdV_le b28 (gdV_le f27.2.1 (gdV_le f25.2 (gdV_le b24 (gdV_le f23.2.1 (gdV_le f21.2 (gdV_le b20 (gdV_le f19.2.1 (gdV_le f17.2 (gdV_le b16 (gdV_le f15.2.1 (gdV_le f13.2 (gdV_le b12 (gdV_le f11.2.1 (gdV_le f9.2 (gdV_le b8 (gdV_le f7.2.1 (gdV_le f5.2 (gdV_le f4.2 (gdV_le f3.2 rv0)))))))))))))))))))))))))))))))))))) f50 q52 (fun D52₁ hh hD52 le52 => ?_))
  cases hh
  cases h
  exact X_vret dX6_init__374 rfl (k hD52 (DLe_trans (DLe_trans (DLe_trans (DLe_trans (DLe_trans (DLe_trans (DLe_trans (DLe_trans (DLe_trans (DLe_trans (DLe_trans (DLe_trans (DLe_trans (DLe_trans (DLe_trans (DLe_trans (DLe_trans (DLe_trans (DLe_trans (DLe_trans (DLe_trans (DLe_trans (DLe_trans (DLe_trans (DLe_trans (DLe_trans (DLe_trans (DLe_trans (DLe_trans (DLe_trans (DLe_trans (DLe_trans (DLe_trans (DLe_trans (DLe_trans (DLe_trans f3.2 f4.2) f5.2) f7.2.1) b8) f9.2) f11.2.1) b12) f13.2) f15.2.1) b16) f17.2) f19.2.1) b20) f21.2) f23.2.1) b24) f25.2) f27.2.1) b28) f29.2) f31.2) f32.2) f33.2) f34.2) b35) le37) b38) le40) b41) le43) b44) le46) b47) le49) b50) le52) trivial)
def fX6_wall (v0 : Int) (v1 : Int) (v2 : Int) (v3 : Int) (D : DD) : Option (DD) := (if dO D (v0) 7 then (if ((0 : Int) ≤ (4) ∧ (4 : Int) ≤ 1000000) ∧ dT D < 600000 ∧ dS D + (4) ≤ 7200000 then (zl (dnew D 20 (4 : Int).toNat) fun D3 => (if (0 : Int) ≤ (0) ∧ (0 : Int) < ((dH D3 ((dT D))).2 : Int) then (zl (dup D3 ((dT D)) (0) (v1)) fun D5 => (if (0 : Int) ≤ (1) ∧ (1 : Int) < ((dH D5 ((dT D))).2 : Int) then (zl (dup D5 ((dT D)) (1) (v2)) fun D7 => (if (0 : Int) ≤ (2) ∧ (2 : Int) < ((dH D7 ((dT D))).2 : Int) then (zl (dup D7 ((dT D)) (2) (v3)) fun D9 => (if (0 : Int) ≤ (3) ∧ (3 : Int) < ((dH D9 ((dT D))).2 : Int) then (zl (dup D9 ((dT D)) (3) (v3)) fun D11 => (Option.bind (fJx4a65c_add_9ea2d ((dW D (v0) 4)) ((dT D)) D11) fun q12 => match q12 with | (r12, D12) => (if dO D11 ((dW D (v0) 4)) 9 then some D12 else none))) else none)) else none)) else none)) else none)) else none) else none)
set_option maxRecDepth 100000 in
theorem CX6_wall {ln : Nat} {D : DD} {z : ZZ} {v0 : Int} {v1 : Int} {v2 : Int} {v3 : Int} (hD : okD D) (rv0 : gdV D v0) (rv1 : inR v1) (rv2 : inR v2) (rv3 : inR v3) {p : DD} (h : fX6_wall v0 v1 v2 v3 D = some p) : XD mX6_wall 0 (xEnt [rV (v0), .int (iN (v1)), .int (iN (v2)), .int (iN (v3))] (xL mX6_wall)) [] ln D z (Qd (FdD D p (True)) (.inl (none)) (sD ln p z)) := by
  have k : K_w (Qd (FdD D p (True)) (.inl (none)) (sD ln p z)) ln D z p := fun a b c => ⟨⟨a, b, c⟩, rfl, rfl⟩
  unfold fX6_wall at h
  refine E_ent (c1_r (c1_i (c1_i (c1_i c1_n)))) (M := [some (rV (v0)), some (.int (iN (v1))), some (.int (iN (v2))), some (.int (iN (v3)))]) rfl ?_
  refine E_aload_n (pc' := 1) dX6_wall_0 rfl rfl ?_
  obtain ⟨g1, h⟩ := gs h
  refine E_getR (pc' := 4) dX6_wall_1 rfl FX6_24_6 hD g1 rfl (j := 4) rfl ?_
  refine X_iconst (pc' := 5) dX6_wall_4 rfl ?_
  obtain ⟨g2, h⟩ := gs h
  refine E_newI (pc' := 7) dX6_wall_5 rfl tq75 hD g2 ?_
  obtain ⟨D3, e3, f3, h⟩ := zl_some (P := fun q => okD q ∧ DLe D q ∧ (dO q (dT D) 20 ∧ ((dH q (dT D)).2 : Int) = (4))) h ⟨okD_dnew hD (by decide) (by omega) g2.2.1 (by omega), DLe_dnew _ (by decide), dO_dnew hD, dH_dnew g2.1.1⟩
  rw [e3]
  refine X_dup (pc' := 8) dX6_wall_7 rfl (rV_cat _) ?_
  refine X_iconst (pc' := 9) dX6_wall_8 rfl ?_
  refine X_iload_n (pc' := 10) dX6_wall_9 rfl rfl ?_
  obtain ⟨g4, h⟩ := gs h
  refine E_iast (pc' := 11) dX6_wall_10 rfl f3.1 f3.2.2.1 g4 ?_
  obtain ⟨D5, e5, f5, h⟩ := zl_some (P := fun q => okD q ∧ DLe D3 q) h ⟨okD_dupJ f3.1 g4.1 (okS_at20 f3.2.2.1 rv1), DLe_dup _ _ _ _⟩
  rw [e5]
  refine X_dup (pc' := 12) dX6_wall_11 rfl (rV_cat _) ?_
  refine X_iconst (pc' := 13) dX6_wall_12 rfl ?_
  refine X_iload_n (pc' := 14) dX6_wall_13 rfl rfl ?_
  obtain ⟨g6, h⟩ := gs h
  refine E_iast (pc' := 15) dX6_wall_14 rfl f5.1 (dO_le f5.2 f3.2.2.1) g6 ?_
  obtain ⟨D7, e7, f7, h⟩ := zl_some (P := fun q => okD q ∧ DLe D5 q) h ⟨okD_dupJ f5.1 g6.1 (okS_at20 (dO_le f5.2 f3.2.2.1) rv2), DLe_dup _ _ _ _⟩
  rw [e7]
  refine X_dup (pc' := 16) dX6_wall_15 rfl (rV_cat _) ?_
  refine X_iconst (pc' := 17) dX6_wall_16 rfl ?_
  refine X_iload_n (pc' := 18) dX6_wall_17 rfl rfl ?_
  obtain ⟨g8, h⟩ := gs h
  refine E_iast (pc' := 19) dX6_wall_18 rfl f7.1 (dO_le f7.2 (dO_le f5.2 f3.2.2.1)) g8 ?_
  obtain ⟨D9, e9, f9, h⟩ := zl_some (P := fun q => okD q ∧ DLe D7 q) h ⟨okD_dupJ f7.1 g8.1 (okS_at20 (dO_le f7.2 (dO_le f5.2 f3.2.2.1)) rv3), DLe_dup _ _ _ _⟩
  rw [e9]
  refine X_dup (pc' := 20) dX6_wall_19 rfl (rV_cat _) ?_
  refine X_iconst (pc' := 21) dX6_wall_20 rfl ?_
  refine X_iload_n (pc' := 22) dX6_wall_21 rfl rfl ?_
  obtain ⟨g10, h⟩ := gs h
  refine E_iast (pc' := 23) dX6_wall_22 rfl f9.1 (dO_le f9.2 (dO_le f7.2 (dO_le f5.2 f3.2.2.1))) g10 ?_
  obtain ⟨D11, e11, f11, h⟩ := zl_some (P := fun q => okD q ∧ DLe D9 q) h ⟨okD_dupJ f9.1 g10.1 (okS_at20 (dO_le f9.2 (dO_le f7.2 (dO_le f5.2 f3.2.2.1))) rv3), DLe_dup _ _ _ _⟩
  rw [e11]
  obtain ⟨⟨r12, D12⟩, q12, h⟩ := bs h
  obtain ⟨g13, h⟩ := gs h
  refine E_callV [rV ((dT D))] (pc' := 26) dX6_wall_23 rfl (xVc VX6_65) (by decide) ⟨dO_pos g13, dO_is f11.1 g13 rfl⟩ rfl (c1_r c1_n) (cs rfl) c1_n (cs rfl) rfl f11.1 (CJx4a65c_add_9ea2d f11.1 (gdV_le f11.2 (gdV_le f9.2 (gdV_le f7.2 (gdV_le f5.2 (gdV_le f3.2.1 (gd_slot (k := 4) hD g1 rfl (by decide))))))) (gdV_le f11.2 (gdV_le f9.2 (gdV_le f7.2 (gdV_le f5.2 (dO_gd f3.2.2.1 (by decide)))))) q12) (fun a12 b12 f12 => ?_)
  refine X_pop (pc' := 27) dX6_wall_26 rfl rfl ?_
  cases h
  exact X_vret dX6_wall_27 rfl (k a12 (DLe_trans (DLe_trans (DLe_trans (DLe_trans (DLe_trans f3.2.1 f5.2) f7.2) f9.2) f11.2) b12) trivial)
def fX6_harness (v0 : Int) (v1 : Int) (v2 : Int) (D : DD) : Option (DD) := (if dO D (v0) 7 then (if ((0 : Int) ≤ (4) ∧ (4 : Int) ≤ 1000000) ∧ dT D < 600000 ∧ dS D + (4) ≤ 7200000 then (zl (dnew D 20 (4 : Int).toNat) fun D3 => (if (0 : Int) ≤ (0) ∧ (0 : Int) < ((dH D3 ((dT D))).2 : Int) then (zl (dup D3 ((dT D)) (0) (v1)) fun D5 => (if (0 : Int) ≤ (1) ∧ (1 : Int) < ((dH D5 ((dT D))).2 : Int) then (zl (dup D5 ((dT D)) (1) (v2)) fun D7 => (if (0 : Int) ≤ (2) ∧ (2 : Int) < ((dH D7 ((dT D))).2 : Int) then (zl (dup D7 ((dT D)) (2) (0)) fun D9 => (if (0 : Int) ≤ (3) ∧ (3 : Int) < ((dH D9 ((dT D))).2 : Int) then (zl (dup D9 ((dT D)) (3) (0)) fun D11 => (Option.bind (fJx4a65c_add_9ea2d ((dW D (v0) 6)) ((dT D)) D11) fun q12 => match q12 with | (r12, D12) => (if dO D11 ((dW D (v0) 6)) 9 then some D12 else none))) else none)) else none)) else none)) else none)) else none) else none)
set_option maxRecDepth 100000 in
theorem CX6_harness {ln : Nat} {D : DD} {z : ZZ} {v0 : Int} {v1 : Int} {v2 : Int} (hD : okD D) (rv0 : gdV D v0) (rv1 : inR v1) (rv2 : inR v2) {p : DD} (h : fX6_harness v0 v1 v2 D = some p) : XD mX6_harness 0 (xEnt [rV (v0), .int (iN (v1)), .int (iN (v2))] (xL mX6_harness)) [] ln D z (Qd (FdD D p (True)) (.inl (none)) (sD ln p z)) := by
  have k : K_w (Qd (FdD D p (True)) (.inl (none)) (sD ln p z)) ln D z p := fun a b c => ⟨⟨a, b, c⟩, rfl, rfl⟩
  unfold fX6_harness at h
  refine E_ent (c1_r (c1_i (c1_i c1_n))) (M := [some (rV (v0)), some (.int (iN (v1))), some (.int (iN (v2)))]) rfl ?_
  refine E_aload_n (pc' := 1) dX6_harness_0 rfl rfl ?_
  obtain ⟨g1, h⟩ := gs h
  refine E_getR (pc' := 4) dX6_harness_1 rfl FX6_31_6 hD g1 rfl (j := 6) rfl ?_
  refine X_iconst (pc' := 5) dX6_harness_4 rfl ?_
  obtain ⟨g2, h⟩ := gs h
  refine E_newI (pc' := 7) dX6_harness_5 rfl tq75 hD g2 ?_
  obtain ⟨D3, e3, f3, h⟩ := zl_some (P := fun q => okD q ∧ DLe D q ∧ (dO q (dT D) 20 ∧ ((dH q (dT D)).2 : Int) = (4))) h ⟨okD_dnew hD (by decide) (by omega) g2.2.1 (by omega), DLe_dnew _ (by decide), dO_dnew hD, dH_dnew g2.1.1⟩
  rw [e3]
  refine X_dup (pc' := 8) dX6_harness_7 rfl (rV_cat _) ?_
  refine X_iconst (pc' := 9) dX6_harness_8 rfl ?_
  refine X_iload_n (pc' := 10) dX6_harness_9 rfl rfl ?_
  obtain ⟨g4, h⟩ := gs h
  refine E_iast (pc' := 11) dX6_harness_10 rfl f3.1 f3.2.2.1 g4 ?_
  obtain ⟨D5, e5, f5, h⟩ := zl_some (P := fun q => okD q ∧ DLe D3 q) h ⟨okD_dupJ f3.1 g4.1 (okS_at20 f3.2.2.1 rv1), DLe_dup _ _ _ _⟩
  rw [e5]
  refine X_dup (pc' := 12) dX6_harness_11 rfl (rV_cat _) ?_
  refine X_iconst (pc' := 13) dX6_harness_12 rfl ?_
  refine X_iload_n (pc' := 14) dX6_harness_13 rfl rfl ?_
  obtain ⟨g6, h⟩ := gs h
  refine E_iast (pc' := 15) dX6_harness_14 rfl f5.1 (dO_le f5.2 f3.2.2.1) g6 ?_
  obtain ⟨D7, e7, f7, h⟩ := zl_some (P := fun q => okD q ∧ DLe D5 q) h ⟨okD_dupJ f5.1 g6.1 (okS_at20 (dO_le f5.2 f3.2.2.1) rv2), DLe_dup _ _ _ _⟩
  rw [e7]
  refine X_dup (pc' := 16) dX6_harness_15 rfl (rV_cat _) ?_
  refine X_iconst (pc' := 17) dX6_harness_16 rfl ?_
  refine X_iconst (pc' := 18) dX6_harness_17 rfl ?_
  obtain ⟨g8, h⟩ := gs h
  refine E_iast (pc' := 19) dX6_harness_18 rfl f7.1 (dO_le f7.2 (dO_le f5.2 f3.2.2.1)) g8 ?_
  obtain ⟨D9, e9, f9, h⟩ := zl_some (P := fun q => okD q ∧ DLe D7 q) h ⟨okD_dupJ f7.1 g8.1 (okS_at20 (dO_le f7.2 (dO_le f5.2 f3.2.2.1)) (inR_c (n := 0) rfl)), DLe_dup _ _ _ _⟩
  rw [e9]
  refine X_dup (pc' := 20) dX6_harness_19 rfl (rV_cat _) ?_
  refine X_iconst (pc' := 21) dX6_harness_20 rfl ?_
  refine X_iconst (pc' := 22) dX6_harness_21 rfl ?_
  obtain ⟨g10, h⟩ := gs h
  refine E_iast (pc' := 23) dX6_harness_22 rfl f9.1 (dO_le f9.2 (dO_le f7.2 (dO_le f5.2 f3.2.2.1))) g10 ?_
  obtain ⟨D11, e11, f11, h⟩ := zl_some (P := fun q => okD q ∧ DLe D9 q) h ⟨okD_dupJ f9.1 g10.1 (okS_at20 (dO_le f9.2 (dO_le f7.2 (dO_le f5.2 f3.2.2.1))) (inR_c (n := 0) rfl)), DLe_dup _ _ _ _⟩
  rw [e11]
  obtain ⟨⟨r12, D12⟩, q12, h⟩ := bs h
  obtain ⟨g13, h⟩ := gs h
  refine E_callV [rV ((dT D))] (pc' := 26) dX6_harness_23 rfl (xVc VX6_65) (by decide) ⟨dO_pos g13, dO_is f11.1 g13 rfl⟩ rfl (c1_r c1_n) (cs rfl) c1_n (cs rfl) rfl f11.1 (CJx4a65c_add_9ea2d f11.1 (gdV_le f11.2 (gdV_le f9.2 (gdV_le f7.2 (gdV_le f5.2 (gdV_le f3.2.1 (gd_slot (k := 6) hD g1 rfl (by decide))))))) (gdV_le f11.2 (gdV_le f9.2 (gdV_le f7.2 (gdV_le f5.2 (dO_gd f3.2.2.1 (by decide)))))) q12) (fun a12 b12 f12 => ?_)
  refine X_pop (pc' := 27) dX6_harness_26 rfl rfl ?_
  cases h
  exact X_vret dX6_harness_27 rfl (k a12 (DLe_trans (DLe_trans (DLe_trans (DLe_trans (DLe_trans f3.2.1 f5.2) f7.2) f9.2) f11.2) b12) trivial)
def fX6_member (v0 : Int) (v1 : Int) (v2 : Int) (D : DD) : Option (DD) := (if dO D (v0) 7 then (if ((0 : Int) ≤ (6) ∧ (6 : Int) ≤ 1000000) ∧ dT D < 600000 ∧ dS D + (6) ≤ 7200000 then (zl (dnew D 20 (6 : Int).toNat) fun D3 => (if (0 : Int) ≤ (0) ∧ (0 : Int) < ((dH D3 ((dT D))).2 : Int) then (zl (dup D3 ((dT D)) (0) (v1)) fun D5 => (if (0 : Int) ≤ (1) ∧ (1 : Int) < ((dH D5 ((dT D))).2 : Int) then (zl (dup D5 ((dT D)) (1) (v2)) fun D7 => (if (0 : Int) ≤ (2) ∧ (2 : Int) < ((dH D7 ((dT D))).2 : Int) then (zl (dup D7 ((dT D)) (2) (0)) fun D9 => (if (0 : Int) ≤ (3) ∧ (3 : Int) < ((dH D9 ((dT D))).2 : Int) then (zl (dup D9 ((dT D)) (3) ((-1))) fun D11 => (if (0 : Int) ≤ (4) ∧ (4 : Int) < ((dH D11 ((dT D))).2 : Int) then (zl (dup D11 ((dT D)) (4) ((-1))) fun D13 => (if (0 : Int) ≤ (5) ∧ (5 : Int) < ((dH D13 ((dT D))).2 : Int) then (zl (dup D13 ((dT D)) (5) (0)) fun D15 => (Option.bind (fJx4a65c_add_9ea2d ((dW D (v0) 7)) ((dT D)) D15) fun q16 => match q16 with | (r16, D16) => (if dO D15 ((dW D (v0) 7)) 9 then some D16 else none))) else none)) else none)) else none)) else none)) else none)) else none)) else none) else none)
set_option maxRecDepth 100000 in
theorem CX6_member {ln : Nat} {D : DD} {z : ZZ} {v0 : Int} {v1 : Int} {v2 : Int} (hD : okD D) (rv0 : gdV D v0) (rv1 : inR v1) (rv2 : inR v2) {p : DD} (h : fX6_member v0 v1 v2 D = some p) : XD mX6_member 0 (xEnt [rV (v0), .int (iN (v1)), .int (iN (v2))] (xL mX6_member)) [] ln D z (Qd (FdD D p (True)) (.inl (none)) (sD ln p z)) := by
  have k : K_w (Qd (FdD D p (True)) (.inl (none)) (sD ln p z)) ln D z p := fun a b c => ⟨⟨a, b, c⟩, rfl, rfl⟩
  unfold fX6_member at h
  refine E_ent (c1_r (c1_i (c1_i c1_n))) (M := [some (rV (v0)), some (.int (iN (v1))), some (.int (iN (v2)))]) rfl ?_
  refine E_aload_n (pc' := 1) dX6_member_0 rfl rfl ?_
  obtain ⟨g1, h⟩ := gs h
  refine E_getR (pc' := 4) dX6_member_1 rfl FX6_34_6 hD g1 rfl (j := 7) rfl ?_
  refine X_bipush (pc' := 6) dX6_member_4 rfl (by decide) ?_
  obtain ⟨g2, h⟩ := gs h
  refine E_newI (pc' := 8) dX6_member_6 rfl tq75 hD g2 ?_
  obtain ⟨D3, e3, f3, h⟩ := zl_some (P := fun q => okD q ∧ DLe D q ∧ (dO q (dT D) 20 ∧ ((dH q (dT D)).2 : Int) = (6))) h ⟨okD_dnew hD (by decide) (by omega) g2.2.1 (by omega), DLe_dnew _ (by decide), dO_dnew hD, dH_dnew g2.1.1⟩
  rw [e3]
  refine X_dup (pc' := 9) dX6_member_8 rfl (rV_cat _) ?_
  refine X_iconst (pc' := 10) dX6_member_9 rfl ?_
  refine X_iload_n (pc' := 11) dX6_member_10 rfl rfl ?_
  obtain ⟨g4, h⟩ := gs h
  refine E_iast (pc' := 12) dX6_member_11 rfl f3.1 f3.2.2.1 g4 ?_
  obtain ⟨D5, e5, f5, h⟩ := zl_some (P := fun q => okD q ∧ DLe D3 q) h ⟨okD_dupJ f3.1 g4.1 (okS_at20 f3.2.2.1 rv1), DLe_dup _ _ _ _⟩
  rw [e5]
  refine X_dup (pc' := 13) dX6_member_12 rfl (rV_cat _) ?_
  refine X_iconst (pc' := 14) dX6_member_13 rfl ?_
  refine X_iload_n (pc' := 15) dX6_member_14 rfl rfl ?_
  obtain ⟨g6, h⟩ := gs h
  refine E_iast (pc' := 16) dX6_member_15 rfl f5.1 (dO_le f5.2 f3.2.2.1) g6 ?_
  obtain ⟨D7, e7, f7, h⟩ := zl_some (P := fun q => okD q ∧ DLe D5 q) h ⟨okD_dupJ f5.1 g6.1 (okS_at20 (dO_le f5.2 f3.2.2.1) rv2), DLe_dup _ _ _ _⟩
  rw [e7]
  refine X_dup (pc' := 17) dX6_member_16 rfl (rV_cat _) ?_
  refine X_iconst (pc' := 18) dX6_member_17 rfl ?_
  refine X_iconst (pc' := 19) dX6_member_18 rfl ?_
  obtain ⟨g8, h⟩ := gs h
  refine E_iast (pc' := 20) dX6_member_19 rfl f7.1 (dO_le f7.2 (dO_le f5.2 f3.2.2.1)) g8 ?_
  obtain ⟨D9, e9, f9, h⟩ := zl_some (P := fun q => okD q ∧ DLe D7 q) h ⟨okD_dupJ f7.1 g8.1 (okS_at20 (dO_le f7.2 (dO_le f5.2 f3.2.2.1)) (inR_c (n := 0) rfl)), DLe_dup _ _ _ _⟩
  rw [e9]
  refine X_dup (pc' := 21) dX6_member_20 rfl (rV_cat _) ?_
  refine X_iconst (pc' := 22) dX6_member_21 rfl ?_
  refine X_iconst (pc' := 23) dX6_member_22 rfl ?_
  obtain ⟨g10, h⟩ := gs h
  refine E_iast (pc' := 24) dX6_member_23 rfl f9.1 (dO_le f9.2 (dO_le f7.2 (dO_le f5.2 f3.2.2.1))) g10 ?_
  obtain ⟨D11, e11, f11, h⟩ := zl_some (P := fun q => okD q ∧ DLe D9 q) h ⟨okD_dupJ f9.1 g10.1 (okS_at20 (dO_le f9.2 (dO_le f7.2 (dO_le f5.2 f3.2.2.1))) (inR_c (n := (-1)) rfl)), DLe_dup _ _ _ _⟩
  rw [e11]
  refine X_dup (pc' := 25) dX6_member_24 rfl (rV_cat _) ?_
  refine X_iconst (pc' := 26) dX6_member_25 rfl ?_
  refine X_iconst (pc' := 27) dX6_member_26 rfl ?_
  obtain ⟨g12, h⟩ := gs h
  refine E_iast (pc' := 28) dX6_member_27 rfl f11.1 (dO_le f11.2 (dO_le f9.2 (dO_le f7.2 (dO_le f5.2 f3.2.2.1)))) g12 ?_
  obtain ⟨D13, e13, f13, h⟩ := zl_some (P := fun q => okD q ∧ DLe D11 q) h ⟨okD_dupJ f11.1 g12.1 (okS_at20 (dO_le f11.2 (dO_le f9.2 (dO_le f7.2 (dO_le f5.2 f3.2.2.1)))) (inR_c (n := (-1)) rfl)), DLe_dup _ _ _ _⟩
  rw [e13]
  refine X_dup (pc' := 29) dX6_member_28 rfl (rV_cat _) ?_
  refine X_iconst (pc' := 30) dX6_member_29 rfl ?_
  refine X_iconst (pc' := 31) dX6_member_30 rfl ?_
  obtain ⟨g14, h⟩ := gs h
  refine E_iast (pc' := 32) dX6_member_31 rfl f13.1 (dO_le f13.2 (dO_le f11.2 (dO_le f9.2 (dO_le f7.2 (dO_le f5.2 f3.2.2.1))))) g14 ?_
  obtain ⟨D15, e15, f15, h⟩ := zl_some (P := fun q => okD q ∧ DLe D13 q) h ⟨okD_dupJ f13.1 g14.1 (okS_at20 (dO_le f13.2 (dO_le f11.2 (dO_le f9.2 (dO_le f7.2 (dO_le f5.2 f3.2.2.1))))) (inR_c (n := 0) rfl)), DLe_dup _ _ _ _⟩
  rw [e15]
  obtain ⟨⟨r16, D16⟩, q16, h⟩ := bs h
  obtain ⟨g17, h⟩ := gs h
  refine E_callV [rV ((dT D))] (pc' := 35) dX6_member_32 rfl (xVc VX6_65) (by decide) ⟨dO_pos g17, dO_is f15.1 g17 rfl⟩ rfl (c1_r c1_n) (cs rfl) c1_n (cs rfl) rfl f15.1 (CJx4a65c_add_9ea2d f15.1 (gdV_le f15.2 (gdV_le f13.2 (gdV_le f11.2 (gdV_le f9.2 (gdV_le f7.2 (gdV_le f5.2 (gdV_le f3.2.1 (gd_slot (k := 7) hD g1 rfl (by decide))))))))) (gdV_le f15.2 (gdV_le f13.2 (gdV_le f11.2 (gdV_le f9.2 (gdV_le f7.2 (gdV_le f5.2 (dO_gd f3.2.2.1 (by decide)))))))) q16) (fun a16 b16 f16 => ?_)
  refine X_pop (pc' := 36) dX6_member_35 rfl rfl ?_
  cases h
  exact X_vret dX6_member_36 rfl (k a16 (DLe_trans (DLe_trans (DLe_trans (DLe_trans (DLe_trans (DLe_trans (DLe_trans f3.2.1 f5.2) f7.2) f9.2) f11.2) f13.2) f15.2) b16) trivial)
def fX6_plain (D : DD) : Option (Int × DD) := (if dT D < 600000 ∧ dS D + 10 ≤ 7200000 then (zl (dnew D 7 10) fun D2 => (Option.bind (fX6_init ((dT D)) D2) fun D3 => (Option.bind (fX6_wall ((dT D)) (12) (0) (7) D3) fun D4 => (Option.bind (fX6_wall ((dT D)) (15) (1) (10) D4) fun D5 => (Option.bind (fX6_harness ((dT D)) (1) (30) D5) fun D6 => (Option.bind (fX6_harness ((dT D)) (1) (60) D6) fun D7 => (Option.bind (fX6_member ((dT D)) (1) (0) D7) fun D8 => (Option.bind (fX6_member ((dT D)) (1) (1) D8) fun D9 => (if ((0 : Int) ≤ (3) ∧ (3 : Int) ≤ 1000000) ∧ dT D9 < 600000 ∧ dS D9 + (3) ≤ 7200000 then (zl (dnew D9 20 (3 : Int).toNat) fun D11 => (if (0 : Int) ≤ (0) ∧ (0 : Int) < ((dH D11 ((dT D9))).2 : Int) then (zl (dup D11 ((dT D9)) (0) (1)) fun D13 => (if (0 : Int) ≤ (1) ∧ (1 : Int) < ((dH D13 ((dT D9))).2 : Int) then (zl (dup D13 ((dT D9)) (1) (4)) fun D15 => (if (0 : Int) ≤ (2) ∧ (2 : Int) < ((dH D15 ((dT D9))).2 : Int) then (zl (dup D15 ((dT D9)) (2) (5)) fun D17 => (Option.bind (fJx4a65c_add_9ea2d ((dW D9 ((dT D)) 8)) ((dT D9)) D17) fun q18 => match q18 with | (r18, D18) => (if dO D17 ((dW D9 ((dT D)) 8)) 9 then some ((dT D), D18) else none))) else none)) else none)) else none)) else none))))))))) else none)
set_option maxRecDepth 100000 in
theorem CX6_plain {ln : Nat} {D : DD} {z : ZZ} (hD : okD D) {p : Int × DD} (h : fX6_plain D = some p) : XD mX6_plain 0 (xEnt [] (xL mX6_plain)) [] ln D z (Qd (FdD D p.2 (gdV p.2 p.1)) (.inl (some (rV p.1))) (sD ln p.2 z)) := by
  have k : K_wR (Qd (FdD D p.2 (gdV p.2 p.1)) (.inl (some (rV p.1))) (sD ln p.2 z)) ln D z p := fun a b c => ⟨⟨a, b, c⟩, rfl, rfl⟩
  unfold fX6_plain at h
  refine E_ent c1_n (M := [none]) rfl ?_
  obtain ⟨g1, h⟩ := gs h
  refine E_new (c := 6) (n := 10) (pc' := 3) dX6_plain_0 rfl rfl rfl (by decide) tq1087 tq411 tq20 hD g1 ?_
  obtain ⟨D2, e2, f2, h⟩ := zl_some (P := fun q => okD q ∧ DLe D q ∧ dO q (dT D) 7) h ⟨okD_dnew hD (by decide) (by decide) g1.1 g1.2, DLe_dnew _ (by decide), dO_dnew hD⟩
  rw [e2]
  refine X_dup (pc' := 4) dX6_plain_3 rfl (rV_cat _) ?_
  obtain ⟨D3, q3, h⟩ := bs h
  refine E_callI (μ := mX6_plain) (μ' := mX6_init) [] (pc' := 7) dX6_plain_4 rfl tq1088 IX6_75 (by decide) ⟨f2.2.2.1, f2.2.2.2.1⟩ rfl c1_n (cs rfl) (c1_r c1_n) (cs rfl) rfl f2.1 (CX6_init f2.1 (dO_gd f2.2.2 (by decide)) q3) (fun a3 b3 f3 => ?_)
  refine E_astore_n (pc' := 8) dX6_plain_7 rfl (cl rfl) (Or.inl rfl) (L' := [some (rV ((dT D)))]) rfl ?_
  refine E_aload_n (pc' := 9) dX6_plain_8 rfl rfl ?_
  refine X_bipush (pc' := 11) dX6_plain_9 rfl (by decide) ?_
  refine X_iconst (pc' := 12) dX6_plain_11 rfl ?_
  refine X_bipush (pc' := 14) dX6_plain_12 rfl (by decide) ?_
  obtain ⟨D4, q4, h⟩ := bs h
  refine E_callV [.int (iN (12)), .int (iN (0)), .int (iN (7))] (pc' := 17) dX6_plain_14 rfl (xVc VX6_76) (by decide) ⟨dO_pos (dO_le b3 f2.2.2), dO_is a3 (dO_le b3 f2.2.2) rfl⟩ rfl (c1_i (c1_i (c1_i c1_n))) (cs rfl) c1_n (cs rfl) rfl a3 (CX6_wall a3 (gdV_le b3 (dO_gd f2.2.2 (by decide))) (inR_c (n := 12) rfl) (inR_c (n := 0) rfl) (inR_c (n := 7) rfl) q4) (fun a4 b4 f4 => ?_)
  refine E_aload_n (pc' := 18) dX6_plain_17 rfl rfl ?_
  refine X_bipush (pc' := 20) dX6_plain_18 rfl (by decide) ?_
  refine X_iconst (pc' := 21) dX6_plain_20 rfl ?_
  refine X_bipush (pc' := 23) dX6_plain_21 rfl (by decide) ?_
  obtain ⟨D5, q5, h⟩ := bs h
  refine E_callV [.int (iN (15)), .int (iN (1)), .int (iN (10))] (pc' := 26) dX6_plain_23 rfl (xVc VX6_76) (by decide) ⟨dO_pos (dO_le b4 (dO_le b3 f2.2.2)), dO_is a4 (dO_le b4 (dO_le b3 f2.2.2)) rfl⟩ rfl (c1_i (c1_i (c1_i c1_n))) (cs rfl) c1_n (cs rfl) rfl a4 (CX6_wall a4 (gdV_le b4 (gdV_le b3 (dO_gd f2.2.2 (by decide)))) (inR_c (n := 15) rfl) (inR_c (n := 1) rfl) (inR_c (n := 10) rfl) q5) (fun a5 b5 f5 => ?_)
  refine E_aload_n (pc' := 27) dX6_plain_26 rfl rfl ?_
  refine X_iconst (pc' := 28) dX6_plain_27 rfl ?_
  refine X_bipush (pc' := 30) dX6_plain_28 rfl (by decide) ?_
  obtain ⟨D6, q6, h⟩ := bs h
  refine E_callV [.int (iN (1)), .int (iN (30))] (pc' := 33) dX6_plain_30 rfl (xVc VX6_80) (by decide) ⟨dO_pos (dO_le b5 (dO_le b4 (dO_le b3 f2.2.2))), dO_is a5 (dO_le b5 (dO_le b4 (dO_le b3 f2.2.2))) rfl⟩ rfl (c1_i (c1_i c1_n)) (cs rfl) c1_n (cs rfl) rfl a5 (CX6_harness a5 (gdV_le b5 (gdV_le b4 (gdV_le b3 (dO_gd f2.2.2 (by decide))))) (inR_c (n := 1) rfl) (inR_c (n := 30) rfl) q6) (fun a6 b6 f6 => ?_)
  refine E_aload_n (pc' := 34) dX6_plain_33 rfl rfl ?_
  refine X_iconst (pc' := 35) dX6_plain_34 rfl ?_
  refine X_bipush (pc' := 37) dX6_plain_35 rfl (by decide) ?_
  obtain ⟨D7, q7, h⟩ := bs h
  refine E_callV [.int (iN (1)), .int (iN (60))] (pc' := 40) dX6_plain_37 rfl (xVc VX6_80) (by decide) ⟨dO_pos (dO_le b6 (dO_le b5 (dO_le b4 (dO_le b3 f2.2.2)))), dO_is a6 (dO_le b6 (dO_le b5 (dO_le b4 (dO_le b3 f2.2.2)))) rfl⟩ rfl (c1_i (c1_i c1_n)) (cs rfl) c1_n (cs rfl) rfl a6 (CX6_harness a6 (gdV_le b6 (gdV_le b5 (gdV_le b4 (gdV_le b3 (dO_gd f2.2.2 (by decide)))))) (inR_c (n := 1) rfl) (inR_c (n := 60) rfl) q7) (fun a7 b7 f7 => ?_)
  refine E_aload_n (pc' := 41) dX6_plain_40 rfl rfl ?_
  refine X_iconst (pc' := 42) dX6_plain_41 rfl ?_
  refine X_iconst (pc' := 43) dX6_plain_42 rfl ?_
  obtain ⟨D8, q8, h⟩ := bs h
  refine E_callV [.int (iN (1)), .int (iN (0))] (pc' := 46) dX6_plain_43 rfl (xVc VX6_84) (by decide) ⟨dO_pos (dO_le b7 (dO_le b6 (dO_le b5 (dO_le b4 (dO_le b3 f2.2.2))))), dO_is a7 (dO_le b7 (dO_le b6 (dO_le b5 (dO_le b4 (dO_le b3 f2.2.2))))) rfl⟩ rfl (c1_i (c1_i c1_n)) (cs rfl) c1_n (cs rfl) rfl a7 (CX6_member a7 (gdV_le b7 (gdV_le b6 (gdV_le b5 (gdV_le b4 (gdV_le b3 (dO_gd f2.2.2 (by decide))))))) (inR_c (n := 1) rfl) (inR_c (n := 0) rfl) q8) (fun a8 b8 f8 => ?_)
  refine E_aload_n (pc' := 47) dX6_plain_46 rfl rfl ?_
  refine X_iconst (pc' := 48) dX6_plain_47 rfl ?_
  refine X_iconst (pc' := 49) dX6_plain_48 rfl ?_
  obtain ⟨D9, q9, h⟩ := bs h
  refine E_callV [.int (iN (1)), .int (iN (1))] (pc' := 52) dX6_plain_49 rfl (xVc VX6_84) (by decide) ⟨dO_pos (dO_le b8 (dO_le b7 (dO_le b6 (dO_le b5 (dO_le b4 (dO_le b3 f2.2.2)))))), dO_is a8 (dO_le b8 (dO_le b7 (dO_le b6 (dO_le b5 (dO_le b4 (dO_le b3 f2.2.2)))))) rfl⟩ rfl (c1_i (c1_i c1_n)) (cs rfl) c1_n (cs rfl) rfl a8 (CX6_member a8 (gdV_le b8 (gdV_le b7 (gdV_le b6 (gdV_le b5 (gdV_le b4 (gdV_le b3 (dO_gd f2.2.2 (by decide)))))))) (inR_c (n := 1) rfl) (inR_c (n := 1) rfl) q9) (fun a9 b9 f9 => ?_)
  refine E_aload_n (pc' := 53) dX6_plain_52 rfl rfl ?_
  refine E_getR (pc' := 56) dX6_plain_53 rfl FX6_37_6 a9 (dO_le b9 (dO_le b8 (dO_le b7 (dO_le b6 (dO_le b5 (dO_le b4 (dO_le b3 f2.2.2))))))) rfl (j := 8) rfl ?_
  refine X_iconst (pc' := 57) dX6_plain_56 rfl ?_
  obtain ⟨g10, h⟩ := gs h
  refine E_newI (pc' := 59) dX6_plain_57 rfl tq75 a9 g10 ?_
  obtain ⟨D11, e11, f11, h⟩ := zl_some (P := fun q => okD q ∧ DLe D9 q ∧ (dO q (dT D9) 20 ∧ ((dH q (dT D9)).2 : Int) = (3))) h ⟨okD_dnew a9 (by decide) (by omega) g10.2.1 (by omega), DLe_dnew _ (by decide), dO_dnew a9, dH_dnew g10.1.1⟩
  rw [e11]
  refine X_dup (pc' := 60) dX6_plain_59 rfl (rV_cat _) ?_
  refine X_iconst (pc' := 61) dX6_plain_60 rfl ?_
  refine X_iconst (pc' := 62) dX6_plain_61 rfl ?_
  obtain ⟨g12, h⟩ := gs h
  refine E_iast (pc' := 63) dX6_plain_62 rfl f11.1 f11.2.2.1 g12 ?_
  obtain ⟨D13, e13, f13, h⟩ := zl_some (P := fun q => okD q ∧ DLe D11 q) h ⟨okD_dupJ f11.1 g12.1 (okS_at20 f11.2.2.1 (inR_c (n := 1) rfl)), DLe_dup _ _ _ _⟩
  rw [e13]
  refine X_dup (pc' := 64) dX6_plain_63 rfl (rV_cat _) ?_
  refine X_iconst (pc' := 65) dX6_plain_64 rfl ?_
  refine X_iconst (pc' := 66) dX6_plain_65 rfl ?_
  obtain ⟨g14, h⟩ := gs h
  refine E_iast (pc' := 67) dX6_plain_66 rfl f13.1 (dO_le f13.2 f11.2.2.1) g14 ?_
  obtain ⟨D15, e15, f15, h⟩ := zl_some (P := fun q => okD q ∧ DLe D13 q) h ⟨okD_dupJ f13.1 g14.1 (okS_at20 (dO_le f13.2 f11.2.2.1) (inR_c (n := 4) rfl)), DLe_dup _ _ _ _⟩
  rw [e15]
  refine X_dup (pc' := 68) dX6_plain_67 rfl (rV_cat _) ?_
  refine X_iconst (pc' := 69) dX6_plain_68 rfl ?_
  refine X_iconst (pc' := 70) dX6_plain_69 rfl ?_
  obtain ⟨g16, h⟩ := gs h
  refine E_iast (pc' := 71) dX6_plain_70 rfl f15.1 (dO_le f15.2 (dO_le f13.2 f11.2.2.1)) g16 ?_
  obtain ⟨D17, e17, f17, h⟩ := zl_some (P := fun q => okD q ∧ DLe D15 q) h ⟨okD_dupJ f15.1 g16.1 (okS_at20 (dO_le f15.2 (dO_le f13.2 f11.2.2.1)) (inR_c (n := 5) rfl)), DLe_dup _ _ _ _⟩
  rw [e17]
  obtain ⟨⟨r18, D18⟩, q18, h⟩ := bs h
  obtain ⟨g19, h⟩ := gs h
  refine E_callV [rV ((dT D9))] (pc' := 74) dX6_plain_71 rfl (xVc VX6_65) (by decide) ⟨dO_pos g19, dO_is f17.1 g19 rfl⟩ rfl (c1_r c1_n) (cs rfl) c1_n (cs rfl) rfl f17.1 (CJx4a65c_add_9ea2d f17.1 (gdV_le f17.2 (gdV_le f15.2 (gdV_le f13.2 (gdV_le f11.2.1 (gd_slot (k := 8) a9 (dO_le b9 (dO_le b8 (dO_le b7 (dO_le b6 (dO_le b5 (dO_le b4 (dO_le b3 f2.2.2))))))) rfl (by decide)))))) (gdV_le f17.2 (gdV_le f15.2 (gdV_le f13.2 (dO_gd f11.2.2.1 (by decide))))) q18) (fun a18 b18 f18 => ?_)
  refine X_pop (pc' := 75) dX6_plain_74 rfl rfl ?_
  refine E_aload_n (pc' := 76) dX6_plain_75 rfl rfl ?_
  cases h
  exact E_aret dX6_plain_76 rfl (Or.inl ⟨_, rfl⟩) (k a18 (DLe_trans (DLe_trans (DLe_trans (DLe_trans (DLe_trans (DLe_trans (DLe_trans (DLe_trans (DLe_trans (DLe_trans (DLe_trans (DLe_trans f2.2.1 b3) b4) b5) b6) b7) b8) b9) f11.2.1) f13.2) f15.2) f17.2) b18) (gdV_le b18 (gdV_le f17.2 (gdV_le f15.2 (gdV_le f13.2 (gdV_le f11.2.1 (gdV_le b9 (gdV_le b8 (gdV_le b7 (gdV_le b6 (gdV_le b5 (gdV_le b4 (gdV_le b3 (dO_gd f2.2.2 (by decide)))))))))))))))
def fL_cell (v1 : Int) (ln : Nat) (z : ZZ) (D : DD) : Option (Int) := (if (v1) < ((ln : Int)) then (if (0 : Int) ≤ (v1) ∧ (v1 : Int) < (ln : Int) then some ((z 1000000 (v1))) else none) else some (0))
set_option maxRecDepth 100000 in
theorem CL_cell {ln : Nat} {D : DD} {z : ZZ} {v1 : Int} (hD : okD D) (hln : ln < 2147483648) (hz : okz z) (rv1 : inR v1) {p : Int} (h : fL_cell v1 ln z D = some p) : XD mL_cell 0 (xEnt [.ref 1000000, .int (iN (v1))] (xL mL_cell)) [] ln D z (Qd (FdD D D (inR p)) (.inl (some (.int (iN p)))) (sD ln D z)) := by
  have k : K_r (Qd (FdD D D (inR p)) (.inl (some (.int (iN p)))) (sD ln D z)) ln D z p := fun a => ⟨⟨hD, DLe_refl D, a⟩, rfl, rfl⟩
  unfold fL_cell at h
  refine E_ent (c1_f rfl (c1_i c1_n)) (M := [some (.ref 1000000), some (.int (iN (v1)))]) rfl ?_
  refine X_iload_n (pc' := 1) dL_cell_0 rfl rfl ?_
  refine X_aload_n (pc' := 2) dL_cell_1 rfl rfl ?_
  refine X_alenS (pc' := 3) dL_cell_2 rfl (by decide) (shS (ln, D)) (Or.inl rfl) ?_
  refine X_icmp_ge dL_cell_3 (tgt := 12) rfl (pc' := 6) rfl ⟨rv1.1, rv1.2, (inR_ln hln).1, (inR_ln hln).2⟩ (fun c1 => ?_) (fun c1 => ?_)
  · have h := if_f (Int.not_lt.mpr c1) h
    refine X_iconst (pc' := 13) dL_cell_12 rfl ?_
    cases h
    exact X_iret dL_cell_13 rfl (k (inR_c (n := 0) rfl))
  have h := if_t c1 h
  refine X_aload_n (pc' := 7) dL_cell_6 rfl rfl ?_
  refine X_iload_n (pc' := 8) dL_cell_7 rfl rfl ?_
  obtain ⟨g2, h⟩ := gs h
  refine Y_ialdS (pc' := 9) dL_cell_8 rfl (shS (ln, D)) hln g2 ?_
  refine X_goto dL_cell_9 (tgt := 13) rfl ?_
  cases h
  exact X_iret dL_cell_13 rfl (k (hz 1000000 (v1) (by decide)))
def fL_pick (v1 : Int) (v2 : Int) (ln : Nat) (z : ZZ) (D : DD) : Option (Int) := (Option.bind (fL_cell (v1) ln z D) fun r1 => (if (0 : Int) ≤ ((zand r1 2147483647)) ∧ (0 : Int) < (v2) then some (((zand r1 2147483647) % v2)) else none))
set_option maxRecDepth 100000 in
theorem CL_pick {ln : Nat} {D : DD} {z : ZZ} {v1 : Int} {v2 : Int} (hD : okD D) (hln : ln < 2147483648) (hz : okz z) (rv1 : inR v1) (rv2 : inR v2) {p : Int} (h : fL_pick v1 v2 ln z D = some p) : XD mL_pick 0 (xEnt [.ref 1000000, .int (iN (v1)), .int (iN (v2))] (xL mL_pick)) [] ln D z (Qd (FdD D D (inR p)) (.inl (some (.int (iN p)))) (sD ln D z)) := by
  have k : K_r (Qd (FdD D D (inR p)) (.inl (some (.int (iN p)))) (sD ln D z)) ln D z p := fun a => ⟨⟨hD, DLe_refl D, a⟩, rfl, rfl⟩
  unfold fL_pick at h
  refine E_ent (c1_f rfl (c1_i (c1_i c1_n))) (M := [some (.ref 1000000), some (.int (iN (v1))), some (.int (iN (v2)))]) rfl ?_
  refine X_aload_n (pc' := 1) dL_pick_0 rfl rfl ?_
  refine X_iload_n (pc' := 2) dL_pick_1 rfl rfl ?_
  obtain ⟨r1, q1, h⟩ := bs h
  refine E_callS [.ref 1000000, .int (iN (v1))] (pc' := 5) dL_pick_2 rfl (xSn SL_7) (by decide) rfl (c1_f rfl (c1_i c1_n)) (cs rfl) c1_n (cs rfl) rfl hD (CL_cell hD hln hz rv1 q1) (fun a1 b1 f1 => ?_)
  refine X_ldcI (pc' := 7) dL_pick_5 rfl tq1113 (n := 2147483647) rfl ?_
  refine X_iand (pc' := 8) dL_pick_7 rfl ?_
  refine X_iload_n (pc' := 9) dL_pick_8 rfl rfl ?_
  obtain ⟨g2, h⟩ := gs h
  refine X_irem (pc' := 10) dL_pick_9 rfl ⟨g2.1, (inR_zand _ _).2, g2.2, rv2.2⟩ ?_
  cases h
  exact X_iret dL_pick_10 rfl (k (inR_mod g2 rv2))
def fX6_drawn_s67 (v1 : Int) (v3 : Int) (v4 : Int) (ln : Nat) (z : ZZ) (D : DD) : Option ((Int × DD) ⊕ (DD)) := (if (0 : Int) ≤ (v3) ∧ (0 : Int) < (5) then (if inR ((1 + (v3 % 5))) then (if (v4) < ((1 + (v3 % 5))) then (if inR ((2 + v4)) then (Option.bind (fL_pick ((2 + v4)) (1000000000) ln z D) fun r5 => (if (0 : Int) ≤ (r5) ∧ (0 : Int) < (28) then (if (0 : Int) ≤ (r5) ∧ (0 : Int) < (28) then (if (0 : Int) ≤ ((r5 / 28)) ∧ (0 : Int) < (3) then (if (0 : Int) ≤ (r5) ∧ (0 : Int) < (90) then (if (0 : Int) ≤ ((r5 / 90)) ∧ (0 : Int) < (12) then (if inR ((3 + (r5 % 28))) then (if inR ((1 + ((r5 / 90) % 12))) then (Option.bind (fX6_wall (v1) ((3 + (r5 % 28))) (((r5 / 28) % 3)) ((1 + ((r5 / 90) % 12))) D) fun D13 => (if dO D (v1) 7 then (if inR ((v4 + 1)) then some (.inl ((v4 + 1), D13)) else none) else none)) else none) else none) else none) else none) else none) else none) else none)) else none) else some (.inr D)) else none) else none)
set_option maxRecDepth 100000 in
theorem SX6_drawn_67 {ln : Nat} {D : DD} {z : ZZ} {v1 : Int} {v3 : Int} {v4 : Int} {Φ : xRes → xS → Prop} (hD : okD D) (hln : ln < 2147483648) (hz : okz z) (rv1 : gdV D v1) (rv3 : inR v3) (rv4 : inR v4) {p : (Int × DD) ⊕ (DD)} (h : fX6_drawn_s67 v1 v3 v4 ln z D = some p) (k1 : ∀ (v4' : Int) (D' : DD), p = .inl (v4', D') → okD D' → DLe D D' → inR v4' → XD mX6_drawn 67 [some (.ref 1000000), some (rV (v1)), none, some (.int (iN (v3))), some (.int (iN (v4'))), none] [] ln D' z Φ) (k2 : ∀ (D' : DD), p = .inr D' → okD D' → DLe D D' → XD mX6_drawn 123 [some (.ref 1000000), some (rV (v1)), none, some (.int (iN (v3))), none, none] [] ln D' z Φ) : XD mX6_drawn 67 [some (.ref 1000000), some (rV (v1)), none, some (.int (iN (v3))), some (.int (iN (v4))), none] [] ln D z Φ := by
  unfold fX6_drawn_s67 at h
  refine X_iload (pc' := 69) dX6_drawn_67 rfl rfl ?_
  refine X_iconst (pc' := 70) dX6_drawn_69 rfl ?_
  refine X_iload_n (pc' := 71) dX6_drawn_70 rfl rfl ?_
  refine X_iconst (pc' := 72) dX6_drawn_71 rfl ?_
  obtain ⟨g1, h⟩ := gs h
  refine X_irem (pc' := 73) dX6_drawn_72 rfl ⟨g1.1, rv3.2, g1.2, (inR_c (n := 5) rfl).2⟩ ?_
  refine X_iadd (pc' := 74) dX6_drawn_73 rfl ?_
  obtain ⟨g3, h⟩ := gs h
  refine X_icmp_ge dX6_drawn_74 (tgt := 123) rfl (pc' := 77) rfl ⟨rv4.1, rv4.2, g3.1, g3.2⟩ (fun c2 => ?_) (fun c2 => ?_)
  · have h := if_f (Int.not_lt.mpr c2) h
    cases h
    exact X_sub (sub_s (sub_s (sub_n (sub_s (sub_n (sub_n sub_0)))))) (k2 _ rfl hD (DLe_refl _))
  have h := if_t c2 h
  refine X_aload_n (pc' := 78) dX6_drawn_77 rfl rfl ?_
  refine X_iconst (pc' := 79) dX6_drawn_78 rfl ?_
  refine X_iload (pc' := 81) dX6_drawn_79 rfl rfl ?_
  refine X_iadd (pc' := 82) dX6_drawn_81 rfl ?_
  refine X_ldcI (pc' := 84) dX6_drawn_82 rfl tq1106 (n := 1000000000) rfl ?_
  obtain ⟨g4, h⟩ := gs h
  obtain ⟨r5, q5, h⟩ := bs h
  refine E_callS [.ref 1000000, .int (iN ((2 + v4))), .int (iN (1000000000))] (pc' := 87) dX6_drawn_84 rfl SX6_88 (by decide) rfl (c1_f rfl (c1_i (c1_i c1_n))) (cs rfl) c1_n (cs rfl) rfl hD (CL_pick hD hln hz g4 (inR_c (n := 1000000000) rfl) q5) (fun a5 b5 f5 => ?_)
  refine X_istore (pc' := 89) dX6_drawn_87 rfl (cl rfl) (Or.inr rfl) (L' := [some (.ref 1000000), some (rV (v1)), none, some (.int (iN (v3))), some (.int (iN (v4))), some (.int (iN (r5)))]) rfl ?_
  refine E_aload_n (pc' := 90) dX6_drawn_89 rfl rfl ?_
  refine X_iconst (pc' := 91) dX6_drawn_90 rfl ?_
  refine X_iload (pc' := 93) dX6_drawn_91 rfl rfl ?_
  refine X_bipush (pc' := 95) dX6_drawn_93 rfl (by decide) ?_
  obtain ⟨g6, h⟩ := gs h
  refine X_irem (pc' := 96) dX6_drawn_95 rfl ⟨g6.1, f5.2, g6.2, (inR_c (n := 28) rfl).2⟩ ?_
  refine X_iadd (pc' := 97) dX6_drawn_96 rfl ?_
  refine X_iload (pc' := 99) dX6_drawn_97 rfl rfl ?_
  refine X_bipush (pc' := 101) dX6_drawn_99 rfl (by decide) ?_
  obtain ⟨g7, h⟩ := gs h
  refine X_idiv (pc' := 102) dX6_drawn_101 rfl ⟨g7.1, f5.2, g7.2, (inR_c (n := 28) rfl).2⟩ ?_
  refine X_iconst (pc' := 103) dX6_drawn_102 rfl ?_
  obtain ⟨g8, h⟩ := gs h
  refine X_irem (pc' := 104) dX6_drawn_103 rfl ⟨g8.1, (inR_div g7 f5).2, g8.2, (inR_c (n := 3) rfl).2⟩ ?_
  refine X_iconst (pc' := 105) dX6_drawn_104 rfl ?_
  refine X_iload (pc' := 107) dX6_drawn_105 rfl rfl ?_
  refine X_bipush (pc' := 109) dX6_drawn_107 rfl (by decide) ?_
  obtain ⟨g9, h⟩ := gs h
  refine X_idiv (pc' := 110) dX6_drawn_109 rfl ⟨g9.1, f5.2, g9.2, (inR_c (n := 90) rfl).2⟩ ?_
  refine X_bipush (pc' := 112) dX6_drawn_110 rfl (by decide) ?_
  obtain ⟨g10, h⟩ := gs h
  refine X_irem (pc' := 113) dX6_drawn_112 rfl ⟨g10.1, (inR_div g9 f5).2, g10.2, (inR_c (n := 12) rfl).2⟩ ?_
  refine X_iadd (pc' := 114) dX6_drawn_113 rfl ?_
  obtain ⟨g11, h⟩ := gs h
  obtain ⟨g12, h⟩ := gs h
  obtain ⟨D13, q13, h⟩ := bs h
  obtain ⟨g14, h⟩ := gs h
  refine E_callV [.int (iN ((3 + (r5 % 28)))), .int (iN (((r5 / 28) % 3))), .int (iN ((1 + ((r5 / 90) % 12))))] (pc' := 117) dX6_drawn_114 rfl (xVc VX6_76) (by decide) ⟨dO_pos g14, dO_is hD g14 rfl⟩ rfl (c1_i (c1_i (c1_i c1_n))) (cs rfl) c1_n (cs rfl) rfl hD (CX6_wall hD rv1 g11 (inR_mod g8 (inR_c (n := 3) rfl)) g12 q13) (fun a13 b13 f13 => ?_)
  refine X_iinc (pc' := 120) dX6_drawn_117 rfl rfl (Or.inr rfl) (L' := [some (.ref 1000000), some (rV (v1)), none, some (.int (iN (v3))), some (.int (iN (v4 + 1))), some (.int (iN (r5)))]) rfl ?_
  refine X_goto dX6_drawn_120 (tgt := 67) rfl ?_
  obtain ⟨g15, h⟩ := gs h
  cases h
  exact X_sub (sub_s (sub_s (sub_n (sub_s (sub_s (sub_n sub_0)))))) (k1 _ _ rfl a13 b13 g15)
theorem LX6_drawn_67 {ln : Nat} {z : ZZ} {v1 : Int} {v3 : Int} {Φ : xRes → xS → Prop} (hln : ln < 2147483648) (hz : okz z) {r : DD} : ∀ (n : Nat) (v4 : Int) (D : DD), okD D → gdV D v1 → inR v3 → inR v4 → zlp (fun q => fX6_drawn_s67 v1 v3 q.1 ln z q.2) n (v4, D) = some r → (∀ (D' : DD), r = D' → okD D' → DLe D D' → XD mX6_drawn 123 [some (.ref 1000000), some (rV (v1)), none, some (.int (iN (v3))), none, none] [] ln D' z Φ) → XD mX6_drawn 67 [some (.ref 1000000), some (rV (v1)), none, some (.int (iN (v3))), some (.int (iN (v4))), none] [] ln D z Φ := by
  intro n
  induction n with
  | zero => intro v4 D hD rv1 rv3 rv4 h k2; cases h
  | succ n ih =>
    intro v4 D hD rv1 rv3 rv4 h k2
    rcases zlp_s h with ⟨⟨v4', D'⟩, e, h'⟩ | e
    · exact SX6_drawn_67 hD hln hz rv1 rv3 rv4 e (fun v4₁ D₁ hh a b f0 => by cases hh; exact ih _ _ a (gdV_le b rv1) rv3 f0 h' (fun D9 hh a' b' => k2 D9 hh a' (DLe_trans b b'))) (fun D9 hh => by cases hh)
    · exact SX6_drawn_67 hD hln hz rv1 rv3 rv4 e (fun v4₁ D₁ hh => by cases hh) (fun D9 hh a b => by cases hh; exact k2 _ rfl a b )
def fX6_drawn_b170 (v1 : Int) (v3 : Int) (v4 : Int) (v5 : Int) (s0 : Int) (s1 : Int) (ln : Nat) (z : ZZ) (D : DD) : Option ((Int × DD) ⊕ (DD)) := (if (0 : Int) ≤ (v5) ∧ (0 : Int) < (12) then (if (0 : Int) ≤ ((v5 / 12)) ∧ (0 : Int) < (40) then (if inR ((1 + ((v5 / 12) % 40))) then (Option.bind (fX6_harness (s0) (s1) ((1 + ((v5 / 12) % 40))) D) fun D4 => (if dO D (s0) 7 then (if inR ((v4 + 1)) then some (.inl ((v4 + 1), D4)) else none) else none)) else none) else none) else none)
set_option maxRecDepth 100000 in
theorem BX6_drawn_170 {ln : Nat} {D : DD} {z : ZZ} {v1 : Int} {v3 : Int} {v4 : Int} {v5 : Int} {s0 : Int} {s1 : Int} {Φ : xRes → xS → Prop} (hD : okD D) (hln : ln < 2147483648) (hz : okz z) (rv1 : gdV D v1) (rv3 : inR v3) (rv4 : inR v4) (rv5 : inR v5) (rs0 : gdV D s0) (rs1 : inR s1) {p : (Int × DD) ⊕ (DD)} (h : fX6_drawn_b170 v1 v3 v4 v5 s0 s1 ln z D = some p) (k1 : ∀ (v4' : Int) (D' : DD), p = .inl (v4', D') → okD D' → DLe D D' → inR v4' → XD mX6_drawn 126 [some (.ref 1000000), some (rV (v1)), none, some (.int (iN (v3))), some (.int (iN (v4'))), none] [] ln D' z Φ) (k2 : ∀ (D' : DD), p = .inr D' → okD D' → DLe D D' → XD mX6_drawn 189 [some (.ref 1000000), some (rV (v1)), none, some (.int (iN (v3))), none, none] [] ln D' z Φ) : XD mX6_drawn 170 [some (.ref 1000000), some (rV (v1)), none, some (.int (iN (v3))), some (.int (iN (v4))), some (.int (iN (v5)))] [.int (iN (s1)), rV (s0)] ln D z Φ := by
  unfold fX6_drawn_b170 at h
  refine X_iconst (pc' := 171) dX6_drawn_170 rfl ?_
  refine X_iload (pc' := 173) dX6_drawn_171 rfl rfl ?_
  refine X_bipush (pc' := 175) dX6_drawn_173 rfl (by decide) ?_
  obtain ⟨g1, h⟩ := gs h
  refine X_idiv (pc' := 176) dX6_drawn_175 rfl ⟨g1.1, rv5.2, g1.2, (inR_c (n := 12) rfl).2⟩ ?_
  refine X_bipush (pc' := 178) dX6_drawn_176 rfl (by decide) ?_
  obtain ⟨g2, h⟩ := gs h
  refine X_irem (pc' := 179) dX6_drawn_178 rfl ⟨g2.1, (inR_div g1 rv5).2, g2.2, (inR_c (n := 40) rfl).2⟩ ?_
  refine X_iadd (pc' := 180) dX6_drawn_179 rfl ?_
  obtain ⟨g3, h⟩ := gs h
  obtain ⟨D4, q4, h⟩ := bs h
  obtain ⟨g5, h⟩ := gs h
  refine E_callV [.int (iN (s1)), .int (iN ((1 + ((v5 / 12) % 40))))] (pc' := 183) dX6_drawn_180 rfl (xVc VX6_80) (by decide) ⟨dO_pos g5, dO_is hD g5 rfl⟩ rfl (c1_i (c1_i c1_n)) (cs rfl) c1_n (cs rfl) rfl hD (CX6_harness hD rs0 rs1 g3 q4) (fun a4 b4 f4 => ?_)
  refine X_iinc (pc' := 186) dX6_drawn_183 rfl rfl (Or.inr rfl) (L' := [some (.ref 1000000), some (rV (v1)), none, some (.int (iN (v3))), some (.int (iN (v4 + 1))), some (.int (iN (v5)))]) rfl ?_
  refine X_goto dX6_drawn_186 (tgt := 126) rfl ?_
  obtain ⟨g6, h⟩ := gs h
  cases h
  exact X_sub (sub_s (sub_s (sub_n (sub_s (sub_s (sub_n sub_0)))))) (k1 _ _ rfl a4 b4 g6)
def fX6_drawn_s126 (v1 : Int) (v3 : Int) (v4 : Int) (ln : Nat) (z : ZZ) (D : DD) : Option ((Int × DD) ⊕ (DD)) := (if (0 : Int) ≤ (v3) ∧ (0 : Int) < (5) then (if (0 : Int) ≤ ((v3 / 5)) ∧ (0 : Int) < (6) then (if inR ((2 + ((v3 / 5) % 6))) then (if (v4) < ((2 + ((v3 / 5) % 6))) then (if inR ((7 + v4)) then (Option.bind (fL_pick ((7 + v4)) (1000000000) ln z D) fun r6 => (if (0 : Int) ≤ (r6) ∧ (0 : Int) < (3) then (if ((r6 % 3)) = (0) then (if (0 : Int) ≤ (r6) ∧ (0 : Int) < (3) then (if (0 : Int) ≤ ((r6 / 3)) ∧ (0 : Int) < (4) then fX6_drawn_b170 (v1) (v3) (v4) (r6) (v1) (((r6 / 3) % 4)) ln z D else none) else none) else fX6_drawn_b170 (v1) (v3) (v4) (r6) (v1) (1) ln z D) else none)) else none) else some (.inr D)) else none) else none) else none)
set_option maxRecDepth 100000 in
theorem SX6_drawn_126 {ln : Nat} {D : DD} {z : ZZ} {v1 : Int} {v3 : Int} {v4 : Int} {Φ : xRes → xS → Prop} (hD : okD D) (hln : ln < 2147483648) (hz : okz z) (rv1 : gdV D v1) (rv3 : inR v3) (rv4 : inR v4) {p : (Int × DD) ⊕ (DD)} (h : fX6_drawn_s126 v1 v3 v4 ln z D = some p) (k1 : ∀ (v4' : Int) (D' : DD), p = .inl (v4', D') → okD D' → DLe D D' → inR v4' → XD mX6_drawn 126 [some (.ref 1000000), some (rV (v1)), none, some (.int (iN (v3))), some (.int (iN (v4'))), none] [] ln D' z Φ) (k2 : ∀ (D' : DD), p = .inr D' → okD D' → DLe D D' → XD mX6_drawn 189 [some (.ref 1000000), some (rV (v1)), none, some (.int (iN (v3))), none, none] [] ln D' z Φ) : XD mX6_drawn 126 [some (.ref 1000000), some (rV (v1)), none, some (.int (iN (v3))), some (.int (iN (v4))), none] [] ln D z Φ := by
  unfold fX6_drawn_s126 at h
  refine X_iload (pc' := 128) dX6_drawn_126 rfl rfl ?_
  refine X_iconst (pc' := 129) dX6_drawn_128 rfl ?_
  refine X_iload_n (pc' := 130) dX6_drawn_129 rfl rfl ?_
  refine X_iconst (pc' := 131) dX6_drawn_130 rfl ?_
  obtain ⟨g1, h⟩ := gs h
  refine X_idiv (pc' := 132) dX6_drawn_131 rfl ⟨g1.1, rv3.2, g1.2, (inR_c (n := 5) rfl).2⟩ ?_
  refine X_bipush (pc' := 134) dX6_drawn_132 rfl (by decide) ?_
  obtain ⟨g2, h⟩ := gs h
  refine X_irem (pc' := 135) dX6_drawn_134 rfl ⟨g2.1, (inR_div g1 rv3).2, g2.2, (inR_c (n := 6) rfl).2⟩ ?_
  refine X_iadd (pc' := 136) dX6_drawn_135 rfl ?_
  obtain ⟨g4, h⟩ := gs h
  refine X_icmp_ge dX6_drawn_136 (tgt := 189) rfl (pc' := 139) rfl ⟨rv4.1, rv4.2, g4.1, g4.2⟩ (fun c3 => ?_) (fun c3 => ?_)
  · have h := if_f (Int.not_lt.mpr c3) h
    cases h
    exact X_sub (sub_s (sub_s (sub_n (sub_s (sub_n (sub_n sub_0)))))) (k2 _ rfl hD (DLe_refl _))
  have h := if_t c3 h
  refine X_aload_n (pc' := 140) dX6_drawn_139 rfl rfl ?_
  refine X_bipush (pc' := 142) dX6_drawn_140 rfl (by decide) ?_
  refine X_iload (pc' := 144) dX6_drawn_142 rfl rfl ?_
  refine X_iadd (pc' := 145) dX6_drawn_144 rfl ?_
  refine X_ldcI (pc' := 147) dX6_drawn_145 rfl tq1106 (n := 1000000000) rfl ?_
  obtain ⟨g5, h⟩ := gs h
  obtain ⟨r6, q6, h⟩ := bs h
  refine E_callS [.ref 1000000, .int (iN ((7 + v4))), .int (iN (1000000000))] (pc' := 150) dX6_drawn_147 rfl SX6_88 (by decide) rfl (c1_f rfl (c1_i (c1_i c1_n))) (cs rfl) c1_n (cs rfl) rfl hD (CL_pick hD hln hz g5 (inR_c (n := 1000000000) rfl) q6) (fun a6 b6 f6 => ?_)
  refine X_istore (pc' := 152) dX6_drawn_150 rfl (cl rfl) (Or.inr rfl) (L' := [some (.ref 1000000), some (rV (v1)), none, some (.int (iN (v3))), some (.int (iN (v4))), some (.int (iN (r6)))]) rfl ?_
  refine E_aload_n (pc' := 153) dX6_drawn_152 rfl rfl ?_
  refine X_iload (pc' := 155) dX6_drawn_153 rfl rfl ?_
  refine X_iconst (pc' := 156) dX6_drawn_155 rfl ?_
  obtain ⟨g7, h⟩ := gs h
  refine X_irem (pc' := 157) dX6_drawn_156 rfl ⟨g7.1, f6.2, g7.2, (inR_c (n := 3) rfl).2⟩ ?_
  refine X_if_ne dX6_drawn_157 (tgt := 169) rfl (pc' := 160) rfl (inR_mod g7 (inR_c (n := 3) rfl)) (fun c8 => ?_) (fun c8 => ?_)
  · have h := if_f c8 h
    refine X_iconst (pc' := 170) dX6_drawn_169 rfl ?_
    exact X_sub (sub_s (sub_s (sub_n (sub_s (sub_s (sub_s sub_0)))))) (BX6_drawn_170 hD hln hz rv1 rv3 rv4 f6 rv1 (inR_c (n := 1) rfl) h (fun x0 D9 hh a b f0 => k1 x0 D9 hh a (DLe_trans (DLe_refl _) b) f0) (fun D9 hh a b => k2 D9 hh a (DLe_trans (DLe_refl _) b)))
  have h := if_t c8 h
  refine X_iload (pc' := 162) dX6_drawn_160 rfl rfl ?_
  refine X_iconst (pc' := 163) dX6_drawn_162 rfl ?_
  obtain ⟨g9, h⟩ := gs h
  refine X_idiv (pc' := 164) dX6_drawn_163 rfl ⟨g9.1, f6.2, g9.2, (inR_c (n := 3) rfl).2⟩ ?_
  refine X_iconst (pc' := 165) dX6_drawn_164 rfl ?_
  obtain ⟨g10, h⟩ := gs h
  refine X_irem (pc' := 166) dX6_drawn_165 rfl ⟨g10.1, (inR_div g9 f6).2, g10.2, (inR_c (n := 4) rfl).2⟩ ?_
  refine X_goto dX6_drawn_166 (tgt := 170) rfl ?_
  exact X_sub (sub_s (sub_s (sub_n (sub_s (sub_s (sub_s sub_0)))))) (BX6_drawn_170 hD hln hz rv1 rv3 rv4 f6 rv1 (inR_mod g10 (inR_c (n := 4) rfl)) h (fun x0 D9 hh a b f0 => k1 x0 D9 hh a (DLe_trans (DLe_refl _) b) f0) (fun D9 hh a b => k2 D9 hh a (DLe_trans (DLe_refl _) b)))
theorem LX6_drawn_126 {ln : Nat} {z : ZZ} {v1 : Int} {v3 : Int} {Φ : xRes → xS → Prop} (hln : ln < 2147483648) (hz : okz z) {r : DD} : ∀ (n : Nat) (v4 : Int) (D : DD), okD D → gdV D v1 → inR v3 → inR v4 → zlp (fun q => fX6_drawn_s126 v1 v3 q.1 ln z q.2) n (v4, D) = some r → (∀ (D' : DD), r = D' → okD D' → DLe D D' → XD mX6_drawn 189 [some (.ref 1000000), some (rV (v1)), none, some (.int (iN (v3))), none, none] [] ln D' z Φ) → XD mX6_drawn 126 [some (.ref 1000000), some (rV (v1)), none, some (.int (iN (v3))), some (.int (iN (v4))), none] [] ln D z Φ := by
  intro n
  induction n with
  | zero => intro v4 D hD rv1 rv3 rv4 h k2; cases h
  | succ n ih =>
    intro v4 D hD rv1 rv3 rv4 h k2
    rcases zlp_s h with ⟨⟨v4', D'⟩, e, h'⟩ | e
    · exact SX6_drawn_126 hD hln hz rv1 rv3 rv4 e (fun v4₁ D₁ hh a b f0 => by cases hh; exact ih _ _ a (gdV_le b rv1) rv3 f0 h' (fun D9 hh a' b' => k2 D9 hh a' (DLe_trans b b'))) (fun D9 hh => by cases hh)
    · exact SX6_drawn_126 hD hln hz rv1 rv3 rv4 e (fun v4₁ D₁ hh => by cases hh) (fun D9 hh a b => by cases hh; exact k2 _ rfl a b )
def fX6_drawn_b237 (v1 : Int) (v3 : Int) (v4 : Int) (v5 : Int) (s0 : Int) (s1 : Int) (ln : Nat) (z : ZZ) (D : DD) : Option ((Int × DD) ⊕ (DD)) := (if (0 : Int) ≤ (v5) ∧ (0 : Int) < (16) then (if (0 : Int) ≤ ((v5 / 16)) ∧ (0 : Int) < (4) then (Option.bind (fX6_member (s0) (s1) (((v5 / 16) % 4)) D) fun D3 => (if dO D (s0) 7 then (if inR ((v4 + 1)) then some (.inl ((v4 + 1), D3)) else none) else none)) else none) else none)
set_option maxRecDepth 100000 in
theorem BX6_drawn_237 {ln : Nat} {D : DD} {z : ZZ} {v1 : Int} {v3 : Int} {v4 : Int} {v5 : Int} {s0 : Int} {s1 : Int} {Φ : xRes → xS → Prop} (hD : okD D) (hln : ln < 2147483648) (hz : okz z) (rv1 : gdV D v1) (rv3 : inR v3) (rv4 : inR v4) (rv5 : inR v5) (rs0 : gdV D s0) (rs1 : inR s1) {p : (Int × DD) ⊕ (DD)} (h : fX6_drawn_b237 v1 v3 v4 v5 s0 s1 ln z D = some p) (k1 : ∀ (v4' : Int) (D' : DD), p = .inl (v4', D') → okD D' → DLe D D' → inR v4' → XD mX6_drawn 192 [some (.ref 1000000), some (rV (v1)), none, some (.int (iN (v3))), some (.int (iN (v4'))), none] [] ln D' z Φ) (k2 : ∀ (D' : DD), p = .inr D' → okD D' → DLe D D' → XD mX6_drawn 253 [some (.ref 1000000), some (rV (v1)), none, some (.int (iN (v3))), none, none] [] ln D' z Φ) : XD mX6_drawn 237 [some (.ref 1000000), some (rV (v1)), none, some (.int (iN (v3))), some (.int (iN (v4))), some (.int (iN (v5)))] [.int (iN (s1)), rV (s0)] ln D z Φ := by
  unfold fX6_drawn_b237 at h
  refine X_iload (pc' := 239) dX6_drawn_237 rfl rfl ?_
  refine X_bipush (pc' := 241) dX6_drawn_239 rfl (by decide) ?_
  obtain ⟨g1, h⟩ := gs h
  refine X_idiv (pc' := 242) dX6_drawn_241 rfl ⟨g1.1, rv5.2, g1.2, (inR_c (n := 16) rfl).2⟩ ?_
  refine X_iconst (pc' := 243) dX6_drawn_242 rfl ?_
  obtain ⟨g2, h⟩ := gs h
  refine X_irem (pc' := 244) dX6_drawn_243 rfl ⟨g2.1, (inR_div g1 rv5).2, g2.2, (inR_c (n := 4) rfl).2⟩ ?_
  obtain ⟨D3, q3, h⟩ := bs h
  obtain ⟨g4, h⟩ := gs h
  refine E_callV [.int (iN (s1)), .int (iN (((v5 / 16) % 4)))] (pc' := 247) dX6_drawn_244 rfl (xVc VX6_84) (by decide) ⟨dO_pos g4, dO_is hD g4 rfl⟩ rfl (c1_i (c1_i c1_n)) (cs rfl) c1_n (cs rfl) rfl hD (CX6_member hD rs0 rs1 (inR_mod g2 (inR_c (n := 4) rfl)) q3) (fun a3 b3 f3 => ?_)
  refine X_iinc (pc' := 250) dX6_drawn_247 rfl rfl (Or.inr rfl) (L' := [some (.ref 1000000), some (rV (v1)), none, some (.int (iN (v3))), some (.int (iN (v4 + 1))), some (.int (iN (v5)))]) rfl ?_
  refine X_goto dX6_drawn_250 (tgt := 192) rfl ?_
  obtain ⟨g5, h⟩ := gs h
  cases h
  exact X_sub (sub_s (sub_s (sub_n (sub_s (sub_s (sub_n sub_0)))))) (k1 _ _ rfl a3 b3 g5)
def fX6_drawn_s192 (v1 : Int) (v3 : Int) (v4 : Int) (ln : Nat) (z : ZZ) (D : DD) : Option ((Int × DD) ⊕ (DD)) := (if (0 : Int) ≤ (v3) ∧ (0 : Int) < (30) then (if (0 : Int) ≤ ((v3 / 30)) ∧ (0 : Int) < (6) then (if inR ((1 + ((v3 / 30) % 6))) then (if (v4) < ((1 + ((v3 / 30) % 6))) then (if inR ((14 + v4)) then (Option.bind (fL_pick ((14 + v4)) (1000000000) ln z D) fun r6 => (if (0 : Int) ≤ (r6) ∧ (0 : Int) < (4) then (if ((r6 % 4)) = (0) then (if (0 : Int) ≤ (r6) ∧ (0 : Int) < (4) then (if (0 : Int) ≤ ((r6 / 4)) ∧ (0 : Int) < (4) then fX6_drawn_b237 (v1) (v3) (v4) (r6) (v1) (((r6 / 4) % 4)) ln z D else none) else none) else fX6_drawn_b237 (v1) (v3) (v4) (r6) (v1) (1) ln z D) else none)) else none) else some (.inr D)) else none) else none) else none)
set_option maxRecDepth 100000 in
theorem SX6_drawn_192 {ln : Nat} {D : DD} {z : ZZ} {v1 : Int} {v3 : Int} {v4 : Int} {Φ : xRes → xS → Prop} (hD : okD D) (hln : ln < 2147483648) (hz : okz z) (rv1 : gdV D v1) (rv3 : inR v3) (rv4 : inR v4) {p : (Int × DD) ⊕ (DD)} (h : fX6_drawn_s192 v1 v3 v4 ln z D = some p) (k1 : ∀ (v4' : Int) (D' : DD), p = .inl (v4', D') → okD D' → DLe D D' → inR v4' → XD mX6_drawn 192 [some (.ref 1000000), some (rV (v1)), none, some (.int (iN (v3))), some (.int (iN (v4'))), none] [] ln D' z Φ) (k2 : ∀ (D' : DD), p = .inr D' → okD D' → DLe D D' → XD mX6_drawn 253 [some (.ref 1000000), some (rV (v1)), none, some (.int (iN (v3))), none, none] [] ln D' z Φ) : XD mX6_drawn 192 [some (.ref 1000000), some (rV (v1)), none, some (.int (iN (v3))), some (.int (iN (v4))), none] [] ln D z Φ := by
  unfold fX6_drawn_s192 at h
  refine X_iload (pc' := 194) dX6_drawn_192 rfl rfl ?_
  refine X_iconst (pc' := 195) dX6_drawn_194 rfl ?_
  refine X_iload_n (pc' := 196) dX6_drawn_195 rfl rfl ?_
  refine X_bipush (pc' := 198) dX6_drawn_196 rfl (by decide) ?_
  obtain ⟨g1, h⟩ := gs h
  refine X_idiv (pc' := 199) dX6_drawn_198 rfl ⟨g1.1, rv3.2, g1.2, (inR_c (n := 30) rfl).2⟩ ?_
  refine X_bipush (pc' := 201) dX6_drawn_199 rfl (by decide) ?_
  obtain ⟨g2, h⟩ := gs h
  refine X_irem (pc' := 202) dX6_drawn_201 rfl ⟨g2.1, (inR_div g1 rv3).2, g2.2, (inR_c (n := 6) rfl).2⟩ ?_
  refine X_iadd (pc' := 203) dX6_drawn_202 rfl ?_
  obtain ⟨g4, h⟩ := gs h
  refine X_icmp_ge dX6_drawn_203 (tgt := 253) rfl (pc' := 206) rfl ⟨rv4.1, rv4.2, g4.1, g4.2⟩ (fun c3 => ?_) (fun c3 => ?_)
  · have h := if_f (Int.not_lt.mpr c3) h
    cases h
    exact X_sub (sub_s (sub_s (sub_n (sub_s (sub_n (sub_n sub_0)))))) (k2 _ rfl hD (DLe_refl _))
  have h := if_t c3 h
  refine X_aload_n (pc' := 207) dX6_drawn_206 rfl rfl ?_
  refine X_bipush (pc' := 209) dX6_drawn_207 rfl (by decide) ?_
  refine X_iload (pc' := 211) dX6_drawn_209 rfl rfl ?_
  refine X_iadd (pc' := 212) dX6_drawn_211 rfl ?_
  refine X_ldcI (pc' := 214) dX6_drawn_212 rfl tq1106 (n := 1000000000) rfl ?_
  obtain ⟨g5, h⟩ := gs h
  obtain ⟨r6, q6, h⟩ := bs h
  refine E_callS [.ref 1000000, .int (iN ((14 + v4))), .int (iN (1000000000))] (pc' := 217) dX6_drawn_214 rfl SX6_88 (by decide) rfl (c1_f rfl (c1_i (c1_i c1_n))) (cs rfl) c1_n (cs rfl) rfl hD (CL_pick hD hln hz g5 (inR_c (n := 1000000000) rfl) q6) (fun a6 b6 f6 => ?_)
  refine X_istore (pc' := 219) dX6_drawn_217 rfl (cl rfl) (Or.inr rfl) (L' := [some (.ref 1000000), some (rV (v1)), none, some (.int (iN (v3))), some (.int (iN (v4))), some (.int (iN (r6)))]) rfl ?_
  refine E_aload_n (pc' := 220) dX6_drawn_219 rfl rfl ?_
  refine X_iload (pc' := 222) dX6_drawn_220 rfl rfl ?_
  refine X_iconst (pc' := 223) dX6_drawn_222 rfl ?_
  obtain ⟨g7, h⟩ := gs h
  refine X_irem (pc' := 224) dX6_drawn_223 rfl ⟨g7.1, f6.2, g7.2, (inR_c (n := 4) rfl).2⟩ ?_
  refine X_if_ne dX6_drawn_224 (tgt := 236) rfl (pc' := 227) rfl (inR_mod g7 (inR_c (n := 4) rfl)) (fun c8 => ?_) (fun c8 => ?_)
  · have h := if_f c8 h
    refine X_iconst (pc' := 237) dX6_drawn_236 rfl ?_
    exact X_sub (sub_s (sub_s (sub_n (sub_s (sub_s (sub_s sub_0)))))) (BX6_drawn_237 hD hln hz rv1 rv3 rv4 f6 rv1 (inR_c (n := 1) rfl) h (fun x0 D9 hh a b f0 => k1 x0 D9 hh a (DLe_trans (DLe_refl _) b) f0) (fun D9 hh a b => k2 D9 hh a (DLe_trans (DLe_refl _) b)))
  have h := if_t c8 h
  refine X_iload (pc' := 229) dX6_drawn_227 rfl rfl ?_
  refine X_iconst (pc' := 230) dX6_drawn_229 rfl ?_
  obtain ⟨g9, h⟩ := gs h
  refine X_idiv (pc' := 231) dX6_drawn_230 rfl ⟨g9.1, f6.2, g9.2, (inR_c (n := 4) rfl).2⟩ ?_
  refine X_iconst (pc' := 232) dX6_drawn_231 rfl ?_
  obtain ⟨g10, h⟩ := gs h
  refine X_irem (pc' := 233) dX6_drawn_232 rfl ⟨g10.1, (inR_div g9 f6).2, g10.2, (inR_c (n := 4) rfl).2⟩ ?_
  refine X_goto dX6_drawn_233 (tgt := 237) rfl ?_
  exact X_sub (sub_s (sub_s (sub_n (sub_s (sub_s (sub_s sub_0)))))) (BX6_drawn_237 hD hln hz rv1 rv3 rv4 f6 rv1 (inR_mod g10 (inR_c (n := 4) rfl)) h (fun x0 D9 hh a b f0 => k1 x0 D9 hh a (DLe_trans (DLe_refl _) b) f0) (fun D9 hh a b => k2 D9 hh a (DLe_trans (DLe_refl _) b)))
theorem LX6_drawn_192 {ln : Nat} {z : ZZ} {v1 : Int} {v3 : Int} {Φ : xRes → xS → Prop} (hln : ln < 2147483648) (hz : okz z) {r : DD} : ∀ (n : Nat) (v4 : Int) (D : DD), okD D → gdV D v1 → inR v3 → inR v4 → zlp (fun q => fX6_drawn_s192 v1 v3 q.1 ln z q.2) n (v4, D) = some r → (∀ (D' : DD), r = D' → okD D' → DLe D D' → XD mX6_drawn 253 [some (.ref 1000000), some (rV (v1)), none, some (.int (iN (v3))), none, none] [] ln D' z Φ) → XD mX6_drawn 192 [some (.ref 1000000), some (rV (v1)), none, some (.int (iN (v3))), some (.int (iN (v4))), none] [] ln D z Φ := by
  intro n
  induction n with
  | zero => intro v4 D hD rv1 rv3 rv4 h k2; cases h
  | succ n ih =>
    intro v4 D hD rv1 rv3 rv4 h k2
    rcases zlp_s h with ⟨⟨v4', D'⟩, e, h'⟩ | e
    · exact SX6_drawn_192 hD hln hz rv1 rv3 rv4 e (fun v4₁ D₁ hh a b f0 => by cases hh; exact ih _ _ a (gdV_le b rv1) rv3 f0 h' (fun D9 hh a' b' => k2 D9 hh a' (DLe_trans b b'))) (fun D9 hh => by cases hh)
    · exact SX6_drawn_192 hD hln hz rv1 rv3 rv4 e (fun v4₁ D₁ hh => by cases hh) (fun D9 hh a b => by cases hh; exact k2 _ rfl a b )
def fX6_drawn_s256 (v1 : Int) (v3 : Int) (v4 : Int) (ln : Nat) (z : ZZ) (D : DD) : Option ((Int × DD) ⊕ (DD)) := (if (0 : Int) ≤ (v3) ∧ (0 : Int) < (180) then (if (0 : Int) ≤ ((v3 / 180)) ∧ (0 : Int) < (5) then (if (v4) < (((v3 / 180) % 5)) then (if inR ((20 + v4)) then (Option.bind (fL_pick ((20 + v4)) (1000000000) ln z D) fun r5 => (if dO D (v1) 7 then (if ((0 : Int) ≤ (3) ∧ (3 : Int) ≤ 1000000) ∧ dT D < 600000 ∧ dS D + (3) ≤ 7200000 then (zl (dnew D 20 (3 : Int).toNat) fun D8 => (if (0 : Int) ≤ (r5) ∧ (0 : Int) < (4) then (if (0 : Int) ≤ (0) ∧ (0 : Int) < ((dH D8 ((dT D))).2 : Int) then (if inR ((1 + (r5 % 4))) then (zl (dup D8 ((dT D)) (0) ((1 + (r5 % 4)))) fun D12 => (if (0 : Int) ≤ (r5) ∧ (0 : Int) < (4) then (if (0 : Int) ≤ ((r5 / 4)) ∧ (0 : Int) < (3) then (if (0 : Int) ≤ (1) ∧ (1 : Int) < ((dH D12 ((dT D))).2 : Int) then (if inR ((1 + ((r5 / 4) % 3))) then (zl (dup D12 ((dT D)) (1) ((1 + ((r5 / 4) % 3)))) fun D17 => (if (0 : Int) ≤ (r5) ∧ (0 : Int) < (12) then (if (0 : Int) ≤ ((r5 / 12)) ∧ (0 : Int) < (4) then (if (0 : Int) ≤ (2) ∧ (2 : Int) < ((dH D17 ((dT D))).2 : Int) then (zl (dup D17 ((dT D)) (2) (((r5 / 12) % 4))) fun D21 => (Option.bind (fJx4a65c_add_9ea2d ((dW D (v1) 8)) ((dT D)) D21) fun q22 => match q22 with | (r22, D22) => (if dO D21 ((dW D (v1) 8)) 9 then (if inR ((v4 + 1)) then some (.inl ((v4 + 1), D22)) else none) else none))) else none) else none) else none)) else none) else none) else none) else none)) else none) else none) else none)) else none) else none)) else none) else some (.inr D)) else none) else none)
set_option maxRecDepth 100000 in
theorem SX6_drawn_256 {ln : Nat} {D : DD} {z : ZZ} {v1 : Int} {v3 : Int} {v4 : Int} {Φ : xRes → xS → Prop} (hD : okD D) (hln : ln < 2147483648) (hz : okz z) (rv1 : gdV D v1) (rv3 : inR v3) (rv4 : inR v4) {p : (Int × DD) ⊕ (DD)} (h : fX6_drawn_s256 v1 v3 v4 ln z D = some p) (k1 : ∀ (v4' : Int) (D' : DD), p = .inl (v4', D') → okD D' → DLe D D' → inR v4' → XD mX6_drawn 256 [some (.ref 1000000), some (rV (v1)), none, some (.int (iN (v3))), some (.int (iN (v4'))), none] [] ln D' z Φ) (k2 : ∀ (D' : DD), p = .inr D' → okD D' → DLe D D' → XD mX6_drawn 328 [none, some (rV (v1)), none, none, none, none] [] ln D' z Φ) : XD mX6_drawn 256 [some (.ref 1000000), some (rV (v1)), none, some (.int (iN (v3))), some (.int (iN (v4))), none] [] ln D z Φ := by
  unfold fX6_drawn_s256 at h
  refine X_iload (pc' := 258) dX6_drawn_256 rfl rfl ?_
  refine X_iload_n (pc' := 259) dX6_drawn_258 rfl rfl ?_
  refine X_sipush (pc' := 262) dX6_drawn_259 rfl (by decide) ?_
  obtain ⟨g1, h⟩ := gs h
  refine X_idiv (pc' := 263) dX6_drawn_262 rfl ⟨g1.1, rv3.2, g1.2, (inR_c (n := 180) rfl).2⟩ ?_
  refine X_iconst (pc' := 264) dX6_drawn_263 rfl ?_
  obtain ⟨g2, h⟩ := gs h
  refine X_irem (pc' := 265) dX6_drawn_264 rfl ⟨g2.1, (inR_div g1 rv3).2, g2.2, (inR_c (n := 5) rfl).2⟩ ?_
  refine X_icmp_ge dX6_drawn_265 (tgt := 328) rfl (pc' := 268) rfl ⟨rv4.1, rv4.2, (inR_mod g2 (inR_c (n := 5) rfl)).1, (inR_mod g2 (inR_c (n := 5) rfl)).2⟩ (fun c3 => ?_) (fun c3 => ?_)
  · have h := if_f (Int.not_lt.mpr c3) h
    cases h
    exact X_sub (sub_n (sub_s (sub_n (sub_n (sub_n (sub_n sub_0)))))) (k2 _ rfl hD (DLe_refl _))
  have h := if_t c3 h
  refine X_aload_n (pc' := 269) dX6_drawn_268 rfl rfl ?_
  refine X_bipush (pc' := 271) dX6_drawn_269 rfl (by decide) ?_
  refine X_iload (pc' := 273) dX6_drawn_271 rfl rfl ?_
  refine X_iadd (pc' := 274) dX6_drawn_273 rfl ?_
  refine X_ldcI (pc' := 276) dX6_drawn_274 rfl tq1106 (n := 1000000000) rfl ?_
  obtain ⟨g4, h⟩ := gs h
  obtain ⟨r5, q5, h⟩ := bs h
  refine E_callS [.ref 1000000, .int (iN ((20 + v4))), .int (iN (1000000000))] (pc' := 279) dX6_drawn_276 rfl SX6_88 (by decide) rfl (c1_f rfl (c1_i (c1_i c1_n))) (cs rfl) c1_n (cs rfl) rfl hD (CL_pick hD hln hz g4 (inR_c (n := 1000000000) rfl) q5) (fun a5 b5 f5 => ?_)
  refine X_istore (pc' := 281) dX6_drawn_279 rfl (cl rfl) (Or.inr rfl) (L' := [some (.ref 1000000), some (rV (v1)), none, some (.int (iN (v3))), some (.int (iN (v4))), some (.int (iN (r5)))]) rfl ?_
  refine E_aload_n (pc' := 282) dX6_drawn_281 rfl rfl ?_
  obtain ⟨g6, h⟩ := gs h
  refine E_getR (pc' := 285) dX6_drawn_282 rfl FX6_37_6 hD g6 rfl (j := 8) rfl ?_
  refine X_iconst (pc' := 286) dX6_drawn_285 rfl ?_
  obtain ⟨g7, h⟩ := gs h
  refine E_newI (pc' := 288) dX6_drawn_286 rfl tq75 hD g7 ?_
  obtain ⟨D8, e8, f8, h⟩ := zl_some (P := fun q => okD q ∧ DLe D q ∧ (dO q (dT D) 20 ∧ ((dH q (dT D)).2 : Int) = (3))) h ⟨okD_dnew hD (by decide) (by omega) g7.2.1 (by omega), DLe_dnew _ (by decide), dO_dnew hD, dH_dnew g7.1.1⟩
  rw [e8]
  refine X_dup (pc' := 289) dX6_drawn_288 rfl (rV_cat _) ?_
  refine X_iconst (pc' := 290) dX6_drawn_289 rfl ?_
  refine X_iconst (pc' := 291) dX6_drawn_290 rfl ?_
  refine X_iload (pc' := 293) dX6_drawn_291 rfl rfl ?_
  refine X_iconst (pc' := 294) dX6_drawn_293 rfl ?_
  obtain ⟨g9, h⟩ := gs h
  refine X_irem (pc' := 295) dX6_drawn_294 rfl ⟨g9.1, f5.2, g9.2, (inR_c (n := 4) rfl).2⟩ ?_
  refine X_iadd (pc' := 296) dX6_drawn_295 rfl ?_
  obtain ⟨g10, h⟩ := gs h
  obtain ⟨g11, h⟩ := gs h
  refine E_iast (pc' := 297) dX6_drawn_296 rfl f8.1 f8.2.2.1 g10 ?_
  obtain ⟨D12, e12, f12, h⟩ := zl_some (P := fun q => okD q ∧ DLe D8 q) h ⟨okD_dupJ f8.1 g10.1 (okS_at20 f8.2.2.1 g11), DLe_dup _ _ _ _⟩
  rw [e12]
  refine X_dup (pc' := 298) dX6_drawn_297 rfl (rV_cat _) ?_
  refine X_iconst (pc' := 299) dX6_drawn_298 rfl ?_
  refine X_iconst (pc' := 300) dX6_drawn_299 rfl ?_
  refine X_iload (pc' := 302) dX6_drawn_300 rfl rfl ?_
  refine X_iconst (pc' := 303) dX6_drawn_302 rfl ?_
  obtain ⟨g13, h⟩ := gs h
  refine X_idiv (pc' := 304) dX6_drawn_303 rfl ⟨g13.1, f5.2, g13.2, (inR_c (n := 4) rfl).2⟩ ?_
  refine X_iconst (pc' := 305) dX6_drawn_304 rfl ?_
  obtain ⟨g14, h⟩ := gs h
  refine X_irem (pc' := 306) dX6_drawn_305 rfl ⟨g14.1, (inR_div g13 f5).2, g14.2, (inR_c (n := 3) rfl).2⟩ ?_
  refine X_iadd (pc' := 307) dX6_drawn_306 rfl ?_
  obtain ⟨g15, h⟩ := gs h
  obtain ⟨g16, h⟩ := gs h
  refine E_iast (pc' := 308) dX6_drawn_307 rfl f12.1 (dO_le f12.2 f8.2.2.1) g15 ?_
  obtain ⟨D17, e17, f17, h⟩ := zl_some (P := fun q => okD q ∧ DLe D12 q) h ⟨okD_dupJ f12.1 g15.1 (okS_at20 (dO_le f12.2 f8.2.2.1) g16), DLe_dup _ _ _ _⟩
  rw [e17]
  refine X_dup (pc' := 309) dX6_drawn_308 rfl (rV_cat _) ?_
  refine X_iconst (pc' := 310) dX6_drawn_309 rfl ?_
  refine X_iload (pc' := 312) dX6_drawn_310 rfl rfl ?_
  refine X_bipush (pc' := 314) dX6_drawn_312 rfl (by decide) ?_
  obtain ⟨g18, h⟩ := gs h
  refine X_idiv (pc' := 315) dX6_drawn_314 rfl ⟨g18.1, f5.2, g18.2, (inR_c (n := 12) rfl).2⟩ ?_
  refine X_iconst (pc' := 316) dX6_drawn_315 rfl ?_
  obtain ⟨g19, h⟩ := gs h
  refine X_irem (pc' := 317) dX6_drawn_316 rfl ⟨g19.1, (inR_div g18 f5).2, g19.2, (inR_c (n := 4) rfl).2⟩ ?_
  obtain ⟨g20, h⟩ := gs h
  refine E_iast (pc' := 318) dX6_drawn_317 rfl f17.1 (dO_le f17.2 (dO_le f12.2 f8.2.2.1)) g20 ?_
  obtain ⟨D21, e21, f21, h⟩ := zl_some (P := fun q => okD q ∧ DLe D17 q) h ⟨okD_dupJ f17.1 g20.1 (okS_at20 (dO_le f17.2 (dO_le f12.2 f8.2.2.1)) (inR_mod g19 (inR_c (n := 4) rfl))), DLe_dup _ _ _ _⟩
  rw [e21]
  obtain ⟨⟨r22, D22⟩, q22, h⟩ := bs h
  obtain ⟨g23, h⟩ := gs h
  refine E_callV [rV ((dT D))] (pc' := 321) dX6_drawn_318 rfl (xVc VX6_65) (by decide) ⟨dO_pos g23, dO_is f21.1 g23 rfl⟩ rfl (c1_r c1_n) (cs rfl) c1_n (cs rfl) rfl f21.1 (CJx4a65c_add_9ea2d f21.1 (gdV_le f21.2 (gdV_le f17.2 (gdV_le f12.2 (gdV_le f8.2.1 (gd_slot (k := 8) hD g6 rfl (by decide)))))) (gdV_le f21.2 (gdV_le f17.2 (gdV_le f12.2 (dO_gd f8.2.2.1 (by decide))))) q22) (fun a22 b22 f22 => ?_)
  refine X_pop (pc' := 322) dX6_drawn_321 rfl rfl ?_
  refine X_iinc (pc' := 325) dX6_drawn_322 rfl rfl (Or.inr rfl) (L' := [some (.ref 1000000), some (rV (v1)), none, some (.int (iN (v3))), some (.int (iN (v4 + 1))), some (.int (iN (r5)))]) rfl ?_
  refine X_goto dX6_drawn_325 (tgt := 256) rfl ?_
  obtain ⟨g24, h⟩ := gs h
  cases h
  exact X_sub (sub_s (sub_s (sub_n (sub_s (sub_s (sub_n sub_0)))))) (k1 _ _ rfl a22 (DLe_trans (DLe_trans (DLe_trans (DLe_trans f8.2.1 f12.2) f17.2) f21.2) b22) g24)
theorem LX6_drawn_256 {ln : Nat} {z : ZZ} {v1 : Int} {v3 : Int} {Φ : xRes → xS → Prop} (hln : ln < 2147483648) (hz : okz z) {r : DD} : ∀ (n : Nat) (v4 : Int) (D : DD), okD D → gdV D v1 → inR v3 → inR v4 → zlp (fun q => fX6_drawn_s256 v1 v3 q.1 ln z q.2) n (v4, D) = some r → (∀ (D' : DD), r = D' → okD D' → DLe D D' → XD mX6_drawn 328 [none, some (rV (v1)), none, none, none, none] [] ln D' z Φ) → XD mX6_drawn 256 [some (.ref 1000000), some (rV (v1)), none, some (.int (iN (v3))), some (.int (iN (v4))), none] [] ln D z Φ := by
  intro n
  induction n with
  | zero => intro v4 D hD rv1 rv3 rv4 h k2; cases h
  | succ n ih =>
    intro v4 D hD rv1 rv3 rv4 h k2
    rcases zlp_s h with ⟨⟨v4', D'⟩, e, h'⟩ | e
    · exact SX6_drawn_256 hD hln hz rv1 rv3 rv4 e (fun v4₁ D₁ hh a b f0 => by cases hh; exact ih _ _ a (gdV_le b rv1) rv3 f0 h' (fun D9 hh a' b' => k2 D9 hh a' (DLe_trans b b'))) (fun D9 hh => by cases hh)
    · exact SX6_drawn_256 hD hln hz rv1 rv3 rv4 e (fun v4₁ D₁ hh => by cases hh) (fun D9 hh a b => by cases hh; exact k2 _ rfl a b )
def fX6_drawn_b64 (v1 : Int) (v3 : Int) (ln : Nat) (z : ZZ) (D : DD) : Option (Int × DD) := (Option.bind (zlp (fun q => fX6_drawn_s67 (v1) (v3) q.1 ln z q.2) FU (0, D)) fun D1 => (Option.bind (zlp (fun q => fX6_drawn_s126 (v1) (v3) q.1 ln z q.2) FU (0, D1)) fun D2 => (Option.bind (zlp (fun q => fX6_drawn_s192 (v1) (v3) q.1 ln z q.2) FU (0, D2)) fun D3 => (Option.bind (zlp (fun q => fX6_drawn_s256 (v1) (v3) q.1 ln z q.2) FU (0, D3)) fun D4 => some (v1, D4)))))
set_option maxRecDepth 100000 in
theorem BX6_drawn_64 {ln : Nat} {D : DD} {z : ZZ} {v1 : Int} {v3 : Int} {Φ : xRes → xS → Prop} (hD : okD D) (hln : ln < 2147483648) (hz : okz z) (rv1 : gdV D v1) (rv3 : inR v3) {p : Int × DD} (h : fX6_drawn_b64 v1 v3 ln z D = some p) (k : K_wR Φ ln D z p) : XD mX6_drawn 64 [some (.ref 1000000), some (rV (v1)), none, some (.int (iN (v3))), none, none] [] ln D z Φ := by
  unfold fX6_drawn_b64 at h
  refine X_iconst (pc' := 65) dX6_drawn_64 rfl ?_
  refine X_istore (pc' := 67) dX6_drawn_65 rfl (cl rfl) (Or.inr rfl) (L' := [some (.ref 1000000), some (rV (v1)), none, some (.int (iN (v3))), some (.int (iN (0))), none]) rfl ?_
  obtain ⟨D1, q1, h⟩ := bs h
  refine X_sub (sub_s (sub_s (sub_n (sub_s (sub_s (sub_n sub_0)))))) (LX6_drawn_67 hln hz FU _ _ hD rv1 rv3 (inR_c (n := 0) rfl) q1 (fun D1₁ hh hD1 le1 => ?_))
  cases hh
  refine X_iconst (pc' := 124) dX6_drawn_123 rfl ?_
  refine X_istore (pc' := 126) dX6_drawn_124 rfl (cl rfl) (Or.inr rfl) (L' := [some (.ref 1000000), some (rV (v1)), none, some (.int (iN (v3))), some (.int (iN (0))), none]) rfl ?_
  obtain ⟨D2, q2, h⟩ := bs h
  refine X_sub (sub_s (sub_s (sub_n (sub_s (sub_s (sub_n sub_0)))))) (LX6_drawn_126 hln hz FU _ _ hD1 (gdV_le le1 rv1) rv3 (inR_c (n := 0) rfl) q2 (fun D2₁ hh hD2 le2 => ?_))
  cases hh
  refine X_iconst (pc' := 190) dX6_drawn_189 rfl ?_
  refine X_istore (pc' := 192) dX6_drawn_190 rfl (cl rfl) (Or.inr rfl) (L' := [some (.ref 1000000), some (rV (v1)), none, some (.int (iN (v3))), some (.int (iN (0))), none]) rfl ?_
  obtain ⟨D3, q3, h⟩ := bs h
  refine X_sub (sub_s (sub_s (sub_n (sub_s (sub_s (sub_n sub_0)))))) (LX6_drawn_192 hln hz FU _ _ hD2 (gdV_le le2 (gdV_le le1 rv1)) rv3 (inR_c (n := 0) rfl) q3 (fun D3₁ hh hD3 le3 => ?_))
  cases hh
  refine X_iconst (pc' := 254) dX6_drawn_253 rfl ?_
  refine X_istore (pc' := 256) dX6_drawn_254 rfl (cl rfl) (Or.inr rfl) (L' := [some (.ref 1000000), some (rV (v1)), none, some (.int (iN (v3))), some (.int (iN (0))), none]) rfl ?_
  obtain ⟨D4, q4, h⟩ := bs h
  refine X_sub (sub_s (sub_s (sub_n (sub_s (sub_s (sub_n sub_0)))))) (LX6_drawn_256 hln hz FU _ _ hD3 (gdV_le le3 (gdV_le le2 (gdV_le le1 rv1))) rv3 (inR_c (n := 0) rfl) q4 (fun D4₁ hh hD4 le4 => ?_))
  cases hh
  refine E_aload_n (pc' := 329) dX6_drawn_328 rfl rfl ?_
  cases h
  exact E_aret dX6_drawn_329 rfl (Or.inl ⟨_, rfl⟩) (k hD4 (DLe_trans (DLe_trans (DLe_trans le1 le2) le3) le4) (gdV_le le4 (gdV_le le3 (gdV_le le2 (gdV_le le1 rv1)))))
def fX6_drawn (ln : Nat) (z : ZZ) (D : DD) : Option (Int × DD) := (if dT D < 600000 ∧ dS D + 10 ≤ 7200000 then (zl (dnew D 7 10) fun D2 => (Option.bind (fX6_init ((dT D)) D2) fun D3 => (Option.bind (fL_pick (0) (1000000000) ln z D3) fun r4 => (Option.bind (fL_pick (1) (1000000000) ln z D3) fun r5 => (if (0 : Int) ≤ (r4) ∧ (0 : Int) < (3) then (if (0) < ((r4 % 3)) then (if (0 : Int) ≤ (r4) ∧ (0 : Int) < (3) then (if (0 : Int) ≤ ((r4 / 3)) ∧ (0 : Int) < (41) then (zl (dup D3 ((dT D)) 0 (((r4 / 3) % 41))) fun D10 => (if (0 : Int) ≤ (r4) ∧ (0 : Int) < (123) then (if (0 : Int) ≤ ((r4 / 123)) ∧ (0 : Int) < (4) then (zl (dup D10 ((dT D)) 1 (((r4 / 123) % 4))) fun D13 => (if (0 : Int) ≤ (r4) ∧ (0 : Int) < (500) then (if (0 : Int) ≤ ((r4 / 500)) ∧ (0 : Int) < (30) then (if inR ((1 + ((r4 / 500) % 30))) then (zl (dup D13 ((dT D)) 2 ((1 + ((r4 / 500) % 30)))) fun D17 => fX6_drawn_b64 ((dT D)) (r5) ln z D17) else none) else none) else none)) else none) else none)) else none) else none) else fX6_drawn_b64 ((dT D)) (r5) ln z D3) else none))))) else none)
set_option maxRecDepth 100000 in
theorem CX6_drawn {ln : Nat} {D : DD} {z : ZZ} (hD : okD D) (hln : ln < 2147483648) (hz : okz z) {p : Int × DD} (h : fX6_drawn ln z D = some p) : XD mX6_drawn 0 (xEnt [.ref 1000000] (xL mX6_drawn)) [] ln D z (Qd (FdD D p.2 (gdV p.2 p.1)) (.inl (some (rV p.1))) (sD ln p.2 z)) := by
  have k : K_wR (Qd (FdD D p.2 (gdV p.2 p.1)) (.inl (some (rV p.1))) (sD ln p.2 z)) ln D z p := fun a b c => ⟨⟨a, b, c⟩, rfl, rfl⟩
  unfold fX6_drawn at h
  refine E_ent (c1_f rfl c1_n) (M := [some (.ref 1000000), none, none, none, none, none]) rfl ?_
  obtain ⟨g1, h⟩ := gs h
  refine E_new (c := 6) (n := 10) (pc' := 3) dX6_drawn_0 rfl rfl rfl (by decide) tq1087 tq411 tq20 hD g1 ?_
  obtain ⟨D2, e2, f2, h⟩ := zl_some (P := fun q => okD q ∧ DLe D q ∧ dO q (dT D) 7) h ⟨okD_dnew hD (by decide) (by decide) g1.1 g1.2, DLe_dnew _ (by decide), dO_dnew hD⟩
  rw [e2]
  refine X_dup (pc' := 4) dX6_drawn_3 rfl (rV_cat _) ?_
  obtain ⟨D3, q3, h⟩ := bs h
  refine E_callI (μ := mX6_drawn) (μ' := mX6_init) [] (pc' := 7) dX6_drawn_4 rfl tq1088 IX6_75 (by decide) ⟨f2.2.2.1, f2.2.2.2.1⟩ rfl c1_n (cs rfl) (c1_r c1_n) (cs rfl) rfl f2.1 (CX6_init f2.1 (dO_gd f2.2.2 (by decide)) q3) (fun a3 b3 f3 => ?_)
  refine E_astore_n (pc' := 8) dX6_drawn_7 rfl (cl rfl) (Or.inr rfl) (L' := [some (.ref 1000000), some (rV ((dT D))), none, none, none, none]) rfl ?_
  refine X_aload_n (pc' := 9) dX6_drawn_8 rfl rfl ?_
  refine X_iconst (pc' := 10) dX6_drawn_9 rfl ?_
  refine X_ldcI (pc' := 12) dX6_drawn_10 rfl tq1106 (n := 1000000000) rfl ?_
  obtain ⟨r4, q4, h⟩ := bs h
  refine E_callS [.ref 1000000, .int (iN (0)), .int (iN (1000000000))] (pc' := 15) dX6_drawn_12 rfl SX6_88 (by decide) rfl (c1_f rfl (c1_i (c1_i c1_n))) (cs rfl) c1_n (cs rfl) rfl a3 (CL_pick a3 hln hz (inR_c (n := 0) rfl) (inR_c (n := 1000000000) rfl) q4) (fun a4 b4 f4 => ?_)
  refine X_istore_n (pc' := 16) dX6_drawn_15 rfl (cl rfl) (Or.inr (xC1_R _)) (L' := [some (.ref 1000000), some (rV ((dT D))), some (.int (iN (r4))), none, none, none]) rfl ?_
  refine X_aload_n (pc' := 17) dX6_drawn_16 rfl rfl ?_
  refine X_iconst (pc' := 18) dX6_drawn_17 rfl ?_
  refine X_ldcI (pc' := 20) dX6_drawn_18 rfl tq1106 (n := 1000000000) rfl ?_
  obtain ⟨r5, q5, h⟩ := bs h
  refine E_callS [.ref 1000000, .int (iN (1)), .int (iN (1000000000))] (pc' := 23) dX6_drawn_20 rfl SX6_88 (by decide) rfl (c1_f rfl (c1_i (c1_i c1_n))) (cs rfl) c1_n (cs rfl) rfl a3 (CL_pick a3 hln hz (inR_c (n := 1) rfl) (inR_c (n := 1000000000) rfl) q5) (fun a5 b5 f5 => ?_)
  refine X_istore_n (pc' := 24) dX6_drawn_23 rfl (cl rfl) (Or.inr rfl) (L' := [some (.ref 1000000), some (rV ((dT D))), some (.int (iN (r4))), some (.int (iN (r5))), none, none]) rfl ?_
  refine X_iload_n (pc' := 25) dX6_drawn_24 rfl rfl ?_
  refine X_iconst (pc' := 26) dX6_drawn_25 rfl ?_
  obtain ⟨g6, h⟩ := gs h
  refine X_irem (pc' := 27) dX6_drawn_26 rfl ⟨g6.1, f4.2, g6.2, (inR_c (n := 3) rfl).2⟩ ?_
  refine X_if_le dX6_drawn_27 (tgt := 64) rfl (pc' := 30) rfl (inR_mod g6 (inR_c (n := 3) rfl)) (fun c7 => ?_) (fun c7 => ?_)
  · have h := if_f (Int.not_lt.mpr c7) h
    exact X_sub (sub_s (sub_s (sub_n (sub_s (sub_n (sub_n sub_0)))))) (BX6_drawn_64 a3 hln hz (gdV_le b3 (dO_gd f2.2.2 (by decide))) f5 h (fun a b c => k a (DLe_trans (DLe_trans f2.2.1 b3) b) c))
  have h := if_t c7 h
  refine E_aload_n (pc' := 31) dX6_drawn_30 rfl rfl ?_
  refine X_iload_n (pc' := 32) dX6_drawn_31 rfl rfl ?_
  refine X_iconst (pc' := 33) dX6_drawn_32 rfl ?_
  obtain ⟨g8, h⟩ := gs h
  refine X_idiv (pc' := 34) dX6_drawn_33 rfl ⟨g8.1, f4.2, g8.2, (inR_c (n := 3) rfl).2⟩ ?_
  refine X_bipush (pc' := 36) dX6_drawn_34 rfl (by decide) ?_
  obtain ⟨g9, h⟩ := gs h
  refine X_irem (pc' := 37) dX6_drawn_36 rfl ⟨g9.1, (inR_div g8 f4).2, g9.2, (inR_c (n := 41) rfl).2⟩ ?_
  refine E_putI (pc' := 40) dX6_drawn_37 rfl FX6_9_6 a3 (dO_le b3 f2.2.2) rfl (fun r hr => by cases hr; exact Or.inl rfl) (xFit_int _) (j := 0) rfl ?_
  obtain ⟨D10, e10, f10, h⟩ := zl_some (P := fun q => okD q ∧ DLe D3 q) h ⟨okD_dup (k := 0) a3 (okS_I (dO_le b3 f2.2.2) rfl (by decide) (by decide) (inR_mod g9 (inR_c (n := 41) rfl))), DLe_dup _ _ _ _⟩
  rw [e10]
  refine E_aload_n (pc' := 41) dX6_drawn_40 rfl rfl ?_
  refine X_iload_n (pc' := 42) dX6_drawn_41 rfl rfl ?_
  refine X_bipush (pc' := 44) dX6_drawn_42 rfl (by decide) ?_
  obtain ⟨g11, h⟩ := gs h
  refine X_idiv (pc' := 45) dX6_drawn_44 rfl ⟨g11.1, f4.2, g11.2, (inR_c (n := 123) rfl).2⟩ ?_
  refine X_iconst (pc' := 46) dX6_drawn_45 rfl ?_
  obtain ⟨g12, h⟩ := gs h
  refine X_irem (pc' := 47) dX6_drawn_46 rfl ⟨g12.1, (inR_div g11 f4).2, g12.2, (inR_c (n := 4) rfl).2⟩ ?_
  refine E_putI (pc' := 50) dX6_drawn_47 rfl FX6_15_6 f10.1 (dO_le f10.2 (dO_le b3 f2.2.2)) rfl (fun r hr => by cases hr; exact Or.inl rfl) (xFit_int _) (j := 1) rfl ?_
  obtain ⟨D13, e13, f13, h⟩ := zl_some (P := fun q => okD q ∧ DLe D10 q) h ⟨okD_dup (k := 1) f10.1 (okS_I (dO_le f10.2 (dO_le b3 f2.2.2)) rfl (by decide) (by decide) (inR_mod g12 (inR_c (n := 4) rfl))), DLe_dup _ _ _ _⟩
  rw [e13]
  refine E_aload_n (pc' := 51) dX6_drawn_50 rfl rfl ?_
  refine X_iconst (pc' := 52) dX6_drawn_51 rfl ?_
  refine X_iload_n (pc' := 53) dX6_drawn_52 rfl rfl ?_
  refine X_sipush (pc' := 56) dX6_drawn_53 rfl (by decide) ?_
  obtain ⟨g14, h⟩ := gs h
  refine X_idiv (pc' := 57) dX6_drawn_56 rfl ⟨g14.1, f4.2, g14.2, (inR_c (n := 500) rfl).2⟩ ?_
  refine X_bipush (pc' := 59) dX6_drawn_57 rfl (by decide) ?_
  obtain ⟨g15, h⟩ := gs h
  refine X_irem (pc' := 60) dX6_drawn_59 rfl ⟨g15.1, (inR_div g14 f4).2, g15.2, (inR_c (n := 30) rfl).2⟩ ?_
  refine X_iadd (pc' := 61) dX6_drawn_60 rfl ?_
  obtain ⟨g16, h⟩ := gs h
  refine E_putI (pc' := 64) dX6_drawn_61 rfl FX6_18_6 f13.1 (dO_le f13.2 (dO_le f10.2 (dO_le b3 f2.2.2))) rfl (fun r hr => by cases hr; exact Or.inl rfl) (xFit_int _) (j := 2) rfl ?_
  obtain ⟨D17, e17, f17, h⟩ := zl_some (P := fun q => okD q ∧ DLe D13 q) h ⟨okD_dup (k := 2) f13.1 (okS_I (dO_le f13.2 (dO_le f10.2 (dO_le b3 f2.2.2))) rfl (by decide) (by decide) g16), DLe_dup _ _ _ _⟩
  rw [e17]
  exact X_sub (sub_s (sub_s (sub_n (sub_s (sub_n (sub_n sub_0)))))) (BX6_drawn_64 f17.1 hln hz (gdV_le f17.2 (gdV_le f13.2 (gdV_le f10.2 (gdV_le b3 (dO_gd f2.2.2 (by decide)))))) f5 h (fun a b c => k a (DLe_trans (DLe_trans (DLe_trans (DLe_trans (DLe_trans f2.2.1 b3) f10.2) f13.2) f17.2) b) c))
def fX6_text_s62 (v0 : Int) (v1 : Int) (v2 : Int) (D : DD) : Option ((DD) ⊕ (DD)) := (Option.bind (fJx35411_hasNext_aae02 (v2) D) fun r1 => (if dO D (v2) 10 then (if (r1) = (0) then some (.inr D) else (Option.bind (fJx35411_next_0502b (v2) D) fun q4 => match q4 with | (r4, D4) => (if dO D4 (r4) 20 then (Option.bind (fJ4_append_15ec4 (v1) (1000108) D4) fun q6 => match q6 with | (r6, D6) => (if dO D4 (v1) 17 then (if (0 : Int) ≤ (0) ∧ (0 : Int) < ((dH D6 (r4)).2 : Int) then (Option.bind (fJ4_append_bf812 (r6) ((dW D6 (r4) (0))) D6) fun q9 => match q9 with | (r9, D9) => (if dO D6 (r6) 17 then (Option.bind (fJ4_append_cf468 (r9) (32) D9) fun q11 => match q11 with | (r11, D11) => (if dO D9 (r9) 17 then (if (0 : Int) ≤ (1) ∧ (1 : Int) < ((dH D11 (r4)).2 : Int) then (Option.bind (fJ4_append_bf812 (r11) ((dW D11 (r4) (1))) D11) fun q14 => match q14 with | (r14, D14) => (if dO D11 (r11) 17 then (Option.bind (fJ4_append_cf468 (r14) (32) D14) fun q16 => match q16 with | (r16, D16) => (if dO D14 (r14) 17 then (if (0 : Int) ≤ (2) ∧ (2 : Int) < ((dH D16 (r4)).2 : Int) then (Option.bind (fJ4_append_bf812 (r16) ((dW D16 (r4) (2))) D16) fun q19 => match q19 with | (r19, D19) => (if dO D16 (r16) 17 then some (.inl D19) else none)) else none) else none)) else none)) else none) else none)) else none)) else none) else none)) else none))) else none))
set_option maxRecDepth 100000 in
theorem SX6_text_62 {ln : Nat} {D : DD} {z : ZZ} {v0 : Int} {v1 : Int} {v2 : Int} {Φ : xRes → xS → Prop} (hD : okD D) (rv0 : gdV D v0) (rv1 : gdV D v1) (rv2 : gdV D v2) {p : (DD) ⊕ (DD)} (h : fX6_text_s62 v0 v1 v2 D = some p) (k1 : ∀ (D' : DD), p = .inl D' → okD D' → DLe D D' → XD mX6_text 62 [some (rV (v0)), some (rV (v1)), some (rV (v2)), none] [] ln D' z Φ) (k2 : ∀ (D' : DD), p = .inr D' → okD D' → DLe D D' → XD mX6_text 119 [some (rV (v0)), some (rV (v1)), none, none] [] ln D' z Φ) : XD mX6_text 62 [some (rV (v0)), some (rV (v1)), some (rV (v2)), none] [] ln D z Φ := by
  unfold fX6_text_s62 at h
  refine E_aload_n (pc' := 63) dX6_text_62 rfl rfl ?_
  obtain ⟨r1, q1, h⟩ := bs h
  obtain ⟨g2, h⟩ := gs h
  refine E_callF [] (pc' := 68) dX6_text_63 rfl F_X6_50_Jx35411 (by decide) ⟨dO_pos g2, dO_is hD g2 rfl⟩ rfl c1_n (cs rfl) c1_n (cs rfl) rfl hD (CJx35411_hasNext_aae02 hD rv2 q1) (fun a1 b1 f1 => ?_)
  refine X_if_eq dX6_text_68 (tgt := 119) rfl (pc' := 71) rfl (inR_b f1) (fun c3 => ?_) (fun c3 => ?_)
  · have h := if_t c3 h
    cases h
    exact X_sub (sub_s (sub_s (sub_n (sub_n sub_0)))) (k2 _ rfl hD (DLe_refl _))
  have h := if_f c3 h
  refine E_aload_n (pc' := 72) dX6_text_71 rfl rfl ?_
  obtain ⟨⟨r4, D4⟩, q4, h⟩ := bs h
  refine E_callF [] (pc' := 77) dX6_text_72 rfl F_X6_56_Jx35411 (by decide) ⟨dO_pos g2, dO_is hD g2 rfl⟩ rfl c1_n (cs rfl) c1_n (cs rfl) rfl hD (CJx35411_next_0502b hD rv2 q4) (fun a4 b4 f4 => ?_)
  obtain ⟨g5, h⟩ := gs h
  refine E_cast (pc' := 80) dX6_text_77 rfl tq526 (dO_pos g5) (dO_isI a4 g5) ?_
  refine E_astore_n (pc' := 81) dX6_text_80 rfl (cl rfl) (Or.inr (xC1_R _)) (L' := [some (rV (v0)), some (rV (v1)), some (rV (v2)), some (rV (r4))]) rfl ?_
  refine E_aload_n (pc' := 82) dX6_text_81 rfl rfl ?_
  refine E_ldcS (a := 1000108) (pc' := 84) dX6_text_82 rfl strX6_113 (by decide) ?_
  obtain ⟨⟨r6, D6⟩, q6, h⟩ := bs h
  obtain ⟨g7, h⟩ := gs h
  refine E_callV [rV (1000108)] (pc' := 87) dX6_text_84 rfl (xVc VX6_97) (by decide) ⟨dO_pos g7, dO_is a4 g7 rfl⟩ rfl (c1_r c1_n) (cs rfl) c1_n (cs rfl) rfl a4 (CJ4_append_15ec4 a4 (gdV_le b4 rv1) (gdV_str (v := 1000108) (by decide)) q6) (fun a6 b6 f6 => ?_)
  refine E_aload_n (pc' := 88) dX6_text_87 rfl rfl ?_
  refine X_iconst (pc' := 89) dX6_text_88 rfl ?_
  obtain ⟨g8, h⟩ := gs h
  refine E_iald (pc' := 90) dX6_text_89 rfl a6 (dO_le b6 g5) g8 ?_
  obtain ⟨⟨r9, D9⟩, q9, h⟩ := bs h
  obtain ⟨g10, h⟩ := gs h
  refine E_callV [.int (iN ((dW D6 (r4) (0))))] (pc' := 93) dX6_text_90 rfl (xVc VX6_101) (by decide) ⟨dO_pos g10, dO_is a6 g10 rfl⟩ rfl (c1_i c1_n) (cs rfl) c1_n (cs rfl) rfl a6 (CJ4_append_bf812 a6 f6 (in_at a6 (dO_le b6 g5) (Or.inl rfl) g8.1) q9) (fun a9 b9 f9 => ?_)
  refine X_bipush (pc' := 95) dX6_text_93 rfl (by decide) ?_
  obtain ⟨⟨r11, D11⟩, q11, h⟩ := bs h
  obtain ⟨g12, h⟩ := gs h
  refine E_callV [.int (iN (32))] (pc' := 98) dX6_text_95 rfl (xVc VX6_115) (by decide) ⟨dO_pos g12, dO_is a9 g12 rfl⟩ rfl (c1_i c1_n) (cs rfl) c1_n (cs rfl) rfl a9 (CJ4_append_cf468 a9 f9 (inR_c (n := 32) rfl) q11) (fun a11 b11 f11 => ?_)
  refine E_aload_n (pc' := 99) dX6_text_98 rfl rfl ?_
  refine X_iconst (pc' := 100) dX6_text_99 rfl ?_
  obtain ⟨g13, h⟩ := gs h
  refine E_iald (pc' := 101) dX6_text_100 rfl a11 (dO_le b11 (dO_le b9 (dO_le b6 g5))) g13 ?_
  obtain ⟨⟨r14, D14⟩, q14, h⟩ := bs h
  obtain ⟨g15, h⟩ := gs h
  refine E_callV [.int (iN ((dW D11 (r4) (1))))] (pc' := 104) dX6_text_101 rfl (xVc VX6_101) (by decide) ⟨dO_pos g15, dO_is a11 g15 rfl⟩ rfl (c1_i c1_n) (cs rfl) c1_n (cs rfl) rfl a11 (CJ4_append_bf812 a11 f11 (in_at a11 (dO_le b11 (dO_le b9 (dO_le b6 g5))) (Or.inl rfl) g13.1) q14) (fun a14 b14 f14 => ?_)
  refine X_bipush (pc' := 106) dX6_text_104 rfl (by decide) ?_
  obtain ⟨⟨r16, D16⟩, q16, h⟩ := bs h
  obtain ⟨g17, h⟩ := gs h
  refine E_callV [.int (iN (32))] (pc' := 109) dX6_text_106 rfl (xVc VX6_115) (by decide) ⟨dO_pos g17, dO_is a14 g17 rfl⟩ rfl (c1_i c1_n) (cs rfl) c1_n (cs rfl) rfl a14 (CJ4_append_cf468 a14 f14 (inR_c (n := 32) rfl) q16) (fun a16 b16 f16 => ?_)
  refine E_aload_n (pc' := 110) dX6_text_109 rfl rfl ?_
  refine X_iconst (pc' := 111) dX6_text_110 rfl ?_
  obtain ⟨g18, h⟩ := gs h
  refine E_iald (pc' := 112) dX6_text_111 rfl a16 (dO_le b16 (dO_le b14 (dO_le b11 (dO_le b9 (dO_le b6 g5))))) g18 ?_
  obtain ⟨⟨r19, D19⟩, q19, h⟩ := bs h
  obtain ⟨g20, h⟩ := gs h
  refine E_callV [.int (iN ((dW D16 (r4) (2))))] (pc' := 115) dX6_text_112 rfl (xVc VX6_101) (by decide) ⟨dO_pos g20, dO_is a16 g20 rfl⟩ rfl (c1_i c1_n) (cs rfl) c1_n (cs rfl) rfl a16 (CJ4_append_bf812 a16 f16 (in_at a16 (dO_le b16 (dO_le b14 (dO_le b11 (dO_le b9 (dO_le b6 g5))))) (Or.inl rfl) g18.1) q19) (fun a19 b19 f19 => ?_)
  refine X_pop (pc' := 116) dX6_text_115 rfl (rV_cat _) ?_
  refine X_goto dX6_text_116 (tgt := 62) rfl ?_
  cases h
  exact X_sub (sub_s (sub_s (sub_s (sub_n sub_0)))) (k1 _ rfl a19 (DLe_trans (DLe_trans (DLe_trans (DLe_trans (DLe_trans (DLe_trans b4 b6) b9) b11) b14) b16) b19))
theorem LX6_text_62 {ln : Nat} {z : ZZ} {v0 : Int} {v1 : Int} {v2 : Int} {Φ : xRes → xS → Prop} {r : DD} : ∀ (n : Nat) (D : DD), okD D → gdV D v0 → gdV D v1 → gdV D v2 → zlp (fun q => fX6_text_s62 v0 v1 v2 q) n D = some r → (∀ (D' : DD), r = D' → okD D' → DLe D D' → XD mX6_text 119 [some (rV (v0)), some (rV (v1)), none, none] [] ln D' z Φ) → XD mX6_text 62 [some (rV (v0)), some (rV (v1)), some (rV (v2)), none] [] ln D z Φ := by
  intro n
  induction n with
  | zero => intro D hD rv0 rv1 rv2 h k2; cases h
  | succ n ih =>
    intro D hD rv0 rv1 rv2 h k2
    rcases zlp_s h with ⟨D', e, h'⟩ | e
    · exact SX6_text_62 hD rv0 rv1 rv2 e (fun D₁ hh a b => by cases hh; exact ih _ a (gdV_le b rv0) (gdV_le b rv1) (gdV_le b rv2) h' (fun D9 hh a' b' => k2 D9 hh a' (DLe_trans b b'))) (fun D9 hh => by cases hh)
    · exact SX6_text_62 hD rv0 rv1 rv2 e (fun D₁ hh => by cases hh) (fun D9 hh a b => by cases hh; exact k2 _ rfl a b )
def fX6_text_s127 (v0 : Int) (v1 : Int) (v2 : Int) (D : DD) : Option ((DD) ⊕ (DD)) := (Option.bind (fJx35411_hasNext_aae02 (v2) D) fun r1 => (if dO D (v2) 10 then (if (r1) = (0) then some (.inr D) else (Option.bind (fJx35411_next_0502b (v2) D) fun q4 => match q4 with | (r4, D4) => (if dO D4 (r4) 20 then (Option.bind (fJ4_append_15ec4 (v1) (1000109) D4) fun q6 => match q6 with | (r6, D6) => (if dO D4 (v1) 17 then (if (0 : Int) ≤ (0) ∧ (0 : Int) < ((dH D6 (r4)).2 : Int) then (Option.bind (fJ4_append_bf812 (r6) ((dW D6 (r4) (0))) D6) fun q9 => match q9 with | (r9, D9) => (if dO D6 (r6) 17 then (Option.bind (fJ4_append_cf468 (r9) (32) D9) fun q11 => match q11 with | (r11, D11) => (if dO D9 (r9) 17 then (if (0 : Int) ≤ (1) ∧ (1 : Int) < ((dH D11 (r4)).2 : Int) then (Option.bind (fJ4_append_bf812 (r11) ((dW D11 (r4) (1))) D11) fun q14 => match q14 with | (r14, D14) => (if dO D11 (r11) 17 then some (.inl D14) else none)) else none) else none)) else none)) else none) else none)) else none))) else none))
set_option maxRecDepth 100000 in
theorem SX6_text_127 {ln : Nat} {D : DD} {z : ZZ} {v0 : Int} {v1 : Int} {v2 : Int} {Φ : xRes → xS → Prop} (hD : okD D) (rv0 : gdV D v0) (rv1 : gdV D v1) (rv2 : gdV D v2) {p : (DD) ⊕ (DD)} (h : fX6_text_s127 v0 v1 v2 D = some p) (k1 : ∀ (D' : DD), p = .inl D' → okD D' → DLe D D' → XD mX6_text 127 [some (rV (v0)), some (rV (v1)), some (rV (v2)), none] [] ln D' z Φ) (k2 : ∀ (D' : DD), p = .inr D' → okD D' → DLe D D' → XD mX6_text 173 [some (rV (v0)), some (rV (v1)), none, none] [] ln D' z Φ) : XD mX6_text 127 [some (rV (v0)), some (rV (v1)), some (rV (v2)), none] [] ln D z Φ := by
  unfold fX6_text_s127 at h
  refine E_aload_n (pc' := 128) dX6_text_127 rfl rfl ?_
  obtain ⟨r1, q1, h⟩ := bs h
  obtain ⟨g2, h⟩ := gs h
  refine E_callF [] (pc' := 133) dX6_text_128 rfl F_X6_50_Jx35411 (by decide) ⟨dO_pos g2, dO_is hD g2 rfl⟩ rfl c1_n (cs rfl) c1_n (cs rfl) rfl hD (CJx35411_hasNext_aae02 hD rv2 q1) (fun a1 b1 f1 => ?_)
  refine X_if_eq dX6_text_133 (tgt := 173) rfl (pc' := 136) rfl (inR_b f1) (fun c3 => ?_) (fun c3 => ?_)
  · have h := if_t c3 h
    cases h
    exact X_sub (sub_s (sub_s (sub_n (sub_n sub_0)))) (k2 _ rfl hD (DLe_refl _))
  have h := if_f c3 h
  refine E_aload_n (pc' := 137) dX6_text_136 rfl rfl ?_
  obtain ⟨⟨r4, D4⟩, q4, h⟩ := bs h
  refine E_callF [] (pc' := 142) dX6_text_137 rfl F_X6_56_Jx35411 (by decide) ⟨dO_pos g2, dO_is hD g2 rfl⟩ rfl c1_n (cs rfl) c1_n (cs rfl) rfl hD (CJx35411_next_0502b hD rv2 q4) (fun a4 b4 f4 => ?_)
  obtain ⟨g5, h⟩ := gs h
  refine E_cast (pc' := 145) dX6_text_142 rfl tq526 (dO_pos g5) (dO_isI a4 g5) ?_
  refine E_astore_n (pc' := 146) dX6_text_145 rfl (cl rfl) (Or.inr (xC1_R _)) (L' := [some (rV (v0)), some (rV (v1)), some (rV (v2)), some (rV (r4))]) rfl ?_
  refine E_aload_n (pc' := 147) dX6_text_146 rfl rfl ?_
  refine E_ldcS (a := 1000109) (pc' := 149) dX6_text_147 rfl strX6_118 (by decide) ?_
  obtain ⟨⟨r6, D6⟩, q6, h⟩ := bs h
  obtain ⟨g7, h⟩ := gs h
  refine E_callV [rV (1000109)] (pc' := 152) dX6_text_149 rfl (xVc VX6_97) (by decide) ⟨dO_pos g7, dO_is a4 g7 rfl⟩ rfl (c1_r c1_n) (cs rfl) c1_n (cs rfl) rfl a4 (CJ4_append_15ec4 a4 (gdV_le b4 rv1) (gdV_str (v := 1000109) (by decide)) q6) (fun a6 b6 f6 => ?_)
  refine E_aload_n (pc' := 153) dX6_text_152 rfl rfl ?_
  refine X_iconst (pc' := 154) dX6_text_153 rfl ?_
  obtain ⟨g8, h⟩ := gs h
  refine E_iald (pc' := 155) dX6_text_154 rfl a6 (dO_le b6 g5) g8 ?_
  obtain ⟨⟨r9, D9⟩, q9, h⟩ := bs h
  obtain ⟨g10, h⟩ := gs h
  refine E_callV [.int (iN ((dW D6 (r4) (0))))] (pc' := 158) dX6_text_155 rfl (xVc VX6_101) (by decide) ⟨dO_pos g10, dO_is a6 g10 rfl⟩ rfl (c1_i c1_n) (cs rfl) c1_n (cs rfl) rfl a6 (CJ4_append_bf812 a6 f6 (in_at a6 (dO_le b6 g5) (Or.inl rfl) g8.1) q9) (fun a9 b9 f9 => ?_)
  refine X_bipush (pc' := 160) dX6_text_158 rfl (by decide) ?_
  obtain ⟨⟨r11, D11⟩, q11, h⟩ := bs h
  obtain ⟨g12, h⟩ := gs h
  refine E_callV [.int (iN (32))] (pc' := 163) dX6_text_160 rfl (xVc VX6_115) (by decide) ⟨dO_pos g12, dO_is a9 g12 rfl⟩ rfl (c1_i c1_n) (cs rfl) c1_n (cs rfl) rfl a9 (CJ4_append_cf468 a9 f9 (inR_c (n := 32) rfl) q11) (fun a11 b11 f11 => ?_)
  refine E_aload_n (pc' := 164) dX6_text_163 rfl rfl ?_
  refine X_iconst (pc' := 165) dX6_text_164 rfl ?_
  obtain ⟨g13, h⟩ := gs h
  refine E_iald (pc' := 166) dX6_text_165 rfl a11 (dO_le b11 (dO_le b9 (dO_le b6 g5))) g13 ?_
  obtain ⟨⟨r14, D14⟩, q14, h⟩ := bs h
  obtain ⟨g15, h⟩ := gs h
  refine E_callV [.int (iN ((dW D11 (r4) (1))))] (pc' := 169) dX6_text_166 rfl (xVc VX6_101) (by decide) ⟨dO_pos g15, dO_is a11 g15 rfl⟩ rfl (c1_i c1_n) (cs rfl) c1_n (cs rfl) rfl a11 (CJ4_append_bf812 a11 f11 (in_at a11 (dO_le b11 (dO_le b9 (dO_le b6 g5))) (Or.inl rfl) g13.1) q14) (fun a14 b14 f14 => ?_)
  refine X_pop (pc' := 170) dX6_text_169 rfl (rV_cat _) ?_
  refine X_goto dX6_text_170 (tgt := 127) rfl ?_
  cases h
  exact X_sub (sub_s (sub_s (sub_s (sub_n sub_0)))) (k1 _ rfl a14 (DLe_trans (DLe_trans (DLe_trans (DLe_trans b4 b6) b9) b11) b14))
theorem LX6_text_127 {ln : Nat} {z : ZZ} {v0 : Int} {v1 : Int} {v2 : Int} {Φ : xRes → xS → Prop} {r : DD} : ∀ (n : Nat) (D : DD), okD D → gdV D v0 → gdV D v1 → gdV D v2 → zlp (fun q => fX6_text_s127 v0 v1 v2 q) n D = some r → (∀ (D' : DD), r = D' → okD D' → DLe D D' → XD mX6_text 173 [some (rV (v0)), some (rV (v1)), none, none] [] ln D' z Φ) → XD mX6_text 127 [some (rV (v0)), some (rV (v1)), some (rV (v2)), none] [] ln D z Φ := by
  intro n
  induction n with
  | zero => intro D hD rv0 rv1 rv2 h k2; cases h
  | succ n ih =>
    intro D hD rv0 rv1 rv2 h k2
    rcases zlp_s h with ⟨D', e, h'⟩ | e
    · exact SX6_text_127 hD rv0 rv1 rv2 e (fun D₁ hh a b => by cases hh; exact ih _ a (gdV_le b rv0) (gdV_le b rv1) (gdV_le b rv2) h' (fun D9 hh a' b' => k2 D9 hh a' (DLe_trans b b'))) (fun D9 hh => by cases hh)
    · exact SX6_text_127 hD rv0 rv1 rv2 e (fun D₁ hh => by cases hh) (fun D9 hh a b => by cases hh; exact k2 _ rfl a b )
def fX6_text_s181 (v0 : Int) (v1 : Int) (v2 : Int) (D : DD) : Option ((DD) ⊕ (DD)) := (Option.bind (fJx35411_hasNext_aae02 (v2) D) fun r1 => (if dO D (v2) 10 then (if (r1) = (0) then some (.inr D) else (Option.bind (fJx35411_next_0502b (v2) D) fun q4 => match q4 with | (r4, D4) => (if dO D4 (r4) 20 then (Option.bind (fJ4_append_15ec4 (v1) (1000110) D4) fun q6 => match q6 with | (r6, D6) => (if dO D4 (v1) 17 then (if (0 : Int) ≤ (0) ∧ (0 : Int) < ((dH D6 (r4)).2 : Int) then (Option.bind (fJ4_append_bf812 (r6) ((dW D6 (r4) (0))) D6) fun q9 => match q9 with | (r9, D9) => (if dO D6 (r6) 17 then (Option.bind (fJ4_append_cf468 (r9) (32) D9) fun q11 => match q11 with | (r11, D11) => (if dO D9 (r9) 17 then (if (0 : Int) ≤ (1) ∧ (1 : Int) < ((dH D11 (r4)).2 : Int) then (Option.bind (fJ4_append_bf812 (r11) ((dW D11 (r4) (1))) D11) fun q14 => match q14 with | (r14, D14) => (if dO D11 (r11) 17 then some (.inl D14) else none)) else none) else none)) else none)) else none) else none)) else none))) else none))
set_option maxRecDepth 100000 in
theorem SX6_text_181 {ln : Nat} {D : DD} {z : ZZ} {v0 : Int} {v1 : Int} {v2 : Int} {Φ : xRes → xS → Prop} (hD : okD D) (rv0 : gdV D v0) (rv1 : gdV D v1) (rv2 : gdV D v2) {p : (DD) ⊕ (DD)} (h : fX6_text_s181 v0 v1 v2 D = some p) (k1 : ∀ (D' : DD), p = .inl D' → okD D' → DLe D D' → XD mX6_text 181 [some (rV (v0)), some (rV (v1)), some (rV (v2)), none] [] ln D' z Φ) (k2 : ∀ (D' : DD), p = .inr D' → okD D' → DLe D D' → XD mX6_text 227 [some (rV (v0)), some (rV (v1)), none, none] [] ln D' z Φ) : XD mX6_text 181 [some (rV (v0)), some (rV (v1)), some (rV (v2)), none] [] ln D z Φ := by
  unfold fX6_text_s181 at h
  refine E_aload_n (pc' := 182) dX6_text_181 rfl rfl ?_
  obtain ⟨r1, q1, h⟩ := bs h
  obtain ⟨g2, h⟩ := gs h
  refine E_callF [] (pc' := 187) dX6_text_182 rfl F_X6_50_Jx35411 (by decide) ⟨dO_pos g2, dO_is hD g2 rfl⟩ rfl c1_n (cs rfl) c1_n (cs rfl) rfl hD (CJx35411_hasNext_aae02 hD rv2 q1) (fun a1 b1 f1 => ?_)
  refine X_if_eq dX6_text_187 (tgt := 227) rfl (pc' := 190) rfl (inR_b f1) (fun c3 => ?_) (fun c3 => ?_)
  · have h := if_t c3 h
    cases h
    exact X_sub (sub_s (sub_s (sub_n (sub_n sub_0)))) (k2 _ rfl hD (DLe_refl _))
  have h := if_f c3 h
  refine E_aload_n (pc' := 191) dX6_text_190 rfl rfl ?_
  obtain ⟨⟨r4, D4⟩, q4, h⟩ := bs h
  refine E_callF [] (pc' := 196) dX6_text_191 rfl F_X6_56_Jx35411 (by decide) ⟨dO_pos g2, dO_is hD g2 rfl⟩ rfl c1_n (cs rfl) c1_n (cs rfl) rfl hD (CJx35411_next_0502b hD rv2 q4) (fun a4 b4 f4 => ?_)
  obtain ⟨g5, h⟩ := gs h
  refine E_cast (pc' := 199) dX6_text_196 rfl tq526 (dO_pos g5) (dO_isI a4 g5) ?_
  refine E_astore_n (pc' := 200) dX6_text_199 rfl (cl rfl) (Or.inr (xC1_R _)) (L' := [some (rV (v0)), some (rV (v1)), some (rV (v2)), some (rV (r4))]) rfl ?_
  refine E_aload_n (pc' := 201) dX6_text_200 rfl rfl ?_
  refine E_ldcS (a := 1000110) (pc' := 203) dX6_text_201 rfl strX6_120 (by decide) ?_
  obtain ⟨⟨r6, D6⟩, q6, h⟩ := bs h
  obtain ⟨g7, h⟩ := gs h
  refine E_callV [rV (1000110)] (pc' := 206) dX6_text_203 rfl (xVc VX6_97) (by decide) ⟨dO_pos g7, dO_is a4 g7 rfl⟩ rfl (c1_r c1_n) (cs rfl) c1_n (cs rfl) rfl a4 (CJ4_append_15ec4 a4 (gdV_le b4 rv1) (gdV_str (v := 1000110) (by decide)) q6) (fun a6 b6 f6 => ?_)
  refine E_aload_n (pc' := 207) dX6_text_206 rfl rfl ?_
  refine X_iconst (pc' := 208) dX6_text_207 rfl ?_
  obtain ⟨g8, h⟩ := gs h
  refine E_iald (pc' := 209) dX6_text_208 rfl a6 (dO_le b6 g5) g8 ?_
  obtain ⟨⟨r9, D9⟩, q9, h⟩ := bs h
  obtain ⟨g10, h⟩ := gs h
  refine E_callV [.int (iN ((dW D6 (r4) (0))))] (pc' := 212) dX6_text_209 rfl (xVc VX6_101) (by decide) ⟨dO_pos g10, dO_is a6 g10 rfl⟩ rfl (c1_i c1_n) (cs rfl) c1_n (cs rfl) rfl a6 (CJ4_append_bf812 a6 f6 (in_at a6 (dO_le b6 g5) (Or.inl rfl) g8.1) q9) (fun a9 b9 f9 => ?_)
  refine X_bipush (pc' := 214) dX6_text_212 rfl (by decide) ?_
  obtain ⟨⟨r11, D11⟩, q11, h⟩ := bs h
  obtain ⟨g12, h⟩ := gs h
  refine E_callV [.int (iN (32))] (pc' := 217) dX6_text_214 rfl (xVc VX6_115) (by decide) ⟨dO_pos g12, dO_is a9 g12 rfl⟩ rfl (c1_i c1_n) (cs rfl) c1_n (cs rfl) rfl a9 (CJ4_append_cf468 a9 f9 (inR_c (n := 32) rfl) q11) (fun a11 b11 f11 => ?_)
  refine E_aload_n (pc' := 218) dX6_text_217 rfl rfl ?_
  refine X_iconst (pc' := 219) dX6_text_218 rfl ?_
  obtain ⟨g13, h⟩ := gs h
  refine E_iald (pc' := 220) dX6_text_219 rfl a11 (dO_le b11 (dO_le b9 (dO_le b6 g5))) g13 ?_
  obtain ⟨⟨r14, D14⟩, q14, h⟩ := bs h
  obtain ⟨g15, h⟩ := gs h
  refine E_callV [.int (iN ((dW D11 (r4) (1))))] (pc' := 223) dX6_text_220 rfl (xVc VX6_101) (by decide) ⟨dO_pos g15, dO_is a11 g15 rfl⟩ rfl (c1_i c1_n) (cs rfl) c1_n (cs rfl) rfl a11 (CJ4_append_bf812 a11 f11 (in_at a11 (dO_le b11 (dO_le b9 (dO_le b6 g5))) (Or.inl rfl) g13.1) q14) (fun a14 b14 f14 => ?_)
  refine X_pop (pc' := 224) dX6_text_223 rfl (rV_cat _) ?_
  refine X_goto dX6_text_224 (tgt := 181) rfl ?_
  cases h
  exact X_sub (sub_s (sub_s (sub_s (sub_n sub_0)))) (k1 _ rfl a14 (DLe_trans (DLe_trans (DLe_trans (DLe_trans b4 b6) b9) b11) b14))
theorem LX6_text_181 {ln : Nat} {z : ZZ} {v0 : Int} {v1 : Int} {v2 : Int} {Φ : xRes → xS → Prop} {r : DD} : ∀ (n : Nat) (D : DD), okD D → gdV D v0 → gdV D v1 → gdV D v2 → zlp (fun q => fX6_text_s181 v0 v1 v2 q) n D = some r → (∀ (D' : DD), r = D' → okD D' → DLe D D' → XD mX6_text 227 [some (rV (v0)), some (rV (v1)), none, none] [] ln D' z Φ) → XD mX6_text 181 [some (rV (v0)), some (rV (v1)), some (rV (v2)), none] [] ln D z Φ := by
  intro n
  induction n with
  | zero => intro D hD rv0 rv1 rv2 h k2; cases h
  | succ n ih =>
    intro D hD rv0 rv1 rv2 h k2
    rcases zlp_s h with ⟨D', e, h'⟩ | e
    · exact SX6_text_181 hD rv0 rv1 rv2 e (fun D₁ hh a b => by cases hh; exact ih _ a (gdV_le b rv0) (gdV_le b rv1) (gdV_le b rv2) h' (fun D9 hh a' b' => k2 D9 hh a' (DLe_trans b b'))) (fun D9 hh => by cases hh)
    · exact SX6_text_181 hD rv0 rv1 rv2 e (fun D₁ hh => by cases hh) (fun D9 hh a b => by cases hh; exact k2 _ rfl a b )
def fX6_text_s235 (v1 : Int) (v2 : Int) (D : DD) : Option ((DD) ⊕ (DD)) := (Option.bind (fJx35411_hasNext_aae02 (v2) D) fun r1 => (if dO D (v2) 10 then (if (r1) = (0) then some (.inr D) else (Option.bind (fJx35411_next_0502b (v2) D) fun q4 => match q4 with | (r4, D4) => (if dO D4 (r4) 20 then (Option.bind (fJ4_append_15ec4 (v1) (1000111) D4) fun q6 => match q6 with | (r6, D6) => (if dO D4 (v1) 17 then (if (0 : Int) ≤ (0) ∧ (0 : Int) < ((dH D6 (r4)).2 : Int) then (Option.bind (fJ4_append_bf812 (r6) ((dW D6 (r4) (0))) D6) fun q9 => match q9 with | (r9, D9) => (if dO D6 (r6) 17 then (Option.bind (fJ4_append_cf468 (r9) (32) D9) fun q11 => match q11 with | (r11, D11) => (if dO D9 (r9) 17 then (if (0 : Int) ≤ (1) ∧ (1 : Int) < ((dH D11 (r4)).2 : Int) then (Option.bind (fJ4_append_bf812 (r11) ((dW D11 (r4) (1))) D11) fun q14 => match q14 with | (r14, D14) => (if dO D11 (r11) 17 then (Option.bind (fJ4_append_cf468 (r14) (32) D14) fun q16 => match q16 with | (r16, D16) => (if dO D14 (r14) 17 then (if (0 : Int) ≤ (2) ∧ (2 : Int) < ((dH D16 (r4)).2 : Int) then (Option.bind (fJ4_append_bf812 (r16) ((dW D16 (r4) (2))) D16) fun q19 => match q19 with | (r19, D19) => (if dO D16 (r16) 17 then some (.inl D19) else none)) else none) else none)) else none)) else none) else none)) else none)) else none) else none)) else none))) else none))
set_option maxRecDepth 100000 in
theorem SX6_text_235 {ln : Nat} {D : DD} {z : ZZ} {v1 : Int} {v2 : Int} {Φ : xRes → xS → Prop} (hD : okD D) (rv1 : gdV D v1) (rv2 : gdV D v2) {p : (DD) ⊕ (DD)} (h : fX6_text_s235 v1 v2 D = some p) (k1 : ∀ (D' : DD), p = .inl D' → okD D' → DLe D D' → XD mX6_text 235 [none, some (rV (v1)), some (rV (v2)), none] [] ln D' z Φ) (k2 : ∀ (D' : DD), p = .inr D' → okD D' → DLe D D' → XD mX6_text 292 [none, some (rV (v1)), none, none] [] ln D' z Φ) : XD mX6_text 235 [none, some (rV (v1)), some (rV (v2)), none] [] ln D z Φ := by
  unfold fX6_text_s235 at h
  refine E_aload_n (pc' := 236) dX6_text_235 rfl rfl ?_
  obtain ⟨r1, q1, h⟩ := bs h
  obtain ⟨g2, h⟩ := gs h
  refine E_callF [] (pc' := 241) dX6_text_236 rfl F_X6_50_Jx35411 (by decide) ⟨dO_pos g2, dO_is hD g2 rfl⟩ rfl c1_n (cs rfl) c1_n (cs rfl) rfl hD (CJx35411_hasNext_aae02 hD rv2 q1) (fun a1 b1 f1 => ?_)
  refine X_if_eq dX6_text_241 (tgt := 292) rfl (pc' := 244) rfl (inR_b f1) (fun c3 => ?_) (fun c3 => ?_)
  · have h := if_t c3 h
    cases h
    exact X_sub (sub_n (sub_s (sub_n (sub_n sub_0)))) (k2 _ rfl hD (DLe_refl _))
  have h := if_f c3 h
  refine E_aload_n (pc' := 245) dX6_text_244 rfl rfl ?_
  obtain ⟨⟨r4, D4⟩, q4, h⟩ := bs h
  refine E_callF [] (pc' := 250) dX6_text_245 rfl F_X6_56_Jx35411 (by decide) ⟨dO_pos g2, dO_is hD g2 rfl⟩ rfl c1_n (cs rfl) c1_n (cs rfl) rfl hD (CJx35411_next_0502b hD rv2 q4) (fun a4 b4 f4 => ?_)
  obtain ⟨g5, h⟩ := gs h
  refine E_cast (pc' := 253) dX6_text_250 rfl tq526 (dO_pos g5) (dO_isI a4 g5) ?_
  refine E_astore_n (pc' := 254) dX6_text_253 rfl (cl rfl) (Or.inr (xC1_R _)) (L' := [none, some (rV (v1)), some (rV (v2)), some (rV (r4))]) rfl ?_
  refine E_aload_n (pc' := 255) dX6_text_254 rfl rfl ?_
  refine E_ldcS (a := 1000111) (pc' := 257) dX6_text_255 rfl strX6_122 (by decide) ?_
  obtain ⟨⟨r6, D6⟩, q6, h⟩ := bs h
  obtain ⟨g7, h⟩ := gs h
  refine E_callV [rV (1000111)] (pc' := 260) dX6_text_257 rfl (xVc VX6_97) (by decide) ⟨dO_pos g7, dO_is a4 g7 rfl⟩ rfl (c1_r c1_n) (cs rfl) c1_n (cs rfl) rfl a4 (CJ4_append_15ec4 a4 (gdV_le b4 rv1) (gdV_str (v := 1000111) (by decide)) q6) (fun a6 b6 f6 => ?_)
  refine E_aload_n (pc' := 261) dX6_text_260 rfl rfl ?_
  refine X_iconst (pc' := 262) dX6_text_261 rfl ?_
  obtain ⟨g8, h⟩ := gs h
  refine E_iald (pc' := 263) dX6_text_262 rfl a6 (dO_le b6 g5) g8 ?_
  obtain ⟨⟨r9, D9⟩, q9, h⟩ := bs h
  obtain ⟨g10, h⟩ := gs h
  refine E_callV [.int (iN ((dW D6 (r4) (0))))] (pc' := 266) dX6_text_263 rfl (xVc VX6_101) (by decide) ⟨dO_pos g10, dO_is a6 g10 rfl⟩ rfl (c1_i c1_n) (cs rfl) c1_n (cs rfl) rfl a6 (CJ4_append_bf812 a6 f6 (in_at a6 (dO_le b6 g5) (Or.inl rfl) g8.1) q9) (fun a9 b9 f9 => ?_)
  refine X_bipush (pc' := 268) dX6_text_266 rfl (by decide) ?_
  obtain ⟨⟨r11, D11⟩, q11, h⟩ := bs h
  obtain ⟨g12, h⟩ := gs h
  refine E_callV [.int (iN (32))] (pc' := 271) dX6_text_268 rfl (xVc VX6_115) (by decide) ⟨dO_pos g12, dO_is a9 g12 rfl⟩ rfl (c1_i c1_n) (cs rfl) c1_n (cs rfl) rfl a9 (CJ4_append_cf468 a9 f9 (inR_c (n := 32) rfl) q11) (fun a11 b11 f11 => ?_)
  refine E_aload_n (pc' := 272) dX6_text_271 rfl rfl ?_
  refine X_iconst (pc' := 273) dX6_text_272 rfl ?_
  obtain ⟨g13, h⟩ := gs h
  refine E_iald (pc' := 274) dX6_text_273 rfl a11 (dO_le b11 (dO_le b9 (dO_le b6 g5))) g13 ?_
  obtain ⟨⟨r14, D14⟩, q14, h⟩ := bs h
  obtain ⟨g15, h⟩ := gs h
  refine E_callV [.int (iN ((dW D11 (r4) (1))))] (pc' := 277) dX6_text_274 rfl (xVc VX6_101) (by decide) ⟨dO_pos g15, dO_is a11 g15 rfl⟩ rfl (c1_i c1_n) (cs rfl) c1_n (cs rfl) rfl a11 (CJ4_append_bf812 a11 f11 (in_at a11 (dO_le b11 (dO_le b9 (dO_le b6 g5))) (Or.inl rfl) g13.1) q14) (fun a14 b14 f14 => ?_)
  refine X_bipush (pc' := 279) dX6_text_277 rfl (by decide) ?_
  obtain ⟨⟨r16, D16⟩, q16, h⟩ := bs h
  obtain ⟨g17, h⟩ := gs h
  refine E_callV [.int (iN (32))] (pc' := 282) dX6_text_279 rfl (xVc VX6_115) (by decide) ⟨dO_pos g17, dO_is a14 g17 rfl⟩ rfl (c1_i c1_n) (cs rfl) c1_n (cs rfl) rfl a14 (CJ4_append_cf468 a14 f14 (inR_c (n := 32) rfl) q16) (fun a16 b16 f16 => ?_)
  refine E_aload_n (pc' := 283) dX6_text_282 rfl rfl ?_
  refine X_iconst (pc' := 284) dX6_text_283 rfl ?_
  obtain ⟨g18, h⟩ := gs h
  refine E_iald (pc' := 285) dX6_text_284 rfl a16 (dO_le b16 (dO_le b14 (dO_le b11 (dO_le b9 (dO_le b6 g5))))) g18 ?_
  obtain ⟨⟨r19, D19⟩, q19, h⟩ := bs h
  obtain ⟨g20, h⟩ := gs h
  refine E_callV [.int (iN ((dW D16 (r4) (2))))] (pc' := 288) dX6_text_285 rfl (xVc VX6_101) (by decide) ⟨dO_pos g20, dO_is a16 g20 rfl⟩ rfl (c1_i c1_n) (cs rfl) c1_n (cs rfl) rfl a16 (CJ4_append_bf812 a16 f16 (in_at a16 (dO_le b16 (dO_le b14 (dO_le b11 (dO_le b9 (dO_le b6 g5))))) (Or.inl rfl) g18.1) q19) (fun a19 b19 f19 => ?_)
  refine X_pop (pc' := 289) dX6_text_288 rfl (rV_cat _) ?_
  refine X_goto dX6_text_289 (tgt := 235) rfl ?_
  cases h
  exact X_sub (sub_n (sub_s (sub_s (sub_n sub_0)))) (k1 _ rfl a19 (DLe_trans (DLe_trans (DLe_trans (DLe_trans (DLe_trans (DLe_trans b4 b6) b9) b11) b14) b16) b19))
theorem LX6_text_235 {ln : Nat} {z : ZZ} {v1 : Int} {v2 : Int} {Φ : xRes → xS → Prop} {r : DD} : ∀ (n : Nat) (D : DD), okD D → gdV D v1 → gdV D v2 → zlp (fun q => fX6_text_s235 v1 v2 q) n D = some r → (∀ (D' : DD), r = D' → okD D' → DLe D D' → XD mX6_text 292 [none, some (rV (v1)), none, none] [] ln D' z Φ) → XD mX6_text 235 [none, some (rV (v1)), some (rV (v2)), none] [] ln D z Φ := by
  intro n
  induction n with
  | zero => intro D hD rv1 rv2 h k2; cases h
  | succ n ih =>
    intro D hD rv1 rv2 h k2
    rcases zlp_s h with ⟨D', e, h'⟩ | e
    · exact SX6_text_235 hD rv1 rv2 e (fun D₁ hh a b => by cases hh; exact ih _ a (gdV_le b rv1) (gdV_le b rv2) h' (fun D9 hh a' b' => k2 D9 hh a' (DLe_trans b b'))) (fun D9 hh => by cases hh)
    · exact SX6_text_235 hD rv1 rv2 e (fun D₁ hh => by cases hh) (fun D9 hh a b => by cases hh; exact k2 _ rfl a b )
def fX6_text (v0 : Int) (D : DD) : Option (Int × DD) := (if dT D < 600000 ∧ dS D + 4 ≤ 7200000 then (zl (dnew D 17 4) fun D2 => (if dT D2 < 600000 ∧ dS D2 + 4 ≤ 7200000 then (zl (dnew D2 17 4) fun D4 => (Option.bind (fJ4_init_da8c8 ((dT D2)) D4) fun D5 => (Option.bind (fJ4_append_15ec4 ((dT D2)) (1000105) D5) fun q6 => match q6 with | (r6, D6) => (if dO D6 (v0) 7 then (Option.bind (fJ4_append_bf812 (r6) ((dW D6 (v0) 0)) D6) fun q8 => match q8 with | (r8, D8) => (if dO D6 (r6) 17 then (Option.bind (fJ4_append_15ec4 (r8) (1000106) D8) fun q10 => match q10 with | (r10, D10) => (if dO D8 (r8) 17 then (Option.bind (fJ4_append_bf812 (r10) ((dW D10 (v0) 1)) D10) fun q12 => match q12 with | (r12, D12) => (if dO D10 (r10) 17 then (Option.bind (fJ4_append_15ec4 (r12) (1000106) D12) fun q14 => match q14 with | (r14, D14) => (if dO D12 (r12) 17 then (Option.bind (fJ4_append_bf812 (r14) ((dW D14 (v0) 2)) D14) fun q16 => match q16 with | (r16, D16) => (if dO D14 (r14) 17 then (Option.bind (fJ4_toString_0e30d (r16) D16) fun q18 => match q18 with | (r18, D18) => (if dO D16 (r16) 17 then (Option.bind (fJ4_init_a7421 ((dT D)) (r18) D18) fun D20 => (Option.bind (fJx4a65c_iterator_32c93 ((dW D20 (v0) 4)) D20) fun q21 => match q21 with | (r21, D21) => (if dO D20 ((dW D20 (v0) 4)) 9 then (Option.bind (zlp (fun q => fX6_text_s62 (v0) ((dT D)) (r21) q) FU D21) fun D23 => (Option.bind (fJx4a65c_iterator_32c93 ((dW D23 (v0) 6)) D23) fun q24 => match q24 with | (r24, D24) => (if dO D23 ((dW D23 (v0) 6)) 9 then (Option.bind (zlp (fun q => fX6_text_s127 (v0) ((dT D)) (r24) q) FU D24) fun D26 => (Option.bind (fJx4a65c_iterator_32c93 ((dW D26 (v0) 7)) D26) fun q27 => match q27 with | (r27, D27) => (if dO D26 ((dW D26 (v0) 7)) 9 then (Option.bind (zlp (fun q => fX6_text_s181 (v0) ((dT D)) (r27) q) FU D27) fun D29 => (Option.bind (fJx4a65c_iterator_32c93 ((dW D29 (v0) 8)) D29) fun q30 => match q30 with | (r30, D30) => (if dO D29 ((dW D29 (v0) 8)) 9 then (Option.bind (zlp (fun q => fX6_text_s235 ((dT D)) (r30) q) FU D30) fun D32 => (Option.bind (fJ4_toString_0e30d ((dT D)) D32) fun q33 => match q33 with | (r33, D33) => some (r33, D33))) else none))) else none))) else none))) else none))) else none)) else none)) else none)) else none)) else none)) else none)) else none)))) else none)) else none)
set_option maxRecDepth 100000 in
theorem CX6_text {ln : Nat} {D : DD} {z : ZZ} {v0 : Int} (hD : okD D) (rv0 : gdV D v0) {p : Int × DD} (h : fX6_text v0 D = some p) : XD mX6_text 0 (xEnt [rV (v0)] (xL mX6_text)) [] ln D z (Qd (FdD D p.2 (gdV p.2 p.1)) (.inl (some (rV p.1))) (sD ln p.2 z)) := by
  have k : K_wR (Qd (FdD D p.2 (gdV p.2 p.1)) (.inl (some (rV p.1))) (sD ln p.2 z)) ln D z p := fun a b c => ⟨⟨a, b, c⟩, rfl, rfl⟩
  unfold fX6_text at h
  refine E_ent (c1_r c1_n) (M := [some (rV (v0)), none, none, none]) rfl ?_
  obtain ⟨g1, h⟩ := gs h
  refine E_new (c := 16) (n := 4) (pc' := 3) dX6_text_0 rfl rfl rfl (by decide) tq1118 tq1119 tq39 hD g1 ?_
  obtain ⟨D2, e2, f2, h⟩ := zl_some (P := fun q => okD q ∧ DLe D q ∧ dO q (dT D) 17) h ⟨okD_dnew hD (by decide) (by decide) g1.1 g1.2, DLe_dnew _ (by decide), dO_dnew hD⟩
  rw [e2]
  refine X_dup (pc' := 4) dX6_text_3 rfl (rV_cat _) ?_
  obtain ⟨g3, h⟩ := gs h
  refine E_new (c := 16) (n := 4) (pc' := 7) dX6_text_4 rfl rfl rfl (by decide) tq1118 tq1119 tq39 f2.1 g3 ?_
  obtain ⟨D4, e4, f4, h⟩ := zl_some (P := fun q => okD q ∧ DLe D2 q ∧ dO q (dT D2) 17) h ⟨okD_dnew f2.1 (by decide) (by decide) g3.1 g3.2, DLe_dnew _ (by decide), dO_dnew f2.1⟩
  rw [e4]
  refine X_dup (pc' := 8) dX6_text_7 rfl (rV_cat _) ?_
  obtain ⟨D5, q5, h⟩ := bs h
  refine E_callI (μ := mX6_text) (μ' := mJ4_init_da8c8) [] (pc' := 11) dX6_text_8 rfl tq1120 IX6_94 (by decide) ⟨f4.2.2.1, f4.2.2.2.1⟩ rfl c1_n (cs rfl) (c1_r (c1_r (c1_r c1_n))) (cs rfl) rfl f4.1 (CJ4_init_da8c8 f4.1 (dO_gd f4.2.2 (by decide)) q5) (fun a5 b5 f5 => ?_)
  refine E_ldcS (a := 1000105) (pc' := 13) dX6_text_11 rfl strX6_95 (by decide) ?_
  obtain ⟨⟨r6, D6⟩, q6, h⟩ := bs h
  refine E_callV [rV (1000105)] (pc' := 16) dX6_text_13 rfl (xVc VX6_97) (by decide) ⟨dO_pos (dO_le b5 f4.2.2), dO_is a5 (dO_le b5 f4.2.2) rfl⟩ rfl (c1_r c1_n) (cs rfl) (c1_r (c1_r c1_n)) (cs rfl) rfl a5 (CJ4_append_15ec4 a5 (gdV_le b5 (dO_gd f4.2.2 (by decide))) (gdV_str (v := 1000105) (by decide)) q6) (fun a6 b6 f6 => ?_)
  refine E_aload_n (pc' := 17) dX6_text_16 rfl rfl ?_
  obtain ⟨g7, h⟩ := gs h
  refine E_getI (pc' := 20) dX6_text_17 rfl FX6_9_6 a6 g7 rfl (j := 0) rfl ?_
  obtain ⟨⟨r8, D8⟩, q8, h⟩ := bs h
  obtain ⟨g9, h⟩ := gs h
  refine E_callV [.int (iN ((dW D6 (v0) 0)))] (pc' := 23) dX6_text_20 rfl (xVc VX6_101) (by decide) ⟨dO_pos g9, dO_is a6 g9 rfl⟩ rfl (c1_i c1_n) (cs rfl) (c1_r (c1_r c1_n)) (cs rfl) rfl a6 (CJ4_append_bf812 a6 f6 (in_slot (k := 0) a6 g7 rfl (by decide)) q8) (fun a8 b8 f8 => ?_)
  refine E_ldcS (a := 1000106) (pc' := 25) dX6_text_23 rfl strX6_104 (by decide) ?_
  obtain ⟨⟨r10, D10⟩, q10, h⟩ := bs h
  obtain ⟨g11, h⟩ := gs h
  refine E_callV [rV (1000106)] (pc' := 28) dX6_text_25 rfl (xVc VX6_97) (by decide) ⟨dO_pos g11, dO_is a8 g11 rfl⟩ rfl (c1_r c1_n) (cs rfl) (c1_r (c1_r c1_n)) (cs rfl) rfl a8 (CJ4_append_15ec4 a8 f8 (gdV_str (v := 1000106) (by decide)) q10) (fun a10 b10 f10 => ?_)
  refine E_aload_n (pc' := 29) dX6_text_28 rfl rfl ?_
  refine E_getI (pc' := 32) dX6_text_29 rfl FX6_15_6 a10 (dO_le b10 (dO_le b8 g7)) rfl (j := 1) rfl ?_
  obtain ⟨⟨r12, D12⟩, q12, h⟩ := bs h
  obtain ⟨g13, h⟩ := gs h
  refine E_callV [.int (iN ((dW D10 (v0) 1)))] (pc' := 35) dX6_text_32 rfl (xVc VX6_101) (by decide) ⟨dO_pos g13, dO_is a10 g13 rfl⟩ rfl (c1_i c1_n) (cs rfl) (c1_r (c1_r c1_n)) (cs rfl) rfl a10 (CJ4_append_bf812 a10 f10 (in_slot (k := 1) a10 (dO_le b10 (dO_le b8 g7)) rfl (by decide)) q12) (fun a12 b12 f12 => ?_)
  refine E_ldcS (a := 1000106) (pc' := 37) dX6_text_35 rfl strX6_104 (by decide) ?_
  obtain ⟨⟨r14, D14⟩, q14, h⟩ := bs h
  obtain ⟨g15, h⟩ := gs h
  refine E_callV [rV (1000106)] (pc' := 40) dX6_text_37 rfl (xVc VX6_97) (by decide) ⟨dO_pos g15, dO_is a12 g15 rfl⟩ rfl (c1_r c1_n) (cs rfl) (c1_r (c1_r c1_n)) (cs rfl) rfl a12 (CJ4_append_15ec4 a12 f12 (gdV_str (v := 1000106) (by decide)) q14) (fun a14 b14 f14 => ?_)
  refine E_aload_n (pc' := 41) dX6_text_40 rfl rfl ?_
  refine E_getI (pc' := 44) dX6_text_41 rfl FX6_18_6 a14 (dO_le b14 (dO_le b12 (dO_le b10 (dO_le b8 g7)))) rfl (j := 2) rfl ?_
  obtain ⟨⟨r16, D16⟩, q16, h⟩ := bs h
  obtain ⟨g17, h⟩ := gs h
  refine E_callV [.int (iN ((dW D14 (v0) 2)))] (pc' := 47) dX6_text_44 rfl (xVc VX6_101) (by decide) ⟨dO_pos g17, dO_is a14 g17 rfl⟩ rfl (c1_i c1_n) (cs rfl) (c1_r (c1_r c1_n)) (cs rfl) rfl a14 (CJ4_append_bf812 a14 f14 (in_slot (k := 2) a14 (dO_le b14 (dO_le b12 (dO_le b10 (dO_le b8 g7)))) rfl (by decide)) q16) (fun a16 b16 f16 => ?_)
  obtain ⟨⟨r18, D18⟩, q18, h⟩ := bs h
  obtain ⟨g19, h⟩ := gs h
  refine E_callV [] (pc' := 50) dX6_text_47 rfl (xVc VX6_106) (by decide) ⟨dO_pos g19, dO_is a16 g19 rfl⟩ rfl c1_n (cs rfl) (c1_r (c1_r c1_n)) (cs rfl) rfl a16 (CJ4_toString_0e30d a16 f16 q18) (fun a18 b18 f18 => ?_)
  obtain ⟨D20, q20, h⟩ := bs h
  refine E_callI (μ := mX6_text) (μ' := mJ4_init_a7421) [rV (r18)] (pc' := 53) dX6_text_50 rfl tq1379 IX6_110 (by decide) ⟨(dO_le b18 (dO_le b16 (dO_le b14 (dO_le b12 (dO_le b10 (dO_le b8 (dO_le b6 (dO_le b5 (dO_le f4.2.1 f2.2.2))))))))).1, (dO_le b18 (dO_le b16 (dO_le b14 (dO_le b12 (dO_le b10 (dO_le b8 (dO_le b6 (dO_le b5 (dO_le f4.2.1 f2.2.2))))))))).2.1⟩ rfl (c1_r c1_n) (cs rfl) (c1_r c1_n) (cs rfl) rfl a18 (CJ4_init_a7421 a18 (gdV_le b18 (gdV_le b16 (gdV_le b14 (gdV_le b12 (gdV_le b10 (gdV_le b8 (gdV_le b6 (gdV_le b5 (gdV_le f4.2.1 (dO_gd f2.2.2 (by decide))))))))))) f18 q20) (fun a20 b20 f20 => ?_)
  refine E_astore_n (pc' := 54) dX6_text_53 rfl (cl rfl) (Or.inr (xC1_R _)) (L' := [some (rV (v0)), some (rV ((dT D))), none, none]) rfl ?_
  refine E_aload_n (pc' := 55) dX6_text_54 rfl rfl ?_
  refine E_getR (pc' := 58) dX6_text_55 rfl FX6_24_6 a20 (dO_le b20 (dO_le b18 (dO_le b16 (dO_le b14 (dO_le b12 (dO_le b10 (dO_le b8 g7))))))) rfl (j := 4) rfl ?_
  obtain ⟨⟨r21, D21⟩, q21, h⟩ := bs h
  obtain ⟨g22, h⟩ := gs h
  refine E_callV [] (pc' := 61) dX6_text_58 rfl (xVc VX6_46) (by decide) ⟨dO_pos g22, dO_is a20 g22 rfl⟩ rfl c1_n (cs rfl) c1_n (cs rfl) rfl a20 (CJx4a65c_iterator_32c93 a20 (gd_slot (k := 4) a20 (dO_le b20 (dO_le b18 (dO_le b16 (dO_le b14 (dO_le b12 (dO_le b10 (dO_le b8 g7))))))) rfl (by decide)) q21) (fun a21 b21 f21 => ?_)
  refine E_astore_n (pc' := 62) dX6_text_61 rfl (cl rfl) (Or.inr (xC1_R _)) (L' := [some (rV (v0)), some (rV ((dT D))), some (rV (r21)), none]) rfl ?_
  obtain ⟨D23, q23, h⟩ := bs h
  refine X_sub (sub_s (sub_s (sub_s (sub_n sub_0)))) (LX6_text_62 FU _ a21 (gdV_le b21 (gdV_le b20 (gdV_le b18 (gdV_le b16 (gdV_le b14 (gdV_le b12 (gdV_le b10 (gdV_le b8 (gdV_le b6 (gdV_le b5 (gdV_le f4.2.1 (gdV_le f2.2.1 rv0)))))))))))) (gdV_le b21 (gdV_le b20 (gdV_le b18 (gdV_le b16 (gdV_le b14 (gdV_le b12 (gdV_le b10 (gdV_le b8 (gdV_le b6 (gdV_le b5 (gdV_le f4.2.1 (dO_gd f2.2.2 (by decide))))))))))))) f21 q23 (fun D23₁ hh hD23 le23 => ?_))
  cases hh
  refine E_aload_n (pc' := 120) dX6_text_119 rfl rfl ?_
  refine E_getR (pc' := 123) dX6_text_120 rfl FX6_31_6 hD23 (dO_le le23 (dO_le b21 (dO_le b20 (dO_le b18 (dO_le b16 (dO_le b14 (dO_le b12 (dO_le b10 (dO_le b8 g7))))))))) rfl (j := 6) rfl ?_
  obtain ⟨⟨r24, D24⟩, q24, h⟩ := bs h
  obtain ⟨g25, h⟩ := gs h
  refine E_callV [] (pc' := 126) dX6_text_123 rfl (xVc VX6_46) (by decide) ⟨dO_pos g25, dO_is hD23 g25 rfl⟩ rfl c1_n (cs rfl) c1_n (cs rfl) rfl hD23 (CJx4a65c_iterator_32c93 hD23 (gd_slot (k := 6) hD23 (dO_le le23 (dO_le b21 (dO_le b20 (dO_le b18 (dO_le b16 (dO_le b14 (dO_le b12 (dO_le b10 (dO_le b8 g7))))))))) rfl (by decide)) q24) (fun a24 b24 f24 => ?_)
  refine E_astore_n (pc' := 127) dX6_text_126 rfl (cl rfl) (Or.inr (xC1_R _)) (L' := [some (rV (v0)), some (rV ((dT D))), some (rV (r24)), none]) rfl ?_
  obtain ⟨D26, q26, h⟩ := bs h
  refine X_sub (sub_s (sub_s (sub_s (sub_n sub_0)))) (LX6_text_127 FU _ a24 (gdV_le b24 (gdV_le le23 (gdV_le b21 (gdV_le b20 (gdV_le b18 (gdV_le b16 (gdV_le b14 (gdV_le b12 (gdV_le b10 (gdV_le b8 (gdV_le b6 (gdV_le b5 (gdV_le f4.2.1 (gdV_le f2.2.1 rv0)))))))))))))) (gdV_le b24 (gdV_le le23 (gdV_le b21 (gdV_le b20 (gdV_le b18 (gdV_le b16 (gdV_le b14 (gdV_le b12 (gdV_le b10 (gdV_le b8 (gdV_le b6 (gdV_le b5 (gdV_le f4.2.1 (dO_gd f2.2.2 (by decide))))))))))))))) f24 q26 (fun D26₁ hh hD26 le26 => ?_))
  cases hh
  refine E_aload_n (pc' := 174) dX6_text_173 rfl rfl ?_
  refine E_getR (pc' := 177) dX6_text_174 rfl FX6_34_6 hD26 (dO_le le26 (dO_le b24 (dO_le le23 (dO_le b21 (dO_le b20 (dO_le b18 (dO_le b16 (dO_le b14 (dO_le b12 (dO_le b10 (dO_le b8 g7))))))))))) rfl (j := 7) rfl ?_
  obtain ⟨⟨r27, D27⟩, q27, h⟩ := bs h
  obtain ⟨g28, h⟩ := gs h
  refine E_callV [] (pc' := 180) dX6_text_177 rfl (xVc VX6_46) (by decide) ⟨dO_pos g28, dO_is hD26 g28 rfl⟩ rfl c1_n (cs rfl) c1_n (cs rfl) rfl hD26 (CJx4a65c_iterator_32c93 hD26 (gd_slot (k := 7) hD26 (dO_le le26 (dO_le b24 (dO_le le23 (dO_le b21 (dO_le b20 (dO_le b18 (dO_le b16 (dO_le b14 (dO_le b12 (dO_le b10 (dO_le b8 g7))))))))))) rfl (by decide)) q27) (fun a27 b27 f27 => ?_)
  refine E_astore_n (pc' := 181) dX6_text_180 rfl (cl rfl) (Or.inr (xC1_R _)) (L' := [some (rV (v0)), some (rV ((dT D))), some (rV (r27)), none]) rfl ?_
  obtain ⟨D29, q29, h⟩ := bs h
  refine X_sub (sub_s (sub_s (sub_s (sub_n sub_0)))) (LX6_text_181 FU _ a27 (gdV_le b27 (gdV_le le26 (gdV_le b24 (gdV_le le23 (gdV_le b21 (gdV_le b20 (gdV_le b18 (gdV_le b16 (gdV_le b14 (gdV_le b12 (gdV_le b10 (gdV_le b8 (gdV_le b6 (gdV_le b5 (gdV_le f4.2.1 (gdV_le f2.2.1 rv0)))))))))))))))) (gdV_le b27 (gdV_le le26 (gdV_le b24 (gdV_le le23 (gdV_le b21 (gdV_le b20 (gdV_le b18 (gdV_le b16 (gdV_le b14 (gdV_le b12 (gdV_le b10 (gdV_le b8 (gdV_le b6 (gdV_le b5 (gdV_le f4.2.1 (dO_gd f2.2.2 (by decide))))))))))))))))) f27 q29 (fun D29₁ hh hD29 le29 => ?_))
  cases hh
  refine E_aload_n (pc' := 228) dX6_text_227 rfl rfl ?_
  refine E_getR (pc' := 231) dX6_text_228 rfl FX6_37_6 hD29 (dO_le le29 (dO_le b27 (dO_le le26 (dO_le b24 (dO_le le23 (dO_le b21 (dO_le b20 (dO_le b18 (dO_le b16 (dO_le b14 (dO_le b12 (dO_le b10 (dO_le b8 g7))))))))))))) rfl (j := 8) rfl ?_
  obtain ⟨⟨r30, D30⟩, q30, h⟩ := bs h
  obtain ⟨g31, h⟩ := gs h
  refine E_callV [] (pc' := 234) dX6_text_231 rfl (xVc VX6_46) (by decide) ⟨dO_pos g31, dO_is hD29 g31 rfl⟩ rfl c1_n (cs rfl) c1_n (cs rfl) rfl hD29 (CJx4a65c_iterator_32c93 hD29 (gd_slot (k := 8) hD29 (dO_le le29 (dO_le b27 (dO_le le26 (dO_le b24 (dO_le le23 (dO_le b21 (dO_le b20 (dO_le b18 (dO_le b16 (dO_le b14 (dO_le b12 (dO_le b10 (dO_le b8 g7))))))))))))) rfl (by decide)) q30) (fun a30 b30 f30 => ?_)
  refine E_astore_n (pc' := 235) dX6_text_234 rfl (cl rfl) (Or.inr (xC1_R _)) (L' := [some (rV (v0)), some (rV ((dT D))), some (rV (r30)), none]) rfl ?_
  obtain ⟨D32, q32, h⟩ := bs h
  refine X_sub (sub_n (sub_s (sub_s (sub_n sub_0)))) (LX6_text_235 FU _ a30 (gdV_le b30 (gdV_le le29 (gdV_le b27 (gdV_le le26 (gdV_le b24 (gdV_le le23 (gdV_le b21 (gdV_le b20 (gdV_le b18 (gdV_le b16 (gdV_le b14 (gdV_le b12 (gdV_le b10 (gdV_le b8 (gdV_le b6 (gdV_le b5 (gdV_le f4.2.1 (dO_gd f2.2.2 (by decide))))))))))))))))))) f30 q32 (fun D32₁ hh hD32 le32 => ?_))
  cases hh
  refine E_aload_n (pc' := 293) dX6_text_292 rfl rfl ?_
  obtain ⟨⟨r33, D33⟩, q33, h⟩ := bs h
  refine E_callV [] (pc' := 296) dX6_text_293 rfl (xVc VX6_106) (by decide) ⟨dO_pos (dO_le le32 (dO_le b30 (dO_le le29 (dO_le b27 (dO_le le26 (dO_le b24 (dO_le le23 (dO_le b21 (dO_le b20 (dO_le b18 (dO_le b16 (dO_le b14 (dO_le b12 (dO_le b10 (dO_le b8 (dO_le b6 (dO_le b5 (dO_le f4.2.1 f2.2.2)))))))))))))))))), dO_is hD32 (dO_le le32 (dO_le b30 (dO_le le29 (dO_le b27 (dO_le le26 (dO_le b24 (dO_le le23 (dO_le b21 (dO_le b20 (dO_le b18 (dO_le b16 (dO_le b14 (dO_le b12 (dO_le b10 (dO_le b8 (dO_le b6 (dO_le b5 (dO_le f4.2.1 f2.2.2)))))))))))))))))) rfl⟩ rfl c1_n (cs rfl) c1_n (cs rfl) rfl hD32 (CJ4_toString_0e30d hD32 (gdV_le le32 (gdV_le b30 (gdV_le le29 (gdV_le b27 (gdV_le le26 (gdV_le b24 (gdV_le le23 (gdV_le b21 (gdV_le b20 (gdV_le b18 (gdV_le b16 (gdV_le b14 (gdV_le b12 (gdV_le b10 (gdV_le b8 (gdV_le b6 (gdV_le b5 (gdV_le f4.2.1 (dO_gd f2.2.2 (by decide)))))))))))))))))))) q33) (fun a33 b33 f33 => ?_)
  cases h
  exact E_aret dX6_text_296 rfl (Or.inl ⟨_, rfl⟩) (k a33 (DLe_trans (DLe_trans (DLe_trans (DLe_trans (DLe_trans (DLe_trans (DLe_trans (DLe_trans (DLe_trans (DLe_trans (DLe_trans (DLe_trans (DLe_trans (DLe_trans (DLe_trans (DLe_trans (DLe_trans (DLe_trans (DLe_trans f2.2.1 f4.2.1) b5) b6) b8) b10) b12) b14) b16) b18) b20) b21) le23) b24) le26) b27) le29) b30) le32) b33) f33)
def fX6_mean_s23 (v0 : Int) (v1 : Int) (v2 : Int) (v3 : Int) (v4 : Int) (v5 : Int) (D : DD) : Option ((DD) ⊕ (DD)) := (Option.bind (fX15_hasNext_15 (v5) D) fun r1 => (if dO D (v5) 15 then (if (r1) = (0) then some (.inr D) else (Option.bind (fX16_next (v5) D) fun q4 => match q4 with | (r4, D4) => (if isBox (r4) then (Option.bind (fJ6_intValue_8abf5 (r4) D4) fun r6 => (Option.bind (fJ6_valueOf_2dffe (r6) D4) fun r7 => (Option.bind (fJx4a65c_add_9ea2d (v4) (r7) D4) fun q8 => match q8 with | (r8, D8) => (if dO D4 (v4) 9 then some (.inl D8) else none)))) else none))) else none))
set_option maxRecDepth 100000 in
theorem SX6_mean_23 {ln : Nat} {D : DD} {z : ZZ} {v0 : Int} {v1 : Int} {v2 : Int} {v3 : Int} {v4 : Int} {v5 : Int} {Φ : xRes → xS → Prop} (hD : okD D) (rv0 : gdV D v0) (rv1 : gdV D v1) (rv2 : inR v2) (rv3 : inR v3) (rv4 : gdV D v4) (rv5 : gdV D v5) {p : (DD) ⊕ (DD)} (h : fX6_mean_s23 v0 v1 v2 v3 v4 v5 D = some p) (k1 : ∀ (D' : DD), p = .inl D' → okD D' → DLe D D' → XD mX6_mean 23 [some (rV (v0)), some (rV (v1)), some (.int (iN (v2))), some (.int (iN (v3))), some (rV (v4)), some (rV (v5)), none, none, none] [] ln D' z Φ) (k2 : ∀ (D' : DD), p = .inr D' → okD D' → DLe D D' → XD mX6_mean 62 [some (rV (v0)), some (rV (v1)), some (.int (iN (v2))), some (.int (iN (v3))), some (rV (v4)), none, none, none, none] [] ln D' z Φ) : XD mX6_mean 23 [some (rV (v0)), some (rV (v1)), some (.int (iN (v2))), some (.int (iN (v3))), some (rV (v4)), some (rV (v5)), none, none, none] [] ln D z Φ := by
  unfold fX6_mean_s23 at h
  refine E_aload (pc' := 25) dX6_mean_23 rfl rfl ?_
  obtain ⟨r1, q1, h⟩ := bs h
  obtain ⟨g2, h⟩ := gs h
  refine E_callF [] (pc' := 30) dX6_mean_25 rfl F_X6_50_X16 (by decide) ⟨dO_pos g2, dO_is hD g2 rfl⟩ rfl c1_n (cs rfl) c1_n (cs rfl) rfl hD (CX15_hasNext_15 hD rv5 q1) (fun a1 b1 f1 => ?_)
  refine X_if_eq dX6_mean_30 (tgt := 62) rfl (pc' := 33) rfl (inR_b f1) (fun c3 => ?_) (fun c3 => ?_)
  · have h := if_t c3 h
    cases h
    exact X_sub (sub_s (sub_s (sub_s (sub_s (sub_s (sub_n (sub_n (sub_n (sub_n sub_0))))))))) (k2 _ rfl hD (DLe_refl _))
  have h := if_f c3 h
  refine E_aload (pc' := 35) dX6_mean_33 rfl rfl ?_
  obtain ⟨⟨r4, D4⟩, q4, h⟩ := bs h
  refine E_callF [] (pc' := 40) dX6_mean_35 rfl F_X6_56_X16 (by decide) ⟨dO_pos g2, dO_is hD g2 rfl⟩ rfl c1_n (cs rfl) c1_n (cs rfl) rfl hD (CX16_next hD rv5 q4) (fun a4 b4 f4 => ?_)
  obtain ⟨g5, h⟩ := gs h
  refine E_cast (pc' := 43) dX6_mean_40 rfl tq1583 (box_pos g5) (box_is g5) ?_
  obtain ⟨r6, q6, h⟩ := bs h
  refine E_callV [] (pc' := 46) dX6_mean_43 rfl (xVc VX6_139) (by decide) ⟨box_pos g5, box_is g5⟩ rfl c1_n (cs rfl) c1_n (cs rfl) rfl a4 (CJ6_intValue_8abf5 a4 f4 q6) (fun a6 b6 f6 => ?_)
  refine X_istore (pc' := 48) dX6_mean_46 rfl (cl rfl) (Or.inr (xC1_R _)) (L' := [some (rV (v0)), some (rV (v1)), some (.int (iN (v2))), some (.int (iN (v3))), some (rV (v4)), some (rV (v5)), some (.int (iN (r6))), none, none]) rfl ?_
  refine E_aload (pc' := 50) dX6_mean_48 rfl rfl ?_
  refine X_iload (pc' := 52) dX6_mean_50 rfl rfl ?_
  obtain ⟨r7, q7, h⟩ := bs h
  refine E_callS [.int (iN (r6))] (pc' := 55) dX6_mean_52 rfl (xSn SX6_143) (by decide) rfl (c1_i c1_n) (cs rfl) (c1_r c1_n) (cs rfl) rfl a4 (CJ6_valueOf_2dffe a4 f6 q7) (fun a7 b7 f7 => ?_)
  obtain ⟨⟨r8, D8⟩, q8, h⟩ := bs h
  obtain ⟨g9, h⟩ := gs h
  refine E_callV [rV (r7)] (pc' := 58) dX6_mean_55 rfl (xVc VX6_65) (by decide) ⟨dO_pos g9, dO_is a4 g9 rfl⟩ rfl (c1_r c1_n) (cs rfl) c1_n (cs rfl) rfl a4 (CJx4a65c_add_9ea2d a4 (gdV_le b4 rv4) f7 q8) (fun a8 b8 f8 => ?_)
  refine X_pop (pc' := 59) dX6_mean_58 rfl rfl ?_
  refine X_goto dX6_mean_59 (tgt := 23) rfl ?_
  cases h
  exact X_sub (sub_s (sub_s (sub_s (sub_s (sub_s (sub_s (sub_n (sub_n (sub_n sub_0))))))))) (k1 _ rfl a8 (DLe_trans b4 b8))
theorem LX6_mean_23 {ln : Nat} {z : ZZ} {v0 : Int} {v1 : Int} {v2 : Int} {v3 : Int} {v4 : Int} {v5 : Int} {Φ : xRes → xS → Prop} {r : DD} : ∀ (n : Nat) (D : DD), okD D → gdV D v0 → gdV D v1 → inR v2 → inR v3 → gdV D v4 → gdV D v5 → zlp (fun q => fX6_mean_s23 v0 v1 v2 v3 v4 v5 q) n D = some r → (∀ (D' : DD), r = D' → okD D' → DLe D D' → XD mX6_mean 62 [some (rV (v0)), some (rV (v1)), some (.int (iN (v2))), some (.int (iN (v3))), some (rV (v4)), none, none, none, none] [] ln D' z Φ) → XD mX6_mean 23 [some (rV (v0)), some (rV (v1)), some (.int (iN (v2))), some (.int (iN (v3))), some (rV (v4)), some (rV (v5)), none, none, none] [] ln D z Φ := by
  intro n
  induction n with
  | zero => intro D hD rv0 rv1 rv2 rv3 rv4 rv5 h k2; cases h
  | succ n ih =>
    intro D hD rv0 rv1 rv2 rv3 rv4 rv5 h k2
    rcases zlp_s h with ⟨D', e, h'⟩ | e
    · exact SX6_mean_23 hD rv0 rv1 rv2 rv3 rv4 rv5 e (fun D₁ hh a b => by cases hh; exact ih _ a (gdV_le b rv0) (gdV_le b rv1) rv2 rv3 (gdV_le b rv4) (gdV_le b rv5) h' (fun D9 hh a' b' => k2 D9 hh a' (DLe_trans b b'))) (fun D9 hh => by cases hh)
    · exact SX6_mean_23 hD rv0 rv1 rv2 rv3 rv4 rv5 e (fun D₁ hh => by cases hh) (fun D9 hh a b => by cases hh; exact k2 _ rfl a b )
def fX6_mean_s65 (v0 : Int) (v1 : Int) (v2 : Int) (v3 : Int) (v4 : Int) (v5 : Int) (D : DD) : Option ((Int × DD) ⊕ (DD)) := (if dO D (v0) 7 then (if (v5) < ((dW D (v0) 1)) then (if dO D (v1) 8 then (Option.bind (fJ6_valueOf_2dffe ((dW D (v1) 1)) D) fun r4 => (Option.bind (fJx4a65c_add_9ea2d (v4) (r4) D) fun q5 => match q5 with | (r5, D5) => (if dO D (v4) 9 then (if inR ((v5 + 1)) then some (.inl ((v5 + 1), D5)) else none) else none))) else none) else some (.inr D)) else none)
set_option maxRecDepth 100000 in
theorem SX6_mean_65 {ln : Nat} {D : DD} {z : ZZ} {v0 : Int} {v1 : Int} {v2 : Int} {v3 : Int} {v4 : Int} {v5 : Int} {Φ : xRes → xS → Prop} (hD : okD D) (rv0 : gdV D v0) (rv1 : gdV D v1) (rv2 : inR v2) (rv3 : inR v3) (rv4 : gdV D v4) (rv5 : inR v5) {p : (Int × DD) ⊕ (DD)} (h : fX6_mean_s65 v0 v1 v2 v3 v4 v5 D = some p) (k1 : ∀ (v5' : Int) (D' : DD), p = .inl (v5', D') → okD D' → DLe D D' → inR v5' → XD mX6_mean 65 [some (rV (v0)), some (rV (v1)), some (.int (iN (v2))), some (.int (iN (v3))), some (rV (v4)), some (.int (iN (v5'))), none, none, none] [] ln D' z Φ) (k2 : ∀ (D' : DD), p = .inr D' → okD D' → DLe D D' → XD mX6_mean 93 [some (rV (v0)), some (rV (v1)), some (.int (iN (v2))), some (.int (iN (v3))), some (rV (v4)), none, none, none, none] [] ln D' z Φ) : XD mX6_mean 65 [some (rV (v0)), some (rV (v1)), some (.int (iN (v2))), some (.int (iN (v3))), some (rV (v4)), some (.int (iN (v5))), none, none, none] [] ln D z Φ := by
  unfold fX6_mean_s65 at h
  refine X_iload (pc' := 67) dX6_mean_65 rfl rfl ?_
  refine E_aload_n (pc' := 68) dX6_mean_67 rfl rfl ?_
  obtain ⟨g1, h⟩ := gs h
  refine E_getI (pc' := 71) dX6_mean_68 rfl FX6_15_6 hD g1 rfl (j := 1) rfl ?_
  refine X_icmp_ge dX6_mean_71 (tgt := 93) rfl (pc' := 74) rfl ⟨rv5.1, rv5.2, (in_slot (k := 1) hD g1 rfl (by decide)).1, (in_slot (k := 1) hD g1 rfl (by decide)).2⟩ (fun c2 => ?_) (fun c2 => ?_)
  · have h := if_f (Int.not_lt.mpr c2) h
    cases h
    exact X_sub (sub_s (sub_s (sub_s (sub_s (sub_s (sub_n (sub_n (sub_n (sub_n sub_0))))))))) (k2 _ rfl hD (DLe_refl _))
  have h := if_t c2 h
  refine E_aload (pc' := 76) dX6_mean_74 rfl rfl ?_
  refine E_aload_n (pc' := 77) dX6_mean_76 rfl rfl ?_
  obtain ⟨g3, h⟩ := gs h
  refine E_getI (pc' := 80) dX6_mean_77 rfl FX6_147_7 hD g3 rfl (j := 1) rfl ?_
  obtain ⟨r4, q4, h⟩ := bs h
  refine E_callS [.int (iN ((dW D (v1) 1)))] (pc' := 83) dX6_mean_80 rfl (xSn SX6_143) (by decide) rfl (c1_i c1_n) (cs rfl) (c1_r c1_n) (cs rfl) rfl hD (CJ6_valueOf_2dffe hD (in_slot (k := 1) hD g3 rfl (by decide)) q4) (fun a4 b4 f4 => ?_)
  obtain ⟨⟨r5, D5⟩, q5, h⟩ := bs h
  obtain ⟨g6, h⟩ := gs h
  refine E_callV [rV (r4)] (pc' := 86) dX6_mean_83 rfl (xVc VX6_65) (by decide) ⟨dO_pos g6, dO_is hD g6 rfl⟩ rfl (c1_r c1_n) (cs rfl) c1_n (cs rfl) rfl hD (CJx4a65c_add_9ea2d hD rv4 f4 q5) (fun a5 b5 f5 => ?_)
  refine X_pop (pc' := 87) dX6_mean_86 rfl rfl ?_
  refine X_iinc (pc' := 90) dX6_mean_87 rfl rfl (Or.inr (xC1_R _)) (L' := [some (rV (v0)), some (rV (v1)), some (.int (iN (v2))), some (.int (iN (v3))), some (rV (v4)), some (.int (iN (v5 + 1))), none, none, none]) rfl ?_
  refine X_goto dX6_mean_90 (tgt := 65) rfl ?_
  obtain ⟨g7, h⟩ := gs h
  cases h
  exact X_sub (sub_s (sub_s (sub_s (sub_s (sub_s (sub_s (sub_n (sub_n (sub_n sub_0))))))))) (k1 _ _ rfl a5 b5 g7)
theorem LX6_mean_65 {ln : Nat} {z : ZZ} {v0 : Int} {v1 : Int} {v2 : Int} {v3 : Int} {v4 : Int} {Φ : xRes → xS → Prop} {r : DD} : ∀ (n : Nat) (v5 : Int) (D : DD), okD D → gdV D v0 → gdV D v1 → inR v2 → inR v3 → gdV D v4 → inR v5 → zlp (fun q => fX6_mean_s65 v0 v1 v2 v3 v4 q.1 q.2) n (v5, D) = some r → (∀ (D' : DD), r = D' → okD D' → DLe D D' → XD mX6_mean 93 [some (rV (v0)), some (rV (v1)), some (.int (iN (v2))), some (.int (iN (v3))), some (rV (v4)), none, none, none, none] [] ln D' z Φ) → XD mX6_mean 65 [some (rV (v0)), some (rV (v1)), some (.int (iN (v2))), some (.int (iN (v3))), some (rV (v4)), some (.int (iN (v5))), none, none, none] [] ln D z Φ := by
  intro n
  induction n with
  | zero => intro v5 D hD rv0 rv1 rv2 rv3 rv4 rv5 h k2; cases h
  | succ n ih =>
    intro v5 D hD rv0 rv1 rv2 rv3 rv4 rv5 h k2
    rcases zlp_s h with ⟨⟨v5', D'⟩, e, h'⟩ | e
    · exact SX6_mean_65 hD rv0 rv1 rv2 rv3 rv4 rv5 e (fun v5₁ D₁ hh a b f0 => by cases hh; exact ih _ _ a (gdV_le b rv0) (gdV_le b rv1) rv2 rv3 (gdV_le b rv4) f0 h' (fun D9 hh a' b' => k2 D9 hh a' (DLe_trans b b'))) (fun D9 hh => by cases hh)
    · exact SX6_mean_65 hD rv0 rv1 rv2 rv3 rv4 rv5 e (fun v5₁ D₁ hh => by cases hh) (fun D9 hh a b => by cases hh; exact k2 _ rfl a b )
def fX6_mean_s96 (v0 : Int) (v1 : Int) (v2 : Int) (v3 : Int) (v4 : Int) (v5 : Int) (D : DD) : Option ((Int × DD) ⊕ (DD)) := (if (v5) < (v3) then (Option.bind (fJ6_valueOf_2dffe (v2) D) fun r2 => (Option.bind (fJx4a65c_add_9ea2d (v4) (r2) D) fun q3 => match q3 with | (r3, D3) => (if dO D (v4) 9 then (if inR ((v5 + 1)) then some (.inl ((v5 + 1), D3)) else none) else none))) else some (.inr D))
set_option maxRecDepth 100000 in
theorem SX6_mean_96 {ln : Nat} {D : DD} {z : ZZ} {v0 : Int} {v1 : Int} {v2 : Int} {v3 : Int} {v4 : Int} {v5 : Int} {Φ : xRes → xS → Prop} (hD : okD D) (rv0 : gdV D v0) (rv1 : gdV D v1) (rv2 : inR v2) (rv3 : inR v3) (rv4 : gdV D v4) (rv5 : inR v5) {p : (Int × DD) ⊕ (DD)} (h : fX6_mean_s96 v0 v1 v2 v3 v4 v5 D = some p) (k1 : ∀ (v5' : Int) (D' : DD), p = .inl (v5', D') → okD D' → DLe D D' → inR v5' → XD mX6_mean 96 [some (rV (v0)), some (rV (v1)), some (.int (iN (v2))), some (.int (iN (v3))), some (rV (v4)), some (.int (iN (v5'))), none, none, none] [] ln D' z Φ) (k2 : ∀ (D' : DD), p = .inr D' → okD D' → DLe D D' → XD mX6_mean 118 [some (rV (v0)), some (rV (v1)), none, none, some (rV (v4)), none, none, none, none] [] ln D' z Φ) : XD mX6_mean 96 [some (rV (v0)), some (rV (v1)), some (.int (iN (v2))), some (.int (iN (v3))), some (rV (v4)), some (.int (iN (v5))), none, none, none] [] ln D z Φ := by
  unfold fX6_mean_s96 at h
  refine X_iload (pc' := 98) dX6_mean_96 rfl rfl ?_
  refine X_iload_n (pc' := 99) dX6_mean_98 rfl rfl ?_
  refine X_icmp_ge dX6_mean_99 (tgt := 118) rfl (pc' := 102) rfl ⟨rv5.1, rv5.2, rv3.1, rv3.2⟩ (fun c1 => ?_) (fun c1 => ?_)
  · have h := if_f (Int.not_lt.mpr c1) h
    cases h
    exact X_sub (sub_s (sub_s (sub_n (sub_n (sub_s (sub_n (sub_n (sub_n (sub_n sub_0))))))))) (k2 _ rfl hD (DLe_refl _))
  have h := if_t c1 h
  refine E_aload (pc' := 104) dX6_mean_102 rfl rfl ?_
  refine X_iload_n (pc' := 105) dX6_mean_104 rfl rfl ?_
  obtain ⟨r2, q2, h⟩ := bs h
  refine E_callS [.int (iN (v2))] (pc' := 108) dX6_mean_105 rfl (xSn SX6_143) (by decide) rfl (c1_i c1_n) (cs rfl) (c1_r c1_n) (cs rfl) rfl hD (CJ6_valueOf_2dffe hD rv2 q2) (fun a2 b2 f2 => ?_)
  obtain ⟨⟨r3, D3⟩, q3, h⟩ := bs h
  obtain ⟨g4, h⟩ := gs h
  refine E_callV [rV (r2)] (pc' := 111) dX6_mean_108 rfl (xVc VX6_65) (by decide) ⟨dO_pos g4, dO_is hD g4 rfl⟩ rfl (c1_r c1_n) (cs rfl) c1_n (cs rfl) rfl hD (CJx4a65c_add_9ea2d hD rv4 f2 q3) (fun a3 b3 f3 => ?_)
  refine X_pop (pc' := 112) dX6_mean_111 rfl rfl ?_
  refine X_iinc (pc' := 115) dX6_mean_112 rfl rfl (Or.inr (xC1_R _)) (L' := [some (rV (v0)), some (rV (v1)), some (.int (iN (v2))), some (.int (iN (v3))), some (rV (v4)), some (.int (iN (v5 + 1))), none, none, none]) rfl ?_
  refine X_goto dX6_mean_115 (tgt := 96) rfl ?_
  obtain ⟨g5, h⟩ := gs h
  cases h
  exact X_sub (sub_s (sub_s (sub_s (sub_s (sub_s (sub_s (sub_n (sub_n (sub_n sub_0))))))))) (k1 _ _ rfl a3 b3 g5)
theorem LX6_mean_96 {ln : Nat} {z : ZZ} {v0 : Int} {v1 : Int} {v2 : Int} {v3 : Int} {v4 : Int} {Φ : xRes → xS → Prop} {r : DD} : ∀ (n : Nat) (v5 : Int) (D : DD), okD D → gdV D v0 → gdV D v1 → inR v2 → inR v3 → gdV D v4 → inR v5 → zlp (fun q => fX6_mean_s96 v0 v1 v2 v3 v4 q.1 q.2) n (v5, D) = some r → (∀ (D' : DD), r = D' → okD D' → DLe D D' → XD mX6_mean 118 [some (rV (v0)), some (rV (v1)), none, none, some (rV (v4)), none, none, none, none] [] ln D' z Φ) → XD mX6_mean 96 [some (rV (v0)), some (rV (v1)), some (.int (iN (v2))), some (.int (iN (v3))), some (rV (v4)), some (.int (iN (v5))), none, none, none] [] ln D z Φ := by
  intro n
  induction n with
  | zero => intro v5 D hD rv0 rv1 rv2 rv3 rv4 rv5 h k2; cases h
  | succ n ih =>
    intro v5 D hD rv0 rv1 rv2 rv3 rv4 rv5 h k2
    rcases zlp_s h with ⟨⟨v5', D'⟩, e, h'⟩ | e
    · exact SX6_mean_96 hD rv0 rv1 rv2 rv3 rv4 rv5 e (fun v5₁ D₁ hh a b f0 => by cases hh; exact ih _ _ a (gdV_le b rv0) (gdV_le b rv1) rv2 rv3 (gdV_le b rv4) f0 h' (fun D9 hh a' b' => k2 D9 hh a' (DLe_trans b b'))) (fun D9 hh => by cases hh)
    · exact SX6_mean_96 hD rv0 rv1 rv2 rv3 rv4 rv5 e (fun v5₁ D₁ hh => by cases hh) (fun D9 hh a b => by cases hh; exact k2 _ rfl a b )
def fX6_mean_s151 (v0 : Int) (v4 : Int) (v5 : Int) (v6 : Int) (D : DD) : Option ((Int × DD) ⊕ (DD)) := (if isArr D (v5) then (if (v6) < ((alen D (v5))) then (Option.bind (fJx4a65c_get_915e3 (v4) (v6) D) fun r3 => (if dO D (v4) 9 then (if isBox (r3) then (Option.bind (fJ6_intValue_8abf5 (r3) D) fun r6 => (if dO D (v5) 20 then (if (0 : Int) ≤ (v6) ∧ (v6 : Int) < ((dH D (v5)).2 : Int) then (zl (dup D (v5) (v6) (r6)) fun D9 => (if inR ((v6 + 1)) then some (.inl ((v6 + 1), D9)) else none)) else none) else none)) else none) else none)) else some (.inr D)) else none)
set_option maxRecDepth 100000 in
theorem SX6_mean_151 {ln : Nat} {D : DD} {z : ZZ} {v0 : Int} {v4 : Int} {v5 : Int} {v6 : Int} {Φ : xRes → xS → Prop} (hD : okD D) (rv0 : gdV D v0) (rv4 : gdV D v4) (rv5 : gdV D v5) (rv6 : inR v6) {p : (Int × DD) ⊕ (DD)} (h : fX6_mean_s151 v0 v4 v5 v6 D = some p) (k1 : ∀ (v6' : Int) (D' : DD), p = .inl (v6', D') → okD D' → DLe D D' → inR v6' → XD mX6_mean 151 [some (rV (v0)), none, none, none, some (rV (v4)), some (rV (v5)), some (.int (iN (v6'))), none, none] [] ln D' z Φ) (k2 : ∀ (D' : DD), p = .inr D' → okD D' → DLe D D' → XD mX6_mean 183 [some (rV (v0)), none, none, none, none, some (rV (v5)), none, none, none] [] ln D' z Φ) : XD mX6_mean 151 [some (rV (v0)), none, none, none, some (rV (v4)), some (rV (v5)), some (.int (iN (v6))), none, none] [] ln D z Φ := by
  unfold fX6_mean_s151 at h
  refine X_iload (pc' := 153) dX6_mean_151 rfl rfl ?_
  refine E_aload (pc' := 155) dX6_mean_153 rfl rfl ?_
  obtain ⟨g1, h⟩ := gs h
  refine E_alenA (pc' := 156) dX6_mean_155 rfl hD g1 ?_
  refine X_icmp_ge dX6_mean_156 (tgt := 183) rfl (pc' := 159) rfl ⟨rv6.1, rv6.2, (in_alen hD g1).1, (in_alen hD g1).2⟩ (fun c2 => ?_) (fun c2 => ?_)
  · have h := if_f (Int.not_lt.mpr c2) h
    cases h
    exact X_sub (sub_s (sub_n (sub_n (sub_n (sub_n (sub_s (sub_n (sub_n (sub_n sub_0))))))))) (k2 _ rfl hD (DLe_refl _))
  have h := if_t c2 h
  refine E_aload (pc' := 161) dX6_mean_159 rfl rfl ?_
  refine X_iload (pc' := 163) dX6_mean_161 rfl rfl ?_
  refine E_aload (pc' := 165) dX6_mean_163 rfl rfl ?_
  refine X_iload (pc' := 167) dX6_mean_165 rfl rfl ?_
  obtain ⟨r3, q3, h⟩ := bs h
  obtain ⟨g4, h⟩ := gs h
  refine E_callV [.int (iN (v6))] (pc' := 170) dX6_mean_167 rfl (xVc VX6_154) (by decide) ⟨dO_pos g4, dO_is hD g4 rfl⟩ rfl (c1_i c1_n) (cs rfl) (c1_i (c1_r c1_n)) (cs rfl) rfl hD (CJx4a65c_get_915e3 hD rv4 rv6 q3) (fun a3 b3 f3 => ?_)
  obtain ⟨g5, h⟩ := gs h
  refine E_cast (pc' := 173) dX6_mean_170 rfl tq1583 (box_pos g5) (box_is g5) ?_
  obtain ⟨r6, q6, h⟩ := bs h
  refine E_callV [] (pc' := 176) dX6_mean_173 rfl (xVc VX6_139) (by decide) ⟨box_pos g5, box_is g5⟩ rfl c1_n (cs rfl) (c1_i (c1_r c1_n)) (cs rfl) rfl hD (CJ6_intValue_8abf5 hD f3 q6) (fun a6 b6 f6 => ?_)
  obtain ⟨g7, h⟩ := gs h
  obtain ⟨g8, h⟩ := gs h
  refine E_iast (pc' := 177) dX6_mean_176 rfl hD g7 g8 ?_
  obtain ⟨D9, e9, f9, h⟩ := zl_some (P := fun q => okD q ∧ DLe D q) h ⟨okD_dupJ hD g8.1 (okS_at20 g7 f6), DLe_dup _ _ _ _⟩
  rw [e9]
  refine X_iinc (pc' := 180) dX6_mean_177 rfl rfl (Or.inr (xC1_R _)) (L' := [some (rV (v0)), none, none, none, some (rV (v4)), some (rV (v5)), some (.int (iN (v6 + 1))), none, none]) rfl ?_
  refine X_goto dX6_mean_180 (tgt := 151) rfl ?_
  obtain ⟨g10, h⟩ := gs h
  cases h
  exact X_sub (sub_s (sub_n (sub_n (sub_n (sub_s (sub_s (sub_s (sub_n (sub_n sub_0))))))))) (k1 _ _ rfl f9.1 f9.2 g10)
theorem LX6_mean_151 {ln : Nat} {z : ZZ} {v0 : Int} {v4 : Int} {v5 : Int} {Φ : xRes → xS → Prop} {r : DD} : ∀ (n : Nat) (v6 : Int) (D : DD), okD D → gdV D v0 → gdV D v4 → gdV D v5 → inR v6 → zlp (fun q => fX6_mean_s151 v0 v4 v5 q.1 q.2) n (v6, D) = some r → (∀ (D' : DD), r = D' → okD D' → DLe D D' → XD mX6_mean 183 [some (rV (v0)), none, none, none, none, some (rV (v5)), none, none, none] [] ln D' z Φ) → XD mX6_mean 151 [some (rV (v0)), none, none, none, some (rV (v4)), some (rV (v5)), some (.int (iN (v6))), none, none] [] ln D z Φ := by
  intro n
  induction n with
  | zero => intro v6 D hD rv0 rv4 rv5 rv6 h k2; cases h
  | succ n ih =>
    intro v6 D hD rv0 rv4 rv5 rv6 h k2
    rcases zlp_s h with ⟨⟨v6', D'⟩, e, h'⟩ | e
    · exact SX6_mean_151 hD rv0 rv4 rv5 rv6 e (fun v6₁ D₁ hh a b f0 => by cases hh; exact ih _ _ a (gdV_le b rv0) (gdV_le b rv4) (gdV_le b rv5) f0 h' (fun D9 hh a' b' => k2 D9 hh a' (DLe_trans b b'))) (fun D9 hh => by cases hh)
    · exact SX6_mean_151 hD rv0 rv4 rv5 rv6 e (fun v6₁ D₁ hh => by cases hh) (fun D9 hh a b => by cases hh; exact k2 _ rfl a b )
def fX6_mean_s210 (v5 : Int) (v6 : Int) (v7 : Int) (v8 : Int) (D : DD) : Option ((Int × DD) ⊕ (DD)) := (if isArr D (v5) then (if inR (((alen D (v5)) - v6)) then (if (v8) < (((alen D (v5)) - v6)) then (if dO D (v7) 20 then (if (0 : Int) ≤ (0) ∧ (0 : Int) < ((dH D (v7)).2 : Int) then (if dO D (v5) 20 then (if (0 : Int) ≤ (v8) ∧ (v8 : Int) < ((dH D (v5)).2 : Int) then (if inR (((dW D (v7) (0)) + (dW D (v5) (v8)))) then (zl (dup D (v7) (0) (((dW D (v7) (0)) + (dW D (v5) (v8))))) fun D9 => (if (0 : Int) ≤ (1) ∧ (1 : Int) < ((dH D9 (v7)).2 : Int) then (if inR (((dW D9 (v7) (1)) + 1)) then (zl (dup D9 (v7) (1) (((dW D9 (v7) (1)) + 1))) fun D12 => (if inR ((v8 + 1)) then some (.inl ((v8 + 1), D12)) else none)) else none) else none)) else none) else none) else none) else none) else none) else some (.inr D)) else none) else none)
set_option maxRecDepth 100000 in
theorem SX6_mean_210 {ln : Nat} {D : DD} {z : ZZ} {v5 : Int} {v6 : Int} {v7 : Int} {v8 : Int} {Φ : xRes → xS → Prop} (hD : okD D) (rv5 : gdV D v5) (rv6 : inR v6) (rv7 : gdV D v7) (rv8 : inR v8) {p : (Int × DD) ⊕ (DD)} (h : fX6_mean_s210 v5 v6 v7 v8 D = some p) (k1 : ∀ (v8' : Int) (D' : DD), p = .inl (v8', D') → okD D' → DLe D D' → inR v8' → XD mX6_mean 210 [none, none, none, none, none, some (rV (v5)), some (.int (iN (v6))), some (rV (v7)), some (.int (iN (v8')))] [] ln D' z Φ) (k2 : ∀ (D' : DD), p = .inr D' → okD D' → DLe D D' → XD mX6_mean 247 [none, none, none, none, none, none, none, some (rV (v7)), none] [] ln D' z Φ) : XD mX6_mean 210 [none, none, none, none, none, some (rV (v5)), some (.int (iN (v6))), some (rV (v7)), some (.int (iN (v8)))] [] ln D z Φ := by
  unfold fX6_mean_s210 at h
  refine X_iload (pc' := 212) dX6_mean_210 rfl rfl ?_
  refine E_aload (pc' := 214) dX6_mean_212 rfl rfl ?_
  obtain ⟨g1, h⟩ := gs h
  refine E_alenA (pc' := 215) dX6_mean_214 rfl hD g1 ?_
  refine X_iload (pc' := 217) dX6_mean_215 rfl rfl ?_
  refine X_isub (pc' := 218) dX6_mean_217 rfl ?_
  obtain ⟨g3, h⟩ := gs h
  refine X_icmp_ge dX6_mean_218 (tgt := 247) rfl (pc' := 221) rfl ⟨rv8.1, rv8.2, g3.1, g3.2⟩ (fun c2 => ?_) (fun c2 => ?_)
  · have h := if_f (Int.not_lt.mpr c2) h
    cases h
    exact X_sub (sub_n (sub_n (sub_n (sub_n (sub_n (sub_n (sub_n (sub_s (sub_n sub_0))))))))) (k2 _ rfl hD (DLe_refl _))
  have h := if_t c2 h
  refine E_aload (pc' := 223) dX6_mean_221 rfl rfl ?_
  refine X_iconst (pc' := 224) dX6_mean_223 rfl ?_
  refine X_dup2 (pc' := 225) dX6_mean_224 rfl rfl (rV_cat _) ?_
  obtain ⟨g4, h⟩ := gs h
  obtain ⟨g5, h⟩ := gs h
  refine E_iald (pc' := 226) dX6_mean_225 rfl hD g4 g5 ?_
  refine E_aload (pc' := 228) dX6_mean_226 rfl rfl ?_
  refine X_iload (pc' := 230) dX6_mean_228 rfl rfl ?_
  obtain ⟨g6, h⟩ := gs h
  obtain ⟨g7, h⟩ := gs h
  refine E_iald (pc' := 231) dX6_mean_230 rfl hD g6 g7 ?_
  refine X_iadd (pc' := 232) dX6_mean_231 rfl ?_
  obtain ⟨g8, h⟩ := gs h
  refine E_iast (pc' := 233) dX6_mean_232 rfl hD g4 g5 ?_
  obtain ⟨D9, e9, f9, h⟩ := zl_some (P := fun q => okD q ∧ DLe D q) h ⟨okD_dupJ hD g5.1 (okS_at20 g4 g8), DLe_dup _ _ _ _⟩
  rw [e9]
  refine E_aload (pc' := 235) dX6_mean_233 rfl rfl ?_
  refine X_iconst (pc' := 236) dX6_mean_235 rfl ?_
  refine X_dup2 (pc' := 237) dX6_mean_236 rfl rfl (rV_cat _) ?_
  obtain ⟨g10, h⟩ := gs h
  refine E_iald (pc' := 238) dX6_mean_237 rfl f9.1 (dO_le f9.2 g4) g10 ?_
  refine X_iconst (pc' := 239) dX6_mean_238 rfl ?_
  refine X_iadd (pc' := 240) dX6_mean_239 rfl ?_
  obtain ⟨g11, h⟩ := gs h
  refine E_iast (pc' := 241) dX6_mean_240 rfl f9.1 (dO_le f9.2 g4) g10 ?_
  obtain ⟨D12, e12, f12, h⟩ := zl_some (P := fun q => okD q ∧ DLe D9 q) h ⟨okD_dupJ f9.1 g10.1 (okS_at20 (dO_le f9.2 g4) g11), DLe_dup _ _ _ _⟩
  rw [e12]
  refine X_iinc (pc' := 244) dX6_mean_241 rfl rfl (Or.inr (xC1_R _)) (L' := [none, none, none, none, none, some (rV (v5)), some (.int (iN (v6))), some (rV (v7)), some (.int (iN (v8 + 1)))]) rfl ?_
  refine X_goto dX6_mean_244 (tgt := 210) rfl ?_
  obtain ⟨g13, h⟩ := gs h
  cases h
  exact X_sub (sub_n (sub_n (sub_n (sub_n (sub_n (sub_s (sub_s (sub_s (sub_s sub_0))))))))) (k1 _ _ rfl f12.1 (DLe_trans f9.2 f12.2) g13)
theorem LX6_mean_210 {ln : Nat} {z : ZZ} {v5 : Int} {v6 : Int} {v7 : Int} {Φ : xRes → xS → Prop} {r : DD} : ∀ (n : Nat) (v8 : Int) (D : DD), okD D → gdV D v5 → inR v6 → gdV D v7 → inR v8 → zlp (fun q => fX6_mean_s210 v5 v6 v7 q.1 q.2) n (v8, D) = some r → (∀ (D' : DD), r = D' → okD D' → DLe D D' → XD mX6_mean 247 [none, none, none, none, none, none, none, some (rV (v7)), none] [] ln D' z Φ) → XD mX6_mean 210 [none, none, none, none, none, some (rV (v5)), some (.int (iN (v6))), some (rV (v7)), some (.int (iN (v8)))] [] ln D z Φ := by
  intro n
  induction n with
  | zero => intro v8 D hD rv5 rv6 rv7 rv8 h k2; cases h
  | succ n ih =>
    intro v8 D hD rv5 rv6 rv7 rv8 h k2
    rcases zlp_s h with ⟨⟨v8', D'⟩, e, h'⟩ | e
    · exact SX6_mean_210 hD rv5 rv6 rv7 rv8 e (fun v8₁ D₁ hh a b f0 => by cases hh; exact ih _ _ a (gdV_le b rv5) rv6 (gdV_le b rv7) f0 h' (fun D9 hh a' b' => k2 D9 hh a' (DLe_trans b b'))) (fun D9 hh => by cases hh)
    · exact SX6_mean_210 hD rv5 rv6 rv7 rv8 e (fun v8₁ D₁ hh => by cases hh) (fun D9 hh a b => by cases hh; exact k2 _ rfl a b )
def fX6_mean_b139 (v0 : Int) (v4 : Int) (D : DD) : Option (Int × DD) := (Option.bind (fJx4a65c_size_8abf5 (v4) D) fun r1 => (if dO D (v4) 9 then (if ((0 : Int) ≤ (r1) ∧ (r1 : Int) ≤ 1000000) ∧ dT D < 600000 ∧ dS D + (r1) ≤ 7200000 then (zl (dnew D 20 (r1 : Int).toNat) fun D4 => (Option.bind (zlp (fun q => fX6_mean_s151 (v0) (v4) ((dT D)) q.1 q.2) FU (0, D4)) fun D5 => (Option.bind (fJ7_sort_2022b ((dT D)) D5) fun D6 => (if isArr D6 ((dT D)) then (if dO D6 (v0) 7 then (if inR (((alen D6 ((dT D))) * (dW D6 (v0) 0))) then (if (0 : Int) ≤ (((alen D6 ((dT D))) * (dW D6 (v0) 0))) ∧ (0 : Int) < (100) then (if ((0 : Int) ≤ (2) ∧ (2 : Int) ≤ 1000000) ∧ dT D6 < 600000 ∧ dS D6 + (2) ≤ 7200000 then (zl (dnew D6 20 (2 : Int).toNat) fun D12 => (Option.bind (zlp (fun q => fX6_mean_s210 ((dT D)) ((((alen D6 ((dT D))) * (dW D6 (v0) 0)) / 100)) ((dT D6)) q.1 q.2) FU ((((alen D6 ((dT D))) * (dW D6 (v0) 0)) / 100), D12)) fun D13 => some ((dT D6), D13))) else none) else none) else none) else none) else none)))) else none) else none))
set_option maxRecDepth 100000 in
theorem BX6_mean_139 {ln : Nat} {D : DD} {z : ZZ} {v0 : Int} {v4 : Int} {Φ : xRes → xS → Prop} (hD : okD D) (rv0 : gdV D v0) (rv4 : gdV D v4) {p : Int × DD} (h : fX6_mean_b139 v0 v4 D = some p) (k : K_wR Φ ln D z p) : XD mX6_mean 139 [some (rV (v0)), none, none, none, some (rV (v4)), none, none, none, none] [] ln D z Φ := by
  unfold fX6_mean_b139 at h
  refine E_aload (pc' := 141) dX6_mean_139 rfl rfl ?_
  obtain ⟨r1, q1, h⟩ := bs h
  obtain ⟨g2, h⟩ := gs h
  refine E_callV [] (pc' := 144) dX6_mean_141 rfl (xVc VX6_151) (by decide) ⟨dO_pos g2, dO_is hD g2 rfl⟩ rfl c1_n (cs rfl) c1_n (cs rfl) rfl hD (CJx4a65c_size_8abf5 hD rv4 q1) (fun a1 b1 f1 => ?_)
  obtain ⟨g3, h⟩ := gs h
  refine E_newI (pc' := 146) dX6_mean_144 rfl tq75 hD g3 ?_
  obtain ⟨D4, e4, f4, h⟩ := zl_some (P := fun q => okD q ∧ DLe D q ∧ (dO q (dT D) 20 ∧ ((dH q (dT D)).2 : Int) = (r1))) h ⟨okD_dnew hD (by decide) (by omega) g3.2.1 (by omega), DLe_dnew _ (by decide), dO_dnew hD, dH_dnew g3.1.1⟩
  rw [e4]
  refine E_astore (pc' := 148) dX6_mean_146 rfl (cl rfl) (Or.inr (xC1_R _)) (L' := [some (rV (v0)), none, none, none, some (rV (v4)), some (rV ((dT D))), none, none, none]) rfl ?_
  refine X_iconst (pc' := 149) dX6_mean_148 rfl ?_
  refine X_istore (pc' := 151) dX6_mean_149 rfl (cl rfl) (Or.inr (xC1_R _)) (L' := [some (rV (v0)), none, none, none, some (rV (v4)), some (rV ((dT D))), some (.int (iN (0))), none, none]) rfl ?_
  obtain ⟨D5, q5, h⟩ := bs h
  refine X_sub (sub_s (sub_n (sub_n (sub_n (sub_s (sub_s (sub_s (sub_n (sub_n sub_0))))))))) (LX6_mean_151 FU _ _ f4.1 (gdV_le f4.2.1 rv0) (gdV_le f4.2.1 rv4) (dO_gd f4.2.2.1 (by decide)) (inR_c (n := 0) rfl) q5 (fun D5₁ hh hD5 le5 => ?_))
  cases hh
  refine E_aload (pc' := 185) dX6_mean_183 rfl rfl ?_
  obtain ⟨D6, q6, h⟩ := bs h
  refine E_callS [rV ((dT D))] (pc' := 188) dX6_mean_185 rfl (xSn SX6_158) (by decide) rfl (c1_r c1_n) (cs rfl) c1_n (cs rfl) rfl hD5 (CJ7_sort_2022b hD5 (gdV_le le5 (dO_gd f4.2.2.1 (by decide))) q6) (fun a6 b6 f6 => ?_)
  refine E_aload (pc' := 190) dX6_mean_188 rfl rfl ?_
  obtain ⟨g7, h⟩ := gs h
  refine E_alenA (pc' := 191) dX6_mean_190 rfl a6 g7 ?_
  refine E_aload_n (pc' := 192) dX6_mean_191 rfl rfl ?_
  obtain ⟨g8, h⟩ := gs h
  refine E_getI (pc' := 195) dX6_mean_192 rfl FX6_9_6 a6 g8 rfl (j := 0) rfl ?_
  refine X_imul (pc' := 196) dX6_mean_195 rfl ?_
  refine X_bipush (pc' := 198) dX6_mean_196 rfl (by decide) ?_
  obtain ⟨g9, h⟩ := gs h
  obtain ⟨g10, h⟩ := gs h
  refine X_idiv (pc' := 199) dX6_mean_198 rfl ⟨g10.1, g9.2, g10.2, (inR_c (n := 100) rfl).2⟩ ?_
  refine X_istore (pc' := 201) dX6_mean_199 rfl (cl rfl) (Or.inr (xC1_R _)) (L' := [some (rV (v0)), none, none, none, none, some (rV ((dT D))), some (.int (iN ((((alen D6 ((dT D))) * (dW D6 (v0) 0)) / 100)))), none, none]) rfl ?_
  refine X_iconst (pc' := 202) dX6_mean_201 rfl ?_
  obtain ⟨g11, h⟩ := gs h
  refine E_newI (pc' := 204) dX6_mean_202 rfl tq75 a6 g11 ?_
  obtain ⟨D12, e12, f12, h⟩ := zl_some (P := fun q => okD q ∧ DLe D6 q ∧ (dO q (dT D6) 20 ∧ ((dH q (dT D6)).2 : Int) = (2))) h ⟨okD_dnew a6 (by decide) (by omega) g11.2.1 (by omega), DLe_dnew _ (by decide), dO_dnew a6, dH_dnew g11.1.1⟩
  rw [e12]
  refine E_astore (pc' := 206) dX6_mean_204 rfl (cl rfl) (Or.inr rfl) (L' := [some (rV (v0)), none, none, none, none, some (rV ((dT D))), some (.int (iN ((((alen D6 ((dT D))) * (dW D6 (v0) 0)) / 100)))), some (rV ((dT D6))), none]) rfl ?_
  refine X_iload (pc' := 208) dX6_mean_206 rfl rfl ?_
  refine X_istore (pc' := 210) dX6_mean_208 rfl (cl rfl) (Or.inr (xC1_R _)) (L' := [some (rV (v0)), none, none, none, none, some (rV ((dT D))), some (.int (iN ((((alen D6 ((dT D))) * (dW D6 (v0) 0)) / 100)))), some (rV ((dT D6))), some (.int (iN ((((alen D6 ((dT D))) * (dW D6 (v0) 0)) / 100))))]) rfl ?_
  obtain ⟨D13, q13, h⟩ := bs h
  refine X_sub (sub_n (sub_n (sub_n (sub_n (sub_n (sub_s (sub_s (sub_s (sub_s sub_0))))))))) (LX6_mean_210 FU _ _ f12.1 (gdV_le f12.2.1 (gdV_le b6 (gdV_le le5 (dO_gd f4.2.2.1 (by decide))))) (inR_div g10 g9) (dO_gd f12.2.2.1 (by decide)) (inR_div g10 g9) q13 (fun D13₁ hh hD13 le13 => ?_))
  cases hh
  refine E_aload (pc' := 249) dX6_mean_247 rfl rfl ?_
  cases h
  exact E_aret dX6_mean_249 rfl (Or.inr ⟨_, rfl⟩) (k hD13 (DLe_trans (DLe_trans (DLe_trans (DLe_trans f4.2.1 le5) b6) f12.2.1) le13) (gdV_le le13 (dO_gd f12.2.2.1 (by decide))))
def fX6_mean (v0 : Int) (v1 : Int) (v2 : Int) (v3 : Int) (D : DD) : Option (Int × DD) := (if dT D < 600000 ∧ dS D + 3 ≤ 7200000 then (zl (dnew D 9 3) fun D2 => (Option.bind (fJx4a65c_init_da8c8 ((dT D)) D2) fun D3 => (if dO D3 (v1) 8 then (Option.bind (fX18_values ((dW D3 (v1) 6)) D3) fun q5 => match q5 with | (r5, D5) => (if dO D3 ((dW D3 (v1) 6)) 11 then (Option.bind (fX17_iterator (r5) D5) fun q7 => match q7 with | (r7, D7) => (if dO D5 (r5) 16 then (Option.bind (zlp (fun q => fX6_mean_s23 (v0) (v1) (v2) (v3) ((dT D)) (r7) q) FU D7) fun D9 => (Option.bind (zlp (fun q => fX6_mean_s65 (v0) (v1) (v2) (v3) ((dT D)) q.1 q.2) FU (0, D9)) fun D10 => (Option.bind (zlp (fun q => fX6_mean_s96 (v0) (v1) (v2) (v3) ((dT D)) q.1 q.2) FU (0, D10)) fun D11 => (Option.bind (fJx4a65c_isEmpty_aae02 ((dT D)) D11) fun r12 => (if (r12) = (0) then fX6_mean_b139 (v0) ((dT D)) D11 else (Option.bind (fJ6_valueOf_2dffe ((dW D11 (v1) 1)) D11) fun r14 => (Option.bind (fJx4a65c_add_9ea2d ((dT D)) (r14) D11) fun q15 => match q15 with | (r15, D15) => fX6_mean_b139 (v0) ((dT D)) D15))))))) else none)) else none)) else none))) else none)
set_option maxRecDepth 100000 in
theorem CX6_mean {ln : Nat} {D : DD} {z : ZZ} {v0 : Int} {v1 : Int} {v2 : Int} {v3 : Int} (hD : okD D) (rv0 : gdV D v0) (rv1 : gdV D v1) (rv2 : inR v2) (rv3 : inR v3) {p : Int × DD} (h : fX6_mean v0 v1 v2 v3 D = some p) : XD mX6_mean 0 (xEnt [rV (v0), rV (v1), .int (iN (v2)), .int (iN (v3))] (xL mX6_mean)) [] ln D z (Qd (FdD D p.2 (gdV p.2 p.1)) (.inl (some (rV p.1))) (sD ln p.2 z)) := by
  have k : K_wR (Qd (FdD D p.2 (gdV p.2 p.1)) (.inl (some (rV p.1))) (sD ln p.2 z)) ln D z p := fun a b c => ⟨⟨a, b, c⟩, rfl, rfl⟩
  unfold fX6_mean at h
  refine E_ent (c1_r (c1_r (c1_i (c1_i c1_n)))) (M := [some (rV (v0)), some (rV (v1)), some (.int (iN (v2))), some (.int (iN (v3))), none, none, none, none, none]) rfl ?_
  obtain ⟨g1, h⟩ := gs h
  refine E_new (c := 8) (n := 3) (pc' := 3) dX6_mean_0 rfl rfl rfl (by decide) tq416 tq417 tq23 hD g1 ?_
  obtain ⟨D2, e2, f2, h⟩ := zl_some (P := fun q => okD q ∧ DLe D q ∧ dO q (dT D) 9) h ⟨okD_dnew hD (by decide) (by decide) g1.1 g1.2, DLe_dnew _ (by decide), dO_dnew hD⟩
  rw [e2]
  refine X_dup (pc' := 4) dX6_mean_3 rfl (rV_cat _) ?_
  obtain ⟨D3, q3, h⟩ := bs h
  refine E_callI (μ := mX6_mean) (μ' := mJx4a65c_init_da8c8) [] (pc' := 7) dX6_mean_4 rfl tq418 IX6_23 (by decide) ⟨f2.2.2.1, f2.2.2.2.1⟩ rfl c1_n (cs rfl) (c1_r c1_n) (cs rfl) rfl f2.1 (CJx4a65c_init_da8c8 f2.1 (dO_gd f2.2.2 (by decide)) q3) (fun a3 b3 f3 => ?_)
  refine E_astore (pc' := 9) dX6_mean_7 rfl (cl rfl) (Or.inr rfl) (L' := [some (rV (v0)), some (rV (v1)), some (.int (iN (v2))), some (.int (iN (v3))), some (rV ((dT D))), none, none, none, none]) rfl ?_
  refine E_aload_n (pc' := 10) dX6_mean_9 rfl rfl ?_
  obtain ⟨g4, h⟩ := gs h
  refine E_getR (pc' := 13) dX6_mean_10 rfl FX6_124_7 a3 g4 rfl (j := 6) rfl ?_
  obtain ⟨⟨r5, D5⟩, q5, h⟩ := bs h
  obtain ⟨g6, h⟩ := gs h
  refine E_callV [] (pc' := 16) dX6_mean_13 rfl (xVc VX6_128) (by decide) ⟨dO_pos g6, dO_is a3 g6 rfl⟩ rfl c1_n (cs rfl) c1_n (cs rfl) rfl a3 (CX18_values a3 (gd_slot (k := 6) a3 g4 rfl (by decide)) q5) (fun a5 b5 f5 => ?_)
  obtain ⟨⟨r7, D7⟩, q7, h⟩ := bs h
  obtain ⟨g8, h⟩ := gs h
  refine E_callF [] (pc' := 21) dX6_mean_16 rfl F_X6_134_X17 (by decide) ⟨dO_pos g8, dO_is a5 g8 rfl⟩ rfl c1_n (cs rfl) c1_n (cs rfl) rfl a5 (CX17_iterator a5 f5 q7) (fun a7 b7 f7 => ?_)
  refine E_astore (pc' := 23) dX6_mean_21 rfl (cl rfl) (Or.inr (xC1_R _)) (L' := [some (rV (v0)), some (rV (v1)), some (.int (iN (v2))), some (.int (iN (v3))), some (rV ((dT D))), some (rV (r7)), none, none, none]) rfl ?_
  obtain ⟨D9, q9, h⟩ := bs h
  refine X_sub (sub_s (sub_s (sub_s (sub_s (sub_s (sub_s (sub_n (sub_n (sub_n sub_0))))))))) (LX6_mean_23 FU _ a7 (gdV_le b7 (gdV_le b5 (gdV_le b3 (gdV_le f2.2.1 rv0)))) (gdV_le b7 (gdV_le b5 (gdV_le b3 (gdV_le f2.2.1 rv1)))) rv2 rv3 (gdV_le b7 (gdV_le b5 (gdV_le b3 (dO_gd f2.2.2 (by decide))))) f7 q9 (fun D9₁ hh hD9 le9 => ?_))
  cases hh
  refine X_iconst (pc' := 63) dX6_mean_62 rfl ?_
  refine X_istore (pc' := 65) dX6_mean_63 rfl (cl rfl) (Or.inr (xC1_R _)) (L' := [some (rV (v0)), some (rV (v1)), some (.int (iN (v2))), some (.int (iN (v3))), some (rV ((dT D))), some (.int (iN (0))), none, none, none]) rfl ?_
  obtain ⟨D10, q10, h⟩ := bs h
  refine X_sub (sub_s (sub_s (sub_s (sub_s (sub_s (sub_s (sub_n (sub_n (sub_n sub_0))))))))) (LX6_mean_65 FU _ _ hD9 (gdV_le le9 (gdV_le b7 (gdV_le b5 (gdV_le b3 (gdV_le f2.2.1 rv0))))) (gdV_le le9 (gdV_le b7 (gdV_le b5 (gdV_le b3 (gdV_le f2.2.1 rv1))))) rv2 rv3 (gdV_le le9 (gdV_le b7 (gdV_le b5 (gdV_le b3 (dO_gd f2.2.2 (by decide)))))) (inR_c (n := 0) rfl) q10 (fun D10₁ hh hD10 le10 => ?_))
  cases hh
  refine X_iconst (pc' := 94) dX6_mean_93 rfl ?_
  refine X_istore (pc' := 96) dX6_mean_94 rfl (cl rfl) (Or.inr (xC1_R _)) (L' := [some (rV (v0)), some (rV (v1)), some (.int (iN (v2))), some (.int (iN (v3))), some (rV ((dT D))), some (.int (iN (0))), none, none, none]) rfl ?_
  obtain ⟨D11, q11, h⟩ := bs h
  refine X_sub (sub_s (sub_s (sub_s (sub_s (sub_s (sub_s (sub_n (sub_n (sub_n sub_0))))))))) (LX6_mean_96 FU _ _ hD10 (gdV_le le10 (gdV_le le9 (gdV_le b7 (gdV_le b5 (gdV_le b3 (gdV_le f2.2.1 rv0)))))) (gdV_le le10 (gdV_le le9 (gdV_le b7 (gdV_le b5 (gdV_le b3 (gdV_le f2.2.1 rv1)))))) rv2 rv3 (gdV_le le10 (gdV_le le9 (gdV_le b7 (gdV_le b5 (gdV_le b3 (dO_gd f2.2.2 (by decide))))))) (inR_c (n := 0) rfl) q11 (fun D11₁ hh hD11 le11 => ?_))
  cases hh
  refine E_aload (pc' := 120) dX6_mean_118 rfl rfl ?_
  obtain ⟨r12, q12, h⟩ := bs h
  refine E_callV [] (pc' := 123) dX6_mean_120 rfl (xVc VX6_148) (by decide) ⟨dO_pos (dO_le le11 (dO_le le10 (dO_le le9 (dO_le b7 (dO_le b5 (dO_le b3 f2.2.2)))))), dO_is hD11 (dO_le le11 (dO_le le10 (dO_le le9 (dO_le b7 (dO_le b5 (dO_le b3 f2.2.2)))))) rfl⟩ rfl c1_n (cs rfl) c1_n (cs rfl) rfl hD11 (CJx4a65c_isEmpty_aae02 hD11 (gdV_le le11 (gdV_le le10 (gdV_le le9 (gdV_le b7 (gdV_le b5 (gdV_le b3 (dO_gd f2.2.2 (by decide)))))))) q12) (fun a12 b12 f12 => ?_)
  refine X_if_eq dX6_mean_123 (tgt := 139) rfl (pc' := 126) rfl (inR_b f12) (fun c13 => ?_) (fun c13 => ?_)
  · have h := if_t c13 h
    exact X_sub (sub_s (sub_n (sub_n (sub_n (sub_s (sub_n (sub_n (sub_n (sub_n sub_0))))))))) (BX6_mean_139 hD11 (gdV_le le11 (gdV_le le10 (gdV_le le9 (gdV_le b7 (gdV_le b5 (gdV_le b3 (gdV_le f2.2.1 rv0))))))) (gdV_le le11 (gdV_le le10 (gdV_le le9 (gdV_le b7 (gdV_le b5 (gdV_le b3 (dO_gd f2.2.2 (by decide)))))))) h (fun a b c => k a (DLe_trans (DLe_trans (DLe_trans (DLe_trans (DLe_trans (DLe_trans (DLe_trans f2.2.1 b3) b5) b7) le9) le10) le11) b) c))
  have h := if_f c13 h
  refine E_aload (pc' := 128) dX6_mean_126 rfl rfl ?_
  refine E_aload_n (pc' := 129) dX6_mean_128 rfl rfl ?_
  refine E_getI (pc' := 132) dX6_mean_129 rfl FX6_147_7 hD11 (dO_le le11 (dO_le le10 (dO_le le9 (dO_le b7 (dO_le b5 g4))))) rfl (j := 1) rfl ?_
  obtain ⟨r14, q14, h⟩ := bs h
  refine E_callS [.int (iN ((dW D11 (v1) 1)))] (pc' := 135) dX6_mean_132 rfl (xSn SX6_143) (by decide) rfl (c1_i c1_n) (cs rfl) (c1_r c1_n) (cs rfl) rfl hD11 (CJ6_valueOf_2dffe hD11 (in_slot (k := 1) hD11 (dO_le le11 (dO_le le10 (dO_le le9 (dO_le b7 (dO_le b5 g4))))) rfl (by decide)) q14) (fun a14 b14 f14 => ?_)
  obtain ⟨⟨r15, D15⟩, q15, h⟩ := bs h
  refine E_callV [rV (r14)] (pc' := 138) dX6_mean_135 rfl (xVc VX6_65) (by decide) ⟨dO_pos (dO_le le11 (dO_le le10 (dO_le le9 (dO_le b7 (dO_le b5 (dO_le b3 f2.2.2)))))), dO_is hD11 (dO_le le11 (dO_le le10 (dO_le le9 (dO_le b7 (dO_le b5 (dO_le b3 f2.2.2)))))) rfl⟩ rfl (c1_r c1_n) (cs rfl) c1_n (cs rfl) rfl hD11 (CJx4a65c_add_9ea2d hD11 (gdV_le le11 (gdV_le le10 (gdV_le le9 (gdV_le b7 (gdV_le b5 (gdV_le b3 (dO_gd f2.2.2 (by decide)))))))) f14 q15) (fun a15 b15 f15 => ?_)
  refine X_pop (pc' := 139) dX6_mean_138 rfl rfl ?_
  exact X_sub (sub_s (sub_n (sub_n (sub_n (sub_s (sub_n (sub_n (sub_n (sub_n sub_0))))))))) (BX6_mean_139 a15 (gdV_le b15 (gdV_le le11 (gdV_le le10 (gdV_le le9 (gdV_le b7 (gdV_le b5 (gdV_le b3 (gdV_le f2.2.1 rv0)))))))) (gdV_le b15 (gdV_le le11 (gdV_le le10 (gdV_le le9 (gdV_le b7 (gdV_le b5 (gdV_le b3 (dO_gd f2.2.2 (by decide))))))))) h (fun a b c => k a (DLe_trans (DLe_trans (DLe_trans (DLe_trans (DLe_trans (DLe_trans (DLe_trans (DLe_trans f2.2.1 b3) b5) b7) le9) le10) le11) b15) b) c))
def fX6_grade (v0 : Int) (v1 : Int) (v2 : Int) (v3 : Int) (D : DD) : Option (Int × DD) := (Option.bind (fX6_mean (v0) (v1) (v2) (v3) D) fun q1 => match q1 with | (r1, D1) => (if dO D (v0) 7 then (if dO D1 (r1) 20 then (if (0 : Int) ≤ (0) ∧ (0 : Int) < ((dH D1 (r1)).2 : Int) then (if (0 : Int) ≤ (1) ∧ (1 : Int) < ((dH D1 (r1)).2 : Int) then (if (0 : Int) ≤ ((dW D1 (r1) (0))) ∧ (0 : Int) < ((dW D1 (r1) (1))) then (if inR ((2 * ((dW D1 (r1) (0)) - (((dW D1 (r1) (0)) / (dW D1 (r1) (1))) * (dW D1 (r1) (1)))))) then (if ((2 * ((dW D1 (r1) (0)) - (((dW D1 (r1) (0)) / (dW D1 (r1) (1))) * (dW D1 (r1) (1)))))) < ((dW D1 (r1) (1))) then some (((dW D1 (r1) (0)) / (dW D1 (r1) (1))), D1) else (if inR ((((dW D1 (r1) (0)) / (dW D1 (r1) (1))) + 1)) then some ((((dW D1 (r1) (0)) / (dW D1 (r1) (1))) + 1), D1) else none)) else none) else none) else none) else none) else none) else none))
set_option maxRecDepth 100000 in
theorem CX6_grade {ln : Nat} {D : DD} {z : ZZ} {v0 : Int} {v1 : Int} {v2 : Int} {v3 : Int} (hD : okD D) (rv0 : gdV D v0) (rv1 : gdV D v1) (rv2 : inR v2) (rv3 : inR v3) {p : Int × DD} (h : fX6_grade v0 v1 v2 v3 D = some p) : XD mX6_grade 0 (xEnt [rV (v0), rV (v1), .int (iN (v2)), .int (iN (v3))] (xL mX6_grade)) [] ln D z (Qd (FdD D p.2 (inR p.1)) (.inl (some (.int (iN p.1)))) (sD ln p.2 z)) := by
  have k : K_wi (Qd (FdD D p.2 (inR p.1)) (.inl (some (.int (iN p.1)))) (sD ln p.2 z)) ln D z p := fun a b c => ⟨⟨a, b, c⟩, rfl, rfl⟩
  unfold fX6_grade at h
  refine E_ent (c1_r (c1_r (c1_i (c1_i c1_n)))) (M := [some (rV (v0)), some (rV (v1)), some (.int (iN (v2))), some (.int (iN (v3))), none, none]) rfl ?_
  refine E_aload_n (pc' := 1) dX6_grade_0 rfl rfl ?_
  refine E_aload_n (pc' := 2) dX6_grade_1 rfl rfl ?_
  refine X_iload_n (pc' := 3) dX6_grade_2 rfl rfl ?_
  refine X_iload_n (pc' := 4) dX6_grade_3 rfl rfl ?_
  obtain ⟨⟨r1, D1⟩, q1, h⟩ := bs h
  obtain ⟨g2, h⟩ := gs h
  refine E_callV [rV (v1), .int (iN (v2)), .int (iN (v3))] (pc' := 7) dX6_grade_4 rfl (xVc VX6_164) (by decide) ⟨dO_pos g2, dO_is hD g2 rfl⟩ rfl (c1_r (c1_i (c1_i c1_n))) (cs rfl) c1_n (cs rfl) rfl hD (CX6_mean hD rv0 rv1 rv2 rv3 q1) (fun a1 b1 f1 => ?_)
  refine E_astore (pc' := 9) dX6_grade_7 rfl (cl rfl) (Or.inr rfl) (L' := [some (rV (v0)), some (rV (v1)), some (.int (iN (v2))), some (.int (iN (v3))), some (rV (r1)), none]) rfl ?_
  refine E_aload (pc' := 11) dX6_grade_9 rfl rfl ?_
  refine X_iconst (pc' := 12) dX6_grade_11 rfl ?_
  obtain ⟨g3, h⟩ := gs h
  obtain ⟨g4, h⟩ := gs h
  refine E_iald (pc' := 13) dX6_grade_12 rfl a1 g3 g4 ?_
  refine E_aload (pc' := 15) dX6_grade_13 rfl rfl ?_
  refine X_iconst (pc' := 16) dX6_grade_15 rfl ?_
  obtain ⟨g5, h⟩ := gs h
  refine E_iald (pc' := 17) dX6_grade_16 rfl a1 g3 g5 ?_
  obtain ⟨g6, h⟩ := gs h
  refine X_idiv (pc' := 18) dX6_grade_17 rfl ⟨g6.1, (in_at a1 g3 (Or.inl rfl) g4.1).2, g6.2, (in_at a1 g3 (Or.inl rfl) g5.1).2⟩ ?_
  refine X_istore (pc' := 20) dX6_grade_18 rfl (cl rfl) (Or.inr (xC1_R _)) (L' := [some (rV (v0)), some (rV (v1)), some (.int (iN (v2))), some (.int (iN (v3))), some (rV (r1)), some (.int (iN (((dW D1 (r1) (0)) / (dW D1 (r1) (1))))))]) rfl ?_
  refine X_iconst (pc' := 21) dX6_grade_20 rfl ?_
  refine E_aload (pc' := 23) dX6_grade_21 rfl rfl ?_
  refine X_iconst (pc' := 24) dX6_grade_23 rfl ?_
  refine E_iald (pc' := 25) dX6_grade_24 rfl a1 g3 g4 ?_
  refine X_iload (pc' := 27) dX6_grade_25 rfl rfl ?_
  refine E_aload (pc' := 29) dX6_grade_27 rfl rfl ?_
  refine X_iconst (pc' := 30) dX6_grade_29 rfl ?_
  refine E_iald (pc' := 31) dX6_grade_30 rfl a1 g3 g5 ?_
  refine X_imul (pc' := 32) dX6_grade_31 rfl ?_
  refine X_isub (pc' := 33) dX6_grade_32 rfl ?_
  refine X_imul (pc' := 34) dX6_grade_33 rfl ?_
  refine E_aload (pc' := 36) dX6_grade_34 rfl rfl ?_
  refine X_iconst (pc' := 37) dX6_grade_36 rfl ?_
  refine E_iald (pc' := 38) dX6_grade_37 rfl a1 g3 g5 ?_
  obtain ⟨g8, h⟩ := gs h
  refine X_icmp_lt dX6_grade_38 (tgt := 48) rfl (pc' := 41) rfl ⟨g8.1, g8.2, (in_at a1 g3 (Or.inl rfl) g5.1).1, (in_at a1 g3 (Or.inl rfl) g5.1).2⟩ (fun c7 => ?_) (fun c7 => ?_)
  · have h := if_t c7 h
    refine X_iload (pc' := 50) dX6_grade_48 rfl rfl ?_
    cases h
    exact X_iret dX6_grade_50 rfl (k a1 b1 (inR_div g6 (in_at a1 g3 (Or.inl rfl) g4.1)))
  have h := if_f (Int.not_lt.mpr c7) h
  refine X_iload (pc' := 43) dX6_grade_41 rfl rfl ?_
  refine X_iconst (pc' := 44) dX6_grade_43 rfl ?_
  refine X_iadd (pc' := 45) dX6_grade_44 rfl ?_
  refine X_goto dX6_grade_45 (tgt := 50) rfl ?_
  obtain ⟨g9, h⟩ := gs h
  cases h
  exact X_iret dX6_grade_50 rfl (k a1 b1 g9)

def fX2_bringBackCopy (z : ZZ) : Option (ZZ) := (Option.bind (fX1_copyFrom 3 138 z) fun z1 => (zl (zup z1 32 1 (0)) fun z2 => some z2))
set_option maxRecDepth 100000 in
theorem CX2_bringBackCopy {ln : ZR} {N : Nat} {z : ZZ} (hN : 151 ≤ N ∧ N < 999999) (hz : okz z) {p : ZZ} (h : fX2_bringBackCopy z = some p) : X mX2_bringBackCopy 0 (xEnt [.ref (32), .ref (3)] (xL mX2_bringBackCopy)) [] (zmk ln N z) (cc_w p) (6 * cc_w p) (Qd (fa_w p) (rs_w p) (st_w ln N p)) := by
  have k : Fin_w (Qd (fa_w p) (rs_w p) (st_w ln N p)) ln N p := Fin_w_i
  unfold fX2_bringBackCopy at h
  refine X_to (M := [some (.ref (32)), some (.ref (3))]) (su := []) rfl rfl ?_
  refine X_aload_n (pc' := 1) dX2_bringBackCopy_0 rfl rfl ?_
  refine X_aload_n (pc' := 2) dX2_bringBackCopy_1 rfl rfl ?_
  refine Y_get (pc' := 5) dX2_bringBackCopy_2 rfl FX2_31 (zlN hN (by decide)) (congrArg Prod.fst (sh32 ln)) (ct32_3 z) ?_
  obtain ⟨z1, q1, h⟩ := bs h
  refine Y_callVv [.ref (138)] (pc' := 8) dX2_bringBackCopy_5 rfl VX2_45 (by decide) (zlN hN (by decide)) (congrArg Prod.fst (sh3 ln)) rfl rfl rfl (cs rfl) (cs rfl) rfl (CX1_copyFrom hN hz kH3 kH138 q1) (Nat.zero_add _).symm (Nat.zero_add _).symm (fun f1 => ?_)
  refine X_aload_n (pc' := 9) dX2_bringBackCopy_8 rfl rfl ?_
  refine X_iconst (pc' := 10) dX2_bringBackCopy_9 rfl ?_
  refine Y_put (k := 1) (j := 1) (v := 0) (pc' := 13) dX2_bringBackCopy_10 rfl FX2_17 (zlN hN (by decide)) (congrArg Prod.fst (sh32 ln)) (fun r hr => by cases hr; rfl) (xFit_int _) rfl rfl ?_
  obtain ⟨z2, e2, hz2, h⟩ := zl_some (P := okz) h (okz_up f1 (inR_c (n := 0) rfl))
  rw [e2]
  cases h
  exact X_vret dX2_bringBackCopy_13 rfl (k hz2)
def fX2_forgetAll (z : ZZ) : Option (ZZ) := (zl (zup z 32 1 (0)) fun z1 => (zl (zup z1 32 4 (0)) fun z2 => some z2))
set_option maxRecDepth 100000 in
theorem CX2_forgetAll {ln : ZR} {N : Nat} {z : ZZ} (hN : 151 ≤ N ∧ N < 999999) (hz : okz z) {p : ZZ} (h : fX2_forgetAll z = some p) : X mX2_forgetAll 0 (xEnt [.ref (32)] (xL mX2_forgetAll)) [] (zmk ln N z) (cc_w p) (6 * cc_w p) (Qd (fa_w p) (rs_w p) (st_w ln N p)) := by
  have k : Fin_w (Qd (fa_w p) (rs_w p) (st_w ln N p)) ln N p := Fin_w_i
  unfold fX2_forgetAll at h
  refine X_to (M := [some (.ref (32))]) (su := []) rfl rfl ?_
  refine X_aload_n (pc' := 1) dX2_forgetAll_0 rfl rfl ?_
  refine X_iconst (pc' := 2) dX2_forgetAll_1 rfl ?_
  refine Y_put (k := 1) (j := 1) (v := 0) (pc' := 5) dX2_forgetAll_2 rfl FX2_17 (zlN hN (by decide)) (congrArg Prod.fst (sh32 ln)) (fun r hr => by cases hr; rfl) (xFit_int _) rfl rfl ?_
  obtain ⟨z1, e1, hz1, h⟩ := zl_some (P := okz) h (okz_up hz (inR_c (n := 0) rfl))
  rw [e1]
  refine X_aload_n (pc' := 6) dX2_forgetAll_5 rfl rfl ?_
  refine X_iconst (pc' := 7) dX2_forgetAll_6 rfl ?_
  refine Y_put (k := 4) (j := 4) (v := 0) (pc' := 10) dX2_forgetAll_7 rfl FX2_24 (zlN hN (by decide)) (congrArg Prod.fst (sh32 ln)) (fun r hr => by cases hr; rfl) (xFit_bool (Or.inl rfl)) rfl rfl ?_
  obtain ⟨z2, e2, hz2, h⟩ := zl_some (P := okz) h (okz_up hz1 (inR_b (Or.inl rfl)))
  rw [e2]
  cases h
  exact X_vret dX2_forgetAll_10 rfl (k hz2)
def fX2_keepCopy (z : ZZ) : Option (ZZ) := (Option.bind (fX1_copyFrom 138 3 z) fun z1 => (zl (zup z1 32 4 (1)) fun z2 => some z2))
set_option maxRecDepth 100000 in
theorem CX2_keepCopy {ln : ZR} {N : Nat} {z : ZZ} (hN : 151 ≤ N ∧ N < 999999) (hz : okz z) {p : ZZ} (h : fX2_keepCopy z = some p) : X mX2_keepCopy 0 (xEnt [.ref (32), .ref (3)] (xL mX2_keepCopy)) [] (zmk ln N z) (cc_w p) (6 * cc_w p) (Qd (fa_w p) (rs_w p) (st_w ln N p)) := by
  have k : Fin_w (Qd (fa_w p) (rs_w p) (st_w ln N p)) ln N p := Fin_w_i
  unfold fX2_keepCopy at h
  refine X_to (M := [some (.ref (32)), some (.ref (3))]) (su := []) rfl rfl ?_
  refine X_aload_n (pc' := 1) dX2_keepCopy_0 rfl rfl ?_
  refine Y_get (pc' := 4) dX2_keepCopy_1 rfl FX2_31 (zlN hN (by decide)) (congrArg Prod.fst (sh32 ln)) (ct32_3 z) ?_
  refine X_aload_n (pc' := 5) dX2_keepCopy_4 rfl rfl ?_
  obtain ⟨z1, q1, h⟩ := bs h
  refine Y_callVv [.ref (3)] (pc' := 8) dX2_keepCopy_5 rfl VX2_45 (by decide) (zlN hN (by decide)) (congrArg Prod.fst (sh138 ln)) rfl rfl rfl (cs rfl) (cs rfl) rfl (CX1_copyFrom hN hz kH138 kH3 q1) (Nat.zero_add _).symm (Nat.zero_add _).symm (fun f1 => ?_)
  refine X_aload_n (pc' := 9) dX2_keepCopy_8 rfl rfl ?_
  refine X_iconst (pc' := 10) dX2_keepCopy_9 rfl ?_
  refine Y_put (k := 4) (j := 4) (v := 1) (pc' := 13) dX2_keepCopy_10 rfl FX2_24 (zlN hN (by decide)) (congrArg Prod.fst (sh32 ln)) (fun r hr => by cases hr; rfl) (xFit_bool (Or.inr rfl)) rfl rfl ?_
  obtain ⟨z2, e2, hz2, h⟩ := zl_some (P := okz) h (okz_up f1 (inR_b (Or.inr rfl)))
  rw [e2]
  cases h
  exact X_vret dX2_keepCopy_13 rfl (k hz2)
def fX2_latestHall (z : ZZ) : Option (Nat) := (if ((z 32 2)) < (0) then none else (if ((z 32 2)) < (8) then some ((34 + 13 * ((z 32 2)).toNat)) else none))
set_option maxRecDepth 100000 in
theorem CX2_latestHall {ln : ZR} {N : Nat} {z : ZZ} (hN : 151 ≤ N ∧ N < 999999) (hz : okz z) {p : Nat} (h : fX2_latestHall z = some p) : X mX2_latestHall 0 (xEnt [.ref (32)] (xL mX2_latestHall)) [] (zmk ln N z) (cc_ah p) (6 * cc_ah p) (Qd (fa_ah p) (rs_ah p) (st_ah ln N z p)) := by
  have k : Fin_ah (Qd (fa_ah p) (rs_ah p) (st_ah ln N z p)) ln N z p := Fin_ah_i
  unfold fX2_latestHall at h
  refine X_to (M := [some (.ref (32))]) (su := []) rfl rfl ?_
  refine X_aload_n (pc' := 1) dX2_latestHall_0 rfl rfl ?_
  refine Y_get (pc' := 4) dX2_latestHall_1 rfl FX2_21 (zlN hN (by decide)) (congrArg Prod.fst (sh32 ln)) (ct32_2 z) ?_
  refine X_if_lt dX2_latestHall_4 (tgt := 31) rfl (pc' := 7) rfl (hz 32 2 (by decide)) (fun c1 => ?_) (fun c1 => ?_)
  · have h := if_t c1 h
    cases h
  have h := if_f (Int.not_lt.mpr c1) h
  refine X_aload_n (pc' := 8) dX2_latestHall_7 rfl rfl ?_
  refine Y_get (pc' := 11) dX2_latestHall_8 rfl FX2_21 (zlN hN (by decide)) (congrArg Prod.fst (sh32 ln)) (ct32_2 z) ?_
  refine X_aload_n (pc' := 12) dX2_latestHall_11 rfl rfl ?_
  refine Y_get (pc' := 15) dX2_latestHall_12 rfl FX2_11 (zlN hN (by decide)) (congrArg Prod.fst (sh32 ln)) (ct32_0 z) ?_
  refine Y_alen (pc' := 16) dX2_latestHall_15 rfl (zlN hN (by decide)) (sh33 ln) (by decide) ?_
  refine X_icmp_ge dX2_latestHall_16 (tgt := 31) rfl (pc' := 19) rfl ⟨(hz 32 2 (by decide)).1, (hz 32 2 (by decide)).2, (inR_c (n := 8) rfl).1, (inR_c (n := 8) rfl).2⟩ (fun c2 => ?_) (fun c2 => ?_)
  · have h := if_f (Int.not_lt.mpr c2) h
    cases h
  have h := if_t c2 h
  refine X_aload_n (pc' := 20) dX2_latestHall_19 rfl rfl ?_
  refine Y_get (pc' := 23) dX2_latestHall_20 rfl FX2_11 (zlN hN (by decide)) (congrArg Prod.fst (sh32 ln)) (ct32_0 z) ?_
  refine X_aload_n (pc' := 24) dX2_latestHall_23 rfl rfl ?_
  refine Y_get (pc' := 27) dX2_latestHall_24 rfl FX2_21 (zlN hN (by decide)) (congrArg Prod.fst (sh32 ln)) (ct32_2 z) ?_
  refine Y_aald (pc' := 28) dX2_latestHall_27 rfl (zlN hN (by decide)) (sh33 ln) (by decide) ⟨c1, c2⟩ ?_
  refine X_goto dX2_latestHall_28 (tgt := 32) rfl ?_
  cases h
  exact X_aret dX2_latestHall_32 rfl (k (isH_lat ⟨c1, c2⟩))
def fX2_remember (z : ZZ) : Option (ZZ) := (if inR (((z 32 2) + 1)) then (if (0 : Int) ≤ (((z 32 2) + 1)) ∧ (0 : Int) < (8) then (zl (zup z 32 2 ((((z 32 2) + 1) % 8))) fun z3 => (if inR (((z3 32 1) + 1)) then (zl (zup z3 32 1 ((min (((z3 32 1) + 1)) (8)))) fun z5 => (Option.bind (fX2_latestHall z5) fun r6 => (Option.bind (fX1_copyFrom r6 3 z5) fun z7 => some z7))) else none)) else none) else none)
set_option maxRecDepth 100000 in
theorem CX2_remember {ln : ZR} {N : Nat} {z : ZZ} (hN : 151 ≤ N ∧ N < 999999) (hz : okz z) {p : ZZ} (h : fX2_remember z = some p) : X mX2_remember 0 (xEnt [.ref (32), .ref (3)] (xL mX2_remember)) [] (zmk ln N z) (cc_w p) (6 * cc_w p) (Qd (fa_w p) (rs_w p) (st_w ln N p)) := by
  have k : Fin_w (Qd (fa_w p) (rs_w p) (st_w ln N p)) ln N p := Fin_w_i
  unfold fX2_remember at h
  refine X_to (M := [some (.ref (32)), some (.ref (3)), none]) (su := []) rfl rfl ?_
  refine X_aload_n (pc' := 1) dX2_remember_0 rfl rfl ?_
  refine X_aload_n (pc' := 2) dX2_remember_1 rfl rfl ?_
  refine Y_get (pc' := 5) dX2_remember_2 rfl FX2_21 (zlN hN (by decide)) (congrArg Prod.fst (sh32 ln)) (ct32_2 z) ?_
  refine X_iconst (pc' := 6) dX2_remember_5 rfl ?_
  refine X_iadd (pc' := 7) dX2_remember_6 rfl ?_
  refine X_bipush (pc' := 9) dX2_remember_7 rfl (by decide) ?_
  obtain ⟨g1, h⟩ := gs h
  obtain ⟨g2, h⟩ := gs h
  refine X_irem (pc' := 10) dX2_remember_9 rfl ⟨g2.1, g1.2, g2.2, (inR_c (n := 8) rfl).2⟩ ?_
  refine Y_put (k := 2) (j := 2) (v := (((z 32 2) + 1) % 8)) (pc' := 13) dX2_remember_10 rfl FX2_21 (zlN hN (by decide)) (congrArg Prod.fst (sh32 ln)) (fun r hr => by cases hr; rfl) (xFit_int _) rfl rfl ?_
  obtain ⟨z3, e3, hz3, h⟩ := zl_some (P := okz) h (okz_up hz (inR_mod g2 (inR_c (n := 8) rfl)))
  rw [e3]
  refine X_aload_n (pc' := 14) dX2_remember_13 rfl rfl ?_
  refine X_aload_n (pc' := 15) dX2_remember_14 rfl rfl ?_
  refine Y_get (pc' := 18) dX2_remember_15 rfl FX2_17 (zlN hN (by decide)) (congrArg Prod.fst (sh32 ln)) (ct32_1 z3) ?_
  refine X_iconst (pc' := 19) dX2_remember_18 rfl ?_
  refine X_iadd (pc' := 20) dX2_remember_19 rfl ?_
  refine X_bipush (pc' := 22) dX2_remember_20 rfl (by decide) ?_
  obtain ⟨g4, h⟩ := gs h
  refine X_mmin (pc' := 25) dX2_remember_22 rfl tq1796 tq363 tq5 tq364 (cs rfl) ⟨g4.1, g4.2, (inR_c (n := 8) rfl).1, (inR_c (n := 8) rfl).2⟩ ?_
  refine Y_put (k := 1) (j := 1) (v := (min (((z3 32 1) + 1)) (8))) (pc' := 28) dX2_remember_25 rfl FX2_17 (zlN hN (by decide)) (congrArg Prod.fst (sh32 ln)) (fun r hr => by cases hr; rfl) (xFit_int _) rfl rfl ?_
  obtain ⟨z5, e5, hz5, h⟩ := zl_some (P := okz) h (okz_up hz3 (inR_min g4 (inR_c (n := 8) rfl)))
  rw [e5]
  refine X_aload_n (pc' := 29) dX2_remember_28 rfl rfl ?_
  obtain ⟨r6, q6, h⟩ := bs h
  refine Y_callV [] (pc' := 32) dX2_remember_29 rfl VX2_41 (by decide) (zlN hN (by decide)) (congrArg Prod.fst (sh32 ln)) rfl rfl rfl (cs rfl) (cs rfl) rfl (CX2_latestHall hN hz5 q6) (Nat.zero_add _).symm (Nat.zero_add _).symm (fun f6 => ?_)
  refine X_astore_n (pc' := 33) dX2_remember_32 rfl (cl rfl) (Or.inr rfl) (isH_small f6) (L' := [some (.ref (32)), some (.ref (3)), some (.ref (r6))]) rfl ?_
  refine X_aload_n (pc' := 34) dX2_remember_33 rfl rfl ?_
  refine X_ifnull dX2_remember_34 (pc' := 37) rfl (isH_small f6) ?_
  refine X_aload_n (pc' := 38) dX2_remember_37 rfl rfl ?_
  refine X_aload_n (pc' := 39) dX2_remember_38 rfl rfl ?_
  obtain ⟨z7, q7, h⟩ := bs h
  refine Y_callVv [.ref (3)] (pc' := 42) dX2_remember_39 rfl VX2_45 (by decide) (isH_lt f6 hN) (isH_sh f6 ln) rfl rfl rfl (cs rfl) (cs rfl) rfl (CX1_copyFrom hN hz5 f6 kH3 q7) (Nat.zero_add _).symm (Nat.zero_add _).symm (fun f7 => ?_)
  cases h
  exact X_vret dX2_remember_42 rfl (k f7)
def fX2_takeBack_b14 (z : ZZ) : Option (ZZ) := (if inR ((((z 32 2) + 8) - 1)) then (if (0 : Int) ≤ ((((z 32 2) + 8) - 1)) ∧ (0 : Int) < (8) then (zl (zup z 32 2 (((((z 32 2) + 8) - 1) % 8))) fun z3 => (if inR (((z3 32 1) - 1)) then (zl (zup z3 32 1 ((max (((z3 32 1) - 1)) (0)))) fun z5 => some z5) else none)) else none) else none)
set_option maxRecDepth 100000 in
theorem BX2_takeBack_14 {ln : ZR} {N : Nat} {z : ZZ} {c9 s9 : Nat} {Φ : xRes → xS → Prop} (hN : 151 ≤ N ∧ N < 999999) (hz : okz z) {p : ZZ} (h : fX2_takeBack_b14 z = some p) (k : Fin_w Φ ln N p) : X mX2_takeBack 14 [some (.ref (32)), none, none] [] (zmk ln N z) c9 s9 Φ := by
  unfold fX2_takeBack_b14 at h
  refine X_aload_n (pc' := 15) dX2_takeBack_14 rfl rfl ?_
  refine X_aload_n (pc' := 16) dX2_takeBack_15 rfl rfl ?_
  refine Y_get (pc' := 19) dX2_takeBack_16 rfl FX2_21 (zlN hN (by decide)) (congrArg Prod.fst (sh32 ln)) (ct32_2 z) ?_
  refine X_bipush (pc' := 21) dX2_takeBack_19 rfl (by decide) ?_
  refine X_iadd (pc' := 22) dX2_takeBack_21 rfl ?_
  refine X_iconst (pc' := 23) dX2_takeBack_22 rfl ?_
  refine X_isub (pc' := 24) dX2_takeBack_23 rfl ?_
  refine X_bipush (pc' := 26) dX2_takeBack_24 rfl (by decide) ?_
  obtain ⟨g1, h⟩ := gs h
  obtain ⟨g2, h⟩ := gs h
  refine X_irem (pc' := 27) dX2_takeBack_26 rfl ⟨g2.1, g1.2, g2.2, (inR_c (n := 8) rfl).2⟩ ?_
  refine Y_put (k := 2) (j := 2) (v := ((((z 32 2) + 8) - 1) % 8)) (pc' := 30) dX2_takeBack_27 rfl FX2_21 (zlN hN (by decide)) (congrArg Prod.fst (sh32 ln)) (fun r hr => by cases hr; rfl) (xFit_int _) rfl rfl ?_
  obtain ⟨z3, e3, hz3, h⟩ := zl_some (P := okz) h (okz_up hz (inR_mod g2 (inR_c (n := 8) rfl)))
  rw [e3]
  refine X_aload_n (pc' := 31) dX2_takeBack_30 rfl rfl ?_
  refine X_aload_n (pc' := 32) dX2_takeBack_31 rfl rfl ?_
  refine Y_get (pc' := 35) dX2_takeBack_32 rfl FX2_17 (zlN hN (by decide)) (congrArg Prod.fst (sh32 ln)) (ct32_1 z3) ?_
  refine X_iconst (pc' := 36) dX2_takeBack_35 rfl ?_
  refine X_isub (pc' := 37) dX2_takeBack_36 rfl ?_
  refine X_iconst (pc' := 38) dX2_takeBack_37 rfl ?_
  obtain ⟨g4, h⟩ := gs h
  refine X_mmax (pc' := 41) dX2_takeBack_38 rfl tq1828 tq89 tq5 tq90 (cs rfl) ⟨g4.1, g4.2, (inR_c (n := 0) rfl).1, (inR_c (n := 0) rfl).2⟩ ?_
  refine Y_put (k := 1) (j := 1) (v := (max (((z3 32 1) - 1)) (0))) (pc' := 44) dX2_takeBack_41 rfl FX2_17 (zlN hN (by decide)) (congrArg Prod.fst (sh32 ln)) (fun r hr => by cases hr; rfl) (xFit_int _) rfl rfl ?_
  obtain ⟨z5, e5, hz5, h⟩ := zl_some (P := okz) h (okz_up hz3 (inR_max g4 (inR_c (n := 0) rfl)))
  rw [e5]
  cases h
  exact X_vret dX2_takeBack_44 rfl (k hz5)
def fX2_takeBack (z : ZZ) : Option (ZZ) := (Option.bind (fX2_latestHall z) fun r1 => (Option.bind (fX1_copyFrom 3 r1 z) fun z2 => fX2_takeBack_b14  z2))
set_option maxRecDepth 100000 in
theorem CX2_takeBack {ln : ZR} {N : Nat} {z : ZZ} (hN : 151 ≤ N ∧ N < 999999) (hz : okz z) {p : ZZ} (h : fX2_takeBack z = some p) : X mX2_takeBack 0 (xEnt [.ref (32), .ref (3)] (xL mX2_takeBack)) [] (zmk ln N z) (cc_w p) (6 * cc_w p) (Qd (fa_w p) (rs_w p) (st_w ln N p)) := by
  have k : Fin_w (Qd (fa_w p) (rs_w p) (st_w ln N p)) ln N p := Fin_w_i
  unfold fX2_takeBack at h
  refine X_to (M := [some (.ref (32)), some (.ref (3)), none]) (su := []) rfl rfl ?_
  refine X_aload_n (pc' := 1) dX2_takeBack_0 rfl rfl ?_
  obtain ⟨r1, q1, h⟩ := bs h
  refine Y_callV [] (pc' := 4) dX2_takeBack_1 rfl VX2_41 (by decide) (zlN hN (by decide)) (congrArg Prod.fst (sh32 ln)) rfl rfl rfl (cs rfl) (cs rfl) rfl (CX2_latestHall hN hz q1) (Nat.zero_add _).symm (Nat.zero_add _).symm (fun f1 => ?_)
  refine X_astore_n (pc' := 5) dX2_takeBack_4 rfl (cl rfl) (Or.inr rfl) (isH_small f1) (L' := [some (.ref (32)), some (.ref (3)), some (.ref (r1))]) rfl ?_
  refine X_aload_n (pc' := 6) dX2_takeBack_5 rfl rfl ?_
  refine X_ifnull dX2_takeBack_6 (pc' := 9) rfl (isH_small f1) ?_
  refine X_aload_n (pc' := 10) dX2_takeBack_9 rfl rfl ?_
  refine X_aload_n (pc' := 11) dX2_takeBack_10 rfl rfl ?_
  obtain ⟨z2, q2, h⟩ := bs h
  refine Y_callVv [.ref (r1)] (pc' := 14) dX2_takeBack_11 rfl VX2_45 (by decide) (zlN hN (by decide)) (congrArg Prod.fst (sh3 ln)) rfl rfl rfl (cs rfl) (cs rfl) rfl (CX1_copyFrom hN hz kH3 f1 q2) (Nat.zero_add _).symm (Nat.zero_add _).symm (fun f2 => ?_)
  exact X_sub (sub_s (sub_n (sub_n sub_0))) (BX2_takeBack_14 hN f2 h k)
def fX3_addBytesOf_b58 (v1 : Int) (v2 : Int) (z : ZZ) : Option ((Int × ZZ) ⊕ (ZZ)) := (if inR ((v2 + (-8))) then some (.inl ((v2 + (-8)), z)) else none)
set_option maxRecDepth 100000 in
theorem BX3_addBytesOf_58 {ln : ZR} {N : Nat} {z : ZZ} {v1 : Int} {v2 : Int} {c9 s9 : Nat} {Φ : xRes → xS → Prop} (hN : 151 ≤ N ∧ N < 999999) (hz : okz z) (rv1 : inR v1) (rv2 : inR v2) {p : (Int × ZZ) ⊕ (ZZ)} (h : fX3_addBytesOf_b58 v1 v2 z = some p) (k1 : ∀ (v2' : Int) (z' : ZZ), p = .inl (v2', z') → inR v2' → okz z' → X mX3_addBytesOf 3 [some (.ref (16)), some (.int (iN (v1))), some (.int (iN (v2'))), none] [] (zmk ln N z') c9 s9 Φ) (k2 : ∀ (z' : ZZ), p = .inr z' → okz z' → X mX3_addBytesOf 64 [none, none, none, none] [] (zmk ln N z') c9 s9 Φ) : X mX3_addBytesOf 58 [some (.ref (16)), some (.int (iN (v1))), some (.int (iN (v2))), none] [] (zmk ln N z) c9 s9 Φ := by
  unfold fX3_addBytesOf_b58 at h
  refine X_iinc (pc' := 61) dX3_addBytesOf_58 rfl rfl (Or.inr rfl) (L' := [some (.ref (16)), some (.int (iN (v1))), some (.int (iN (v2 + (-8)))), none]) rfl ?_
  refine X_goto dX3_addBytesOf_61 (tgt := 3) rfl ?_
  obtain ⟨g1, h⟩ := gs h
  cases h
  exact X_sub (sub_s (sub_s (sub_s (sub_n sub_0)))) (k1 _ _ rfl g1 hz)
def fX3_addBytesOf_s3 (v1 : Int) (v2 : Int) (z : ZZ) : Option ((Int × ZZ) ⊕ (ZZ)) := (if (v2) < (0) then some (.inr z) else (if ((zand (zushr v1 v2) 255)) = (0) then fX3_addBytesOf_b58 (v1) (v2) z else (if ((z 16 1)) < (0) then fX3_addBytesOf_b58 (v1) (v2) z else (if ((z 16 1)) < (600) then (zl (zup z 30 ((z 16 1)) ((zand (zushr v1 v2) 255))) fun z5 => (if inR (((z5 16 1) + 1)) then (zl (zup z5 16 1 (((z5 16 1) + 1))) fun z7 => fX3_addBytesOf_b58 (v1) (v2) z7) else none)) else fX3_addBytesOf_b58 (v1) (v2) z))))
set_option maxRecDepth 100000 in
theorem SX3_addBytesOf_3 {ln : ZR} {N : Nat} {z : ZZ} {v1 : Int} {v2 : Int} {c9 s9 : Nat} {Φ : xRes → xS → Prop} (hN : 151 ≤ N ∧ N < 999999) (hz : okz z) (rv1 : inR v1) (rv2 : inR v2) {p : (Int × ZZ) ⊕ (ZZ)} (h : fX3_addBytesOf_s3 v1 v2 z = some p) (k1 : ∀ (v2' : Int) (z' : ZZ), p = .inl (v2', z') → inR v2' → okz z' → X mX3_addBytesOf 3 [some (.ref (16)), some (.int (iN (v1))), some (.int (iN (v2'))), none] [] (zmk ln N z') c9 s9 Φ) (k2 : ∀ (z' : ZZ), p = .inr z' → okz z' → X mX3_addBytesOf 64 [none, none, none, none] [] (zmk ln N z') c9 s9 Φ) : X mX3_addBytesOf 3 [some (.ref (16)), some (.int (iN (v1))), some (.int (iN (v2))), none] [] (zmk ln N z) c9 s9 Φ := by
  unfold fX3_addBytesOf_s3 at h
  refine X_iload_n (pc' := 4) dX3_addBytesOf_3 rfl rfl ?_
  refine X_if_lt dX3_addBytesOf_4 (tgt := 64) rfl (pc' := 7) rfl rv2 (fun c1 => ?_) (fun c1 => ?_)
  · have h := if_t c1 h
    cases h
    exact X_sub (sub_n (sub_n (sub_n (sub_n sub_0)))) (k2 _ rfl hz)
  have h := if_f (Int.not_lt.mpr c1) h
  refine X_iload_n (pc' := 8) dX3_addBytesOf_7 rfl rfl ?_
  refine X_iload_n (pc' := 9) dX3_addBytesOf_8 rfl rfl ?_
  refine X_iushr (pc' := 10) dX3_addBytesOf_9 rfl ?_
  refine X_sipush (pc' := 13) dX3_addBytesOf_10 rfl (by decide) ?_
  refine X_iand (pc' := 14) dX3_addBytesOf_13 rfl ?_
  refine X_istore_n (pc' := 15) dX3_addBytesOf_14 rfl (cl rfl) (Or.inr rfl) (L' := [some (.ref (16)), some (.int (iN (v1))), some (.int (iN (v2))), some (.int (iN ((zand (zushr v1 v2) 255))))]) rfl ?_
  refine X_iload_n (pc' := 16) dX3_addBytesOf_15 rfl rfl ?_
  refine X_if_eq dX3_addBytesOf_16 (tgt := 58) rfl (pc' := 19) rfl (inR_zand _ _) (fun c2 => ?_) (fun c2 => ?_)
  · have h := if_t c2 h
    exact X_sub (sub_s (sub_s (sub_s (sub_n sub_0)))) (BX3_addBytesOf_58 hN hz rv1 rv2 h k1 k2)
  have h := if_f c2 h
  refine X_aload_n (pc' := 20) dX3_addBytesOf_19 rfl rfl ?_
  refine Y_get (pc' := 23) dX3_addBytesOf_20 rfl FX3_15 (zlN hN (by decide)) (congrArg Prod.fst (sh16 ln)) (ct16_1 z) ?_
  refine X_if_lt dX3_addBytesOf_23 (tgt := 58) rfl (pc' := 26) rfl (hz 16 1 (by decide)) (fun c3 => ?_) (fun c3 => ?_)
  · have h := if_t c3 h
    exact X_sub (sub_s (sub_s (sub_s (sub_n sub_0)))) (BX3_addBytesOf_58 hN hz rv1 rv2 h k1 k2)
  have h := if_f (Int.not_lt.mpr c3) h
  refine X_aload_n (pc' := 27) dX3_addBytesOf_26 rfl rfl ?_
  refine Y_get (pc' := 30) dX3_addBytesOf_27 rfl FX3_15 (zlN hN (by decide)) (congrArg Prod.fst (sh16 ln)) (ct16_1 z) ?_
  refine X_aload_n (pc' := 31) dX3_addBytesOf_30 rfl rfl ?_
  refine Y_get (pc' := 34) dX3_addBytesOf_31 rfl FX3_9 (zlN hN (by decide)) (congrArg Prod.fst (sh16 ln)) (ct16_0 z) ?_
  refine Y_alen (pc' := 35) dX3_addBytesOf_34 rfl (zlN hN (by decide)) (sh30 ln) (by decide) ?_
  refine X_icmp_ge dX3_addBytesOf_35 (tgt := 58) rfl (pc' := 38) rfl ⟨(hz 16 1 (by decide)).1, (hz 16 1 (by decide)).2, (inR_c (n := 600) rfl).1, (inR_c (n := 600) rfl).2⟩ (fun c4 => ?_) (fun c4 => ?_)
  · have h := if_f (Int.not_lt.mpr c4) h
    exact X_sub (sub_s (sub_s (sub_s (sub_n sub_0)))) (BX3_addBytesOf_58 hN hz rv1 rv2 h k1 k2)
  have h := if_t c4 h
  refine X_aload_n (pc' := 39) dX3_addBytesOf_38 rfl rfl ?_
  refine Y_get (pc' := 42) dX3_addBytesOf_39 rfl FX3_9 (zlN hN (by decide)) (congrArg Prod.fst (sh16 ln)) (ct16_0 z) ?_
  refine X_aload_n (pc' := 43) dX3_addBytesOf_42 rfl rfl ?_
  refine Y_get (pc' := 46) dX3_addBytesOf_43 rfl FX3_15 (zlN hN (by decide)) (congrArg Prod.fst (sh16 ln)) (ct16_1 z) ?_
  refine X_iload_n (pc' := 47) dX3_addBytesOf_46 rfl rfl ?_
  refine Y_iast (pc' := 48) dX3_addBytesOf_47 rfl (zlN hN (by decide)) (sh30 ln) (by decide) ⟨c3, c4⟩ ?_
  obtain ⟨z5, e5, hz5, h⟩ := zl_some (P := okz) h (okz_up hz (inR_zand _ _))
  rw [e5]
  refine X_aload_n (pc' := 49) dX3_addBytesOf_48 rfl rfl ?_
  refine X_dup (pc' := 50) dX3_addBytesOf_49 rfl rfl ?_
  refine Y_get (pc' := 53) dX3_addBytesOf_50 rfl FX3_15 (zlN hN (by decide)) (congrArg Prod.fst (sh16 ln)) (ct16_1 z5) ?_
  refine X_iconst (pc' := 54) dX3_addBytesOf_53 rfl ?_
  refine X_iadd (pc' := 55) dX3_addBytesOf_54 rfl ?_
  obtain ⟨g6, h⟩ := gs h
  refine Y_put (k := 1) (j := 1) (v := ((z5 16 1) + 1)) (pc' := 58) dX3_addBytesOf_55 rfl FX3_15 (zlN hN (by decide)) (congrArg Prod.fst (sh16 ln)) (fun r hr => by cases hr; rfl) (xFit_int _) rfl rfl ?_
  obtain ⟨z7, e7, hz7, h⟩ := zl_some (P := okz) h (okz_up hz5 g6)
  rw [e7]
  exact X_sub (sub_s (sub_s (sub_s (sub_n sub_0)))) (BX3_addBytesOf_58 hN hz7 rv1 rv2 h k1 k2)
theorem LX3_addBytesOf_3 {ln : ZR} {N : Nat} {v1 : Int} {c9 s9 : Nat} {Φ : xRes → xS → Prop} (hN : 151 ≤ N ∧ N < 999999) (rv1 : inR v1) {r : ZZ} (k2 : ∀ (z' : ZZ), r = z' → okz z' → X mX3_addBytesOf 64 [none, none, none, none] [] (zmk ln N z') c9 s9 Φ) : ∀ (n : Nat) (v2 : Int) (z : ZZ), inR v2 → okz z → zlp (fun q => fX3_addBytesOf_s3 v1 q.1 q.2) n (v2, z) = some r → X mX3_addBytesOf 3 [some (.ref (16)), some (.int (iN (v1))), some (.int (iN (v2))), none] [] (zmk ln N z) c9 s9 Φ := by
  intro n
  induction n with
  | zero => intro v2 z rv2 hz h; cases h
  | succ n ih =>
    intro v2 z rv2 hz h
    rcases zlp_s h with ⟨⟨v2', z'⟩, e, h'⟩ | e
    · exact SX3_addBytesOf_3 hN hz rv1 rv2 e (fun v2₁ z₁ hh f0 f1 => by cases hh; exact ih _ _ f0 f1 h') (fun z₁ hh f0 => by cases hh)
    · exact SX3_addBytesOf_3 hN hz rv1 rv2 e (fun v2₁ z₁ hh f0 f1 => by cases hh) (fun z₁ hh f0 => by cases hh; exact k2 _ rfl f0)
def fX3_addBytesOf (v1 : Int) (z : ZZ) : Option (ZZ) := (Option.bind (zlp (fun q => fX3_addBytesOf_s3 (v1) q.1 q.2) FU (24, z)) fun x1_z => some x1_z)
set_option maxRecDepth 100000 in
theorem CX3_addBytesOf {ln : ZR} {N : Nat} {z : ZZ} {v1 : Int} (hN : 151 ≤ N ∧ N < 999999) (hz : okz z) (rv1 : inR v1) {p : ZZ} (h : fX3_addBytesOf v1 z = some p) : X mX3_addBytesOf 0 (xEnt [.ref (16), .int (iN (v1))] (xL mX3_addBytesOf)) [] (zmk ln N z) (cc_w p) (6 * cc_w p) (Qd (fa_w p) (rs_w p) (st_w ln N p)) := by
  have k : Fin_w (Qd (fa_w p) (rs_w p) (st_w ln N p)) ln N p := Fin_w_i
  unfold fX3_addBytesOf at h
  refine X_to (M := [some (.ref (16)), some (.int (iN (v1))), none, none]) (su := []) rfl rfl ?_
  refine X_bipush (pc' := 2) dX3_addBytesOf_0 rfl (by decide) ?_
  refine X_istore_n (pc' := 3) dX3_addBytesOf_2 rfl (cl rfl) (Or.inr rfl) (L' := [some (.ref (16)), some (.int (iN (v1))), some (.int (iN (24))), none]) rfl ?_
  obtain ⟨x1_z, q1, h⟩ := bs h
  refine X_sub (sub_s (sub_s (sub_s (sub_n sub_0)))) (LX3_addBytesOf_3 hN rv1 (fun x1_z₁ hh hx1_z => ?_) FU _ _ (inR_c (n := 24) rfl) hz q1)
  cases hh
  cases h
  exact X_vret dX3_addBytesOf_64 rfl (k hx1_z)
def fX3_addStatement (v1 : Int) (z : ZZ) : Option (ZZ) := (if (v1) = 0 then (Option.bind (fX1_setRules 17 ((z 31 (0))) ((z 31 (1))) ((z 31 (2))) z) fun z2 => (zl (zup z2 16 4 (1)) fun z3 => some z3)) else (if (v1) = 1 then (Option.bind (fX1_addWall 17 ((z 31 (0))) ((z 31 (1))) ((z 31 (2))) z) fun z5 => some z5) else (if (v1) = 2 then (Option.bind (fX1_addHarness 17 ((z 31 (0))) ((z 31 (1))) z) fun z7 => some z7) else (if (v1) = 3 then (Option.bind (fX1_addMember 17 ((z 31 (0))) ((z 31 (1))) z) fun z9 => some z9) else (Option.bind (fX1_addCourse 17 ((z 31 (0))) ((z 31 (1))) ((z 31 (2))) z) fun z10 => some z10)))))
set_option maxRecDepth 100000 in
theorem CX3_addStatement {ln : ZR} {N : Nat} {z : ZZ} {v1 : Int} (hN : 151 ≤ N ∧ N < 999999) (hz : okz z) (rv1 : inR v1) {p : ZZ} (h : fX3_addStatement v1 z = some p) : X mX3_addStatement 0 (xEnt [.ref (16), .int (iN (v1))] (xL mX3_addStatement)) [] (zmk ln N z) (cc_w p) (6 * cc_w p) (Qd (fa_w p) (rs_w p) (st_w ln N p)) := by
  have k : Fin_w (Qd (fa_w p) (rs_w p) (st_w ln N p)) ln N p := Fin_w_i
  unfold fX3_addStatement at h
  refine X_to (M := [some (.ref (16)), some (.int (iN (v1)))]) (su := []) rfl rfl ?_
  refine X_iload_n (pc' := 1) dX3_addStatement_0 rfl rfl ?_
  by_cases c1 : (v1) = 0
  · refine X_tableIn dX3_addStatement_1 (off := 31) (tgt := 32) rv1 (by rw [c1]; decide) (by rw [c1]; decide) (by rw [c1]; rfl) rfl ?_
    have h := if_t c1 h
    refine X_aload_n (pc' := 33) dX3_addStatement_32 rfl rfl ?_
    refine Y_get (pc' := 36) dX3_addStatement_33 rfl FX3_32 (zlN hN (by decide)) (congrArg Prod.fst (sh16 ln)) (ct16_2 z) ?_
    refine X_aload_n (pc' := 37) dX3_addStatement_36 rfl rfl ?_
    refine Y_get (pc' := 40) dX3_addStatement_37 rfl FX3_19 (zlN hN (by decide)) (congrArg Prod.fst (sh16 ln)) (ct16_3 z) ?_
    refine X_iconst (pc' := 41) dX3_addStatement_40 rfl ?_
    refine Y_iald (pc' := 42) dX3_addStatement_41 rfl (zlN hN (by decide)) (sh31 ln) (by decide) ⟨by decide, by decide⟩ ?_
    refine X_aload_n (pc' := 43) dX3_addStatement_42 rfl rfl ?_
    refine Y_get (pc' := 46) dX3_addStatement_43 rfl FX3_19 (zlN hN (by decide)) (congrArg Prod.fst (sh16 ln)) (ct16_3 z) ?_
    refine X_iconst (pc' := 47) dX3_addStatement_46 rfl ?_
    refine Y_iald (pc' := 48) dX3_addStatement_47 rfl (zlN hN (by decide)) (sh31 ln) (by decide) ⟨by decide, by decide⟩ ?_
    refine X_aload_n (pc' := 49) dX3_addStatement_48 rfl rfl ?_
    refine Y_get (pc' := 52) dX3_addStatement_49 rfl FX3_19 (zlN hN (by decide)) (congrArg Prod.fst (sh16 ln)) (ct16_3 z) ?_
    refine X_iconst (pc' := 53) dX3_addStatement_52 rfl ?_
    refine Y_iald (pc' := 54) dX3_addStatement_53 rfl (zlN hN (by decide)) (sh31 ln) (by decide) ⟨by decide, by decide⟩ ?_
    obtain ⟨z2, q2, h⟩ := bs h
    refine Y_callVv [.int (iN ((z 31 (0)))), .int (iN ((z 31 (1)))), .int (iN ((z 31 (2))))] (pc' := 57) dX3_addStatement_54 rfl VX3_110 (by decide) (zlN hN (by decide)) (congrArg Prod.fst (sh17 ln)) rfl rfl rfl (cs rfl) (cs rfl) rfl (CX1_setRules hN hz kH17 (hz 31 (0) (by decide)) (hz 31 (1) (by decide)) (hz 31 (2) (by decide)) q2) (Nat.zero_add _).symm (Nat.zero_add _).symm (fun f2 => ?_)
    refine X_aload_n (pc' := 58) dX3_addStatement_57 rfl rfl ?_
    refine X_iconst (pc' := 59) dX3_addStatement_58 rfl ?_
    refine Y_put (k := 4) (j := 4) (v := 1) (pc' := 62) dX3_addStatement_59 rfl FX3_22 (zlN hN (by decide)) (congrArg Prod.fst (sh16 ln)) (fun r hr => by cases hr; rfl) (xFit_bool (Or.inr rfl)) rfl rfl ?_
    obtain ⟨z3, e3, hz3, h⟩ := zl_some (P := okz) h (okz_up f2 (inR_b (Or.inr rfl)))
    rw [e3]
    refine X_goto dX3_addStatement_62 (tgt := 162) rfl ?_
    cases h
    exact X_vret dX3_addStatement_162 rfl (k hz3)
  have h := if_f c1 h
  by_cases c4 : (v1) = 1
  · refine X_tableIn dX3_addStatement_1 (off := 64) (tgt := 65) rv1 (by rw [c4]; decide) (by rw [c4]; decide) (by rw [c4]; rfl) rfl ?_
    have h := if_t c4 h
    refine X_aload_n (pc' := 66) dX3_addStatement_65 rfl rfl ?_
    refine Y_get (pc' := 69) dX3_addStatement_66 rfl FX3_32 (zlN hN (by decide)) (congrArg Prod.fst (sh16 ln)) (ct16_2 z) ?_
    refine X_aload_n (pc' := 70) dX3_addStatement_69 rfl rfl ?_
    refine Y_get (pc' := 73) dX3_addStatement_70 rfl FX3_19 (zlN hN (by decide)) (congrArg Prod.fst (sh16 ln)) (ct16_3 z) ?_
    refine X_iconst (pc' := 74) dX3_addStatement_73 rfl ?_
    refine Y_iald (pc' := 75) dX3_addStatement_74 rfl (zlN hN (by decide)) (sh31 ln) (by decide) ⟨by decide, by decide⟩ ?_
    refine X_aload_n (pc' := 76) dX3_addStatement_75 rfl rfl ?_
    refine Y_get (pc' := 79) dX3_addStatement_76 rfl FX3_19 (zlN hN (by decide)) (congrArg Prod.fst (sh16 ln)) (ct16_3 z) ?_
    refine X_iconst (pc' := 80) dX3_addStatement_79 rfl ?_
    refine Y_iald (pc' := 81) dX3_addStatement_80 rfl (zlN hN (by decide)) (sh31 ln) (by decide) ⟨by decide, by decide⟩ ?_
    refine X_aload_n (pc' := 82) dX3_addStatement_81 rfl rfl ?_
    refine Y_get (pc' := 85) dX3_addStatement_82 rfl FX3_19 (zlN hN (by decide)) (congrArg Prod.fst (sh16 ln)) (ct16_3 z) ?_
    refine X_iconst (pc' := 86) dX3_addStatement_85 rfl ?_
    refine Y_iald (pc' := 87) dX3_addStatement_86 rfl (zlN hN (by decide)) (sh31 ln) (by decide) ⟨by decide, by decide⟩ ?_
    obtain ⟨z5, q5, h⟩ := bs h
    refine Y_callVv [.int (iN ((z 31 (0)))), .int (iN ((z 31 (1)))), .int (iN ((z 31 (2))))] (pc' := 90) dX3_addStatement_87 rfl VX3_114 (by decide) (zlN hN (by decide)) (congrArg Prod.fst (sh17 ln)) rfl rfl rfl (cs rfl) (cs rfl) rfl (CX1_addWall hN hz kH17 (hz 31 (0) (by decide)) (hz 31 (1) (by decide)) (hz 31 (2) (by decide)) q5) (Nat.zero_add _).symm (Nat.zero_add _).symm (fun f5 => ?_)
    refine X_goto dX3_addStatement_90 (tgt := 162) rfl ?_
    cases h
    exact X_vret dX3_addStatement_162 rfl (k f5)
  have h := if_f c4 h
  by_cases c6 : (v1) = 2
  · refine X_tableIn dX3_addStatement_1 (off := 92) (tgt := 93) rv1 (by rw [c6]; decide) (by rw [c6]; decide) (by rw [c6]; rfl) rfl ?_
    have h := if_t c6 h
    refine X_aload_n (pc' := 94) dX3_addStatement_93 rfl rfl ?_
    refine Y_get (pc' := 97) dX3_addStatement_94 rfl FX3_32 (zlN hN (by decide)) (congrArg Prod.fst (sh16 ln)) (ct16_2 z) ?_
    refine X_aload_n (pc' := 98) dX3_addStatement_97 rfl rfl ?_
    refine Y_get (pc' := 101) dX3_addStatement_98 rfl FX3_19 (zlN hN (by decide)) (congrArg Prod.fst (sh16 ln)) (ct16_3 z) ?_
    refine X_iconst (pc' := 102) dX3_addStatement_101 rfl ?_
    refine Y_iald (pc' := 103) dX3_addStatement_102 rfl (zlN hN (by decide)) (sh31 ln) (by decide) ⟨by decide, by decide⟩ ?_
    refine X_aload_n (pc' := 104) dX3_addStatement_103 rfl rfl ?_
    refine Y_get (pc' := 107) dX3_addStatement_104 rfl FX3_19 (zlN hN (by decide)) (congrArg Prod.fst (sh16 ln)) (ct16_3 z) ?_
    refine X_iconst (pc' := 108) dX3_addStatement_107 rfl ?_
    refine Y_iald (pc' := 109) dX3_addStatement_108 rfl (zlN hN (by decide)) (sh31 ln) (by decide) ⟨by decide, by decide⟩ ?_
    obtain ⟨z7, q7, h⟩ := bs h
    refine Y_callVv [.int (iN ((z 31 (0)))), .int (iN ((z 31 (1))))] (pc' := 112) dX3_addStatement_109 rfl VX3_117 (by decide) (zlN hN (by decide)) (congrArg Prod.fst (sh17 ln)) rfl rfl rfl (cs rfl) (cs rfl) rfl (CX1_addHarness hN hz kH17 (hz 31 (0) (by decide)) (hz 31 (1) (by decide)) q7) (Nat.zero_add _).symm (Nat.zero_add _).symm (fun f7 => ?_)
    refine X_goto dX3_addStatement_112 (tgt := 162) rfl ?_
    cases h
    exact X_vret dX3_addStatement_162 rfl (k f7)
  have h := if_f c6 h
  by_cases c8 : (v1) = 3
  · refine X_tableIn dX3_addStatement_1 (off := 114) (tgt := 115) rv1 (by rw [c8]; decide) (by rw [c8]; decide) (by rw [c8]; rfl) rfl ?_
    have h := if_t c8 h
    refine X_aload_n (pc' := 116) dX3_addStatement_115 rfl rfl ?_
    refine Y_get (pc' := 119) dX3_addStatement_116 rfl FX3_32 (zlN hN (by decide)) (congrArg Prod.fst (sh16 ln)) (ct16_2 z) ?_
    refine X_aload_n (pc' := 120) dX3_addStatement_119 rfl rfl ?_
    refine Y_get (pc' := 123) dX3_addStatement_120 rfl FX3_19 (zlN hN (by decide)) (congrArg Prod.fst (sh16 ln)) (ct16_3 z) ?_
    refine X_iconst (pc' := 124) dX3_addStatement_123 rfl ?_
    refine Y_iald (pc' := 125) dX3_addStatement_124 rfl (zlN hN (by decide)) (sh31 ln) (by decide) ⟨by decide, by decide⟩ ?_
    refine X_aload_n (pc' := 126) dX3_addStatement_125 rfl rfl ?_
    refine Y_get (pc' := 129) dX3_addStatement_126 rfl FX3_19 (zlN hN (by decide)) (congrArg Prod.fst (sh16 ln)) (ct16_3 z) ?_
    refine X_iconst (pc' := 130) dX3_addStatement_129 rfl ?_
    refine Y_iald (pc' := 131) dX3_addStatement_130 rfl (zlN hN (by decide)) (sh31 ln) (by decide) ⟨by decide, by decide⟩ ?_
    obtain ⟨z9, q9, h⟩ := bs h
    refine Y_callVv [.int (iN ((z 31 (0)))), .int (iN ((z 31 (1))))] (pc' := 134) dX3_addStatement_131 rfl VX3_121 (by decide) (zlN hN (by decide)) (congrArg Prod.fst (sh17 ln)) rfl rfl rfl (cs rfl) (cs rfl) rfl (CX1_addMember hN hz kH17 (hz 31 (0) (by decide)) (hz 31 (1) (by decide)) q9) (Nat.zero_add _).symm (Nat.zero_add _).symm (fun f9 => ?_)
    refine X_goto dX3_addStatement_134 (tgt := 162) rfl ?_
    cases h
    exact X_vret dX3_addStatement_162 rfl (k f9)
  have h := if_f c8 h
  refine X_tableOut dX3_addStatement_1 (tgt := 137) rv1 (by omega) rfl ?_
  refine X_aload_n (pc' := 138) dX3_addStatement_137 rfl rfl ?_
  refine Y_get (pc' := 141) dX3_addStatement_138 rfl FX3_32 (zlN hN (by decide)) (congrArg Prod.fst (sh16 ln)) (ct16_2 z) ?_
  refine X_aload_n (pc' := 142) dX3_addStatement_141 rfl rfl ?_
  refine Y_get (pc' := 145) dX3_addStatement_142 rfl FX3_19 (zlN hN (by decide)) (congrArg Prod.fst (sh16 ln)) (ct16_3 z) ?_
  refine X_iconst (pc' := 146) dX3_addStatement_145 rfl ?_
  refine Y_iald (pc' := 147) dX3_addStatement_146 rfl (zlN hN (by decide)) (sh31 ln) (by decide) ⟨by decide, by decide⟩ ?_
  refine X_aload_n (pc' := 148) dX3_addStatement_147 rfl rfl ?_
  refine Y_get (pc' := 151) dX3_addStatement_148 rfl FX3_19 (zlN hN (by decide)) (congrArg Prod.fst (sh16 ln)) (ct16_3 z) ?_
  refine X_iconst (pc' := 152) dX3_addStatement_151 rfl ?_
  refine Y_iald (pc' := 153) dX3_addStatement_152 rfl (zlN hN (by decide)) (sh31 ln) (by decide) ⟨by decide, by decide⟩ ?_
  refine X_aload_n (pc' := 154) dX3_addStatement_153 rfl rfl ?_
  refine Y_get (pc' := 157) dX3_addStatement_154 rfl FX3_19 (zlN hN (by decide)) (congrArg Prod.fst (sh16 ln)) (ct16_3 z) ?_
  refine X_iconst (pc' := 158) dX3_addStatement_157 rfl ?_
  refine Y_iald (pc' := 159) dX3_addStatement_158 rfl (zlN hN (by decide)) (sh31 ln) (by decide) ⟨by decide, by decide⟩ ?_
  obtain ⟨z10, q10, h⟩ := bs h
  refine Y_callVv [.int (iN ((z 31 (0)))), .int (iN ((z 31 (1)))), .int (iN ((z 31 (2))))] (pc' := 162) dX3_addStatement_159 rfl VX3_124 (by decide) (zlN hN (by decide)) (congrArg Prod.fst (sh17 ln)) rfl rfl rfl (cs rfl) (cs rfl) rfl (CX1_addCourse hN hz kH17 (hz 31 (0) (by decide)) (hz 31 (1) (by decide)) (hz 31 (2) (by decide)) q10) (Nat.zero_add _).symm (Nat.zero_add _).symm (fun f10 => ?_)
  cases h
  exact X_vret dX3_addStatement_162 rfl (k f10)
def fX3_byteAt_b26 (v1 : Int) (s0 : Int) (z : ZZ) : Option (Int) := (if (s0) = (0) then some (0) else (if (0 : Int) ≤ (v1) ∧ (v1) < (600 : Int) then some ((z 30 (v1))) else none))
set_option maxRecDepth 100000 in
theorem BX3_byteAt_26 {ln : ZR} {N : Nat} {z : ZZ} {v1 : Int} {s0 : Int} {c9 s9 : Nat} {Φ : xRes → xS → Prop} (hN : 151 ≤ N ∧ N < 999999) (hz : okz z) (rv1 : inR v1) (rs0 : inR s0) {p : Int} (h : fX3_byteAt_b26 v1 s0 z = some p) (k : Fin_r Φ ln N z p) : X mX3_byteAt 26 [some (.ref (16)), some (.int (iN (v1))), none] [.int (iN (s0))] (zmk ln N z) c9 s9 Φ := by
  unfold fX3_byteAt_b26 at h
  refine X_istore_n (pc' := 27) dX3_byteAt_26 rfl (cl rfl) (Or.inr rfl) (L' := [some (.ref (16)), some (.int (iN (v1))), some (.int (iN (s0)))]) rfl ?_
  refine X_iload_n (pc' := 28) dX3_byteAt_27 rfl rfl ?_
  refine X_if_eq dX3_byteAt_28 (tgt := 40) rfl (pc' := 31) rfl rs0 (fun c1 => ?_) (fun c1 => ?_)
  · have h := if_t c1 h
    refine X_iconst (pc' := 41) dX3_byteAt_40 rfl ?_
    cases h
    exact X_iret dX3_byteAt_41 rfl (k (inR_c (n := 0) rfl))
  have h := if_f c1 h
  refine X_aload_n (pc' := 32) dX3_byteAt_31 rfl rfl ?_
  refine Y_get (pc' := 35) dX3_byteAt_32 rfl FX3_9 (zlN hN (by decide)) (congrArg Prod.fst (sh16 ln)) (ct16_0 z) ?_
  refine X_iload_n (pc' := 36) dX3_byteAt_35 rfl rfl ?_
  obtain ⟨g2, h⟩ := gs h
  refine Y_iald (pc' := 37) dX3_byteAt_36 rfl (zlN hN (by decide)) (sh30 ln) (by decide) g2 ?_
  refine X_goto dX3_byteAt_37 (tgt := 41) rfl ?_
  cases h
  exact X_iret dX3_byteAt_41 rfl (k (hz 30 (v1) (by decide)))
def fX3_byteAt_b25 (v1 : Int) (z : ZZ) : Option (Int) := fX3_byteAt_b26 (v1) (0) z
set_option maxRecDepth 100000 in
theorem BX3_byteAt_25 {ln : ZR} {N : Nat} {z : ZZ} {v1 : Int} {c9 s9 : Nat} {Φ : xRes → xS → Prop} (hN : 151 ≤ N ∧ N < 999999) (hz : okz z) (rv1 : inR v1) {p : Int} (h : fX3_byteAt_b25 v1 z = some p) (k : Fin_r Φ ln N z p) : X mX3_byteAt 25 [some (.ref (16)), some (.int (iN (v1))), none] [] (zmk ln N z) c9 s9 Φ := by
  unfold fX3_byteAt_b25 at h
  refine X_iconst (pc' := 26) dX3_byteAt_25 rfl ?_
  exact X_sub (sub_s (sub_s (sub_n sub_0))) (BX3_byteAt_26 hN hz rv1 (inR_c (n := 0) rfl) h k)
def fX3_byteAt (v1 : Int) (z : ZZ) : Option (Int) := (if (v1) < (0) then fX3_byteAt_b25 (v1) z else (if (v1) < ((z 16 1)) then (if (v1) < (600) then fX3_byteAt_b26 (v1) (1) z else fX3_byteAt_b25 (v1) z) else fX3_byteAt_b25 (v1) z))
set_option maxRecDepth 100000 in
theorem CX3_byteAt {ln : ZR} {N : Nat} {z : ZZ} {v1 : Int} (hN : 151 ≤ N ∧ N < 999999) (hz : okz z) (rv1 : inR v1) {p : Int} (h : fX3_byteAt v1 z = some p) : X mX3_byteAt 0 (xEnt [.ref (16), .int (iN (v1))] (xL mX3_byteAt)) [] (zmk ln N z) (cc_r p) (6 * cc_r p) (Qd (fa_r p) (rs_r p) (st_r ln N z p)) := by
  have k : Fin_r (Qd (fa_r p) (rs_r p) (st_r ln N z p)) ln N z p := Fin_r_i
  unfold fX3_byteAt at h
  refine X_to (M := [some (.ref (16)), some (.int (iN (v1))), none]) (su := []) rfl rfl ?_
  refine X_iload_n (pc' := 1) dX3_byteAt_0 rfl rfl ?_
  refine X_if_lt dX3_byteAt_1 (tgt := 25) rfl (pc' := 4) rfl rv1 (fun c1 => ?_) (fun c1 => ?_)
  · have h := if_t c1 h
    exact X_sub (sub_s (sub_s (sub_n sub_0))) (BX3_byteAt_25 hN hz rv1 h k)
  have h := if_f (Int.not_lt.mpr c1) h
  refine X_iload_n (pc' := 5) dX3_byteAt_4 rfl rfl ?_
  refine X_aload_n (pc' := 6) dX3_byteAt_5 rfl rfl ?_
  refine Y_get (pc' := 9) dX3_byteAt_6 rfl FX3_15 (zlN hN (by decide)) (congrArg Prod.fst (sh16 ln)) (ct16_1 z) ?_
  refine X_icmp_ge dX3_byteAt_9 (tgt := 25) rfl (pc' := 12) rfl ⟨rv1.1, rv1.2, (hz 16 1 (by decide)).1, (hz 16 1 (by decide)).2⟩ (fun c2 => ?_) (fun c2 => ?_)
  · have h := if_f (Int.not_lt.mpr c2) h
    exact X_sub (sub_s (sub_s (sub_n sub_0))) (BX3_byteAt_25 hN hz rv1 h k)
  have h := if_t c2 h
  refine X_iload_n (pc' := 13) dX3_byteAt_12 rfl rfl ?_
  refine X_aload_n (pc' := 14) dX3_byteAt_13 rfl rfl ?_
  refine Y_get (pc' := 17) dX3_byteAt_14 rfl FX3_9 (zlN hN (by decide)) (congrArg Prod.fst (sh16 ln)) (ct16_0 z) ?_
  refine Y_alen (pc' := 18) dX3_byteAt_17 rfl (zlN hN (by decide)) (sh30 ln) (by decide) ?_
  refine X_icmp_ge dX3_byteAt_18 (tgt := 25) rfl (pc' := 21) rfl ⟨rv1.1, rv1.2, (inR_c (n := 600) rfl).1, (inR_c (n := 600) rfl).2⟩ (fun c3 => ?_) (fun c3 => ?_)
  · have h := if_f (Int.not_lt.mpr c3) h
    exact X_sub (sub_s (sub_s (sub_n sub_0))) (BX3_byteAt_25 hN hz rv1 h k)
  have h := if_t c3 h
  refine X_iconst (pc' := 22) dX3_byteAt_21 rfl ?_
  refine X_goto dX3_byteAt_22 (tgt := 26) rfl ?_
  exact X_sub (sub_s (sub_s (sub_n sub_0))) (BX3_byteAt_26 hN hz rv1 (inR_c (n := 1) rfl) h k)
def fX3_hasRoomFor (v1 : Int) (z : ZZ) : Option (Int) := (if (v1) = 0 then (if ((z 16 4)) = (0) then some (1) else some (0)) else (if (v1) = 1 then (Option.bind (fX4_isFull 18 z) fun r4 => (if (r4) = (0) then some (1) else some (0))) else (if (v1) = 2 then (Option.bind (fX4_isFull 24 z) fun r7 => (if (r7) = (0) then some (1) else some (0))) else (if (v1) = 3 then (Option.bind (fX4_isFull 26 z) fun r10 => (if (r10) = (0) then some (1) else some (0))) else (Option.bind (fX4_isFull 28 z) fun r12 => (if (r12) = (0) then some (1) else some (0)))))))
set_option maxRecDepth 100000 in
theorem CX3_hasRoomFor {ln : ZR} {N : Nat} {z : ZZ} {v1 : Int} (hN : 151 ≤ N ∧ N < 999999) (hz : okz z) (rv1 : inR v1) {p : Int} (h : fX3_hasRoomFor v1 z = some p) : X mX3_hasRoomFor 0 (xEnt [.ref (16), .int (iN (v1))] (xL mX3_hasRoomFor)) [] (zmk ln N z) (cc_b p) (6 * cc_b p) (Qd (fa_b p) (rs_b p) (st_b ln N z p)) := by
  have k : Fin_b (Qd (fa_b p) (rs_b p) (st_b ln N z p)) ln N z p := Fin_b_i
  unfold fX3_hasRoomFor at h
  refine X_to (M := [some (.ref (16)), some (.int (iN (v1)))]) (su := []) rfl rfl ?_
  refine X_iload_n (pc' := 1) dX3_hasRoomFor_0 rfl rfl ?_
  by_cases c1 : (v1) = 0
  · refine X_tableIn dX3_hasRoomFor_1 (off := 31) (tgt := 32) rv1 (by rw [c1]; decide) (by rw [c1]; decide) (by rw [c1]; rfl) rfl ?_
    have h := if_t c1 h
    refine X_aload_n (pc' := 33) dX3_hasRoomFor_32 rfl rfl ?_
    refine Y_get (pc' := 36) dX3_hasRoomFor_33 rfl FX3_22 (zlN hN (by decide)) (congrArg Prod.fst (sh16 ln)) (ct16_4 z) ?_
    refine X_if_ne dX3_hasRoomFor_36 (tgt := 43) rfl (pc' := 39) rfl (hz 16 4 (by decide)) (fun c2 => ?_) (fun c2 => ?_)
    · have h := if_f c2 h
      refine X_iconst (pc' := 44) dX3_hasRoomFor_43 rfl ?_
      cases h
      exact X_zret dX3_hasRoomFor_44 rfl (Or.inl rfl) (k (Or.inl rfl))
    have h := if_t c2 h
    refine X_iconst (pc' := 40) dX3_hasRoomFor_39 rfl ?_
    refine X_goto dX3_hasRoomFor_40 (tgt := 44) rfl ?_
    cases h
    exact X_zret dX3_hasRoomFor_44 rfl (Or.inr rfl) (k (Or.inr rfl))
  have h := if_f c1 h
  by_cases c3 : (v1) = 1
  · refine X_tableIn dX3_hasRoomFor_1 (off := 44) (tgt := 45) rv1 (by rw [c3]; decide) (by rw [c3]; decide) (by rw [c3]; rfl) rfl ?_
    have h := if_t c3 h
    refine X_aload_n (pc' := 46) dX3_hasRoomFor_45 rfl rfl ?_
    refine Y_get (pc' := 49) dX3_hasRoomFor_46 rfl FX3_32 (zlN hN (by decide)) (congrArg Prod.fst (sh16 ln)) (ct16_2 z) ?_
    refine Y_get (pc' := 52) dX3_hasRoomFor_49 rfl FX3_74 (zlN hN (by decide)) (congrArg Prod.fst (sh17 ln)) (ct17_0 z) ?_
    obtain ⟨r4, q4, h⟩ := bs h
    refine Y_callV [] (pc' := 55) dX3_hasRoomFor_52 rfl VX3_80 (by decide) (zlN hN (by decide)) (congrArg Prod.fst (sh18 ln)) rfl rfl rfl (cs rfl) (cs rfl) rfl (CX4_isFull hN hz kT18 q4) (Nat.zero_add _).symm (Nat.zero_add _).symm (fun f4 => ?_)
    refine X_if_ne dX3_hasRoomFor_55 (tgt := 62) rfl (pc' := 58) rfl (inR_b f4) (fun c5 => ?_) (fun c5 => ?_)
    · have h := if_f c5 h
      refine X_iconst (pc' := 63) dX3_hasRoomFor_62 rfl ?_
      cases h
      exact X_zret dX3_hasRoomFor_63 rfl (Or.inl rfl) (k (Or.inl rfl))
    have h := if_t c5 h
    refine X_iconst (pc' := 59) dX3_hasRoomFor_58 rfl ?_
    refine X_goto dX3_hasRoomFor_59 (tgt := 63) rfl ?_
    cases h
    exact X_zret dX3_hasRoomFor_63 rfl (Or.inr rfl) (k (Or.inr rfl))
  have h := if_f c3 h
  by_cases c6 : (v1) = 2
  · refine X_tableIn dX3_hasRoomFor_1 (off := 63) (tgt := 64) rv1 (by rw [c6]; decide) (by rw [c6]; decide) (by rw [c6]; rfl) rfl ?_
    have h := if_t c6 h
    refine X_aload_n (pc' := 65) dX3_hasRoomFor_64 rfl rfl ?_
    refine Y_get (pc' := 68) dX3_hasRoomFor_65 rfl FX3_32 (zlN hN (by decide)) (congrArg Prod.fst (sh16 ln)) (ct16_2 z) ?_
    refine Y_get (pc' := 71) dX3_hasRoomFor_68 rfl FX3_86 (zlN hN (by decide)) (congrArg Prod.fst (sh17 ln)) (ct17_3 z) ?_
    obtain ⟨r7, q7, h⟩ := bs h
    refine Y_callV [] (pc' := 74) dX3_hasRoomFor_71 rfl VX3_80 (by decide) (zlN hN (by decide)) (congrArg Prod.fst (sh24 ln)) rfl rfl rfl (cs rfl) (cs rfl) rfl (CX4_isFull hN hz kT24 q7) (Nat.zero_add _).symm (Nat.zero_add _).symm (fun f7 => ?_)
    refine X_if_ne dX3_hasRoomFor_74 (tgt := 81) rfl (pc' := 77) rfl (inR_b f7) (fun c8 => ?_) (fun c8 => ?_)
    · have h := if_f c8 h
      refine X_iconst (pc' := 82) dX3_hasRoomFor_81 rfl ?_
      cases h
      exact X_zret dX3_hasRoomFor_82 rfl (Or.inl rfl) (k (Or.inl rfl))
    have h := if_t c8 h
    refine X_iconst (pc' := 78) dX3_hasRoomFor_77 rfl ?_
    refine X_goto dX3_hasRoomFor_78 (tgt := 82) rfl ?_
    cases h
    exact X_zret dX3_hasRoomFor_82 rfl (Or.inr rfl) (k (Or.inr rfl))
  have h := if_f c6 h
  by_cases c9 : (v1) = 3
  · refine X_tableIn dX3_hasRoomFor_1 (off := 82) (tgt := 83) rv1 (by rw [c9]; decide) (by rw [c9]; decide) (by rw [c9]; rfl) rfl ?_
    have h := if_t c9 h
    refine X_aload_n (pc' := 84) dX3_hasRoomFor_83 rfl rfl ?_
    refine Y_get (pc' := 87) dX3_hasRoomFor_84 rfl FX3_32 (zlN hN (by decide)) (congrArg Prod.fst (sh16 ln)) (ct16_2 z) ?_
    refine Y_get (pc' := 90) dX3_hasRoomFor_87 rfl FX3_89 (zlN hN (by decide)) (congrArg Prod.fst (sh17 ln)) (ct17_4 z) ?_
    obtain ⟨r10, q10, h⟩ := bs h
    refine Y_callV [] (pc' := 93) dX3_hasRoomFor_90 rfl VX3_80 (by decide) (zlN hN (by decide)) (congrArg Prod.fst (sh26 ln)) rfl rfl rfl (cs rfl) (cs rfl) rfl (CX4_isFull hN hz kT26 q10) (Nat.zero_add _).symm (Nat.zero_add _).symm (fun f10 => ?_)
    refine X_if_ne dX3_hasRoomFor_93 (tgt := 100) rfl (pc' := 96) rfl (inR_b f10) (fun c11 => ?_) (fun c11 => ?_)
    · have h := if_f c11 h
      refine X_iconst (pc' := 101) dX3_hasRoomFor_100 rfl ?_
      cases h
      exact X_zret dX3_hasRoomFor_101 rfl (Or.inl rfl) (k (Or.inl rfl))
    have h := if_t c11 h
    refine X_iconst (pc' := 97) dX3_hasRoomFor_96 rfl ?_
    refine X_goto dX3_hasRoomFor_97 (tgt := 101) rfl ?_
    cases h
    exact X_zret dX3_hasRoomFor_101 rfl (Or.inr rfl) (k (Or.inr rfl))
  have h := if_f c9 h
  refine X_tableOut dX3_hasRoomFor_1 (tgt := 102) rv1 (by omega) rfl ?_
  refine X_aload_n (pc' := 103) dX3_hasRoomFor_102 rfl rfl ?_
  refine Y_get (pc' := 106) dX3_hasRoomFor_103 rfl FX3_32 (zlN hN (by decide)) (congrArg Prod.fst (sh16 ln)) (ct16_2 z) ?_
  refine Y_get (pc' := 109) dX3_hasRoomFor_106 rfl FX3_92 (zlN hN (by decide)) (congrArg Prod.fst (sh17 ln)) (ct17_5 z) ?_
  obtain ⟨r12, q12, h⟩ := bs h
  refine Y_callV [] (pc' := 112) dX3_hasRoomFor_109 rfl VX3_80 (by decide) (zlN hN (by decide)) (congrArg Prod.fst (sh28 ln)) rfl rfl rfl (cs rfl) (cs rfl) rfl (CX4_isFull hN hz kT28 q12) (Nat.zero_add _).symm (Nat.zero_add _).symm (fun f12 => ?_)
  refine X_if_ne dX3_hasRoomFor_112 (tgt := 119) rfl (pc' := 115) rfl (inR_b f12) (fun c13 => ?_) (fun c13 => ?_)
  · have h := if_f c13 h
    refine X_iconst (pc' := 120) dX3_hasRoomFor_119 rfl ?_
    cases h
    exact X_zret dX3_hasRoomFor_120 rfl (Or.inl rfl) (k (Or.inl rfl))
  have h := if_t c13 h
  refine X_iconst (pc' := 116) dX3_hasRoomFor_115 rfl ?_
  refine X_goto dX3_hasRoomFor_116 (tgt := 120) rfl ?_
  cases h
  exact X_zret dX3_hasRoomFor_120 rfl (Or.inr rfl) (k (Or.inr rfl))
def fX3_isDigit (v0 : Int) (z : ZZ) : Option (Int) := (if (v0) < (48) then some (0) else (if (57) < (v0) then some (0) else some (1)))
set_option maxRecDepth 100000 in
theorem CX3_isDigit {ln : ZR} {N : Nat} {z : ZZ} {v0 : Int} (hN : 151 ≤ N ∧ N < 999999) (hz : okz z) (rv0 : inR v0) {p : Int} (h : fX3_isDigit v0 z = some p) : X mX3_isDigit 0 (xEnt [.int (iN (v0))] (xL mX3_isDigit)) [] (zmk ln N z) (cc_b p) (6 * cc_b p) (Qd (fa_b p) (rs_b p) (st_b ln N z p)) := by
  have k : Fin_b (Qd (fa_b p) (rs_b p) (st_b ln N z p)) ln N z p := Fin_b_i
  unfold fX3_isDigit at h
  refine X_to (M := [some (.int (iN (v0)))]) (su := []) rfl rfl ?_
  refine X_iload_n (pc' := 1) dX3_isDigit_0 rfl rfl ?_
  refine X_bipush (pc' := 3) dX3_isDigit_1 rfl (by decide) ?_
  refine X_icmp_lt dX3_isDigit_3 (tgt := 16) rfl (pc' := 6) rfl ⟨rv0.1, rv0.2, (inR_c (n := 48) rfl).1, (inR_c (n := 48) rfl).2⟩ (fun c1 => ?_) (fun c1 => ?_)
  · have h := if_t c1 h
    refine X_iconst (pc' := 17) dX3_isDigit_16 rfl ?_
    cases h
    exact X_zret dX3_isDigit_17 rfl (Or.inl rfl) (k (Or.inl rfl))
  have h := if_f (Int.not_lt.mpr c1) h
  refine X_iload_n (pc' := 7) dX3_isDigit_6 rfl rfl ?_
  refine X_bipush (pc' := 9) dX3_isDigit_7 rfl (by decide) ?_
  refine X_icmp_gt dX3_isDigit_9 (tgt := 16) rfl (pc' := 12) rfl ⟨rv0.1, rv0.2, (inR_c (n := 57) rfl).1, (inR_c (n := 57) rfl).2⟩ (fun c2 => ?_) (fun c2 => ?_)
  · have h := if_t c2 h
    refine X_iconst (pc' := 17) dX3_isDigit_16 rfl ?_
    cases h
    exact X_zret dX3_isDigit_17 rfl (Or.inl rfl) (k (Or.inl rfl))
  have h := if_f (Int.not_lt.mpr c2) h
  refine X_iconst (pc' := 13) dX3_isDigit_12 rfl ?_
  refine X_goto dX3_isDigit_13 (tgt := 17) rfl ?_
  cases h
  exact X_zret dX3_isDigit_17 rfl (Or.inr rfl) (k (Or.inr rfl))
def fX3_isInRange (v0 : Int) (v1 : Int) (v2 : Int) (z : ZZ) : Option (Int) := (if inR (((v0 * 3) + v1)) then (if (((v0 * 3) + v1)) < (0) then some (0) else (if (((v0 * 3) + v1)) < (15) then (if (((v0 * 3) + v1)) < (15) then (if (v2) < ((zKC 1000002 (((v0 * 3) + v1)))) then some (0) else (if ((zKC 1000003 (((v0 * 3) + v1)))) < (v2) then some (0) else some (1))) else some (0)) else some (0))) else none)
set_option maxRecDepth 100000 in
theorem CX3_isInRange {ln : ZR} {N : Nat} {z : ZZ} {v0 : Int} {v1 : Int} {v2 : Int} (hN : 151 ≤ N ∧ N < 999999) (hz : okz z) (rv0 : inR v0) (rv1 : inR v1) (rv2 : inR v2) {p : Int} (h : fX3_isInRange v0 v1 v2 z = some p) : X mX3_isInRange 0 (xEnt [.int (iN (v0)), .int (iN (v1)), .int (iN (v2))] (xL mX3_isInRange)) [] (zmk ln N z) (cc_b p) (6 * cc_b p) (Qd (fa_b p) (rs_b p) (st_b ln N z p)) := by
  have k : Fin_b (Qd (fa_b p) (rs_b p) (st_b ln N z p)) ln N z p := Fin_b_i
  unfold fX3_isInRange at h
  refine X_to (M := [some (.int (iN (v0))), some (.int (iN (v1))), some (.int (iN (v2))), none]) (su := []) rfl rfl ?_
  refine X_iload_n (pc' := 1) dX3_isInRange_0 rfl rfl ?_
  refine X_iconst (pc' := 2) dX3_isInRange_1 rfl ?_
  refine X_imul (pc' := 3) dX3_isInRange_2 rfl ?_
  refine X_iload_n (pc' := 4) dX3_isInRange_3 rfl rfl ?_
  refine X_iadd (pc' := 5) dX3_isInRange_4 rfl ?_
  refine X_istore_n (pc' := 6) dX3_isInRange_5 rfl (cl rfl) (Or.inr rfl) (L' := [some (.int (iN (v0))), some (.int (iN (v1))), some (.int (iN (v2))), some (.int (iN (((v0 * 3) + v1))))]) rfl ?_
  refine X_iload_n (pc' := 7) dX3_isInRange_6 rfl rfl ?_
  obtain ⟨g1, h⟩ := gs h
  refine X_if_lt dX3_isInRange_7 (tgt := 48) rfl (pc' := 10) rfl g1 (fun c2 => ?_) (fun c2 => ?_)
  · have h := if_t c2 h
    refine X_iconst (pc' := 49) dX3_isInRange_48 rfl ?_
    cases h
    exact X_zret dX3_isInRange_49 rfl (Or.inl rfl) (k (Or.inl rfl))
  have h := if_f (Int.not_lt.mpr c2) h
  refine X_iload_n (pc' := 11) dX3_isInRange_10 rfl rfl ?_
  refine X_gets (pc' := 14) dX3_isInRange_11 rfl (List.mem_of_getElem? (i := 1) rfl) tq372 ?_
  refine X_alenS (pc' := 15) dX3_isInRange_14 rfl (by decide) (sh1000002 ln) (Or.inl rfl) ?_
  refine X_icmp_ge dX3_isInRange_15 (tgt := 48) rfl (pc' := 18) rfl ⟨g1.1, g1.2, (inR_c (n := 15) rfl).1, (inR_c (n := 15) rfl).2⟩ (fun c3 => ?_) (fun c3 => ?_)
  · have h := if_f (Int.not_lt.mpr c3) h
    refine X_iconst (pc' := 49) dX3_isInRange_48 rfl ?_
    cases h
    exact X_zret dX3_isInRange_49 rfl (Or.inl rfl) (k (Or.inl rfl))
  have h := if_t c3 h
  refine X_iload_n (pc' := 19) dX3_isInRange_18 rfl rfl ?_
  refine X_gets (pc' := 22) dX3_isInRange_19 rfl (List.mem_of_getElem? (i := 2) rfl) tq374 ?_
  refine X_alenS (pc' := 23) dX3_isInRange_22 rfl (by decide) (sh1000003 ln) (Or.inl rfl) ?_
  refine X_icmp_ge dX3_isInRange_23 (tgt := 48) rfl (pc' := 26) rfl ⟨g1.1, g1.2, (inR_c (n := 15) rfl).1, (inR_c (n := 15) rfl).2⟩ (fun c4 => ?_) (fun c4 => ?_)
  · have h := if_f (Int.not_lt.mpr c4) h
    refine X_iconst (pc' := 49) dX3_isInRange_48 rfl ?_
    cases h
    exact X_zret dX3_isInRange_49 rfl (Or.inl rfl) (k (Or.inl rfl))
  have h := if_t c4 h
  refine X_iload_n (pc' := 27) dX3_isInRange_26 rfl rfl ?_
  refine X_gets (pc' := 30) dX3_isInRange_27 rfl (List.mem_of_getElem? (i := 1) rfl) tq372 ?_
  refine X_iload_n (pc' := 31) dX3_isInRange_30 rfl rfl ?_
  refine Y_ialdK (pc' := 32) dX3_isInRange_31 rfl (by decide) (sh1000002 ln) (by decide) ⟨c2, c4⟩ ?_
  refine X_icmp_lt dX3_isInRange_32 (tgt := 48) rfl (pc' := 35) rfl ⟨rv2.1, rv2.2, (inR_K1000002 _).1, (inR_K1000002 _).2⟩ (fun c5 => ?_) (fun c5 => ?_)
  · have h := if_t c5 h
    refine X_iconst (pc' := 49) dX3_isInRange_48 rfl ?_
    cases h
    exact X_zret dX3_isInRange_49 rfl (Or.inl rfl) (k (Or.inl rfl))
  have h := if_f (Int.not_lt.mpr c5) h
  refine X_iload_n (pc' := 36) dX3_isInRange_35 rfl rfl ?_
  refine X_gets (pc' := 39) dX3_isInRange_36 rfl (List.mem_of_getElem? (i := 2) rfl) tq374 ?_
  refine X_iload_n (pc' := 40) dX3_isInRange_39 rfl rfl ?_
  refine Y_ialdK (pc' := 41) dX3_isInRange_40 rfl (by decide) (sh1000003 ln) (by decide) ⟨c2, c4⟩ ?_
  refine X_icmp_gt dX3_isInRange_41 (tgt := 48) rfl (pc' := 44) rfl ⟨rv2.1, rv2.2, (inR_K1000003 _).1, (inR_K1000003 _).2⟩ (fun c6 => ?_) (fun c6 => ?_)
  · have h := if_t c6 h
    refine X_iconst (pc' := 49) dX3_isInRange_48 rfl ?_
    cases h
    exact X_zret dX3_isInRange_49 rfl (Or.inl rfl) (k (Or.inl rfl))
  have h := if_f (Int.not_lt.mpr c6) h
  refine X_iconst (pc' := 45) dX3_isInRange_44 rfl ?_
  refine X_goto dX3_isInRange_45 (tgt := 49) rfl ?_
  cases h
  exact X_zret dX3_isInRange_49 rfl (Or.inr rfl) (k (Or.inr rfl))
def fX3_isLetter (v0 : Int) (z : ZZ) : Option (Int) := (if (v0) < (97) then some (0) else (if (122) < (v0) then some (0) else some (1)))
set_option maxRecDepth 100000 in
theorem CX3_isLetter {ln : ZR} {N : Nat} {z : ZZ} {v0 : Int} (hN : 151 ≤ N ∧ N < 999999) (hz : okz z) (rv0 : inR v0) {p : Int} (h : fX3_isLetter v0 z = some p) : X mX3_isLetter 0 (xEnt [.int (iN (v0))] (xL mX3_isLetter)) [] (zmk ln N z) (cc_b p) (6 * cc_b p) (Qd (fa_b p) (rs_b p) (st_b ln N z p)) := by
  have k : Fin_b (Qd (fa_b p) (rs_b p) (st_b ln N z p)) ln N z p := Fin_b_i
  unfold fX3_isLetter at h
  refine X_to (M := [some (.int (iN (v0)))]) (su := []) rfl rfl ?_
  refine X_iload_n (pc' := 1) dX3_isLetter_0 rfl rfl ?_
  refine X_bipush (pc' := 3) dX3_isLetter_1 rfl (by decide) ?_
  refine X_icmp_lt dX3_isLetter_3 (tgt := 16) rfl (pc' := 6) rfl ⟨rv0.1, rv0.2, (inR_c (n := 97) rfl).1, (inR_c (n := 97) rfl).2⟩ (fun c1 => ?_) (fun c1 => ?_)
  · have h := if_t c1 h
    refine X_iconst (pc' := 17) dX3_isLetter_16 rfl ?_
    cases h
    exact X_zret dX3_isLetter_17 rfl (Or.inl rfl) (k (Or.inl rfl))
  have h := if_f (Int.not_lt.mpr c1) h
  refine X_iload_n (pc' := 7) dX3_isLetter_6 rfl rfl ?_
  refine X_bipush (pc' := 9) dX3_isLetter_7 rfl (by decide) ?_
  refine X_icmp_gt dX3_isLetter_9 (tgt := 16) rfl (pc' := 12) rfl ⟨rv0.1, rv0.2, (inR_c (n := 122) rfl).1, (inR_c (n := 122) rfl).2⟩ (fun c2 => ?_) (fun c2 => ?_)
  · have h := if_t c2 h
    refine X_iconst (pc' := 17) dX3_isLetter_16 rfl ?_
    cases h
    exact X_zret dX3_isLetter_17 rfl (Or.inl rfl) (k (Or.inl rfl))
  have h := if_f (Int.not_lt.mpr c2) h
  refine X_iconst (pc' := 13) dX3_isLetter_12 rfl ?_
  refine X_goto dX3_isLetter_13 (tgt := 17) rfl ?_
  cases h
  exact X_zret dX3_isLetter_17 rfl (Or.inr rfl) (k (Or.inr rfl))
def fX3_wordOf (v0 : Int) (z : ZZ) : Option (Nat) := (if (v0) = 0 then some (1000100) else (if (v0) = 1 then some (1000101) else (if (v0) = 2 then some (1000102) else (if (v0) = 3 then some (1000103) else some (1000104)))))
set_option maxRecDepth 100000 in
theorem CX3_wordOf {ln : ZR} {N : Nat} {z : ZZ} {v0 : Int} (hN : 151 ≤ N ∧ N < 999999) (hz : okz z) (rv0 : inR v0) {p : Nat} (h : fX3_wordOf v0 z = some p) : X mX3_wordOf 0 (xEnt [.int (iN (v0))] (xL mX3_wordOf)) [] (zmk ln N z) (cc_aw p) (6 * cc_aw p) (Qd (fa_aw p) (rs_aw p) (st_aw ln N z p)) := by
  have k : Fin_aw (Qd (fa_aw p) (rs_aw p) (st_aw ln N z p)) ln N z p := Fin_aw_i
  unfold fX3_wordOf at h
  refine X_to (M := [some (.int (iN (v0)))]) (su := []) rfl rfl ?_
  refine X_iload_n (pc' := 1) dX3_wordOf_0 rfl rfl ?_
  by_cases c1 : (v0) = 0
  · refine X_tableIn dX3_wordOf_1 (off := 31) (tgt := 32) rv0 (by rw [c1]; decide) (by rw [c1]; decide) (by rw [c1]; rfl) rfl ?_
    have h := if_t c1 h
    refine X_ldcS (pc' := 34) dX3_wordOf_32 rfl strX3_56 (by decide) ?_
    cases h
    exact X_aret dX3_wordOf_34 rfl (k wW1000100)
  have h := if_f c1 h
  by_cases c2 : (v0) = 1
  · refine X_tableIn dX3_wordOf_1 (off := 34) (tgt := 35) rv0 (by rw [c2]; decide) (by rw [c2]; decide) (by rw [c2]; rfl) rfl ?_
    have h := if_t c2 h
    refine X_ldcS (pc' := 37) dX3_wordOf_35 rfl strX3_58 (by decide) ?_
    cases h
    exact X_aret dX3_wordOf_37 rfl (k wW1000101)
  have h := if_f c2 h
  by_cases c3 : (v0) = 2
  · refine X_tableIn dX3_wordOf_1 (off := 37) (tgt := 38) rv0 (by rw [c3]; decide) (by rw [c3]; decide) (by rw [c3]; rfl) rfl ?_
    have h := if_t c3 h
    refine X_ldcS (pc' := 40) dX3_wordOf_38 rfl strX3_60 (by decide) ?_
    cases h
    exact X_aret dX3_wordOf_40 rfl (k wW1000102)
  have h := if_f c3 h
  by_cases c4 : (v0) = 3
  · refine X_tableIn dX3_wordOf_1 (off := 40) (tgt := 41) rv0 (by rw [c4]; decide) (by rw [c4]; decide) (by rw [c4]; rfl) rfl ?_
    have h := if_t c4 h
    refine X_ldcS (pc' := 43) dX3_wordOf_41 rfl strX3_62 (by decide) ?_
    cases h
    exact X_aret dX3_wordOf_43 rfl (k wW1000103)
  have h := if_f c4 h
  refine X_tableOut dX3_wordOf_1 (tgt := 44) rv0 (by omega) rfl ?_
  refine X_ldcS (pc' := 46) dX3_wordOf_44 rfl strX3_64 (by decide) ?_
  cases h
  exact X_aret dX3_wordOf_46 rfl (k wW1000104)
def fX3_tokenIs_s20 (w : Nat) (v2 : Int) (z : ZZ) : Option ((Int) ⊕ ((Unit) ⊕ (Int))) := (if (v2) < ((zlen w)) then (if inR (((z 16 5) + v2)) then (Option.bind (fX3_byteAt (((z 16 5) + v2)) z) fun r3 => (if (0 : Int) ≤ (v2) ∧ (v2) < (zlen w : Int) then (if (r3) = ((zKC (w + 100) (v2))) then (if inR ((v2 + 1)) then some (.inl (v2 + 1)) else none) else some (.inr (.inr ((0))))) else none)) else none) else some (.inr (.inl ())))
set_option maxRecDepth 100000 in
theorem SX3_tokenIs_20 {ln : ZR} {N : Nat} {z : ZZ} {w : Nat} {v2 : Int} {c9 s9 : Nat} {Φ : xRes → xS → Prop} (hN : 151 ≤ N ∧ N < 999999) (hz : okz z) (hw : isW w) (rv2 : inR v2) {p : (Int) ⊕ ((Unit) ⊕ (Int))} (h : fX3_tokenIs_s20 w v2 z = some p) (k1 : ∀ (v2' : Int), p = .inl v2' → inR v2' → X mX3_tokenIs 20 [some (.ref (16)), some (.ref (w)), some (.int (iN (v2')))] [] (zmk ln N z) c9 s9 Φ) (k2 : p = .inr (.inl ()) → X mX3_tokenIs 54 [none, none, none] [] (zmk ln N z) c9 s9 Φ) (k3 : ∀ t, p = .inr (.inr t) → Fin_b Φ ln N z t) : X mX3_tokenIs 20 [some (.ref (16)), some (.ref (w)), some (.int (iN (v2)))] [] (zmk ln N z) c9 s9 Φ := by
  unfold fX3_tokenIs_s20 at h
  refine X_iload_n (pc' := 21) dX3_tokenIs_20 rfl rfl ?_
  refine X_aload_n (pc' := 22) dX3_tokenIs_21 rfl rfl ?_
  refine Y_callW [] (pc' := 25) dX3_tokenIs_22 rfl VX3_47 (by decide) (isW_ge hw) (isW_sh hw ln) rfl rfl (cs rfl) (cs rfl) rfl (CJlen hw) (Nat.zero_add _).symm (Nat.zero_add _).symm (fun _ => ?_)
  refine X_icmp_ge dX3_tokenIs_25 (tgt := 54) rfl (pc' := 28) rfl ⟨rv2.1, rv2.2, (inR_len hw).1, (inR_len hw).2⟩ (fun c1 => ?_) (fun c1 => ?_)
  · have h := if_f (Int.not_lt.mpr c1) h
    cases h
    exact X_sub (sub_n (sub_n (sub_n sub_0))) (k2  rfl )
  have h := if_t c1 h
  refine X_aload_n (pc' := 29) dX3_tokenIs_28 rfl rfl ?_
  refine X_aload_n (pc' := 30) dX3_tokenIs_29 rfl rfl ?_
  refine Y_get (pc' := 33) dX3_tokenIs_30 rfl FX3_26 (zlN hN (by decide)) (congrArg Prod.fst (sh16 ln)) (ct16_5 z) ?_
  refine X_iload_n (pc' := 34) dX3_tokenIs_33 rfl rfl ?_
  refine X_iadd (pc' := 35) dX3_tokenIs_34 rfl ?_
  obtain ⟨g2, h⟩ := gs h
  obtain ⟨r3, q3, h⟩ := bs h
  refine Y_callV [.int (iN (((z 16 5) + v2)))] (pc' := 38) dX3_tokenIs_35 rfl VX3_36 (by decide) (zlN hN (by decide)) (congrArg Prod.fst (sh16 ln)) rfl rfl rfl (cs rfl) (cs rfl) rfl (CX3_byteAt hN hz g2 q3) (Nat.zero_add _).symm (Nat.zero_add _).symm (fun f3 => ?_)
  refine X_aload_n (pc' := 39) dX3_tokenIs_38 rfl rfl ?_
  refine X_iload_n (pc' := 40) dX3_tokenIs_39 rfl rfl ?_
  obtain ⟨g4, h⟩ := gs h
  refine Y_callW [.int (iN (v2))] (pc' := 43) dX3_tokenIs_40 rfl VX3_52 (by decide) (isW_ge hw) (isW_sh hw ln) rfl rfl (cs rfl) (cs rfl) rfl (CJchar hw g4) (Nat.zero_add _).symm (Nat.zero_add _).symm (fun _ => ?_)
  refine X_icmp_eq dX3_tokenIs_43 (tgt := 48) rfl (pc' := 46) rfl ⟨f3.1, f3.2, (inR_ch hw g4).1, (inR_ch hw g4).2⟩ (fun c5 => ?_) (fun c5 => ?_)
  · have h := if_t c5 h
    refine X_iinc (pc' := 51) dX3_tokenIs_48 rfl rfl (Or.inr rfl) (L' := [some (.ref (16)), some (.ref (w)), some (.int (iN (v2 + 1)))]) rfl ?_
    refine X_goto dX3_tokenIs_51 (tgt := 20) rfl ?_
    obtain ⟨g6, h⟩ := gs h
    cases h
    exact X_sub (sub_s (sub_s (sub_s sub_0))) (k1 _ rfl g6)
  have h := if_f c5 h
  refine X_iconst (pc' := 47) dX3_tokenIs_46 rfl ?_
  cases h
  exact X_zret dX3_tokenIs_47 rfl (Or.inl rfl) ((k3 _ rfl) (Or.inl rfl))
theorem LX3_tokenIs_20 {ln : ZR} {N : Nat} {z : ZZ} {w : Nat} {c9 s9 : Nat} {Φ : xRes → xS → Prop} (hN : 151 ≤ N ∧ N < 999999) (hz : okz z) (hw : isW w) {r : (Unit) ⊕ (Int)} (k2 : r = .inl () → X mX3_tokenIs 54 [none, none, none] [] (zmk ln N z) c9 s9 Φ) (k3 : ∀ t, r = .inr t → Fin_b Φ ln N z t) : ∀ (n : Nat) (v2 : Int), inR v2 → zlp (fun q => fX3_tokenIs_s20 w q z) n v2 = some r → X mX3_tokenIs 20 [some (.ref (16)), some (.ref (w)), some (.int (iN (v2)))] [] (zmk ln N z) c9 s9 Φ := by
  intro n
  induction n with
  | zero => intro v2 rv2 h; cases h
  | succ n ih =>
    intro v2 rv2 h
    rcases zlp_s h with ⟨v2', e, h'⟩ | e
    · exact SX3_tokenIs_20 hN hz hw rv2 e (fun v2₁ hh f0 => by cases hh; exact ih _ f0 h') (fun hh => by cases hh) (fun t hh => by cases hh)
    · exact SX3_tokenIs_20 hN hz hw rv2 e (fun v2₁ hh f0 => by cases hh) (fun hh => by cases hh; exact k2 rfl) (fun t hh => by cases hh; exact k3 t rfl)
def fX3_tokenIs (w : Nat) (z : ZZ) : Option (Int) := (if inR (((z 16 6) - (z 16 5))) then (if (((z 16 6) - (z 16 5))) = ((zlen w)) then (Option.bind (zlp (fun q => fX3_tokenIs_s20 w q z) FU 0) fun q3 => match q3 with | .inl () => some (1) | .inr y3 => some y3) else some (0)) else none)
set_option maxRecDepth 100000 in
theorem CX3_tokenIs {ln : ZR} {N : Nat} {z : ZZ} {w : Nat} (hN : 151 ≤ N ∧ N < 999999) (hz : okz z) (hw : isW w) {p : Int} (h : fX3_tokenIs w z = some p) : X mX3_tokenIs 0 (xEnt [.ref (16), .ref (w)] (xL mX3_tokenIs)) [] (zmk ln N z) (cc_b p) (6 * cc_b p) (Qd (fa_b p) (rs_b p) (st_b ln N z p)) := by
  have k : Fin_b (Qd (fa_b p) (rs_b p) (st_b ln N z p)) ln N z p := Fin_b_i
  unfold fX3_tokenIs at h
  refine X_to (M := [some (.ref (16)), some (.ref (w)), none]) (su := []) rfl rfl ?_
  refine X_aload_n (pc' := 1) dX3_tokenIs_0 rfl rfl ?_
  refine Y_get (pc' := 4) dX3_tokenIs_1 rfl FX3_29 (zlN hN (by decide)) (congrArg Prod.fst (sh16 ln)) (ct16_6 z) ?_
  refine X_aload_n (pc' := 5) dX3_tokenIs_4 rfl rfl ?_
  refine Y_get (pc' := 8) dX3_tokenIs_5 rfl FX3_26 (zlN hN (by decide)) (congrArg Prod.fst (sh16 ln)) (ct16_5 z) ?_
  refine X_isub (pc' := 9) dX3_tokenIs_8 rfl ?_
  refine X_aload_n (pc' := 10) dX3_tokenIs_9 rfl rfl ?_
  refine Y_callW [] (pc' := 13) dX3_tokenIs_10 rfl VX3_47 (by decide) (isW_ge hw) (isW_sh hw ln) rfl rfl (cs rfl) (cs rfl) rfl (CJlen hw) (Nat.zero_add _).symm (Nat.zero_add _).symm (fun _ => ?_)
  obtain ⟨g1, h⟩ := gs h
  refine X_icmp_eq dX3_tokenIs_13 (tgt := 18) rfl (pc' := 16) rfl ⟨g1.1, g1.2, (inR_len hw).1, (inR_len hw).2⟩ (fun c2 => ?_) (fun c2 => ?_)
  · have h := if_t c2 h
    refine X_iconst (pc' := 19) dX3_tokenIs_18 rfl ?_
    refine X_istore_n (pc' := 20) dX3_tokenIs_19 rfl (cl rfl) (Or.inr rfl) (L' := [some (.ref (16)), some (.ref (w)), some (.int (iN (0)))]) rfl ?_
    obtain ⟨⟨⟩ | y3, q3, h⟩ := bs h
    rotate_left
    · exact X_sub (sub_s (sub_s (sub_s sub_0))) (LX3_tokenIs_20 hN hz hw (fun hh => by cases hh) (fun t hh => by cases hh; cases h; exact k) FU _ (inR_c (n := 0) rfl) q3)
    refine X_sub (sub_s (sub_s (sub_s sub_0))) (LX3_tokenIs_20 hN hz hw (fun hh => ?_) (fun t hh => by cases hh) FU _ (inR_c (n := 0) rfl) q3)
    cases hh
    refine X_iconst (pc' := 55) dX3_tokenIs_54 rfl ?_
    cases h
    exact X_zret dX3_tokenIs_55 rfl (Or.inr rfl) (k (Or.inr rfl))
  have h := if_f c2 h
  refine X_iconst (pc' := 17) dX3_tokenIs_16 rfl ?_
  cases h
  exact X_zret dX3_tokenIs_17 rfl (Or.inl rfl) (k (Or.inl rfl))
def fX3_kindOfToken_s2 (v1 : Int) (z : ZZ) : Option ((Int) ⊕ ((Unit) ⊕ (Int))) := (if (v1) < (5) then (Option.bind (fX3_wordOf (v1) z) fun r2 => (Option.bind (fX3_tokenIs r2 z) fun r3 => (if (r3) = (0) then (if inR ((v1 + 1)) then some (.inl (v1 + 1)) else none) else some (.inr (.inr ((v1))))))) else some (.inr (.inl ())))
set_option maxRecDepth 100000 in
theorem SX3_kindOfToken_2 {ln : ZR} {N : Nat} {z : ZZ} {v1 : Int} {c9 s9 : Nat} {Φ : xRes → xS → Prop} (hN : 151 ≤ N ∧ N < 999999) (hz : okz z) (rv1 : inR v1) {p : (Int) ⊕ ((Unit) ⊕ (Int))} (h : fX3_kindOfToken_s2 v1 z = some p) (k1 : ∀ (v1' : Int), p = .inl v1' → inR v1' → X mX3_kindOfToken 2 [some (.ref (16)), some (.int (iN (v1')))] [] (zmk ln N z) c9 s9 Φ) (k2 : p = .inr (.inl ()) → X mX3_kindOfToken 26 [none, none] [] (zmk ln N z) c9 s9 Φ) (k3 : ∀ t, p = .inr (.inr t) → Fin_r Φ ln N z t) : X mX3_kindOfToken 2 [some (.ref (16)), some (.int (iN (v1)))] [] (zmk ln N z) c9 s9 Φ := by
  unfold fX3_kindOfToken_s2 at h
  refine X_iload_n (pc' := 3) dX3_kindOfToken_2 rfl rfl ?_
  refine X_iconst (pc' := 4) dX3_kindOfToken_3 rfl ?_
  refine X_icmp_ge dX3_kindOfToken_4 (tgt := 26) rfl (pc' := 7) rfl ⟨rv1.1, rv1.2, (inR_c (n := 5) rfl).1, (inR_c (n := 5) rfl).2⟩ (fun c1 => ?_) (fun c1 => ?_)
  · have h := if_f (Int.not_lt.mpr c1) h
    cases h
    exact X_sub (sub_n (sub_n sub_0)) (k2  rfl )
  have h := if_t c1 h
  refine X_aload_n (pc' := 8) dX3_kindOfToken_7 rfl rfl ?_
  refine X_iload_n (pc' := 9) dX3_kindOfToken_8 rfl rfl ?_
  obtain ⟨r2, q2, h⟩ := bs h
  refine Y_callS [.int (iN (v1))] (pc' := 12) dX3_kindOfToken_9 rfl SX3_66 (by decide) rfl (cs rfl) (cs rfl) rfl (CX3_wordOf hN hz rv1 q2) (Nat.zero_add _).symm (Nat.zero_add _).symm (fun f2 => ?_)
  obtain ⟨r3, q3, h⟩ := bs h
  refine Y_callV [.ref (r2)] (pc' := 15) dX3_kindOfToken_12 rfl VX3_70 (by decide) (zlN hN (by decide)) (congrArg Prod.fst (sh16 ln)) rfl rfl rfl (cs rfl) (cs rfl) rfl (CX3_tokenIs hN hz f2 q3) (Nat.zero_add _).symm (Nat.zero_add _).symm (fun f3 => ?_)
  refine X_if_eq dX3_kindOfToken_15 (tgt := 20) rfl (pc' := 18) rfl (inR_b f3) (fun c4 => ?_) (fun c4 => ?_)
  · have h := if_t c4 h
    refine X_iinc (pc' := 23) dX3_kindOfToken_20 rfl rfl (Or.inr rfl) (L' := [some (.ref (16)), some (.int (iN (v1 + 1)))]) rfl ?_
    refine X_goto dX3_kindOfToken_23 (tgt := 2) rfl ?_
    obtain ⟨g5, h⟩ := gs h
    cases h
    exact X_sub (sub_s (sub_s sub_0)) (k1 _ rfl g5)
  have h := if_f c4 h
  refine X_iload_n (pc' := 19) dX3_kindOfToken_18 rfl rfl ?_
  cases h
  exact X_iret dX3_kindOfToken_19 rfl ((k3 _ rfl) rv1)
theorem LX3_kindOfToken_2 {ln : ZR} {N : Nat} {z : ZZ} {c9 s9 : Nat} {Φ : xRes → xS → Prop} (hN : 151 ≤ N ∧ N < 999999) (hz : okz z) {r : (Unit) ⊕ (Int)} (k2 : r = .inl () → X mX3_kindOfToken 26 [none, none] [] (zmk ln N z) c9 s9 Φ) (k3 : ∀ t, r = .inr t → Fin_r Φ ln N z t) : ∀ (n : Nat) (v1 : Int), inR v1 → zlp (fun q => fX3_kindOfToken_s2 q z) n v1 = some r → X mX3_kindOfToken 2 [some (.ref (16)), some (.int (iN (v1)))] [] (zmk ln N z) c9 s9 Φ := by
  intro n
  induction n with
  | zero => intro v1 rv1 h; cases h
  | succ n ih =>
    intro v1 rv1 h
    rcases zlp_s h with ⟨v1', e, h'⟩ | e
    · exact SX3_kindOfToken_2 hN hz rv1 e (fun v1₁ hh f0 => by cases hh; exact ih _ f0 h') (fun hh => by cases hh) (fun t hh => by cases hh)
    · exact SX3_kindOfToken_2 hN hz rv1 e (fun v1₁ hh f0 => by cases hh) (fun hh => by cases hh; exact k2 rfl) (fun t hh => by cases hh; exact k3 t rfl)
def fX3_kindOfToken (z : ZZ) : Option (Int) := (Option.bind (zlp (fun q => fX3_kindOfToken_s2 q z) FU 0) fun q1 => match q1 with | .inl () => some ((-1)) | .inr y1 => some y1)
set_option maxRecDepth 100000 in
theorem CX3_kindOfToken {ln : ZR} {N : Nat} {z : ZZ} (hN : 151 ≤ N ∧ N < 999999) (hz : okz z) {p : Int} (h : fX3_kindOfToken z = some p) : X mX3_kindOfToken 0 (xEnt [.ref (16)] (xL mX3_kindOfToken)) [] (zmk ln N z) (cc_r p) (6 * cc_r p) (Qd (fa_r p) (rs_r p) (st_r ln N z p)) := by
  have k : Fin_r (Qd (fa_r p) (rs_r p) (st_r ln N z p)) ln N z p := Fin_r_i
  unfold fX3_kindOfToken at h
  refine X_to (M := [some (.ref (16)), none]) (su := []) rfl rfl ?_
  refine X_iconst (pc' := 1) dX3_kindOfToken_0 rfl ?_
  refine X_istore_n (pc' := 2) dX3_kindOfToken_1 rfl (cl rfl) (Or.inr rfl) (L' := [some (.ref (16)), some (.int (iN (0)))]) rfl ?_
  obtain ⟨⟨⟩ | y1, q1, h⟩ := bs h
  rotate_left
  · exact X_sub (sub_s (sub_s sub_0)) (LX3_kindOfToken_2 hN hz (fun hh => by cases hh) (fun t hh => by cases hh; cases h; exact k) FU _ (inR_c (n := 0) rfl) q1)
  refine X_sub (sub_s (sub_s sub_0)) (LX3_kindOfToken_2 hN hz (fun hh => ?_) (fun t hh => by cases hh) FU _ (inR_c (n := 0) rfl) q1)
  cases hh
  refine X_iconst (pc' := 27) dX3_kindOfToken_26 rfl ?_
  cases h
  exact X_iret dX3_kindOfToken_27 rfl (k (inR_c (n := (-1)) rfl))
def fX3_numberOfToken_s36 (v1 : Int) (v2 : Int) (z : ZZ) : Option ((Int × Int) ⊕ (Int)) := (if (v2) < ((z 16 6)) then (Option.bind (fX3_byteAt (v2) z) fun r2 => (if inR ((((v1 * 10) + r2) - 48)) then (if inR ((v2 + 1)) then some (.inl ((((v1 * 10) + r2) - 48), (v2 + 1))) else none) else none)) else some (.inr v1))
set_option maxRecDepth 100000 in
theorem SX3_numberOfToken_36 {ln : ZR} {N : Nat} {z : ZZ} {v1 : Int} {v2 : Int} {c9 s9 : Nat} {Φ : xRes → xS → Prop} (hN : 151 ≤ N ∧ N < 999999) (hz : okz z) (rv1 : inR v1) (rv2 : inR v2) {p : (Int × Int) ⊕ (Int)} (h : fX3_numberOfToken_s36 v1 v2 z = some p) (k1 : ∀ (v1' : Int) (v2' : Int), p = .inl (v1', v2') → inR v1' → inR v2' → X mX3_numberOfToken 36 [some (.ref (16)), some (.int (iN (v1'))), some (.int (iN (v2')))] [] (zmk ln N z) c9 s9 Φ) (k2 : ∀ (v1' : Int), p = .inr v1' → inR v1' → X mX3_numberOfToken 64 [none, some (.int (iN (v1'))), none] [] (zmk ln N z) c9 s9 Φ) : X mX3_numberOfToken 36 [some (.ref (16)), some (.int (iN (v1))), some (.int (iN (v2)))] [] (zmk ln N z) c9 s9 Φ := by
  unfold fX3_numberOfToken_s36 at h
  refine X_iload_n (pc' := 37) dX3_numberOfToken_36 rfl rfl ?_
  refine X_aload_n (pc' := 38) dX3_numberOfToken_37 rfl rfl ?_
  refine Y_get (pc' := 41) dX3_numberOfToken_38 rfl FX3_29 (zlN hN (by decide)) (congrArg Prod.fst (sh16 ln)) (ct16_6 z) ?_
  refine X_icmp_ge dX3_numberOfToken_41 (tgt := 64) rfl (pc' := 44) rfl ⟨rv2.1, rv2.2, (hz 16 6 (by decide)).1, (hz 16 6 (by decide)).2⟩ (fun c1 => ?_) (fun c1 => ?_)
  · have h := if_f (Int.not_lt.mpr c1) h
    cases h
    exact X_sub (sub_n (sub_s (sub_n sub_0))) (k2 _ rfl rv1)
  have h := if_t c1 h
  refine X_iload_n (pc' := 45) dX3_numberOfToken_44 rfl rfl ?_
  refine X_bipush (pc' := 47) dX3_numberOfToken_45 rfl (by decide) ?_
  refine X_imul (pc' := 48) dX3_numberOfToken_47 rfl ?_
  refine X_aload_n (pc' := 49) dX3_numberOfToken_48 rfl rfl ?_
  refine X_iload_n (pc' := 50) dX3_numberOfToken_49 rfl rfl ?_
  obtain ⟨r2, q2, h⟩ := bs h
  refine Y_callV [.int (iN (v2))] (pc' := 53) dX3_numberOfToken_50 rfl VX3_36 (by decide) (zlN hN (by decide)) (congrArg Prod.fst (sh16 ln)) rfl rfl rfl (cs rfl) (cs rfl) rfl (CX3_byteAt hN hz rv2 q2) (Nat.zero_add _).symm (Nat.zero_add _).symm (fun f2 => ?_)
  refine X_iadd (pc' := 54) dX3_numberOfToken_53 rfl ?_
  refine X_bipush (pc' := 56) dX3_numberOfToken_54 rfl (by decide) ?_
  refine X_isub (pc' := 57) dX3_numberOfToken_56 rfl ?_
  refine X_istore_n (pc' := 58) dX3_numberOfToken_57 rfl (cl rfl) (Or.inr rfl) (L' := [some (.ref (16)), some (.int (iN ((((v1 * 10) + r2) - 48)))), some (.int (iN (v2)))]) rfl ?_
  refine X_iinc (pc' := 61) dX3_numberOfToken_58 rfl rfl (Or.inr rfl) (L' := [some (.ref (16)), some (.int (iN ((((v1 * 10) + r2) - 48)))), some (.int (iN (v2 + 1)))]) rfl ?_
  refine X_goto dX3_numberOfToken_61 (tgt := 36) rfl ?_
  obtain ⟨g3, h⟩ := gs h
  obtain ⟨g4, h⟩ := gs h
  cases h
  exact X_sub (sub_s (sub_s (sub_s sub_0))) (k1 _ _ rfl g3 g4)
theorem LX3_numberOfToken_36 {ln : ZR} {N : Nat} {z : ZZ} {c9 s9 : Nat} {Φ : xRes → xS → Prop} (hN : 151 ≤ N ∧ N < 999999) (hz : okz z) {r : Int} (k2 : ∀ (v1' : Int), r = v1' → inR v1' → X mX3_numberOfToken 64 [none, some (.int (iN (v1'))), none] [] (zmk ln N z) c9 s9 Φ) : ∀ (n : Nat) (v1 : Int) (v2 : Int), inR v1 → inR v2 → zlp (fun q => fX3_numberOfToken_s36 q.1 q.2 z) n (v1, v2) = some r → X mX3_numberOfToken 36 [some (.ref (16)), some (.int (iN (v1))), some (.int (iN (v2)))] [] (zmk ln N z) c9 s9 Φ := by
  intro n
  induction n with
  | zero => intro v1 v2 rv1 rv2 h; cases h
  | succ n ih =>
    intro v1 v2 rv1 rv2 h
    rcases zlp_s h with ⟨⟨v1', v2'⟩, e, h'⟩ | e
    · exact SX3_numberOfToken_36 hN hz rv1 rv2 e (fun v1₁ v2₁ hh f0 f1 => by cases hh; exact ih _ _ f0 f1 h') (fun v1₁ hh f0 => by cases hh)
    · exact SX3_numberOfToken_36 hN hz rv1 rv2 e (fun v1₁ v2₁ hh f0 f1 => by cases hh) (fun v1₁ hh f0 => by cases hh; exact k2 _ rfl f0)
def fX3_numberOfToken (z : ZZ) : Option (Int) := (Option.bind (fX3_byteAt ((z 16 5)) z) fun r1 => (Option.bind (fX3_isDigit (r1) z) fun r2 => (if (r2) = (0) then some ((-1)) else (if inR (((z 16 6) - (z 16 5))) then (if (3) < (((z 16 6) - (z 16 5))) then some ((-1)) else (Option.bind (zlp (fun q => fX3_numberOfToken_s36 q.1 q.2 z) FU (0, (z 16 5))) fun x6_v1 => some (x6_v1))) else none))))
set_option maxRecDepth 100000 in
theorem CX3_numberOfToken {ln : ZR} {N : Nat} {z : ZZ} (hN : 151 ≤ N ∧ N < 999999) (hz : okz z) {p : Int} (h : fX3_numberOfToken z = some p) : X mX3_numberOfToken 0 (xEnt [.ref (16)] (xL mX3_numberOfToken)) [] (zmk ln N z) (cc_r p) (6 * cc_r p) (Qd (fa_r p) (rs_r p) (st_r ln N z p)) := by
  have k : Fin_r (Qd (fa_r p) (rs_r p) (st_r ln N z p)) ln N z p := Fin_r_i
  unfold fX3_numberOfToken at h
  refine X_to (M := [some (.ref (16)), none, none]) (su := []) rfl rfl ?_
  refine X_aload_n (pc' := 1) dX3_numberOfToken_0 rfl rfl ?_
  refine X_aload_n (pc' := 2) dX3_numberOfToken_1 rfl rfl ?_
  refine Y_get (pc' := 5) dX3_numberOfToken_2 rfl FX3_26 (zlN hN (by decide)) (congrArg Prod.fst (sh16 ln)) (ct16_5 z) ?_
  obtain ⟨r1, q1, h⟩ := bs h
  refine Y_callV [.int (iN ((z 16 5)))] (pc' := 8) dX3_numberOfToken_5 rfl VX3_36 (by decide) (zlN hN (by decide)) (congrArg Prod.fst (sh16 ln)) rfl rfl rfl (cs rfl) (cs rfl) rfl (CX3_byteAt hN hz (hz 16 5 (by decide)) q1) (Nat.zero_add _).symm (Nat.zero_add _).symm (fun f1 => ?_)
  obtain ⟨r2, q2, h⟩ := bs h
  refine Y_callS [.int (iN (r1))] (pc' := 11) dX3_numberOfToken_8 rfl SX3_44 (by decide) rfl (cs rfl) (cs rfl) rfl (CX3_isDigit hN hz f1 q2) (Nat.zero_add _).symm (Nat.zero_add _).symm (fun f2 => ?_)
  refine X_if_eq dX3_numberOfToken_11 (tgt := 27) rfl (pc' := 14) rfl (inR_b f2) (fun c3 => ?_) (fun c3 => ?_)
  · have h := if_t c3 h
    refine X_iconst (pc' := 28) dX3_numberOfToken_27 rfl ?_
    cases h
    exact X_iret dX3_numberOfToken_28 rfl (k (inR_c (n := (-1)) rfl))
  have h := if_f c3 h
  refine X_aload_n (pc' := 15) dX3_numberOfToken_14 rfl rfl ?_
  refine Y_get (pc' := 18) dX3_numberOfToken_15 rfl FX3_29 (zlN hN (by decide)) (congrArg Prod.fst (sh16 ln)) (ct16_6 z) ?_
  refine X_aload_n (pc' := 19) dX3_numberOfToken_18 rfl rfl ?_
  refine Y_get (pc' := 22) dX3_numberOfToken_19 rfl FX3_26 (zlN hN (by decide)) (congrArg Prod.fst (sh16 ln)) (ct16_5 z) ?_
  refine X_isub (pc' := 23) dX3_numberOfToken_22 rfl ?_
  refine X_iconst (pc' := 24) dX3_numberOfToken_23 rfl ?_
  obtain ⟨g4, h⟩ := gs h
  refine X_icmp_le dX3_numberOfToken_24 (tgt := 29) rfl (pc' := 27) rfl ⟨g4.1, g4.2, (inR_c (n := 3) rfl).1, (inR_c (n := 3) rfl).2⟩ (fun c5 => ?_) (fun c5 => ?_)
  · have h := if_f (Int.not_lt.mpr c5) h
    refine X_iconst (pc' := 30) dX3_numberOfToken_29 rfl ?_
    refine X_istore_n (pc' := 31) dX3_numberOfToken_30 rfl (cl rfl) (Or.inr rfl) (L' := [some (.ref (16)), some (.int (iN (0))), none]) rfl ?_
    refine X_aload_n (pc' := 32) dX3_numberOfToken_31 rfl rfl ?_
    refine Y_get (pc' := 35) dX3_numberOfToken_32 rfl FX3_26 (zlN hN (by decide)) (congrArg Prod.fst (sh16 ln)) (ct16_5 z) ?_
    refine X_istore_n (pc' := 36) dX3_numberOfToken_35 rfl (cl rfl) (Or.inr rfl) (L' := [some (.ref (16)), some (.int (iN (0))), some (.int (iN ((z 16 5))))]) rfl ?_
    obtain ⟨x6_v1, q6, h⟩ := bs h
    refine X_sub (sub_s (sub_s (sub_s sub_0))) (LX3_numberOfToken_36 hN hz (fun x6_v1₁ hh rx6_v1 => ?_) FU _ _ (inR_c (n := 0) rfl) (hz 16 5 (by decide)) q6)
    cases hh
    refine X_iload_n (pc' := 65) dX3_numberOfToken_64 rfl rfl ?_
    cases h
    exact X_iret dX3_numberOfToken_65 rfl (k rx6_v1)
  have h := if_t c5 h
  refine X_iconst (pc' := 28) dX3_numberOfToken_27 rfl ?_
  cases h
  exact X_iret dX3_numberOfToken_28 rfl (k (inR_c (n := (-1)) rfl))
def fX3_numbersOf (v0 : Int) (z : ZZ) : Option (Int) := (if (v0) < (0) then some (0) else (if (v0) < (5) then some ((min ((zKC 1000001 (v0))) (3))) else some (0)))
set_option maxRecDepth 100000 in
theorem CX3_numbersOf {ln : ZR} {N : Nat} {z : ZZ} {v0 : Int} (hN : 151 ≤ N ∧ N < 999999) (hz : okz z) (rv0 : inR v0) {p : Int} (h : fX3_numbersOf v0 z = some p) : X mX3_numbersOf 0 (xEnt [.int (iN (v0))] (xL mX3_numbersOf)) [] (zmk ln N z) (cc_r p) (6 * cc_r p) (Qd (fa_r p) (rs_r p) (st_r ln N z p)) := by
  have k : Fin_r (Qd (fa_r p) (rs_r p) (st_r ln N z p)) ln N z p := Fin_r_i
  unfold fX3_numbersOf at h
  refine X_to (M := [some (.int (iN (v0)))]) (su := []) rfl rfl ?_
  refine X_iload_n (pc' := 1) dX3_numbersOf_0 rfl rfl ?_
  refine X_if_lt dX3_numbersOf_1 (tgt := 24) rfl (pc' := 4) rfl rv0 (fun c1 => ?_) (fun c1 => ?_)
  · have h := if_t c1 h
    refine X_iconst (pc' := 25) dX3_numbersOf_24 rfl ?_
    cases h
    exact X_iret dX3_numbersOf_25 rfl (k (inR_c (n := 0) rfl))
  have h := if_f (Int.not_lt.mpr c1) h
  refine X_iload_n (pc' := 5) dX3_numbersOf_4 rfl rfl ?_
  refine X_gets (pc' := 8) dX3_numbersOf_5 rfl (List.mem_of_getElem? (i := 0) rfl) tq360 ?_
  refine X_alenS (pc' := 9) dX3_numbersOf_8 rfl (by decide) (sh1000001 ln) (Or.inl rfl) ?_
  refine X_icmp_ge dX3_numbersOf_9 (tgt := 24) rfl (pc' := 12) rfl ⟨rv0.1, rv0.2, (inR_c (n := 5) rfl).1, (inR_c (n := 5) rfl).2⟩ (fun c2 => ?_) (fun c2 => ?_)
  · have h := if_f (Int.not_lt.mpr c2) h
    refine X_iconst (pc' := 25) dX3_numbersOf_24 rfl ?_
    cases h
    exact X_iret dX3_numbersOf_25 rfl (k (inR_c (n := 0) rfl))
  have h := if_t c2 h
  refine X_gets (pc' := 15) dX3_numbersOf_12 rfl (List.mem_of_getElem? (i := 0) rfl) tq360 ?_
  refine X_iload_n (pc' := 16) dX3_numbersOf_15 rfl rfl ?_
  refine Y_ialdK (pc' := 17) dX3_numbersOf_16 rfl (by decide) (sh1000001 ln) (by decide) ⟨c1, c2⟩ ?_
  refine X_iconst (pc' := 18) dX3_numbersOf_17 rfl ?_
  refine X_mmin (pc' := 21) dX3_numbersOf_18 rfl tq362 tq363 tq5 tq364 (cs rfl) ⟨(inR_K1000001 _).1, (inR_K1000001 _).2, (inR_c (n := 3) rfl).1, (inR_c (n := 3) rfl).2⟩ ?_
  refine X_goto dX3_numbersOf_21 (tgt := 25) rfl ?_
  cases h
  exact X_iret dX3_numbersOf_25 rfl (k (inR_min (inR_K1000001 _) (inR_c (n := 3) rfl)))
def fX3_readToken_s5 (v1 : Int) (z : ZZ) : Option ((Int) ⊕ (Int)) := (if (v1) < ((z 16 1)) then (Option.bind (fX3_byteAt (v1) z) fun r2 => (if (r2) = (32) then (if inR ((v1 + 1)) then some (.inl (v1 + 1)) else none) else some (.inr v1))) else some (.inr v1))
set_option maxRecDepth 100000 in
theorem SX3_readToken_5 {ln : ZR} {N : Nat} {z : ZZ} {v1 : Int} {c9 s9 : Nat} {Φ : xRes → xS → Prop} (hN : 151 ≤ N ∧ N < 999999) (hz : okz z) (rv1 : inR v1) {p : (Int) ⊕ (Int)} (h : fX3_readToken_s5 v1 z = some p) (k1 : ∀ (v1' : Int), p = .inl v1' → inR v1' → X mX3_readToken 5 [some (.ref (16)), some (.int (iN (v1')))] [] (zmk ln N z) c9 s9 Φ) (k2 : ∀ (v1' : Int), p = .inr v1' → inR v1' → X mX3_readToken 29 [some (.ref (16)), some (.int (iN (v1')))] [] (zmk ln N z) c9 s9 Φ) : X mX3_readToken 5 [some (.ref (16)), some (.int (iN (v1)))] [] (zmk ln N z) c9 s9 Φ := by
  unfold fX3_readToken_s5 at h
  refine X_iload_n (pc' := 6) dX3_readToken_5 rfl rfl ?_
  refine X_aload_n (pc' := 7) dX3_readToken_6 rfl rfl ?_
  refine Y_get (pc' := 10) dX3_readToken_7 rfl FX3_15 (zlN hN (by decide)) (congrArg Prod.fst (sh16 ln)) (ct16_1 z) ?_
  refine X_icmp_ge dX3_readToken_10 (tgt := 29) rfl (pc' := 13) rfl ⟨rv1.1, rv1.2, (hz 16 1 (by decide)).1, (hz 16 1 (by decide)).2⟩ (fun c1 => ?_) (fun c1 => ?_)
  · have h := if_f (Int.not_lt.mpr c1) h
    cases h
    exact X_sub (sub_s (sub_s sub_0)) (k2 _ rfl rv1)
  have h := if_t c1 h
  refine X_aload_n (pc' := 14) dX3_readToken_13 rfl rfl ?_
  refine X_iload_n (pc' := 15) dX3_readToken_14 rfl rfl ?_
  obtain ⟨r2, q2, h⟩ := bs h
  refine Y_callV [.int (iN (v1))] (pc' := 18) dX3_readToken_15 rfl VX3_36 (by decide) (zlN hN (by decide)) (congrArg Prod.fst (sh16 ln)) rfl rfl rfl (cs rfl) (cs rfl) rfl (CX3_byteAt hN hz rv1 q2) (Nat.zero_add _).symm (Nat.zero_add _).symm (fun f2 => ?_)
  refine X_bipush (pc' := 20) dX3_readToken_18 rfl (by decide) ?_
  refine X_icmp_ne dX3_readToken_20 (tgt := 29) rfl (pc' := 23) rfl ⟨f2.1, f2.2, (inR_c (n := 32) rfl).1, (inR_c (n := 32) rfl).2⟩ (fun c3 => ?_) (fun c3 => ?_)
  · have h := if_f c3 h
    cases h
    exact X_sub (sub_s (sub_s sub_0)) (k2 _ rfl rv1)
  have h := if_t c3 h
  refine X_iinc (pc' := 26) dX3_readToken_23 rfl rfl (Or.inr rfl) (L' := [some (.ref (16)), some (.int (iN (v1 + 1)))]) rfl ?_
  refine X_goto dX3_readToken_26 (tgt := 5) rfl ?_
  obtain ⟨g4, h⟩ := gs h
  cases h
  exact X_sub (sub_s (sub_s sub_0)) (k1 _ rfl g4)
theorem LX3_readToken_5 {ln : ZR} {N : Nat} {z : ZZ} {c9 s9 : Nat} {Φ : xRes → xS → Prop} (hN : 151 ≤ N ∧ N < 999999) (hz : okz z) {r : Int} (k2 : ∀ (v1' : Int), r = v1' → inR v1' → X mX3_readToken 29 [some (.ref (16)), some (.int (iN (v1')))] [] (zmk ln N z) c9 s9 Φ) : ∀ (n : Nat) (v1 : Int), inR v1 → zlp (fun q => fX3_readToken_s5 q z) n v1 = some r → X mX3_readToken 5 [some (.ref (16)), some (.int (iN (v1)))] [] (zmk ln N z) c9 s9 Φ := by
  intro n
  induction n with
  | zero => intro v1 rv1 h; cases h
  | succ n ih =>
    intro v1 rv1 h
    rcases zlp_s h with ⟨v1', e, h'⟩ | e
    · exact SX3_readToken_5 hN hz rv1 e (fun v1₁ hh f0 => by cases hh; exact ih _ f0 h') (fun v1₁ hh f0 => by cases hh)
    · exact SX3_readToken_5 hN hz rv1 e (fun v1₁ hh f0 => by cases hh) (fun v1₁ hh f0 => by cases hh; exact k2 _ rfl f0)
def fX3_readToken_s81 (v1 : Int) (z : ZZ) : Option ((Int) ⊕ (Int)) := (if (v1) < ((z 16 1)) then (Option.bind (fX3_byteAt (v1) z) fun r2 => (Option.bind (fX3_isDigit (r2) z) fun r3 => (if (r3) = (0) then some (.inr v1) else (if inR ((v1 + 1)) then some (.inl (v1 + 1)) else none)))) else some (.inr v1))
set_option maxRecDepth 100000 in
theorem SX3_readToken_81 {ln : ZR} {N : Nat} {z : ZZ} {v1 : Int} {c9 s9 : Nat} {Φ : xRes → xS → Prop} (hN : 151 ≤ N ∧ N < 999999) (hz : okz z) (rv1 : inR v1) {p : (Int) ⊕ (Int)} (h : fX3_readToken_s81 v1 z = some p) (k1 : ∀ (v1' : Int), p = .inl v1' → inR v1' → X mX3_readToken 81 [some (.ref (16)), some (.int (iN (v1')))] [] (zmk ln N z) c9 s9 Φ) (k2 : ∀ (v1' : Int), p = .inr v1' → inR v1' → X mX3_readToken 117 [some (.ref (16)), some (.int (iN (v1')))] [] (zmk ln N z) c9 s9 Φ) : X mX3_readToken 81 [some (.ref (16)), some (.int (iN (v1)))] [] (zmk ln N z) c9 s9 Φ := by
  unfold fX3_readToken_s81 at h
  refine X_iload_n (pc' := 82) dX3_readToken_81 rfl rfl ?_
  refine X_aload_n (pc' := 83) dX3_readToken_82 rfl rfl ?_
  refine Y_get (pc' := 86) dX3_readToken_83 rfl FX3_15 (zlN hN (by decide)) (congrArg Prod.fst (sh16 ln)) (ct16_1 z) ?_
  refine X_icmp_ge dX3_readToken_86 (tgt := 117) rfl (pc' := 89) rfl ⟨rv1.1, rv1.2, (hz 16 1 (by decide)).1, (hz 16 1 (by decide)).2⟩ (fun c1 => ?_) (fun c1 => ?_)
  · have h := if_f (Int.not_lt.mpr c1) h
    cases h
    exact X_sub (sub_s (sub_s sub_0)) (k2 _ rfl rv1)
  have h := if_t c1 h
  refine X_aload_n (pc' := 90) dX3_readToken_89 rfl rfl ?_
  refine X_iload_n (pc' := 91) dX3_readToken_90 rfl rfl ?_
  obtain ⟨r2, q2, h⟩ := bs h
  refine Y_callV [.int (iN (v1))] (pc' := 94) dX3_readToken_91 rfl VX3_36 (by decide) (zlN hN (by decide)) (congrArg Prod.fst (sh16 ln)) rfl rfl rfl (cs rfl) (cs rfl) rfl (CX3_byteAt hN hz rv1 q2) (Nat.zero_add _).symm (Nat.zero_add _).symm (fun f2 => ?_)
  obtain ⟨r3, q3, h⟩ := bs h
  refine Y_callS [.int (iN (r2))] (pc' := 97) dX3_readToken_94 rfl SX3_44 (by decide) rfl (cs rfl) (cs rfl) rfl (CX3_isDigit hN hz f2 q3) (Nat.zero_add _).symm (Nat.zero_add _).symm (fun f3 => ?_)
  refine X_if_eq dX3_readToken_97 (tgt := 117) rfl (pc' := 100) rfl (inR_b f3) (fun c4 => ?_) (fun c4 => ?_)
  · have h := if_t c4 h
    cases h
    exact X_sub (sub_s (sub_s sub_0)) (k2 _ rfl rv1)
  have h := if_f c4 h
  refine X_iinc (pc' := 103) dX3_readToken_100 rfl rfl (Or.inr rfl) (L' := [some (.ref (16)), some (.int (iN (v1 + 1)))]) rfl ?_
  refine X_goto dX3_readToken_103 (tgt := 81) rfl ?_
  obtain ⟨g5, h⟩ := gs h
  cases h
  exact X_sub (sub_s (sub_s sub_0)) (k1 _ rfl g5)
theorem LX3_readToken_81 {ln : ZR} {N : Nat} {z : ZZ} {c9 s9 : Nat} {Φ : xRes → xS → Prop} (hN : 151 ≤ N ∧ N < 999999) (hz : okz z) {r : Int} (k2 : ∀ (v1' : Int), r = v1' → inR v1' → X mX3_readToken 117 [some (.ref (16)), some (.int (iN (v1')))] [] (zmk ln N z) c9 s9 Φ) : ∀ (n : Nat) (v1 : Int), inR v1 → zlp (fun q => fX3_readToken_s81 q z) n v1 = some r → X mX3_readToken 81 [some (.ref (16)), some (.int (iN (v1)))] [] (zmk ln N z) c9 s9 Φ := by
  intro n
  induction n with
  | zero => intro v1 rv1 h; cases h
  | succ n ih =>
    intro v1 rv1 h
    rcases zlp_s h with ⟨v1', e, h'⟩ | e
    · exact SX3_readToken_81 hN hz rv1 e (fun v1₁ hh f0 => by cases hh; exact ih _ f0 h') (fun v1₁ hh f0 => by cases hh)
    · exact SX3_readToken_81 hN hz rv1 e (fun v1₁ hh f0 => by cases hh) (fun v1₁ hh f0 => by cases hh; exact k2 _ rfl f0)
def fX3_readToken_s45 (v1 : Int) (z : ZZ) : Option ((Int) ⊕ (Int)) := (if (v1) < ((z 16 1)) then (Option.bind (fX3_byteAt (v1) z) fun r2 => (Option.bind (fX3_isLetter (r2) z) fun r3 => (if (r3) = (0) then some (.inr v1) else (if inR ((v1 + 1)) then some (.inl (v1 + 1)) else none)))) else some (.inr v1))
set_option maxRecDepth 100000 in
theorem SX3_readToken_45 {ln : ZR} {N : Nat} {z : ZZ} {v1 : Int} {c9 s9 : Nat} {Φ : xRes → xS → Prop} (hN : 151 ≤ N ∧ N < 999999) (hz : okz z) (rv1 : inR v1) {p : (Int) ⊕ (Int)} (h : fX3_readToken_s45 v1 z = some p) (k1 : ∀ (v1' : Int), p = .inl v1' → inR v1' → X mX3_readToken 45 [some (.ref (16)), some (.int (iN (v1')))] [] (zmk ln N z) c9 s9 Φ) (k2 : ∀ (v1' : Int), p = .inr v1' → inR v1' → X mX3_readToken 117 [some (.ref (16)), some (.int (iN (v1')))] [] (zmk ln N z) c9 s9 Φ) : X mX3_readToken 45 [some (.ref (16)), some (.int (iN (v1)))] [] (zmk ln N z) c9 s9 Φ := by
  unfold fX3_readToken_s45 at h
  refine X_iload_n (pc' := 46) dX3_readToken_45 rfl rfl ?_
  refine X_aload_n (pc' := 47) dX3_readToken_46 rfl rfl ?_
  refine Y_get (pc' := 50) dX3_readToken_47 rfl FX3_15 (zlN hN (by decide)) (congrArg Prod.fst (sh16 ln)) (ct16_1 z) ?_
  refine X_icmp_ge dX3_readToken_50 (tgt := 117) rfl (pc' := 53) rfl ⟨rv1.1, rv1.2, (hz 16 1 (by decide)).1, (hz 16 1 (by decide)).2⟩ (fun c1 => ?_) (fun c1 => ?_)
  · have h := if_f (Int.not_lt.mpr c1) h
    cases h
    exact X_sub (sub_s (sub_s sub_0)) (k2 _ rfl rv1)
  have h := if_t c1 h
  refine X_aload_n (pc' := 54) dX3_readToken_53 rfl rfl ?_
  refine X_iload_n (pc' := 55) dX3_readToken_54 rfl rfl ?_
  obtain ⟨r2, q2, h⟩ := bs h
  refine Y_callV [.int (iN (v1))] (pc' := 58) dX3_readToken_55 rfl VX3_36 (by decide) (zlN hN (by decide)) (congrArg Prod.fst (sh16 ln)) rfl rfl rfl (cs rfl) (cs rfl) rfl (CX3_byteAt hN hz rv1 q2) (Nat.zero_add _).symm (Nat.zero_add _).symm (fun f2 => ?_)
  obtain ⟨r3, q3, h⟩ := bs h
  refine Y_callS [.int (iN (r2))] (pc' := 61) dX3_readToken_58 rfl SX3_40 (by decide) rfl (cs rfl) (cs rfl) rfl (CX3_isLetter hN hz f2 q3) (Nat.zero_add _).symm (Nat.zero_add _).symm (fun f3 => ?_)
  refine X_if_eq dX3_readToken_61 (tgt := 117) rfl (pc' := 64) rfl (inR_b f3) (fun c4 => ?_) (fun c4 => ?_)
  · have h := if_t c4 h
    cases h
    exact X_sub (sub_s (sub_s sub_0)) (k2 _ rfl rv1)
  have h := if_f c4 h
  refine X_iinc (pc' := 67) dX3_readToken_64 rfl rfl (Or.inr rfl) (L' := [some (.ref (16)), some (.int (iN (v1 + 1)))]) rfl ?_
  refine X_goto dX3_readToken_67 (tgt := 45) rfl ?_
  obtain ⟨g5, h⟩ := gs h
  cases h
  exact X_sub (sub_s (sub_s sub_0)) (k1 _ rfl g5)
theorem LX3_readToken_45 {ln : ZR} {N : Nat} {z : ZZ} {c9 s9 : Nat} {Φ : xRes → xS → Prop} (hN : 151 ≤ N ∧ N < 999999) (hz : okz z) {r : Int} (k2 : ∀ (v1' : Int), r = v1' → inR v1' → X mX3_readToken 117 [some (.ref (16)), some (.int (iN (v1')))] [] (zmk ln N z) c9 s9 Φ) : ∀ (n : Nat) (v1 : Int), inR v1 → zlp (fun q => fX3_readToken_s45 q z) n v1 = some r → X mX3_readToken 45 [some (.ref (16)), some (.int (iN (v1)))] [] (zmk ln N z) c9 s9 Φ := by
  intro n
  induction n with
  | zero => intro v1 rv1 h; cases h
  | succ n ih =>
    intro v1 rv1 h
    rcases zlp_s h with ⟨v1', e, h'⟩ | e
    · exact SX3_readToken_45 hN hz rv1 e (fun v1₁ hh f0 => by cases hh; exact ih _ f0 h') (fun v1₁ hh f0 => by cases hh)
    · exact SX3_readToken_45 hN hz rv1 e (fun v1₁ hh f0 => by cases hh) (fun v1₁ hh f0 => by cases hh; exact k2 _ rfl f0)
def fX3_readToken (z : ZZ) : Option (ZZ) := (Option.bind (zlp (fun q => fX3_readToken_s5 q z) FU (z 16 6)) fun x1_v1 => (zl (zup z 16 5 (x1_v1)) fun z2 => (Option.bind (fX3_byteAt (x1_v1) z2) fun r3 => (Option.bind (fX3_isLetter (r3) z2) fun r4 => (if (r4) = (0) then (Option.bind (fX3_byteAt (x1_v1) z2) fun r6 => (Option.bind (fX3_isDigit (r6) z2) fun r7 => (if (r7) = (0) then (if (x1_v1) < ((z2 16 1)) then (if inR ((x1_v1 + 1)) then (zl (zup z2 16 6 ((x1_v1 + 1))) fun z12 => some z12) else none) else (zl (zup z2 16 6 (x1_v1)) fun z10 => some z10)) else (Option.bind (zlp (fun q => fX3_readToken_s81 q z2) FU x1_v1) fun x13_v1 => (zl (zup z2 16 6 (x13_v1)) fun z14 => some z14))))) else (Option.bind (zlp (fun q => fX3_readToken_s45 q z2) FU x1_v1) fun x15_v1 => (zl (zup z2 16 6 (x15_v1)) fun z16 => some z16)))))))
set_option maxRecDepth 100000 in
theorem CX3_readToken {ln : ZR} {N : Nat} {z : ZZ} (hN : 151 ≤ N ∧ N < 999999) (hz : okz z) {p : ZZ} (h : fX3_readToken z = some p) : X mX3_readToken 0 (xEnt [.ref (16)] (xL mX3_readToken)) [] (zmk ln N z) (cc_w p) (6 * cc_w p) (Qd (fa_w p) (rs_w p) (st_w ln N p)) := by
  have k : Fin_w (Qd (fa_w p) (rs_w p) (st_w ln N p)) ln N p := Fin_w_i
  unfold fX3_readToken at h
  refine X_to (M := [some (.ref (16)), none]) (su := []) rfl rfl ?_
  refine X_aload_n (pc' := 1) dX3_readToken_0 rfl rfl ?_
  refine Y_get (pc' := 4) dX3_readToken_1 rfl FX3_29 (zlN hN (by decide)) (congrArg Prod.fst (sh16 ln)) (ct16_6 z) ?_
  refine X_istore_n (pc' := 5) dX3_readToken_4 rfl (cl rfl) (Or.inr rfl) (L' := [some (.ref (16)), some (.int (iN ((z 16 6))))]) rfl ?_
  obtain ⟨x1_v1, q1, h⟩ := bs h
  refine X_sub (sub_s (sub_s sub_0)) (LX3_readToken_5 hN hz (fun x1_v1₁ hh rx1_v1 => ?_) FU _ (hz 16 6 (by decide)) q1)
  cases hh
  refine X_aload_n (pc' := 30) dX3_readToken_29 rfl rfl ?_
  refine X_iload_n (pc' := 31) dX3_readToken_30 rfl rfl ?_
  refine Y_put (k := 5) (j := 5) (v := x1_v1) (pc' := 34) dX3_readToken_31 rfl FX3_26 (zlN hN (by decide)) (congrArg Prod.fst (sh16 ln)) (fun r hr => by cases hr; rfl) (xFit_int _) rfl rfl ?_
  obtain ⟨z2, e2, hz2, h⟩ := zl_some (P := okz) h (okz_up hz rx1_v1)
  rw [e2]
  refine X_aload_n (pc' := 35) dX3_readToken_34 rfl rfl ?_
  refine X_iload_n (pc' := 36) dX3_readToken_35 rfl rfl ?_
  obtain ⟨r3, q3, h⟩ := bs h
  refine Y_callV [.int (iN (x1_v1))] (pc' := 39) dX3_readToken_36 rfl VX3_36 (by decide) (zlN hN (by decide)) (congrArg Prod.fst (sh16 ln)) rfl rfl rfl (cs rfl) (cs rfl) rfl (CX3_byteAt hN hz2 rx1_v1 q3) (Nat.zero_add _).symm (Nat.zero_add _).symm (fun f3 => ?_)
  obtain ⟨r4, q4, h⟩ := bs h
  refine Y_callS [.int (iN (r3))] (pc' := 42) dX3_readToken_39 rfl SX3_40 (by decide) rfl (cs rfl) (cs rfl) rfl (CX3_isLetter hN hz2 f3 q4) (Nat.zero_add _).symm (Nat.zero_add _).symm (fun f4 => ?_)
  refine X_if_eq dX3_readToken_42 (tgt := 70) rfl (pc' := 45) rfl (inR_b f4) (fun c5 => ?_) (fun c5 => ?_)
  · have h := if_t c5 h
    refine X_aload_n (pc' := 71) dX3_readToken_70 rfl rfl ?_
    refine X_iload_n (pc' := 72) dX3_readToken_71 rfl rfl ?_
    obtain ⟨r6, q6, h⟩ := bs h
    refine Y_callV [.int (iN (x1_v1))] (pc' := 75) dX3_readToken_72 rfl VX3_36 (by decide) (zlN hN (by decide)) (congrArg Prod.fst (sh16 ln)) rfl rfl rfl (cs rfl) (cs rfl) rfl (CX3_byteAt hN hz2 rx1_v1 q6) (Nat.zero_add _).symm (Nat.zero_add _).symm (fun f6 => ?_)
    obtain ⟨r7, q7, h⟩ := bs h
    refine Y_callS [.int (iN (r6))] (pc' := 78) dX3_readToken_75 rfl SX3_44 (by decide) rfl (cs rfl) (cs rfl) rfl (CX3_isDigit hN hz2 f6 q7) (Nat.zero_add _).symm (Nat.zero_add _).symm (fun f7 => ?_)
    refine X_if_eq dX3_readToken_78 (tgt := 106) rfl (pc' := 81) rfl (inR_b f7) (fun c8 => ?_) (fun c8 => ?_)
    · have h := if_t c8 h
      refine X_iload_n (pc' := 107) dX3_readToken_106 rfl rfl ?_
      refine X_aload_n (pc' := 108) dX3_readToken_107 rfl rfl ?_
      refine Y_get (pc' := 111) dX3_readToken_108 rfl FX3_15 (zlN hN (by decide)) (congrArg Prod.fst (sh16 ln)) (ct16_1 z2) ?_
      refine X_icmp_ge dX3_readToken_111 (tgt := 117) rfl (pc' := 114) rfl ⟨rx1_v1.1, rx1_v1.2, (hz2 16 1 (by decide)).1, (hz2 16 1 (by decide)).2⟩ (fun c9 => ?_) (fun c9 => ?_)
      · have h := if_f (Int.not_lt.mpr c9) h
        refine X_aload_n (pc' := 118) dX3_readToken_117 rfl rfl ?_
        refine X_iload_n (pc' := 119) dX3_readToken_118 rfl rfl ?_
        refine Y_put (k := 6) (j := 6) (v := x1_v1) (pc' := 122) dX3_readToken_119 rfl FX3_29 (zlN hN (by decide)) (congrArg Prod.fst (sh16 ln)) (fun r hr => by cases hr; rfl) (xFit_int _) rfl rfl ?_
        obtain ⟨z10, e10, hz10, h⟩ := zl_some (P := okz) h (okz_up hz2 rx1_v1)
        rw [e10]
        cases h
        exact X_vret dX3_readToken_122 rfl (k hz10)
      have h := if_t c9 h
      refine X_iinc (pc' := 117) dX3_readToken_114 rfl rfl (Or.inr rfl) (L' := [some (.ref (16)), some (.int (iN (x1_v1 + 1)))]) rfl ?_
      refine X_aload_n (pc' := 118) dX3_readToken_117 rfl rfl ?_
      refine X_iload_n (pc' := 119) dX3_readToken_118 rfl rfl ?_
      obtain ⟨g11, h⟩ := gs h
      refine Y_put (k := 6) (j := 6) (v := (x1_v1 + 1)) (pc' := 122) dX3_readToken_119 rfl FX3_29 (zlN hN (by decide)) (congrArg Prod.fst (sh16 ln)) (fun r hr => by cases hr; rfl) (xFit_int _) rfl rfl ?_
      obtain ⟨z12, e12, hz12, h⟩ := zl_some (P := okz) h (okz_up hz2 g11)
      rw [e12]
      cases h
      exact X_vret dX3_readToken_122 rfl (k hz12)
    have h := if_f c8 h
    obtain ⟨x13_v1, q13, h⟩ := bs h
    refine X_sub (sub_s (sub_s sub_0)) (LX3_readToken_81 hN hz2 (fun x13_v1₁ hh rx13_v1 => ?_) FU _ rx1_v1 q13)
    cases hh
    refine X_aload_n (pc' := 118) dX3_readToken_117 rfl rfl ?_
    refine X_iload_n (pc' := 119) dX3_readToken_118 rfl rfl ?_
    refine Y_put (k := 6) (j := 6) (v := x13_v1) (pc' := 122) dX3_readToken_119 rfl FX3_29 (zlN hN (by decide)) (congrArg Prod.fst (sh16 ln)) (fun r hr => by cases hr; rfl) (xFit_int _) rfl rfl ?_
    obtain ⟨z14, e14, hz14, h⟩ := zl_some (P := okz) h (okz_up hz2 rx13_v1)
    rw [e14]
    cases h
    exact X_vret dX3_readToken_122 rfl (k hz14)
  have h := if_f c5 h
  obtain ⟨x15_v1, q15, h⟩ := bs h
  refine X_sub (sub_s (sub_s sub_0)) (LX3_readToken_45 hN hz2 (fun x15_v1₁ hh rx15_v1 => ?_) FU _ rx1_v1 q15)
  cases hh
  refine X_aload_n (pc' := 118) dX3_readToken_117 rfl rfl ?_
  refine X_iload_n (pc' := 119) dX3_readToken_118 rfl rfl ?_
  refine Y_put (k := 6) (j := 6) (v := x15_v1) (pc' := 122) dX3_readToken_119 rfl FX3_29 (zlN hN (by decide)) (congrArg Prod.fst (sh16 ln)) (fun r hr => by cases hr; rfl) (xFit_int _) rfl rfl ?_
  obtain ⟨z16, e16, hz16, h⟩ := zl_some (P := okz) h (okz_up hz2 rx15_v1)
  rw [e16]
  cases h
  exact X_vret dX3_readToken_122 rfl (k hz16)
def fX3_readStatement_s26 (v1 : Int) (v2 : Int) (z : ZZ) : Option ((Int × ZZ) ⊕ ((ZZ) ⊕ (Int × ZZ))) := (Option.bind (fX3_numbersOf (v1) z) fun r1 => (if (v2) < (r1) then (if (v2) < (3) then (Option.bind (fX3_readToken z) fun z4 => (Option.bind (fX3_numberOfToken z4) fun r5 => (if (r5) = ((-1)) then some (.inr (.inr ((0, z4)))) else (Option.bind (fX3_isInRange (v1) (v2) (r5) z4) fun r7 => (if (r7) = (0) then some (.inr (.inr ((0, z4)))) else (if (0 : Int) ≤ (v2) ∧ (v2) < (3 : Int) then (zl (zup z4 31 (v2) (r5)) fun z10 => (if inR ((v2 + 1)) then some (.inl ((v2 + 1), z10)) else none)) else none)))))) else some (.inr (.inl z))) else some (.inr (.inl z))))
set_option maxRecDepth 100000 in
theorem SX3_readStatement_26 {ln : ZR} {N : Nat} {z : ZZ} {v1 : Int} {v2 : Int} {c9 s9 : Nat} {Φ : xRes → xS → Prop} (hN : 151 ≤ N ∧ N < 999999) (hz : okz z) (rv1 : inR v1) (rv2 : inR v2) {p : (Int × ZZ) ⊕ ((ZZ) ⊕ (Int × ZZ))} (h : fX3_readStatement_s26 v1 v2 z = some p) (k1 : ∀ (v2' : Int) (z' : ZZ), p = .inl (v2', z') → inR v2' → okz z' → X mX3_readStatement 26 [some (.ref (16)), some (.int (iN (v1))), some (.int (iN (v2'))), none] [] (zmk ln N z') c9 s9 Φ) (k2 : ∀ (z' : ZZ), p = .inr (.inl z') → okz z' → X mX3_readStatement 81 [some (.ref (16)), some (.int (iN (v1))), none, none] [] (zmk ln N z') c9 s9 Φ) (k3 : ∀ t, p = .inr (.inr t) → Fin_wb Φ ln N t) : X mX3_readStatement 26 [some (.ref (16)), some (.int (iN (v1))), some (.int (iN (v2))), none] [] (zmk ln N z) c9 s9 Φ := by
  unfold fX3_readStatement_s26 at h
  refine X_iload_n (pc' := 27) dX3_readStatement_26 rfl rfl ?_
  refine X_iload_n (pc' := 28) dX3_readStatement_27 rfl rfl ?_
  obtain ⟨r1, q1, h⟩ := bs h
  refine Y_callS [.int (iN (v1))] (pc' := 31) dX3_readStatement_28 rfl SX3_136 (by decide) rfl (cs rfl) (cs rfl) rfl (CX3_numbersOf hN hz rv1 q1) (Nat.zero_add _).symm (Nat.zero_add _).symm (fun f1 => ?_)
  refine X_icmp_ge dX3_readStatement_31 (tgt := 81) rfl (pc' := 34) rfl ⟨rv2.1, rv2.2, f1.1, f1.2⟩ (fun c2 => ?_) (fun c2 => ?_)
  · have h := if_f (Int.not_lt.mpr c2) h
    cases h
    exact X_sub (sub_s (sub_s (sub_n (sub_n sub_0)))) (k2 _ rfl hz)
  have h := if_t c2 h
  refine X_iload_n (pc' := 35) dX3_readStatement_34 rfl rfl ?_
  refine X_aload_n (pc' := 36) dX3_readStatement_35 rfl rfl ?_
  refine Y_get (pc' := 39) dX3_readStatement_36 rfl FX3_19 (zlN hN (by decide)) (congrArg Prod.fst (sh16 ln)) (ct16_3 z) ?_
  refine Y_alen (pc' := 40) dX3_readStatement_39 rfl (zlN hN (by decide)) (sh31 ln) (by decide) ?_
  refine X_icmp_ge dX3_readStatement_40 (tgt := 81) rfl (pc' := 43) rfl ⟨rv2.1, rv2.2, (inR_c (n := 3) rfl).1, (inR_c (n := 3) rfl).2⟩ (fun c3 => ?_) (fun c3 => ?_)
  · have h := if_f (Int.not_lt.mpr c3) h
    cases h
    exact X_sub (sub_s (sub_s (sub_n (sub_n sub_0)))) (k2 _ rfl hz)
  have h := if_t c3 h
  refine X_aload_n (pc' := 44) dX3_readStatement_43 rfl rfl ?_
  obtain ⟨z4, q4, h⟩ := bs h
  refine Y_callVv [] (pc' := 47) dX3_readStatement_44 rfl VX3_127 (by decide) (zlN hN (by decide)) (congrArg Prod.fst (sh16 ln)) rfl rfl rfl (cs rfl) (cs rfl) rfl (CX3_readToken hN hz q4) (Nat.zero_add _).symm (Nat.zero_add _).symm (fun f4 => ?_)
  refine X_aload_n (pc' := 48) dX3_readStatement_47 rfl rfl ?_
  obtain ⟨r5, q5, h⟩ := bs h
  refine Y_callV [] (pc' := 51) dX3_readStatement_48 rfl VX3_139 (by decide) (zlN hN (by decide)) (congrArg Prod.fst (sh16 ln)) rfl rfl rfl (cs rfl) (cs rfl) rfl (CX3_numberOfToken hN f4 q5) (Nat.zero_add _).symm (Nat.zero_add _).symm (fun f5 => ?_)
  refine X_istore_n (pc' := 52) dX3_readStatement_51 rfl (cl rfl) (Or.inr rfl) (L' := [some (.ref (16)), some (.int (iN (v1))), some (.int (iN (v2))), some (.int (iN (r5)))]) rfl ?_
  refine X_iload_n (pc' := 53) dX3_readStatement_52 rfl rfl ?_
  refine X_iconst (pc' := 54) dX3_readStatement_53 rfl ?_
  refine X_icmp_eq dX3_readStatement_54 (tgt := 66) rfl (pc' := 57) rfl ⟨f5.1, f5.2, (inR_c (n := (-1)) rfl).1, (inR_c (n := (-1)) rfl).2⟩ (fun c6 => ?_) (fun c6 => ?_)
  · have h := if_t c6 h
    refine X_iconst (pc' := 67) dX3_readStatement_66 rfl ?_
    cases h
    exact X_zret dX3_readStatement_67 rfl (Or.inl rfl) ((k3 _ rfl) ⟨(Or.inl rfl), f4⟩)
  have h := if_f c6 h
  refine X_iload_n (pc' := 58) dX3_readStatement_57 rfl rfl ?_
  refine X_iload_n (pc' := 59) dX3_readStatement_58 rfl rfl ?_
  refine X_iload_n (pc' := 60) dX3_readStatement_59 rfl rfl ?_
  obtain ⟨r7, q7, h⟩ := bs h
  refine Y_callS [.int (iN (v1)), .int (iN (v2)), .int (iN (r5))] (pc' := 63) dX3_readStatement_60 rfl SX3_142 (by decide) rfl (cs rfl) (cs rfl) rfl (CX3_isInRange hN f4 rv1 rv2 f5 q7) (Nat.zero_add _).symm (Nat.zero_add _).symm (fun f7 => ?_)
  refine X_if_ne dX3_readStatement_63 (tgt := 68) rfl (pc' := 66) rfl (inR_b f7) (fun c8 => ?_) (fun c8 => ?_)
  · have h := if_f c8 h
    refine X_aload_n (pc' := 69) dX3_readStatement_68 rfl rfl ?_
    refine Y_get (pc' := 72) dX3_readStatement_69 rfl FX3_19 (zlN hN (by decide)) (congrArg Prod.fst (sh16 ln)) (ct16_3 z4) ?_
    refine X_iload_n (pc' := 73) dX3_readStatement_72 rfl rfl ?_
    refine X_iload_n (pc' := 74) dX3_readStatement_73 rfl rfl ?_
    obtain ⟨g9, h⟩ := gs h
    refine Y_iast (pc' := 75) dX3_readStatement_74 rfl (zlN hN (by decide)) (sh31 ln) (by decide) g9 ?_
    obtain ⟨z10, e10, hz10, h⟩ := zl_some (P := okz) h (okz_up f4 f5)
    rw [e10]
    refine X_iinc (pc' := 78) dX3_readStatement_75 rfl rfl (Or.inr rfl) (L' := [some (.ref (16)), some (.int (iN (v1))), some (.int (iN (v2 + 1))), some (.int (iN (r5)))]) rfl ?_
    refine X_goto dX3_readStatement_78 (tgt := 26) rfl ?_
    obtain ⟨g11, h⟩ := gs h
    cases h
    exact X_sub (sub_s (sub_s (sub_s (sub_n sub_0)))) (k1 _ _ rfl g11 hz10)
  have h := if_t c8 h
  refine X_iconst (pc' := 67) dX3_readStatement_66 rfl ?_
  cases h
  exact X_zret dX3_readStatement_67 rfl (Or.inl rfl) ((k3 _ rfl) ⟨(Or.inl rfl), f4⟩)
theorem LX3_readStatement_26 {ln : ZR} {N : Nat} {v1 : Int} {c9 s9 : Nat} {Φ : xRes → xS → Prop} (hN : 151 ≤ N ∧ N < 999999) (rv1 : inR v1) {r : (ZZ) ⊕ (Int × ZZ)} (k2 : ∀ (z' : ZZ), r = .inl z' → okz z' → X mX3_readStatement 81 [some (.ref (16)), some (.int (iN (v1))), none, none] [] (zmk ln N z') c9 s9 Φ) (k3 : ∀ t, r = .inr t → Fin_wb Φ ln N t) : ∀ (n : Nat) (v2 : Int) (z : ZZ), inR v2 → okz z → zlp (fun q => fX3_readStatement_s26 v1 q.1 q.2) n (v2, z) = some r → X mX3_readStatement 26 [some (.ref (16)), some (.int (iN (v1))), some (.int (iN (v2))), none] [] (zmk ln N z) c9 s9 Φ := by
  intro n
  induction n with
  | zero => intro v2 z rv2 hz h; cases h
  | succ n ih =>
    intro v2 z rv2 hz h
    rcases zlp_s h with ⟨⟨v2', z'⟩, e, h'⟩ | e
    · exact SX3_readStatement_26 hN hz rv1 rv2 e (fun v2₁ z₁ hh f0 f1 => by cases hh; exact ih _ _ f0 f1 h') (fun z₁ hh f0 => by cases hh) (fun t hh => by cases hh)
    · exact SX3_readStatement_26 hN hz rv1 rv2 e (fun v2₁ z₁ hh f0 f1 => by cases hh) (fun z₁ hh f0 => by cases hh; exact k2 _ rfl f0) (fun t hh => by cases hh; exact k3 t rfl)
def fX3_readStatement (z : ZZ) : Option (Int × ZZ) := (Option.bind (fX3_readToken z) fun z1 => (Option.bind (fX3_kindOfToken z1) fun r2 => (if (r2) = ((-1)) then some (0, z1) else (Option.bind (fX3_hasRoomFor (r2) z1) fun r4 => (if (r4) = (0) then some (0, z1) else (Option.bind (zlp (fun q => fX3_readStatement_s26 (r2) q.1 q.2) FU (0, z1)) fun q6 => match q6 with | .inl x6_z => (Option.bind (fX3_addStatement (r2) x6_z) fun z7 => some (1, z7)) | .inr y6 => some y6))))))
set_option maxRecDepth 100000 in
theorem CX3_readStatement {ln : ZR} {N : Nat} {z : ZZ} (hN : 151 ≤ N ∧ N < 999999) (hz : okz z) {p : Int × ZZ} (h : fX3_readStatement z = some p) : X mX3_readStatement 0 (xEnt [.ref (16)] (xL mX3_readStatement)) [] (zmk ln N z) (cc_wb p) (6 * cc_wb p) (Qd (fa_wb p) (rs_wb p) (st_wb ln N p)) := by
  have k : Fin_wb (Qd (fa_wb p) (rs_wb p) (st_wb ln N p)) ln N p := Fin_wb_i
  unfold fX3_readStatement at h
  refine X_to (M := [some (.ref (16)), none, none, none]) (su := []) rfl rfl ?_
  refine X_aload_n (pc' := 1) dX3_readStatement_0 rfl rfl ?_
  obtain ⟨z1, q1, h⟩ := bs h
  refine Y_callVv [] (pc' := 4) dX3_readStatement_1 rfl VX3_127 (by decide) (zlN hN (by decide)) (congrArg Prod.fst (sh16 ln)) rfl rfl rfl (cs rfl) (cs rfl) rfl (CX3_readToken hN hz q1) (Nat.zero_add _).symm (Nat.zero_add _).symm (fun f1 => ?_)
  refine X_aload_n (pc' := 5) dX3_readStatement_4 rfl rfl ?_
  obtain ⟨r2, q2, h⟩ := bs h
  refine Y_callV [] (pc' := 8) dX3_readStatement_5 rfl VX3_130 (by decide) (zlN hN (by decide)) (congrArg Prod.fst (sh16 ln)) rfl rfl rfl (cs rfl) (cs rfl) rfl (CX3_kindOfToken hN f1 q2) (Nat.zero_add _).symm (Nat.zero_add _).symm (fun f2 => ?_)
  refine X_istore_n (pc' := 9) dX3_readStatement_8 rfl (cl rfl) (Or.inr rfl) (L' := [some (.ref (16)), some (.int (iN (r2))), none, none]) rfl ?_
  refine X_iload_n (pc' := 10) dX3_readStatement_9 rfl rfl ?_
  refine X_iconst (pc' := 11) dX3_readStatement_10 rfl ?_
  refine X_icmp_eq dX3_readStatement_11 (tgt := 22) rfl (pc' := 14) rfl ⟨f2.1, f2.2, (inR_c (n := (-1)) rfl).1, (inR_c (n := (-1)) rfl).2⟩ (fun c3 => ?_) (fun c3 => ?_)
  · have h := if_t c3 h
    refine X_iconst (pc' := 23) dX3_readStatement_22 rfl ?_
    cases h
    exact X_zret dX3_readStatement_23 rfl (Or.inl rfl) (k ⟨(Or.inl rfl), f1⟩)
  have h := if_f c3 h
  refine X_aload_n (pc' := 15) dX3_readStatement_14 rfl rfl ?_
  refine X_iload_n (pc' := 16) dX3_readStatement_15 rfl rfl ?_
  obtain ⟨r4, q4, h⟩ := bs h
  refine Y_callV [.int (iN (r2))] (pc' := 19) dX3_readStatement_16 rfl VX3_133 (by decide) (zlN hN (by decide)) (congrArg Prod.fst (sh16 ln)) rfl rfl rfl (cs rfl) (cs rfl) rfl (CX3_hasRoomFor hN f1 f2 q4) (Nat.zero_add _).symm (Nat.zero_add _).symm (fun f4 => ?_)
  refine X_if_ne dX3_readStatement_19 (tgt := 24) rfl (pc' := 22) rfl (inR_b f4) (fun c5 => ?_) (fun c5 => ?_)
  · have h := if_f c5 h
    refine X_iconst (pc' := 25) dX3_readStatement_24 rfl ?_
    refine X_istore_n (pc' := 26) dX3_readStatement_25 rfl (cl rfl) (Or.inr rfl) (L' := [some (.ref (16)), some (.int (iN (r2))), some (.int (iN (0))), none]) rfl ?_
    obtain ⟨x6_z | y6, q6, h⟩ := bs h
    rotate_left
    · exact X_sub (sub_s (sub_s (sub_s (sub_n sub_0)))) (LX3_readStatement_26 hN f2 (fun x6_z₁ hh hx6_z => by cases hh) (fun t hh => by cases hh; cases h; exact k) FU _ _ (inR_c (n := 0) rfl) f1 q6)
    refine X_sub (sub_s (sub_s (sub_s (sub_n sub_0)))) (LX3_readStatement_26 hN f2 (fun x6_z₁ hh hx6_z => ?_) (fun t hh => by cases hh) FU _ _ (inR_c (n := 0) rfl) f1 q6)
    cases hh
    refine X_aload_n (pc' := 82) dX3_readStatement_81 rfl rfl ?_
    refine X_iload_n (pc' := 83) dX3_readStatement_82 rfl rfl ?_
    obtain ⟨z7, q7, h⟩ := bs h
    refine Y_callVv [.int (iN (r2))] (pc' := 86) dX3_readStatement_83 rfl VX3_146 (by decide) (zlN hN (by decide)) (congrArg Prod.fst (sh16 ln)) rfl rfl rfl (cs rfl) (cs rfl) rfl (CX3_addStatement hN hx6_z f2 q7) (Nat.zero_add _).symm (Nat.zero_add _).symm (fun f7 => ?_)
    refine X_iconst (pc' := 87) dX3_readStatement_86 rfl ?_
    cases h
    exact X_zret dX3_readStatement_87 rfl (Or.inr rfl) (k ⟨(Or.inr rfl), f7⟩)
  have h := if_t c5 h
  refine X_iconst (pc' := 23) dX3_readStatement_22 rfl ?_
  cases h
  exact X_zret dX3_readStatement_23 rfl (Or.inl rfl) (k ⟨(Or.inl rfl), f1⟩)
def fX3_readDraft_s19 (v1 : Int) (z : ZZ) : Option ((Int × ZZ) ⊕ ((ZZ) ⊕ (Int × ZZ))) := (if ((z 16 1)) < (v1) then some (.inr (.inl z)) else (Option.bind (fX3_readStatement z) fun q2 => match q2 with | (r2, z2) => (if (r2) = (0) then some (.inr (.inr (((z2 16 5), z2)))) else (Option.bind (fX3_readToken z2) fun z4 => (if ((z4 16 5)) < ((z4 16 1)) then (Option.bind (fX3_byteAt ((z4 16 5)) z4) fun r6 => (if (r6) = (59) then (if inR ((v1 + 1)) then some (.inl ((v1 + 1), z4)) else none) else some (.inr (.inr (((z4 16 5), z4)))))) else some (.inr (.inr (((-1), z4)))))))))
set_option maxRecDepth 100000 in
theorem SX3_readDraft_19 {ln : ZR} {N : Nat} {z : ZZ} {v1 : Int} {c9 s9 : Nat} {Φ : xRes → xS → Prop} (hN : 151 ≤ N ∧ N < 999999) (hz : okz z) (rv1 : inR v1) {p : (Int × ZZ) ⊕ ((ZZ) ⊕ (Int × ZZ))} (h : fX3_readDraft_s19 v1 z = some p) (k1 : ∀ (v1' : Int) (z' : ZZ), p = .inl (v1', z') → inR v1' → okz z' → X mX3_readDraft 19 [some (.ref (16)), some (.int (iN (v1')))] [] (zmk ln N z') c9 s9 Φ) (k2 : ∀ (z' : ZZ), p = .inr (.inl z') → okz z' → X mX3_readDraft 80 [some (.ref (16)), none] [] (zmk ln N z') c9 s9 Φ) (k3 : ∀ t, p = .inr (.inr t) → Fin_wi Φ ln N t) : X mX3_readDraft 19 [some (.ref (16)), some (.int (iN (v1)))] [] (zmk ln N z) c9 s9 Φ := by
  unfold fX3_readDraft_s19 at h
  refine X_iload_n (pc' := 20) dX3_readDraft_19 rfl rfl ?_
  refine X_aload_n (pc' := 21) dX3_readDraft_20 rfl rfl ?_
  refine Y_get (pc' := 24) dX3_readDraft_21 rfl FX3_15 (zlN hN (by decide)) (congrArg Prod.fst (sh16 ln)) (ct16_1 z) ?_
  refine X_icmp_gt dX3_readDraft_24 (tgt := 80) rfl (pc' := 27) rfl ⟨rv1.1, rv1.2, (hz 16 1 (by decide)).1, (hz 16 1 (by decide)).2⟩ (fun c1 => ?_) (fun c1 => ?_)
  · have h := if_t c1 h
    cases h
    exact X_sub (sub_s (sub_n sub_0)) (k2 _ rfl hz)
  have h := if_f (Int.not_lt.mpr c1) h
  refine X_aload_n (pc' := 28) dX3_readDraft_27 rfl rfl ?_
  obtain ⟨⟨r2, z2⟩, q2, h⟩ := bs h
  refine Y_callV [] (pc' := 31) dX3_readDraft_28 rfl VX3_153 (by decide) (zlN hN (by decide)) (congrArg Prod.fst (sh16 ln)) rfl rfl rfl (cs rfl) (cs rfl) rfl (CX3_readStatement hN hz q2) (Nat.zero_add _).symm (Nat.zero_add _).symm (fun f2 => ?_)
  refine X_if_ne dX3_readDraft_31 (tgt := 39) rfl (pc' := 34) rfl (inR_b f2.1) (fun c3 => ?_) (fun c3 => ?_)
  · have h := if_f c3 h
    refine X_aload_n (pc' := 40) dX3_readDraft_39 rfl rfl ?_
    obtain ⟨z4, q4, h⟩ := bs h
    refine Y_callVv [] (pc' := 43) dX3_readDraft_40 rfl VX3_127 (by decide) (zlN hN (by decide)) (congrArg Prod.fst (sh16 ln)) rfl rfl rfl (cs rfl) (cs rfl) rfl (CX3_readToken hN f2.2 q4) (Nat.zero_add _).symm (Nat.zero_add _).symm (fun f4 => ?_)
    refine X_aload_n (pc' := 44) dX3_readDraft_43 rfl rfl ?_
    refine Y_get (pc' := 47) dX3_readDraft_44 rfl FX3_26 (zlN hN (by decide)) (congrArg Prod.fst (sh16 ln)) (ct16_5 z4) ?_
    refine X_aload_n (pc' := 48) dX3_readDraft_47 rfl rfl ?_
    refine Y_get (pc' := 51) dX3_readDraft_48 rfl FX3_15 (zlN hN (by decide)) (congrArg Prod.fst (sh16 ln)) (ct16_1 z4) ?_
    refine X_icmp_lt dX3_readDraft_51 (tgt := 56) rfl (pc' := 54) rfl ⟨(f4 16 5 (by decide)).1, (f4 16 5 (by decide)).2, (f4 16 1 (by decide)).1, (f4 16 1 (by decide)).2⟩ (fun c5 => ?_) (fun c5 => ?_)
    · have h := if_t c5 h
      refine X_aload_n (pc' := 57) dX3_readDraft_56 rfl rfl ?_
      refine X_aload_n (pc' := 58) dX3_readDraft_57 rfl rfl ?_
      refine Y_get (pc' := 61) dX3_readDraft_58 rfl FX3_26 (zlN hN (by decide)) (congrArg Prod.fst (sh16 ln)) (ct16_5 z4) ?_
      obtain ⟨r6, q6, h⟩ := bs h
      refine Y_callV [.int (iN ((z4 16 5)))] (pc' := 64) dX3_readDraft_61 rfl VX3_36 (by decide) (zlN hN (by decide)) (congrArg Prod.fst (sh16 ln)) rfl rfl rfl (cs rfl) (cs rfl) rfl (CX3_byteAt hN f4 (f4 16 5 (by decide)) q6) (Nat.zero_add _).symm (Nat.zero_add _).symm (fun f6 => ?_)
      refine X_bipush (pc' := 66) dX3_readDraft_64 rfl (by decide) ?_
      refine X_icmp_eq dX3_readDraft_66 (tgt := 74) rfl (pc' := 69) rfl ⟨f6.1, f6.2, (inR_c (n := 59) rfl).1, (inR_c (n := 59) rfl).2⟩ (fun c7 => ?_) (fun c7 => ?_)
      · have h := if_t c7 h
        refine X_iinc (pc' := 77) dX3_readDraft_74 rfl rfl (Or.inr rfl) (L' := [some (.ref (16)), some (.int (iN (v1 + 1)))]) rfl ?_
        refine X_goto dX3_readDraft_77 (tgt := 19) rfl ?_
        obtain ⟨g8, h⟩ := gs h
        cases h
        exact X_sub (sub_s (sub_s sub_0)) (k1 _ _ rfl g8 f4)
      have h := if_f c7 h
      refine X_aload_n (pc' := 70) dX3_readDraft_69 rfl rfl ?_
      refine Y_get (pc' := 73) dX3_readDraft_70 rfl FX3_26 (zlN hN (by decide)) (congrArg Prod.fst (sh16 ln)) (ct16_5 z4) ?_
      cases h
      exact X_iret dX3_readDraft_73 rfl ((k3 _ rfl) ⟨(f4 16 5 (by decide)), f4⟩)
    have h := if_f (Int.not_lt.mpr c5) h
    refine X_iconst (pc' := 55) dX3_readDraft_54 rfl ?_
    cases h
    exact X_iret dX3_readDraft_55 rfl ((k3 _ rfl) ⟨(inR_c (n := (-1)) rfl), f4⟩)
  have h := if_t c3 h
  refine X_aload_n (pc' := 35) dX3_readDraft_34 rfl rfl ?_
  refine Y_get (pc' := 38) dX3_readDraft_35 rfl FX3_26 (zlN hN (by decide)) (congrArg Prod.fst (sh16 ln)) (ct16_5 z2) ?_
  cases h
  exact X_iret dX3_readDraft_38 rfl ((k3 _ rfl) ⟨(f2.2 16 5 (by decide)), f2.2⟩)
theorem LX3_readDraft_19 {ln : ZR} {N : Nat} {c9 s9 : Nat} {Φ : xRes → xS → Prop} (hN : 151 ≤ N ∧ N < 999999) {r : (ZZ) ⊕ (Int × ZZ)} (k2 : ∀ (z' : ZZ), r = .inl z' → okz z' → X mX3_readDraft 80 [some (.ref (16)), none] [] (zmk ln N z') c9 s9 Φ) (k3 : ∀ t, r = .inr t → Fin_wi Φ ln N t) : ∀ (n : Nat) (v1 : Int) (z : ZZ), inR v1 → okz z → zlp (fun q => fX3_readDraft_s19 q.1 q.2) n (v1, z) = some r → X mX3_readDraft 19 [some (.ref (16)), some (.int (iN (v1)))] [] (zmk ln N z) c9 s9 Φ := by
  intro n
  induction n with
  | zero => intro v1 z rv1 hz h; cases h
  | succ n ih =>
    intro v1 z rv1 hz h
    rcases zlp_s h with ⟨⟨v1', z'⟩, e, h'⟩ | e
    · exact SX3_readDraft_19 hN hz rv1 e (fun v1₁ z₁ hh f0 f1 => by cases hh; exact ih _ _ f0 f1 h') (fun z₁ hh f0 => by cases hh) (fun t hh => by cases hh)
    · exact SX3_readDraft_19 hN hz rv1 e (fun v1₁ z₁ hh f0 f1 => by cases hh) (fun z₁ hh f0 => by cases hh; exact k2 _ rfl f0) (fun t hh => by cases hh; exact k3 t rfl)
def fX3_readDraft (z : ZZ) : Option (Int × ZZ) := (Option.bind (fX1_clear 17 z) fun z1 => (zl (zup z1 16 4 (0)) fun z2 => (zl (zup z2 16 6 (0)) fun z3 => (Option.bind (zlp (fun q => fX3_readDraft_s19 q.1 q.2) FU (0, z3)) fun q4 => match q4 with | .inl x4_z => some ((x4_z 16 1), x4_z) | .inr y4 => some y4))))
set_option maxRecDepth 100000 in
theorem CX3_readDraft {ln : ZR} {N : Nat} {z : ZZ} (hN : 151 ≤ N ∧ N < 999999) (hz : okz z) {p : Int × ZZ} (h : fX3_readDraft z = some p) : X mX3_readDraft 0 (xEnt [.ref (16)] (xL mX3_readDraft)) [] (zmk ln N z) (cc_wi p) (6 * cc_wi p) (Qd (fa_wi p) (rs_wi p) (st_wi ln N p)) := by
  have k : Fin_wi (Qd (fa_wi p) (rs_wi p) (st_wi ln N p)) ln N p := Fin_wi_i
  unfold fX3_readDraft at h
  refine X_to (M := [some (.ref (16)), none]) (su := []) rfl rfl ?_
  refine X_aload_n (pc' := 1) dX3_readDraft_0 rfl rfl ?_
  refine Y_get (pc' := 4) dX3_readDraft_1 rfl FX3_32 (zlN hN (by decide)) (congrArg Prod.fst (sh16 ln)) (ct16_2 z) ?_
  obtain ⟨z1, q1, h⟩ := bs h
  refine Y_callVv [] (pc' := 7) dX3_readDraft_4 rfl VX3_150 (by decide) (zlN hN (by decide)) (congrArg Prod.fst (sh17 ln)) rfl rfl rfl (cs rfl) (cs rfl) rfl (CX1_clear hN hz kH17 q1) (Nat.zero_add _).symm (Nat.zero_add _).symm (fun f1 => ?_)
  refine X_aload_n (pc' := 8) dX3_readDraft_7 rfl rfl ?_
  refine X_iconst (pc' := 9) dX3_readDraft_8 rfl ?_
  refine Y_put (k := 4) (j := 4) (v := 0) (pc' := 12) dX3_readDraft_9 rfl FX3_22 (zlN hN (by decide)) (congrArg Prod.fst (sh16 ln)) (fun r hr => by cases hr; rfl) (xFit_bool (Or.inl rfl)) rfl rfl ?_
  obtain ⟨z2, e2, hz2, h⟩ := zl_some (P := okz) h (okz_up f1 (inR_b (Or.inl rfl)))
  rw [e2]
  refine X_aload_n (pc' := 13) dX3_readDraft_12 rfl rfl ?_
  refine X_iconst (pc' := 14) dX3_readDraft_13 rfl ?_
  refine Y_put (k := 6) (j := 6) (v := 0) (pc' := 17) dX3_readDraft_14 rfl FX3_29 (zlN hN (by decide)) (congrArg Prod.fst (sh16 ln)) (fun r hr => by cases hr; rfl) (xFit_int _) rfl rfl ?_
  obtain ⟨z3, e3, hz3, h⟩ := zl_some (P := okz) h (okz_up hz2 (inR_c (n := 0) rfl))
  rw [e3]
  refine X_iconst (pc' := 18) dX3_readDraft_17 rfl ?_
  refine X_istore_n (pc' := 19) dX3_readDraft_18 rfl (cl rfl) (Or.inr rfl) (L' := [some (.ref (16)), some (.int (iN (0)))]) rfl ?_
  obtain ⟨x4_z | y4, q4, h⟩ := bs h
  rotate_left
  · exact X_sub (sub_s (sub_s sub_0)) (LX3_readDraft_19 hN (fun x4_z₁ hh hx4_z => by cases hh) (fun t hh => by cases hh; cases h; exact k) FU _ _ (inR_c (n := 0) rfl) hz3 q4)
  refine X_sub (sub_s (sub_s sub_0)) (LX3_readDraft_19 hN (fun x4_z₁ hh hx4_z => ?_) (fun t hh => by cases hh) FU _ _ (inR_c (n := 0) rfl) hz3 q4)
  cases hh
  refine X_aload_n (pc' := 81) dX3_readDraft_80 rfl rfl ?_
  refine Y_get (pc' := 84) dX3_readDraft_81 rfl FX3_15 (zlN hN (by decide)) (congrArg Prod.fst (sh16 ln)) (ct16_1 x4_z) ?_
  cases h
  exact X_iret dX3_readDraft_84 rfl (k ⟨(hx4_z 16 1 (by decide)), hx4_z⟩)

def fX6_in (v0 : Int) (v2 : Int) (v4 : Int) (z : ZZ) : Option (Int) := (if ((zcmp (v0) (v2))) < (0) then some (0) else (if (0) < ((zcmp (v0) (v4))) then some (0) else some (1)))
set_option maxRecDepth 100000 in
theorem CX6_in {ln N : Nat} {z : ZZ} {v0 : Int} {v2 : Int} {v4 : Int} (hN : 159 ≤ N ∧ N < 999999) (hz : okz z) (rv0 : inL v0) (rv2 : inL v2) (rv4 : inL v4) {p : Int} (h : fX6_in v0 v2 v4 z = some p) : X mX6_in 0 (xEnt [.long (lI (v0)), .long (lI (v2)), .long (lI (v4))] (xL mX6_in)) [] (zmk ln N z) (cc_b p) (6 * cc_b p) (Qd (fa_b p) (rs_b p) (st_b ln N z p)) := by
  have k : Fin_b (Qd (fa_b p) (rs_b p) (st_b ln N z p)) ln N z p := Fin_b_i
  unfold fX6_in at h
  refine X_to (M := [some (.long (lI (v0))), none, some (.long (lI (v2))), none, some (.long (lI (v4))), none]) (su := []) rfl rfl ?_
  refine X_lload_n (pc' := 1) dX6_in_0 rfl rfl ?_
  refine X_lload_n (pc' := 2) dX6_in_1 rfl rfl ?_
  refine X_lcmp (pc' := 3) dX6_in_2 rfl ⟨rv0.1, rv0.2, rv2.1, rv2.2⟩ ?_
  refine X_if_lt dX6_in_3 (tgt := 17) rfl (pc' := 6) rfl (inR_cmp _ _) (fun c1 => ?_) (fun c1 => ?_)
  · have h := if_t c1 h
    refine X_iconst (pc' := 18) dX6_in_17 rfl ?_
    cases h
    exact X_zret dX6_in_18 rfl (Or.inl rfl) (k (Or.inl rfl))
  have h := if_f (Int.not_lt.mpr c1) h
  refine X_lload_n (pc' := 7) dX6_in_6 rfl rfl ?_
  refine X_lload (pc' := 9) dX6_in_7 rfl rfl ?_
  refine X_lcmp (pc' := 10) dX6_in_9 rfl ⟨rv0.1, rv0.2, rv4.1, rv4.2⟩ ?_
  refine X_if_gt dX6_in_10 (tgt := 17) rfl (pc' := 13) rfl (inR_cmp _ _) (fun c2 => ?_) (fun c2 => ?_)
  · have h := if_t c2 h
    refine X_iconst (pc' := 18) dX6_in_17 rfl ?_
    cases h
    exact X_zret dX6_in_18 rfl (Or.inl rfl) (k (Or.inl rfl))
  have h := if_f (Int.not_lt.mpr c2) h
  refine X_iconst (pc' := 14) dX6_in_13 rfl ?_
  refine X_goto dX6_in_14 (tgt := 18) rfl ?_
  cases h
  exact X_zret dX6_in_18 rfl (Or.inr rfl) (k (Or.inr rfl))
def fX6_isMember (v1 : Int) (z : ZZ) : Option (Int) := (if inR (((z 154 (546)) - 1)) then (Option.bind (fX6_in (v1) (0) (((z 154 (546)) - 1)) z) fun r2 => some (r2)) else none)
set_option maxRecDepth 100000 in
theorem CX6_isMember {ln N : Nat} {z : ZZ} {v1 : Int} (hN : 159 ≤ N ∧ N < 999999) (hz : okz z) (rv1 : inR v1) {p : Int} (h : fX6_isMember v1 z = some p) : X mX6_isMember 0 (xEnt [.ref (151), .int (iN (v1))] (xL mX6_isMember)) [] (zmk ln N z) (cc_b p) (6 * cc_b p) (Qd (fa_b p) (rs_b p) (st_b ln N z p)) := by
  have k : Fin_b (Qd (fa_b p) (rs_b p) (st_b ln N z p)) ln N z p := Fin_b_i
  unfold fX6_isMember at h
  refine X_to (M := [some (.ref (151)), some (.int (iN (v1)))]) (su := []) rfl rfl ?_
  refine X_iload_n (pc' := 1) dX6_isMember_0 rfl rfl ?_
  refine X_lI_i2l (pc' := 2) dX6_isMember_1 rfl rv1 ?_
  refine X_lI_const (pc' := 3) dX6_isMember_2 rfl (a := 0) rfl ?_
  refine X_aload_n (pc' := 4) dX6_isMember_3 rfl rfl ?_
  refine Y_get (pc' := 7) dX6_isMember_4 rfl FX6_16 (zlN hN (by decide)) (congrArg Prod.fst (sh151 ln)) (ct151_9 z) ?_
  refine X_sipush (pc' := 10) dX6_isMember_7 rfl (by decide) ?_
  refine Y_iald (pc' := 11) dX6_isMember_10 rfl (zlN hN (by decide)) (sh154 ln) (by decide) ⟨by decide, by decide⟩ ?_
  refine X_iconst (pc' := 12) dX6_isMember_11 rfl ?_
  refine X_isub (pc' := 13) dX6_isMember_12 rfl ?_
  obtain ⟨g1, h⟩ := gs h
  refine X_lI_i2l (pc' := 14) dX6_isMember_13 rfl g1 ?_
  obtain ⟨r2, q2, h⟩ := bs h
  refine Y_callS [.long (lI (v1)), .long (lI (0)), .long (lI (((z 154 (546)) - 1)))] (pc' := 17) dX6_isMember_14 rfl SX6_66 (by decide) rfl (cs rfl) (cs rfl) rfl (CX6_in hN hz (inL_R rv1) (inL_c (n := 0) rfl) (inL_R g1) q2) (Nat.zero_add _).symm (Nat.zero_add _).symm (fun f2 => ?_)
  cases h
  exact X_zret dX6_isMember_17 rfl f2 (k f2)
def fX6_fails_b9 (v1 : Int) (z : ZZ) : Option (Int × ZZ) := (if (v1) = (0) then some (1, z) else some (0, z))
set_option maxRecDepth 100000 in
theorem BX6_fails_9 {ln N : Nat} {z : ZZ} {v1 : Int} {c9 s9 : Nat} {Φ : xRes → xS → Prop} (hN : 159 ≤ N ∧ N < 999999) (hz : okz z) (rv1 : inR v1) {p : Int × ZZ} (h : fX6_fails_b9 v1 z = some p) (k : Fin_wb Φ ln N p) : X mX6_fails 9 [none, some (.int (iN (v1))), none] [] (zmk ln N z) c9 s9 Φ := by
  unfold fX6_fails_b9 at h
  refine X_iload_n (pc' := 10) dX6_fails_9 rfl rfl ?_
  refine X_if_ne dX6_fails_10 (tgt := 17) rfl (pc' := 13) rfl rv1 (fun c1 => ?_) (fun c1 => ?_)
  · have h := if_f c1 h
    refine X_iconst (pc' := 18) dX6_fails_17 rfl ?_
    cases h
    exact X_zret dX6_fails_18 rfl (Or.inl rfl) (k ⟨(Or.inl rfl), hz⟩)
  have h := if_t c1 h
  refine X_iconst (pc' := 14) dX6_fails_13 rfl ?_
  refine X_goto dX6_fails_14 (tgt := 18) rfl ?_
  cases h
  exact X_zret dX6_fails_18 rfl (Or.inr rfl) (k ⟨(Or.inr rfl), hz⟩)
def fX6_fails (v1 : Int) (v2 : Int) (z : ZZ) : Option (Int × ZZ) := (if (v1) = (0) then (zl (zup z 151 0 (v2)) fun z2 => fX6_fails_b9 (v1) z2) else fX6_fails_b9 (v1) z)
set_option maxRecDepth 100000 in
theorem CX6_fails {ln N : Nat} {z : ZZ} {v1 : Int} {v2 : Int} (hN : 159 ≤ N ∧ N < 999999) (hz : okz z) (rv1 : inR v1) (rv2 : inR v2) {p : Int × ZZ} (h : fX6_fails v1 v2 z = some p) : X mX6_fails 0 (xEnt [.ref (151), .int (iN (v1)), .int (iN (v2))] (xL mX6_fails)) [] (zmk ln N z) (cc_wb p) (6 * cc_wb p) (Qd (fa_wb p) (rs_wb p) (st_wb ln N p)) := by
  have k : Fin_wb (Qd (fa_wb p) (rs_wb p) (st_wb ln N p)) ln N p := Fin_wb_i
  unfold fX6_fails at h
  refine X_to (M := [some (.ref (151)), some (.int (iN (v1))), some (.int (iN (v2)))]) (su := []) rfl rfl ?_
  refine X_iload_n (pc' := 1) dX6_fails_0 rfl rfl ?_
  refine X_if_ne dX6_fails_1 (tgt := 9) rfl (pc' := 4) rfl rv1 (fun c1 => ?_) (fun c1 => ?_)
  · have h := if_f c1 h
    exact X_sub (sub_n (sub_s (sub_n sub_0))) (BX6_fails_9 hN hz rv1 h k)
  have h := if_t c1 h
  refine X_aload_n (pc' := 5) dX6_fails_4 rfl rfl ?_
  refine X_iload_n (pc' := 6) dX6_fails_5 rfl rfl ?_
  refine Y_put (k := 0) (j := 0) (v := v2) (pc' := 9) dX6_fails_6 rfl FX6_51 (zlN hN (by decide)) (congrArg Prod.fst (sh151 ln)) (fun r hr => by cases hr; rfl) (xFit_int _) rfl rfl ?_
  obtain ⟨z2, e2, hz2, h⟩ := zl_some (P := okz) h (okz_up hz rv2)
  rw [e2]
  exact X_sub (sub_n (sub_s (sub_n sub_0))) (BX6_fails_9 hN hz2 rv1 h k)
def fX6_routePart (v1 : Int) (v2 : Int) (z : ZZ) : Option (Int) := (if (0 : Int) ≤ (((38 + (18 * v1)) + v2)) ∧ (((38 + (18 * v1)) + v2)) < (765 : Int) then some ((z 154 (((38 + (18 * v1)) + v2)))) else none)
set_option maxRecDepth 100000 in
theorem CX6_routePart {ln N : Nat} {z : ZZ} {v1 : Int} {v2 : Int} (hN : 159 ≤ N ∧ N < 999999) (hz : okz z) (rv1 : inR v1) (rv2 : inR v2) {p : Int} (h : fX6_routePart v1 v2 z = some p) : X mX6_routePart 0 (xEnt [.ref (151), .int (iN (v1)), .int (iN (v2))] (xL mX6_routePart)) [] (zmk ln N z) (cc_r p) (6 * cc_r p) (Qd (fa_r p) (rs_r p) (st_r ln N z p)) := by
  have k : Fin_r (Qd (fa_r p) (rs_r p) (st_r ln N z p)) ln N z p := Fin_r_i
  unfold fX6_routePart at h
  refine X_to (M := [some (.ref (151)), some (.int (iN (v1))), some (.int (iN (v2)))]) (su := []) rfl rfl ?_
  refine X_aload_n (pc' := 1) dX6_routePart_0 rfl rfl ?_
  refine Y_get (pc' := 4) dX6_routePart_1 rfl FX6_16 (zlN hN (by decide)) (congrArg Prod.fst (sh151 ln)) (ct151_9 z) ?_
  refine X_bipush (pc' := 6) dX6_routePart_4 rfl (by decide) ?_
  refine X_bipush (pc' := 8) dX6_routePart_6 rfl (by decide) ?_
  refine X_iload_n (pc' := 9) dX6_routePart_8 rfl rfl ?_
  refine X_imul (pc' := 10) dX6_routePart_9 rfl ?_
  refine X_iadd (pc' := 11) dX6_routePart_10 rfl ?_
  refine X_iload_n (pc' := 12) dX6_routePart_11 rfl rfl ?_
  refine X_iadd (pc' := 13) dX6_routePart_12 rfl ?_
  obtain ⟨g1, h⟩ := gs h
  refine Y_iald (pc' := 14) dX6_routePart_13 rfl (zlN hN (by decide)) (sh154 ln) (by decide) g1 ?_
  cases h
  exact X_iret dX6_routePart_14 rfl (k (hz 154 (((38 + (18 * v1)) + v2)) (by decide)))
def fX6_memberPart (v1 : Int) (v2 : Int) (z : ZZ) : Option (Int) := (if (0 : Int) ≤ (((547 + (6 * v1)) + v2)) ∧ (((547 + (6 * v1)) + v2)) < (765 : Int) then some ((z 154 (((547 + (6 * v1)) + v2)))) else none)
set_option maxRecDepth 100000 in
theorem CX6_memberPart {ln N : Nat} {z : ZZ} {v1 : Int} {v2 : Int} (hN : 159 ≤ N ∧ N < 999999) (hz : okz z) (rv1 : inR v1) (rv2 : inR v2) {p : Int} (h : fX6_memberPart v1 v2 z = some p) : X mX6_memberPart 0 (xEnt [.ref (151), .int (iN (v1)), .int (iN (v2))] (xL mX6_memberPart)) [] (zmk ln N z) (cc_r p) (6 * cc_r p) (Qd (fa_r p) (rs_r p) (st_r ln N z p)) := by
  have k : Fin_r (Qd (fa_r p) (rs_r p) (st_r ln N z p)) ln N z p := Fin_r_i
  unfold fX6_memberPart at h
  refine X_to (M := [some (.ref (151)), some (.int (iN (v1))), some (.int (iN (v2)))]) (su := []) rfl rfl ?_
  refine X_aload_n (pc' := 1) dX6_memberPart_0 rfl rfl ?_
  refine Y_get (pc' := 4) dX6_memberPart_1 rfl FX6_16 (zlN hN (by decide)) (congrArg Prod.fst (sh151 ln)) (ct151_9 z) ?_
  refine X_sipush (pc' := 7) dX6_memberPart_4 rfl (by decide) ?_
  refine X_bipush (pc' := 9) dX6_memberPart_7 rfl (by decide) ?_
  refine X_iload_n (pc' := 10) dX6_memberPart_9 rfl rfl ?_
  refine X_imul (pc' := 11) dX6_memberPart_10 rfl ?_
  refine X_iadd (pc' := 12) dX6_memberPart_11 rfl ?_
  refine X_iload_n (pc' := 13) dX6_memberPart_12 rfl rfl ?_
  refine X_iadd (pc' := 14) dX6_memberPart_13 rfl ?_
  obtain ⟨g1, h⟩ := gs h
  refine Y_iald (pc' := 15) dX6_memberPart_14 rfl (zlN hN (by decide)) (sh154 ln) (by decide) g1 ?_
  cases h
  exact X_iret dX6_memberPart_15 rfl (k (hz 154 (((547 + (6 * v1)) + v2)) (by decide)))
def fX6_harnessPart (v1 : Int) (v2 : Int) (z : ZZ) : Option (Int) := (if (0 : Int) ≤ (((471 + (5 * v1)) + v2)) ∧ (((471 + (5 * v1)) + v2)) < (765 : Int) then some ((z 154 (((471 + (5 * v1)) + v2)))) else none)
set_option maxRecDepth 100000 in
theorem CX6_harnessPart {ln N : Nat} {z : ZZ} {v1 : Int} {v2 : Int} (hN : 159 ≤ N ∧ N < 999999) (hz : okz z) (rv1 : inR v1) (rv2 : inR v2) {p : Int} (h : fX6_harnessPart v1 v2 z = some p) : X mX6_harnessPart 0 (xEnt [.ref (151), .int (iN (v1)), .int (iN (v2))] (xL mX6_harnessPart)) [] (zmk ln N z) (cc_r p) (6 * cc_r p) (Qd (fa_r p) (rs_r p) (st_r ln N z p)) := by
  have k : Fin_r (Qd (fa_r p) (rs_r p) (st_r ln N z p)) ln N z p := Fin_r_i
  unfold fX6_harnessPart at h
  refine X_to (M := [some (.ref (151)), some (.int (iN (v1))), some (.int (iN (v2)))]) (su := []) rfl rfl ?_
  refine X_aload_n (pc' := 1) dX6_harnessPart_0 rfl rfl ?_
  refine Y_get (pc' := 4) dX6_harnessPart_1 rfl FX6_16 (zlN hN (by decide)) (congrArg Prod.fst (sh151 ln)) (ct151_9 z) ?_
  refine X_sipush (pc' := 7) dX6_harnessPart_4 rfl (by decide) ?_
  refine X_iconst (pc' := 8) dX6_harnessPart_7 rfl ?_
  refine X_iload_n (pc' := 9) dX6_harnessPart_8 rfl rfl ?_
  refine X_imul (pc' := 10) dX6_harnessPart_9 rfl ?_
  refine X_iadd (pc' := 11) dX6_harnessPart_10 rfl ?_
  refine X_iload_n (pc' := 12) dX6_harnessPart_11 rfl rfl ?_
  refine X_iadd (pc' := 13) dX6_harnessPart_12 rfl ?_
  obtain ⟨g1, h⟩ := gs h
  refine Y_iald (pc' := 14) dX6_harnessPart_13 rfl (zlN hN (by decide)) (sh154 ln) (by decide) g1 ?_
  cases h
  exact X_iret dX6_harnessPart_14 rfl (k (hz 154 (((471 + (5 * v1)) + v2)) (by decide)))
def fX6_isRetired (v1 : Int) (z : ZZ) : Option (Int) := (Option.bind (fX6_harnessPart (v1) (3) z) fun r1 => (if (r1) = (1) then some (1) else some (0)))
set_option maxRecDepth 100000 in
theorem CX6_isRetired {ln N : Nat} {z : ZZ} {v1 : Int} (hN : 159 ≤ N ∧ N < 999999) (hz : okz z) (rv1 : inR v1) {p : Int} (h : fX6_isRetired v1 z = some p) : X mX6_isRetired 0 (xEnt [.ref (151), .int (iN (v1))] (xL mX6_isRetired)) [] (zmk ln N z) (cc_b p) (6 * cc_b p) (Qd (fa_b p) (rs_b p) (st_b ln N z p)) := by
  have k : Fin_b (Qd (fa_b p) (rs_b p) (st_b ln N z p)) ln N z p := Fin_b_i
  unfold fX6_isRetired at h
  refine X_to (M := [some (.ref (151)), some (.int (iN (v1)))]) (su := []) rfl rfl ?_
  refine X_aload_n (pc' := 1) dX6_isRetired_0 rfl rfl ?_
  refine X_iload_n (pc' := 2) dX6_isRetired_1 rfl rfl ?_
  refine X_iconst (pc' := 3) dX6_isRetired_2 rfl ?_
  obtain ⟨r1, q1, h⟩ := bs h
  refine Y_callV [.int (iN (v1)), .int (iN (3))] (pc' := 6) dX6_isRetired_3 rfl VX6_198 (by decide) (zlN hN (by decide)) (congrArg Prod.fst (sh151 ln)) rfl rfl rfl (cs rfl) (cs rfl) rfl (CX6_harnessPart hN hz rv1 (inR_c (n := 3) rfl) q1) (Nat.zero_add _).symm (Nat.zero_add _).symm (fun f1 => ?_)
  refine X_iconst (pc' := 7) dX6_isRetired_6 rfl ?_
  refine X_icmp_ne dX6_isRetired_7 (tgt := 14) rfl (pc' := 10) rfl ⟨f1.1, f1.2, (inR_c (n := 1) rfl).1, (inR_c (n := 1) rfl).2⟩ (fun c2 => ?_) (fun c2 => ?_)
  · have h := if_f c2 h
    refine X_iconst (pc' := 15) dX6_isRetired_14 rfl ?_
    cases h
    exact X_zret dX6_isRetired_15 rfl (Or.inl rfl) (k (Or.inl rfl))
  have h := if_t c2 h
  refine X_iconst (pc' := 11) dX6_isRetired_10 rfl ?_
  refine X_goto dX6_isRetired_11 (tgt := 15) rfl ?_
  cases h
  exact X_zret dX6_isRetired_15 rfl (Or.inr rfl) (k (Or.inr rfl))
def fX6_lapse (v1 : Int) (z : ZZ) : Option (Int) := (Option.bind (fX6_harnessPart (v1) (2) z) fun r1 => (Option.bind (fX6_harnessPart (v1) (1) z) fun r2 => (if inR ((r1 + r2)) then some ((r1 + r2)) else none)))
set_option maxRecDepth 100000 in
theorem CX6_lapse {ln N : Nat} {z : ZZ} {v1 : Int} (hN : 159 ≤ N ∧ N < 999999) (hz : okz z) (rv1 : inR v1) {p : Int} (h : fX6_lapse v1 z = some p) : X mX6_lapse 0 (xEnt [.ref (151), .int (iN (v1))] (xL mX6_lapse)) [] (zmk ln N z) (cc_r p) (6 * cc_r p) (Qd (fa_r p) (rs_r p) (st_r ln N z p)) := by
  have k : Fin_r (Qd (fa_r p) (rs_r p) (st_r ln N z p)) ln N z p := Fin_r_i
  unfold fX6_lapse at h
  refine X_to (M := [some (.ref (151)), some (.int (iN (v1)))]) (su := []) rfl rfl ?_
  refine X_aload_n (pc' := 1) dX6_lapse_0 rfl rfl ?_
  refine X_iload_n (pc' := 2) dX6_lapse_1 rfl rfl ?_
  refine X_iconst (pc' := 3) dX6_lapse_2 rfl ?_
  obtain ⟨r1, q1, h⟩ := bs h
  refine Y_callV [.int (iN (v1)), .int (iN (2))] (pc' := 6) dX6_lapse_3 rfl VX6_198 (by decide) (zlN hN (by decide)) (congrArg Prod.fst (sh151 ln)) rfl rfl rfl (cs rfl) (cs rfl) rfl (CX6_harnessPart hN hz rv1 (inR_c (n := 2) rfl) q1) (Nat.zero_add _).symm (Nat.zero_add _).symm (fun f1 => ?_)
  refine X_aload_n (pc' := 7) dX6_lapse_6 rfl rfl ?_
  refine X_iload_n (pc' := 8) dX6_lapse_7 rfl rfl ?_
  refine X_iconst (pc' := 9) dX6_lapse_8 rfl ?_
  obtain ⟨r2, q2, h⟩ := bs h
  refine Y_callV [.int (iN (v1)), .int (iN (1))] (pc' := 12) dX6_lapse_9 rfl VX6_198 (by decide) (zlN hN (by decide)) (congrArg Prod.fst (sh151 ln)) rfl rfl rfl (cs rfl) (cs rfl) rfl (CX6_harnessPart hN hz rv1 (inR_c (n := 1) rfl) q2) (Nat.zero_add _).symm (Nat.zero_add _).symm (fun f2 => ?_)
  refine X_iadd (pc' := 13) dX6_lapse_12 rfl ?_
  obtain ⟨g3, h⟩ := gs h
  cases h
  exact X_iret dX6_lapse_13 rfl (k g3)
def fX6_isInForce (v1 : Int) (v2 : Int) (z : ZZ) : Option (Int) := (Option.bind (fX6_isRetired (v1) z) fun r1 => (if (r1) = (0) then (Option.bind (fX6_lapse (v1) z) fun r3 => (if (v2) < (r3) then some (1) else some (0))) else some (0)))
set_option maxRecDepth 100000 in
theorem CX6_isInForce {ln N : Nat} {z : ZZ} {v1 : Int} {v2 : Int} (hN : 159 ≤ N ∧ N < 999999) (hz : okz z) (rv1 : inR v1) (rv2 : inR v2) {p : Int} (h : fX6_isInForce v1 v2 z = some p) : X mX6_isInForce 0 (xEnt [.ref (151), .int (iN (v1)), .int (iN (v2))] (xL mX6_isInForce)) [] (zmk ln N z) (cc_b p) (6 * cc_b p) (Qd (fa_b p) (rs_b p) (st_b ln N z p)) := by
  have k : Fin_b (Qd (fa_b p) (rs_b p) (st_b ln N z p)) ln N z p := Fin_b_i
  unfold fX6_isInForce at h
  refine X_to (M := [some (.ref (151)), some (.int (iN (v1))), some (.int (iN (v2)))]) (su := []) rfl rfl ?_
  refine X_aload_n (pc' := 1) dX6_isInForce_0 rfl rfl ?_
  refine X_iload_n (pc' := 2) dX6_isInForce_1 rfl rfl ?_
  obtain ⟨r1, q1, h⟩ := bs h
  refine Y_callV [.int (iN (v1))] (pc' := 5) dX6_isInForce_2 rfl VX6_201 (by decide) (zlN hN (by decide)) (congrArg Prod.fst (sh151 ln)) rfl rfl rfl (cs rfl) (cs rfl) rfl (CX6_isRetired hN hz rv1 q1) (Nat.zero_add _).symm (Nat.zero_add _).symm (fun f1 => ?_)
  refine X_if_ne dX6_isInForce_5 (tgt := 21) rfl (pc' := 8) rfl (inR_b f1) (fun c2 => ?_) (fun c2 => ?_)
  · have h := if_f c2 h
    refine X_iconst (pc' := 22) dX6_isInForce_21 rfl ?_
    cases h
    exact X_zret dX6_isInForce_22 rfl (Or.inl rfl) (k (Or.inl rfl))
  have h := if_t c2 h
  refine X_iload_n (pc' := 9) dX6_isInForce_8 rfl rfl ?_
  refine X_aload_n (pc' := 10) dX6_isInForce_9 rfl rfl ?_
  refine X_iload_n (pc' := 11) dX6_isInForce_10 rfl rfl ?_
  obtain ⟨r3, q3, h⟩ := bs h
  refine Y_callV [.int (iN (v1))] (pc' := 14) dX6_isInForce_11 rfl VX6_204 (by decide) (zlN hN (by decide)) (congrArg Prod.fst (sh151 ln)) rfl rfl rfl (cs rfl) (cs rfl) rfl (CX6_lapse hN hz rv1 q3) (Nat.zero_add _).symm (Nat.zero_add _).symm (fun f3 => ?_)
  refine X_icmp_ge dX6_isInForce_14 (tgt := 21) rfl (pc' := 17) rfl ⟨rv2.1, rv2.2, f3.1, f3.2⟩ (fun c4 => ?_) (fun c4 => ?_)
  · have h := if_f (Int.not_lt.mpr c4) h
    refine X_iconst (pc' := 22) dX6_isInForce_21 rfl ?_
    cases h
    exact X_zret dX6_isInForce_22 rfl (Or.inl rfl) (k (Or.inl rfl))
  have h := if_t c4 h
  refine X_iconst (pc' := 18) dX6_isInForce_17 rfl ?_
  refine X_goto dX6_isInForce_18 (tgt := 22) rfl ?_
  cases h
  exact X_zret dX6_isInForce_22 rfl (Or.inr rfl) (k (Or.inr rfl))
def fX6_wallPart (v1 : Int) (v2 : Int) (z : ZZ) : Option (Int) := (if (0 : Int) ≤ (((5 + (4 * v1)) + v2)) ∧ (((5 + (4 * v1)) + v2)) < (765 : Int) then some ((z 154 (((5 + (4 * v1)) + v2)))) else none)
set_option maxRecDepth 100000 in
theorem CX6_wallPart {ln N : Nat} {z : ZZ} {v1 : Int} {v2 : Int} (hN : 159 ≤ N ∧ N < 999999) (hz : okz z) (rv1 : inR v1) (rv2 : inR v2) {p : Int} (h : fX6_wallPart v1 v2 z = some p) : X mX6_wallPart 0 (xEnt [.ref (151), .int (iN (v1)), .int (iN (v2))] (xL mX6_wallPart)) [] (zmk ln N z) (cc_r p) (6 * cc_r p) (Qd (fa_r p) (rs_r p) (st_r ln N z p)) := by
  have k : Fin_r (Qd (fa_r p) (rs_r p) (st_r ln N z p)) ln N z p := Fin_r_i
  unfold fX6_wallPart at h
  refine X_to (M := [some (.ref (151)), some (.int (iN (v1))), some (.int (iN (v2)))]) (su := []) rfl rfl ?_
  refine X_aload_n (pc' := 1) dX6_wallPart_0 rfl rfl ?_
  refine Y_get (pc' := 4) dX6_wallPart_1 rfl FX6_16 (zlN hN (by decide)) (congrArg Prod.fst (sh151 ln)) (ct151_9 z) ?_
  refine X_iconst (pc' := 5) dX6_wallPart_4 rfl ?_
  refine X_iconst (pc' := 6) dX6_wallPart_5 rfl ?_
  refine X_iload_n (pc' := 7) dX6_wallPart_6 rfl rfl ?_
  refine X_imul (pc' := 8) dX6_wallPart_7 rfl ?_
  refine X_iadd (pc' := 9) dX6_wallPart_8 rfl ?_
  refine X_iload_n (pc' := 10) dX6_wallPart_9 rfl rfl ?_
  refine X_iadd (pc' := 11) dX6_wallPart_10 rfl ?_
  obtain ⟨g1, h⟩ := gs h
  refine Y_iald (pc' := 12) dX6_wallPart_11 rfl (zlN hN (by decide)) (sh154 ln) (by decide) g1 ?_
  cases h
  exact X_iret dX6_wallPart_12 rfl (k (hz 154 (((5 + (4 * v1)) + v2)) (by decide)))
def fX6_isClosed (v1 : Int) (z : ZZ) : Option (Int) := (Option.bind (fX6_wallPart (v1) (3) z) fun r1 => (if (r1) = ((z 154 (3))) then some (1) else some (0)))
set_option maxRecDepth 100000 in
theorem CX6_isClosed {ln N : Nat} {z : ZZ} {v1 : Int} (hN : 159 ≤ N ∧ N < 999999) (hz : okz z) (rv1 : inR v1) {p : Int} (h : fX6_isClosed v1 z = some p) : X mX6_isClosed 0 (xEnt [.ref (151), .int (iN (v1))] (xL mX6_isClosed)) [] (zmk ln N z) (cc_b p) (6 * cc_b p) (Qd (fa_b p) (rs_b p) (st_b ln N z p)) := by
  have k : Fin_b (Qd (fa_b p) (rs_b p) (st_b ln N z p)) ln N z p := Fin_b_i
  unfold fX6_isClosed at h
  refine X_to (M := [some (.ref (151)), some (.int (iN (v1)))]) (su := []) rfl rfl ?_
  refine X_aload_n (pc' := 1) dX6_isClosed_0 rfl rfl ?_
  refine X_iload_n (pc' := 2) dX6_isClosed_1 rfl rfl ?_
  refine X_iconst (pc' := 3) dX6_isClosed_2 rfl ?_
  obtain ⟨r1, q1, h⟩ := bs h
  refine Y_callV [.int (iN (v1)), .int (iN (3))] (pc' := 6) dX6_isClosed_3 rfl VX6_195 (by decide) (zlN hN (by decide)) (congrArg Prod.fst (sh151 ln)) rfl rfl rfl (cs rfl) (cs rfl) rfl (CX6_wallPart hN hz rv1 (inR_c (n := 3) rfl) q1) (Nat.zero_add _).symm (Nat.zero_add _).symm (fun f1 => ?_)
  refine X_aload_n (pc' := 7) dX6_isClosed_6 rfl rfl ?_
  refine Y_get (pc' := 10) dX6_isClosed_7 rfl FX6_16 (zlN hN (by decide)) (congrArg Prod.fst (sh151 ln)) (ct151_9 z) ?_
  refine X_iconst (pc' := 11) dX6_isClosed_10 rfl ?_
  refine Y_iald (pc' := 12) dX6_isClosed_11 rfl (zlN hN (by decide)) (sh154 ln) (by decide) ⟨by decide, by decide⟩ ?_
  refine X_icmp_ne dX6_isClosed_12 (tgt := 19) rfl (pc' := 15) rfl ⟨f1.1, f1.2, (hz 154 (3) (by decide)).1, (hz 154 (3) (by decide)).2⟩ (fun c2 => ?_) (fun c2 => ?_)
  · have h := if_f c2 h
    refine X_iconst (pc' := 20) dX6_isClosed_19 rfl ?_
    cases h
    exact X_zret dX6_isClosed_20 rfl (Or.inl rfl) (k (Or.inl rfl))
  have h := if_t c2 h
  refine X_iconst (pc' := 16) dX6_isClosed_15 rfl ?_
  refine X_goto dX6_isClosed_16 (tgt := 20) rfl ?_
  cases h
  exact X_zret dX6_isClosed_20 rfl (Or.inr rfl) (k (Or.inr rfl))
def fX6_isWorn (v1 : Int) (z : ZZ) : Option (Int) := (Option.bind (fX6_routePart (v1) (3) z) fun r1 => (if (r1) < ((z 154 (2))) then some (0) else some (1)))
set_option maxRecDepth 100000 in
theorem CX6_isWorn {ln N : Nat} {z : ZZ} {v1 : Int} (hN : 159 ≤ N ∧ N < 999999) (hz : okz z) (rv1 : inR v1) {p : Int} (h : fX6_isWorn v1 z = some p) : X mX6_isWorn 0 (xEnt [.ref (151), .int (iN (v1))] (xL mX6_isWorn)) [] (zmk ln N z) (cc_b p) (6 * cc_b p) (Qd (fa_b p) (rs_b p) (st_b ln N z p)) := by
  have k : Fin_b (Qd (fa_b p) (rs_b p) (st_b ln N z p)) ln N z p := Fin_b_i
  unfold fX6_isWorn at h
  refine X_to (M := [some (.ref (151)), some (.int (iN (v1)))]) (su := []) rfl rfl ?_
  refine X_aload_n (pc' := 1) dX6_isWorn_0 rfl rfl ?_
  refine X_iload_n (pc' := 2) dX6_isWorn_1 rfl rfl ?_
  refine X_iconst (pc' := 3) dX6_isWorn_2 rfl ?_
  obtain ⟨r1, q1, h⟩ := bs h
  refine Y_callV [.int (iN (v1)), .int (iN (3))] (pc' := 6) dX6_isWorn_3 rfl VX6_163 (by decide) (zlN hN (by decide)) (congrArg Prod.fst (sh151 ln)) rfl rfl rfl (cs rfl) (cs rfl) rfl (CX6_routePart hN hz rv1 (inR_c (n := 3) rfl) q1) (Nat.zero_add _).symm (Nat.zero_add _).symm (fun f1 => ?_)
  refine X_aload_n (pc' := 7) dX6_isWorn_6 rfl rfl ?_
  refine Y_get (pc' := 10) dX6_isWorn_7 rfl FX6_16 (zlN hN (by decide)) (congrArg Prod.fst (sh151 ln)) (ct151_9 z) ?_
  refine X_iconst (pc' := 11) dX6_isWorn_10 rfl ?_
  refine Y_iald (pc' := 12) dX6_isWorn_11 rfl (zlN hN (by decide)) (sh154 ln) (by decide) ⟨by decide, by decide⟩ ?_
  refine X_icmp_lt dX6_isWorn_12 (tgt := 19) rfl (pc' := 15) rfl ⟨f1.1, f1.2, (hz 154 (2) (by decide)).1, (hz 154 (2) (by decide)).2⟩ (fun c2 => ?_) (fun c2 => ?_)
  · have h := if_t c2 h
    refine X_iconst (pc' := 20) dX6_isWorn_19 rfl ?_
    cases h
    exact X_zret dX6_isWorn_20 rfl (Or.inl rfl) (k (Or.inl rfl))
  have h := if_f (Int.not_lt.mpr c2) h
  refine X_iconst (pc' := 16) dX6_isWorn_15 rfl ?_
  refine X_goto dX6_isWorn_16 (tgt := 20) rfl ?_
  cases h
  exact X_zret dX6_isWorn_20 rfl (Or.inr rfl) (k (Or.inr rfl))
def fX6_mayClimb_b41 (v1 : Int) (v2 : Int) (v3 : Int) (s0 : Int) (z : ZZ) : Option (Int) := (Option.bind (fX6_isClosed (v3) z) fun r1 => (if (r1) = (0) then (Option.bind (fX6_memberPart (v1) (1) z) fun r3 => (Option.bind (fX6_wallPart (v3) (1) z) fun r4 => (if (r3) < (r4) then some (0) else (if (s0) = (0) then some (0) else (Option.bind (fX6_isWorn (v2) z) fun r7 => (if (r7) = (0) then some (1) else some (0))))))) else some (0)))
set_option maxRecDepth 100000 in
theorem BX6_mayClimb_41 {ln N : Nat} {z : ZZ} {v1 : Int} {v2 : Int} {v3 : Int} {s0 : Int} {c9 s9 : Nat} {Φ : xRes → xS → Prop} (hN : 159 ≤ N ∧ N < 999999) (hz : okz z) (rv1 : inR v1) (rv2 : inR v2) (rv3 : inR v3) (rs0 : inR s0) {p : Int} (h : fX6_mayClimb_b41 v1 v2 v3 s0 z = some p) (k : Fin_b Φ ln N z p) : X mX6_mayClimb 41 [some (.ref (151)), some (.int (iN (v1))), some (.int (iN (v2))), some (.int (iN (v3))), none, none] [.int (iN (s0))] (zmk ln N z) c9 s9 Φ := by
  unfold fX6_mayClimb_b41 at h
  refine X_istore (pc' := 43) dX6_mayClimb_41 rfl (cl rfl) (Or.inr rfl) (L' := [some (.ref (151)), some (.int (iN (v1))), some (.int (iN (v2))), some (.int (iN (v3))), none, some (.int (iN (s0)))]) rfl ?_
  refine X_aload_n (pc' := 44) dX6_mayClimb_43 rfl rfl ?_
  refine X_iload_n (pc' := 45) dX6_mayClimb_44 rfl rfl ?_
  obtain ⟨r1, q1, h⟩ := bs h
  refine Y_callV [.int (iN (v3))] (pc' := 48) dX6_mayClimb_45 rfl VX6_214 (by decide) (zlN hN (by decide)) (congrArg Prod.fst (sh151 ln)) rfl rfl rfl (cs rfl) (cs rfl) rfl (CX6_isClosed hN hz rv3 q1) (Nat.zero_add _).symm (Nat.zero_add _).symm (fun f1 => ?_)
  refine X_if_ne dX6_mayClimb_48 (tgt := 83) rfl (pc' := 51) rfl (inR_b f1) (fun c2 => ?_) (fun c2 => ?_)
  · have h := if_f c2 h
    refine X_iconst (pc' := 84) dX6_mayClimb_83 rfl ?_
    cases h
    exact X_zret dX6_mayClimb_84 rfl (Or.inl rfl) (k (Or.inl rfl))
  have h := if_t c2 h
  refine X_aload_n (pc' := 52) dX6_mayClimb_51 rfl rfl ?_
  refine X_iload_n (pc' := 53) dX6_mayClimb_52 rfl rfl ?_
  refine X_iconst (pc' := 54) dX6_mayClimb_53 rfl ?_
  obtain ⟨r3, q3, h⟩ := bs h
  refine Y_callV [.int (iN (v1)), .int (iN (1))] (pc' := 57) dX6_mayClimb_54 rfl VX6_207 (by decide) (zlN hN (by decide)) (congrArg Prod.fst (sh151 ln)) rfl rfl rfl (cs rfl) (cs rfl) rfl (CX6_memberPart hN hz rv1 (inR_c (n := 1) rfl) q3) (Nat.zero_add _).symm (Nat.zero_add _).symm (fun f3 => ?_)
  refine X_aload_n (pc' := 58) dX6_mayClimb_57 rfl rfl ?_
  refine X_iload_n (pc' := 59) dX6_mayClimb_58 rfl rfl ?_
  refine X_iconst (pc' := 60) dX6_mayClimb_59 rfl ?_
  obtain ⟨r4, q4, h⟩ := bs h
  refine Y_callV [.int (iN (v3)), .int (iN (1))] (pc' := 63) dX6_mayClimb_60 rfl VX6_195 (by decide) (zlN hN (by decide)) (congrArg Prod.fst (sh151 ln)) rfl rfl rfl (cs rfl) (cs rfl) rfl (CX6_wallPart hN hz rv3 (inR_c (n := 1) rfl) q4) (Nat.zero_add _).symm (Nat.zero_add _).symm (fun f4 => ?_)
  refine X_icmp_lt dX6_mayClimb_63 (tgt := 83) rfl (pc' := 66) rfl ⟨f3.1, f3.2, f4.1, f4.2⟩ (fun c5 => ?_) (fun c5 => ?_)
  · have h := if_t c5 h
    refine X_iconst (pc' := 84) dX6_mayClimb_83 rfl ?_
    cases h
    exact X_zret dX6_mayClimb_84 rfl (Or.inl rfl) (k (Or.inl rfl))
  have h := if_f (Int.not_lt.mpr c5) h
  refine X_iload (pc' := 68) dX6_mayClimb_66 rfl rfl ?_
  refine X_if_eq dX6_mayClimb_68 (tgt := 83) rfl (pc' := 71) rfl rs0 (fun c6 => ?_) (fun c6 => ?_)
  · have h := if_t c6 h
    refine X_iconst (pc' := 84) dX6_mayClimb_83 rfl ?_
    cases h
    exact X_zret dX6_mayClimb_84 rfl (Or.inl rfl) (k (Or.inl rfl))
  have h := if_f c6 h
  refine X_aload_n (pc' := 72) dX6_mayClimb_71 rfl rfl ?_
  refine X_iload_n (pc' := 73) dX6_mayClimb_72 rfl rfl ?_
  obtain ⟨r7, q7, h⟩ := bs h
  refine Y_callV [.int (iN (v2))] (pc' := 76) dX6_mayClimb_73 rfl VX6_217 (by decide) (zlN hN (by decide)) (congrArg Prod.fst (sh151 ln)) rfl rfl rfl (cs rfl) (cs rfl) rfl (CX6_isWorn hN hz rv2 q7) (Nat.zero_add _).symm (Nat.zero_add _).symm (fun f7 => ?_)
  refine X_if_ne dX6_mayClimb_76 (tgt := 83) rfl (pc' := 79) rfl (inR_b f7) (fun c8 => ?_) (fun c8 => ?_)
  · have h := if_f c8 h
    refine X_iconst (pc' := 84) dX6_mayClimb_83 rfl ?_
    cases h
    exact X_zret dX6_mayClimb_84 rfl (Or.inl rfl) (k (Or.inl rfl))
  have h := if_t c8 h
  refine X_iconst (pc' := 80) dX6_mayClimb_79 rfl ?_
  refine X_goto dX6_mayClimb_80 (tgt := 84) rfl ?_
  cases h
  exact X_zret dX6_mayClimb_84 rfl (Or.inr rfl) (k (Or.inr rfl))
def fX6_mayClimb_b40 (v1 : Int) (v2 : Int) (v3 : Int) (z : ZZ) : Option (Int) := fX6_mayClimb_b41 (v1) (v2) (v3) (0) z
set_option maxRecDepth 100000 in
theorem BX6_mayClimb_40 {ln N : Nat} {z : ZZ} {v1 : Int} {v2 : Int} {v3 : Int} {c9 s9 : Nat} {Φ : xRes → xS → Prop} (hN : 159 ≤ N ∧ N < 999999) (hz : okz z) (rv1 : inR v1) (rv2 : inR v2) (rv3 : inR v3) {p : Int} (h : fX6_mayClimb_b40 v1 v2 v3 z = some p) (k : Fin_b Φ ln N z p) : X mX6_mayClimb 40 [some (.ref (151)), some (.int (iN (v1))), some (.int (iN (v2))), some (.int (iN (v3))), none, none] [] (zmk ln N z) c9 s9 Φ := by
  unfold fX6_mayClimb_b40 at h
  refine X_iconst (pc' := 41) dX6_mayClimb_40 rfl ?_
  exact X_sub (sub_s (sub_s (sub_s (sub_s (sub_n (sub_n sub_0)))))) (BX6_mayClimb_41 hN hz rv1 rv2 rv3 (inR_c (n := 0) rfl) h k)
def fX6_mayClimb (v1 : Int) (v2 : Int) (z : ZZ) : Option (Int) := (Option.bind (fX6_routePart (v2) (0) z) fun r1 => (Option.bind (fX6_memberPart (v1) (3) z) fun r2 => (if (r2) = ((-1)) then fX6_mayClimb_b40 (v1) (v2) (r1) z else (Option.bind (fX6_isInForce (r2) ((z 154 (3))) z) fun r4 => (if (r4) = (0) then fX6_mayClimb_b40 (v1) (v2) (r1) z else fX6_mayClimb_b41 (v1) (v2) (r1) (1) z)))))
set_option maxRecDepth 100000 in
theorem CX6_mayClimb {ln N : Nat} {z : ZZ} {v1 : Int} {v2 : Int} (hN : 159 ≤ N ∧ N < 999999) (hz : okz z) (rv1 : inR v1) (rv2 : inR v2) {p : Int} (h : fX6_mayClimb v1 v2 z = some p) : X mX6_mayClimb 0 (xEnt [.ref (151), .int (iN (v1)), .int (iN (v2))] (xL mX6_mayClimb)) [] (zmk ln N z) (cc_b p) (6 * cc_b p) (Qd (fa_b p) (rs_b p) (st_b ln N z p)) := by
  have k : Fin_b (Qd (fa_b p) (rs_b p) (st_b ln N z p)) ln N z p := Fin_b_i
  unfold fX6_mayClimb at h
  refine X_to (M := [some (.ref (151)), some (.int (iN (v1))), some (.int (iN (v2))), none, none, none]) (su := []) rfl rfl ?_
  refine X_aload_n (pc' := 1) dX6_mayClimb_0 rfl rfl ?_
  refine X_iload_n (pc' := 2) dX6_mayClimb_1 rfl rfl ?_
  refine X_iconst (pc' := 3) dX6_mayClimb_2 rfl ?_
  obtain ⟨r1, q1, h⟩ := bs h
  refine Y_callV [.int (iN (v2)), .int (iN (0))] (pc' := 6) dX6_mayClimb_3 rfl VX6_163 (by decide) (zlN hN (by decide)) (congrArg Prod.fst (sh151 ln)) rfl rfl rfl (cs rfl) (cs rfl) rfl (CX6_routePart hN hz rv2 (inR_c (n := 0) rfl) q1) (Nat.zero_add _).symm (Nat.zero_add _).symm (fun f1 => ?_)
  refine X_istore_n (pc' := 7) dX6_mayClimb_6 rfl (cl rfl) (Or.inr rfl) (L' := [some (.ref (151)), some (.int (iN (v1))), some (.int (iN (v2))), some (.int (iN (r1))), none, none]) rfl ?_
  refine X_aload_n (pc' := 8) dX6_mayClimb_7 rfl rfl ?_
  refine X_iload_n (pc' := 9) dX6_mayClimb_8 rfl rfl ?_
  refine X_iconst (pc' := 10) dX6_mayClimb_9 rfl ?_
  obtain ⟨r2, q2, h⟩ := bs h
  refine Y_callV [.int (iN (v1)), .int (iN (3))] (pc' := 13) dX6_mayClimb_10 rfl VX6_207 (by decide) (zlN hN (by decide)) (congrArg Prod.fst (sh151 ln)) rfl rfl rfl (cs rfl) (cs rfl) rfl (CX6_memberPart hN hz rv1 (inR_c (n := 3) rfl) q2) (Nat.zero_add _).symm (Nat.zero_add _).symm (fun f2 => ?_)
  refine X_istore (pc' := 15) dX6_mayClimb_13 rfl (cl rfl) (Or.inr rfl) (L' := [some (.ref (151)), some (.int (iN (v1))), some (.int (iN (v2))), some (.int (iN (r1))), some (.int (iN (r2))), none]) rfl ?_
  refine X_iload (pc' := 17) dX6_mayClimb_15 rfl rfl ?_
  refine X_iconst (pc' := 18) dX6_mayClimb_17 rfl ?_
  refine X_icmp_eq dX6_mayClimb_18 (tgt := 40) rfl (pc' := 21) rfl ⟨f2.1, f2.2, (inR_c (n := (-1)) rfl).1, (inR_c (n := (-1)) rfl).2⟩ (fun c3 => ?_) (fun c3 => ?_)
  · have h := if_t c3 h
    exact X_sub (sub_s (sub_s (sub_s (sub_s (sub_n (sub_n sub_0)))))) (BX6_mayClimb_40 hN hz rv1 rv2 f1 h k)
  have h := if_f c3 h
  refine X_aload_n (pc' := 22) dX6_mayClimb_21 rfl rfl ?_
  refine X_iload (pc' := 24) dX6_mayClimb_22 rfl rfl ?_
  refine X_aload_n (pc' := 25) dX6_mayClimb_24 rfl rfl ?_
  refine Y_get (pc' := 28) dX6_mayClimb_25 rfl FX6_16 (zlN hN (by decide)) (congrArg Prod.fst (sh151 ln)) (ct151_9 z) ?_
  refine X_iconst (pc' := 29) dX6_mayClimb_28 rfl ?_
  refine Y_iald (pc' := 30) dX6_mayClimb_29 rfl (zlN hN (by decide)) (sh154 ln) (by decide) ⟨by decide, by decide⟩ ?_
  obtain ⟨r4, q4, h⟩ := bs h
  refine Y_callV [.int (iN (r2)), .int (iN ((z 154 (3))))] (pc' := 33) dX6_mayClimb_30 rfl VX6_210 (by decide) (zlN hN (by decide)) (congrArg Prod.fst (sh151 ln)) rfl rfl rfl (cs rfl) (cs rfl) rfl (CX6_isInForce hN hz f2 (hz 154 (3) (by decide)) q4) (Nat.zero_add _).symm (Nat.zero_add _).symm (fun f4 => ?_)
  refine X_if_eq dX6_mayClimb_33 (tgt := 40) rfl (pc' := 36) rfl (inR_b f4) (fun c5 => ?_) (fun c5 => ?_)
  · have h := if_t c5 h
    exact X_sub (sub_s (sub_s (sub_s (sub_s (sub_n (sub_n sub_0)))))) (BX6_mayClimb_40 hN hz rv1 rv2 f1 h k)
  have h := if_f c5 h
  refine X_iconst (pc' := 37) dX6_mayClimb_36 rfl ?_
  refine X_goto dX6_mayClimb_37 (tgt := 41) rfl ?_
  exact X_sub (sub_s (sub_s (sub_s (sub_s (sub_n (sub_n sub_0)))))) (BX6_mayClimb_41 hN hz rv1 rv2 f1 (inR_c (n := 1) rfl) h k)
def fX6_allowedRoutes_b52 (v1 : Int) (v3 : Int) (s0 : Int) (s1 : Int) (z : ZZ) : Option ((Int × Int) ⊕ (Int)) := (if inR ((v3 + 1)) then some (.inl ((zor s0 s1), (v3 + 1))) else none)
set_option maxRecDepth 100000 in
theorem BX6_allowedRoutes_52 {ln N : Nat} {z : ZZ} {v1 : Int} {v3 : Int} {s0 : Int} {s1 : Int} {c9 s9 : Nat} {Φ : xRes → xS → Prop} (hN : 159 ≤ N ∧ N < 999999) (hz : okz z) (rv1 : inR v1) (rv3 : inR v3) (rs0 : inR s0) (rs1 : inR s1) {p : (Int × Int) ⊕ (Int)} (h : fX6_allowedRoutes_b52 v1 v3 s0 s1 z = some p) (k1 : ∀ (v2' : Int) (v3' : Int), p = .inl (v2', v3') → inR v2' → inR v3' → X mX6_allowedRoutes 24 [some (.ref (151)), some (.int (iN (v1))), some (.int (iN (v2'))), some (.int (iN (v3')))] [] (zmk ln N z) c9 s9 Φ) (k2 : ∀ (v2' : Int), p = .inr v2' → inR v2' → X mX6_allowedRoutes 60 [none, none, some (.int (iN (v2'))), none] [] (zmk ln N z) c9 s9 Φ) : X mX6_allowedRoutes 52 [some (.ref (151)), some (.int (iN (v1))), none, some (.int (iN (v3)))] [.int (iN (s1)), .int (iN (s0))] (zmk ln N z) c9 s9 Φ := by
  unfold fX6_allowedRoutes_b52 at h
  refine X_ior (pc' := 53) dX6_allowedRoutes_52 rfl ?_
  refine X_istore_n (pc' := 54) dX6_allowedRoutes_53 rfl (cl rfl) (Or.inr rfl) (L' := [some (.ref (151)), some (.int (iN (v1))), some (.int (iN ((zor s0 s1)))), some (.int (iN (v3)))]) rfl ?_
  refine X_iinc (pc' := 57) dX6_allowedRoutes_54 rfl rfl (Or.inr rfl) (L' := [some (.ref (151)), some (.int (iN (v1))), some (.int (iN ((zor s0 s1)))), some (.int (iN (v3 + 1)))]) rfl ?_
  refine X_goto dX6_allowedRoutes_57 (tgt := 24) rfl ?_
  obtain ⟨g1, h⟩ := gs h
  cases h
  exact X_sub (sub_s (sub_s (sub_s (sub_s sub_0)))) (k1 _ _ rfl (inR_zor _ _) g1)
def fX6_allowedRoutes_s24 (v1 : Int) (v2 : Int) (v3 : Int) (z : ZZ) : Option ((Int × Int) ⊕ (Int)) := (if (v3) < ((z 154 (37))) then (Option.bind (fX6_mayClimb (v1) (v3) z) fun r2 => (if (r2) = (0) then fX6_allowedRoutes_b52 (v1) (v3) (v2) (0) z else fX6_allowedRoutes_b52 (v1) (v3) (v2) ((zshl 1 v3)) z)) else some (.inr v2))
set_option maxRecDepth 100000 in
theorem SX6_allowedRoutes_24 {ln N : Nat} {z : ZZ} {v1 : Int} {v2 : Int} {v3 : Int} {c9 s9 : Nat} {Φ : xRes → xS → Prop} (hN : 159 ≤ N ∧ N < 999999) (hz : okz z) (rv1 : inR v1) (rv2 : inR v2) (rv3 : inR v3) {p : (Int × Int) ⊕ (Int)} (h : fX6_allowedRoutes_s24 v1 v2 v3 z = some p) (k1 : ∀ (v2' : Int) (v3' : Int), p = .inl (v2', v3') → inR v2' → inR v3' → X mX6_allowedRoutes 24 [some (.ref (151)), some (.int (iN (v1))), some (.int (iN (v2'))), some (.int (iN (v3')))] [] (zmk ln N z) c9 s9 Φ) (k2 : ∀ (v2' : Int), p = .inr v2' → inR v2' → X mX6_allowedRoutes 60 [none, none, some (.int (iN (v2'))), none] [] (zmk ln N z) c9 s9 Φ) : X mX6_allowedRoutes 24 [some (.ref (151)), some (.int (iN (v1))), some (.int (iN (v2))), some (.int (iN (v3)))] [] (zmk ln N z) c9 s9 Φ := by
  unfold fX6_allowedRoutes_s24 at h
  refine X_iload_n (pc' := 25) dX6_allowedRoutes_24 rfl rfl ?_
  refine X_aload_n (pc' := 26) dX6_allowedRoutes_25 rfl rfl ?_
  refine Y_get (pc' := 29) dX6_allowedRoutes_26 rfl FX6_16 (zlN hN (by decide)) (congrArg Prod.fst (sh151 ln)) (ct151_9 z) ?_
  refine X_bipush (pc' := 31) dX6_allowedRoutes_29 rfl (by decide) ?_
  refine Y_iald (pc' := 32) dX6_allowedRoutes_31 rfl (zlN hN (by decide)) (sh154 ln) (by decide) ⟨by decide, by decide⟩ ?_
  refine X_icmp_ge dX6_allowedRoutes_32 (tgt := 60) rfl (pc' := 35) rfl ⟨rv3.1, rv3.2, (hz 154 (37) (by decide)).1, (hz 154 (37) (by decide)).2⟩ (fun c1 => ?_) (fun c1 => ?_)
  · have h := if_f (Int.not_lt.mpr c1) h
    cases h
    exact X_sub (sub_n (sub_n (sub_s (sub_n sub_0)))) (k2 _ rfl rv2)
  have h := if_t c1 h
  refine X_iload_n (pc' := 36) dX6_allowedRoutes_35 rfl rfl ?_
  refine X_aload_n (pc' := 37) dX6_allowedRoutes_36 rfl rfl ?_
  refine X_iload_n (pc' := 38) dX6_allowedRoutes_37 rfl rfl ?_
  refine X_iload_n (pc' := 39) dX6_allowedRoutes_38 rfl rfl ?_
  obtain ⟨r2, q2, h⟩ := bs h
  refine Y_callV [.int (iN (v1)), .int (iN (v3))] (pc' := 42) dX6_allowedRoutes_39 rfl VX6_247 (by decide) (zlN hN (by decide)) (congrArg Prod.fst (sh151 ln)) rfl rfl rfl (cs rfl) (cs rfl) rfl (CX6_mayClimb hN hz rv1 rv3 q2) (Nat.zero_add _).symm (Nat.zero_add _).symm (fun f2 => ?_)
  refine X_if_eq dX6_allowedRoutes_42 (tgt := 51) rfl (pc' := 45) rfl (inR_b f2) (fun c3 => ?_) (fun c3 => ?_)
  · have h := if_t c3 h
    refine X_iconst (pc' := 52) dX6_allowedRoutes_51 rfl ?_
    exact X_sub (sub_s (sub_s (sub_n (sub_s sub_0)))) (BX6_allowedRoutes_52 hN hz rv1 rv3 rv2 (inR_c (n := 0) rfl) h k1 k2)
  have h := if_f c3 h
  refine X_iconst (pc' := 46) dX6_allowedRoutes_45 rfl ?_
  refine X_iload_n (pc' := 47) dX6_allowedRoutes_46 rfl rfl ?_
  refine X_ishl (pc' := 48) dX6_allowedRoutes_47 rfl ?_
  refine X_goto dX6_allowedRoutes_48 (tgt := 52) rfl ?_
  exact X_sub (sub_s (sub_s (sub_n (sub_s sub_0)))) (BX6_allowedRoutes_52 hN hz rv1 rv3 rv2 (inR_zshl _ _) h k1 k2)
theorem LX6_allowedRoutes_24 {ln N : Nat} {z : ZZ} {v1 : Int} {c9 s9 : Nat} {Φ : xRes → xS → Prop} (hN : 159 ≤ N ∧ N < 999999) (hz : okz z) (rv1 : inR v1) {r : Int} (k2 : ∀ (v2' : Int), r = v2' → inR v2' → X mX6_allowedRoutes 60 [none, none, some (.int (iN (v2'))), none] [] (zmk ln N z) c9 s9 Φ) : ∀ (n : Nat) (v2 : Int) (v3 : Int), inR v2 → inR v3 → zlp (fun q => fX6_allowedRoutes_s24 v1 q.1 q.2 z) n (v2, v3) = some r → X mX6_allowedRoutes 24 [some (.ref (151)), some (.int (iN (v1))), some (.int (iN (v2))), some (.int (iN (v3)))] [] (zmk ln N z) c9 s9 Φ := by
  intro n
  induction n with
  | zero => intro v2 v3 rv2 rv3 h; cases h
  | succ n ih =>
    intro v2 v3 rv2 rv3 h
    rcases zlp_s h with ⟨⟨v2', v3'⟩, e, h'⟩ | e
    · exact SX6_allowedRoutes_24 hN hz rv1 rv2 rv3 e (fun v2₁ v3₁ hh f0 f1 => by cases hh; exact ih _ _ f0 f1 h') (fun v2₁ hh f0 => by cases hh)
    · exact SX6_allowedRoutes_24 hN hz rv1 rv2 rv3 e (fun v2₁ v3₁ hh f0 f1 => by cases hh) (fun v2₁ hh f0 => by cases hh; exact k2 _ rfl f0)
def fX6_allowedRoutes (v1 : Int) (z : ZZ) : Option (Int × ZZ) := (zl (zup z 151 0 (0)) fun z1 => (Option.bind (fX6_isMember (v1) z1) fun r2 => (Option.bind (fX6_fails (r2) (1) z1) fun q3 => match q3 with | (r3, z3) => (if (r3) = (0) then (Option.bind (zlp (fun q => fX6_allowedRoutes_s24 (v1) q.1 q.2 z3) FU (0, 0)) fun x5_v2 => some (x5_v2, z3)) else some (0, z3)))))
set_option maxRecDepth 100000 in
theorem CX6_allowedRoutes {ln N : Nat} {z : ZZ} {v1 : Int} (hN : 159 ≤ N ∧ N < 999999) (hz : okz z) (rv1 : inR v1) {p : Int × ZZ} (h : fX6_allowedRoutes v1 z = some p) : X mX6_allowedRoutes 0 (xEnt [.ref (151), .int (iN (v1))] (xL mX6_allowedRoutes)) [] (zmk ln N z) (cc_wi p) (6 * cc_wi p) (Qd (fa_wi p) (rs_wi p) (st_wi ln N p)) := by
  have k : Fin_wi (Qd (fa_wi p) (rs_wi p) (st_wi ln N p)) ln N p := Fin_wi_i
  unfold fX6_allowedRoutes at h
  refine X_to (M := [some (.ref (151)), some (.int (iN (v1))), none, none]) (su := []) rfl rfl ?_
  refine X_aload_n (pc' := 1) dX6_allowedRoutes_0 rfl rfl ?_
  refine X_iconst (pc' := 2) dX6_allowedRoutes_1 rfl ?_
  refine Y_put (k := 0) (j := 0) (v := 0) (pc' := 5) dX6_allowedRoutes_2 rfl FX6_51 (zlN hN (by decide)) (congrArg Prod.fst (sh151 ln)) (fun r hr => by cases hr; rfl) (xFit_int _) rfl rfl ?_
  obtain ⟨z1, e1, hz1, h⟩ := zl_some (P := okz) h (okz_up hz (inR_c (n := 0) rfl))
  rw [e1]
  refine X_aload_n (pc' := 6) dX6_allowedRoutes_5 rfl rfl ?_
  refine X_aload_n (pc' := 7) dX6_allowedRoutes_6 rfl rfl ?_
  refine X_iload_n (pc' := 8) dX6_allowedRoutes_7 rfl rfl ?_
  obtain ⟨r2, q2, h⟩ := bs h
  refine Y_callV [.int (iN (v1))] (pc' := 11) dX6_allowedRoutes_8 rfl VX6_244 (by decide) (zlN hN (by decide)) (congrArg Prod.fst (sh151 ln)) rfl rfl rfl (cs rfl) (cs rfl) rfl (CX6_isMember hN hz1 rv1 q2) (Nat.zero_add _).symm (Nat.zero_add _).symm (fun f2 => ?_)
  refine X_iconst (pc' := 12) dX6_allowedRoutes_11 rfl ?_
  obtain ⟨⟨r3, z3⟩, q3, h⟩ := bs h
  refine Y_callV [.int (iN (r2)), .int (iN (1))] (pc' := 15) dX6_allowedRoutes_12 rfl VX6_62 (by decide) (zlN hN (by decide)) (congrArg Prod.fst (sh151 ln)) rfl rfl rfl (cs rfl) (cs rfl) rfl (CX6_fails hN hz1 (inR_b f2) (inR_c (n := 1) rfl) q3) (Nat.zero_add _).symm (Nat.zero_add _).symm (fun f3 => ?_)
  refine X_if_eq dX6_allowedRoutes_15 (tgt := 20) rfl (pc' := 18) rfl (inR_b f3.1) (fun c4 => ?_) (fun c4 => ?_)
  · have h := if_t c4 h
    refine X_iconst (pc' := 21) dX6_allowedRoutes_20 rfl ?_
    refine X_istore_n (pc' := 22) dX6_allowedRoutes_21 rfl (cl rfl) (Or.inr rfl) (L' := [some (.ref (151)), some (.int (iN (v1))), some (.int (iN (0))), none]) rfl ?_
    refine X_iconst (pc' := 23) dX6_allowedRoutes_22 rfl ?_
    refine X_istore_n (pc' := 24) dX6_allowedRoutes_23 rfl (cl rfl) (Or.inr rfl) (L' := [some (.ref (151)), some (.int (iN (v1))), some (.int (iN (0))), some (.int (iN (0)))]) rfl ?_
    obtain ⟨x5_v2, q5, h⟩ := bs h
    refine X_sub (sub_s (sub_s (sub_s (sub_s sub_0)))) (LX6_allowedRoutes_24 hN f3.2 rv1 (fun x5_v2₁ hh rx5_v2 => ?_) FU _ _ (inR_c (n := 0) rfl) (inR_c (n := 0) rfl) q5)
    cases hh
    refine X_iload_n (pc' := 61) dX6_allowedRoutes_60 rfl rfl ?_
    cases h
    exact X_iret dX6_allowedRoutes_61 rfl (k ⟨rx5_v2, f3.2⟩)
  have h := if_f c4 h
  refine X_iconst (pc' := 19) dX6_allowedRoutes_18 rfl ?_
  cases h
  exact X_iret dX6_allowedRoutes_19 rfl (k ⟨(inR_c (n := 0) rfl), f3.2⟩)
def fX6_byteOf_b45 (v5 : Int) (s0 : Int) (z : ZZ) : Option (Int) := (if (0 : Int) ≤ (v5) ∧ (0 : Int) < (4) then some ((zand (zshr s0 (24 - (8 * (v5 % 4)))) 255)) else none)
set_option maxRecDepth 100000 in
theorem BX6_byteOf_45 {ln N : Nat} {z : ZZ} {v5 : Int} {s0 : Int} {c9 s9 : Nat} {Φ : xRes → xS → Prop} (hN : 159 ≤ N ∧ N < 999999) (hz : okz z) (rv5 : inR v5) (rs0 : inR s0) {p : Int} (h : fX6_byteOf_b45 v5 s0 z = some p) (k : Fin_r Φ ln N z p) : X mX6_byteOf 45 [none, none, none, none, none, some (.int (iN (v5))), none] [.int (iN (s0))] (zmk ln N z) c9 s9 Φ := by
  unfold fX6_byteOf_b45 at h
  refine X_istore (pc' := 47) dX6_byteOf_45 rfl (cl rfl) (Or.inr rfl) (L' := [none, none, none, none, none, some (.int (iN (v5))), some (.int (iN (s0)))]) rfl ?_
  refine X_iload (pc' := 49) dX6_byteOf_47 rfl rfl ?_
  refine X_bipush (pc' := 51) dX6_byteOf_49 rfl (by decide) ?_
  refine X_bipush (pc' := 53) dX6_byteOf_51 rfl (by decide) ?_
  refine X_iload (pc' := 55) dX6_byteOf_53 rfl rfl ?_
  refine X_iconst (pc' := 56) dX6_byteOf_55 rfl ?_
  obtain ⟨g1, h⟩ := gs h
  refine X_irem (pc' := 57) dX6_byteOf_56 rfl ⟨g1.1, rv5.2, g1.2, (inR_c (n := 4) rfl).2⟩ ?_
  refine X_imul (pc' := 58) dX6_byteOf_57 rfl ?_
  refine X_isub (pc' := 59) dX6_byteOf_58 rfl ?_
  refine X_ishr (pc' := 60) dX6_byteOf_59 rfl ?_
  refine X_sipush (pc' := 63) dX6_byteOf_60 rfl (by decide) ?_
  refine X_iand (pc' := 64) dX6_byteOf_63 rfl ?_
  cases h
  exact X_iret dX6_byteOf_64 rfl (k (inR_zand _ _))
def fX6_byteOf (v0 : Int) (v1 : Int) (v2 : Int) (v3 : Int) (v4 : Int) (v5 : Int) (z : ZZ) : Option (Int) := (if (v5) < (4) then fX6_byteOf_b45 (v5) (v0) z else (if (v5) < (8) then fX6_byteOf_b45 (v5) (v1) z else (if (v5) < (12) then fX6_byteOf_b45 (v5) (v2) z else (if (v5) < (16) then fX6_byteOf_b45 (v5) (v3) z else fX6_byteOf_b45 (v5) (v4) z))))
set_option maxRecDepth 100000 in
theorem CX6_byteOf {ln N : Nat} {z : ZZ} {v0 : Int} {v1 : Int} {v2 : Int} {v3 : Int} {v4 : Int} {v5 : Int} (hN : 159 ≤ N ∧ N < 999999) (hz : okz z) (rv0 : inR v0) (rv1 : inR v1) (rv2 : inR v2) (rv3 : inR v3) (rv4 : inR v4) (rv5 : inR v5) {p : Int} (h : fX6_byteOf v0 v1 v2 v3 v4 v5 z = some p) : X mX6_byteOf 0 (xEnt [.int (iN (v0)), .int (iN (v1)), .int (iN (v2)), .int (iN (v3)), .int (iN (v4)), .int (iN (v5))] (xL mX6_byteOf)) [] (zmk ln N z) (cc_r p) (6 * cc_r p) (Qd (fa_r p) (rs_r p) (st_r ln N z p)) := by
  have k : Fin_r (Qd (fa_r p) (rs_r p) (st_r ln N z p)) ln N z p := Fin_r_i
  unfold fX6_byteOf at h
  refine X_to (M := [some (.int (iN (v0))), some (.int (iN (v1))), some (.int (iN (v2))), some (.int (iN (v3))), some (.int (iN (v4))), some (.int (iN (v5))), none]) (su := []) rfl rfl ?_
  refine X_iload (pc' := 2) dX6_byteOf_0 rfl rfl ?_
  refine X_iconst (pc' := 3) dX6_byteOf_2 rfl ?_
  refine X_icmp_ge dX6_byteOf_3 (tgt := 10) rfl (pc' := 6) rfl ⟨rv5.1, rv5.2, (inR_c (n := 4) rfl).1, (inR_c (n := 4) rfl).2⟩ (fun c1 => ?_) (fun c1 => ?_)
  · have h := if_f (Int.not_lt.mpr c1) h
    refine X_iload (pc' := 12) dX6_byteOf_10 rfl rfl ?_
    refine X_bipush (pc' := 14) dX6_byteOf_12 rfl (by decide) ?_
    refine X_icmp_ge dX6_byteOf_14 (tgt := 21) rfl (pc' := 17) rfl ⟨rv5.1, rv5.2, (inR_c (n := 8) rfl).1, (inR_c (n := 8) rfl).2⟩ (fun c2 => ?_) (fun c2 => ?_)
    · have h := if_f (Int.not_lt.mpr c2) h
      refine X_iload (pc' := 23) dX6_byteOf_21 rfl rfl ?_
      refine X_bipush (pc' := 25) dX6_byteOf_23 rfl (by decide) ?_
      refine X_icmp_ge dX6_byteOf_25 (tgt := 32) rfl (pc' := 28) rfl ⟨rv5.1, rv5.2, (inR_c (n := 12) rfl).1, (inR_c (n := 12) rfl).2⟩ (fun c3 => ?_) (fun c3 => ?_)
      · have h := if_f (Int.not_lt.mpr c3) h
        refine X_iload (pc' := 34) dX6_byteOf_32 rfl rfl ?_
        refine X_bipush (pc' := 36) dX6_byteOf_34 rfl (by decide) ?_
        refine X_icmp_ge dX6_byteOf_36 (tgt := 43) rfl (pc' := 39) rfl ⟨rv5.1, rv5.2, (inR_c (n := 16) rfl).1, (inR_c (n := 16) rfl).2⟩ (fun c4 => ?_) (fun c4 => ?_)
        · have h := if_f (Int.not_lt.mpr c4) h
          refine X_iload (pc' := 45) dX6_byteOf_43 rfl rfl ?_
          exact X_sub (sub_n (sub_n (sub_n (sub_n (sub_n (sub_s (sub_n sub_0))))))) (BX6_byteOf_45 hN hz rv5 rv4 h k)
        have h := if_t c4 h
        refine X_iload_n (pc' := 40) dX6_byteOf_39 rfl rfl ?_
        refine X_goto dX6_byteOf_40 (tgt := 45) rfl ?_
        exact X_sub (sub_n (sub_n (sub_n (sub_n (sub_n (sub_s (sub_n sub_0))))))) (BX6_byteOf_45 hN hz rv5 rv3 h k)
      have h := if_t c3 h
      refine X_iload_n (pc' := 29) dX6_byteOf_28 rfl rfl ?_
      refine X_goto dX6_byteOf_29 (tgt := 45) rfl ?_
      exact X_sub (sub_n (sub_n (sub_n (sub_n (sub_n (sub_s (sub_n sub_0))))))) (BX6_byteOf_45 hN hz rv5 rv2 h k)
    have h := if_t c2 h
    refine X_iload_n (pc' := 18) dX6_byteOf_17 rfl rfl ?_
    refine X_goto dX6_byteOf_18 (tgt := 45) rfl ?_
    exact X_sub (sub_n (sub_n (sub_n (sub_n (sub_n (sub_s (sub_n sub_0))))))) (BX6_byteOf_45 hN hz rv5 rv1 h k)
  have h := if_t c1 h
  refine X_iload_n (pc' := 7) dX6_byteOf_6 rfl rfl ?_
  refine X_goto dX6_byteOf_7 (tgt := 45) rfl ?_
  exact X_sub (sub_n (sub_n (sub_n (sub_n (sub_n (sub_s (sub_n sub_0))))))) (BX6_byteOf_45 hN hz rv5 rv0 h k)
def fX6_append_b40 (v1 : Int) (v2 : Int) (v3 : Int) (v4 : Int) (v5 : Int) (v7 : Int) (s0 : Int) (s1 : Int) (z : ZZ) : Option ((Int × Int) ⊕ (Int)) := (if inR ((s0 + s1)) then (if inR ((v7 + 1)) then some (.inl ((s0 + s1), (v7 + 1))) else none) else none)
set_option maxRecDepth 100000 in
theorem BX6_append_40 {ln N : Nat} {z : ZZ} {v1 : Int} {v2 : Int} {v3 : Int} {v4 : Int} {v5 : Int} {v7 : Int} {s0 : Int} {s1 : Int} {c9 s9 : Nat} {Φ : xRes → xS → Prop} (hN : 159 ≤ N ∧ N < 999999) (hz : okz z) (rv1 : inR v1) (rv2 : inR v2) (rv3 : inR v3) (rv4 : inR v4) (rv5 : inR v5) (rv7 : inR v7) (rs0 : inR s0) (rs1 : inR s1) {p : (Int × Int) ⊕ (Int)} (h : fX6_append_b40 v1 v2 v3 v4 v5 v7 s0 s1 z = some p) (k1 : ∀ (v6' : Int) (v7' : Int), p = .inl (v6', v7') → inR v6' → inR v7' → X mX6_append 11 [some (.ref (151)), some (.int (iN (v1))), some (.int (iN (v2))), some (.int (iN (v3))), some (.int (iN (v4))), some (.int (iN (v5))), some (.int (iN (v6'))), some (.int (iN (v7'))), none] [] (zmk ln N z) c9 s9 Φ) (k2 : ∀ (v6' : Int), p = .inr v6' → inR v6' → X mX6_append 49 [some (.ref (151)), some (.int (iN (v1))), some (.int (iN (v2))), some (.int (iN (v3))), some (.int (iN (v4))), some (.int (iN (v5))), some (.int (iN (v6'))), none, none] [] (zmk ln N z) c9 s9 Φ) : X mX6_append 40 [some (.ref (151)), some (.int (iN (v1))), some (.int (iN (v2))), some (.int (iN (v3))), some (.int (iN (v4))), some (.int (iN (v5))), none, some (.int (iN (v7))), none] [.int (iN (s1)), .int (iN (s0))] (zmk ln N z) c9 s9 Φ := by
  unfold fX6_append_b40 at h
  refine X_iadd (pc' := 41) dX6_append_40 rfl ?_
  refine X_istore (pc' := 43) dX6_append_41 rfl (cl rfl) (Or.inr rfl) (L' := [some (.ref (151)), some (.int (iN (v1))), some (.int (iN (v2))), some (.int (iN (v3))), some (.int (iN (v4))), some (.int (iN (v5))), some (.int (iN ((s0 + s1)))), some (.int (iN (v7))), none]) rfl ?_
  refine X_iinc (pc' := 46) dX6_append_43 rfl rfl (Or.inr rfl) (L' := [some (.ref (151)), some (.int (iN (v1))), some (.int (iN (v2))), some (.int (iN (v3))), some (.int (iN (v4))), some (.int (iN (v5))), some (.int (iN ((s0 + s1)))), some (.int (iN (v7 + 1))), none]) rfl ?_
  refine X_goto dX6_append_46 (tgt := 11) rfl ?_
  obtain ⟨g1, h⟩ := gs h
  obtain ⟨g2, h⟩ := gs h
  cases h
  exact X_sub (sub_s (sub_s (sub_s (sub_s (sub_s (sub_s (sub_s (sub_s (sub_n sub_0))))))))) (k1 _ _ rfl g1 g2)
def fX6_append_s11 (v1 : Int) (v2 : Int) (v3 : Int) (v4 : Int) (v5 : Int) (v6 : Int) (v7 : Int) (z : ZZ) : Option ((Int × Int) ⊕ (Int)) := (if (v7) < (20) then (Option.bind (fX6_byteOf (v1) (v2) (v3) (v4) (v5) (v7) z) fun r2 => (if (r2) = (0) then fX6_append_b40 (v1) (v2) (v3) (v4) (v5) (v7) (v6) (0) z else fX6_append_b40 (v1) (v2) (v3) (v4) (v5) (v7) (v6) (1) z)) else some (.inr v6))
set_option maxRecDepth 100000 in
theorem SX6_append_11 {ln N : Nat} {z : ZZ} {v1 : Int} {v2 : Int} {v3 : Int} {v4 : Int} {v5 : Int} {v6 : Int} {v7 : Int} {c9 s9 : Nat} {Φ : xRes → xS → Prop} (hN : 159 ≤ N ∧ N < 999999) (hz : okz z) (rv1 : inR v1) (rv2 : inR v2) (rv3 : inR v3) (rv4 : inR v4) (rv5 : inR v5) (rv6 : inR v6) (rv7 : inR v7) {p : (Int × Int) ⊕ (Int)} (h : fX6_append_s11 v1 v2 v3 v4 v5 v6 v7 z = some p) (k1 : ∀ (v6' : Int) (v7' : Int), p = .inl (v6', v7') → inR v6' → inR v7' → X mX6_append 11 [some (.ref (151)), some (.int (iN (v1))), some (.int (iN (v2))), some (.int (iN (v3))), some (.int (iN (v4))), some (.int (iN (v5))), some (.int (iN (v6'))), some (.int (iN (v7'))), none] [] (zmk ln N z) c9 s9 Φ) (k2 : ∀ (v6' : Int), p = .inr v6' → inR v6' → X mX6_append 49 [some (.ref (151)), some (.int (iN (v1))), some (.int (iN (v2))), some (.int (iN (v3))), some (.int (iN (v4))), some (.int (iN (v5))), some (.int (iN (v6'))), none, none] [] (zmk ln N z) c9 s9 Φ) : X mX6_append 11 [some (.ref (151)), some (.int (iN (v1))), some (.int (iN (v2))), some (.int (iN (v3))), some (.int (iN (v4))), some (.int (iN (v5))), some (.int (iN (v6))), some (.int (iN (v7))), none] [] (zmk ln N z) c9 s9 Φ := by
  unfold fX6_append_s11 at h
  refine X_iload (pc' := 13) dX6_append_11 rfl rfl ?_
  refine X_bipush (pc' := 15) dX6_append_13 rfl (by decide) ?_
  refine X_icmp_ge dX6_append_15 (tgt := 49) rfl (pc' := 18) rfl ⟨rv7.1, rv7.2, (inR_c (n := 20) rfl).1, (inR_c (n := 20) rfl).2⟩ (fun c1 => ?_) (fun c1 => ?_)
  · have h := if_f (Int.not_lt.mpr c1) h
    cases h
    exact X_sub (sub_s (sub_s (sub_s (sub_s (sub_s (sub_s (sub_s (sub_n (sub_n sub_0))))))))) (k2 _ rfl rv6)
  have h := if_t c1 h
  refine X_iload (pc' := 20) dX6_append_18 rfl rfl ?_
  refine X_iload_n (pc' := 21) dX6_append_20 rfl rfl ?_
  refine X_iload_n (pc' := 22) dX6_append_21 rfl rfl ?_
  refine X_iload_n (pc' := 23) dX6_append_22 rfl rfl ?_
  refine X_iload (pc' := 25) dX6_append_23 rfl rfl ?_
  refine X_iload (pc' := 27) dX6_append_25 rfl rfl ?_
  refine X_iload (pc' := 29) dX6_append_27 rfl rfl ?_
  obtain ⟨r2, q2, h⟩ := bs h
  refine Y_callS [.int (iN (v1)), .int (iN (v2)), .int (iN (v3)), .int (iN (v4)), .int (iN (v5)), .int (iN (v7))] (pc' := 32) dX6_append_29 rfl SX6_55 (by decide) rfl (cs rfl) (cs rfl) rfl (CX6_byteOf hN hz rv1 rv2 rv3 rv4 rv5 rv7 q2) (Nat.zero_add _).symm (Nat.zero_add _).symm (fun f2 => ?_)
  refine X_if_eq dX6_append_32 (tgt := 39) rfl (pc' := 35) rfl f2 (fun c3 => ?_) (fun c3 => ?_)
  · have h := if_t c3 h
    refine X_iconst (pc' := 40) dX6_append_39 rfl ?_
    exact X_sub (sub_s (sub_s (sub_s (sub_s (sub_s (sub_s (sub_n (sub_s (sub_n sub_0))))))))) (BX6_append_40 hN hz rv1 rv2 rv3 rv4 rv5 rv7 rv6 (inR_c (n := 0) rfl) h k1 k2)
  have h := if_f c3 h
  refine X_iconst (pc' := 36) dX6_append_35 rfl ?_
  refine X_goto dX6_append_36 (tgt := 40) rfl ?_
  exact X_sub (sub_s (sub_s (sub_s (sub_s (sub_s (sub_s (sub_n (sub_s (sub_n sub_0))))))))) (BX6_append_40 hN hz rv1 rv2 rv3 rv4 rv5 rv7 rv6 (inR_c (n := 1) rfl) h k1 k2)
theorem LX6_append_11 {ln N : Nat} {z : ZZ} {v1 : Int} {v2 : Int} {v3 : Int} {v4 : Int} {v5 : Int} {c9 s9 : Nat} {Φ : xRes → xS → Prop} (hN : 159 ≤ N ∧ N < 999999) (hz : okz z) (rv1 : inR v1) (rv2 : inR v2) (rv3 : inR v3) (rv4 : inR v4) (rv5 : inR v5) {r : Int} (k2 : ∀ (v6' : Int), r = v6' → inR v6' → X mX6_append 49 [some (.ref (151)), some (.int (iN (v1))), some (.int (iN (v2))), some (.int (iN (v3))), some (.int (iN (v4))), some (.int (iN (v5))), some (.int (iN (v6'))), none, none] [] (zmk ln N z) c9 s9 Φ) : ∀ (n : Nat) (v6 : Int) (v7 : Int), inR v6 → inR v7 → zlp (fun q => fX6_append_s11 v1 v2 v3 v4 v5 q.1 q.2 z) n (v6, v7) = some r → X mX6_append 11 [some (.ref (151)), some (.int (iN (v1))), some (.int (iN (v2))), some (.int (iN (v3))), some (.int (iN (v4))), some (.int (iN (v5))), some (.int (iN (v6))), some (.int (iN (v7))), none] [] (zmk ln N z) c9 s9 Φ := by
  intro n
  induction n with
  | zero => intro v6 v7 rv6 rv7 h; cases h
  | succ n ih =>
    intro v6 v7 rv6 rv7 h
    rcases zlp_s h with ⟨⟨v6', v7'⟩, e, h'⟩ | e
    · exact SX6_append_11 hN hz rv1 rv2 rv3 rv4 rv5 rv6 rv7 e (fun v6₁ v7₁ hh f0 f1 => by cases hh; exact ih _ _ f0 f1 h') (fun v6₁ hh f0 => by cases hh)
    · exact SX6_append_11 hN hz rv1 rv2 rv3 rv4 rv5 rv6 rv7 e (fun v6₁ v7₁ hh f0 f1 => by cases hh) (fun v6₁ hh f0 => by cases hh; exact k2 _ rfl f0)
def fX6_append_b127 (v1 : Int) (v2 : Int) (v3 : Int) (v4 : Int) (v5 : Int) (v7 : Int) (z : ZZ) : Option ((Int × ZZ) ⊕ (ZZ)) := (if inR ((v7 + 1)) then some (.inl ((v7 + 1), z)) else none)
set_option maxRecDepth 100000 in
theorem BX6_append_127 {ln N : Nat} {z : ZZ} {v1 : Int} {v2 : Int} {v3 : Int} {v4 : Int} {v5 : Int} {v7 : Int} {c9 s9 : Nat} {Φ : xRes → xS → Prop} (hN : 159 ≤ N ∧ N < 999999) (hz : okz z) (rv1 : inR v1) (rv2 : inR v2) (rv3 : inR v3) (rv4 : inR v4) (rv5 : inR v5) (rv7 : inR v7) {p : (Int × ZZ) ⊕ (ZZ)} (h : fX6_append_b127 v1 v2 v3 v4 v5 v7 z = some p) (k1 : ∀ (v7' : Int) (z' : ZZ), p = .inl (v7', z') → inR v7' → okz z' → X mX6_append 80 [some (.ref (151)), some (.int (iN (v1))), some (.int (iN (v2))), some (.int (iN (v3))), some (.int (iN (v4))), some (.int (iN (v5))), none, some (.int (iN (v7'))), none] [] (zmk ln N z') c9 s9 Φ) (k2 : ∀ (z' : ZZ), p = .inr z' → okz z' → X mX6_append 133 [some (.ref (151)), none, none, none, none, none, none, none, none] [] (zmk ln N z') c9 s9 Φ) : X mX6_append 127 [some (.ref (151)), some (.int (iN (v1))), some (.int (iN (v2))), some (.int (iN (v3))), some (.int (iN (v4))), some (.int (iN (v5))), none, some (.int (iN (v7))), none] [] (zmk ln N z) c9 s9 Φ := by
  unfold fX6_append_b127 at h
  refine X_iinc (pc' := 130) dX6_append_127 rfl rfl (Or.inr rfl) (L' := [some (.ref (151)), some (.int (iN (v1))), some (.int (iN (v2))), some (.int (iN (v3))), some (.int (iN (v4))), some (.int (iN (v5))), none, some (.int (iN (v7 + 1))), none]) rfl ?_
  refine X_goto dX6_append_130 (tgt := 80) rfl ?_
  obtain ⟨g1, h⟩ := gs h
  cases h
  exact X_sub (sub_s (sub_s (sub_s (sub_s (sub_s (sub_s (sub_n (sub_s (sub_n sub_0))))))))) (k1 _ _ rfl g1 hz)
def fX6_append_s80 (v1 : Int) (v2 : Int) (v3 : Int) (v4 : Int) (v5 : Int) (v7 : Int) (z : ZZ) : Option ((Int × ZZ) ⊕ (ZZ)) := (if (v7) < (20) then (Option.bind (fX6_byteOf (v1) (v2) (v3) (v4) (v5) (v7) z) fun r2 => (if (r2) = (0) then fX6_append_b127 (v1) (v2) (v3) (v4) (v5) (v7) z else (if (0 : Int) ≤ ((z 151 2)) ∧ ((z 151 2)) < (600 : Int) then (zl (zup z 152 ((z 151 2)) (r2)) fun z5 => (if inR (((z5 151 2) + 1)) then (zl (zup z5 151 2 (((z5 151 2) + 1))) fun z7 => fX6_append_b127 (v1) (v2) (v3) (v4) (v5) (v7) z7) else none)) else none))) else some (.inr z))
set_option maxRecDepth 100000 in
theorem SX6_append_80 {ln N : Nat} {z : ZZ} {v1 : Int} {v2 : Int} {v3 : Int} {v4 : Int} {v5 : Int} {v7 : Int} {c9 s9 : Nat} {Φ : xRes → xS → Prop} (hN : 159 ≤ N ∧ N < 999999) (hz : okz z) (rv1 : inR v1) (rv2 : inR v2) (rv3 : inR v3) (rv4 : inR v4) (rv5 : inR v5) (rv7 : inR v7) {p : (Int × ZZ) ⊕ (ZZ)} (h : fX6_append_s80 v1 v2 v3 v4 v5 v7 z = some p) (k1 : ∀ (v7' : Int) (z' : ZZ), p = .inl (v7', z') → inR v7' → okz z' → X mX6_append 80 [some (.ref (151)), some (.int (iN (v1))), some (.int (iN (v2))), some (.int (iN (v3))), some (.int (iN (v4))), some (.int (iN (v5))), none, some (.int (iN (v7'))), none] [] (zmk ln N z') c9 s9 Φ) (k2 : ∀ (z' : ZZ), p = .inr z' → okz z' → X mX6_append 133 [some (.ref (151)), none, none, none, none, none, none, none, none] [] (zmk ln N z') c9 s9 Φ) : X mX6_append 80 [some (.ref (151)), some (.int (iN (v1))), some (.int (iN (v2))), some (.int (iN (v3))), some (.int (iN (v4))), some (.int (iN (v5))), none, some (.int (iN (v7))), none] [] (zmk ln N z) c9 s9 Φ := by
  unfold fX6_append_s80 at h
  refine X_iload (pc' := 82) dX6_append_80 rfl rfl ?_
  refine X_bipush (pc' := 84) dX6_append_82 rfl (by decide) ?_
  refine X_icmp_ge dX6_append_84 (tgt := 133) rfl (pc' := 87) rfl ⟨rv7.1, rv7.2, (inR_c (n := 20) rfl).1, (inR_c (n := 20) rfl).2⟩ (fun c1 => ?_) (fun c1 => ?_)
  · have h := if_f (Int.not_lt.mpr c1) h
    cases h
    exact X_sub (sub_s (sub_n (sub_n (sub_n (sub_n (sub_n (sub_n (sub_n (sub_n sub_0))))))))) (k2 _ rfl hz)
  have h := if_t c1 h
  refine X_iload_n (pc' := 88) dX6_append_87 rfl rfl ?_
  refine X_iload_n (pc' := 89) dX6_append_88 rfl rfl ?_
  refine X_iload_n (pc' := 90) dX6_append_89 rfl rfl ?_
  refine X_iload (pc' := 92) dX6_append_90 rfl rfl ?_
  refine X_iload (pc' := 94) dX6_append_92 rfl rfl ?_
  refine X_iload (pc' := 96) dX6_append_94 rfl rfl ?_
  obtain ⟨r2, q2, h⟩ := bs h
  refine Y_callS [.int (iN (v1)), .int (iN (v2)), .int (iN (v3)), .int (iN (v4)), .int (iN (v5)), .int (iN (v7))] (pc' := 99) dX6_append_96 rfl SX6_55 (by decide) rfl (cs rfl) (cs rfl) rfl (CX6_byteOf hN hz rv1 rv2 rv3 rv4 rv5 rv7 q2) (Nat.zero_add _).symm (Nat.zero_add _).symm (fun f2 => ?_)
  refine X_istore (pc' := 101) dX6_append_99 rfl (cl rfl) (Or.inr rfl) (L' := [some (.ref (151)), some (.int (iN (v1))), some (.int (iN (v2))), some (.int (iN (v3))), some (.int (iN (v4))), some (.int (iN (v5))), none, some (.int (iN (v7))), some (.int (iN (r2)))]) rfl ?_
  refine X_iload (pc' := 103) dX6_append_101 rfl rfl ?_
  refine X_if_eq dX6_append_103 (tgt := 127) rfl (pc' := 106) rfl f2 (fun c3 => ?_) (fun c3 => ?_)
  · have h := if_t c3 h
    exact X_sub (sub_s (sub_s (sub_s (sub_s (sub_s (sub_s (sub_n (sub_s (sub_n sub_0))))))))) (BX6_append_127 hN hz rv1 rv2 rv3 rv4 rv5 rv7 h k1 k2)
  have h := if_f c3 h
  refine X_aload_n (pc' := 107) dX6_append_106 rfl rfl ?_
  refine Y_get (pc' := 110) dX6_append_107 rfl FX6_9 (zlN hN (by decide)) (congrArg Prod.fst (sh151 ln)) (ct151_1 z) ?_
  refine X_aload_n (pc' := 111) dX6_append_110 rfl rfl ?_
  refine Y_get (pc' := 114) dX6_append_111 rfl FX6_59 (zlN hN (by decide)) (congrArg Prod.fst (sh151 ln)) (ct151_2 z) ?_
  refine X_iload (pc' := 116) dX6_append_114 rfl rfl ?_
  obtain ⟨g4, h⟩ := gs h
  refine Y_iast (pc' := 117) dX6_append_116 rfl (zlN hN (by decide)) (sh152 ln) (by decide) g4 ?_
  obtain ⟨z5, e5, hz5, h⟩ := zl_some (P := okz) h (okz_up hz f2)
  rw [e5]
  refine X_aload_n (pc' := 118) dX6_append_117 rfl rfl ?_
  refine X_dup (pc' := 119) dX6_append_118 rfl rfl ?_
  refine Y_get (pc' := 122) dX6_append_119 rfl FX6_59 (zlN hN (by decide)) (congrArg Prod.fst (sh151 ln)) (ct151_2 z5) ?_
  refine X_iconst (pc' := 123) dX6_append_122 rfl ?_
  refine X_iadd (pc' := 124) dX6_append_123 rfl ?_
  obtain ⟨g6, h⟩ := gs h
  refine Y_put (k := 2) (j := 2) (v := ((z5 151 2) + 1)) (pc' := 127) dX6_append_124 rfl FX6_59 (zlN hN (by decide)) (congrArg Prod.fst (sh151 ln)) (fun r hr => by cases hr; rfl) (xFit_int _) rfl rfl ?_
  obtain ⟨z7, e7, hz7, h⟩ := zl_some (P := okz) h (okz_up hz5 g6)
  rw [e7]
  exact X_sub (sub_s (sub_s (sub_s (sub_s (sub_s (sub_s (sub_n (sub_s (sub_n sub_0))))))))) (BX6_append_127 hN hz7 rv1 rv2 rv3 rv4 rv5 rv7 h k1 k2)
theorem LX6_append_80 {ln N : Nat} {v1 : Int} {v2 : Int} {v3 : Int} {v4 : Int} {v5 : Int} {c9 s9 : Nat} {Φ : xRes → xS → Prop} (hN : 159 ≤ N ∧ N < 999999) (rv1 : inR v1) (rv2 : inR v2) (rv3 : inR v3) (rv4 : inR v4) (rv5 : inR v5) {r : ZZ} (k2 : ∀ (z' : ZZ), r = z' → okz z' → X mX6_append 133 [some (.ref (151)), none, none, none, none, none, none, none, none] [] (zmk ln N z') c9 s9 Φ) : ∀ (n : Nat) (v7 : Int) (z : ZZ), inR v7 → okz z → zlp (fun q => fX6_append_s80 v1 v2 v3 v4 v5 q.1 q.2) n (v7, z) = some r → X mX6_append 80 [some (.ref (151)), some (.int (iN (v1))), some (.int (iN (v2))), some (.int (iN (v3))), some (.int (iN (v4))), some (.int (iN (v5))), none, some (.int (iN (v7))), none] [] (zmk ln N z) c9 s9 Φ := by
  intro n
  induction n with
  | zero => intro v7 z rv7 hz h; cases h
  | succ n ih =>
    intro v7 z rv7 hz h
    rcases zlp_s h with ⟨⟨v7', z'⟩, e, h'⟩ | e
    · exact SX6_append_80 hN hz rv1 rv2 rv3 rv4 rv5 rv7 e (fun v7₁ z₁ hh f0 f1 => by cases hh; exact ih _ _ f0 f1 h') (fun z₁ hh f0 => by cases hh)
    · exact SX6_append_80 hN hz rv1 rv2 rv3 rv4 rv5 rv7 e (fun v7₁ z₁ hh f0 f1 => by cases hh) (fun z₁ hh f0 => by cases hh; exact k2 _ rfl f0)
def fX6_append_b68 (v1 : Int) (v2 : Int) (v3 : Int) (v4 : Int) (v5 : Int) (s1 : Int) (z : ZZ) : Option (Int × ZZ) := (Option.bind (fX6_fails (s1) (1) z) fun q1 => match q1 with | (r1, z1) => (if (r1) = (0) then (Option.bind (zlp (fun q => fX6_append_s80 (v1) (v2) (v3) (v4) (v5) q.1 q.2) FU (0, z1)) fun x3_z => some ((x3_z 151 2), x3_z)) else some (0, z1)))
set_option maxRecDepth 100000 in
theorem BX6_append_68 {ln N : Nat} {z : ZZ} {v1 : Int} {v2 : Int} {v3 : Int} {v4 : Int} {v5 : Int} {s1 : Int} {c9 s9 : Nat} {Φ : xRes → xS → Prop} (hN : 159 ≤ N ∧ N < 999999) (hz : okz z) (rv1 : inR v1) (rv2 : inR v2) (rv3 : inR v3) (rv4 : inR v4) (rv5 : inR v5) (rs1 : inR s1) {p : Int × ZZ} (h : fX6_append_b68 v1 v2 v3 v4 v5 s1 z = some p) (k : Fin_wi Φ ln N p) : X mX6_append 68 [some (.ref (151)), some (.int (iN (v1))), some (.int (iN (v2))), some (.int (iN (v3))), some (.int (iN (v4))), some (.int (iN (v5))), none, none, none] [.int (iN (s1)), .ref (151)] (zmk ln N z) c9 s9 Φ := by
  unfold fX6_append_b68 at h
  refine X_iconst (pc' := 69) dX6_append_68 rfl ?_
  obtain ⟨⟨r1, z1⟩, q1, h⟩ := bs h
  refine Y_callV [.int (iN (s1)), .int (iN (1))] (pc' := 72) dX6_append_69 rfl VX6_62 (by decide) (zlN hN (by decide)) (congrArg Prod.fst (sh151 ln)) rfl rfl rfl (cs rfl) (cs rfl) rfl (CX6_fails hN hz rs1 (inR_c (n := 1) rfl) q1) (Nat.zero_add _).symm (Nat.zero_add _).symm (fun f1 => ?_)
  refine X_if_eq dX6_append_72 (tgt := 77) rfl (pc' := 75) rfl (inR_b f1.1) (fun c2 => ?_) (fun c2 => ?_)
  · have h := if_t c2 h
    refine X_iconst (pc' := 78) dX6_append_77 rfl ?_
    refine X_istore (pc' := 80) dX6_append_78 rfl (cl rfl) (Or.inr rfl) (L' := [some (.ref (151)), some (.int (iN (v1))), some (.int (iN (v2))), some (.int (iN (v3))), some (.int (iN (v4))), some (.int (iN (v5))), none, some (.int (iN (0))), none]) rfl ?_
    obtain ⟨x3_z, q3, h⟩ := bs h
    refine X_sub (sub_s (sub_s (sub_s (sub_s (sub_s (sub_s (sub_n (sub_s (sub_n sub_0))))))))) (LX6_append_80 hN rv1 rv2 rv3 rv4 rv5 (fun x3_z₁ hh hx3_z => ?_) FU _ _ (inR_c (n := 0) rfl) f1.2 q3)
    cases hh
    refine X_aload_n (pc' := 134) dX6_append_133 rfl rfl ?_
    refine Y_get (pc' := 137) dX6_append_134 rfl FX6_59 (zlN hN (by decide)) (congrArg Prod.fst (sh151 ln)) (ct151_2 x3_z) ?_
    cases h
    exact X_iret dX6_append_137 rfl (k ⟨(hx3_z 151 2 (by decide)), hx3_z⟩)
  have h := if_f c2 h
  refine X_iconst (pc' := 76) dX6_append_75 rfl ?_
  cases h
  exact X_iret dX6_append_76 rfl (k ⟨(inR_c (n := 0) rfl), f1.2⟩)
def fX6_append (v1 : Int) (v2 : Int) (v3 : Int) (v4 : Int) (v5 : Int) (z : ZZ) : Option (Int × ZZ) := (zl (zup z 151 0 (0)) fun z1 => (Option.bind (zlp (fun q => fX6_append_s11 (v1) (v2) (v3) (v4) (v5) q.1 q.2 z1) FU (0, 0)) fun x2_v6 => (if inR (((z1 151 2) + x2_v6)) then (if (600) < (((z1 151 2) + x2_v6)) then fX6_append_b68 (v1) (v2) (v3) (v4) (v5) (0) z1 else fX6_append_b68 (v1) (v2) (v3) (v4) (v5) (1) z1) else none)))
set_option maxRecDepth 100000 in
theorem CX6_append {ln N : Nat} {z : ZZ} {v1 : Int} {v2 : Int} {v3 : Int} {v4 : Int} {v5 : Int} (hN : 159 ≤ N ∧ N < 999999) (hz : okz z) (rv1 : inR v1) (rv2 : inR v2) (rv3 : inR v3) (rv4 : inR v4) (rv5 : inR v5) {p : Int × ZZ} (h : fX6_append v1 v2 v3 v4 v5 z = some p) : X mX6_append 0 (xEnt [.ref (151), .int (iN (v1)), .int (iN (v2)), .int (iN (v3)), .int (iN (v4)), .int (iN (v5))] (xL mX6_append)) [] (zmk ln N z) (cc_wi p) (6 * cc_wi p) (Qd (fa_wi p) (rs_wi p) (st_wi ln N p)) := by
  have k : Fin_wi (Qd (fa_wi p) (rs_wi p) (st_wi ln N p)) ln N p := Fin_wi_i
  unfold fX6_append at h
  refine X_to (M := [some (.ref (151)), some (.int (iN (v1))), some (.int (iN (v2))), some (.int (iN (v3))), some (.int (iN (v4))), some (.int (iN (v5))), none, none, none]) (su := []) rfl rfl ?_
  refine X_aload_n (pc' := 1) dX6_append_0 rfl rfl ?_
  refine X_iconst (pc' := 2) dX6_append_1 rfl ?_
  refine Y_put (k := 0) (j := 0) (v := 0) (pc' := 5) dX6_append_2 rfl FX6_51 (zlN hN (by decide)) (congrArg Prod.fst (sh151 ln)) (fun r hr => by cases hr; rfl) (xFit_int _) rfl rfl ?_
  obtain ⟨z1, e1, hz1, h⟩ := zl_some (P := okz) h (okz_up hz (inR_c (n := 0) rfl))
  rw [e1]
  refine X_iconst (pc' := 6) dX6_append_5 rfl ?_
  refine X_istore (pc' := 8) dX6_append_6 rfl (cl rfl) (Or.inr rfl) (L' := [some (.ref (151)), some (.int (iN (v1))), some (.int (iN (v2))), some (.int (iN (v3))), some (.int (iN (v4))), some (.int (iN (v5))), some (.int (iN (0))), none, none]) rfl ?_
  refine X_iconst (pc' := 9) dX6_append_8 rfl ?_
  refine X_istore (pc' := 11) dX6_append_9 rfl (cl rfl) (Or.inr rfl) (L' := [some (.ref (151)), some (.int (iN (v1))), some (.int (iN (v2))), some (.int (iN (v3))), some (.int (iN (v4))), some (.int (iN (v5))), some (.int (iN (0))), some (.int (iN (0))), none]) rfl ?_
  obtain ⟨x2_v6, q2, h⟩ := bs h
  refine X_sub (sub_s (sub_s (sub_s (sub_s (sub_s (sub_s (sub_s (sub_s (sub_n sub_0))))))))) (LX6_append_11 hN hz1 rv1 rv2 rv3 rv4 rv5 (fun x2_v6₁ hh rx2_v6 => ?_) FU _ _ (inR_c (n := 0) rfl) (inR_c (n := 0) rfl) q2)
  cases hh
  refine X_aload_n (pc' := 50) dX6_append_49 rfl rfl ?_
  refine X_aload_n (pc' := 51) dX6_append_50 rfl rfl ?_
  refine Y_get (pc' := 54) dX6_append_51 rfl FX6_59 (zlN hN (by decide)) (congrArg Prod.fst (sh151 ln)) (ct151_2 z1) ?_
  refine X_iload (pc' := 56) dX6_append_54 rfl rfl ?_
  refine X_iadd (pc' := 57) dX6_append_56 rfl ?_
  refine X_sipush (pc' := 60) dX6_append_57 rfl (by decide) ?_
  obtain ⟨g3, h⟩ := gs h
  refine X_icmp_gt dX6_append_60 (tgt := 67) rfl (pc' := 63) rfl ⟨g3.1, g3.2, (inR_c (n := 600) rfl).1, (inR_c (n := 600) rfl).2⟩ (fun c4 => ?_) (fun c4 => ?_)
  · have h := if_t c4 h
    refine X_iconst (pc' := 68) dX6_append_67 rfl ?_
    exact X_sub (sub_s (sub_s (sub_s (sub_s (sub_s (sub_s (sub_n (sub_n (sub_n sub_0))))))))) (BX6_append_68 hN hz1 rv1 rv2 rv3 rv4 rv5 (inR_c (n := 0) rfl) h k)
  have h := if_f (Int.not_lt.mpr c4) h
  refine X_iconst (pc' := 64) dX6_append_63 rfl ?_
  refine X_goto dX6_append_64 (tgt := 68) rfl ?_
  exact X_sub (sub_s (sub_s (sub_s (sub_s (sub_s (sub_s (sub_n (sub_n (sub_n sub_0))))))))) (BX6_append_68 hN hz1 rv1 rv2 rv3 rv4 rv5 (inR_c (n := 1) rfl) h k)
def fX6_cast (v1 : Int) (v2 : Int) (z : ZZ) : Option (ZZ) := (if (0 : Int) ≤ (v1) ∧ (v1) < (30 : Int) then (if inR (((z 157 (v1)) + v2)) then (zl (zup z 157 (v1) (((z 157 (v1)) + v2))) fun z3 => (if inR (((z3 151 16) + v2)) then (zl (zup z3 151 16 (((z3 151 16) + v2))) fun z5 => some z5) else none)) else none) else none)
set_option maxRecDepth 100000 in
theorem CX6_cast {ln N : Nat} {z : ZZ} {v1 : Int} {v2 : Int} (hN : 159 ≤ N ∧ N < 999999) (hz : okz z) (rv1 : inR v1) (rv2 : inR v2) {p : ZZ} (h : fX6_cast v1 v2 z = some p) : X mX6_cast 0 (xEnt [.ref (151), .int (iN (v1)), .int (iN (v2))] (xL mX6_cast)) [] (zmk ln N z) (cc_w p) (6 * cc_w p) (Qd (fa_w p) (rs_w p) (st_w ln N p)) := by
  have k : Fin_w (Qd (fa_w p) (rs_w p) (st_w ln N p)) ln N p := Fin_w_i
  unfold fX6_cast at h
  refine X_to (M := [some (.ref (151)), some (.int (iN (v1))), some (.int (iN (v2)))]) (su := []) rfl rfl ?_
  refine X_aload_n (pc' := 1) dX6_cast_0 rfl rfl ?_
  refine Y_get (pc' := 4) dX6_cast_1 rfl FX6_25 (zlN hN (by decide)) (congrArg Prod.fst (sh151 ln)) (ct151_15 z) ?_
  refine X_iload_n (pc' := 5) dX6_cast_4 rfl rfl ?_
  refine X_dup2 (pc' := 6) dX6_cast_5 rfl rfl rfl ?_
  obtain ⟨g1, h⟩ := gs h
  refine Y_iald (pc' := 7) dX6_cast_6 rfl (zlN hN (by decide)) (sh157 ln) (by decide) g1 ?_
  refine X_iload_n (pc' := 8) dX6_cast_7 rfl rfl ?_
  refine X_iadd (pc' := 9) dX6_cast_8 rfl ?_
  obtain ⟨g2, h⟩ := gs h
  refine Y_iast (pc' := 10) dX6_cast_9 rfl (zlN hN (by decide)) (sh157 ln) (by decide) g1 ?_
  obtain ⟨z3, e3, hz3, h⟩ := zl_some (P := okz) h (okz_up hz g2)
  rw [e3]
  refine X_aload_n (pc' := 11) dX6_cast_10 rfl rfl ?_
  refine X_dup (pc' := 12) dX6_cast_11 rfl rfl ?_
  refine Y_get (pc' := 15) dX6_cast_12 rfl FX6_160 (zlN hN (by decide)) (congrArg Prod.fst (sh151 ln)) (ct151_16 z3) ?_
  refine X_iload_n (pc' := 16) dX6_cast_15 rfl rfl ?_
  refine X_iadd (pc' := 17) dX6_cast_16 rfl ?_
  obtain ⟨g4, h⟩ := gs h
  refine Y_put (k := 16) (j := 16) (v := ((z3 151 16) + v2)) (pc' := 20) dX6_cast_17 rfl FX6_160 (zlN hN (by decide)) (congrArg Prod.fst (sh151 ln)) (fun r hr => by cases hr; rfl) (xFit_int _) rfl rfl ?_
  obtain ⟨z5, e5, hz5, h⟩ := zl_some (P := okz) h (okz_up hz3 g4)
  rw [e5]
  cases h
  exact X_vret dX6_cast_20 rfl (k hz5)
def fX6_layBallot_s2 (v1 : Int) (v2 : Int) (z : ZZ) : Option ((Int × ZZ) ⊕ (ZZ)) := (if (v2) < (30) then (if (0 : Int) ≤ (v2) ∧ (v2) < (30 : Int) then (zl (zup z 157 (v2) (0)) fun z3 => (if inR ((v2 + 1)) then some (.inl ((v2 + 1), z3)) else none)) else none) else some (.inr z))
set_option maxRecDepth 100000 in
theorem SX6_layBallot_2 {ln N : Nat} {z : ZZ} {v1 : Int} {v2 : Int} {c9 s9 : Nat} {Φ : xRes → xS → Prop} (hN : 159 ≤ N ∧ N < 999999) (hz : okz z) (rv1 : inR v1) (rv2 : inR v2) {p : (Int × ZZ) ⊕ (ZZ)} (h : fX6_layBallot_s2 v1 v2 z = some p) (k1 : ∀ (v2' : Int) (z' : ZZ), p = .inl (v2', z') → inR v2' → okz z' → X mX6_layBallot 2 [some (.ref (151)), some (.int (iN (v1))), some (.int (iN (v2'))), none] [] (zmk ln N z') c9 s9 Φ) (k2 : ∀ (z' : ZZ), p = .inr z' → okz z' → X mX6_layBallot 21 [some (.ref (151)), some (.int (iN (v1))), none, none] [] (zmk ln N z') c9 s9 Φ) : X mX6_layBallot 2 [some (.ref (151)), some (.int (iN (v1))), some (.int (iN (v2))), none] [] (zmk ln N z) c9 s9 Φ := by
  unfold fX6_layBallot_s2 at h
  refine X_iload_n (pc' := 3) dX6_layBallot_2 rfl rfl ?_
  refine X_bipush (pc' := 5) dX6_layBallot_3 rfl (by decide) ?_
  refine X_icmp_ge dX6_layBallot_5 (tgt := 21) rfl (pc' := 8) rfl ⟨rv2.1, rv2.2, (inR_c (n := 30) rfl).1, (inR_c (n := 30) rfl).2⟩ (fun c1 => ?_) (fun c1 => ?_)
  · have h := if_f (Int.not_lt.mpr c1) h
    cases h
    exact X_sub (sub_s (sub_s (sub_n (sub_n sub_0)))) (k2 _ rfl hz)
  have h := if_t c1 h
  refine X_aload_n (pc' := 9) dX6_layBallot_8 rfl rfl ?_
  refine Y_get (pc' := 12) dX6_layBallot_9 rfl FX6_25 (zlN hN (by decide)) (congrArg Prod.fst (sh151 ln)) (ct151_15 z) ?_
  refine X_iload_n (pc' := 13) dX6_layBallot_12 rfl rfl ?_
  refine X_iconst (pc' := 14) dX6_layBallot_13 rfl ?_
  obtain ⟨g2, h⟩ := gs h
  refine Y_iast (pc' := 15) dX6_layBallot_14 rfl (zlN hN (by decide)) (sh157 ln) (by decide) g2 ?_
  obtain ⟨z3, e3, hz3, h⟩ := zl_some (P := okz) h (okz_up hz (inR_c (n := 0) rfl))
  rw [e3]
  refine X_iinc (pc' := 18) dX6_layBallot_15 rfl rfl (Or.inr rfl) (L' := [some (.ref (151)), some (.int (iN (v1))), some (.int (iN (v2 + 1))), none]) rfl ?_
  refine X_goto dX6_layBallot_18 (tgt := 2) rfl ?_
  obtain ⟨g4, h⟩ := gs h
  cases h
  exact X_sub (sub_s (sub_s (sub_s (sub_n sub_0)))) (k1 _ _ rfl g4 hz3)
theorem LX6_layBallot_2 {ln N : Nat} {v1 : Int} {c9 s9 : Nat} {Φ : xRes → xS → Prop} (hN : 159 ≤ N ∧ N < 999999) (rv1 : inR v1) {r : ZZ} (k2 : ∀ (z' : ZZ), r = z' → okz z' → X mX6_layBallot 21 [some (.ref (151)), some (.int (iN (v1))), none, none] [] (zmk ln N z') c9 s9 Φ) : ∀ (n : Nat) (v2 : Int) (z : ZZ), inR v2 → okz z → zlp (fun q => fX6_layBallot_s2 v1 q.1 q.2) n (v2, z) = some r → X mX6_layBallot 2 [some (.ref (151)), some (.int (iN (v1))), some (.int (iN (v2))), none] [] (zmk ln N z) c9 s9 Φ := by
  intro n
  induction n with
  | zero => intro v2 z rv2 hz h; cases h
  | succ n ih =>
    intro v2 z rv2 hz h
    rcases zlp_s h with ⟨⟨v2', z'⟩, e, h'⟩ | e
    · exact SX6_layBallot_2 hN hz rv1 rv2 e (fun v2₁ z₁ hh f0 f1 => by cases hh; exact ih _ _ f0 f1 h') (fun z₁ hh f0 => by cases hh)
    · exact SX6_layBallot_2 hN hz rv1 rv2 e (fun v2₁ z₁ hh f0 f1 => by cases hh) (fun z₁ hh f0 => by cases hh; exact k2 _ rfl f0)
def fX6_layBallot_b61 (v1 : Int) (v2 : Int) (z : ZZ) : Option ((Int × ZZ) ⊕ (ZZ)) := (if inR ((v2 + 1)) then some (.inl ((v2 + 1), z)) else none)
set_option maxRecDepth 100000 in
theorem BX6_layBallot_61 {ln N : Nat} {z : ZZ} {v1 : Int} {v2 : Int} {c9 s9 : Nat} {Φ : xRes → xS → Prop} (hN : 159 ≤ N ∧ N < 999999) (hz : okz z) (rv1 : inR v1) (rv2 : inR v2) {p : (Int × ZZ) ⊕ (ZZ)} (h : fX6_layBallot_b61 v1 v2 z = some p) (k1 : ∀ (v2' : Int) (z' : ZZ), p = .inl (v2', z') → inR v2' → okz z' → X mX6_layBallot 28 [some (.ref (151)), some (.int (iN (v1))), some (.int (iN (v2'))), none] [] (zmk ln N z') c9 s9 Φ) (k2 : ∀ (z' : ZZ), p = .inr z' → okz z' → X mX6_layBallot 67 [some (.ref (151)), some (.int (iN (v1))), none, none] [] (zmk ln N z') c9 s9 Φ) : X mX6_layBallot 61 [some (.ref (151)), some (.int (iN (v1))), some (.int (iN (v2))), none] [] (zmk ln N z) c9 s9 Φ := by
  unfold fX6_layBallot_b61 at h
  refine X_iinc (pc' := 64) dX6_layBallot_61 rfl rfl (Or.inr rfl) (L' := [some (.ref (151)), some (.int (iN (v1))), some (.int (iN (v2 + 1))), none]) rfl ?_
  refine X_goto dX6_layBallot_64 (tgt := 28) rfl ?_
  obtain ⟨g1, h⟩ := gs h
  cases h
  exact X_sub (sub_s (sub_s (sub_s (sub_n sub_0)))) (k1 _ _ rfl g1 hz)
def fX6_layBallot_s28 (v1 : Int) (v2 : Int) (z : ZZ) : Option ((Int × ZZ) ⊕ (ZZ)) := (if (v2) < ((z 154 (546))) then (if inR ((6 + v2)) then (Option.bind (fX6_routePart (v1) ((6 + v2)) z) fun r3 => (if (r3) = ((-1)) then fX6_layBallot_b61 (v1) (v2) z else (Option.bind (fX6_cast (r3) (1) z) fun z5 => fX6_layBallot_b61 (v1) (v2) z5))) else none) else some (.inr z))
set_option maxRecDepth 100000 in
theorem SX6_layBallot_28 {ln N : Nat} {z : ZZ} {v1 : Int} {v2 : Int} {c9 s9 : Nat} {Φ : xRes → xS → Prop} (hN : 159 ≤ N ∧ N < 999999) (hz : okz z) (rv1 : inR v1) (rv2 : inR v2) {p : (Int × ZZ) ⊕ (ZZ)} (h : fX6_layBallot_s28 v1 v2 z = some p) (k1 : ∀ (v2' : Int) (z' : ZZ), p = .inl (v2', z') → inR v2' → okz z' → X mX6_layBallot 28 [some (.ref (151)), some (.int (iN (v1))), some (.int (iN (v2'))), none] [] (zmk ln N z') c9 s9 Φ) (k2 : ∀ (z' : ZZ), p = .inr z' → okz z' → X mX6_layBallot 67 [some (.ref (151)), some (.int (iN (v1))), none, none] [] (zmk ln N z') c9 s9 Φ) : X mX6_layBallot 28 [some (.ref (151)), some (.int (iN (v1))), some (.int (iN (v2))), none] [] (zmk ln N z) c9 s9 Φ := by
  unfold fX6_layBallot_s28 at h
  refine X_iload_n (pc' := 29) dX6_layBallot_28 rfl rfl ?_
  refine X_aload_n (pc' := 30) dX6_layBallot_29 rfl rfl ?_
  refine Y_get (pc' := 33) dX6_layBallot_30 rfl FX6_16 (zlN hN (by decide)) (congrArg Prod.fst (sh151 ln)) (ct151_9 z) ?_
  refine X_sipush (pc' := 36) dX6_layBallot_33 rfl (by decide) ?_
  refine Y_iald (pc' := 37) dX6_layBallot_36 rfl (zlN hN (by decide)) (sh154 ln) (by decide) ⟨by decide, by decide⟩ ?_
  refine X_icmp_ge dX6_layBallot_37 (tgt := 67) rfl (pc' := 40) rfl ⟨rv2.1, rv2.2, (hz 154 (546) (by decide)).1, (hz 154 (546) (by decide)).2⟩ (fun c1 => ?_) (fun c1 => ?_)
  · have h := if_f (Int.not_lt.mpr c1) h
    cases h
    exact X_sub (sub_s (sub_s (sub_n (sub_n sub_0)))) (k2 _ rfl hz)
  have h := if_t c1 h
  refine X_aload_n (pc' := 41) dX6_layBallot_40 rfl rfl ?_
  refine X_iload_n (pc' := 42) dX6_layBallot_41 rfl rfl ?_
  refine X_bipush (pc' := 44) dX6_layBallot_42 rfl (by decide) ?_
  refine X_iload_n (pc' := 45) dX6_layBallot_44 rfl rfl ?_
  refine X_iadd (pc' := 46) dX6_layBallot_45 rfl ?_
  obtain ⟨g2, h⟩ := gs h
  obtain ⟨r3, q3, h⟩ := bs h
  refine Y_callV [.int (iN (v1)), .int (iN ((6 + v2)))] (pc' := 49) dX6_layBallot_46 rfl VX6_163 (by decide) (zlN hN (by decide)) (congrArg Prod.fst (sh151 ln)) rfl rfl rfl (cs rfl) (cs rfl) rfl (CX6_routePart hN hz rv1 g2 q3) (Nat.zero_add _).symm (Nat.zero_add _).symm (fun f3 => ?_)
  refine X_istore_n (pc' := 50) dX6_layBallot_49 rfl (cl rfl) (Or.inr rfl) (L' := [some (.ref (151)), some (.int (iN (v1))), some (.int (iN (v2))), some (.int (iN (r3)))]) rfl ?_
  refine X_iload_n (pc' := 51) dX6_layBallot_50 rfl rfl ?_
  refine X_iconst (pc' := 52) dX6_layBallot_51 rfl ?_
  refine X_icmp_eq dX6_layBallot_52 (tgt := 61) rfl (pc' := 55) rfl ⟨f3.1, f3.2, (inR_c (n := (-1)) rfl).1, (inR_c (n := (-1)) rfl).2⟩ (fun c4 => ?_) (fun c4 => ?_)
  · have h := if_t c4 h
    exact X_sub (sub_s (sub_s (sub_s (sub_n sub_0)))) (BX6_layBallot_61 hN hz rv1 rv2 h k1 k2)
  have h := if_f c4 h
  refine X_aload_n (pc' := 56) dX6_layBallot_55 rfl rfl ?_
  refine X_iload_n (pc' := 57) dX6_layBallot_56 rfl rfl ?_
  refine X_iconst (pc' := 58) dX6_layBallot_57 rfl ?_
  obtain ⟨z5, q5, h⟩ := bs h
  refine Y_callVv [.int (iN (r3)), .int (iN (1))] (pc' := 61) dX6_layBallot_58 rfl VX6_166 (by decide) (zlN hN (by decide)) (congrArg Prod.fst (sh151 ln)) rfl rfl rfl (cs rfl) (cs rfl) rfl (CX6_cast hN hz f3 (inR_c (n := 1) rfl) q5) (Nat.zero_add _).symm (Nat.zero_add _).symm (fun f5 => ?_)
  exact X_sub (sub_s (sub_s (sub_s (sub_n sub_0)))) (BX6_layBallot_61 hN f5 rv1 rv2 h k1 k2)
theorem LX6_layBallot_28 {ln N : Nat} {v1 : Int} {c9 s9 : Nat} {Φ : xRes → xS → Prop} (hN : 159 ≤ N ∧ N < 999999) (rv1 : inR v1) {r : ZZ} (k2 : ∀ (z' : ZZ), r = z' → okz z' → X mX6_layBallot 67 [some (.ref (151)), some (.int (iN (v1))), none, none] [] (zmk ln N z') c9 s9 Φ) : ∀ (n : Nat) (v2 : Int) (z : ZZ), inR v2 → okz z → zlp (fun q => fX6_layBallot_s28 v1 q.1 q.2) n (v2, z) = some r → X mX6_layBallot 28 [some (.ref (151)), some (.int (iN (v1))), some (.int (iN (v2))), none] [] (zmk ln N z) c9 s9 Φ := by
  intro n
  induction n with
  | zero => intro v2 z rv2 hz h; cases h
  | succ n ih =>
    intro v2 z rv2 hz h
    rcases zlp_s h with ⟨⟨v2', z'⟩, e, h'⟩ | e
    · exact SX6_layBallot_28 hN hz rv1 rv2 e (fun v2₁ z₁ hh f0 f1 => by cases hh; exact ih _ _ f0 f1 h') (fun z₁ hh f0 => by cases hh)
    · exact SX6_layBallot_28 hN hz rv1 rv2 e (fun v2₁ z₁ hh f0 f1 => by cases hh) (fun z₁ hh f0 => by cases hh; exact k2 _ rfl f0)
def fX6_layBallot (v1 : Int) (z : ZZ) : Option (ZZ) := (Option.bind (zlp (fun q => fX6_layBallot_s2 (v1) q.1 q.2) FU (0, z)) fun x1_z => (zl (zup x1_z 151 16 (0)) fun z2 => (Option.bind (zlp (fun q => fX6_layBallot_s28 (v1) q.1 q.2) FU (0, z2)) fun x3_z => (Option.bind (fX6_routePart (v1) (1) x3_z) fun r4 => (Option.bind (fX6_cast (r4) ((x3_z 154 (1))) x3_z) fun z5 => some z5)))))
set_option maxRecDepth 100000 in
theorem CX6_layBallot {ln N : Nat} {z : ZZ} {v1 : Int} (hN : 159 ≤ N ∧ N < 999999) (hz : okz z) (rv1 : inR v1) {p : ZZ} (h : fX6_layBallot v1 z = some p) : X mX6_layBallot 0 (xEnt [.ref (151), .int (iN (v1))] (xL mX6_layBallot)) [] (zmk ln N z) (cc_w p) (6 * cc_w p) (Qd (fa_w p) (rs_w p) (st_w ln N p)) := by
  have k : Fin_w (Qd (fa_w p) (rs_w p) (st_w ln N p)) ln N p := Fin_w_i
  unfold fX6_layBallot at h
  refine X_to (M := [some (.ref (151)), some (.int (iN (v1))), none, none]) (su := []) rfl rfl ?_
  refine X_iconst (pc' := 1) dX6_layBallot_0 rfl ?_
  refine X_istore_n (pc' := 2) dX6_layBallot_1 rfl (cl rfl) (Or.inr rfl) (L' := [some (.ref (151)), some (.int (iN (v1))), some (.int (iN (0))), none]) rfl ?_
  obtain ⟨x1_z, q1, h⟩ := bs h
  refine X_sub (sub_s (sub_s (sub_s (sub_n sub_0)))) (LX6_layBallot_2 hN rv1 (fun x1_z₁ hh hx1_z => ?_) FU _ _ (inR_c (n := 0) rfl) hz q1)
  cases hh
  refine X_aload_n (pc' := 22) dX6_layBallot_21 rfl rfl ?_
  refine X_iconst (pc' := 23) dX6_layBallot_22 rfl ?_
  refine Y_put (k := 16) (j := 16) (v := 0) (pc' := 26) dX6_layBallot_23 rfl FX6_160 (zlN hN (by decide)) (congrArg Prod.fst (sh151 ln)) (fun r hr => by cases hr; rfl) (xFit_int _) rfl rfl ?_
  obtain ⟨z2, e2, hz2, h⟩ := zl_some (P := okz) h (okz_up hx1_z (inR_c (n := 0) rfl))
  rw [e2]
  refine X_iconst (pc' := 27) dX6_layBallot_26 rfl ?_
  refine X_istore_n (pc' := 28) dX6_layBallot_27 rfl (cl rfl) (Or.inr rfl) (L' := [some (.ref (151)), some (.int (iN (v1))), some (.int (iN (0))), none]) rfl ?_
  obtain ⟨x3_z, q3, h⟩ := bs h
  refine X_sub (sub_s (sub_s (sub_s (sub_n sub_0)))) (LX6_layBallot_28 hN rv1 (fun x3_z₁ hh hx3_z => ?_) FU _ _ (inR_c (n := 0) rfl) hz2 q3)
  cases hh
  refine X_aload_n (pc' := 68) dX6_layBallot_67 rfl rfl ?_
  refine X_aload_n (pc' := 69) dX6_layBallot_68 rfl rfl ?_
  refine X_iload_n (pc' := 70) dX6_layBallot_69 rfl rfl ?_
  refine X_iconst (pc' := 71) dX6_layBallot_70 rfl ?_
  obtain ⟨r4, q4, h⟩ := bs h
  refine Y_callV [.int (iN (v1)), .int (iN (1))] (pc' := 74) dX6_layBallot_71 rfl VX6_163 (by decide) (zlN hN (by decide)) (congrArg Prod.fst (sh151 ln)) rfl rfl rfl (cs rfl) (cs rfl) rfl (CX6_routePart hN hx3_z rv1 (inR_c (n := 1) rfl) q4) (Nat.zero_add _).symm (Nat.zero_add _).symm (fun f4 => ?_)
  refine X_aload_n (pc' := 75) dX6_layBallot_74 rfl rfl ?_
  refine Y_get (pc' := 78) dX6_layBallot_75 rfl FX6_16 (zlN hN (by decide)) (congrArg Prod.fst (sh151 ln)) (ct151_9 x3_z) ?_
  refine X_iconst (pc' := 79) dX6_layBallot_78 rfl ?_
  refine Y_iald (pc' := 80) dX6_layBallot_79 rfl (zlN hN (by decide)) (sh154 ln) (by decide) ⟨by decide, by decide⟩ ?_
  obtain ⟨z5, q5, h⟩ := bs h
  refine Y_callVv [.int (iN (r4)), .int (iN ((x3_z 154 (1))))] (pc' := 83) dX6_layBallot_80 rfl VX6_166 (by decide) (zlN hN (by decide)) (congrArg Prod.fst (sh151 ln)) rfl rfl rfl (cs rfl) (cs rfl) rfl (CX6_cast hN hx3_z f4 (hx3_z 154 (1) (by decide)) q5) (Nat.zero_add _).symm (Nat.zero_add _).symm (fun f5 => ?_)
  cases h
  exact X_vret dX6_layBallot_83 rfl (k f5)
def fX6_dropped (v0 : Int) (v1 : Int) (v2 : Int) (z : ZZ) : Option (Int) := (if inR ((v2 - v0)) then some ((max (0) ((min (v1) ((v2 - v0)))))) else none)
set_option maxRecDepth 100000 in
theorem CX6_dropped {ln N : Nat} {z : ZZ} {v0 : Int} {v1 : Int} {v2 : Int} (hN : 159 ≤ N ∧ N < 999999) (hz : okz z) (rv0 : inR v0) (rv1 : inR v1) (rv2 : inR v2) {p : Int} (h : fX6_dropped v0 v1 v2 z = some p) : X mX6_dropped 0 (xEnt [.int (iN (v0)), .int (iN (v1)), .int (iN (v2))] (xL mX6_dropped)) [] (zmk ln N z) (cc_r p) (6 * cc_r p) (Qd (fa_r p) (rs_r p) (st_r ln N z p)) := by
  have k : Fin_r (Qd (fa_r p) (rs_r p) (st_r ln N z p)) ln N z p := Fin_r_i
  unfold fX6_dropped at h
  refine X_to (M := [some (.int (iN (v0))), some (.int (iN (v1))), some (.int (iN (v2)))]) (su := []) rfl rfl ?_
  refine X_iconst (pc' := 1) dX6_dropped_0 rfl ?_
  refine X_iload_n (pc' := 2) dX6_dropped_1 rfl rfl ?_
  refine X_iload_n (pc' := 3) dX6_dropped_2 rfl rfl ?_
  refine X_iload_n (pc' := 4) dX6_dropped_3 rfl rfl ?_
  refine X_isub (pc' := 5) dX6_dropped_4 rfl ?_
  obtain ⟨g1, h⟩ := gs h
  refine X_mmin (pc' := 8) dX6_dropped_5 rfl tq1270 tq342 tq5 tq343 (cs rfl) ⟨rv1.1, rv1.2, g1.1, g1.2⟩ ?_
  refine X_mmax (pc' := 11) dX6_dropped_8 rfl tq1389 tq68 tq5 tq69 (cs rfl) ⟨(inR_c (n := 0) rfl).1, (inR_c (n := 0) rfl).2, (inR_min rv1 g1).1, (inR_min rv1 g1).2⟩ ?_
  cases h
  exact X_iret dX6_dropped_11 rfl (k (inR_max (inR_c (n := 0) rfl) (inR_min rv1 g1)))
def fX6_trim_s29 (v1 : Int) (v2 : Int) (v3 : Int) (z : ZZ) : Option ((Int × Int × ZZ) ⊕ (ZZ)) := (if (v3) < (30) then (if (0 : Int) ≤ (v3) ∧ (v3) < (30 : Int) then (Option.bind (fX6_dropped (v2) ((z 157 (v3))) (v1) z) fun r3 => (if inR ((((z 151 16) - v2) - (z 157 (v3)))) then (Option.bind (fX6_dropped ((((z 151 16) - v2) - (z 157 (v3)))) ((z 157 (v3))) (v1) z) fun r5 => (if inR ((((z 157 (v3)) - r3) - r5)) then (if inR (((z 151 17) + (v3 * (max (0) ((((z 157 (v3)) - r3) - r5)))))) then (zl (zup z 151 17 (((z 151 17) + (v3 * (max (0) ((((z 157 (v3)) - r3) - r5))))))) fun z8 => (if inR (((z8 151 18) + (max (0) ((((z 157 (v3)) - r3) - r5))))) then (zl (zup z8 151 18 (((z8 151 18) + (max (0) ((((z 157 (v3)) - r3) - r5)))))) fun z10 => (if inR ((v2 + (z10 157 (v3)))) then (if inR ((v3 + 1)) then some (.inl ((v2 + (z10 157 (v3))), (v3 + 1), z10)) else none) else none)) else none)) else none) else none)) else none)) else none) else some (.inr z))
set_option maxRecDepth 100000 in
theorem SX6_trim_29 {ln N : Nat} {z : ZZ} {v1 : Int} {v2 : Int} {v3 : Int} {c9 s9 : Nat} {Φ : xRes → xS → Prop} (hN : 159 ≤ N ∧ N < 999999) (hz : okz z) (rv1 : inR v1) (rv2 : inR v2) (rv3 : inR v3) {p : (Int × Int × ZZ) ⊕ (ZZ)} (h : fX6_trim_s29 v1 v2 v3 z = some p) (k1 : ∀ (v2' : Int) (v3' : Int) (z' : ZZ), p = .inl (v2', v3', z') → inR v2' → inR v3' → okz z' → X mX6_trim 29 [some (.ref (151)), some (.int (iN (v1))), some (.int (iN (v2'))), some (.int (iN (v3'))), none, none] [] (zmk ln N z') c9 s9 Φ) (k2 : ∀ (z' : ZZ), p = .inr z' → okz z' → X mX6_trim 130 [none, none, none, none, none, none] [] (zmk ln N z') c9 s9 Φ) : X mX6_trim 29 [some (.ref (151)), some (.int (iN (v1))), some (.int (iN (v2))), some (.int (iN (v3))), none, none] [] (zmk ln N z) c9 s9 Φ := by
  unfold fX6_trim_s29 at h
  refine X_iload_n (pc' := 30) dX6_trim_29 rfl rfl ?_
  refine X_bipush (pc' := 32) dX6_trim_30 rfl (by decide) ?_
  refine X_icmp_ge dX6_trim_32 (tgt := 130) rfl (pc' := 35) rfl ⟨rv3.1, rv3.2, (inR_c (n := 30) rfl).1, (inR_c (n := 30) rfl).2⟩ (fun c1 => ?_) (fun c1 => ?_)
  · have h := if_f (Int.not_lt.mpr c1) h
    cases h
    exact X_sub (sub_n (sub_n (sub_n (sub_n (sub_n (sub_n sub_0)))))) (k2 _ rfl hz)
  have h := if_t c1 h
  refine X_aload_n (pc' := 36) dX6_trim_35 rfl rfl ?_
  refine Y_get (pc' := 39) dX6_trim_36 rfl FX6_160 (zlN hN (by decide)) (congrArg Prod.fst (sh151 ln)) (ct151_16 z) ?_
  refine X_iload_n (pc' := 40) dX6_trim_39 rfl rfl ?_
  refine X_isub (pc' := 41) dX6_trim_40 rfl ?_
  refine X_aload_n (pc' := 42) dX6_trim_41 rfl rfl ?_
  refine Y_get (pc' := 45) dX6_trim_42 rfl FX6_25 (zlN hN (by decide)) (congrArg Prod.fst (sh151 ln)) (ct151_15 z) ?_
  refine X_iload_n (pc' := 46) dX6_trim_45 rfl rfl ?_
  obtain ⟨g2, h⟩ := gs h
  refine Y_iald (pc' := 47) dX6_trim_46 rfl (zlN hN (by decide)) (sh157 ln) (by decide) g2 ?_
  refine X_isub (pc' := 48) dX6_trim_47 rfl ?_
  refine X_istore (pc' := 50) dX6_trim_48 rfl (cl rfl) (Or.inr rfl) (L' := [some (.ref (151)), some (.int (iN (v1))), some (.int (iN (v2))), some (.int (iN (v3))), some (.int (iN ((((z 151 16) - v2) - (z 157 (v3)))))), none]) rfl ?_
  refine X_aload_n (pc' := 51) dX6_trim_50 rfl rfl ?_
  refine Y_get (pc' := 54) dX6_trim_51 rfl FX6_25 (zlN hN (by decide)) (congrArg Prod.fst (sh151 ln)) (ct151_15 z) ?_
  refine X_iload_n (pc' := 55) dX6_trim_54 rfl rfl ?_
  refine Y_iald (pc' := 56) dX6_trim_55 rfl (zlN hN (by decide)) (sh157 ln) (by decide) g2 ?_
  refine X_iload_n (pc' := 57) dX6_trim_56 rfl rfl ?_
  refine X_aload_n (pc' := 58) dX6_trim_57 rfl rfl ?_
  refine Y_get (pc' := 61) dX6_trim_58 rfl FX6_25 (zlN hN (by decide)) (congrArg Prod.fst (sh151 ln)) (ct151_15 z) ?_
  refine X_iload_n (pc' := 62) dX6_trim_61 rfl rfl ?_
  refine Y_iald (pc' := 63) dX6_trim_62 rfl (zlN hN (by decide)) (sh157 ln) (by decide) g2 ?_
  refine X_iload_n (pc' := 64) dX6_trim_63 rfl rfl ?_
  obtain ⟨r3, q3, h⟩ := bs h
  refine Y_callS [.int (iN (v2)), .int (iN ((z 157 (v3)))), .int (iN (v1))] (pc' := 67) dX6_trim_64 rfl SX6_178 (by decide) rfl (cs rfl) (cs rfl) rfl (CX6_dropped hN hz rv2 (hz 157 (v3) (by decide)) rv1 q3) (Nat.zero_add _).symm (Nat.zero_add _).symm (fun f3 => ?_)
  refine X_isub (pc' := 68) dX6_trim_67 rfl ?_
  refine X_iload (pc' := 70) dX6_trim_68 rfl rfl ?_
  refine X_aload_n (pc' := 71) dX6_trim_70 rfl rfl ?_
  refine Y_get (pc' := 74) dX6_trim_71 rfl FX6_25 (zlN hN (by decide)) (congrArg Prod.fst (sh151 ln)) (ct151_15 z) ?_
  refine X_iload_n (pc' := 75) dX6_trim_74 rfl rfl ?_
  refine Y_iald (pc' := 76) dX6_trim_75 rfl (zlN hN (by decide)) (sh157 ln) (by decide) g2 ?_
  refine X_iload_n (pc' := 77) dX6_trim_76 rfl rfl ?_
  obtain ⟨g4, h⟩ := gs h
  obtain ⟨r5, q5, h⟩ := bs h
  refine Y_callS [.int (iN ((((z 151 16) - v2) - (z 157 (v3))))), .int (iN ((z 157 (v3)))), .int (iN (v1))] (pc' := 80) dX6_trim_77 rfl SX6_178 (by decide) rfl (cs rfl) (cs rfl) rfl (CX6_dropped hN hz g4 (hz 157 (v3) (by decide)) rv1 q5) (Nat.zero_add _).symm (Nat.zero_add _).symm (fun f5 => ?_)
  refine X_isub (pc' := 81) dX6_trim_80 rfl ?_
  refine X_istore (pc' := 83) dX6_trim_81 rfl (cl rfl) (Or.inr rfl) (L' := [some (.ref (151)), some (.int (iN (v1))), some (.int (iN (v2))), some (.int (iN (v3))), some (.int (iN ((((z 151 16) - v2) - (z 157 (v3)))))), some (.int (iN ((((z 157 (v3)) - r3) - r5))))]) rfl ?_
  refine X_iconst (pc' := 84) dX6_trim_83 rfl ?_
  refine X_iload (pc' := 86) dX6_trim_84 rfl rfl ?_
  obtain ⟨g6, h⟩ := gs h
  refine X_mmax (pc' := 89) dX6_trim_86 rfl tq1389 tq68 tq5 tq69 (cs rfl) ⟨(inR_c (n := 0) rfl).1, (inR_c (n := 0) rfl).2, g6.1, g6.2⟩ ?_
  refine X_istore (pc' := 91) dX6_trim_89 rfl (cl rfl) (Or.inr rfl) (L' := [some (.ref (151)), some (.int (iN (v1))), some (.int (iN (v2))), some (.int (iN (v3))), some (.int (iN ((((z 151 16) - v2) - (z 157 (v3)))))), some (.int (iN ((max (0) ((((z 157 (v3)) - r3) - r5))))))]) rfl ?_
  refine X_aload_n (pc' := 92) dX6_trim_91 rfl rfl ?_
  refine X_dup (pc' := 93) dX6_trim_92 rfl rfl ?_
  refine Y_get (pc' := 96) dX6_trim_93 rfl FX6_172 (zlN hN (by decide)) (congrArg Prod.fst (sh151 ln)) (ct151_17 z) ?_
  refine X_iload_n (pc' := 97) dX6_trim_96 rfl rfl ?_
  refine X_iload (pc' := 99) dX6_trim_97 rfl rfl ?_
  refine X_imul (pc' := 100) dX6_trim_99 rfl ?_
  refine X_iadd (pc' := 101) dX6_trim_100 rfl ?_
  obtain ⟨g7, h⟩ := gs h
  refine Y_put (k := 17) (j := 17) (v := ((z 151 17) + (v3 * (max (0) ((((z 157 (v3)) - r3) - r5)))))) (pc' := 104) dX6_trim_101 rfl FX6_172 (zlN hN (by decide)) (congrArg Prod.fst (sh151 ln)) (fun r hr => by cases hr; rfl) (xFit_int _) rfl rfl ?_
  obtain ⟨z8, e8, hz8, h⟩ := zl_some (P := okz) h (okz_up hz g7)
  rw [e8]
  refine X_aload_n (pc' := 105) dX6_trim_104 rfl rfl ?_
  refine X_dup (pc' := 106) dX6_trim_105 rfl rfl ?_
  refine Y_get (pc' := 109) dX6_trim_106 rfl FX6_175 (zlN hN (by decide)) (congrArg Prod.fst (sh151 ln)) (ct151_18 z8) ?_
  refine X_iload (pc' := 111) dX6_trim_109 rfl rfl ?_
  refine X_iadd (pc' := 112) dX6_trim_111 rfl ?_
  obtain ⟨g9, h⟩ := gs h
  refine Y_put (k := 18) (j := 18) (v := ((z8 151 18) + (max (0) ((((z 157 (v3)) - r3) - r5))))) (pc' := 115) dX6_trim_112 rfl FX6_175 (zlN hN (by decide)) (congrArg Prod.fst (sh151 ln)) (fun r hr => by cases hr; rfl) (xFit_int _) rfl rfl ?_
  obtain ⟨z10, e10, hz10, h⟩ := zl_some (P := okz) h (okz_up hz8 g9)
  rw [e10]
  refine X_iload_n (pc' := 116) dX6_trim_115 rfl rfl ?_
  refine X_aload_n (pc' := 117) dX6_trim_116 rfl rfl ?_
  refine Y_get (pc' := 120) dX6_trim_117 rfl FX6_25 (zlN hN (by decide)) (congrArg Prod.fst (sh151 ln)) (ct151_15 z10) ?_
  refine X_iload_n (pc' := 121) dX6_trim_120 rfl rfl ?_
  refine Y_iald (pc' := 122) dX6_trim_121 rfl (zlN hN (by decide)) (sh157 ln) (by decide) g2 ?_
  refine X_iadd (pc' := 123) dX6_trim_122 rfl ?_
  refine X_istore_n (pc' := 124) dX6_trim_123 rfl (cl rfl) (Or.inr rfl) (L' := [some (.ref (151)), some (.int (iN (v1))), some (.int (iN ((v2 + (z10 157 (v3)))))), some (.int (iN (v3))), some (.int (iN ((((z 151 16) - v2) - (z 157 (v3)))))), some (.int (iN ((max (0) ((((z 157 (v3)) - r3) - r5))))))]) rfl ?_
  refine X_iinc (pc' := 127) dX6_trim_124 rfl rfl (Or.inr rfl) (L' := [some (.ref (151)), some (.int (iN (v1))), some (.int (iN ((v2 + (z10 157 (v3)))))), some (.int (iN (v3 + 1))), some (.int (iN ((((z 151 16) - v2) - (z 157 (v3)))))), some (.int (iN ((max (0) ((((z 157 (v3)) - r3) - r5))))))]) rfl ?_
  refine X_goto dX6_trim_127 (tgt := 29) rfl ?_
  obtain ⟨g11, h⟩ := gs h
  obtain ⟨g12, h⟩ := gs h
  cases h
  exact X_sub (sub_s (sub_s (sub_s (sub_s (sub_n (sub_n sub_0)))))) (k1 _ _ _ rfl g11 g12 hz10)
theorem LX6_trim_29 {ln N : Nat} {v1 : Int} {c9 s9 : Nat} {Φ : xRes → xS → Prop} (hN : 159 ≤ N ∧ N < 999999) (rv1 : inR v1) {r : ZZ} (k2 : ∀ (z' : ZZ), r = z' → okz z' → X mX6_trim 130 [none, none, none, none, none, none] [] (zmk ln N z') c9 s9 Φ) : ∀ (n : Nat) (v2 : Int) (v3 : Int) (z : ZZ), inR v2 → inR v3 → okz z → zlp (fun q => fX6_trim_s29 v1 q.1 q.2.1 q.2.2) n (v2, v3, z) = some r → X mX6_trim 29 [some (.ref (151)), some (.int (iN (v1))), some (.int (iN (v2))), some (.int (iN (v3))), none, none] [] (zmk ln N z) c9 s9 Φ := by
  intro n
  induction n with
  | zero => intro v2 v3 z rv2 rv3 hz h; cases h
  | succ n ih =>
    intro v2 v3 z rv2 rv3 hz h
    rcases zlp_s h with ⟨⟨v2', v3', z'⟩, e, h'⟩ | e
    · exact SX6_trim_29 hN hz rv1 rv2 rv3 e (fun v2₁ v3₁ z₁ hh f0 f1 f2 => by cases hh; exact ih _ _ _ f0 f1 f2 h') (fun z₁ hh f0 => by cases hh)
    · exact SX6_trim_29 hN hz rv1 rv2 rv3 e (fun v2₁ v3₁ z₁ hh f0 f1 f2 => by cases hh) (fun z₁ hh f0 => by cases hh; exact k2 _ rfl f0)
def fX6_trim (z : ZZ) : Option (ZZ) := (if inR (((z 151 16) * (z 154 (0)))) then (if (0 : Int) ≤ (((z 151 16) * (z 154 (0)))) ∧ (0 : Int) < (100) then (zl (zup z 151 17 (0)) fun z3 => (zl (zup z3 151 18 (0)) fun z4 => (Option.bind (zlp (fun q => fX6_trim_s29 ((((z 151 16) * (z 154 (0))) / 100)) q.1 q.2.1 q.2.2) FU (0, 0, z4)) fun x5_z => some x5_z))) else none) else none)
set_option maxRecDepth 100000 in
theorem CX6_trim {ln N : Nat} {z : ZZ} (hN : 159 ≤ N ∧ N < 999999) (hz : okz z) {p : ZZ} (h : fX6_trim z = some p) : X mX6_trim 0 (xEnt [.ref (151)] (xL mX6_trim)) [] (zmk ln N z) (cc_w p) (6 * cc_w p) (Qd (fa_w p) (rs_w p) (st_w ln N p)) := by
  have k : Fin_w (Qd (fa_w p) (rs_w p) (st_w ln N p)) ln N p := Fin_w_i
  unfold fX6_trim at h
  refine X_to (M := [some (.ref (151)), none, none, none, none, none]) (su := []) rfl rfl ?_
  refine X_aload_n (pc' := 1) dX6_trim_0 rfl rfl ?_
  refine Y_get (pc' := 4) dX6_trim_1 rfl FX6_160 (zlN hN (by decide)) (congrArg Prod.fst (sh151 ln)) (ct151_16 z) ?_
  refine X_aload_n (pc' := 5) dX6_trim_4 rfl rfl ?_
  refine Y_get (pc' := 8) dX6_trim_5 rfl FX6_16 (zlN hN (by decide)) (congrArg Prod.fst (sh151 ln)) (ct151_9 z) ?_
  refine X_iconst (pc' := 9) dX6_trim_8 rfl ?_
  refine Y_iald (pc' := 10) dX6_trim_9 rfl (zlN hN (by decide)) (sh154 ln) (by decide) ⟨by decide, by decide⟩ ?_
  refine X_imul (pc' := 11) dX6_trim_10 rfl ?_
  refine X_bipush (pc' := 13) dX6_trim_11 rfl (by decide) ?_
  obtain ⟨g1, h⟩ := gs h
  obtain ⟨g2, h⟩ := gs h
  refine X_idiv (pc' := 14) dX6_trim_13 rfl ⟨g2.1, g1.2, g2.2, (inR_c (n := 100) rfl).2⟩ ?_
  refine X_istore_n (pc' := 15) dX6_trim_14 rfl (cl rfl) (Or.inr rfl) (L' := [some (.ref (151)), some (.int (iN ((((z 151 16) * (z 154 (0))) / 100)))), none, none, none, none]) rfl ?_
  refine X_iconst (pc' := 16) dX6_trim_15 rfl ?_
  refine X_istore_n (pc' := 17) dX6_trim_16 rfl (cl rfl) (Or.inr rfl) (L' := [some (.ref (151)), some (.int (iN ((((z 151 16) * (z 154 (0))) / 100)))), some (.int (iN (0))), none, none, none]) rfl ?_
  refine X_aload_n (pc' := 18) dX6_trim_17 rfl rfl ?_
  refine X_iconst (pc' := 19) dX6_trim_18 rfl ?_
  refine Y_put (k := 17) (j := 17) (v := 0) (pc' := 22) dX6_trim_19 rfl FX6_172 (zlN hN (by decide)) (congrArg Prod.fst (sh151 ln)) (fun r hr => by cases hr; rfl) (xFit_int _) rfl rfl ?_
  obtain ⟨z3, e3, hz3, h⟩ := zl_some (P := okz) h (okz_up hz (inR_c (n := 0) rfl))
  rw [e3]
  refine X_aload_n (pc' := 23) dX6_trim_22 rfl rfl ?_
  refine X_iconst (pc' := 24) dX6_trim_23 rfl ?_
  refine Y_put (k := 18) (j := 18) (v := 0) (pc' := 27) dX6_trim_24 rfl FX6_175 (zlN hN (by decide)) (congrArg Prod.fst (sh151 ln)) (fun r hr => by cases hr; rfl) (xFit_int _) rfl rfl ?_
  obtain ⟨z4, e4, hz4, h⟩ := zl_some (P := okz) h (okz_up hz3 (inR_c (n := 0) rfl))
  rw [e4]
  refine X_iconst (pc' := 28) dX6_trim_27 rfl ?_
  refine X_istore_n (pc' := 29) dX6_trim_28 rfl (cl rfl) (Or.inr rfl) (L' := [some (.ref (151)), some (.int (iN ((((z 151 16) * (z 154 (0))) / 100)))), some (.int (iN (0))), some (.int (iN (0))), none, none]) rfl ?_
  obtain ⟨x5_z, q5, h⟩ := bs h
  refine X_sub (sub_s (sub_s (sub_s (sub_s (sub_n (sub_n sub_0)))))) (LX6_trim_29 hN (inR_div g2 g1) (fun x5_z₁ hh hx5_z => ?_) FU _ _ _ (inR_c (n := 0) rfl) (inR_c (n := 0) rfl) hz4 q5)
  cases hh
  cases h
  exact X_vret dX6_trim_130 rfl (k hx5_z)
def fX6_layMean_b33 (z : ZZ) : Option (ZZ) := (Option.bind (fX6_trim z) fun z1 => some z1)
set_option maxRecDepth 100000 in
theorem BX6_layMean_33 {ln N : Nat} {z : ZZ} {c9 s9 : Nat} {Φ : xRes → xS → Prop} (hN : 159 ≤ N ∧ N < 999999) (hz : okz z) {p : ZZ} (h : fX6_layMean_b33 z = some p) (k : Fin_w Φ ln N p) : X mX6_layMean 33 [some (.ref (151)), none, none, none] [] (zmk ln N z) c9 s9 Φ := by
  unfold fX6_layMean_b33 at h
  refine X_aload_n (pc' := 34) dX6_layMean_33 rfl rfl ?_
  obtain ⟨z1, q1, h⟩ := bs h
  refine Y_callVv [] (pc' := 37) dX6_layMean_34 rfl VX6_186 (by decide) (zlN hN (by decide)) (congrArg Prod.fst (sh151 ln)) rfl rfl rfl (cs rfl) (cs rfl) rfl (CX6_trim hN hz q1) (Nat.zero_add _).symm (Nat.zero_add _).symm (fun f1 => ?_)
  cases h
  exact X_vret dX6_layMean_37 rfl (k f1)
def fX6_layMean_b15 (v1 : Int) (z : ZZ) : Option (ZZ) := (if ((z 151 16)) = (0) then (Option.bind (fX6_routePart (v1) (1) z) fun r2 => (Option.bind (fX6_cast (r2) (1) z) fun z3 => fX6_layMean_b33  z3)) else fX6_layMean_b33  z)
set_option maxRecDepth 100000 in
theorem BX6_layMean_15 {ln N : Nat} {z : ZZ} {v1 : Int} {c9 s9 : Nat} {Φ : xRes → xS → Prop} (hN : 159 ≤ N ∧ N < 999999) (hz : okz z) (rv1 : inR v1) {p : ZZ} (h : fX6_layMean_b15 v1 z = some p) (k : Fin_w Φ ln N p) : X mX6_layMean 15 [some (.ref (151)), some (.int (iN (v1))), none, none] [] (zmk ln N z) c9 s9 Φ := by
  unfold fX6_layMean_b15 at h
  refine X_aload_n (pc' := 16) dX6_layMean_15 rfl rfl ?_
  refine Y_get (pc' := 19) dX6_layMean_16 rfl FX6_160 (zlN hN (by decide)) (congrArg Prod.fst (sh151 ln)) (ct151_16 z) ?_
  refine X_if_ne dX6_layMean_19 (tgt := 33) rfl (pc' := 22) rfl (hz 151 16 (by decide)) (fun c1 => ?_) (fun c1 => ?_)
  · have h := if_f c1 h
    exact X_sub (sub_s (sub_n (sub_n (sub_n sub_0)))) (BX6_layMean_33 hN hz h k)
  have h := if_t c1 h
  refine X_aload_n (pc' := 23) dX6_layMean_22 rfl rfl ?_
  refine X_aload_n (pc' := 24) dX6_layMean_23 rfl rfl ?_
  refine X_iload_n (pc' := 25) dX6_layMean_24 rfl rfl ?_
  refine X_iconst (pc' := 26) dX6_layMean_25 rfl ?_
  obtain ⟨r2, q2, h⟩ := bs h
  refine Y_callV [.int (iN (v1)), .int (iN (1))] (pc' := 29) dX6_layMean_26 rfl VX6_163 (by decide) (zlN hN (by decide)) (congrArg Prod.fst (sh151 ln)) rfl rfl rfl (cs rfl) (cs rfl) rfl (CX6_routePart hN hz rv1 (inR_c (n := 1) rfl) q2) (Nat.zero_add _).symm (Nat.zero_add _).symm (fun f2 => ?_)
  refine X_iconst (pc' := 30) dX6_layMean_29 rfl ?_
  obtain ⟨z3, q3, h⟩ := bs h
  refine Y_callVv [.int (iN (r2)), .int (iN (1))] (pc' := 33) dX6_layMean_30 rfl VX6_166 (by decide) (zlN hN (by decide)) (congrArg Prod.fst (sh151 ln)) rfl rfl rfl (cs rfl) (cs rfl) rfl (CX6_cast hN hz f2 (inR_c (n := 1) rfl) q3) (Nat.zero_add _).symm (Nat.zero_add _).symm (fun f3 => ?_)
  exact X_sub (sub_s (sub_n (sub_n (sub_n sub_0)))) (BX6_layMean_33 hN f3 h k)
def fX6_layMean (v1 : Int) (v2 : Int) (v3 : Int) (z : ZZ) : Option (ZZ) := (Option.bind (fX6_layBallot (v1) z) fun z1 => (if (0) < (v3) then (Option.bind (fX6_cast (v2) (v3) z1) fun z3 => fX6_layMean_b15 (v1) z3) else fX6_layMean_b15 (v1) z1))
set_option maxRecDepth 100000 in
theorem CX6_layMean {ln N : Nat} {z : ZZ} {v1 : Int} {v2 : Int} {v3 : Int} (hN : 159 ≤ N ∧ N < 999999) (hz : okz z) (rv1 : inR v1) (rv2 : inR v2) (rv3 : inR v3) {p : ZZ} (h : fX6_layMean v1 v2 v3 z = some p) : X mX6_layMean 0 (xEnt [.ref (151), .int (iN (v1)), .int (iN (v2)), .int (iN (v3))] (xL mX6_layMean)) [] (zmk ln N z) (cc_w p) (6 * cc_w p) (Qd (fa_w p) (rs_w p) (st_w ln N p)) := by
  have k : Fin_w (Qd (fa_w p) (rs_w p) (st_w ln N p)) ln N p := Fin_w_i
  unfold fX6_layMean at h
  refine X_to (M := [some (.ref (151)), some (.int (iN (v1))), some (.int (iN (v2))), some (.int (iN (v3)))]) (su := []) rfl rfl ?_
  refine X_aload_n (pc' := 1) dX6_layMean_0 rfl rfl ?_
  refine X_iload_n (pc' := 2) dX6_layMean_1 rfl rfl ?_
  obtain ⟨z1, q1, h⟩ := bs h
  refine Y_callVv [.int (iN (v1))] (pc' := 5) dX6_layMean_2 rfl VX6_182 (by decide) (zlN hN (by decide)) (congrArg Prod.fst (sh151 ln)) rfl rfl rfl (cs rfl) (cs rfl) rfl (CX6_layBallot hN hz rv1 q1) (Nat.zero_add _).symm (Nat.zero_add _).symm (fun f1 => ?_)
  refine X_iload_n (pc' := 6) dX6_layMean_5 rfl rfl ?_
  refine X_if_le dX6_layMean_6 (tgt := 15) rfl (pc' := 9) rfl rv3 (fun c2 => ?_) (fun c2 => ?_)
  · have h := if_f (Int.not_lt.mpr c2) h
    exact X_sub (sub_s (sub_s (sub_n (sub_n sub_0)))) (BX6_layMean_15 hN f1 rv1 h k)
  have h := if_t c2 h
  refine X_aload_n (pc' := 10) dX6_layMean_9 rfl rfl ?_
  refine X_iload_n (pc' := 11) dX6_layMean_10 rfl rfl ?_
  refine X_iload_n (pc' := 12) dX6_layMean_11 rfl rfl ?_
  obtain ⟨z3, q3, h⟩ := bs h
  refine Y_callVv [.int (iN (v2)), .int (iN (v3))] (pc' := 15) dX6_layMean_12 rfl VX6_166 (by decide) (zlN hN (by decide)) (congrArg Prod.fst (sh151 ln)) rfl rfl rfl (cs rfl) (cs rfl) rfl (CX6_cast hN f1 rv2 rv3 q3) (Nat.zero_add _).symm (Nat.zero_add _).symm (fun f3 => ?_)
  exact X_sub (sub_s (sub_s (sub_n (sub_n sub_0)))) (BX6_layMean_15 hN f3 rv1 h k)
def fX6_gradeBy (v1 : Int) (v2 : Int) (v3 : Int) (z : ZZ) : Option (Int × ZZ) := (Option.bind (fX6_layMean (v1) (v2) (v3) z) fun z1 => (if inR (((2 * (z1 151 17)) + (z1 151 18))) then (if inR ((2 * (z1 151 18))) then (if (0 : Int) ≤ (((2 * (z1 151 17)) + (z1 151 18))) ∧ (0 : Int) < ((2 * (z1 151 18))) then some ((((2 * (z1 151 17)) + (z1 151 18)) / (2 * (z1 151 18))), z1) else none) else none) else none))
set_option maxRecDepth 100000 in
theorem CX6_gradeBy {ln N : Nat} {z : ZZ} {v1 : Int} {v2 : Int} {v3 : Int} (hN : 159 ≤ N ∧ N < 999999) (hz : okz z) (rv1 : inR v1) (rv2 : inR v2) (rv3 : inR v3) {p : Int × ZZ} (h : fX6_gradeBy v1 v2 v3 z = some p) : X mX6_gradeBy 0 (xEnt [.ref (151), .int (iN (v1)), .int (iN (v2)), .int (iN (v3))] (xL mX6_gradeBy)) [] (zmk ln N z) (cc_wi p) (6 * cc_wi p) (Qd (fa_wi p) (rs_wi p) (st_wi ln N p)) := by
  have k : Fin_wi (Qd (fa_wi p) (rs_wi p) (st_wi ln N p)) ln N p := Fin_wi_i
  unfold fX6_gradeBy at h
  refine X_to (M := [some (.ref (151)), some (.int (iN (v1))), some (.int (iN (v2))), some (.int (iN (v3)))]) (su := []) rfl rfl ?_
  refine X_aload_n (pc' := 1) dX6_gradeBy_0 rfl rfl ?_
  refine X_iload_n (pc' := 2) dX6_gradeBy_1 rfl rfl ?_
  refine X_iload_n (pc' := 3) dX6_gradeBy_2 rfl rfl ?_
  refine X_iload_n (pc' := 4) dX6_gradeBy_3 rfl rfl ?_
  obtain ⟨z1, q1, h⟩ := bs h
  refine Y_callVv [.int (iN (v1)), .int (iN (v2)), .int (iN (v3))] (pc' := 7) dX6_gradeBy_4 rfl VX6_192 (by decide) (zlN hN (by decide)) (congrArg Prod.fst (sh151 ln)) rfl rfl rfl (cs rfl) (cs rfl) rfl (CX6_layMean hN hz rv1 rv2 rv3 q1) (Nat.zero_add _).symm (Nat.zero_add _).symm (fun f1 => ?_)
  refine X_iconst (pc' := 8) dX6_gradeBy_7 rfl ?_
  refine X_aload_n (pc' := 9) dX6_gradeBy_8 rfl rfl ?_
  refine Y_get (pc' := 12) dX6_gradeBy_9 rfl FX6_172 (zlN hN (by decide)) (congrArg Prod.fst (sh151 ln)) (ct151_17 z1) ?_
  refine X_imul (pc' := 13) dX6_gradeBy_12 rfl ?_
  refine X_aload_n (pc' := 14) dX6_gradeBy_13 rfl rfl ?_
  refine Y_get (pc' := 17) dX6_gradeBy_14 rfl FX6_175 (zlN hN (by decide)) (congrArg Prod.fst (sh151 ln)) (ct151_18 z1) ?_
  refine X_iadd (pc' := 18) dX6_gradeBy_17 rfl ?_
  refine X_iconst (pc' := 19) dX6_gradeBy_18 rfl ?_
  refine X_aload_n (pc' := 20) dX6_gradeBy_19 rfl rfl ?_
  refine Y_get (pc' := 23) dX6_gradeBy_20 rfl FX6_175 (zlN hN (by decide)) (congrArg Prod.fst (sh151 ln)) (ct151_18 z1) ?_
  refine X_imul (pc' := 24) dX6_gradeBy_23 rfl ?_
  obtain ⟨g2, h⟩ := gs h
  obtain ⟨g3, h⟩ := gs h
  obtain ⟨g4, h⟩ := gs h
  refine X_idiv (pc' := 25) dX6_gradeBy_24 rfl ⟨g4.1, g2.2, g4.2, g3.2⟩ ?_
  cases h
  exact X_iret dX6_gradeBy_25 rfl (k ⟨(inR_div g4 g2), f1⟩)
def fX6_gradeOf (v1 : Int) (z : ZZ) : Option (Int × ZZ) := (Option.bind (fX6_gradeBy (v1) (0) (0) z) fun q1 => match q1 with | (r1, z1) => some (r1, z1))
set_option maxRecDepth 100000 in
theorem CX6_gradeOf {ln N : Nat} {z : ZZ} {v1 : Int} (hN : 159 ≤ N ∧ N < 999999) (hz : okz z) (rv1 : inR v1) {p : Int × ZZ} (h : fX6_gradeOf v1 z = some p) : X mX6_gradeOf 0 (xEnt [.ref (151), .int (iN (v1))] (xL mX6_gradeOf)) [] (zmk ln N z) (cc_wi p) (6 * cc_wi p) (Qd (fa_wi p) (rs_wi p) (st_wi ln N p)) := by
  have k : Fin_wi (Qd (fa_wi p) (rs_wi p) (st_wi ln N p)) ln N p := Fin_wi_i
  unfold fX6_gradeOf at h
  refine X_to (M := [some (.ref (151)), some (.int (iN (v1)))]) (su := []) rfl rfl ?_
  refine X_aload_n (pc' := 1) dX6_gradeOf_0 rfl rfl ?_
  refine X_iload_n (pc' := 2) dX6_gradeOf_1 rfl rfl ?_
  refine X_iconst (pc' := 3) dX6_gradeOf_2 rfl ?_
  refine X_iconst (pc' := 4) dX6_gradeOf_3 rfl ?_
  obtain ⟨⟨r1, z1⟩, q1, h⟩ := bs h
  refine Y_callV [.int (iN (v1)), .int (iN (0)), .int (iN (0))] (pc' := 7) dX6_gradeOf_4 rfl VX6_189 (by decide) (zlN hN (by decide)) (congrArg Prod.fst (sh151 ln)) rfl rfl rfl (cs rfl) (cs rfl) rfl (CX6_gradeBy hN hz rv1 (inR_c (n := 0) rfl) (inR_c (n := 0) rfl) q1) (Nat.zero_add _).symm (Nat.zero_add _).symm (fun f1 => ?_)
  cases h
  exact X_iret dX6_gradeOf_7 rfl (k ⟨f1.1, f1.2⟩)
def fX6_archive_b56 (v1 : Int) (z : ZZ) : Option (ZZ) := (Option.bind (fX6_routePart (v1) (0) z) fun r1 => (if (0 : Int) ≤ ((645 + (4 * (z 154 (644))))) ∧ ((645 + (4 * (z 154 (644))))) < (765 : Int) then (zl (zup z 154 ((645 + (4 * (z 154 (644))))) (r1)) fun z3 => (Option.bind (fX6_gradeOf (v1) z3) fun q4 => match q4 with | (r4, z4) => (if (0 : Int) ≤ (((645 + (4 * (z 154 (644)))) + 1)) ∧ (((645 + (4 * (z 154 (644)))) + 1)) < (765 : Int) then (zl (zup z4 154 (((645 + (4 * (z 154 (644)))) + 1)) (r4)) fun z6 => (if (0 : Int) ≤ (((645 + (4 * (z 154 (644)))) + 2)) ∧ (((645 + (4 * (z 154 (644)))) + 2)) < (765 : Int) then (zl (zup z6 154 (((645 + (4 * (z 154 (644)))) + 2)) ((z6 154 (3)))) fun z8 => (Option.bind (fX6_routePart (v1) (4) z8) fun r9 => (if (0 : Int) ≤ (((645 + (4 * (z 154 (644)))) + 3)) ∧ (((645 + (4 * (z 154 (644)))) + 3)) < (765 : Int) then (zl (zup z8 154 (((645 + (4 * (z 154 (644)))) + 3)) (r9)) fun z11 => (if inR (((z11 154 (644)) + 1)) then (zl (zup z11 154 (644) (((z11 154 (644)) + 1))) fun z13 => some z13) else none)) else none))) else none)) else none))) else none))
set_option maxRecDepth 100000 in
theorem BX6_archive_56 {ln N : Nat} {z : ZZ} {v1 : Int} {c9 s9 : Nat} {Φ : xRes → xS → Prop} (hN : 159 ≤ N ∧ N < 999999) (hz : okz z) (rv1 : inR v1) {p : ZZ} (h : fX6_archive_b56 v1 z = some p) (k : Fin_w Φ ln N p) : X mX6_archive 56 [some (.ref (151)), some (.int (iN (v1))), none] [] (zmk ln N z) c9 s9 Φ := by
  unfold fX6_archive_b56 at h
  refine X_sipush (pc' := 59) dX6_archive_56 rfl (by decide) ?_
  refine X_iconst (pc' := 60) dX6_archive_59 rfl ?_
  refine X_aload_n (pc' := 61) dX6_archive_60 rfl rfl ?_
  refine Y_get (pc' := 64) dX6_archive_61 rfl FX6_16 (zlN hN (by decide)) (congrArg Prod.fst (sh151 ln)) (ct151_9 z) ?_
  refine X_sipush (pc' := 67) dX6_archive_64 rfl (by decide) ?_
  refine Y_iald (pc' := 68) dX6_archive_67 rfl (zlN hN (by decide)) (sh154 ln) (by decide) ⟨by decide, by decide⟩ ?_
  refine X_imul (pc' := 69) dX6_archive_68 rfl ?_
  refine X_iadd (pc' := 70) dX6_archive_69 rfl ?_
  refine X_istore_n (pc' := 71) dX6_archive_70 rfl (cl rfl) (Or.inr rfl) (L' := [some (.ref (151)), some (.int (iN (v1))), some (.int (iN ((645 + (4 * (z 154 (644)))))))]) rfl ?_
  refine X_aload_n (pc' := 72) dX6_archive_71 rfl rfl ?_
  refine Y_get (pc' := 75) dX6_archive_72 rfl FX6_16 (zlN hN (by decide)) (congrArg Prod.fst (sh151 ln)) (ct151_9 z) ?_
  refine X_iload_n (pc' := 76) dX6_archive_75 rfl rfl ?_
  refine X_aload_n (pc' := 77) dX6_archive_76 rfl rfl ?_
  refine X_iload_n (pc' := 78) dX6_archive_77 rfl rfl ?_
  refine X_iconst (pc' := 79) dX6_archive_78 rfl ?_
  obtain ⟨r1, q1, h⟩ := bs h
  refine Y_callV [.int (iN (v1)), .int (iN (0))] (pc' := 82) dX6_archive_79 rfl VX6_163 (by decide) (zlN hN (by decide)) (congrArg Prod.fst (sh151 ln)) rfl rfl rfl (cs rfl) (cs rfl) rfl (CX6_routePart hN hz rv1 (inR_c (n := 0) rfl) q1) (Nat.zero_add _).symm (Nat.zero_add _).symm (fun f1 => ?_)
  obtain ⟨g2, h⟩ := gs h
  refine Y_iast (pc' := 83) dX6_archive_82 rfl (zlN hN (by decide)) (sh154 ln) (by decide) g2 ?_
  obtain ⟨z3, e3, hz3, h⟩ := zl_some (P := okz) h (okz_up hz f1)
  rw [e3]
  refine X_aload_n (pc' := 84) dX6_archive_83 rfl rfl ?_
  refine Y_get (pc' := 87) dX6_archive_84 rfl FX6_16 (zlN hN (by decide)) (congrArg Prod.fst (sh151 ln)) (ct151_9 z3) ?_
  refine X_iload_n (pc' := 88) dX6_archive_87 rfl rfl ?_
  refine X_iconst (pc' := 89) dX6_archive_88 rfl ?_
  refine X_iadd (pc' := 90) dX6_archive_89 rfl ?_
  refine X_aload_n (pc' := 91) dX6_archive_90 rfl rfl ?_
  refine X_iload_n (pc' := 92) dX6_archive_91 rfl rfl ?_
  obtain ⟨⟨r4, z4⟩, q4, h⟩ := bs h
  refine Y_callV [.int (iN (v1))] (pc' := 95) dX6_archive_92 rfl VX6_232 (by decide) (zlN hN (by decide)) (congrArg Prod.fst (sh151 ln)) rfl rfl rfl (cs rfl) (cs rfl) rfl (CX6_gradeOf hN hz3 rv1 q4) (Nat.zero_add _).symm (Nat.zero_add _).symm (fun f4 => ?_)
  obtain ⟨g5, h⟩ := gs h
  refine Y_iast (pc' := 96) dX6_archive_95 rfl (zlN hN (by decide)) (sh154 ln) (by decide) g5 ?_
  obtain ⟨z6, e6, hz6, h⟩ := zl_some (P := okz) h (okz_up f4.2 f4.1)
  rw [e6]
  refine X_aload_n (pc' := 97) dX6_archive_96 rfl rfl ?_
  refine Y_get (pc' := 100) dX6_archive_97 rfl FX6_16 (zlN hN (by decide)) (congrArg Prod.fst (sh151 ln)) (ct151_9 z6) ?_
  refine X_iload_n (pc' := 101) dX6_archive_100 rfl rfl ?_
  refine X_iconst (pc' := 102) dX6_archive_101 rfl ?_
  refine X_iadd (pc' := 103) dX6_archive_102 rfl ?_
  refine X_aload_n (pc' := 104) dX6_archive_103 rfl rfl ?_
  refine Y_get (pc' := 107) dX6_archive_104 rfl FX6_16 (zlN hN (by decide)) (congrArg Prod.fst (sh151 ln)) (ct151_9 z6) ?_
  refine X_iconst (pc' := 108) dX6_archive_107 rfl ?_
  refine Y_iald (pc' := 109) dX6_archive_108 rfl (zlN hN (by decide)) (sh154 ln) (by decide) ⟨by decide, by decide⟩ ?_
  obtain ⟨g7, h⟩ := gs h
  refine Y_iast (pc' := 110) dX6_archive_109 rfl (zlN hN (by decide)) (sh154 ln) (by decide) g7 ?_
  obtain ⟨z8, e8, hz8, h⟩ := zl_some (P := okz) h (okz_up hz6 (hz6 154 (3) (by decide)))
  rw [e8]
  refine X_aload_n (pc' := 111) dX6_archive_110 rfl rfl ?_
  refine Y_get (pc' := 114) dX6_archive_111 rfl FX6_16 (zlN hN (by decide)) (congrArg Prod.fst (sh151 ln)) (ct151_9 z8) ?_
  refine X_iload_n (pc' := 115) dX6_archive_114 rfl rfl ?_
  refine X_iconst (pc' := 116) dX6_archive_115 rfl ?_
  refine X_iadd (pc' := 117) dX6_archive_116 rfl ?_
  refine X_aload_n (pc' := 118) dX6_archive_117 rfl rfl ?_
  refine X_iload_n (pc' := 119) dX6_archive_118 rfl rfl ?_
  refine X_iconst (pc' := 120) dX6_archive_119 rfl ?_
  obtain ⟨r9, q9, h⟩ := bs h
  refine Y_callV [.int (iN (v1)), .int (iN (4))] (pc' := 123) dX6_archive_120 rfl VX6_163 (by decide) (zlN hN (by decide)) (congrArg Prod.fst (sh151 ln)) rfl rfl rfl (cs rfl) (cs rfl) rfl (CX6_routePart hN hz8 rv1 (inR_c (n := 4) rfl) q9) (Nat.zero_add _).symm (Nat.zero_add _).symm (fun f9 => ?_)
  obtain ⟨g10, h⟩ := gs h
  refine Y_iast (pc' := 124) dX6_archive_123 rfl (zlN hN (by decide)) (sh154 ln) (by decide) g10 ?_
  obtain ⟨z11, e11, hz11, h⟩ := zl_some (P := okz) h (okz_up hz8 f9)
  rw [e11]
  refine X_aload_n (pc' := 125) dX6_archive_124 rfl rfl ?_
  refine Y_get (pc' := 128) dX6_archive_125 rfl FX6_16 (zlN hN (by decide)) (congrArg Prod.fst (sh151 ln)) (ct151_9 z11) ?_
  refine X_sipush (pc' := 131) dX6_archive_128 rfl (by decide) ?_
  refine X_dup2 (pc' := 132) dX6_archive_131 rfl rfl rfl ?_
  refine Y_iald (pc' := 133) dX6_archive_132 rfl (zlN hN (by decide)) (sh154 ln) (by decide) ⟨by decide, by decide⟩ ?_
  refine X_iconst (pc' := 134) dX6_archive_133 rfl ?_
  refine X_iadd (pc' := 135) dX6_archive_134 rfl ?_
  obtain ⟨g12, h⟩ := gs h
  refine Y_iast (pc' := 136) dX6_archive_135 rfl (zlN hN (by decide)) (sh154 ln) (by decide) ⟨by decide, by decide⟩ ?_
  obtain ⟨z13, e13, hz13, h⟩ := zl_some (P := okz) h (okz_up hz11 g12)
  rw [e13]
  cases h
  exact X_vret dX6_archive_136 rfl (k hz13)
def fX6_archive_s17 (v1 : Int) (v2 : Int) (z : ZZ) : Option ((Int × ZZ) ⊕ (ZZ)) := (if (v2) < (761) then (if (0 : Int) ≤ ((v2 + 4)) ∧ ((v2 + 4)) < (765 : Int) then (if (0 : Int) ≤ (v2) ∧ (v2) < (765 : Int) then (zl (zup z 154 (v2) ((z 154 ((v2 + 4))))) fun z4 => (if inR ((v2 + 1)) then some (.inl ((v2 + 1), z4)) else none)) else none) else none) else some (.inr z))
set_option maxRecDepth 100000 in
theorem SX6_archive_17 {ln N : Nat} {z : ZZ} {v1 : Int} {v2 : Int} {c9 s9 : Nat} {Φ : xRes → xS → Prop} (hN : 159 ≤ N ∧ N < 999999) (hz : okz z) (rv1 : inR v1) (rv2 : inR v2) {p : (Int × ZZ) ⊕ (ZZ)} (h : fX6_archive_s17 v1 v2 z = some p) (k1 : ∀ (v2' : Int) (z' : ZZ), p = .inl (v2', z') → inR v2' → okz z' → X mX6_archive 17 [some (.ref (151)), some (.int (iN (v1))), some (.int (iN (v2')))] [] (zmk ln N z') c9 s9 Φ) (k2 : ∀ (z' : ZZ), p = .inr z' → okz z' → X mX6_archive 44 [some (.ref (151)), some (.int (iN (v1))), none] [] (zmk ln N z') c9 s9 Φ) : X mX6_archive 17 [some (.ref (151)), some (.int (iN (v1))), some (.int (iN (v2)))] [] (zmk ln N z) c9 s9 Φ := by
  unfold fX6_archive_s17 at h
  refine X_iload_n (pc' := 18) dX6_archive_17 rfl rfl ?_
  refine X_sipush (pc' := 21) dX6_archive_18 rfl (by decide) ?_
  refine X_icmp_ge dX6_archive_21 (tgt := 44) rfl (pc' := 24) rfl ⟨rv2.1, rv2.2, (inR_c (n := 761) rfl).1, (inR_c (n := 761) rfl).2⟩ (fun c1 => ?_) (fun c1 => ?_)
  · have h := if_f (Int.not_lt.mpr c1) h
    cases h
    exact X_sub (sub_s (sub_s (sub_n sub_0))) (k2 _ rfl hz)
  have h := if_t c1 h
  refine X_aload_n (pc' := 25) dX6_archive_24 rfl rfl ?_
  refine Y_get (pc' := 28) dX6_archive_25 rfl FX6_16 (zlN hN (by decide)) (congrArg Prod.fst (sh151 ln)) (ct151_9 z) ?_
  refine X_iload_n (pc' := 29) dX6_archive_28 rfl rfl ?_
  refine X_aload_n (pc' := 30) dX6_archive_29 rfl rfl ?_
  refine Y_get (pc' := 33) dX6_archive_30 rfl FX6_16 (zlN hN (by decide)) (congrArg Prod.fst (sh151 ln)) (ct151_9 z) ?_
  refine X_iload_n (pc' := 34) dX6_archive_33 rfl rfl ?_
  refine X_iconst (pc' := 35) dX6_archive_34 rfl ?_
  refine X_iadd (pc' := 36) dX6_archive_35 rfl ?_
  obtain ⟨g2, h⟩ := gs h
  refine Y_iald (pc' := 37) dX6_archive_36 rfl (zlN hN (by decide)) (sh154 ln) (by decide) g2 ?_
  obtain ⟨g3, h⟩ := gs h
  refine Y_iast (pc' := 38) dX6_archive_37 rfl (zlN hN (by decide)) (sh154 ln) (by decide) g3 ?_
  obtain ⟨z4, e4, hz4, h⟩ := zl_some (P := okz) h (okz_up hz (hz 154 ((v2 + 4)) (by decide)))
  rw [e4]
  refine X_iinc (pc' := 41) dX6_archive_38 rfl rfl (Or.inr rfl) (L' := [some (.ref (151)), some (.int (iN (v1))), some (.int (iN (v2 + 1)))]) rfl ?_
  refine X_goto dX6_archive_41 (tgt := 17) rfl ?_
  obtain ⟨g5, h⟩ := gs h
  cases h
  exact X_sub (sub_s (sub_s (sub_s sub_0))) (k1 _ _ rfl g5 hz4)
theorem LX6_archive_17 {ln N : Nat} {v1 : Int} {c9 s9 : Nat} {Φ : xRes → xS → Prop} (hN : 159 ≤ N ∧ N < 999999) (rv1 : inR v1) {r : ZZ} (k2 : ∀ (z' : ZZ), r = z' → okz z' → X mX6_archive 44 [some (.ref (151)), some (.int (iN (v1))), none] [] (zmk ln N z') c9 s9 Φ) : ∀ (n : Nat) (v2 : Int) (z : ZZ), inR v2 → okz z → zlp (fun q => fX6_archive_s17 v1 q.1 q.2) n (v2, z) = some r → X mX6_archive 17 [some (.ref (151)), some (.int (iN (v1))), some (.int (iN (v2)))] [] (zmk ln N z) c9 s9 Φ := by
  intro n
  induction n with
  | zero => intro v2 z rv2 hz h; cases h
  | succ n ih =>
    intro v2 z rv2 hz h
    rcases zlp_s h with ⟨⟨v2', z'⟩, e, h'⟩ | e
    · exact SX6_archive_17 hN hz rv1 rv2 e (fun v2₁ z₁ hh f0 f1 => by cases hh; exact ih _ _ f0 f1 h') (fun z₁ hh f0 => by cases hh)
    · exact SX6_archive_17 hN hz rv1 rv2 e (fun v2₁ z₁ hh f0 f1 => by cases hh) (fun z₁ hh f0 => by cases hh; exact k2 _ rfl f0)
def fX6_archive (v1 : Int) (z : ZZ) : Option (ZZ) := (if ((z 154 (644))) = (30) then (Option.bind (zlp (fun q => fX6_archive_s17 (v1) q.1 q.2) FU (645, z)) fun x2_z => (if inR (((x2_z 154 (644)) - 1)) then (zl (zup x2_z 154 (644) (((x2_z 154 (644)) - 1))) fun z4 => fX6_archive_b56 (v1) z4) else none)) else fX6_archive_b56 (v1) z)
set_option maxRecDepth 100000 in
theorem CX6_archive {ln N : Nat} {z : ZZ} {v1 : Int} (hN : 159 ≤ N ∧ N < 999999) (hz : okz z) (rv1 : inR v1) {p : ZZ} (h : fX6_archive v1 z = some p) : X mX6_archive 0 (xEnt [.ref (151), .int (iN (v1))] (xL mX6_archive)) [] (zmk ln N z) (cc_w p) (6 * cc_w p) (Qd (fa_w p) (rs_w p) (st_w ln N p)) := by
  have k : Fin_w (Qd (fa_w p) (rs_w p) (st_w ln N p)) ln N p := Fin_w_i
  unfold fX6_archive at h
  refine X_to (M := [some (.ref (151)), some (.int (iN (v1))), none]) (su := []) rfl rfl ?_
  refine X_aload_n (pc' := 1) dX6_archive_0 rfl rfl ?_
  refine Y_get (pc' := 4) dX6_archive_1 rfl FX6_16 (zlN hN (by decide)) (congrArg Prod.fst (sh151 ln)) (ct151_9 z) ?_
  refine X_sipush (pc' := 7) dX6_archive_4 rfl (by decide) ?_
  refine Y_iald (pc' := 8) dX6_archive_7 rfl (zlN hN (by decide)) (sh154 ln) (by decide) ⟨by decide, by decide⟩ ?_
  refine X_bipush (pc' := 10) dX6_archive_8 rfl (by decide) ?_
  refine X_icmp_ne dX6_archive_10 (tgt := 56) rfl (pc' := 13) rfl ⟨(hz 154 (644) (by decide)).1, (hz 154 (644) (by decide)).2, (inR_c (n := 30) rfl).1, (inR_c (n := 30) rfl).2⟩ (fun c1 => ?_) (fun c1 => ?_)
  · have h := if_f c1 h
    exact X_sub (sub_s (sub_s (sub_n sub_0))) (BX6_archive_56 hN hz rv1 h k)
  have h := if_t c1 h
  refine X_sipush (pc' := 16) dX6_archive_13 rfl (by decide) ?_
  refine X_istore_n (pc' := 17) dX6_archive_16 rfl (cl rfl) (Or.inr rfl) (L' := [some (.ref (151)), some (.int (iN (v1))), some (.int (iN (645)))]) rfl ?_
  obtain ⟨x2_z, q2, h⟩ := bs h
  refine X_sub (sub_s (sub_s (sub_s sub_0))) (LX6_archive_17 hN rv1 (fun x2_z₁ hh hx2_z => ?_) FU _ _ (inR_c (n := 645) rfl) hz q2)
  cases hh
  refine X_aload_n (pc' := 45) dX6_archive_44 rfl rfl ?_
  refine Y_get (pc' := 48) dX6_archive_45 rfl FX6_16 (zlN hN (by decide)) (congrArg Prod.fst (sh151 ln)) (ct151_9 x2_z) ?_
  refine X_sipush (pc' := 51) dX6_archive_48 rfl (by decide) ?_
  refine X_dup2 (pc' := 52) dX6_archive_51 rfl rfl rfl ?_
  refine Y_iald (pc' := 53) dX6_archive_52 rfl (zlN hN (by decide)) (sh154 ln) (by decide) ⟨by decide, by decide⟩ ?_
  refine X_iconst (pc' := 54) dX6_archive_53 rfl ?_
  refine X_isub (pc' := 55) dX6_archive_54 rfl ?_
  obtain ⟨g3, h⟩ := gs h
  refine Y_iast (pc' := 56) dX6_archive_55 rfl (zlN hN (by decide)) (sh154 ln) (by decide) ⟨by decide, by decide⟩ ?_
  obtain ⟨z4, e4, hz4, h⟩ := zl_some (P := okz) h (okz_up hx2_z g3)
  rw [e4]
  exact X_sub (sub_s (sub_s (sub_n sub_0))) (BX6_archive_56 hN hz4 rv1 h k)
def fX6_archived (v1 : Int) (v2 : Int) (z : ZZ) : Option (Int × ZZ) := (zl (zup z 151 0 (0)) fun z1 => (if inR (((z1 154 (644)) - 1)) then (Option.bind (fX6_in (v1) (0) (((z1 154 (644)) - 1)) z1) fun r3 => (Option.bind (fX6_fails (r3) (1) z1) fun q4 => match q4 with | (r4, z4) => (if (r4) = (0) then (Option.bind (fX6_in (v2) (0) (3) z4) fun r6 => (Option.bind (fX6_fails (r6) (2) z4) fun q7 => match q7 with | (r7, z7) => (if (r7) = (0) then (if (0 : Int) ≤ (((645 + (4 * v1)) + v2)) ∧ (((645 + (4 * v1)) + v2)) < (765 : Int) then some ((z7 154 (((645 + (4 * v1)) + v2))), z7) else none) else some (0, z7)))) else some (0, z4)))) else none))
set_option maxRecDepth 100000 in
theorem CX6_archived {ln N : Nat} {z : ZZ} {v1 : Int} {v2 : Int} (hN : 159 ≤ N ∧ N < 999999) (hz : okz z) (rv1 : inR v1) (rv2 : inR v2) {p : Int × ZZ} (h : fX6_archived v1 v2 z = some p) : X mX6_archived 0 (xEnt [.ref (151), .int (iN (v1)), .int (iN (v2))] (xL mX6_archived)) [] (zmk ln N z) (cc_wi p) (6 * cc_wi p) (Qd (fa_wi p) (rs_wi p) (st_wi ln N p)) := by
  have k : Fin_wi (Qd (fa_wi p) (rs_wi p) (st_wi ln N p)) ln N p := Fin_wi_i
  unfold fX6_archived at h
  refine X_to (M := [some (.ref (151)), some (.int (iN (v1))), some (.int (iN (v2)))]) (su := []) rfl rfl ?_
  refine X_aload_n (pc' := 1) dX6_archived_0 rfl rfl ?_
  refine X_iconst (pc' := 2) dX6_archived_1 rfl ?_
  refine Y_put (k := 0) (j := 0) (v := 0) (pc' := 5) dX6_archived_2 rfl FX6_51 (zlN hN (by decide)) (congrArg Prod.fst (sh151 ln)) (fun r hr => by cases hr; rfl) (xFit_int _) rfl rfl ?_
  obtain ⟨z1, e1, hz1, h⟩ := zl_some (P := okz) h (okz_up hz (inR_c (n := 0) rfl))
  rw [e1]
  refine X_aload_n (pc' := 6) dX6_archived_5 rfl rfl ?_
  refine X_iload_n (pc' := 7) dX6_archived_6 rfl rfl ?_
  refine X_lI_i2l (pc' := 8) dX6_archived_7 rfl rv1 ?_
  refine X_lI_const (pc' := 9) dX6_archived_8 rfl (a := 0) rfl ?_
  refine X_aload_n (pc' := 10) dX6_archived_9 rfl rfl ?_
  refine Y_get (pc' := 13) dX6_archived_10 rfl FX6_16 (zlN hN (by decide)) (congrArg Prod.fst (sh151 ln)) (ct151_9 z1) ?_
  refine X_sipush (pc' := 16) dX6_archived_13 rfl (by decide) ?_
  refine Y_iald (pc' := 17) dX6_archived_16 rfl (zlN hN (by decide)) (sh154 ln) (by decide) ⟨by decide, by decide⟩ ?_
  refine X_iconst (pc' := 18) dX6_archived_17 rfl ?_
  refine X_isub (pc' := 19) dX6_archived_18 rfl ?_
  obtain ⟨g2, h⟩ := gs h
  refine X_lI_i2l (pc' := 20) dX6_archived_19 rfl g2 ?_
  obtain ⟨r3, q3, h⟩ := bs h
  refine Y_callS [.long (lI (v1)), .long (lI (0)), .long (lI (((z1 154 (644)) - 1)))] (pc' := 23) dX6_archived_20 rfl SX6_66 (by decide) rfl (cs rfl) (cs rfl) rfl (CX6_in hN hz1 (inL_R rv1) (inL_c (n := 0) rfl) (inL_R g2) q3) (Nat.zero_add _).symm (Nat.zero_add _).symm (fun f3 => ?_)
  refine X_iconst (pc' := 24) dX6_archived_23 rfl ?_
  obtain ⟨⟨r4, z4⟩, q4, h⟩ := bs h
  refine Y_callV [.int (iN (r3)), .int (iN (1))] (pc' := 27) dX6_archived_24 rfl VX6_62 (by decide) (zlN hN (by decide)) (congrArg Prod.fst (sh151 ln)) rfl rfl rfl (cs rfl) (cs rfl) rfl (CX6_fails hN hz1 (inR_b f3) (inR_c (n := 1) rfl) q4) (Nat.zero_add _).symm (Nat.zero_add _).symm (fun f4 => ?_)
  refine X_if_ne dX6_archived_27 (tgt := 47) rfl (pc' := 30) rfl (inR_b f4.1) (fun c5 => ?_) (fun c5 => ?_)
  · have h := if_f c5 h
    refine X_iconst (pc' := 48) dX6_archived_47 rfl ?_
    cases h
    exact X_iret dX6_archived_48 rfl (k ⟨(inR_c (n := 0) rfl), f4.2⟩)
  have h := if_t c5 h
  refine X_aload_n (pc' := 31) dX6_archived_30 rfl rfl ?_
  refine X_iload_n (pc' := 32) dX6_archived_31 rfl rfl ?_
  refine X_lI_i2l (pc' := 33) dX6_archived_32 rfl rv2 ?_
  refine X_lI_const (pc' := 34) dX6_archived_33 rfl (a := 0) rfl ?_
  refine X_ldc2 (pc' := 37) dX6_archived_34 rfl tq1544 (n := 3) rfl ?_
  obtain ⟨r6, q6, h⟩ := bs h
  refine Y_callS [.long (lI (v2)), .long (lI (0)), .long (lI (3))] (pc' := 40) dX6_archived_37 rfl SX6_66 (by decide) rfl (cs rfl) (cs rfl) rfl (CX6_in hN f4.2 (inL_R rv2) (inL_c (n := 0) rfl) (inL_c (n := 3) rfl) q6) (Nat.zero_add _).symm (Nat.zero_add _).symm (fun f6 => ?_)
  refine X_iconst (pc' := 41) dX6_archived_40 rfl ?_
  obtain ⟨⟨r7, z7⟩, q7, h⟩ := bs h
  refine Y_callV [.int (iN (r6)), .int (iN (2))] (pc' := 44) dX6_archived_41 rfl VX6_62 (by decide) (zlN hN (by decide)) (congrArg Prod.fst (sh151 ln)) rfl rfl rfl (cs rfl) (cs rfl) rfl (CX6_fails hN f4.2 (inR_b f6) (inR_c (n := 2) rfl) q7) (Nat.zero_add _).symm (Nat.zero_add _).symm (fun f7 => ?_)
  refine X_if_eq dX6_archived_44 (tgt := 49) rfl (pc' := 47) rfl (inR_b f7.1) (fun c8 => ?_) (fun c8 => ?_)
  · have h := if_t c8 h
    refine X_aload_n (pc' := 50) dX6_archived_49 rfl rfl ?_
    refine Y_get (pc' := 53) dX6_archived_50 rfl FX6_16 (zlN hN (by decide)) (congrArg Prod.fst (sh151 ln)) (ct151_9 z7) ?_
    refine X_sipush (pc' := 56) dX6_archived_53 rfl (by decide) ?_
    refine X_iconst (pc' := 57) dX6_archived_56 rfl ?_
    refine X_iload_n (pc' := 58) dX6_archived_57 rfl rfl ?_
    refine X_imul (pc' := 59) dX6_archived_58 rfl ?_
    refine X_iadd (pc' := 60) dX6_archived_59 rfl ?_
    refine X_iload_n (pc' := 61) dX6_archived_60 rfl rfl ?_
    refine X_iadd (pc' := 62) dX6_archived_61 rfl ?_
    obtain ⟨g9, h⟩ := gs h
    refine Y_iald (pc' := 63) dX6_archived_62 rfl (zlN hN (by decide)) (sh154 ln) (by decide) g9 ?_
    cases h
    exact X_iret dX6_archived_63 rfl (k ⟨(f7.2 154 (((645 + (4 * v1)) + v2)) (by decide)), f7.2⟩)
  have h := if_f c8 h
  refine X_iconst (pc' := 48) dX6_archived_47 rfl ?_
  cases h
  exact X_iret dX6_archived_48 rfl (k ⟨(inR_c (n := 0) rfl), f7.2⟩)
def fX6_averageGrade_s34 (v1 : Int) (v2 : Int) (z : ZZ) : Option ((Int × Int × ZZ) ⊕ (Int × ZZ)) := (if (v2) < ((z 154 (37))) then (Option.bind (fX6_gradeOf (v2) z) fun q2 => match q2 with | (r2, z2) => (if inR ((v1 + r2)) then (if inR ((v2 + 1)) then some (.inl ((v1 + r2), (v2 + 1), z2)) else none) else none)) else some (.inr (v1, z)))
set_option maxRecDepth 100000 in
theorem SX6_averageGrade_34 {ln N : Nat} {z : ZZ} {v1 : Int} {v2 : Int} {c9 s9 : Nat} {Φ : xRes → xS → Prop} (hN : 159 ≤ N ∧ N < 999999) (hz : okz z) (rv1 : inR v1) (rv2 : inR v2) {p : (Int × Int × ZZ) ⊕ (Int × ZZ)} (h : fX6_averageGrade_s34 v1 v2 z = some p) (k1 : ∀ (v1' : Int) (v2' : Int) (z' : ZZ), p = .inl (v1', v2', z') → inR v1' → inR v2' → okz z' → X mX6_averageGrade 34 [some (.ref (151)), some (.int (iN (v1'))), some (.int (iN (v2')))] [] (zmk ln N z') c9 s9 Φ) (k2 : ∀ (v1' : Int) (z' : ZZ), p = .inr (v1', z') → inR v1' → okz z' → X mX6_averageGrade 59 [some (.ref (151)), some (.int (iN (v1'))), none] [] (zmk ln N z') c9 s9 Φ) : X mX6_averageGrade 34 [some (.ref (151)), some (.int (iN (v1))), some (.int (iN (v2)))] [] (zmk ln N z) c9 s9 Φ := by
  unfold fX6_averageGrade_s34 at h
  refine X_iload_n (pc' := 35) dX6_averageGrade_34 rfl rfl ?_
  refine X_aload_n (pc' := 36) dX6_averageGrade_35 rfl rfl ?_
  refine Y_get (pc' := 39) dX6_averageGrade_36 rfl FX6_16 (zlN hN (by decide)) (congrArg Prod.fst (sh151 ln)) (ct151_9 z) ?_
  refine X_bipush (pc' := 41) dX6_averageGrade_39 rfl (by decide) ?_
  refine Y_iald (pc' := 42) dX6_averageGrade_41 rfl (zlN hN (by decide)) (sh154 ln) (by decide) ⟨by decide, by decide⟩ ?_
  refine X_icmp_ge dX6_averageGrade_42 (tgt := 59) rfl (pc' := 45) rfl ⟨rv2.1, rv2.2, (hz 154 (37) (by decide)).1, (hz 154 (37) (by decide)).2⟩ (fun c1 => ?_) (fun c1 => ?_)
  · have h := if_f (Int.not_lt.mpr c1) h
    cases h
    exact X_sub (sub_s (sub_s (sub_n sub_0))) (k2 _ _ rfl rv1 hz)
  have h := if_t c1 h
  refine X_iload_n (pc' := 46) dX6_averageGrade_45 rfl rfl ?_
  refine X_aload_n (pc' := 47) dX6_averageGrade_46 rfl rfl ?_
  refine X_iload_n (pc' := 48) dX6_averageGrade_47 rfl rfl ?_
  obtain ⟨⟨r2, z2⟩, q2, h⟩ := bs h
  refine Y_callV [.int (iN (v2))] (pc' := 51) dX6_averageGrade_48 rfl VX6_232 (by decide) (zlN hN (by decide)) (congrArg Prod.fst (sh151 ln)) rfl rfl rfl (cs rfl) (cs rfl) rfl (CX6_gradeOf hN hz rv2 q2) (Nat.zero_add _).symm (Nat.zero_add _).symm (fun f2 => ?_)
  refine X_iadd (pc' := 52) dX6_averageGrade_51 rfl ?_
  refine X_istore_n (pc' := 53) dX6_averageGrade_52 rfl (cl rfl) (Or.inr rfl) (L' := [some (.ref (151)), some (.int (iN ((v1 + r2)))), some (.int (iN (v2)))]) rfl ?_
  refine X_iinc (pc' := 56) dX6_averageGrade_53 rfl rfl (Or.inr rfl) (L' := [some (.ref (151)), some (.int (iN ((v1 + r2)))), some (.int (iN (v2 + 1)))]) rfl ?_
  refine X_goto dX6_averageGrade_56 (tgt := 34) rfl ?_
  obtain ⟨g3, h⟩ := gs h
  obtain ⟨g4, h⟩ := gs h
  cases h
  exact X_sub (sub_s (sub_s (sub_s sub_0))) (k1 _ _ _ rfl g3 g4 f2.2)
theorem LX6_averageGrade_34 {ln N : Nat} {c9 s9 : Nat} {Φ : xRes → xS → Prop} (hN : 159 ≤ N ∧ N < 999999) {r : Int × ZZ} (k2 : ∀ (v1' : Int) (z' : ZZ), r = (v1', z') → inR v1' → okz z' → X mX6_averageGrade 59 [some (.ref (151)), some (.int (iN (v1'))), none] [] (zmk ln N z') c9 s9 Φ) : ∀ (n : Nat) (v1 : Int) (v2 : Int) (z : ZZ), inR v1 → inR v2 → okz z → zlp (fun q => fX6_averageGrade_s34 q.1 q.2.1 q.2.2) n (v1, v2, z) = some r → X mX6_averageGrade 34 [some (.ref (151)), some (.int (iN (v1))), some (.int (iN (v2)))] [] (zmk ln N z) c9 s9 Φ := by
  intro n
  induction n with
  | zero => intro v1 v2 z rv1 rv2 hz h; cases h
  | succ n ih =>
    intro v1 v2 z rv1 rv2 hz h
    rcases zlp_s h with ⟨⟨v1', v2', z'⟩, e, h'⟩ | e
    · exact SX6_averageGrade_34 hN hz rv1 rv2 e (fun v1₁ v2₁ z₁ hh f0 f1 f2 => by cases hh; exact ih _ _ _ f0 f1 f2 h') (fun v1₁ z₁ hh f0 f1 => by cases hh)
    · exact SX6_averageGrade_34 hN hz rv1 rv2 e (fun v1₁ v2₁ z₁ hh f0 f1 f2 => by cases hh) (fun v1₁ z₁ hh f0 f1 => by cases hh; exact k2 _ _ rfl f0 f1)
def fX6_averageGrade_b21 (s1 : Int) (z : ZZ) : Option (UInt64 × ZZ) := (Option.bind (fX6_fails (s1) (1) z) fun q1 => match q1 with | (r1, z1) => (if (r1) = (0) then (Option.bind (zlp (fun q => fX6_averageGrade_s34 q.1 q.2.1 q.2.2) FU (0, 0, z1)) fun q3 => match q3 with | (x3_v1, x3_z) => (if zn64 (FP.ddiv (FP.i2d (iN (x3_v1))) (FP.i2d (iN ((x3_z 154 (37)))))) then some ((FP.ddiv (FP.i2d (iN (x3_v1))) (FP.i2d (iN ((x3_z 154 (37)))))), x3_z) else none)) else some (0, z1)))
set_option maxRecDepth 100000 in
theorem BX6_averageGrade_21 {ln N : Nat} {z : ZZ} {s1 : Int} {c9 s9 : Nat} {Φ : xRes → xS → Prop} (hN : 159 ≤ N ∧ N < 999999) (hz : okz z) (rs1 : inR s1) {p : UInt64 × ZZ} (h : fX6_averageGrade_b21 s1 z = some p) (k : Fin_wd Φ ln N p) : X mX6_averageGrade 21 [some (.ref (151)), none, none] [.int (iN (s1)), .ref (151)] (zmk ln N z) c9 s9 Φ := by
  unfold fX6_averageGrade_b21 at h
  refine X_iconst (pc' := 22) dX6_averageGrade_21 rfl ?_
  obtain ⟨⟨r1, z1⟩, q1, h⟩ := bs h
  refine Y_callV [.int (iN (s1)), .int (iN (1))] (pc' := 25) dX6_averageGrade_22 rfl VX6_62 (by decide) (zlN hN (by decide)) (congrArg Prod.fst (sh151 ln)) rfl rfl rfl (cs rfl) (cs rfl) rfl (CX6_fails hN hz rs1 (inR_c (n := 1) rfl) q1) (Nat.zero_add _).symm (Nat.zero_add _).symm (fun f1 => ?_)
  refine X_if_eq dX6_averageGrade_25 (tgt := 30) rfl (pc' := 28) rfl (inR_b f1.1) (fun c2 => ?_) (fun c2 => ?_)
  · have h := if_t c2 h
    refine X_iconst (pc' := 31) dX6_averageGrade_30 rfl ?_
    refine X_istore_n (pc' := 32) dX6_averageGrade_31 rfl (cl rfl) (Or.inr rfl) (L' := [some (.ref (151)), some (.int (iN (0))), none]) rfl ?_
    refine X_iconst (pc' := 33) dX6_averageGrade_32 rfl ?_
    refine X_istore_n (pc' := 34) dX6_averageGrade_33 rfl (cl rfl) (Or.inr rfl) (L' := [some (.ref (151)), some (.int (iN (0))), some (.int (iN (0)))]) rfl ?_
    obtain ⟨⟨x3_v1, x3_z⟩, q3, h⟩ := bs h
    refine X_sub (sub_s (sub_s (sub_s sub_0))) (LX6_averageGrade_34 hN (fun x3_v1₁ x3_z₁ hh rx3_v1 hx3_z => ?_) FU _ _ _ (inR_c (n := 0) rfl) (inR_c (n := 0) rfl) f1.2 q3)
    cases hh
    refine X_iload_n (pc' := 60) dX6_averageGrade_59 rfl rfl ?_
    refine X_i2d (pc' := 61) dX6_averageGrade_60 rfl ?_
    refine X_aload_n (pc' := 62) dX6_averageGrade_61 rfl rfl ?_
    refine Y_get (pc' := 65) dX6_averageGrade_62 rfl FX6_16 (zlN hN (by decide)) (congrArg Prod.fst (sh151 ln)) (ct151_9 x3_z) ?_
    refine X_bipush (pc' := 67) dX6_averageGrade_65 rfl (by decide) ?_
    refine Y_iald (pc' := 68) dX6_averageGrade_67 rfl (zlN hN (by decide)) (sh154 ln) (by decide) ⟨by decide, by decide⟩ ?_
    refine X_i2d (pc' := 69) dX6_averageGrade_68 rfl ?_
    obtain ⟨g4, h⟩ := gs h
    refine X_ddiv (pc' := 70) dX6_averageGrade_69 rfl (zn64_ok g4) ?_
    cases h
    exact X_dret dX6_averageGrade_70 rfl (k hx3_z)
  have h := if_f c2 h
  refine X_dconst0 (pc' := 29) dX6_averageGrade_28 rfl ?_
  cases h
  exact X_dret dX6_averageGrade_29 rfl (k f1.2)
def fX6_averageGrade (z : ZZ) : Option (UInt64 × ZZ) := (zl (zup z 151 0 (0)) fun z1 => (if (0) < ((z1 154 (37))) then fX6_averageGrade_b21 (1) z1 else fX6_averageGrade_b21 (0) z1))
set_option maxRecDepth 100000 in
theorem CX6_averageGrade {ln N : Nat} {z : ZZ} (hN : 159 ≤ N ∧ N < 999999) (hz : okz z) {p : UInt64 × ZZ} (h : fX6_averageGrade z = some p) : X mX6_averageGrade 0 (xEnt [.ref (151)] (xL mX6_averageGrade)) [] (zmk ln N z) (cc_wd p) (6 * cc_wd p) (Qd (fa_wd p) (rs_wd p) (st_wd ln N p)) := by
  have k : Fin_wd (Qd (fa_wd p) (rs_wd p) (st_wd ln N p)) ln N p := Fin_wd_i
  unfold fX6_averageGrade at h
  refine X_to (M := [some (.ref (151)), none, none]) (su := []) rfl rfl ?_
  refine X_aload_n (pc' := 1) dX6_averageGrade_0 rfl rfl ?_
  refine X_iconst (pc' := 2) dX6_averageGrade_1 rfl ?_
  refine Y_put (k := 0) (j := 0) (v := 0) (pc' := 5) dX6_averageGrade_2 rfl FX6_51 (zlN hN (by decide)) (congrArg Prod.fst (sh151 ln)) (fun r hr => by cases hr; rfl) (xFit_int _) rfl rfl ?_
  obtain ⟨z1, e1, hz1, h⟩ := zl_some (P := okz) h (okz_up hz (inR_c (n := 0) rfl))
  rw [e1]
  refine X_aload_n (pc' := 6) dX6_averageGrade_5 rfl rfl ?_
  refine X_aload_n (pc' := 7) dX6_averageGrade_6 rfl rfl ?_
  refine Y_get (pc' := 10) dX6_averageGrade_7 rfl FX6_16 (zlN hN (by decide)) (congrArg Prod.fst (sh151 ln)) (ct151_9 z1) ?_
  refine X_bipush (pc' := 12) dX6_averageGrade_10 rfl (by decide) ?_
  refine Y_iald (pc' := 13) dX6_averageGrade_12 rfl (zlN hN (by decide)) (sh154 ln) (by decide) ⟨by decide, by decide⟩ ?_
  refine X_if_le dX6_averageGrade_13 (tgt := 20) rfl (pc' := 16) rfl (hz1 154 (37) (by decide)) (fun c2 => ?_) (fun c2 => ?_)
  · have h := if_f (Int.not_lt.mpr c2) h
    refine X_iconst (pc' := 21) dX6_averageGrade_20 rfl ?_
    exact X_sub (sub_s (sub_n (sub_n sub_0))) (BX6_averageGrade_21 hN hz1 (inR_c (n := 0) rfl) h k)
  have h := if_t c2 h
  refine X_iconst (pc' := 17) dX6_averageGrade_16 rfl ?_
  refine X_goto dX6_averageGrade_17 (tgt := 21) rfl ?_
  exact X_sub (sub_s (sub_n (sub_n sub_0))) (BX6_averageGrade_21 hN hz1 (inR_c (n := 1) rfl) h k)
def fX6_begin_s2 (v1 : Int) (z : ZZ) : Option ((Int × ZZ) ⊕ (ZZ)) := (if (v1) < (765) then (if (0 : Int) ≤ (v1) ∧ (v1) < (765 : Int) then (zl (zup z 153 (v1) (0)) fun z3 => (if inR ((v1 + 1)) then some (.inl ((v1 + 1), z3)) else none)) else none) else some (.inr z))
set_option maxRecDepth 100000 in
theorem SX6_begin_2 {ln N : Nat} {z : ZZ} {v1 : Int} {c9 s9 : Nat} {Φ : xRes → xS → Prop} (hN : 159 ≤ N ∧ N < 999999) (hz : okz z) (rv1 : inR v1) {p : (Int × ZZ) ⊕ (ZZ)} (h : fX6_begin_s2 v1 z = some p) (k1 : ∀ (v1' : Int) (z' : ZZ), p = .inl (v1', z') → inR v1' → okz z' → X mX6_begin 2 [some (.ref (151)), some (.int (iN (v1')))] [] (zmk ln N z') c9 s9 Φ) (k2 : ∀ (z' : ZZ), p = .inr z' → okz z' → X mX6_begin 22 [some (.ref (151)), none] [] (zmk ln N z') c9 s9 Φ) : X mX6_begin 2 [some (.ref (151)), some (.int (iN (v1)))] [] (zmk ln N z) c9 s9 Φ := by
  unfold fX6_begin_s2 at h
  refine X_iload_n (pc' := 3) dX6_begin_2 rfl rfl ?_
  refine X_sipush (pc' := 6) dX6_begin_3 rfl (by decide) ?_
  refine X_icmp_ge dX6_begin_6 (tgt := 22) rfl (pc' := 9) rfl ⟨rv1.1, rv1.2, (inR_c (n := 765) rfl).1, (inR_c (n := 765) rfl).2⟩ (fun c1 => ?_) (fun c1 => ?_)
  · have h := if_f (Int.not_lt.mpr c1) h
    cases h
    exact X_sub (sub_s (sub_n sub_0)) (k2 _ rfl hz)
  have h := if_t c1 h
  refine X_aload_n (pc' := 10) dX6_begin_9 rfl rfl ?_
  refine Y_get (pc' := 13) dX6_begin_10 rfl FX6_13 (zlN hN (by decide)) (congrArg Prod.fst (sh151 ln)) (ct151_8 z) ?_
  refine X_iload_n (pc' := 14) dX6_begin_13 rfl rfl ?_
  refine X_iconst (pc' := 15) dX6_begin_14 rfl ?_
  obtain ⟨g2, h⟩ := gs h
  refine Y_iast (pc' := 16) dX6_begin_15 rfl (zlN hN (by decide)) (sh153 ln) (by decide) g2 ?_
  obtain ⟨z3, e3, hz3, h⟩ := zl_some (P := okz) h (okz_up hz (inR_c (n := 0) rfl))
  rw [e3]
  refine X_iinc (pc' := 19) dX6_begin_16 rfl rfl (Or.inr rfl) (L' := [some (.ref (151)), some (.int (iN (v1 + 1)))]) rfl ?_
  refine X_goto dX6_begin_19 (tgt := 2) rfl ?_
  obtain ⟨g4, h⟩ := gs h
  cases h
  exact X_sub (sub_s (sub_s sub_0)) (k1 _ _ rfl g4 hz3)
theorem LX6_begin_2 {ln N : Nat} {c9 s9 : Nat} {Φ : xRes → xS → Prop} (hN : 159 ≤ N ∧ N < 999999) {r : ZZ} (k2 : ∀ (z' : ZZ), r = z' → okz z' → X mX6_begin 22 [some (.ref (151)), none] [] (zmk ln N z') c9 s9 Φ) : ∀ (n : Nat) (v1 : Int) (z : ZZ), inR v1 → okz z → zlp (fun q => fX6_begin_s2 q.1 q.2) n (v1, z) = some r → X mX6_begin 2 [some (.ref (151)), some (.int (iN (v1)))] [] (zmk ln N z) c9 s9 Φ := by
  intro n
  induction n with
  | zero => intro v1 z rv1 hz h; cases h
  | succ n ih =>
    intro v1 z rv1 hz h
    rcases zlp_s h with ⟨⟨v1', z'⟩, e, h'⟩ | e
    · exact SX6_begin_2 hN hz rv1 e (fun v1₁ z₁ hh f0 f1 => by cases hh; exact ih _ _ f0 f1 h') (fun z₁ hh f0 => by cases hh)
    · exact SX6_begin_2 hN hz rv1 e (fun v1₁ z₁ hh f0 f1 => by cases hh) (fun z₁ hh f0 => by cases hh; exact k2 _ rfl f0)
def fX6_begin (z : ZZ) : Option (ZZ) := (Option.bind (zlp (fun q => fX6_begin_s2 q.1 q.2) FU (0, z)) fun x1_z => (zl (zup x1_z 153 (0) (20)) fun z2 => (zl (zup z2 153 (1) (2)) fun z3 => (zl (zup z3 153 (2) (50)) fun z4 => (zl (zup z4 151 14 (0)) fun z5 => some z5)))))
set_option maxRecDepth 100000 in
theorem CX6_begin {ln N : Nat} {z : ZZ} (hN : 159 ≤ N ∧ N < 999999) (hz : okz z) {p : ZZ} (h : fX6_begin z = some p) : X mX6_begin 0 (xEnt [.ref (151)] (xL mX6_begin)) [] (zmk ln N z) (cc_w p) (6 * cc_w p) (Qd (fa_w p) (rs_w p) (st_w ln N p)) := by
  have k : Fin_w (Qd (fa_w p) (rs_w p) (st_w ln N p)) ln N p := Fin_w_i
  unfold fX6_begin at h
  refine X_to (M := [some (.ref (151)), none]) (su := []) rfl rfl ?_
  refine X_iconst (pc' := 1) dX6_begin_0 rfl ?_
  refine X_istore_n (pc' := 2) dX6_begin_1 rfl (cl rfl) (Or.inr rfl) (L' := [some (.ref (151)), some (.int (iN (0)))]) rfl ?_
  obtain ⟨x1_z, q1, h⟩ := bs h
  refine X_sub (sub_s (sub_s sub_0)) (LX6_begin_2 hN (fun x1_z₁ hh hx1_z => ?_) FU _ _ (inR_c (n := 0) rfl) hz q1)
  cases hh
  refine X_aload_n (pc' := 23) dX6_begin_22 rfl rfl ?_
  refine Y_get (pc' := 26) dX6_begin_23 rfl FX6_13 (zlN hN (by decide)) (congrArg Prod.fst (sh151 ln)) (ct151_8 x1_z) ?_
  refine X_iconst (pc' := 27) dX6_begin_26 rfl ?_
  refine X_bipush (pc' := 29) dX6_begin_27 rfl (by decide) ?_
  refine Y_iast (pc' := 30) dX6_begin_29 rfl (zlN hN (by decide)) (sh153 ln) (by decide) ⟨by decide, by decide⟩ ?_
  obtain ⟨z2, e2, hz2, h⟩ := zl_some (P := okz) h (okz_up hx1_z (inR_c (n := 20) rfl))
  rw [e2]
  refine X_aload_n (pc' := 31) dX6_begin_30 rfl rfl ?_
  refine Y_get (pc' := 34) dX6_begin_31 rfl FX6_13 (zlN hN (by decide)) (congrArg Prod.fst (sh151 ln)) (ct151_8 z2) ?_
  refine X_iconst (pc' := 35) dX6_begin_34 rfl ?_
  refine X_iconst (pc' := 36) dX6_begin_35 rfl ?_
  refine Y_iast (pc' := 37) dX6_begin_36 rfl (zlN hN (by decide)) (sh153 ln) (by decide) ⟨by decide, by decide⟩ ?_
  obtain ⟨z3, e3, hz3, h⟩ := zl_some (P := okz) h (okz_up hz2 (inR_c (n := 2) rfl))
  rw [e3]
  refine X_aload_n (pc' := 38) dX6_begin_37 rfl rfl ?_
  refine Y_get (pc' := 41) dX6_begin_38 rfl FX6_13 (zlN hN (by decide)) (congrArg Prod.fst (sh151 ln)) (ct151_8 z3) ?_
  refine X_iconst (pc' := 42) dX6_begin_41 rfl ?_
  refine X_bipush (pc' := 44) dX6_begin_42 rfl (by decide) ?_
  refine Y_iast (pc' := 45) dX6_begin_44 rfl (zlN hN (by decide)) (sh153 ln) (by decide) ⟨by decide, by decide⟩ ?_
  obtain ⟨z4, e4, hz4, h⟩ := zl_some (P := okz) h (okz_up hz3 (inR_c (n := 50) rfl))
  rw [e4]
  refine X_aload_n (pc' := 46) dX6_begin_45 rfl rfl ?_
  refine X_iconst (pc' := 47) dX6_begin_46 rfl ?_
  refine Y_put (k := 14) (j := 14) (v := 0) (pc' := 50) dX6_begin_47 rfl FX6_121 (zlN hN (by decide)) (congrArg Prod.fst (sh151 ln)) (fun r hr => by cases hr; rfl) (xFit_bool (Or.inl rfl)) rfl rfl ?_
  obtain ⟨z5, e5, hz5, h⟩ := zl_some (P := okz) h (okz_up hz4 (inR_b (Or.inl rfl)))
  rw [e5]
  cases h
  exact X_vret dX6_begin_50 rfl (k hz5)
def fX6_isGood (z : ZZ) : Option (Int) := (if ((z 151 7)) < (0) then some (1) else some (0))
set_option maxRecDepth 100000 in
theorem CX6_isGood {ln N : Nat} {z : ZZ} (hN : 159 ≤ N ∧ N < 999999) (hz : okz z) {p : Int} (h : fX6_isGood z = some p) : X mX6_isGood 0 (xEnt [.ref (151)] (xL mX6_isGood)) [] (zmk ln N z) (cc_b p) (6 * cc_b p) (Qd (fa_b p) (rs_b p) (st_b ln N z p)) := by
  have k : Fin_b (Qd (fa_b p) (rs_b p) (st_b ln N z p)) ln N z p := Fin_b_i
  unfold fX6_isGood at h
  refine X_to (M := [some (.ref (151))]) (su := []) rfl rfl ?_
  refine X_aload_n (pc' := 1) dX6_isGood_0 rfl rfl ?_
  refine Y_get (pc' := 4) dX6_isGood_1 rfl FX6_99 (zlN hN (by decide)) (congrArg Prod.fst (sh151 ln)) (ct151_7 z) ?_
  refine X_if_ge dX6_isGood_4 (tgt := 11) rfl (pc' := 7) rfl (hz 151 7 (by decide)) (fun c1 => ?_) (fun c1 => ?_)
  · have h := if_f (Int.not_lt.mpr c1) h
    refine X_iconst (pc' := 12) dX6_isGood_11 rfl ?_
    cases h
    exact X_zret dX6_isGood_12 rfl (Or.inl rfl) (k (Or.inl rfl))
  have h := if_t c1 h
  refine X_iconst (pc' := 8) dX6_isGood_7 rfl ?_
  refine X_goto dX6_isGood_8 (tgt := 12) rfl ?_
  cases h
  exact X_zret dX6_isGood_12 rfl (Or.inr rfl) (k (Or.inr rfl))
def fX6_isWord_b75 (w : Nat) (v3 : Int) (s0 : Int) (z : ZZ) : Option ((Int × Int) ⊕ (Int)) := (if inR ((v3 + 1)) then some (.inl (s0, (v3 + 1))) else none)
set_option maxRecDepth 100000 in
theorem BX6_isWord_75 {ln N : Nat} {z : ZZ} {w : Nat} {v3 : Int} {s0 : Int} {c9 s9 : Nat} {Φ : xRes → xS → Prop} (hN : 159 ≤ N ∧ N < 999999) (hz : okz z) (hw : isW w) (rv3 : inR v3) (rs0 : inR s0) {p : (Int × Int) ⊕ (Int)} (h : fX6_isWord_b75 w v3 s0 z = some p) (k1 : ∀ (v2' : Int) (v3' : Int), p = .inl (v2', v3') → inR v2' → inR v3' → X mX6_isWord 39 [some (.ref (151)), some (.ref (w)), some (.int (iN (v2'))), some (.int (iN (v3')))] [] (zmk ln N z) c9 s9 Φ) (k2 : ∀ (v2' : Int), p = .inr v2' → inR v2' → X mX6_isWord 82 [none, none, some (.int (iN (v2'))), none] [] (zmk ln N z) c9 s9 Φ) : X mX6_isWord 75 [some (.ref (151)), some (.ref (w)), none, some (.int (iN (v3)))] [.int (iN (s0))] (zmk ln N z) c9 s9 Φ := by
  unfold fX6_isWord_b75 at h
  refine X_istore_n (pc' := 76) dX6_isWord_75 rfl (cl rfl) (Or.inr rfl) (L' := [some (.ref (151)), some (.ref (w)), some (.int (iN (s0))), some (.int (iN (v3)))]) rfl ?_
  refine X_iinc (pc' := 79) dX6_isWord_76 rfl rfl (Or.inr rfl) (L' := [some (.ref (151)), some (.ref (w)), some (.int (iN (s0))), some (.int (iN (v3 + 1)))]) rfl ?_
  refine X_goto dX6_isWord_79 (tgt := 39) rfl ?_
  obtain ⟨g1, h⟩ := gs h
  cases h
  exact X_sub (sub_s (sub_s (sub_s (sub_s sub_0)))) (k1 _ _ rfl rs0 g1)
def fX6_isWord_s39 (w : Nat) (v2 : Int) (v3 : Int) (z : ZZ) : Option ((Int × Int) ⊕ (Int)) := (if (v2) = (0) then some (.inr v2) else (if (v3) < ((zlen w)) then (if (0 : Int) ≤ (((z 151 4) + v3)) ∧ (((z 151 4) + v3)) < (600 : Int) then (if (0 : Int) ≤ (v3) ∧ (v3) < (zlen w : Int) then (if ((z 152 (((z 151 4) + v3)))) = ((zKC (w + 100) (v3))) then fX6_isWord_b75 w (v3) (1) z else fX6_isWord_b75 w (v3) (0) z) else none) else none) else some (.inr v2)))
set_option maxRecDepth 100000 in
theorem SX6_isWord_39 {ln N : Nat} {z : ZZ} {w : Nat} {v2 : Int} {v3 : Int} {c9 s9 : Nat} {Φ : xRes → xS → Prop} (hN : 159 ≤ N ∧ N < 999999) (hz : okz z) (hw : isW w) (rv2 : inR v2) (rv3 : inR v3) {p : (Int × Int) ⊕ (Int)} (h : fX6_isWord_s39 w v2 v3 z = some p) (k1 : ∀ (v2' : Int) (v3' : Int), p = .inl (v2', v3') → inR v2' → inR v3' → X mX6_isWord 39 [some (.ref (151)), some (.ref (w)), some (.int (iN (v2'))), some (.int (iN (v3')))] [] (zmk ln N z) c9 s9 Φ) (k2 : ∀ (v2' : Int), p = .inr v2' → inR v2' → X mX6_isWord 82 [none, none, some (.int (iN (v2'))), none] [] (zmk ln N z) c9 s9 Φ) : X mX6_isWord 39 [some (.ref (151)), some (.ref (w)), some (.int (iN (v2))), some (.int (iN (v3)))] [] (zmk ln N z) c9 s9 Φ := by
  unfold fX6_isWord_s39 at h
  refine X_iload_n (pc' := 40) dX6_isWord_39 rfl rfl ?_
  refine X_if_eq dX6_isWord_40 (tgt := 82) rfl (pc' := 43) rfl rv2 (fun c1 => ?_) (fun c1 => ?_)
  · have h := if_t c1 h
    cases h
    exact X_sub (sub_n (sub_n (sub_s (sub_n sub_0)))) (k2 _ rfl rv2)
  have h := if_f c1 h
  refine X_iload_n (pc' := 44) dX6_isWord_43 rfl rfl ?_
  refine X_aload_n (pc' := 45) dX6_isWord_44 rfl rfl ?_
  refine Y_callW [] (pc' := 48) dX6_isWord_45 rfl VX6_106 (by decide) (isW_ge hw) (isW_sh hw ln) rfl rfl (cs rfl) (cs rfl) rfl (CJlen hw) (Nat.zero_add _).symm (Nat.zero_add _).symm (fun _ => ?_)
  refine X_icmp_ge dX6_isWord_48 (tgt := 82) rfl (pc' := 51) rfl ⟨rv3.1, rv3.2, (inR_len hw).1, (inR_len hw).2⟩ (fun c2 => ?_) (fun c2 => ?_)
  · have h := if_f (Int.not_lt.mpr c2) h
    cases h
    exact X_sub (sub_n (sub_n (sub_s (sub_n sub_0)))) (k2 _ rfl rv2)
  have h := if_t c2 h
  refine X_aload_n (pc' := 52) dX6_isWord_51 rfl rfl ?_
  refine Y_get (pc' := 55) dX6_isWord_52 rfl FX6_9 (zlN hN (by decide)) (congrArg Prod.fst (sh151 ln)) (ct151_1 z) ?_
  refine X_aload_n (pc' := 56) dX6_isWord_55 rfl rfl ?_
  refine Y_get (pc' := 59) dX6_isWord_56 rfl FX6_77 (zlN hN (by decide)) (congrArg Prod.fst (sh151 ln)) (ct151_4 z) ?_
  refine X_iload_n (pc' := 60) dX6_isWord_59 rfl rfl ?_
  refine X_iadd (pc' := 61) dX6_isWord_60 rfl ?_
  obtain ⟨g3, h⟩ := gs h
  refine Y_iald (pc' := 62) dX6_isWord_61 rfl (zlN hN (by decide)) (sh152 ln) (by decide) g3 ?_
  refine X_aload_n (pc' := 63) dX6_isWord_62 rfl rfl ?_
  refine X_iload_n (pc' := 64) dX6_isWord_63 rfl rfl ?_
  obtain ⟨g4, h⟩ := gs h
  refine Y_callW [.int (iN (v3))] (pc' := 67) dX6_isWord_64 rfl VX6_111 (by decide) (isW_ge hw) (isW_sh hw ln) rfl rfl (cs rfl) (cs rfl) rfl (CJchar hw g4) (Nat.zero_add _).symm (Nat.zero_add _).symm (fun _ => ?_)
  refine X_icmp_ne dX6_isWord_67 (tgt := 74) rfl (pc' := 70) rfl ⟨(hz 152 (((z 151 4) + v3)) (by decide)).1, (hz 152 (((z 151 4) + v3)) (by decide)).2, (inR_ch hw g4).1, (inR_ch hw g4).2⟩ (fun c5 => ?_) (fun c5 => ?_)
  · have h := if_f c5 h
    refine X_iconst (pc' := 75) dX6_isWord_74 rfl ?_
    exact X_sub (sub_s (sub_s (sub_n (sub_s sub_0)))) (BX6_isWord_75 hN hz hw rv3 (inR_c (n := 0) rfl) h k1 k2)
  have h := if_t c5 h
  refine X_iconst (pc' := 71) dX6_isWord_70 rfl ?_
  refine X_goto dX6_isWord_71 (tgt := 75) rfl ?_
  exact X_sub (sub_s (sub_s (sub_n (sub_s sub_0)))) (BX6_isWord_75 hN hz hw rv3 (inR_c (n := 1) rfl) h k1 k2)
theorem LX6_isWord_39 {ln N : Nat} {z : ZZ} {w : Nat} {c9 s9 : Nat} {Φ : xRes → xS → Prop} (hN : 159 ≤ N ∧ N < 999999) (hz : okz z) (hw : isW w) {r : Int} (k2 : ∀ (v2' : Int), r = v2' → inR v2' → X mX6_isWord 82 [none, none, some (.int (iN (v2'))), none] [] (zmk ln N z) c9 s9 Φ) : ∀ (n : Nat) (v2 : Int) (v3 : Int), inR v2 → inR v3 → zlp (fun q => fX6_isWord_s39 w q.1 q.2 z) n (v2, v3) = some r → X mX6_isWord 39 [some (.ref (151)), some (.ref (w)), some (.int (iN (v2))), some (.int (iN (v3)))] [] (zmk ln N z) c9 s9 Φ := by
  intro n
  induction n with
  | zero => intro v2 v3 rv2 rv3 h; cases h
  | succ n ih =>
    intro v2 v3 rv2 rv3 h
    rcases zlp_s h with ⟨⟨v2', v3'⟩, e, h'⟩ | e
    · exact SX6_isWord_39 hN hz hw rv2 rv3 e (fun v2₁ v3₁ hh f0 f1 => by cases hh; exact ih _ _ f0 f1 h') (fun v2₁ hh f0 => by cases hh)
    · exact SX6_isWord_39 hN hz hw rv2 rv3 e (fun v2₁ v3₁ hh f0 f1 => by cases hh) (fun v2₁ hh f0 => by cases hh; exact k2 _ rfl f0)
def fX6_isWord_b36 (w : Nat) (s0 : Int) (z : ZZ) : Option (Int) := (Option.bind (zlp (fun q => fX6_isWord_s39 w q.1 q.2 z) FU (s0, 0)) fun x1_v2 => (if (x1_v2) = 0 ∨ (x1_v2) = 1 then some (x1_v2) else none))
set_option maxRecDepth 100000 in
theorem BX6_isWord_36 {ln N : Nat} {z : ZZ} {w : Nat} {s0 : Int} {c9 s9 : Nat} {Φ : xRes → xS → Prop} (hN : 159 ≤ N ∧ N < 999999) (hz : okz z) (hw : isW w) (rs0 : inR s0) {p : Int} (h : fX6_isWord_b36 w s0 z = some p) (k : Fin_b Φ ln N z p) : X mX6_isWord 36 [some (.ref (151)), some (.ref (w)), none, none] [.int (iN (s0))] (zmk ln N z) c9 s9 Φ := by
  unfold fX6_isWord_b36 at h
  refine X_istore_n (pc' := 37) dX6_isWord_36 rfl (cl rfl) (Or.inr rfl) (L' := [some (.ref (151)), some (.ref (w)), some (.int (iN (s0))), none]) rfl ?_
  refine X_iconst (pc' := 38) dX6_isWord_37 rfl ?_
  refine X_istore_n (pc' := 39) dX6_isWord_38 rfl (cl rfl) (Or.inr rfl) (L' := [some (.ref (151)), some (.ref (w)), some (.int (iN (s0))), some (.int (iN (0)))]) rfl ?_
  obtain ⟨x1_v2, q1, h⟩ := bs h
  refine X_sub (sub_s (sub_s (sub_s (sub_s sub_0)))) (LX6_isWord_39 hN hz hw (fun x1_v2₁ hh rx1_v2 => ?_) FU _ _ rs0 (inR_c (n := 0) rfl) q1)
  cases hh
  refine X_iload_n (pc' := 83) dX6_isWord_82 rfl rfl ?_
  obtain ⟨g2, h⟩ := gs h
  cases h
  exact X_zret dX6_isWord_83 rfl g2 (k g2)
def fX6_isWord_b35 (w : Nat) (z : ZZ) : Option (Int) := fX6_isWord_b36 w (0) z
set_option maxRecDepth 100000 in
theorem BX6_isWord_35 {ln N : Nat} {z : ZZ} {w : Nat} {c9 s9 : Nat} {Φ : xRes → xS → Prop} (hN : 159 ≤ N ∧ N < 999999) (hz : okz z) (hw : isW w) {p : Int} (h : fX6_isWord_b35 w z = some p) (k : Fin_b Φ ln N z p) : X mX6_isWord 35 [some (.ref (151)), some (.ref (w)), none, none] [] (zmk ln N z) c9 s9 Φ := by
  unfold fX6_isWord_b35 at h
  refine X_iconst (pc' := 36) dX6_isWord_35 rfl ?_
  exact X_sub (sub_s (sub_s (sub_n (sub_n sub_0)))) (BX6_isWord_36 hN hz hw (inR_c (n := 0) rfl) h k)
def fX6_isWord (w : Nat) (z : ZZ) : Option (Int) := (Option.bind (fX6_isGood z) fun r1 => (if (r1) = (0) then fX6_isWord_b35 w  z else (if ((z 151 5)) = (1) then (if inR (((z 151 3) - (z 151 4))) then (if (((z 151 3) - (z 151 4))) = ((zlen w)) then fX6_isWord_b36 w (1) z else fX6_isWord_b35 w  z) else none) else fX6_isWord_b35 w  z)))
set_option maxRecDepth 100000 in
theorem CX6_isWord {ln N : Nat} {z : ZZ} {w : Nat} (hN : 159 ≤ N ∧ N < 999999) (hz : okz z) (hw : isW w) {p : Int} (h : fX6_isWord w z = some p) : X mX6_isWord 0 (xEnt [.ref (151), .ref (w)] (xL mX6_isWord)) [] (zmk ln N z) (cc_b p) (6 * cc_b p) (Qd (fa_b p) (rs_b p) (st_b ln N z p)) := by
  have k : Fin_b (Qd (fa_b p) (rs_b p) (st_b ln N z p)) ln N z p := Fin_b_i
  unfold fX6_isWord at h
  refine X_to (M := [some (.ref (151)), some (.ref (w)), none, none]) (su := []) rfl rfl ?_
  refine X_aload_n (pc' := 1) dX6_isWord_0 rfl rfl ?_
  obtain ⟨r1, q1, h⟩ := bs h
  refine Y_callV [] (pc' := 4) dX6_isWord_1 rfl VX6_102 (by decide) (zlN hN (by decide)) (congrArg Prod.fst (sh151 ln)) rfl rfl rfl (cs rfl) (cs rfl) rfl (CX6_isGood hN hz q1) (Nat.zero_add _).symm (Nat.zero_add _).symm (fun f1 => ?_)
  refine X_if_eq dX6_isWord_4 (tgt := 35) rfl (pc' := 7) rfl (inR_b f1) (fun c2 => ?_) (fun c2 => ?_)
  · have h := if_t c2 h
    exact X_sub (sub_s (sub_s (sub_n (sub_n sub_0)))) (BX6_isWord_35 hN hz hw h k)
  have h := if_f c2 h
  refine X_aload_n (pc' := 8) dX6_isWord_7 rfl rfl ?_
  refine Y_get (pc' := 11) dX6_isWord_8 rfl FX6_87 (zlN hN (by decide)) (congrArg Prod.fst (sh151 ln)) (ct151_5 z) ?_
  refine X_iconst (pc' := 12) dX6_isWord_11 rfl ?_
  refine X_icmp_ne dX6_isWord_12 (tgt := 35) rfl (pc' := 15) rfl ⟨(hz 151 5 (by decide)).1, (hz 151 5 (by decide)).2, (inR_c (n := 1) rfl).1, (inR_c (n := 1) rfl).2⟩ (fun c3 => ?_) (fun c3 => ?_)
  · have h := if_f c3 h
    exact X_sub (sub_s (sub_s (sub_n (sub_n sub_0)))) (BX6_isWord_35 hN hz hw h k)
  have h := if_t c3 h
  refine X_aload_n (pc' := 16) dX6_isWord_15 rfl rfl ?_
  refine Y_get (pc' := 19) dX6_isWord_16 rfl FX6_70 (zlN hN (by decide)) (congrArg Prod.fst (sh151 ln)) (ct151_3 z) ?_
  refine X_aload_n (pc' := 20) dX6_isWord_19 rfl rfl ?_
  refine Y_get (pc' := 23) dX6_isWord_20 rfl FX6_77 (zlN hN (by decide)) (congrArg Prod.fst (sh151 ln)) (ct151_4 z) ?_
  refine X_isub (pc' := 24) dX6_isWord_23 rfl ?_
  refine X_aload_n (pc' := 25) dX6_isWord_24 rfl rfl ?_
  refine Y_callW [] (pc' := 28) dX6_isWord_25 rfl VX6_106 (by decide) (isW_ge hw) (isW_sh hw ln) rfl rfl (cs rfl) (cs rfl) rfl (CJlen hw) (Nat.zero_add _).symm (Nat.zero_add _).symm (fun _ => ?_)
  obtain ⟨g4, h⟩ := gs h
  refine X_icmp_ne dX6_isWord_28 (tgt := 35) rfl (pc' := 31) rfl ⟨g4.1, g4.2, (inR_len hw).1, (inR_len hw).2⟩ (fun c5 => ?_) (fun c5 => ?_)
  · have h := if_f c5 h
    exact X_sub (sub_s (sub_s (sub_n (sub_n sub_0)))) (BX6_isWord_35 hN hz hw h k)
  have h := if_t c5 h
  refine X_iconst (pc' := 32) dX6_isWord_31 rfl ?_
  refine X_goto dX6_isWord_32 (tgt := 36) rfl ?_
  exact X_sub (sub_s (sub_s (sub_n (sub_n sub_0)))) (BX6_isWord_36 hN hz hw (inR_c (n := 1) rfl) h k)
def fX6_peek (v1 : Int) (z : ZZ) : Option (Int) := (if (v1) < ((z 151 2)) then (if (0 : Int) ≤ (v1) ∧ (v1) < (600 : Int) then some ((z 152 (v1))) else none) else some ((-1)))
set_option maxRecDepth 100000 in
theorem CX6_peek {ln N : Nat} {z : ZZ} {v1 : Int} (hN : 159 ≤ N ∧ N < 999999) (hz : okz z) (rv1 : inR v1) {p : Int} (h : fX6_peek v1 z = some p) : X mX6_peek 0 (xEnt [.ref (151), .int (iN (v1))] (xL mX6_peek)) [] (zmk ln N z) (cc_r p) (6 * cc_r p) (Qd (fa_r p) (rs_r p) (st_r ln N z p)) := by
  have k : Fin_r (Qd (fa_r p) (rs_r p) (st_r ln N z p)) ln N z p := Fin_r_i
  unfold fX6_peek at h
  refine X_to (M := [some (.ref (151)), some (.int (iN (v1)))]) (su := []) rfl rfl ?_
  refine X_iload_n (pc' := 1) dX6_peek_0 rfl rfl ?_
  refine X_aload_n (pc' := 2) dX6_peek_1 rfl rfl ?_
  refine Y_get (pc' := 5) dX6_peek_2 rfl FX6_59 (zlN hN (by decide)) (congrArg Prod.fst (sh151 ln)) (ct151_2 z) ?_
  refine X_icmp_ge dX6_peek_5 (tgt := 17) rfl (pc' := 8) rfl ⟨rv1.1, rv1.2, (hz 151 2 (by decide)).1, (hz 151 2 (by decide)).2⟩ (fun c1 => ?_) (fun c1 => ?_)
  · have h := if_f (Int.not_lt.mpr c1) h
    refine X_iconst (pc' := 18) dX6_peek_17 rfl ?_
    cases h
    exact X_iret dX6_peek_18 rfl (k (inR_c (n := (-1)) rfl))
  have h := if_t c1 h
  refine X_aload_n (pc' := 9) dX6_peek_8 rfl rfl ?_
  refine Y_get (pc' := 12) dX6_peek_9 rfl FX6_9 (zlN hN (by decide)) (congrArg Prod.fst (sh151 ln)) (ct151_1 z) ?_
  refine X_iload_n (pc' := 13) dX6_peek_12 rfl rfl ?_
  obtain ⟨g2, h⟩ := gs h
  refine Y_iald (pc' := 14) dX6_peek_13 rfl (zlN hN (by decide)) (sh152 ln) (by decide) g2 ?_
  refine X_goto dX6_peek_14 (tgt := 18) rfl ?_
  cases h
  exact X_iret dX6_peek_18 rfl (k (hz 152 (v1) (by decide)))
def fX6_isLetter (v0 : Int) (z : ZZ) : Option (Int) := (if (v0) < (97) then some (0) else (if (122) < (v0) then some (0) else some (1)))
set_option maxRecDepth 100000 in
theorem CX6_isLetter {ln N : Nat} {z : ZZ} {v0 : Int} (hN : 159 ≤ N ∧ N < 999999) (hz : okz z) (rv0 : inR v0) {p : Int} (h : fX6_isLetter v0 z = some p) : X mX6_isLetter 0 (xEnt [.int (iN (v0))] (xL mX6_isLetter)) [] (zmk ln N z) (cc_b p) (6 * cc_b p) (Qd (fa_b p) (rs_b p) (st_b ln N z p)) := by
  have k : Fin_b (Qd (fa_b p) (rs_b p) (st_b ln N z p)) ln N z p := Fin_b_i
  unfold fX6_isLetter at h
  refine X_to (M := [some (.int (iN (v0)))]) (su := []) rfl rfl ?_
  refine X_iload_n (pc' := 1) dX6_isLetter_0 rfl rfl ?_
  refine X_bipush (pc' := 3) dX6_isLetter_1 rfl (by decide) ?_
  refine X_icmp_lt dX6_isLetter_3 (tgt := 16) rfl (pc' := 6) rfl ⟨rv0.1, rv0.2, (inR_c (n := 97) rfl).1, (inR_c (n := 97) rfl).2⟩ (fun c1 => ?_) (fun c1 => ?_)
  · have h := if_t c1 h
    refine X_iconst (pc' := 17) dX6_isLetter_16 rfl ?_
    cases h
    exact X_zret dX6_isLetter_17 rfl (Or.inl rfl) (k (Or.inl rfl))
  have h := if_f (Int.not_lt.mpr c1) h
  refine X_iload_n (pc' := 7) dX6_isLetter_6 rfl rfl ?_
  refine X_bipush (pc' := 9) dX6_isLetter_7 rfl (by decide) ?_
  refine X_icmp_gt dX6_isLetter_9 (tgt := 16) rfl (pc' := 12) rfl ⟨rv0.1, rv0.2, (inR_c (n := 122) rfl).1, (inR_c (n := 122) rfl).2⟩ (fun c2 => ?_) (fun c2 => ?_)
  · have h := if_t c2 h
    refine X_iconst (pc' := 17) dX6_isLetter_16 rfl ?_
    cases h
    exact X_zret dX6_isLetter_17 rfl (Or.inl rfl) (k (Or.inl rfl))
  have h := if_f (Int.not_lt.mpr c2) h
  refine X_iconst (pc' := 13) dX6_isLetter_12 rfl ?_
  refine X_goto dX6_isLetter_13 (tgt := 17) rfl ?_
  cases h
  exact X_zret dX6_isLetter_17 rfl (Or.inr rfl) (k (Or.inr rfl))
def fX6_isDigit (v0 : Int) (z : ZZ) : Option (Int) := (if (v0) < (48) then some (0) else (if (57) < (v0) then some (0) else some (1)))
set_option maxRecDepth 100000 in
theorem CX6_isDigit {ln N : Nat} {z : ZZ} {v0 : Int} (hN : 159 ≤ N ∧ N < 999999) (hz : okz z) (rv0 : inR v0) {p : Int} (h : fX6_isDigit v0 z = some p) : X mX6_isDigit 0 (xEnt [.int (iN (v0))] (xL mX6_isDigit)) [] (zmk ln N z) (cc_b p) (6 * cc_b p) (Qd (fa_b p) (rs_b p) (st_b ln N z p)) := by
  have k : Fin_b (Qd (fa_b p) (rs_b p) (st_b ln N z p)) ln N z p := Fin_b_i
  unfold fX6_isDigit at h
  refine X_to (M := [some (.int (iN (v0)))]) (su := []) rfl rfl ?_
  refine X_iload_n (pc' := 1) dX6_isDigit_0 rfl rfl ?_
  refine X_bipush (pc' := 3) dX6_isDigit_1 rfl (by decide) ?_
  refine X_icmp_lt dX6_isDigit_3 (tgt := 16) rfl (pc' := 6) rfl ⟨rv0.1, rv0.2, (inR_c (n := 48) rfl).1, (inR_c (n := 48) rfl).2⟩ (fun c1 => ?_) (fun c1 => ?_)
  · have h := if_t c1 h
    refine X_iconst (pc' := 17) dX6_isDigit_16 rfl ?_
    cases h
    exact X_zret dX6_isDigit_17 rfl (Or.inl rfl) (k (Or.inl rfl))
  have h := if_f (Int.not_lt.mpr c1) h
  refine X_iload_n (pc' := 7) dX6_isDigit_6 rfl rfl ?_
  refine X_bipush (pc' := 9) dX6_isDigit_7 rfl (by decide) ?_
  refine X_icmp_gt dX6_isDigit_9 (tgt := 16) rfl (pc' := 12) rfl ⟨rv0.1, rv0.2, (inR_c (n := 57) rfl).1, (inR_c (n := 57) rfl).2⟩ (fun c2 => ?_) (fun c2 => ?_)
  · have h := if_t c2 h
    refine X_iconst (pc' := 17) dX6_isDigit_16 rfl ?_
    cases h
    exact X_zret dX6_isDigit_17 rfl (Or.inl rfl) (k (Or.inl rfl))
  have h := if_f (Int.not_lt.mpr c2) h
  refine X_iconst (pc' := 13) dX6_isDigit_12 rfl ?_
  refine X_goto dX6_isDigit_13 (tgt := 17) rfl ?_
  cases h
  exact X_zret dX6_isDigit_17 rfl (Or.inr rfl) (k (Or.inr rfl))
def fX6_step_s0 (z : ZZ) : Option ((ZZ) ⊕ (ZZ)) := (Option.bind (fX6_peek ((z 151 3)) z) fun r1 => (if (r1) = (32) then (if inR (((z 151 3) + 1)) then (zl (zup z 151 3 (((z 151 3) + 1))) fun z4 => some (.inl z4)) else none) else some (.inr z)))
set_option maxRecDepth 100000 in
theorem SX6_step_0 {ln N : Nat} {z : ZZ} {c9 s9 : Nat} {Φ : xRes → xS → Prop} (hN : 159 ≤ N ∧ N < 999999) (hz : okz z) {p : (ZZ) ⊕ (ZZ)} (h : fX6_step_s0 z = some p) (k1 : ∀ (z' : ZZ), p = .inl z' → okz z' → X mX6_step 0 [some (.ref (151)), none] [] (zmk ln N z') c9 s9 Φ) (k2 : ∀ (z' : ZZ), p = .inr z' → okz z' → X mX6_step 26 [some (.ref (151)), none] [] (zmk ln N z') c9 s9 Φ) : X mX6_step 0 [some (.ref (151)), none] [] (zmk ln N z) c9 s9 Φ := by
  unfold fX6_step_s0 at h
  refine X_aload_n (pc' := 1) dX6_step_0 rfl rfl ?_
  refine X_aload_n (pc' := 2) dX6_step_1 rfl rfl ?_
  refine Y_get (pc' := 5) dX6_step_2 rfl FX6_70 (zlN hN (by decide)) (congrArg Prod.fst (sh151 ln)) (ct151_3 z) ?_
  obtain ⟨r1, q1, h⟩ := bs h
  refine Y_callV [.int (iN ((z 151 3)))] (pc' := 8) dX6_step_5 rfl VX6_73 (by decide) (zlN hN (by decide)) (congrArg Prod.fst (sh151 ln)) rfl rfl rfl (cs rfl) (cs rfl) rfl (CX6_peek hN hz (hz 151 3 (by decide)) q1) (Nat.zero_add _).symm (Nat.zero_add _).symm (fun f1 => ?_)
  refine X_bipush (pc' := 10) dX6_step_8 rfl (by decide) ?_
  refine X_icmp_ne dX6_step_10 (tgt := 26) rfl (pc' := 13) rfl ⟨f1.1, f1.2, (inR_c (n := 32) rfl).1, (inR_c (n := 32) rfl).2⟩ (fun c2 => ?_) (fun c2 => ?_)
  · have h := if_f c2 h
    cases h
    exact X_sub (sub_s (sub_n sub_0)) (k2 _ rfl hz)
  have h := if_t c2 h
  refine X_aload_n (pc' := 14) dX6_step_13 rfl rfl ?_
  refine X_dup (pc' := 15) dX6_step_14 rfl rfl ?_
  refine Y_get (pc' := 18) dX6_step_15 rfl FX6_70 (zlN hN (by decide)) (congrArg Prod.fst (sh151 ln)) (ct151_3 z) ?_
  refine X_iconst (pc' := 19) dX6_step_18 rfl ?_
  refine X_iadd (pc' := 20) dX6_step_19 rfl ?_
  obtain ⟨g3, h⟩ := gs h
  refine Y_put (k := 3) (j := 3) (v := ((z 151 3) + 1)) (pc' := 23) dX6_step_20 rfl FX6_70 (zlN hN (by decide)) (congrArg Prod.fst (sh151 ln)) (fun r hr => by cases hr; rfl) (xFit_int _) rfl rfl ?_
  obtain ⟨z4, e4, hz4, h⟩ := zl_some (P := okz) h (okz_up hz g3)
  rw [e4]
  refine X_goto dX6_step_23 (tgt := 0) rfl ?_
  cases h
  exact X_sub (sub_s (sub_n sub_0)) (k1 _ rfl hz4)
theorem LX6_step_0 {ln N : Nat} {c9 s9 : Nat} {Φ : xRes → xS → Prop} (hN : 159 ≤ N ∧ N < 999999) {r : ZZ} (k2 : ∀ (z' : ZZ), r = z' → okz z' → X mX6_step 26 [some (.ref (151)), none] [] (zmk ln N z') c9 s9 Φ) : ∀ (n : Nat) (z : ZZ), okz z → zlp (fun q => fX6_step_s0 q) n z = some r → X mX6_step 0 [some (.ref (151)), none] [] (zmk ln N z) c9 s9 Φ := by
  intro n
  induction n with
  | zero => intro z hz h; cases h
  | succ n ih =>
    intro z hz h
    rcases zlp_s h with ⟨z', e, h'⟩ | e
    · exact SX6_step_0 hN hz e (fun z₁ hh f0 => by cases hh; exact ih _ f0 h') (fun z₁ hh f0 => by cases hh)
    · exact SX6_step_0 hN hz e (fun z₁ hh f0 => by cases hh) (fun z₁ hh f0 => by cases hh; exact k2 _ rfl f0)
def fX6_step_s101 (z : ZZ) : Option ((ZZ) ⊕ (ZZ)) := (if ((z 151 5)) = (1) then (Option.bind (fX6_peek ((z 151 3)) z) fun r2 => (Option.bind (fX6_isLetter (r2) z) fun r3 => (if (r3) = (0) then some (.inr z) else (if inR (((z 151 3) + 1)) then (zl (zup z 151 3 (((z 151 3) + 1))) fun z6 => some (.inl z6)) else none)))) else some (.inr z))
set_option maxRecDepth 100000 in
theorem SX6_step_101 {ln N : Nat} {z : ZZ} {c9 s9 : Nat} {Φ : xRes → xS → Prop} (hN : 159 ≤ N ∧ N < 999999) (hz : okz z) {p : (ZZ) ⊕ (ZZ)} (h : fX6_step_s101 z = some p) (k1 : ∀ (z' : ZZ), p = .inl z' → okz z' → X mX6_step 101 [some (.ref (151)), none] [] (zmk ln N z') c9 s9 Φ) (k2 : ∀ (z' : ZZ), p = .inr z' → okz z' → X mX6_step 136 [some (.ref (151)), none] [] (zmk ln N z') c9 s9 Φ) : X mX6_step 101 [some (.ref (151)), none] [] (zmk ln N z) c9 s9 Φ := by
  unfold fX6_step_s101 at h
  refine X_aload_n (pc' := 102) dX6_step_101 rfl rfl ?_
  refine Y_get (pc' := 105) dX6_step_102 rfl FX6_87 (zlN hN (by decide)) (congrArg Prod.fst (sh151 ln)) (ct151_5 z) ?_
  refine X_iconst (pc' := 106) dX6_step_105 rfl ?_
  refine X_icmp_ne dX6_step_106 (tgt := 136) rfl (pc' := 109) rfl ⟨(hz 151 5 (by decide)).1, (hz 151 5 (by decide)).2, (inR_c (n := 1) rfl).1, (inR_c (n := 1) rfl).2⟩ (fun c1 => ?_) (fun c1 => ?_)
  · have h := if_f c1 h
    cases h
    exact X_sub (sub_s (sub_n sub_0)) (k2 _ rfl hz)
  have h := if_t c1 h
  refine X_aload_n (pc' := 110) dX6_step_109 rfl rfl ?_
  refine X_aload_n (pc' := 111) dX6_step_110 rfl rfl ?_
  refine Y_get (pc' := 114) dX6_step_111 rfl FX6_70 (zlN hN (by decide)) (congrArg Prod.fst (sh151 ln)) (ct151_3 z) ?_
  obtain ⟨r2, q2, h⟩ := bs h
  refine Y_callV [.int (iN ((z 151 3)))] (pc' := 117) dX6_step_114 rfl VX6_73 (by decide) (zlN hN (by decide)) (congrArg Prod.fst (sh151 ln)) rfl rfl rfl (cs rfl) (cs rfl) rfl (CX6_peek hN hz (hz 151 3 (by decide)) q2) (Nat.zero_add _).symm (Nat.zero_add _).symm (fun f2 => ?_)
  obtain ⟨r3, q3, h⟩ := bs h
  refine Y_callS [.int (iN (r2))] (pc' := 120) dX6_step_117 rfl SX6_80 (by decide) rfl (cs rfl) (cs rfl) rfl (CX6_isLetter hN hz f2 q3) (Nat.zero_add _).symm (Nat.zero_add _).symm (fun f3 => ?_)
  refine X_if_eq dX6_step_120 (tgt := 136) rfl (pc' := 123) rfl (inR_b f3) (fun c4 => ?_) (fun c4 => ?_)
  · have h := if_t c4 h
    cases h
    exact X_sub (sub_s (sub_n sub_0)) (k2 _ rfl hz)
  have h := if_f c4 h
  refine X_aload_n (pc' := 124) dX6_step_123 rfl rfl ?_
  refine X_dup (pc' := 125) dX6_step_124 rfl rfl ?_
  refine Y_get (pc' := 128) dX6_step_125 rfl FX6_70 (zlN hN (by decide)) (congrArg Prod.fst (sh151 ln)) (ct151_3 z) ?_
  refine X_iconst (pc' := 129) dX6_step_128 rfl ?_
  refine X_iadd (pc' := 130) dX6_step_129 rfl ?_
  obtain ⟨g5, h⟩ := gs h
  refine Y_put (k := 3) (j := 3) (v := ((z 151 3) + 1)) (pc' := 133) dX6_step_130 rfl FX6_70 (zlN hN (by decide)) (congrArg Prod.fst (sh151 ln)) (fun r hr => by cases hr; rfl) (xFit_int _) rfl rfl ?_
  obtain ⟨z6, e6, hz6, h⟩ := zl_some (P := okz) h (okz_up hz g5)
  rw [e6]
  refine X_goto dX6_step_133 (tgt := 101) rfl ?_
  cases h
  exact X_sub (sub_s (sub_n sub_0)) (k1 _ rfl hz6)
theorem LX6_step_101 {ln N : Nat} {c9 s9 : Nat} {Φ : xRes → xS → Prop} (hN : 159 ≤ N ∧ N < 999999) {r : ZZ} (k2 : ∀ (z' : ZZ), r = z' → okz z' → X mX6_step 136 [some (.ref (151)), none] [] (zmk ln N z') c9 s9 Φ) : ∀ (n : Nat) (z : ZZ), okz z → zlp (fun q => fX6_step_s101 q) n z = some r → X mX6_step 101 [some (.ref (151)), none] [] (zmk ln N z) c9 s9 Φ := by
  intro n
  induction n with
  | zero => intro z hz h; cases h
  | succ n ih =>
    intro z hz h
    rcases zlp_s h with ⟨z', e, h'⟩ | e
    · exact SX6_step_101 hN hz e (fun z₁ hh f0 => by cases hh; exact ih _ f0 h') (fun z₁ hh f0 => by cases hh)
    · exact SX6_step_101 hN hz e (fun z₁ hh f0 => by cases hh) (fun z₁ hh f0 => by cases hh; exact k2 _ rfl f0)
def fX6_step_s136 (z : ZZ) : Option ((ZZ) ⊕ (ZZ)) := (if ((z 151 5)) = (2) then (Option.bind (fX6_peek ((z 151 3)) z) fun r2 => (Option.bind (fX6_isDigit (r2) z) fun r3 => (if (r3) = (0) then some (.inr z) else (Option.bind (fX6_peek ((z 151 3)) z) fun r5 => (if inR ((((10 * (z 151 6)) + r5) - 48)) then (zl (zup z 151 6 ((min (10000) ((((10 * (z 151 6)) + r5) - 48))))) fun z7 => (if inR (((z7 151 3) + 1)) then (zl (zup z7 151 3 (((z7 151 3) + 1))) fun z9 => some (.inl z9)) else none)) else none))))) else some (.inr z))
set_option maxRecDepth 100000 in
theorem SX6_step_136 {ln N : Nat} {z : ZZ} {c9 s9 : Nat} {Φ : xRes → xS → Prop} (hN : 159 ≤ N ∧ N < 999999) (hz : okz z) {p : (ZZ) ⊕ (ZZ)} (h : fX6_step_s136 z = some p) (k1 : ∀ (z' : ZZ), p = .inl z' → okz z' → X mX6_step 136 [some (.ref (151)), none] [] (zmk ln N z') c9 s9 Φ) (k2 : ∀ (z' : ZZ), p = .inr z' → okz z' → X mX6_step 200 [none, none] [] (zmk ln N z') c9 s9 Φ) : X mX6_step 136 [some (.ref (151)), none] [] (zmk ln N z) c9 s9 Φ := by
  unfold fX6_step_s136 at h
  refine X_aload_n (pc' := 137) dX6_step_136 rfl rfl ?_
  refine Y_get (pc' := 140) dX6_step_137 rfl FX6_87 (zlN hN (by decide)) (congrArg Prod.fst (sh151 ln)) (ct151_5 z) ?_
  refine X_iconst (pc' := 141) dX6_step_140 rfl ?_
  refine X_icmp_ne dX6_step_141 (tgt := 200) rfl (pc' := 144) rfl ⟨(hz 151 5 (by decide)).1, (hz 151 5 (by decide)).2, (inR_c (n := 2) rfl).1, (inR_c (n := 2) rfl).2⟩ (fun c1 => ?_) (fun c1 => ?_)
  · have h := if_f c1 h
    cases h
    exact X_sub (sub_n (sub_n sub_0)) (k2 _ rfl hz)
  have h := if_t c1 h
  refine X_aload_n (pc' := 145) dX6_step_144 rfl rfl ?_
  refine X_aload_n (pc' := 146) dX6_step_145 rfl rfl ?_
  refine Y_get (pc' := 149) dX6_step_146 rfl FX6_70 (zlN hN (by decide)) (congrArg Prod.fst (sh151 ln)) (ct151_3 z) ?_
  obtain ⟨r2, q2, h⟩ := bs h
  refine Y_callV [.int (iN ((z 151 3)))] (pc' := 152) dX6_step_149 rfl VX6_73 (by decide) (zlN hN (by decide)) (congrArg Prod.fst (sh151 ln)) rfl rfl rfl (cs rfl) (cs rfl) rfl (CX6_peek hN hz (hz 151 3 (by decide)) q2) (Nat.zero_add _).symm (Nat.zero_add _).symm (fun f2 => ?_)
  obtain ⟨r3, q3, h⟩ := bs h
  refine Y_callS [.int (iN (r2))] (pc' := 155) dX6_step_152 rfl SX6_84 (by decide) rfl (cs rfl) (cs rfl) rfl (CX6_isDigit hN hz f2 q3) (Nat.zero_add _).symm (Nat.zero_add _).symm (fun f3 => ?_)
  refine X_if_eq dX6_step_155 (tgt := 200) rfl (pc' := 158) rfl (inR_b f3) (fun c4 => ?_) (fun c4 => ?_)
  · have h := if_t c4 h
    cases h
    exact X_sub (sub_n (sub_n sub_0)) (k2 _ rfl hz)
  have h := if_f c4 h
  refine X_aload_n (pc' := 159) dX6_step_158 rfl rfl ?_
  refine X_sipush (pc' := 162) dX6_step_159 rfl (by decide) ?_
  refine X_bipush (pc' := 164) dX6_step_162 rfl (by decide) ?_
  refine X_aload_n (pc' := 165) dX6_step_164 rfl rfl ?_
  refine Y_get (pc' := 168) dX6_step_165 rfl FX6_90 (zlN hN (by decide)) (congrArg Prod.fst (sh151 ln)) (ct151_6 z) ?_
  refine X_imul (pc' := 169) dX6_step_168 rfl ?_
  refine X_aload_n (pc' := 170) dX6_step_169 rfl rfl ?_
  refine X_aload_n (pc' := 171) dX6_step_170 rfl rfl ?_
  refine Y_get (pc' := 174) dX6_step_171 rfl FX6_70 (zlN hN (by decide)) (congrArg Prod.fst (sh151 ln)) (ct151_3 z) ?_
  obtain ⟨r5, q5, h⟩ := bs h
  refine Y_callV [.int (iN ((z 151 3)))] (pc' := 177) dX6_step_174 rfl VX6_73 (by decide) (zlN hN (by decide)) (congrArg Prod.fst (sh151 ln)) rfl rfl rfl (cs rfl) (cs rfl) rfl (CX6_peek hN hz (hz 151 3 (by decide)) q5) (Nat.zero_add _).symm (Nat.zero_add _).symm (fun f5 => ?_)
  refine X_iadd (pc' := 178) dX6_step_177 rfl ?_
  refine X_bipush (pc' := 180) dX6_step_178 rfl (by decide) ?_
  refine X_isub (pc' := 181) dX6_step_180 rfl ?_
  obtain ⟨g6, h⟩ := gs h
  refine X_mmin (pc' := 184) dX6_step_181 rfl tq1270 tq342 tq5 tq343 (cs rfl) ⟨(inR_c (n := 10000) rfl).1, (inR_c (n := 10000) rfl).2, g6.1, g6.2⟩ ?_
  refine Y_put (k := 6) (j := 6) (v := (min (10000) ((((10 * (z 151 6)) + r5) - 48)))) (pc' := 187) dX6_step_184 rfl FX6_90 (zlN hN (by decide)) (congrArg Prod.fst (sh151 ln)) (fun r hr => by cases hr; rfl) (xFit_int _) rfl rfl ?_
  obtain ⟨z7, e7, hz7, h⟩ := zl_some (P := okz) h (okz_up hz (inR_min (inR_c (n := 10000) rfl) g6))
  rw [e7]
  refine X_aload_n (pc' := 188) dX6_step_187 rfl rfl ?_
  refine X_dup (pc' := 189) dX6_step_188 rfl rfl ?_
  refine Y_get (pc' := 192) dX6_step_189 rfl FX6_70 (zlN hN (by decide)) (congrArg Prod.fst (sh151 ln)) (ct151_3 z7) ?_
  refine X_iconst (pc' := 193) dX6_step_192 rfl ?_
  refine X_iadd (pc' := 194) dX6_step_193 rfl ?_
  obtain ⟨g8, h⟩ := gs h
  refine Y_put (k := 3) (j := 3) (v := ((z7 151 3) + 1)) (pc' := 197) dX6_step_194 rfl FX6_70 (zlN hN (by decide)) (congrArg Prod.fst (sh151 ln)) (fun r hr => by cases hr; rfl) (xFit_int _) rfl rfl ?_
  obtain ⟨z9, e9, hz9, h⟩ := zl_some (P := okz) h (okz_up hz7 g8)
  rw [e9]
  refine X_goto dX6_step_197 (tgt := 136) rfl ?_
  cases h
  exact X_sub (sub_s (sub_n sub_0)) (k1 _ rfl hz9)
theorem LX6_step_136 {ln N : Nat} {c9 s9 : Nat} {Φ : xRes → xS → Prop} (hN : 159 ≤ N ∧ N < 999999) {r : ZZ} (k2 : ∀ (z' : ZZ), r = z' → okz z' → X mX6_step 200 [none, none] [] (zmk ln N z') c9 s9 Φ) : ∀ (n : Nat) (z : ZZ), okz z → zlp (fun q => fX6_step_s136 q) n z = some r → X mX6_step 136 [some (.ref (151)), none] [] (zmk ln N z) c9 s9 Φ := by
  intro n
  induction n with
  | zero => intro z hz h; cases h
  | succ n ih =>
    intro z hz h
    rcases zlp_s h with ⟨z', e, h'⟩ | e
    · exact SX6_step_136 hN hz e (fun z₁ hh f0 => by cases hh; exact ih _ f0 h') (fun z₁ hh f0 => by cases hh)
    · exact SX6_step_136 hN hz e (fun z₁ hh f0 => by cases hh) (fun z₁ hh f0 => by cases hh; exact k2 _ rfl f0)
def fX6_step_b75 (s1 : Int) (z : ZZ) : Option (ZZ) := (zl (zup z 151 5 (s1)) fun z1 => (zl (zup z1 151 6 (0)) fun z2 => (if ((z2 151 5)) = (3) then (if inR (((z2 151 3) + 1)) then (zl (zup z2 151 3 (((z2 151 3) + 1))) fun z7 => (Option.bind (zlp (fun q => fX6_step_s101 q) FU z7) fun x8_z => (Option.bind (zlp (fun q => fX6_step_s136 q) FU x8_z) fun x9_z => some x9_z))) else none) else (Option.bind (zlp (fun q => fX6_step_s101 q) FU z2) fun x4_z => (Option.bind (zlp (fun q => fX6_step_s136 q) FU x4_z) fun x5_z => some x5_z)))))
set_option maxRecDepth 100000 in
theorem BX6_step_75 {ln N : Nat} {z : ZZ} {s1 : Int} {c9 s9 : Nat} {Φ : xRes → xS → Prop} (hN : 159 ≤ N ∧ N < 999999) (hz : okz z) (rs1 : inR s1) {p : ZZ} (h : fX6_step_b75 s1 z = some p) (k : Fin_w Φ ln N p) : X mX6_step 75 [some (.ref (151)), none] [.int (iN (s1)), .ref (151)] (zmk ln N z) c9 s9 Φ := by
  unfold fX6_step_b75 at h
  refine Y_put (k := 5) (j := 5) (v := s1) (pc' := 78) dX6_step_75 rfl FX6_87 (zlN hN (by decide)) (congrArg Prod.fst (sh151 ln)) (fun r hr => by cases hr; rfl) (xFit_int _) rfl rfl ?_
  obtain ⟨z1, e1, hz1, h⟩ := zl_some (P := okz) h (okz_up hz rs1)
  rw [e1]
  refine X_aload_n (pc' := 79) dX6_step_78 rfl rfl ?_
  refine X_iconst (pc' := 80) dX6_step_79 rfl ?_
  refine Y_put (k := 6) (j := 6) (v := 0) (pc' := 83) dX6_step_80 rfl FX6_90 (zlN hN (by decide)) (congrArg Prod.fst (sh151 ln)) (fun r hr => by cases hr; rfl) (xFit_int _) rfl rfl ?_
  obtain ⟨z2, e2, hz2, h⟩ := zl_some (P := okz) h (okz_up hz1 (inR_c (n := 0) rfl))
  rw [e2]
  refine X_aload_n (pc' := 84) dX6_step_83 rfl rfl ?_
  refine Y_get (pc' := 87) dX6_step_84 rfl FX6_87 (zlN hN (by decide)) (congrArg Prod.fst (sh151 ln)) (ct151_5 z2) ?_
  refine X_iconst (pc' := 88) dX6_step_87 rfl ?_
  refine X_icmp_ne dX6_step_88 (tgt := 101) rfl (pc' := 91) rfl ⟨(hz2 151 5 (by decide)).1, (hz2 151 5 (by decide)).2, (inR_c (n := 3) rfl).1, (inR_c (n := 3) rfl).2⟩ (fun c3 => ?_) (fun c3 => ?_)
  · have h := if_f c3 h
    obtain ⟨x4_z, q4, h⟩ := bs h
    refine X_sub (sub_s (sub_n sub_0)) (LX6_step_101 hN (fun x4_z₁ hh hx4_z => ?_) FU _ hz2 q4)
    cases hh
    obtain ⟨x5_z, q5, h⟩ := bs h
    refine X_sub (sub_s (sub_n sub_0)) (LX6_step_136 hN (fun x5_z₁ hh hx5_z => ?_) FU _ hx4_z q5)
    cases hh
    cases h
    exact X_vret dX6_step_200 rfl (k hx5_z)
  have h := if_t c3 h
  refine X_aload_n (pc' := 92) dX6_step_91 rfl rfl ?_
  refine X_dup (pc' := 93) dX6_step_92 rfl rfl ?_
  refine Y_get (pc' := 96) dX6_step_93 rfl FX6_70 (zlN hN (by decide)) (congrArg Prod.fst (sh151 ln)) (ct151_3 z2) ?_
  refine X_iconst (pc' := 97) dX6_step_96 rfl ?_
  refine X_iadd (pc' := 98) dX6_step_97 rfl ?_
  obtain ⟨g6, h⟩ := gs h
  refine Y_put (k := 3) (j := 3) (v := ((z2 151 3) + 1)) (pc' := 101) dX6_step_98 rfl FX6_70 (zlN hN (by decide)) (congrArg Prod.fst (sh151 ln)) (fun r hr => by cases hr; rfl) (xFit_int _) rfl rfl ?_
  obtain ⟨z7, e7, hz7, h⟩ := zl_some (P := okz) h (okz_up hz2 g6)
  rw [e7]
  obtain ⟨x8_z, q8, h⟩ := bs h
  refine X_sub (sub_s (sub_n sub_0)) (LX6_step_101 hN (fun x8_z₁ hh hx8_z => ?_) FU _ hz7 q8)
  cases hh
  obtain ⟨x9_z, q9, h⟩ := bs h
  refine X_sub (sub_s (sub_n sub_0)) (LX6_step_136 hN (fun x9_z₁ hh hx9_z => ?_) FU _ hx8_z q9)
  cases hh
  cases h
  exact X_vret dX6_step_200 rfl (k hx9_z)
def fX6_step (z : ZZ) : Option (ZZ) := (Option.bind (zlp (fun q => fX6_step_s0 q) FU z) fun x1_z => (zl (zup x1_z 151 4 ((x1_z 151 3))) fun z2 => (Option.bind (fX6_peek ((z2 151 3)) z2) fun r3 => (if (r3) < (0) then fX6_step_b75 (0) z2 else (Option.bind (fX6_isLetter (r3) z2) fun r5 => (if (r5) = (0) then (Option.bind (fX6_isDigit (r3) z2) fun r7 => (if (r7) = (0) then fX6_step_b75 (3) z2 else fX6_step_b75 (2) z2)) else fX6_step_b75 (1) z2))))))
set_option maxRecDepth 100000 in
theorem CX6_step {ln N : Nat} {z : ZZ} (hN : 159 ≤ N ∧ N < 999999) (hz : okz z) {p : ZZ} (h : fX6_step z = some p) : X mX6_step 0 (xEnt [.ref (151)] (xL mX6_step)) [] (zmk ln N z) (cc_w p) (6 * cc_w p) (Qd (fa_w p) (rs_w p) (st_w ln N p)) := by
  have k : Fin_w (Qd (fa_w p) (rs_w p) (st_w ln N p)) ln N p := Fin_w_i
  unfold fX6_step at h
  refine X_to (M := [some (.ref (151)), none]) (su := []) rfl rfl ?_
  obtain ⟨x1_z, q1, h⟩ := bs h
  refine X_sub (sub_s (sub_n sub_0)) (LX6_step_0 hN (fun x1_z₁ hh hx1_z => ?_) FU _ hz q1)
  cases hh
  refine X_aload_n (pc' := 27) dX6_step_26 rfl rfl ?_
  refine X_aload_n (pc' := 28) dX6_step_27 rfl rfl ?_
  refine Y_get (pc' := 31) dX6_step_28 rfl FX6_70 (zlN hN (by decide)) (congrArg Prod.fst (sh151 ln)) (ct151_3 x1_z) ?_
  refine Y_put (k := 4) (j := 4) (v := (x1_z 151 3)) (pc' := 34) dX6_step_31 rfl FX6_77 (zlN hN (by decide)) (congrArg Prod.fst (sh151 ln)) (fun r hr => by cases hr; rfl) (xFit_int _) rfl rfl ?_
  obtain ⟨z2, e2, hz2, h⟩ := zl_some (P := okz) h (okz_up hx1_z (hx1_z 151 3 (by decide)))
  rw [e2]
  refine X_aload_n (pc' := 35) dX6_step_34 rfl rfl ?_
  refine X_aload_n (pc' := 36) dX6_step_35 rfl rfl ?_
  refine Y_get (pc' := 39) dX6_step_36 rfl FX6_70 (zlN hN (by decide)) (congrArg Prod.fst (sh151 ln)) (ct151_3 z2) ?_
  obtain ⟨r3, q3, h⟩ := bs h
  refine Y_callV [.int (iN ((z2 151 3)))] (pc' := 42) dX6_step_39 rfl VX6_73 (by decide) (zlN hN (by decide)) (congrArg Prod.fst (sh151 ln)) rfl rfl rfl (cs rfl) (cs rfl) rfl (CX6_peek hN hz2 (hz2 151 3 (by decide)) q3) (Nat.zero_add _).symm (Nat.zero_add _).symm (fun f3 => ?_)
  refine X_istore_n (pc' := 43) dX6_step_42 rfl (cl rfl) (Or.inr rfl) (L' := [some (.ref (151)), some (.int (iN (r3)))]) rfl ?_
  refine X_aload_n (pc' := 44) dX6_step_43 rfl rfl ?_
  refine X_iload_n (pc' := 45) dX6_step_44 rfl rfl ?_
  refine X_if_ge dX6_step_45 (tgt := 52) rfl (pc' := 48) rfl f3 (fun c4 => ?_) (fun c4 => ?_)
  · have h := if_f (Int.not_lt.mpr c4) h
    refine X_iload_n (pc' := 53) dX6_step_52 rfl rfl ?_
    obtain ⟨r5, q5, h⟩ := bs h
    refine Y_callS [.int (iN (r3))] (pc' := 56) dX6_step_53 rfl SX6_80 (by decide) rfl (cs rfl) (cs rfl) rfl (CX6_isLetter hN hz2 f3 q5) (Nat.zero_add _).symm (Nat.zero_add _).symm (fun f5 => ?_)
    refine X_if_eq dX6_step_56 (tgt := 63) rfl (pc' := 59) rfl (inR_b f5) (fun c6 => ?_) (fun c6 => ?_)
    · have h := if_t c6 h
      refine X_iload_n (pc' := 64) dX6_step_63 rfl rfl ?_
      obtain ⟨r7, q7, h⟩ := bs h
      refine Y_callS [.int (iN (r3))] (pc' := 67) dX6_step_64 rfl SX6_84 (by decide) rfl (cs rfl) (cs rfl) rfl (CX6_isDigit hN hz2 f3 q7) (Nat.zero_add _).symm (Nat.zero_add _).symm (fun f7 => ?_)
      refine X_if_eq dX6_step_67 (tgt := 74) rfl (pc' := 70) rfl (inR_b f7) (fun c8 => ?_) (fun c8 => ?_)
      · have h := if_t c8 h
        refine X_iconst (pc' := 75) dX6_step_74 rfl ?_
        exact X_sub (sub_s (sub_n sub_0)) (BX6_step_75 hN hz2 (inR_c (n := 3) rfl) h k)
      have h := if_f c8 h
      refine X_iconst (pc' := 71) dX6_step_70 rfl ?_
      refine X_goto dX6_step_71 (tgt := 75) rfl ?_
      exact X_sub (sub_s (sub_n sub_0)) (BX6_step_75 hN hz2 (inR_c (n := 2) rfl) h k)
    have h := if_f c6 h
    refine X_iconst (pc' := 60) dX6_step_59 rfl ?_
    refine X_goto dX6_step_60 (tgt := 75) rfl ?_
    exact X_sub (sub_s (sub_n sub_0)) (BX6_step_75 hN hz2 (inR_c (n := 1) rfl) h k)
  have h := if_t c4 h
  refine X_iconst (pc' := 49) dX6_step_48 rfl ?_
  refine X_goto dX6_step_49 (tgt := 75) rfl ?_
  exact X_sub (sub_s (sub_n sub_0)) (BX6_step_75 hN hz2 (inR_c (n := 0) rfl) h k)
def fX6_fail (z : ZZ) : Option (ZZ) := (if ((z 151 7)) < (0) then (zl (zup z 151 7 ((z 151 4))) fun z3 => some z3) else (zl (zup z 151 7 ((z 151 7))) fun z2 => some z2))
set_option maxRecDepth 100000 in
theorem CX6_fail {ln N : Nat} {z : ZZ} (hN : 159 ≤ N ∧ N < 999999) (hz : okz z) {p : ZZ} (h : fX6_fail z = some p) : X mX6_fail 0 (xEnt [.ref (151)] (xL mX6_fail)) [] (zmk ln N z) (cc_w p) (6 * cc_w p) (Qd (fa_w p) (rs_w p) (st_w ln N p)) := by
  have k : Fin_w (Qd (fa_w p) (rs_w p) (st_w ln N p)) ln N p := Fin_w_i
  unfold fX6_fail at h
  refine X_to (M := [some (.ref (151))]) (su := []) rfl rfl ?_
  refine X_aload_n (pc' := 1) dX6_fail_0 rfl rfl ?_
  refine X_aload_n (pc' := 2) dX6_fail_1 rfl rfl ?_
  refine Y_get (pc' := 5) dX6_fail_2 rfl FX6_99 (zlN hN (by decide)) (congrArg Prod.fst (sh151 ln)) (ct151_7 z) ?_
  refine X_if_ge dX6_fail_5 (tgt := 15) rfl (pc' := 8) rfl (hz 151 7 (by decide)) (fun c1 => ?_) (fun c1 => ?_)
  · have h := if_f (Int.not_lt.mpr c1) h
    refine X_aload_n (pc' := 16) dX6_fail_15 rfl rfl ?_
    refine Y_get (pc' := 19) dX6_fail_16 rfl FX6_99 (zlN hN (by decide)) (congrArg Prod.fst (sh151 ln)) (ct151_7 z) ?_
    refine Y_put (k := 7) (j := 7) (v := (z 151 7)) (pc' := 22) dX6_fail_19 rfl FX6_99 (zlN hN (by decide)) (congrArg Prod.fst (sh151 ln)) (fun r hr => by cases hr; rfl) (xFit_int _) rfl rfl ?_
    obtain ⟨z2, e2, hz2, h⟩ := zl_some (P := okz) h (okz_up hz (hz 151 7 (by decide)))
    rw [e2]
    cases h
    exact X_vret dX6_fail_22 rfl (k hz2)
  have h := if_t c1 h
  refine X_aload_n (pc' := 9) dX6_fail_8 rfl rfl ?_
  refine Y_get (pc' := 12) dX6_fail_9 rfl FX6_77 (zlN hN (by decide)) (congrArg Prod.fst (sh151 ln)) (ct151_4 z) ?_
  refine X_goto dX6_fail_12 (tgt := 19) rfl ?_
  refine Y_put (k := 7) (j := 7) (v := (z 151 4)) (pc' := 22) dX6_fail_19 rfl FX6_99 (zlN hN (by decide)) (congrArg Prod.fst (sh151 ln)) (fun r hr => by cases hr; rfl) (xFit_int _) rfl rfl ?_
  obtain ⟨z3, e3, hz3, h⟩ := zl_some (P := okz) h (okz_up hz (hz 151 4 (by decide)))
  rw [e3]
  cases h
  exact X_vret dX6_fail_22 rfl (k hz3)
def fX6_begins (w : Nat) (v2 : Int) (z : ZZ) : Option (Int × ZZ) := (Option.bind (fX6_isWord w z) fun r1 => (if (r1) = (0) then some (0, z) else (if (v2) = (0) then (Option.bind (fX6_fail z) fun z4 => some (1, z4)) else (Option.bind (fX6_step z) fun z5 => some (1, z5)))))
set_option maxRecDepth 100000 in
theorem CX6_begins {ln N : Nat} {z : ZZ} {w : Nat} {v2 : Int} (hN : 159 ≤ N ∧ N < 999999) (hz : okz z) (hw : isW w) (rv2 : inR v2) {p : Int × ZZ} (h : fX6_begins w v2 z = some p) : X mX6_begins 0 (xEnt [.ref (151), .ref (w), .int (iN (v2))] (xL mX6_begins)) [] (zmk ln N z) (cc_wb p) (6 * cc_wb p) (Qd (fa_wb p) (rs_wb p) (st_wb ln N p)) := by
  have k : Fin_wb (Qd (fa_wb p) (rs_wb p) (st_wb ln N p)) ln N p := Fin_wb_i
  unfold fX6_begins at h
  refine X_to (M := [some (.ref (151)), some (.ref (w)), some (.int (iN (v2)))]) (su := []) rfl rfl ?_
  refine X_aload_n (pc' := 1) dX6_begins_0 rfl rfl ?_
  refine X_aload_n (pc' := 2) dX6_begins_1 rfl rfl ?_
  obtain ⟨r1, q1, h⟩ := bs h
  refine Y_callV [.ref (w)] (pc' := 5) dX6_begins_2 rfl VX6_125 (by decide) (zlN hN (by decide)) (congrArg Prod.fst (sh151 ln)) rfl rfl rfl (cs rfl) (cs rfl) rfl (CX6_isWord hN hz hw q1) (Nat.zero_add _).symm (Nat.zero_add _).symm (fun f1 => ?_)
  refine X_if_ne dX6_begins_5 (tgt := 10) rfl (pc' := 8) rfl (inR_b f1) (fun c2 => ?_) (fun c2 => ?_)
  · have h := if_f c2 h
    refine X_iload_n (pc' := 11) dX6_begins_10 rfl rfl ?_
    refine X_if_eq dX6_begins_11 (tgt := 21) rfl (pc' := 14) rfl rv2 (fun c3 => ?_) (fun c3 => ?_)
    · have h := if_t c3 h
      refine X_aload_n (pc' := 22) dX6_begins_21 rfl rfl ?_
      obtain ⟨z4, q4, h⟩ := bs h
      refine Y_callVv [] (pc' := 25) dX6_begins_22 rfl VX6_115 (by decide) (zlN hN (by decide)) (congrArg Prod.fst (sh151 ln)) rfl rfl rfl (cs rfl) (cs rfl) rfl (CX6_fail hN hz q4) (Nat.zero_add _).symm (Nat.zero_add _).symm (fun f4 => ?_)
      refine X_iconst (pc' := 26) dX6_begins_25 rfl ?_
      cases h
      exact X_zret dX6_begins_26 rfl (Or.inr rfl) (k ⟨(Or.inr rfl), f4⟩)
    have h := if_f c3 h
    refine X_aload_n (pc' := 15) dX6_begins_14 rfl rfl ?_
    obtain ⟨z5, q5, h⟩ := bs h
    refine Y_callVv [] (pc' := 18) dX6_begins_15 rfl VX6_118 (by decide) (zlN hN (by decide)) (congrArg Prod.fst (sh151 ln)) rfl rfl rfl (cs rfl) (cs rfl) rfl (CX6_step hN hz q5) (Nat.zero_add _).symm (Nat.zero_add _).symm (fun f5 => ?_)
    refine X_goto dX6_begins_18 (tgt := 25) rfl ?_
    refine X_iconst (pc' := 26) dX6_begins_25 rfl ?_
    cases h
    exact X_zret dX6_begins_26 rfl (Or.inr rfl) (k ⟨(Or.inr rfl), f5⟩)
  have h := if_t c2 h
  refine X_iconst (pc' := 9) dX6_begins_8 rfl ?_
  cases h
  exact X_zret dX6_begins_9 rfl (Or.inl rfl) (k ⟨(Or.inl rfl), hz⟩)
def fX6_isInt (v0 : Int) (z : ZZ) : Option (Int) := (Option.bind (fX6_in (v0) ((-2147483648)) (2147483647) z) fun r1 => some (r1))
set_option maxRecDepth 100000 in
theorem CX6_isInt {ln N : Nat} {z : ZZ} {v0 : Int} (hN : 159 ≤ N ∧ N < 999999) (hz : okz z) (rv0 : inL v0) {p : Int} (h : fX6_isInt v0 z = some p) : X mX6_isInt 0 (xEnt [.long (lI (v0))] (xL mX6_isInt)) [] (zmk ln N z) (cc_b p) (6 * cc_b p) (Qd (fa_b p) (rs_b p) (st_b ln N z p)) := by
  have k : Fin_b (Qd (fa_b p) (rs_b p) (st_b ln N z p)) ln N z p := Fin_b_i
  unfold fX6_isInt at h
  refine X_to (M := [some (.long (lI (v0))), none]) (su := []) rfl rfl ?_
  refine X_lload_n (pc' := 1) dX6_isInt_0 rfl rfl ?_
  refine X_ldc2 (pc' := 4) dX6_isInt_1 rfl tq1564 (n := (-2147483648)) rfl ?_
  refine X_ldc2 (pc' := 7) dX6_isInt_4 rfl tq1565 (n := 2147483647) rfl ?_
  obtain ⟨r1, q1, h⟩ := bs h
  refine Y_callS [.long (lI (v0)), .long (lI ((-2147483648))), .long (lI (2147483647))] (pc' := 10) dX6_isInt_7 rfl SX6_66 (by decide) rfl (cs rfl) (cs rfl) rfl (CX6_in hN hz rv0 (inL_c (n := (-2147483648)) rfl) (inL_c (n := 2147483647) rfl) q1) (Nat.zero_add _).symm (Nat.zero_add _).symm (fun f1 => ?_)
  cases h
  exact X_zret dX6_isInt_10 rfl f1 (k f1)
def fX6_bill_b77 (v4 : Int) (v6 : Int) (s1 : Int) (z : ZZ) : Option (Int × ZZ) := (Option.bind (fX6_fails (s1) (2) z) fun q1 => match q1 with | (r1, z1) => (if (r1) = (0) then (if inR ((v4 + v6)) then some ((v4 + v6), z1) else none) else some (0, z1)))
set_option maxRecDepth 100000 in
theorem BX6_bill_77 {ln N : Nat} {z : ZZ} {v4 : Int} {v6 : Int} {s1 : Int} {c9 s9 : Nat} {Φ : xRes → xS → Prop} (hN : 159 ≤ N ∧ N < 999999) (hz : okz z) (rv4 : inL v4) (rv6 : inL v6) (rs1 : inR s1) {p : Int × ZZ} (h : fX6_bill_b77 v4 v6 s1 z = some p) (k : Fin_wi Φ ln N p) : X mX6_bill 77 [none, none, none, none, some (.long (lI (v4))), none, some (.long (lI (v6))), none] [.int (iN (s1)), .ref (151)] (zmk ln N z) c9 s9 Φ := by
  unfold fX6_bill_b77 at h
  refine X_iconst (pc' := 78) dX6_bill_77 rfl ?_
  obtain ⟨⟨r1, z1⟩, q1, h⟩ := bs h
  refine Y_callV [.int (iN (s1)), .int (iN (2))] (pc' := 81) dX6_bill_78 rfl VX6_62 (by decide) (zlN hN (by decide)) (congrArg Prod.fst (sh151 ln)) rfl rfl rfl (cs rfl) (cs rfl) rfl (CX6_fails hN hz rs1 (inR_c (n := 2) rfl) q1) (Nat.zero_add _).symm (Nat.zero_add _).symm (fun f1 => ?_)
  refine X_if_eq dX6_bill_81 (tgt := 88) rfl (pc' := 84) rfl (inR_b f1.1) (fun c2 => ?_) (fun c2 => ?_)
  · have h := if_t c2 h
    refine X_lload (pc' := 90) dX6_bill_88 rfl rfl ?_
    refine X_lload (pc' := 92) dX6_bill_90 rfl rfl ?_
    refine X_lI_add (pc' := 93) dX6_bill_92 rfl ?_
    refine X_lI_l2i (pc' := 94) dX6_bill_93 rfl ?_
    obtain ⟨g3, h⟩ := gs h
    cases h
    exact X_iret dX6_bill_94 rfl (k ⟨g3, f1.2⟩)
  have h := if_f c2 h
  refine X_iconst (pc' := 85) dX6_bill_84 rfl ?_
  refine X_goto dX6_bill_85 (tgt := 94) rfl ?_
  cases h
  exact X_iret dX6_bill_94 rfl (k ⟨(inR_c (n := 0) rfl), f1.2⟩)
def fX6_bill_b76 (v4 : Int) (v6 : Int) (z : ZZ) : Option (Int × ZZ) := fX6_bill_b77 (v4) (v6) (0) z
set_option maxRecDepth 100000 in
theorem BX6_bill_76 {ln N : Nat} {z : ZZ} {v4 : Int} {v6 : Int} {c9 s9 : Nat} {Φ : xRes → xS → Prop} (hN : 159 ≤ N ∧ N < 999999) (hz : okz z) (rv4 : inL v4) (rv6 : inL v6) {p : Int × ZZ} (h : fX6_bill_b76 v4 v6 z = some p) (k : Fin_wi Φ ln N p) : X mX6_bill 76 [none, none, none, none, some (.long (lI (v4))), none, some (.long (lI (v6))), none] [.ref (151)] (zmk ln N z) c9 s9 Φ := by
  unfold fX6_bill_b76 at h
  refine X_iconst (pc' := 77) dX6_bill_76 rfl ?_
  exact X_sub (sub_n (sub_n (sub_n (sub_n (sub_s (sub_n (sub_s (sub_n sub_0)))))))) (BX6_bill_77 hN hz rv4 rv6 (inR_c (n := 0) rfl) h k)
def fX6_bill (v1 : Int) (v2 : Int) (v3 : Int) (z : ZZ) : Option (Int × ZZ) := (zl (zup z 151 0 (0)) fun z1 => (Option.bind (fX6_isMember (v1) z1) fun r2 => (Option.bind (fX6_fails (r2) (1) z1) fun q3 => match q3 with | (r3, z3) => (if (r3) = (0) then (Option.bind (fX6_memberPart (v1) (2) z3) fun r5 => (Option.bind (fX6_memberPart (v1) (5) z3) fun r6 => (Option.bind (fX6_isInt ((r5 * v2)) z3) fun r7 => (if (r7) = (0) then fX6_bill_b76 ((r5 * v2)) ((r6 * v3)) z3 else (Option.bind (fX6_isInt ((r6 * v3)) z3) fun r9 => (if (r9) = (0) then fX6_bill_b76 ((r5 * v2)) ((r6 * v3)) z3 else (if inL (((r5 * v2) + (r6 * v3))) then (Option.bind (fX6_isInt (((r5 * v2) + (r6 * v3))) z3) fun r12 => (if (r12) = (0) then fX6_bill_b76 ((r5 * v2)) ((r6 * v3)) z3 else fX6_bill_b77 ((r5 * v2)) ((r6 * v3)) (1) z3)) else none))))))) else some (0, z3)))))
set_option maxRecDepth 100000 in
theorem CX6_bill {ln N : Nat} {z : ZZ} {v1 : Int} {v2 : Int} {v3 : Int} (hN : 159 ≤ N ∧ N < 999999) (hz : okz z) (rv1 : inR v1) (rv2 : inR v2) (rv3 : inR v3) {p : Int × ZZ} (h : fX6_bill v1 v2 v3 z = some p) : X mX6_bill 0 (xEnt [.ref (151), .int (iN (v1)), .int (iN (v2)), .int (iN (v3))] (xL mX6_bill)) [] (zmk ln N z) (cc_wi p) (6 * cc_wi p) (Qd (fa_wi p) (rs_wi p) (st_wi ln N p)) := by
  have k : Fin_wi (Qd (fa_wi p) (rs_wi p) (st_wi ln N p)) ln N p := Fin_wi_i
  unfold fX6_bill at h
  refine X_to (M := [some (.ref (151)), some (.int (iN (v1))), some (.int (iN (v2))), some (.int (iN (v3))), none, none, none, none]) (su := []) rfl rfl ?_
  refine X_aload_n (pc' := 1) dX6_bill_0 rfl rfl ?_
  refine X_iconst (pc' := 2) dX6_bill_1 rfl ?_
  refine Y_put (k := 0) (j := 0) (v := 0) (pc' := 5) dX6_bill_2 rfl FX6_51 (zlN hN (by decide)) (congrArg Prod.fst (sh151 ln)) (fun r hr => by cases hr; rfl) (xFit_int _) rfl rfl ?_
  obtain ⟨z1, e1, hz1, h⟩ := zl_some (P := okz) h (okz_up hz (inR_c (n := 0) rfl))
  rw [e1]
  refine X_aload_n (pc' := 6) dX6_bill_5 rfl rfl ?_
  refine X_aload_n (pc' := 7) dX6_bill_6 rfl rfl ?_
  refine X_iload_n (pc' := 8) dX6_bill_7 rfl rfl ?_
  obtain ⟨r2, q2, h⟩ := bs h
  refine Y_callV [.int (iN (v1))] (pc' := 11) dX6_bill_8 rfl VX6_244 (by decide) (zlN hN (by decide)) (congrArg Prod.fst (sh151 ln)) rfl rfl rfl (cs rfl) (cs rfl) rfl (CX6_isMember hN hz1 rv1 q2) (Nat.zero_add _).symm (Nat.zero_add _).symm (fun f2 => ?_)
  refine X_iconst (pc' := 12) dX6_bill_11 rfl ?_
  obtain ⟨⟨r3, z3⟩, q3, h⟩ := bs h
  refine Y_callV [.int (iN (r2)), .int (iN (1))] (pc' := 15) dX6_bill_12 rfl VX6_62 (by decide) (zlN hN (by decide)) (congrArg Prod.fst (sh151 ln)) rfl rfl rfl (cs rfl) (cs rfl) rfl (CX6_fails hN hz1 (inR_b f2) (inR_c (n := 1) rfl) q3) (Nat.zero_add _).symm (Nat.zero_add _).symm (fun f3 => ?_)
  refine X_if_eq dX6_bill_15 (tgt := 20) rfl (pc' := 18) rfl (inR_b f3.1) (fun c4 => ?_) (fun c4 => ?_)
  · have h := if_t c4 h
    refine X_aload_n (pc' := 21) dX6_bill_20 rfl rfl ?_
    refine X_iload_n (pc' := 22) dX6_bill_21 rfl rfl ?_
    refine X_iconst (pc' := 23) dX6_bill_22 rfl ?_
    obtain ⟨r5, q5, h⟩ := bs h
    refine Y_callV [.int (iN (v1)), .int (iN (2))] (pc' := 26) dX6_bill_23 rfl VX6_207 (by decide) (zlN hN (by decide)) (congrArg Prod.fst (sh151 ln)) rfl rfl rfl (cs rfl) (cs rfl) rfl (CX6_memberPart hN f3.2 rv1 (inR_c (n := 2) rfl) q5) (Nat.zero_add _).symm (Nat.zero_add _).symm (fun f5 => ?_)
    refine X_lI_i2l (pc' := 27) dX6_bill_26 rfl f5 ?_
    refine X_iload_n (pc' := 28) dX6_bill_27 rfl rfl ?_
    refine X_lI_i2l (pc' := 29) dX6_bill_28 rfl rv2 ?_
    refine X_lI_mul (pc' := 30) dX6_bill_29 rfl ?_
    refine X_lstore (pc' := 32) dX6_bill_30 rfl (cl rfl) (Or.inr rfl) (L' := [some (.ref (151)), some (.int (iN (v1))), some (.int (iN (v2))), some (.int (iN (v3))), some (.long (lI ((r5 * v2)))), none, none, none]) rfl ?_
    refine X_aload_n (pc' := 33) dX6_bill_32 rfl rfl ?_
    refine X_iload_n (pc' := 34) dX6_bill_33 rfl rfl ?_
    refine X_iconst (pc' := 35) dX6_bill_34 rfl ?_
    obtain ⟨r6, q6, h⟩ := bs h
    refine Y_callV [.int (iN (v1)), .int (iN (5))] (pc' := 38) dX6_bill_35 rfl VX6_207 (by decide) (zlN hN (by decide)) (congrArg Prod.fst (sh151 ln)) rfl rfl rfl (cs rfl) (cs rfl) rfl (CX6_memberPart hN f3.2 rv1 (inR_c (n := 5) rfl) q6) (Nat.zero_add _).symm (Nat.zero_add _).symm (fun f6 => ?_)
    refine X_lI_i2l (pc' := 39) dX6_bill_38 rfl f6 ?_
    refine X_iload_n (pc' := 40) dX6_bill_39 rfl rfl ?_
    refine X_lI_i2l (pc' := 41) dX6_bill_40 rfl rv3 ?_
    refine X_lI_mul (pc' := 42) dX6_bill_41 rfl ?_
    refine X_lstore (pc' := 44) dX6_bill_42 rfl (cl rfl) (Or.inr rfl) (L' := [some (.ref (151)), some (.int (iN (v1))), some (.int (iN (v2))), some (.int (iN (v3))), some (.long (lI ((r5 * v2)))), none, some (.long (lI ((r6 * v3)))), none]) rfl ?_
    refine X_aload_n (pc' := 45) dX6_bill_44 rfl rfl ?_
    refine X_lload (pc' := 47) dX6_bill_45 rfl rfl ?_
    obtain ⟨r7, q7, h⟩ := bs h
    refine Y_callS [.long (lI ((r5 * v2)))] (pc' := 50) dX6_bill_47 rfl SX6_308 (by decide) rfl (cs rfl) (cs rfl) rfl (CX6_isInt hN f3.2 (inL_mul f5 rv2) q7) (Nat.zero_add _).symm (Nat.zero_add _).symm (fun f7 => ?_)
    refine X_if_eq dX6_bill_50 (tgt := 76) rfl (pc' := 53) rfl (inR_b f7) (fun c8 => ?_) (fun c8 => ?_)
    · have h := if_t c8 h
      exact X_sub (sub_n (sub_n (sub_n (sub_n (sub_s (sub_n (sub_s (sub_n sub_0)))))))) (BX6_bill_76 hN f3.2 (inL_mul f5 rv2) (inL_mul f6 rv3) h k)
    have h := if_f c8 h
    refine X_lload (pc' := 55) dX6_bill_53 rfl rfl ?_
    obtain ⟨r9, q9, h⟩ := bs h
    refine Y_callS [.long (lI ((r6 * v3)))] (pc' := 58) dX6_bill_55 rfl SX6_308 (by decide) rfl (cs rfl) (cs rfl) rfl (CX6_isInt hN f3.2 (inL_mul f6 rv3) q9) (Nat.zero_add _).symm (Nat.zero_add _).symm (fun f9 => ?_)
    refine X_if_eq dX6_bill_58 (tgt := 76) rfl (pc' := 61) rfl (inR_b f9) (fun c10 => ?_) (fun c10 => ?_)
    · have h := if_t c10 h
      exact X_sub (sub_n (sub_n (sub_n (sub_n (sub_s (sub_n (sub_s (sub_n sub_0)))))))) (BX6_bill_76 hN f3.2 (inL_mul f5 rv2) (inL_mul f6 rv3) h k)
    have h := if_f c10 h
    refine X_lload (pc' := 63) dX6_bill_61 rfl rfl ?_
    refine X_lload (pc' := 65) dX6_bill_63 rfl rfl ?_
    refine X_lI_add (pc' := 66) dX6_bill_65 rfl ?_
    obtain ⟨g11, h⟩ := gs h
    obtain ⟨r12, q12, h⟩ := bs h
    refine Y_callS [.long (lI (((r5 * v2) + (r6 * v3))))] (pc' := 69) dX6_bill_66 rfl SX6_308 (by decide) rfl (cs rfl) (cs rfl) rfl (CX6_isInt hN f3.2 g11 q12) (Nat.zero_add _).symm (Nat.zero_add _).symm (fun f12 => ?_)
    refine X_if_eq dX6_bill_69 (tgt := 76) rfl (pc' := 72) rfl (inR_b f12) (fun c13 => ?_) (fun c13 => ?_)
    · have h := if_t c13 h
      exact X_sub (sub_n (sub_n (sub_n (sub_n (sub_s (sub_n (sub_s (sub_n sub_0)))))))) (BX6_bill_76 hN f3.2 (inL_mul f5 rv2) (inL_mul f6 rv3) h k)
    have h := if_f c13 h
    refine X_iconst (pc' := 73) dX6_bill_72 rfl ?_
    refine X_goto dX6_bill_73 (tgt := 77) rfl ?_
    exact X_sub (sub_n (sub_n (sub_n (sub_n (sub_s (sub_n (sub_s (sub_n sub_0)))))))) (BX6_bill_77 hN f3.2 (inL_mul f5 rv2) (inL_mul f6 rv3) (inR_c (n := 1) rfl) h k)
  have h := if_f c4 h
  refine X_iconst (pc' := 19) dX6_bill_18 rfl ?_
  cases h
  exact X_iret dX6_bill_19 rfl (k ⟨(inR_c (n := 0) rfl), f3.2⟩)
def fX6_bits_s4 (v1 : Int) (v2 : Int) (z : ZZ) : Option ((Int × Int) ⊕ (Int)) := (if (v2) = (0) then some (.inr v1) else (if inR ((v1 + 1)) then some (.inl ((v1 + 1), (zand v2 (v2 - 1)))) else none))
set_option maxRecDepth 100000 in
theorem SX6_bits_4 {ln N : Nat} {z : ZZ} {v1 : Int} {v2 : Int} {c9 s9 : Nat} {Φ : xRes → xS → Prop} (hN : 159 ≤ N ∧ N < 999999) (hz : okz z) (rv1 : inR v1) (rv2 : inR v2) {p : (Int × Int) ⊕ (Int)} (h : fX6_bits_s4 v1 v2 z = some p) (k1 : ∀ (v1' : Int) (v2' : Int), p = .inl (v1', v2') → inR v1' → inR v2' → X mX6_bits 4 [none, some (.int (iN (v1'))), some (.int (iN (v2')))] [] (zmk ln N z) c9 s9 Φ) (k2 : ∀ (v1' : Int), p = .inr v1' → inR v1' → X mX6_bits 20 [none, some (.int (iN (v1'))), none] [] (zmk ln N z) c9 s9 Φ) : X mX6_bits 4 [none, some (.int (iN (v1))), some (.int (iN (v2)))] [] (zmk ln N z) c9 s9 Φ := by
  unfold fX6_bits_s4 at h
  refine X_iload_n (pc' := 5) dX6_bits_4 rfl rfl ?_
  refine X_if_eq dX6_bits_5 (tgt := 20) rfl (pc' := 8) rfl rv2 (fun c1 => ?_) (fun c1 => ?_)
  · have h := if_t c1 h
    cases h
    exact X_sub (sub_n (sub_s (sub_n sub_0))) (k2 _ rfl rv1)
  have h := if_f c1 h
  refine X_iinc (pc' := 11) dX6_bits_8 rfl rfl (Or.inr rfl) (L' := [none, some (.int (iN (v1 + 1))), some (.int (iN (v2)))]) rfl ?_
  refine X_iload_n (pc' := 12) dX6_bits_11 rfl rfl ?_
  refine X_iload_n (pc' := 13) dX6_bits_12 rfl rfl ?_
  refine X_iconst (pc' := 14) dX6_bits_13 rfl ?_
  refine X_isub (pc' := 15) dX6_bits_14 rfl ?_
  refine X_iand (pc' := 16) dX6_bits_15 rfl ?_
  refine X_istore_n (pc' := 17) dX6_bits_16 rfl (cl rfl) (Or.inr rfl) (L' := [none, some (.int (iN ((v1 + 1)))), some (.int (iN ((zand v2 (v2 - 1)))))]) rfl ?_
  refine X_goto dX6_bits_17 (tgt := 4) rfl ?_
  obtain ⟨g2, h⟩ := gs h
  cases h
  exact X_sub (sub_n (sub_s (sub_s sub_0))) (k1 _ _ rfl g2 (inR_zand _ _))
theorem LX6_bits_4 {ln N : Nat} {z : ZZ} {c9 s9 : Nat} {Φ : xRes → xS → Prop} (hN : 159 ≤ N ∧ N < 999999) (hz : okz z) {r : Int} (k2 : ∀ (v1' : Int), r = v1' → inR v1' → X mX6_bits 20 [none, some (.int (iN (v1'))), none] [] (zmk ln N z) c9 s9 Φ) : ∀ (n : Nat) (v1 : Int) (v2 : Int), inR v1 → inR v2 → zlp (fun q => fX6_bits_s4 q.1 q.2 z) n (v1, v2) = some r → X mX6_bits 4 [none, some (.int (iN (v1))), some (.int (iN (v2)))] [] (zmk ln N z) c9 s9 Φ := by
  intro n
  induction n with
  | zero => intro v1 v2 rv1 rv2 h; cases h
  | succ n ih =>
    intro v1 v2 rv1 rv2 h
    rcases zlp_s h with ⟨⟨v1', v2'⟩, e, h'⟩ | e
    · exact SX6_bits_4 hN hz rv1 rv2 e (fun v1₁ v2₁ hh f0 f1 => by cases hh; exact ih _ _ f0 f1 h') (fun v1₁ hh f0 => by cases hh)
    · exact SX6_bits_4 hN hz rv1 rv2 e (fun v1₁ v2₁ hh f0 f1 => by cases hh) (fun v1₁ hh f0 => by cases hh; exact k2 _ rfl f0)
def fX6_bits (v0 : Int) (z : ZZ) : Option (Int) := (Option.bind (zlp (fun q => fX6_bits_s4 q.1 q.2 z) FU (0, v0)) fun x1_v1 => some (x1_v1))
set_option maxRecDepth 100000 in
theorem CX6_bits {ln N : Nat} {z : ZZ} {v0 : Int} (hN : 159 ≤ N ∧ N < 999999) (hz : okz z) (rv0 : inR v0) {p : Int} (h : fX6_bits v0 z = some p) : X mX6_bits 0 (xEnt [.int (iN (v0))] (xL mX6_bits)) [] (zmk ln N z) (cc_r p) (6 * cc_r p) (Qd (fa_r p) (rs_r p) (st_r ln N z p)) := by
  have k : Fin_r (Qd (fa_r p) (rs_r p) (st_r ln N z p)) ln N z p := Fin_r_i
  unfold fX6_bits at h
  refine X_to (M := [some (.int (iN (v0))), none, none]) (su := []) rfl rfl ?_
  refine X_iconst (pc' := 1) dX6_bits_0 rfl ?_
  refine X_istore_n (pc' := 2) dX6_bits_1 rfl (cl rfl) (Or.inr rfl) (L' := [some (.int (iN (v0))), some (.int (iN (0))), none]) rfl ?_
  refine X_iload_n (pc' := 3) dX6_bits_2 rfl rfl ?_
  refine X_istore_n (pc' := 4) dX6_bits_3 rfl (cl rfl) (Or.inr rfl) (L' := [some (.int (iN (v0))), some (.int (iN (0))), some (.int (iN (v0)))]) rfl ?_
  obtain ⟨x1_v1, q1, h⟩ := bs h
  refine X_sub (sub_n (sub_s (sub_s sub_0))) (LX6_bits_4 hN hz (fun x1_v1₁ hh rx1_v1 => ?_) FU _ _ (inR_c (n := 0) rfl) rv0 q1)
  cases hh
  refine X_iload_n (pc' := 21) dX6_bits_20 rfl rfl ?_
  cases h
  exact X_iret dX6_bits_21 rfl (k rx1_v1)
def fX6_isHarness (v1 : Int) (z : ZZ) : Option (Int) := (if inR (((z 154 (470)) - 1)) then (Option.bind (fX6_in (v1) (0) (((z 154 (470)) - 1)) z) fun r2 => some (r2)) else none)
set_option maxRecDepth 100000 in
theorem CX6_isHarness {ln N : Nat} {z : ZZ} {v1 : Int} (hN : 159 ≤ N ∧ N < 999999) (hz : okz z) (rv1 : inR v1) {p : Int} (h : fX6_isHarness v1 z = some p) : X mX6_isHarness 0 (xEnt [.ref (151), .int (iN (v1))] (xL mX6_isHarness)) [] (zmk ln N z) (cc_b p) (6 * cc_b p) (Qd (fa_b p) (rs_b p) (st_b ln N z p)) := by
  have k : Fin_b (Qd (fa_b p) (rs_b p) (st_b ln N z p)) ln N z p := Fin_b_i
  unfold fX6_isHarness at h
  refine X_to (M := [some (.ref (151)), some (.int (iN (v1)))]) (su := []) rfl rfl ?_
  refine X_iload_n (pc' := 1) dX6_isHarness_0 rfl rfl ?_
  refine X_lI_i2l (pc' := 2) dX6_isHarness_1 rfl rv1 ?_
  refine X_lI_const (pc' := 3) dX6_isHarness_2 rfl (a := 0) rfl ?_
  refine X_aload_n (pc' := 4) dX6_isHarness_3 rfl rfl ?_
  refine Y_get (pc' := 7) dX6_isHarness_4 rfl FX6_16 (zlN hN (by decide)) (congrArg Prod.fst (sh151 ln)) (ct151_9 z) ?_
  refine X_sipush (pc' := 10) dX6_isHarness_7 rfl (by decide) ?_
  refine Y_iald (pc' := 11) dX6_isHarness_10 rfl (zlN hN (by decide)) (sh154 ln) (by decide) ⟨by decide, by decide⟩ ?_
  refine X_iconst (pc' := 12) dX6_isHarness_11 rfl ?_
  refine X_isub (pc' := 13) dX6_isHarness_12 rfl ?_
  obtain ⟨g1, h⟩ := gs h
  refine X_lI_i2l (pc' := 14) dX6_isHarness_13 rfl g1 ?_
  obtain ⟨r2, q2, h⟩ := bs h
  refine Y_callS [.long (lI (v1)), .long (lI (0)), .long (lI (((z 154 (470)) - 1)))] (pc' := 17) dX6_isHarness_14 rfl SX6_66 (by decide) rfl (cs rfl) (cs rfl) rfl (CX6_in hN hz (inL_R rv1) (inL_c (n := 0) rfl) (inL_R g1) q2) (Nat.zero_add _).symm (Nat.zero_add _).symm (fun f2 => ?_)
  cases h
  exact X_zret dX6_isHarness_17 rfl f2 (k f2)
def fX6_isLent (v1 : Int) (z : ZZ) : Option (Int) := (Option.bind (fX6_harnessPart (v1) (4) z) fun r1 => (if (r1) = (1) then some (1) else some (0)))
set_option maxRecDepth 100000 in
theorem CX6_isLent {ln N : Nat} {z : ZZ} {v1 : Int} (hN : 159 ≤ N ∧ N < 999999) (hz : okz z) (rv1 : inR v1) {p : Int} (h : fX6_isLent v1 z = some p) : X mX6_isLent 0 (xEnt [.ref (151), .int (iN (v1))] (xL mX6_isLent)) [] (zmk ln N z) (cc_b p) (6 * cc_b p) (Qd (fa_b p) (rs_b p) (st_b ln N z p)) := by
  have k : Fin_b (Qd (fa_b p) (rs_b p) (st_b ln N z p)) ln N z p := Fin_b_i
  unfold fX6_isLent at h
  refine X_to (M := [some (.ref (151)), some (.int (iN (v1)))]) (su := []) rfl rfl ?_
  refine X_aload_n (pc' := 1) dX6_isLent_0 rfl rfl ?_
  refine X_iload_n (pc' := 2) dX6_isLent_1 rfl rfl ?_
  refine X_iconst (pc' := 3) dX6_isLent_2 rfl ?_
  obtain ⟨r1, q1, h⟩ := bs h
  refine Y_callV [.int (iN (v1)), .int (iN (4))] (pc' := 6) dX6_isLent_3 rfl VX6_198 (by decide) (zlN hN (by decide)) (congrArg Prod.fst (sh151 ln)) rfl rfl rfl (cs rfl) (cs rfl) rfl (CX6_harnessPart hN hz rv1 (inR_c (n := 4) rfl) q1) (Nat.zero_add _).symm (Nat.zero_add _).symm (fun f1 => ?_)
  refine X_iconst (pc' := 7) dX6_isLent_6 rfl ?_
  refine X_icmp_ne dX6_isLent_7 (tgt := 14) rfl (pc' := 10) rfl ⟨f1.1, f1.2, (inR_c (n := 1) rfl).1, (inR_c (n := 1) rfl).2⟩ (fun c2 => ?_) (fun c2 => ?_)
  · have h := if_f c2 h
    refine X_iconst (pc' := 15) dX6_isLent_14 rfl ?_
    cases h
    exact X_zret dX6_isLent_15 rfl (Or.inl rfl) (k (Or.inl rfl))
  have h := if_t c2 h
  refine X_iconst (pc' := 11) dX6_isLent_10 rfl ?_
  refine X_goto dX6_isLent_11 (tgt := 15) rfl ?_
  cases h
  exact X_zret dX6_isLent_15 rfl (Or.inr rfl) (k (Or.inr rfl))
def fX6_record_s54 (v1 : Int) (z : ZZ) : Option ((Int × ZZ) ⊕ (ZZ)) := (if (v1) < (765) then (if (0 : Int) ≤ (v1) ∧ (v1) < (765 : Int) then (if (0 : Int) ≤ (((765 * (z 151 12)) + v1)) ∧ (((765 * (z 151 12)) + v1)) < (6120 : Int) then (zl (zup z 156 (((765 * (z 151 12)) + v1)) ((z 154 (v1)))) fun z4 => (if inR ((v1 + 1)) then some (.inl ((v1 + 1), z4)) else none)) else none) else none) else some (.inr z))
set_option maxRecDepth 100000 in
theorem SX6_record_54 {ln N : Nat} {z : ZZ} {v1 : Int} {c9 s9 : Nat} {Φ : xRes → xS → Prop} (hN : 159 ≤ N ∧ N < 999999) (hz : okz z) (rv1 : inR v1) {p : (Int × ZZ) ⊕ (ZZ)} (h : fX6_record_s54 v1 z = some p) (k1 : ∀ (v1' : Int) (z' : ZZ), p = .inl (v1', z') → inR v1' → okz z' → X mX6_record 54 [some (.ref (151)), some (.int (iN (v1')))] [] (zmk ln N z') c9 s9 Φ) (k2 : ∀ (z' : ZZ), p = .inr z' → okz z' → X mX6_record 88 [some (.ref (151)), none] [] (zmk ln N z') c9 s9 Φ) : X mX6_record 54 [some (.ref (151)), some (.int (iN (v1)))] [] (zmk ln N z) c9 s9 Φ := by
  unfold fX6_record_s54 at h
  refine X_iload_n (pc' := 55) dX6_record_54 rfl rfl ?_
  refine X_sipush (pc' := 58) dX6_record_55 rfl (by decide) ?_
  refine X_icmp_ge dX6_record_58 (tgt := 88) rfl (pc' := 61) rfl ⟨rv1.1, rv1.2, (inR_c (n := 765) rfl).1, (inR_c (n := 765) rfl).2⟩ (fun c1 => ?_) (fun c1 => ?_)
  · have h := if_f (Int.not_lt.mpr c1) h
    cases h
    exact X_sub (sub_s (sub_n sub_0)) (k2 _ rfl hz)
  have h := if_t c1 h
  refine X_aload_n (pc' := 62) dX6_record_61 rfl rfl ?_
  refine Y_get (pc' := 65) dX6_record_62 rfl FX6_22 (zlN hN (by decide)) (congrArg Prod.fst (sh151 ln)) (ct151_11 z) ?_
  refine X_sipush (pc' := 68) dX6_record_65 rfl (by decide) ?_
  refine X_aload_n (pc' := 69) dX6_record_68 rfl rfl ?_
  refine Y_get (pc' := 72) dX6_record_69 rfl FX6_152 (zlN hN (by decide)) (congrArg Prod.fst (sh151 ln)) (ct151_12 z) ?_
  refine X_imul (pc' := 73) dX6_record_72 rfl ?_
  refine X_iload_n (pc' := 74) dX6_record_73 rfl rfl ?_
  refine X_iadd (pc' := 75) dX6_record_74 rfl ?_
  refine X_aload_n (pc' := 76) dX6_record_75 rfl rfl ?_
  refine Y_get (pc' := 79) dX6_record_76 rfl FX6_16 (zlN hN (by decide)) (congrArg Prod.fst (sh151 ln)) (ct151_9 z) ?_
  refine X_iload_n (pc' := 80) dX6_record_79 rfl rfl ?_
  obtain ⟨g2, h⟩ := gs h
  refine Y_iald (pc' := 81) dX6_record_80 rfl (zlN hN (by decide)) (sh154 ln) (by decide) g2 ?_
  obtain ⟨g3, h⟩ := gs h
  refine Y_iast (pc' := 82) dX6_record_81 rfl (zlN hN (by decide)) (sh156 ln) (by decide) g3 ?_
  obtain ⟨z4, e4, hz4, h⟩ := zl_some (P := okz) h (okz_up hz (hz 154 (v1) (by decide)))
  rw [e4]
  refine X_iinc (pc' := 85) dX6_record_82 rfl rfl (Or.inr rfl) (L' := [some (.ref (151)), some (.int (iN (v1 + 1)))]) rfl ?_
  refine X_goto dX6_record_85 (tgt := 54) rfl ?_
  obtain ⟨g5, h⟩ := gs h
  cases h
  exact X_sub (sub_s (sub_s sub_0)) (k1 _ _ rfl g5 hz4)
theorem LX6_record_54 {ln N : Nat} {c9 s9 : Nat} {Φ : xRes → xS → Prop} (hN : 159 ≤ N ∧ N < 999999) {r : ZZ} (k2 : ∀ (z' : ZZ), r = z' → okz z' → X mX6_record 88 [some (.ref (151)), none] [] (zmk ln N z') c9 s9 Φ) : ∀ (n : Nat) (v1 : Int) (z : ZZ), inR v1 → okz z → zlp (fun q => fX6_record_s54 q.1 q.2) n (v1, z) = some r → X mX6_record 54 [some (.ref (151)), some (.int (iN (v1)))] [] (zmk ln N z) c9 s9 Φ := by
  intro n
  induction n with
  | zero => intro v1 z rv1 hz h; cases h
  | succ n ih =>
    intro v1 z rv1 hz h
    rcases zlp_s h with ⟨⟨v1', z'⟩, e, h'⟩ | e
    · exact SX6_record_54 hN hz rv1 e (fun v1₁ z₁ hh f0 f1 => by cases hh; exact ih _ _ f0 f1 h') (fun z₁ hh f0 => by cases hh)
    · exact SX6_record_54 hN hz rv1 e (fun v1₁ z₁ hh f0 f1 => by cases hh) (fun z₁ hh f0 => by cases hh; exact k2 _ rfl f0)
def fX6_record_b52 (z : ZZ) : Option (ZZ) := (Option.bind (zlp (fun q => fX6_record_s54 q.1 q.2) FU (0, z)) fun x1_z => (if inR (((x1_z 151 12) + 1)) then (zl (zup x1_z 151 12 (((x1_z 151 12) + 1))) fun z3 => some z3) else none))
set_option maxRecDepth 100000 in
theorem BX6_record_52 {ln N : Nat} {z : ZZ} {c9 s9 : Nat} {Φ : xRes → xS → Prop} (hN : 159 ≤ N ∧ N < 999999) (hz : okz z) {p : ZZ} (h : fX6_record_b52 z = some p) (k : Fin_w Φ ln N p) : X mX6_record 52 [some (.ref (151)), none] [] (zmk ln N z) c9 s9 Φ := by
  unfold fX6_record_b52 at h
  refine X_iconst (pc' := 53) dX6_record_52 rfl ?_
  refine X_istore_n (pc' := 54) dX6_record_53 rfl (cl rfl) (Or.inr rfl) (L' := [some (.ref (151)), some (.int (iN (0)))]) rfl ?_
  obtain ⟨x1_z, q1, h⟩ := bs h
  refine X_sub (sub_s (sub_s sub_0)) (LX6_record_54 hN (fun x1_z₁ hh hx1_z => ?_) FU _ _ (inR_c (n := 0) rfl) hz q1)
  cases hh
  refine X_aload_n (pc' := 89) dX6_record_88 rfl rfl ?_
  refine X_dup (pc' := 90) dX6_record_89 rfl rfl ?_
  refine Y_get (pc' := 93) dX6_record_90 rfl FX6_152 (zlN hN (by decide)) (congrArg Prod.fst (sh151 ln)) (ct151_12 x1_z) ?_
  refine X_iconst (pc' := 94) dX6_record_93 rfl ?_
  refine X_iadd (pc' := 95) dX6_record_94 rfl ?_
  obtain ⟨g2, h⟩ := gs h
  refine Y_put (k := 12) (j := 12) (v := ((x1_z 151 12) + 1)) (pc' := 98) dX6_record_95 rfl FX6_152 (zlN hN (by decide)) (congrArg Prod.fst (sh151 ln)) (fun r hr => by cases hr; rfl) (xFit_int _) rfl rfl ?_
  obtain ⟨z3, e3, hz3, h⟩ := zl_some (P := okz) h (okz_up hx1_z g2)
  rw [e3]
  cases h
  exact X_vret dX6_record_98 rfl (k hz3)
def fX6_record_s13 (v1 : Int) (z : ZZ) : Option ((Int × ZZ) ⊕ (ZZ)) := (if (v1) < (6120) then (if (0 : Int) ≤ (v1) ∧ (v1) < (6120 : Int) then (if (0 : Int) ≤ ((v1 - 765)) ∧ ((v1 - 765)) < (6120 : Int) then (zl (zup z 156 ((v1 - 765)) ((z 156 (v1)))) fun z4 => (if inR ((v1 + 1)) then some (.inl ((v1 + 1), z4)) else none)) else none) else none) else some (.inr z))
set_option maxRecDepth 100000 in
theorem SX6_record_13 {ln N : Nat} {z : ZZ} {v1 : Int} {c9 s9 : Nat} {Φ : xRes → xS → Prop} (hN : 159 ≤ N ∧ N < 999999) (hz : okz z) (rv1 : inR v1) {p : (Int × ZZ) ⊕ (ZZ)} (h : fX6_record_s13 v1 z = some p) (k1 : ∀ (v1' : Int) (z' : ZZ), p = .inl (v1', z') → inR v1' → okz z' → X mX6_record 13 [some (.ref (151)), some (.int (iN (v1')))] [] (zmk ln N z') c9 s9 Φ) (k2 : ∀ (z' : ZZ), p = .inr z' → okz z' → X mX6_record 42 [some (.ref (151)), none] [] (zmk ln N z') c9 s9 Φ) : X mX6_record 13 [some (.ref (151)), some (.int (iN (v1)))] [] (zmk ln N z) c9 s9 Φ := by
  unfold fX6_record_s13 at h
  refine X_iload_n (pc' := 14) dX6_record_13 rfl rfl ?_
  refine X_sipush (pc' := 17) dX6_record_14 rfl (by decide) ?_
  refine X_icmp_ge dX6_record_17 (tgt := 42) rfl (pc' := 20) rfl ⟨rv1.1, rv1.2, (inR_c (n := 6120) rfl).1, (inR_c (n := 6120) rfl).2⟩ (fun c1 => ?_) (fun c1 => ?_)
  · have h := if_f (Int.not_lt.mpr c1) h
    cases h
    exact X_sub (sub_s (sub_n sub_0)) (k2 _ rfl hz)
  have h := if_t c1 h
  refine X_aload_n (pc' := 21) dX6_record_20 rfl rfl ?_
  refine Y_get (pc' := 24) dX6_record_21 rfl FX6_22 (zlN hN (by decide)) (congrArg Prod.fst (sh151 ln)) (ct151_11 z) ?_
  refine X_iload_n (pc' := 25) dX6_record_24 rfl rfl ?_
  refine X_sipush (pc' := 28) dX6_record_25 rfl (by decide) ?_
  refine X_isub (pc' := 29) dX6_record_28 rfl ?_
  refine X_aload_n (pc' := 30) dX6_record_29 rfl rfl ?_
  refine Y_get (pc' := 33) dX6_record_30 rfl FX6_22 (zlN hN (by decide)) (congrArg Prod.fst (sh151 ln)) (ct151_11 z) ?_
  refine X_iload_n (pc' := 34) dX6_record_33 rfl rfl ?_
  obtain ⟨g2, h⟩ := gs h
  refine Y_iald (pc' := 35) dX6_record_34 rfl (zlN hN (by decide)) (sh156 ln) (by decide) g2 ?_
  obtain ⟨g3, h⟩ := gs h
  refine Y_iast (pc' := 36) dX6_record_35 rfl (zlN hN (by decide)) (sh156 ln) (by decide) g3 ?_
  obtain ⟨z4, e4, hz4, h⟩ := zl_some (P := okz) h (okz_up hz (hz 156 (v1) (by decide)))
  rw [e4]
  refine X_iinc (pc' := 39) dX6_record_36 rfl rfl (Or.inr rfl) (L' := [some (.ref (151)), some (.int (iN (v1 + 1)))]) rfl ?_
  refine X_goto dX6_record_39 (tgt := 13) rfl ?_
  obtain ⟨g5, h⟩ := gs h
  cases h
  exact X_sub (sub_s (sub_s sub_0)) (k1 _ _ rfl g5 hz4)
theorem LX6_record_13 {ln N : Nat} {c9 s9 : Nat} {Φ : xRes → xS → Prop} (hN : 159 ≤ N ∧ N < 999999) {r : ZZ} (k2 : ∀ (z' : ZZ), r = z' → okz z' → X mX6_record 42 [some (.ref (151)), none] [] (zmk ln N z') c9 s9 Φ) : ∀ (n : Nat) (v1 : Int) (z : ZZ), inR v1 → okz z → zlp (fun q => fX6_record_s13 q.1 q.2) n (v1, z) = some r → X mX6_record 13 [some (.ref (151)), some (.int (iN (v1)))] [] (zmk ln N z) c9 s9 Φ := by
  intro n
  induction n with
  | zero => intro v1 z rv1 hz h; cases h
  | succ n ih =>
    intro v1 z rv1 hz h
    rcases zlp_s h with ⟨⟨v1', z'⟩, e, h'⟩ | e
    · exact SX6_record_13 hN hz rv1 e (fun v1₁ z₁ hh f0 f1 => by cases hh; exact ih _ _ f0 f1 h') (fun z₁ hh f0 => by cases hh)
    · exact SX6_record_13 hN hz rv1 e (fun v1₁ z₁ hh f0 f1 => by cases hh) (fun z₁ hh f0 => by cases hh; exact k2 _ rfl f0)
def fX6_record (z : ZZ) : Option (ZZ) := (if ((z 151 12)) = (8) then (Option.bind (zlp (fun q => fX6_record_s13 q.1 q.2) FU (765, z)) fun x2_z => (if inR (((x2_z 151 12) - 1)) then (zl (zup x2_z 151 12 (((x2_z 151 12) - 1))) fun z4 => fX6_record_b52  z4) else none)) else fX6_record_b52  z)
set_option maxRecDepth 100000 in
theorem CX6_record {ln N : Nat} {z : ZZ} (hN : 159 ≤ N ∧ N < 999999) (hz : okz z) {p : ZZ} (h : fX6_record z = some p) : X mX6_record 0 (xEnt [.ref (151)] (xL mX6_record)) [] (zmk ln N z) (cc_w p) (6 * cc_w p) (Qd (fa_w p) (rs_w p) (st_w ln N p)) := by
  have k : Fin_w (Qd (fa_w p) (rs_w p) (st_w ln N p)) ln N p := Fin_w_i
  unfold fX6_record at h
  refine X_to (M := [some (.ref (151)), none]) (su := []) rfl rfl ?_
  refine X_aload_n (pc' := 1) dX6_record_0 rfl rfl ?_
  refine Y_get (pc' := 4) dX6_record_1 rfl FX6_152 (zlN hN (by decide)) (congrArg Prod.fst (sh151 ln)) (ct151_12 z) ?_
  refine X_bipush (pc' := 6) dX6_record_4 rfl (by decide) ?_
  refine X_icmp_ne dX6_record_6 (tgt := 52) rfl (pc' := 9) rfl ⟨(hz 151 12 (by decide)).1, (hz 151 12 (by decide)).2, (inR_c (n := 8) rfl).1, (inR_c (n := 8) rfl).2⟩ (fun c1 => ?_) (fun c1 => ?_)
  · have h := if_f c1 h
    exact X_sub (sub_s (sub_n sub_0)) (BX6_record_52 hN hz h k)
  have h := if_t c1 h
  refine X_sipush (pc' := 12) dX6_record_9 rfl (by decide) ?_
  refine X_istore_n (pc' := 13) dX6_record_12 rfl (cl rfl) (Or.inr rfl) (L' := [some (.ref (151)), some (.int (iN (765)))]) rfl ?_
  obtain ⟨x2_z, q2, h⟩ := bs h
  refine X_sub (sub_s (sub_s sub_0)) (LX6_record_13 hN (fun x2_z₁ hh hx2_z => ?_) FU _ _ (inR_c (n := 765) rfl) hz q2)
  cases hh
  refine X_aload_n (pc' := 43) dX6_record_42 rfl rfl ?_
  refine X_dup (pc' := 44) dX6_record_43 rfl rfl ?_
  refine Y_get (pc' := 47) dX6_record_44 rfl FX6_152 (zlN hN (by decide)) (congrArg Prod.fst (sh151 ln)) (ct151_12 x2_z) ?_
  refine X_iconst (pc' := 48) dX6_record_47 rfl ?_
  refine X_isub (pc' := 49) dX6_record_48 rfl ?_
  obtain ⟨g3, h⟩ := gs h
  refine Y_put (k := 12) (j := 12) (v := ((x2_z 151 12) - 1)) (pc' := 52) dX6_record_49 rfl FX6_152 (zlN hN (by decide)) (congrArg Prod.fst (sh151 ln)) (fun r hr => by cases hr; rfl) (xFit_int _) rfl rfl ?_
  obtain ⟨z4, e4, hz4, h⟩ := zl_some (P := okz) h (okz_up hx2_z g3)
  rw [e4]
  exact X_sub (sub_s (sub_n sub_0)) (BX6_record_52 hN hz4 h k)
def fX6_setHarness (v1 : Int) (v2 : Int) (v3 : Int) (z : ZZ) : Option (ZZ) := (if (0 : Int) ≤ (((471 + (5 * v1)) + v2)) ∧ (((471 + (5 * v1)) + v2)) < (765 : Int) then (zl (zup z 154 (((471 + (5 * v1)) + v2)) (v3)) fun z2 => some z2) else none)
set_option maxRecDepth 100000 in
theorem CX6_setHarness {ln N : Nat} {z : ZZ} {v1 : Int} {v2 : Int} {v3 : Int} (hN : 159 ≤ N ∧ N < 999999) (hz : okz z) (rv1 : inR v1) (rv2 : inR v2) (rv3 : inR v3) {p : ZZ} (h : fX6_setHarness v1 v2 v3 z = some p) : X mX6_setHarness 0 (xEnt [.ref (151), .int (iN (v1)), .int (iN (v2)), .int (iN (v3))] (xL mX6_setHarness)) [] (zmk ln N z) (cc_w p) (6 * cc_w p) (Qd (fa_w p) (rs_w p) (st_w ln N p)) := by
  have k : Fin_w (Qd (fa_w p) (rs_w p) (st_w ln N p)) ln N p := Fin_w_i
  unfold fX6_setHarness at h
  refine X_to (M := [some (.ref (151)), some (.int (iN (v1))), some (.int (iN (v2))), some (.int (iN (v3)))]) (su := []) rfl rfl ?_
  refine X_aload_n (pc' := 1) dX6_setHarness_0 rfl rfl ?_
  refine Y_get (pc' := 4) dX6_setHarness_1 rfl FX6_16 (zlN hN (by decide)) (congrArg Prod.fst (sh151 ln)) (ct151_9 z) ?_
  refine X_sipush (pc' := 7) dX6_setHarness_4 rfl (by decide) ?_
  refine X_iconst (pc' := 8) dX6_setHarness_7 rfl ?_
  refine X_iload_n (pc' := 9) dX6_setHarness_8 rfl rfl ?_
  refine X_imul (pc' := 10) dX6_setHarness_9 rfl ?_
  refine X_iadd (pc' := 11) dX6_setHarness_10 rfl ?_
  refine X_iload_n (pc' := 12) dX6_setHarness_11 rfl rfl ?_
  refine X_iadd (pc' := 13) dX6_setHarness_12 rfl ?_
  refine X_iload_n (pc' := 14) dX6_setHarness_13 rfl rfl ?_
  obtain ⟨g1, h⟩ := gs h
  refine Y_iast (pc' := 15) dX6_setHarness_14 rfl (zlN hN (by decide)) (sh154 ln) (by decide) g1 ?_
  obtain ⟨z2, e2, hz2, h⟩ := zl_some (P := okz) h (okz_up hz rv3)
  rw [e2]
  cases h
  exact X_vret dX6_setHarness_15 rfl (k hz2)
def fX6_check_b40 (v1 : Int) (v2 : Int) (s1 : Int) (z : ZZ) : Option (Int × ZZ) := (Option.bind (fX6_fails (s1) (2) z) fun q1 => match q1 with | (r1, z1) => (if (r1) = (0) then (Option.bind (fX6_record z1) fun z3 => (Option.bind (fX6_setHarness (v1) (2) ((z3 154 (3))) z3) fun z4 => (if (v2) = (0) then (Option.bind (fX6_setHarness (v1) (3) (1) z4) fun z7 => some ((-1), z7)) else (Option.bind (fX6_lapse (v1) z4) fun r6 => some (r6, z4))))) else some (0, z1)))
set_option maxRecDepth 100000 in
theorem BX6_check_40 {ln N : Nat} {z : ZZ} {v1 : Int} {v2 : Int} {s1 : Int} {c9 s9 : Nat} {Φ : xRes → xS → Prop} (hN : 159 ≤ N ∧ N < 999999) (hz : okz z) (rv1 : inR v1) (rv2 : inR v2) (rs1 : inR s1) {p : Int × ZZ} (h : fX6_check_b40 v1 v2 s1 z = some p) (k : Fin_wi Φ ln N p) : X mX6_check 40 [some (.ref (151)), some (.int (iN (v1))), some (.int (iN (v2)))] [.int (iN (s1)), .ref (151)] (zmk ln N z) c9 s9 Φ := by
  unfold fX6_check_b40 at h
  refine X_iconst (pc' := 41) dX6_check_40 rfl ?_
  obtain ⟨⟨r1, z1⟩, q1, h⟩ := bs h
  refine Y_callV [.int (iN (s1)), .int (iN (2))] (pc' := 44) dX6_check_41 rfl VX6_62 (by decide) (zlN hN (by decide)) (congrArg Prod.fst (sh151 ln)) rfl rfl rfl (cs rfl) (cs rfl) rfl (CX6_fails hN hz rs1 (inR_c (n := 2) rfl) q1) (Nat.zero_add _).symm (Nat.zero_add _).symm (fun f1 => ?_)
  refine X_if_eq dX6_check_44 (tgt := 49) rfl (pc' := 47) rfl (inR_b f1.1) (fun c2 => ?_) (fun c2 => ?_)
  · have h := if_t c2 h
    refine X_aload_n (pc' := 50) dX6_check_49 rfl rfl ?_
    obtain ⟨z3, q3, h⟩ := bs h
    refine Y_callVv [] (pc' := 53) dX6_check_50 rfl VX6_229 (by decide) (zlN hN (by decide)) (congrArg Prod.fst (sh151 ln)) rfl rfl rfl (cs rfl) (cs rfl) rfl (CX6_record hN f1.2 q3) (Nat.zero_add _).symm (Nat.zero_add _).symm (fun f3 => ?_)
    refine X_aload_n (pc' := 54) dX6_check_53 rfl rfl ?_
    refine X_iload_n (pc' := 55) dX6_check_54 rfl rfl ?_
    refine X_iconst (pc' := 56) dX6_check_55 rfl ?_
    refine X_aload_n (pc' := 57) dX6_check_56 rfl rfl ?_
    refine Y_get (pc' := 60) dX6_check_57 rfl FX6_16 (zlN hN (by decide)) (congrArg Prod.fst (sh151 ln)) (ct151_9 z3) ?_
    refine X_iconst (pc' := 61) dX6_check_60 rfl ?_
    refine Y_iald (pc' := 62) dX6_check_61 rfl (zlN hN (by decide)) (sh154 ln) (by decide) ⟨by decide, by decide⟩ ?_
    obtain ⟨z4, q4, h⟩ := bs h
    refine Y_callVv [.int (iN (v1)), .int (iN (2)), .int (iN ((z3 154 (3))))] (pc' := 65) dX6_check_62 rfl VX6_265 (by decide) (zlN hN (by decide)) (congrArg Prod.fst (sh151 ln)) rfl rfl rfl (cs rfl) (cs rfl) rfl (CX6_setHarness hN f3 rv1 (inR_c (n := 2) rfl) (f3 154 (3) (by decide)) q4) (Nat.zero_add _).symm (Nat.zero_add _).symm (fun f4 => ?_)
    refine X_iload_n (pc' := 66) dX6_check_65 rfl rfl ?_
    refine X_if_ne dX6_check_66 (tgt := 78) rfl (pc' := 69) rfl rv2 (fun c5 => ?_) (fun c5 => ?_)
    · have h := if_f c5 h
      refine X_aload_n (pc' := 79) dX6_check_78 rfl rfl ?_
      refine X_iload_n (pc' := 80) dX6_check_79 rfl rfl ?_
      obtain ⟨r6, q6, h⟩ := bs h
      refine Y_callV [.int (iN (v1))] (pc' := 83) dX6_check_80 rfl VX6_204 (by decide) (zlN hN (by decide)) (congrArg Prod.fst (sh151 ln)) rfl rfl rfl (cs rfl) (cs rfl) rfl (CX6_lapse hN f4 rv1 q6) (Nat.zero_add _).symm (Nat.zero_add _).symm (fun f6 => ?_)
      cases h
      exact X_iret dX6_check_83 rfl (k ⟨f6, f4⟩)
    have h := if_t c5 h
    refine X_aload_n (pc' := 70) dX6_check_69 rfl rfl ?_
    refine X_iload_n (pc' := 71) dX6_check_70 rfl rfl ?_
    refine X_iconst (pc' := 72) dX6_check_71 rfl ?_
    refine X_iconst (pc' := 73) dX6_check_72 rfl ?_
    obtain ⟨z7, q7, h⟩ := bs h
    refine Y_callVv [.int (iN (v1)), .int (iN (3)), .int (iN (1))] (pc' := 76) dX6_check_73 rfl VX6_265 (by decide) (zlN hN (by decide)) (congrArg Prod.fst (sh151 ln)) rfl rfl rfl (cs rfl) (cs rfl) rfl (CX6_setHarness hN f4 rv1 (inR_c (n := 3) rfl) (inR_c (n := 1) rfl) q7) (Nat.zero_add _).symm (Nat.zero_add _).symm (fun f7 => ?_)
    refine X_iconst (pc' := 77) dX6_check_76 rfl ?_
    cases h
    exact X_iret dX6_check_77 rfl (k ⟨(inR_c (n := (-1)) rfl), f7⟩)
  have h := if_f c2 h
  refine X_iconst (pc' := 48) dX6_check_47 rfl ?_
  cases h
  exact X_iret dX6_check_48 rfl (k ⟨(inR_c (n := 0) rfl), f1.2⟩)
def fX6_check_b39 (v1 : Int) (v2 : Int) (z : ZZ) : Option (Int × ZZ) := fX6_check_b40 (v1) (v2) (0) z
set_option maxRecDepth 100000 in
theorem BX6_check_39 {ln N : Nat} {z : ZZ} {v1 : Int} {v2 : Int} {c9 s9 : Nat} {Φ : xRes → xS → Prop} (hN : 159 ≤ N ∧ N < 999999) (hz : okz z) (rv1 : inR v1) (rv2 : inR v2) {p : Int × ZZ} (h : fX6_check_b39 v1 v2 z = some p) (k : Fin_wi Φ ln N p) : X mX6_check 39 [some (.ref (151)), some (.int (iN (v1))), some (.int (iN (v2)))] [.ref (151)] (zmk ln N z) c9 s9 Φ := by
  unfold fX6_check_b39 at h
  refine X_iconst (pc' := 40) dX6_check_39 rfl ?_
  exact X_sub (sub_s (sub_s (sub_s sub_0))) (BX6_check_40 hN hz rv1 rv2 (inR_c (n := 0) rfl) h k)
def fX6_check (v1 : Int) (v2 : Int) (z : ZZ) : Option (Int × ZZ) := (zl (zup z 151 0 (0)) fun z1 => (Option.bind (fX6_isHarness (v1) z1) fun r2 => (Option.bind (fX6_fails (r2) (1) z1) fun q3 => match q3 with | (r3, z3) => (if (r3) = (0) then (Option.bind (fX6_isLent (v1) z3) fun r5 => (if (r5) = (0) then (Option.bind (fX6_isRetired (v1) z3) fun r7 => (if (r7) = (0) then fX6_check_b40 (v1) (v2) (1) z3 else fX6_check_b39 (v1) (v2) z3)) else fX6_check_b39 (v1) (v2) z3)) else some (0, z3)))))
set_option maxRecDepth 100000 in
theorem CX6_check {ln N : Nat} {z : ZZ} {v1 : Int} {v2 : Int} (hN : 159 ≤ N ∧ N < 999999) (hz : okz z) (rv1 : inR v1) (rv2 : inR v2) {p : Int × ZZ} (h : fX6_check v1 v2 z = some p) : X mX6_check 0 (xEnt [.ref (151), .int (iN (v1)), .int (iN (v2))] (xL mX6_check)) [] (zmk ln N z) (cc_wi p) (6 * cc_wi p) (Qd (fa_wi p) (rs_wi p) (st_wi ln N p)) := by
  have k : Fin_wi (Qd (fa_wi p) (rs_wi p) (st_wi ln N p)) ln N p := Fin_wi_i
  unfold fX6_check at h
  refine X_to (M := [some (.ref (151)), some (.int (iN (v1))), some (.int (iN (v2)))]) (su := []) rfl rfl ?_
  refine X_aload_n (pc' := 1) dX6_check_0 rfl rfl ?_
  refine X_iconst (pc' := 2) dX6_check_1 rfl ?_
  refine Y_put (k := 0) (j := 0) (v := 0) (pc' := 5) dX6_check_2 rfl FX6_51 (zlN hN (by decide)) (congrArg Prod.fst (sh151 ln)) (fun r hr => by cases hr; rfl) (xFit_int _) rfl rfl ?_
  obtain ⟨z1, e1, hz1, h⟩ := zl_some (P := okz) h (okz_up hz (inR_c (n := 0) rfl))
  rw [e1]
  refine X_aload_n (pc' := 6) dX6_check_5 rfl rfl ?_
  refine X_aload_n (pc' := 7) dX6_check_6 rfl rfl ?_
  refine X_iload_n (pc' := 8) dX6_check_7 rfl rfl ?_
  obtain ⟨r2, q2, h⟩ := bs h
  refine Y_callV [.int (iN (v1))] (pc' := 11) dX6_check_8 rfl VX6_259 (by decide) (zlN hN (by decide)) (congrArg Prod.fst (sh151 ln)) rfl rfl rfl (cs rfl) (cs rfl) rfl (CX6_isHarness hN hz1 rv1 q2) (Nat.zero_add _).symm (Nat.zero_add _).symm (fun f2 => ?_)
  refine X_iconst (pc' := 12) dX6_check_11 rfl ?_
  obtain ⟨⟨r3, z3⟩, q3, h⟩ := bs h
  refine Y_callV [.int (iN (r2)), .int (iN (1))] (pc' := 15) dX6_check_12 rfl VX6_62 (by decide) (zlN hN (by decide)) (congrArg Prod.fst (sh151 ln)) rfl rfl rfl (cs rfl) (cs rfl) rfl (CX6_fails hN hz1 (inR_b f2) (inR_c (n := 1) rfl) q3) (Nat.zero_add _).symm (Nat.zero_add _).symm (fun f3 => ?_)
  refine X_if_ne dX6_check_15 (tgt := 47) rfl (pc' := 18) rfl (inR_b f3.1) (fun c4 => ?_) (fun c4 => ?_)
  · have h := if_f c4 h
    refine X_iconst (pc' := 48) dX6_check_47 rfl ?_
    cases h
    exact X_iret dX6_check_48 rfl (k ⟨(inR_c (n := 0) rfl), f3.2⟩)
  have h := if_t c4 h
  refine X_aload_n (pc' := 19) dX6_check_18 rfl rfl ?_
  refine X_aload_n (pc' := 20) dX6_check_19 rfl rfl ?_
  refine X_iload_n (pc' := 21) dX6_check_20 rfl rfl ?_
  obtain ⟨r5, q5, h⟩ := bs h
  refine Y_callV [.int (iN (v1))] (pc' := 24) dX6_check_21 rfl VX6_256 (by decide) (zlN hN (by decide)) (congrArg Prod.fst (sh151 ln)) rfl rfl rfl (cs rfl) (cs rfl) rfl (CX6_isLent hN f3.2 rv1 q5) (Nat.zero_add _).symm (Nat.zero_add _).symm (fun f5 => ?_)
  refine X_if_ne dX6_check_24 (tgt := 39) rfl (pc' := 27) rfl (inR_b f5) (fun c6 => ?_) (fun c6 => ?_)
  · have h := if_f c6 h
    exact X_sub (sub_s (sub_s (sub_s sub_0))) (BX6_check_39 hN f3.2 rv1 rv2 h k)
  have h := if_t c6 h
  refine X_aload_n (pc' := 28) dX6_check_27 rfl rfl ?_
  refine X_iload_n (pc' := 29) dX6_check_28 rfl rfl ?_
  obtain ⟨r7, q7, h⟩ := bs h
  refine Y_callV [.int (iN (v1))] (pc' := 32) dX6_check_29 rfl VX6_201 (by decide) (zlN hN (by decide)) (congrArg Prod.fst (sh151 ln)) rfl rfl rfl (cs rfl) (cs rfl) rfl (CX6_isRetired hN f3.2 rv1 q7) (Nat.zero_add _).symm (Nat.zero_add _).symm (fun f7 => ?_)
  refine X_if_ne dX6_check_32 (tgt := 39) rfl (pc' := 35) rfl (inR_b f7) (fun c8 => ?_) (fun c8 => ?_)
  · have h := if_f c8 h
    exact X_sub (sub_s (sub_s (sub_s sub_0))) (BX6_check_39 hN f3.2 rv1 rv2 h k)
  have h := if_t c8 h
  refine X_iconst (pc' := 36) dX6_check_35 rfl ?_
  refine X_goto dX6_check_36 (tgt := 40) rfl ?_
  exact X_sub (sub_s (sub_s (sub_s sub_0))) (BX6_check_40 hN f3.2 rv1 rv2 (inR_c (n := 1) rfl) h k)
def fX6_isOfUse (v1 : Int) (v2 : Int) (z : ZZ) : Option (Int) := (Option.bind (fX6_harnessPart (v1) (0) z) fun r1 => (if (r1) = (v2) then (Option.bind (fX6_isRetired (v1) z) fun r3 => (if (r3) = (0) then some (1) else some (0))) else some (0)))
set_option maxRecDepth 100000 in
theorem CX6_isOfUse {ln N : Nat} {z : ZZ} {v1 : Int} {v2 : Int} (hN : 159 ≤ N ∧ N < 999999) (hz : okz z) (rv1 : inR v1) (rv2 : inR v2) {p : Int} (h : fX6_isOfUse v1 v2 z = some p) : X mX6_isOfUse 0 (xEnt [.ref (151), .int (iN (v1)), .int (iN (v2))] (xL mX6_isOfUse)) [] (zmk ln N z) (cc_b p) (6 * cc_b p) (Qd (fa_b p) (rs_b p) (st_b ln N z p)) := by
  have k : Fin_b (Qd (fa_b p) (rs_b p) (st_b ln N z p)) ln N z p := Fin_b_i
  unfold fX6_isOfUse at h
  refine X_to (M := [some (.ref (151)), some (.int (iN (v1))), some (.int (iN (v2)))]) (su := []) rfl rfl ?_
  refine X_aload_n (pc' := 1) dX6_isOfUse_0 rfl rfl ?_
  refine X_iload_n (pc' := 2) dX6_isOfUse_1 rfl rfl ?_
  refine X_iconst (pc' := 3) dX6_isOfUse_2 rfl ?_
  obtain ⟨r1, q1, h⟩ := bs h
  refine Y_callV [.int (iN (v1)), .int (iN (0))] (pc' := 6) dX6_isOfUse_3 rfl VX6_198 (by decide) (zlN hN (by decide)) (congrArg Prod.fst (sh151 ln)) rfl rfl rfl (cs rfl) (cs rfl) rfl (CX6_harnessPart hN hz rv1 (inR_c (n := 0) rfl) q1) (Nat.zero_add _).symm (Nat.zero_add _).symm (fun f1 => ?_)
  refine X_iload_n (pc' := 7) dX6_isOfUse_6 rfl rfl ?_
  refine X_icmp_ne dX6_isOfUse_7 (tgt := 22) rfl (pc' := 10) rfl ⟨f1.1, f1.2, rv2.1, rv2.2⟩ (fun c2 => ?_) (fun c2 => ?_)
  · have h := if_f c2 h
    refine X_iconst (pc' := 23) dX6_isOfUse_22 rfl ?_
    cases h
    exact X_zret dX6_isOfUse_23 rfl (Or.inl rfl) (k (Or.inl rfl))
  have h := if_t c2 h
  refine X_aload_n (pc' := 11) dX6_isOfUse_10 rfl rfl ?_
  refine X_iload_n (pc' := 12) dX6_isOfUse_11 rfl rfl ?_
  obtain ⟨r3, q3, h⟩ := bs h
  refine Y_callV [.int (iN (v1))] (pc' := 15) dX6_isOfUse_12 rfl VX6_201 (by decide) (zlN hN (by decide)) (congrArg Prod.fst (sh151 ln)) rfl rfl rfl (cs rfl) (cs rfl) rfl (CX6_isRetired hN hz rv1 q3) (Nat.zero_add _).symm (Nat.zero_add _).symm (fun f3 => ?_)
  refine X_if_ne dX6_isOfUse_15 (tgt := 22) rfl (pc' := 18) rfl (inR_b f3) (fun c4 => ?_) (fun c4 => ?_)
  · have h := if_f c4 h
    refine X_iconst (pc' := 23) dX6_isOfUse_22 rfl ?_
    cases h
    exact X_zret dX6_isOfUse_23 rfl (Or.inl rfl) (k (Or.inl rfl))
  have h := if_t c4 h
  refine X_iconst (pc' := 19) dX6_isOfUse_18 rfl ?_
  refine X_goto dX6_isOfUse_19 (tgt := 23) rfl ?_
  cases h
  exact X_zret dX6_isOfUse_23 rfl (Or.inr rfl) (k (Or.inr rfl))
def fX6_longest_b47 (v1 : Int) (v2 : Int) (v3 : Int) (z : ZZ) : Option ((Int × Int) ⊕ (Int)) := (if inR ((v3 + 1)) then some (.inl (v2, (v3 + 1))) else none)
set_option maxRecDepth 100000 in
theorem BX6_longest_47 {ln N : Nat} {z : ZZ} {v1 : Int} {v2 : Int} {v3 : Int} {c9 s9 : Nat} {Φ : xRes → xS → Prop} (hN : 159 ≤ N ∧ N < 999999) (hz : okz z) (rv1 : inR v1) (rv2 : inR v2) (rv3 : inR v3) {p : (Int × Int) ⊕ (Int)} (h : fX6_longest_b47 v1 v2 v3 z = some p) (k1 : ∀ (v2' : Int) (v3' : Int), p = .inl (v2', v3') → inR v2' → inR v3' → X mX6_longest 4 [some (.ref (151)), some (.int (iN (v1))), some (.int (iN (v2'))), some (.int (iN (v3')))] [] (zmk ln N z) c9 s9 Φ) (k2 : ∀ (v2' : Int), p = .inr v2' → inR v2' → X mX6_longest 53 [none, none, some (.int (iN (v2'))), none] [] (zmk ln N z) c9 s9 Φ) : X mX6_longest 47 [some (.ref (151)), some (.int (iN (v1))), some (.int (iN (v2))), some (.int (iN (v3)))] [] (zmk ln N z) c9 s9 Φ := by
  unfold fX6_longest_b47 at h
  refine X_iinc (pc' := 50) dX6_longest_47 rfl rfl (Or.inr rfl) (L' := [some (.ref (151)), some (.int (iN (v1))), some (.int (iN (v2))), some (.int (iN (v3 + 1)))]) rfl ?_
  refine X_goto dX6_longest_50 (tgt := 4) rfl ?_
  obtain ⟨g1, h⟩ := gs h
  cases h
  exact X_sub (sub_s (sub_s (sub_s (sub_s sub_0)))) (k1 _ _ rfl rv2 g1)
def fX6_longest_b45 (v1 : Int) (v3 : Int) (z : ZZ) : Option ((Int × Int) ⊕ (Int)) := fX6_longest_b47 (v1) (v3) (v3) z
set_option maxRecDepth 100000 in
theorem BX6_longest_45 {ln N : Nat} {z : ZZ} {v1 : Int} {v3 : Int} {c9 s9 : Nat} {Φ : xRes → xS → Prop} (hN : 159 ≤ N ∧ N < 999999) (hz : okz z) (rv1 : inR v1) (rv3 : inR v3) {p : (Int × Int) ⊕ (Int)} (h : fX6_longest_b45 v1 v3 z = some p) (k1 : ∀ (v2' : Int) (v3' : Int), p = .inl (v2', v3') → inR v2' → inR v3' → X mX6_longest 4 [some (.ref (151)), some (.int (iN (v1))), some (.int (iN (v2'))), some (.int (iN (v3')))] [] (zmk ln N z) c9 s9 Φ) (k2 : ∀ (v2' : Int), p = .inr v2' → inR v2' → X mX6_longest 53 [none, none, some (.int (iN (v2'))), none] [] (zmk ln N z) c9 s9 Φ) : X mX6_longest 45 [some (.ref (151)), some (.int (iN (v1))), none, some (.int (iN (v3)))] [] (zmk ln N z) c9 s9 Φ := by
  unfold fX6_longest_b45 at h
  refine X_iload_n (pc' := 46) dX6_longest_45 rfl rfl ?_
  refine X_istore_n (pc' := 47) dX6_longest_46 rfl (cl rfl) (Or.inr rfl) (L' := [some (.ref (151)), some (.int (iN (v1))), some (.int (iN (v3))), some (.int (iN (v3)))]) rfl ?_
  exact X_sub (sub_s (sub_s (sub_s (sub_s sub_0)))) (BX6_longest_47 hN hz rv1 rv3 rv3 h k1 k2)
def fX6_longest_s4 (v1 : Int) (v2 : Int) (v3 : Int) (z : ZZ) : Option ((Int × Int) ⊕ (Int)) := (if (v3) < ((z 154 (470))) then (Option.bind (fX6_isOfUse (v3) (v1) z) fun r2 => (if (r2) = (0) then fX6_longest_b47 (v1) (v2) (v3) z else (if (v2) = ((-1)) then fX6_longest_b45 (v1) (v3) z else (Option.bind (fX6_harnessPart (v3) (1) z) fun r5 => (Option.bind (fX6_harnessPart (v2) (1) z) fun r6 => (if (r6) < (r5) then fX6_longest_b45 (v1) (v3) z else fX6_longest_b47 (v1) (v2) (v3) z)))))) else some (.inr v2))
set_option maxRecDepth 100000 in
theorem SX6_longest_4 {ln N : Nat} {z : ZZ} {v1 : Int} {v2 : Int} {v3 : Int} {c9 s9 : Nat} {Φ : xRes → xS → Prop} (hN : 159 ≤ N ∧ N < 999999) (hz : okz z) (rv1 : inR v1) (rv2 : inR v2) (rv3 : inR v3) {p : (Int × Int) ⊕ (Int)} (h : fX6_longest_s4 v1 v2 v3 z = some p) (k1 : ∀ (v2' : Int) (v3' : Int), p = .inl (v2', v3') → inR v2' → inR v3' → X mX6_longest 4 [some (.ref (151)), some (.int (iN (v1))), some (.int (iN (v2'))), some (.int (iN (v3')))] [] (zmk ln N z) c9 s9 Φ) (k2 : ∀ (v2' : Int), p = .inr v2' → inR v2' → X mX6_longest 53 [none, none, some (.int (iN (v2'))), none] [] (zmk ln N z) c9 s9 Φ) : X mX6_longest 4 [some (.ref (151)), some (.int (iN (v1))), some (.int (iN (v2))), some (.int (iN (v3)))] [] (zmk ln N z) c9 s9 Φ := by
  unfold fX6_longest_s4 at h
  refine X_iload_n (pc' := 5) dX6_longest_4 rfl rfl ?_
  refine X_aload_n (pc' := 6) dX6_longest_5 rfl rfl ?_
  refine Y_get (pc' := 9) dX6_longest_6 rfl FX6_16 (zlN hN (by decide)) (congrArg Prod.fst (sh151 ln)) (ct151_9 z) ?_
  refine X_sipush (pc' := 12) dX6_longest_9 rfl (by decide) ?_
  refine Y_iald (pc' := 13) dX6_longest_12 rfl (zlN hN (by decide)) (sh154 ln) (by decide) ⟨by decide, by decide⟩ ?_
  refine X_icmp_ge dX6_longest_13 (tgt := 53) rfl (pc' := 16) rfl ⟨rv3.1, rv3.2, (hz 154 (470) (by decide)).1, (hz 154 (470) (by decide)).2⟩ (fun c1 => ?_) (fun c1 => ?_)
  · have h := if_f (Int.not_lt.mpr c1) h
    cases h
    exact X_sub (sub_n (sub_n (sub_s (sub_n sub_0)))) (k2 _ rfl rv2)
  have h := if_t c1 h
  refine X_aload_n (pc' := 17) dX6_longest_16 rfl rfl ?_
  refine X_iload_n (pc' := 18) dX6_longest_17 rfl rfl ?_
  refine X_iload_n (pc' := 19) dX6_longest_18 rfl rfl ?_
  obtain ⟨r2, q2, h⟩ := bs h
  refine Y_callV [.int (iN (v3)), .int (iN (v1))] (pc' := 22) dX6_longest_19 rfl VX6_333 (by decide) (zlN hN (by decide)) (congrArg Prod.fst (sh151 ln)) rfl rfl rfl (cs rfl) (cs rfl) rfl (CX6_isOfUse hN hz rv3 rv1 q2) (Nat.zero_add _).symm (Nat.zero_add _).symm (fun f2 => ?_)
  refine X_if_eq dX6_longest_22 (tgt := 47) rfl (pc' := 25) rfl (inR_b f2) (fun c3 => ?_) (fun c3 => ?_)
  · have h := if_t c3 h
    exact X_sub (sub_s (sub_s (sub_s (sub_s sub_0)))) (BX6_longest_47 hN hz rv1 rv2 rv3 h k1 k2)
  have h := if_f c3 h
  refine X_iload_n (pc' := 26) dX6_longest_25 rfl rfl ?_
  refine X_iconst (pc' := 27) dX6_longest_26 rfl ?_
  refine X_icmp_eq dX6_longest_27 (tgt := 45) rfl (pc' := 30) rfl ⟨rv2.1, rv2.2, (inR_c (n := (-1)) rfl).1, (inR_c (n := (-1)) rfl).2⟩ (fun c4 => ?_) (fun c4 => ?_)
  · have h := if_t c4 h
    exact X_sub (sub_s (sub_s (sub_n (sub_s sub_0)))) (BX6_longest_45 hN hz rv1 rv3 h k1 k2)
  have h := if_f c4 h
  refine X_aload_n (pc' := 31) dX6_longest_30 rfl rfl ?_
  refine X_iload_n (pc' := 32) dX6_longest_31 rfl rfl ?_
  refine X_iconst (pc' := 33) dX6_longest_32 rfl ?_
  obtain ⟨r5, q5, h⟩ := bs h
  refine Y_callV [.int (iN (v3)), .int (iN (1))] (pc' := 36) dX6_longest_33 rfl VX6_198 (by decide) (zlN hN (by decide)) (congrArg Prod.fst (sh151 ln)) rfl rfl rfl (cs rfl) (cs rfl) rfl (CX6_harnessPart hN hz rv3 (inR_c (n := 1) rfl) q5) (Nat.zero_add _).symm (Nat.zero_add _).symm (fun f5 => ?_)
  refine X_aload_n (pc' := 37) dX6_longest_36 rfl rfl ?_
  refine X_iload_n (pc' := 38) dX6_longest_37 rfl rfl ?_
  refine X_iconst (pc' := 39) dX6_longest_38 rfl ?_
  obtain ⟨r6, q6, h⟩ := bs h
  refine Y_callV [.int (iN (v2)), .int (iN (1))] (pc' := 42) dX6_longest_39 rfl VX6_198 (by decide) (zlN hN (by decide)) (congrArg Prod.fst (sh151 ln)) rfl rfl rfl (cs rfl) (cs rfl) rfl (CX6_harnessPart hN hz rv2 (inR_c (n := 1) rfl) q6) (Nat.zero_add _).symm (Nat.zero_add _).symm (fun f6 => ?_)
  refine X_icmp_le dX6_longest_42 (tgt := 47) rfl (pc' := 45) rfl ⟨f5.1, f5.2, f6.1, f6.2⟩ (fun c7 => ?_) (fun c7 => ?_)
  · have h := if_f (Int.not_lt.mpr c7) h
    exact X_sub (sub_s (sub_s (sub_s (sub_s sub_0)))) (BX6_longest_47 hN hz rv1 rv2 rv3 h k1 k2)
  have h := if_t c7 h
  exact X_sub (sub_s (sub_s (sub_n (sub_s sub_0)))) (BX6_longest_45 hN hz rv1 rv3 h k1 k2)
theorem LX6_longest_4 {ln N : Nat} {z : ZZ} {v1 : Int} {c9 s9 : Nat} {Φ : xRes → xS → Prop} (hN : 159 ≤ N ∧ N < 999999) (hz : okz z) (rv1 : inR v1) {r : Int} (k2 : ∀ (v2' : Int), r = v2' → inR v2' → X mX6_longest 53 [none, none, some (.int (iN (v2'))), none] [] (zmk ln N z) c9 s9 Φ) : ∀ (n : Nat) (v2 : Int) (v3 : Int), inR v2 → inR v3 → zlp (fun q => fX6_longest_s4 v1 q.1 q.2 z) n (v2, v3) = some r → X mX6_longest 4 [some (.ref (151)), some (.int (iN (v1))), some (.int (iN (v2))), some (.int (iN (v3)))] [] (zmk ln N z) c9 s9 Φ := by
  intro n
  induction n with
  | zero => intro v2 v3 rv2 rv3 h; cases h
  | succ n ih =>
    intro v2 v3 rv2 rv3 h
    rcases zlp_s h with ⟨⟨v2', v3'⟩, e, h'⟩ | e
    · exact SX6_longest_4 hN hz rv1 rv2 rv3 e (fun v2₁ v3₁ hh f0 f1 => by cases hh; exact ih _ _ f0 f1 h') (fun v2₁ hh f0 => by cases hh)
    · exact SX6_longest_4 hN hz rv1 rv2 rv3 e (fun v2₁ v3₁ hh f0 f1 => by cases hh) (fun v2₁ hh f0 => by cases hh; exact k2 _ rfl f0)
def fX6_longest (v1 : Int) (z : ZZ) : Option (Int) := (Option.bind (zlp (fun q => fX6_longest_s4 (v1) q.1 q.2 z) FU ((-1), 0)) fun x1_v2 => some (x1_v2))
set_option maxRecDepth 100000 in
theorem CX6_longest {ln N : Nat} {z : ZZ} {v1 : Int} (hN : 159 ≤ N ∧ N < 999999) (hz : okz z) (rv1 : inR v1) {p : Int} (h : fX6_longest v1 z = some p) : X mX6_longest 0 (xEnt [.ref (151), .int (iN (v1))] (xL mX6_longest)) [] (zmk ln N z) (cc_r p) (6 * cc_r p) (Qd (fa_r p) (rs_r p) (st_r ln N z p)) := by
  have k : Fin_r (Qd (fa_r p) (rs_r p) (st_r ln N z p)) ln N z p := Fin_r_i
  unfold fX6_longest at h
  refine X_to (M := [some (.ref (151)), some (.int (iN (v1))), none, none]) (su := []) rfl rfl ?_
  refine X_iconst (pc' := 1) dX6_longest_0 rfl ?_
  refine X_istore_n (pc' := 2) dX6_longest_1 rfl (cl rfl) (Or.inr rfl) (L' := [some (.ref (151)), some (.int (iN (v1))), some (.int (iN ((-1)))), none]) rfl ?_
  refine X_iconst (pc' := 3) dX6_longest_2 rfl ?_
  refine X_istore_n (pc' := 4) dX6_longest_3 rfl (cl rfl) (Or.inr rfl) (L' := [some (.ref (151)), some (.int (iN (v1))), some (.int (iN ((-1)))), some (.int (iN (0)))]) rfl ?_
  obtain ⟨x1_v2, q1, h⟩ := bs h
  refine X_sub (sub_s (sub_s (sub_s (sub_s sub_0)))) (LX6_longest_4 hN hz rv1 (fun x1_v2₁ hh rx1_v2 => ?_) FU _ _ (inR_c (n := (-1)) rfl) (inR_c (n := 0) rfl) q1)
  cases hh
  refine X_iload_n (pc' := 54) dX6_longest_53 rfl rfl ?_
  cases h
  exact X_iret dX6_longest_54 rfl (k rx1_v2)
def fX6_isSome_b45 (v1 : Int) (v2 : Int) (v4 : Int) (s0 : Int) (s1 : Int) (z : ZZ) : Option ((Int × Int) ⊕ (Int)) := (if inR ((v4 + 1)) then some (.inl ((zor s0 s1), (v4 + 1))) else none)
set_option maxRecDepth 100000 in
theorem BX6_isSome_45 {ln N : Nat} {z : ZZ} {v1 : Int} {v2 : Int} {v4 : Int} {s0 : Int} {s1 : Int} {c9 s9 : Nat} {Φ : xRes → xS → Prop} (hN : 159 ≤ N ∧ N < 999999) (hz : okz z) (rv1 : inR v1) (rv2 : inR v2) (rv4 : inR v4) (rs0 : inR s0) (rs1 : inR s1) {p : (Int × Int) ⊕ (Int)} (h : fX6_isSome_b45 v1 v2 v4 s0 s1 z = some p) (k1 : ∀ (v3' : Int) (v4' : Int), p = .inl (v3', v4') → inR v3' → inR v4' → X mX6_isSome 5 [some (.ref (151)), some (.int (iN (v1))), some (.int (iN (v2))), some (.int (iN (v3'))), some (.int (iN (v4')))] [] (zmk ln N z) c9 s9 Φ) (k2 : ∀ (v3' : Int), p = .inr v3' → inR v3' → X mX6_isSome 53 [none, none, none, some (.int (iN (v3'))), none] [] (zmk ln N z) c9 s9 Φ) : X mX6_isSome 45 [some (.ref (151)), some (.int (iN (v1))), some (.int (iN (v2))), none, some (.int (iN (v4)))] [.int (iN (s1)), .int (iN (s0))] (zmk ln N z) c9 s9 Φ := by
  unfold fX6_isSome_b45 at h
  refine X_ior (pc' := 46) dX6_isSome_45 rfl ?_
  refine X_istore_n (pc' := 47) dX6_isSome_46 rfl (cl rfl) (Or.inr rfl) (L' := [some (.ref (151)), some (.int (iN (v1))), some (.int (iN (v2))), some (.int (iN ((zor s0 s1)))), some (.int (iN (v4)))]) rfl ?_
  refine X_iinc (pc' := 50) dX6_isSome_47 rfl rfl (Or.inr rfl) (L' := [some (.ref (151)), some (.int (iN (v1))), some (.int (iN (v2))), some (.int (iN ((zor s0 s1)))), some (.int (iN (v4 + 1)))]) rfl ?_
  refine X_goto dX6_isSome_50 (tgt := 5) rfl ?_
  obtain ⟨g1, h⟩ := gs h
  cases h
  exact X_sub (sub_s (sub_s (sub_s (sub_s (sub_s sub_0))))) (k1 _ _ rfl (inR_zor _ _) g1)
def fX6_isSome_b44 (v1 : Int) (v2 : Int) (v4 : Int) (s0 : Int) (z : ZZ) : Option ((Int × Int) ⊕ (Int)) := fX6_isSome_b45 (v1) (v2) (v4) (s0) (0) z
set_option maxRecDepth 100000 in
theorem BX6_isSome_44 {ln N : Nat} {z : ZZ} {v1 : Int} {v2 : Int} {v4 : Int} {s0 : Int} {c9 s9 : Nat} {Φ : xRes → xS → Prop} (hN : 159 ≤ N ∧ N < 999999) (hz : okz z) (rv1 : inR v1) (rv2 : inR v2) (rv4 : inR v4) (rs0 : inR s0) {p : (Int × Int) ⊕ (Int)} (h : fX6_isSome_b44 v1 v2 v4 s0 z = some p) (k1 : ∀ (v3' : Int) (v4' : Int), p = .inl (v3', v4') → inR v3' → inR v4' → X mX6_isSome 5 [some (.ref (151)), some (.int (iN (v1))), some (.int (iN (v2))), some (.int (iN (v3'))), some (.int (iN (v4')))] [] (zmk ln N z) c9 s9 Φ) (k2 : ∀ (v3' : Int), p = .inr v3' → inR v3' → X mX6_isSome 53 [none, none, none, some (.int (iN (v3'))), none] [] (zmk ln N z) c9 s9 Φ) : X mX6_isSome 44 [some (.ref (151)), some (.int (iN (v1))), some (.int (iN (v2))), none, some (.int (iN (v4)))] [.int (iN (s0))] (zmk ln N z) c9 s9 Φ := by
  unfold fX6_isSome_b44 at h
  refine X_iconst (pc' := 45) dX6_isSome_44 rfl ?_
  exact X_sub (sub_s (sub_s (sub_s (sub_n (sub_s sub_0))))) (BX6_isSome_45 hN hz rv1 rv2 rv4 rs0 (inR_c (n := 0) rfl) h k1 k2)
def fX6_isSome_s5 (v1 : Int) (v2 : Int) (v3 : Int) (v4 : Int) (z : ZZ) : Option ((Int × Int) ⊕ (Int)) := (if (v4) < ((z 154 (470))) then (Option.bind (fX6_isOfUse (v4) (v1) z) fun r2 => (if (r2) = (0) then fX6_isSome_b44 (v1) (v2) (v4) (v3) z else (if (0 : Int) ≤ (v4) ∧ (v4) < (15 : Int) then (if (v2) < ((z 158 (v4))) then fX6_isSome_b45 (v1) (v2) (v4) (v3) (1) z else fX6_isSome_b44 (v1) (v2) (v4) (v3) z) else none))) else some (.inr v3))
set_option maxRecDepth 100000 in
theorem SX6_isSome_5 {ln N : Nat} {z : ZZ} {v1 : Int} {v2 : Int} {v3 : Int} {v4 : Int} {c9 s9 : Nat} {Φ : xRes → xS → Prop} (hN : 159 ≤ N ∧ N < 999999) (hz : okz z) (rv1 : inR v1) (rv2 : inR v2) (rv3 : inR v3) (rv4 : inR v4) {p : (Int × Int) ⊕ (Int)} (h : fX6_isSome_s5 v1 v2 v3 v4 z = some p) (k1 : ∀ (v3' : Int) (v4' : Int), p = .inl (v3', v4') → inR v3' → inR v4' → X mX6_isSome 5 [some (.ref (151)), some (.int (iN (v1))), some (.int (iN (v2))), some (.int (iN (v3'))), some (.int (iN (v4')))] [] (zmk ln N z) c9 s9 Φ) (k2 : ∀ (v3' : Int), p = .inr v3' → inR v3' → X mX6_isSome 53 [none, none, none, some (.int (iN (v3'))), none] [] (zmk ln N z) c9 s9 Φ) : X mX6_isSome 5 [some (.ref (151)), some (.int (iN (v1))), some (.int (iN (v2))), some (.int (iN (v3))), some (.int (iN (v4)))] [] (zmk ln N z) c9 s9 Φ := by
  unfold fX6_isSome_s5 at h
  refine X_iload (pc' := 7) dX6_isSome_5 rfl rfl ?_
  refine X_aload_n (pc' := 8) dX6_isSome_7 rfl rfl ?_
  refine Y_get (pc' := 11) dX6_isSome_8 rfl FX6_16 (zlN hN (by decide)) (congrArg Prod.fst (sh151 ln)) (ct151_9 z) ?_
  refine X_sipush (pc' := 14) dX6_isSome_11 rfl (by decide) ?_
  refine Y_iald (pc' := 15) dX6_isSome_14 rfl (zlN hN (by decide)) (sh154 ln) (by decide) ⟨by decide, by decide⟩ ?_
  refine X_icmp_ge dX6_isSome_15 (tgt := 53) rfl (pc' := 18) rfl ⟨rv4.1, rv4.2, (hz 154 (470) (by decide)).1, (hz 154 (470) (by decide)).2⟩ (fun c1 => ?_) (fun c1 => ?_)
  · have h := if_f (Int.not_lt.mpr c1) h
    cases h
    exact X_sub (sub_n (sub_n (sub_n (sub_s (sub_n sub_0))))) (k2 _ rfl rv3)
  have h := if_t c1 h
  refine X_iload_n (pc' := 19) dX6_isSome_18 rfl rfl ?_
  refine X_aload_n (pc' := 20) dX6_isSome_19 rfl rfl ?_
  refine X_iload (pc' := 22) dX6_isSome_20 rfl rfl ?_
  refine X_iload_n (pc' := 23) dX6_isSome_22 rfl rfl ?_
  obtain ⟨r2, q2, h⟩ := bs h
  refine Y_callV [.int (iN (v4)), .int (iN (v1))] (pc' := 26) dX6_isSome_23 rfl VX6_333 (by decide) (zlN hN (by decide)) (congrArg Prod.fst (sh151 ln)) rfl rfl rfl (cs rfl) (cs rfl) rfl (CX6_isOfUse hN hz rv4 rv1 q2) (Nat.zero_add _).symm (Nat.zero_add _).symm (fun f2 => ?_)
  refine X_if_eq dX6_isSome_26 (tgt := 44) rfl (pc' := 29) rfl (inR_b f2) (fun c3 => ?_) (fun c3 => ?_)
  · have h := if_t c3 h
    exact X_sub (sub_s (sub_s (sub_s (sub_n (sub_s sub_0))))) (BX6_isSome_44 hN hz rv1 rv2 rv4 rv3 h k1 k2)
  have h := if_f c3 h
  refine X_iload_n (pc' := 30) dX6_isSome_29 rfl rfl ?_
  refine X_aload_n (pc' := 31) dX6_isSome_30 rfl rfl ?_
  refine Y_get (pc' := 34) dX6_isSome_31 rfl FX6_28 (zlN hN (by decide)) (congrArg Prod.fst (sh151 ln)) (ct151_19 z) ?_
  refine X_iload (pc' := 36) dX6_isSome_34 rfl rfl ?_
  obtain ⟨g4, h⟩ := gs h
  refine Y_iald (pc' := 37) dX6_isSome_36 rfl (zlN hN (by decide)) (sh158 ln) (by decide) g4 ?_
  refine X_icmp_ge dX6_isSome_37 (tgt := 44) rfl (pc' := 40) rfl ⟨rv2.1, rv2.2, (hz 158 (v4) (by decide)).1, (hz 158 (v4) (by decide)).2⟩ (fun c5 => ?_) (fun c5 => ?_)
  · have h := if_f (Int.not_lt.mpr c5) h
    exact X_sub (sub_s (sub_s (sub_s (sub_n (sub_s sub_0))))) (BX6_isSome_44 hN hz rv1 rv2 rv4 rv3 h k1 k2)
  have h := if_t c5 h
  refine X_iconst (pc' := 41) dX6_isSome_40 rfl ?_
  refine X_goto dX6_isSome_41 (tgt := 45) rfl ?_
  exact X_sub (sub_s (sub_s (sub_s (sub_n (sub_s sub_0))))) (BX6_isSome_45 hN hz rv1 rv2 rv4 rv3 (inR_c (n := 1) rfl) h k1 k2)
theorem LX6_isSome_5 {ln N : Nat} {z : ZZ} {v1 : Int} {v2 : Int} {c9 s9 : Nat} {Φ : xRes → xS → Prop} (hN : 159 ≤ N ∧ N < 999999) (hz : okz z) (rv1 : inR v1) (rv2 : inR v2) {r : Int} (k2 : ∀ (v3' : Int), r = v3' → inR v3' → X mX6_isSome 53 [none, none, none, some (.int (iN (v3'))), none] [] (zmk ln N z) c9 s9 Φ) : ∀ (n : Nat) (v3 : Int) (v4 : Int), inR v3 → inR v4 → zlp (fun q => fX6_isSome_s5 v1 v2 q.1 q.2 z) n (v3, v4) = some r → X mX6_isSome 5 [some (.ref (151)), some (.int (iN (v1))), some (.int (iN (v2))), some (.int (iN (v3))), some (.int (iN (v4)))] [] (zmk ln N z) c9 s9 Φ := by
  intro n
  induction n with
  | zero => intro v3 v4 rv3 rv4 h; cases h
  | succ n ih =>
    intro v3 v4 rv3 rv4 h
    rcases zlp_s h with ⟨⟨v3', v4'⟩, e, h'⟩ | e
    · exact SX6_isSome_5 hN hz rv1 rv2 rv3 rv4 e (fun v3₁ v4₁ hh f0 f1 => by cases hh; exact ih _ _ f0 f1 h') (fun v3₁ hh f0 => by cases hh)
    · exact SX6_isSome_5 hN hz rv1 rv2 rv3 rv4 e (fun v3₁ v4₁ hh f0 f1 => by cases hh) (fun v3₁ hh f0 => by cases hh; exact k2 _ rfl f0)
def fX6_isSome (v1 : Int) (v2 : Int) (z : ZZ) : Option (Int) := (Option.bind (zlp (fun q => fX6_isSome_s5 (v1) (v2) q.1 q.2 z) FU (0, 0)) fun x1_v3 => (if (x1_v3) = 0 ∨ (x1_v3) = 1 then some (x1_v3) else none))
set_option maxRecDepth 100000 in
theorem CX6_isSome {ln N : Nat} {z : ZZ} {v1 : Int} {v2 : Int} (hN : 159 ≤ N ∧ N < 999999) (hz : okz z) (rv1 : inR v1) (rv2 : inR v2) {p : Int} (h : fX6_isSome v1 v2 z = some p) : X mX6_isSome 0 (xEnt [.ref (151), .int (iN (v1)), .int (iN (v2))] (xL mX6_isSome)) [] (zmk ln N z) (cc_b p) (6 * cc_b p) (Qd (fa_b p) (rs_b p) (st_b ln N z p)) := by
  have k : Fin_b (Qd (fa_b p) (rs_b p) (st_b ln N z p)) ln N z p := Fin_b_i
  unfold fX6_isSome at h
  refine X_to (M := [some (.ref (151)), some (.int (iN (v1))), some (.int (iN (v2))), none, none]) (su := []) rfl rfl ?_
  refine X_iconst (pc' := 1) dX6_isSome_0 rfl ?_
  refine X_istore_n (pc' := 2) dX6_isSome_1 rfl (cl rfl) (Or.inr rfl) (L' := [some (.ref (151)), some (.int (iN (v1))), some (.int (iN (v2))), some (.int (iN (0))), none]) rfl ?_
  refine X_iconst (pc' := 3) dX6_isSome_2 rfl ?_
  refine X_istore (pc' := 5) dX6_isSome_3 rfl (cl rfl) (Or.inr rfl) (L' := [some (.ref (151)), some (.int (iN (v1))), some (.int (iN (v2))), some (.int (iN (0))), some (.int (iN (0)))]) rfl ?_
  obtain ⟨x1_v3, q1, h⟩ := bs h
  refine X_sub (sub_s (sub_s (sub_s (sub_s (sub_s sub_0))))) (LX6_isSome_5 hN hz rv1 rv2 (fun x1_v3₁ hh rx1_v3 => ?_) FU _ _ (inR_c (n := 0) rfl) (inR_c (n := 0) rfl) q1)
  cases hh
  refine X_iload_n (pc' := 54) dX6_isSome_53 rfl rfl ?_
  obtain ⟨g2, h⟩ := gs h
  cases h
  exact X_zret dX6_isSome_54 rfl g2 (k g2)

def fX6_lapsing_b72 (v1 : Int) (v3 : Int) (s0 : Int) (s1 : Int) (z : ZZ) : Option ((Int × Int) ⊕ (Int)) := (if inR ((v3 + 1)) then some (.inl ((zor s0 s1), (v3 + 1))) else none)
set_option maxRecDepth 100000 in
theorem BX6_lapsing_72 {ln N : Nat} {z : ZZ} {v1 : Int} {v3 : Int} {s0 : Int} {s1 : Int} {c9 s9 : Nat} {Φ : xRes → xS → Prop} (hN : 159 ≤ N ∧ N < 999999) (hz : okz z) (rv1 : inR v1) (rv3 : inR v3) (rs0 : inR s0) (rs1 : inR s1) {p : (Int × Int) ⊕ (Int)} (h : fX6_lapsing_b72 v1 v3 s0 s1 z = some p) (k1 : ∀ (v2' : Int) (v3' : Int), p = .inl (v2', v3') → inR v2' → inR v3' → X mX6_lapsing 28 [some (.ref (151)), some (.int (iN (v1))), some (.int (iN (v2'))), some (.int (iN (v3')))] [] (zmk ln N z) c9 s9 Φ) (k2 : ∀ (v2' : Int), p = .inr v2' → inR v2' → X mX6_lapsing 80 [none, none, some (.int (iN (v2'))), none] [] (zmk ln N z) c9 s9 Φ) : X mX6_lapsing 72 [some (.ref (151)), some (.int (iN (v1))), none, some (.int (iN (v3)))] [.int (iN (s1)), .int (iN (s0))] (zmk ln N z) c9 s9 Φ := by
  unfold fX6_lapsing_b72 at h
  refine X_ior (pc' := 73) dX6_lapsing_72 rfl ?_
  refine X_istore_n (pc' := 74) dX6_lapsing_73 rfl (cl rfl) (Or.inr rfl) (L' := [some (.ref (151)), some (.int (iN (v1))), some (.int (iN ((zor s0 s1)))), some (.int (iN (v3)))]) rfl ?_
  refine X_iinc (pc' := 77) dX6_lapsing_74 rfl rfl (Or.inr rfl) (L' := [some (.ref (151)), some (.int (iN (v1))), some (.int (iN ((zor s0 s1)))), some (.int (iN (v3 + 1)))]) rfl ?_
  refine X_goto dX6_lapsing_77 (tgt := 28) rfl ?_
  obtain ⟨g1, h⟩ := gs h
  cases h
  exact X_sub (sub_s (sub_s (sub_s (sub_s sub_0)))) (k1 _ _ rfl (inR_zor _ _) g1)
def fX6_lapsing_b71 (v1 : Int) (v3 : Int) (s0 : Int) (z : ZZ) : Option ((Int × Int) ⊕ (Int)) := fX6_lapsing_b72 (v1) (v3) (s0) (0) z
set_option maxRecDepth 100000 in
theorem BX6_lapsing_71 {ln N : Nat} {z : ZZ} {v1 : Int} {v3 : Int} {s0 : Int} {c9 s9 : Nat} {Φ : xRes → xS → Prop} (hN : 159 ≤ N ∧ N < 999999) (hz : okz z) (rv1 : inR v1) (rv3 : inR v3) (rs0 : inR s0) {p : (Int × Int) ⊕ (Int)} (h : fX6_lapsing_b71 v1 v3 s0 z = some p) (k1 : ∀ (v2' : Int) (v3' : Int), p = .inl (v2', v3') → inR v2' → inR v3' → X mX6_lapsing 28 [some (.ref (151)), some (.int (iN (v1))), some (.int (iN (v2'))), some (.int (iN (v3')))] [] (zmk ln N z) c9 s9 Φ) (k2 : ∀ (v2' : Int), p = .inr v2' → inR v2' → X mX6_lapsing 80 [none, none, some (.int (iN (v2'))), none] [] (zmk ln N z) c9 s9 Φ) : X mX6_lapsing 71 [some (.ref (151)), some (.int (iN (v1))), none, some (.int (iN (v3)))] [.int (iN (s0))] (zmk ln N z) c9 s9 Φ := by
  unfold fX6_lapsing_b71 at h
  refine X_iconst (pc' := 72) dX6_lapsing_71 rfl ?_
  exact X_sub (sub_s (sub_s (sub_n (sub_s sub_0)))) (BX6_lapsing_72 hN hz rv1 rv3 rs0 (inR_c (n := 0) rfl) h k1 k2)
def fX6_lapsing_s28 (v1 : Int) (v2 : Int) (v3 : Int) (z : ZZ) : Option ((Int × Int) ⊕ (Int)) := (if (v3) < ((z 154 (470))) then (Option.bind (fX6_isRetired (v3) z) fun r2 => (if (r2) = (0) then (if inR (((z 154 (3)) + v1)) then (Option.bind (fX6_isInForce (v3) (((z 154 (3)) + v1)) z) fun r5 => (if (r5) = (0) then fX6_lapsing_b72 (v1) (v3) (v2) ((zshl 1 v3)) z else fX6_lapsing_b71 (v1) (v3) (v2) z)) else none) else fX6_lapsing_b71 (v1) (v3) (v2) z)) else some (.inr v2))
set_option maxRecDepth 100000 in
theorem SX6_lapsing_28 {ln N : Nat} {z : ZZ} {v1 : Int} {v2 : Int} {v3 : Int} {c9 s9 : Nat} {Φ : xRes → xS → Prop} (hN : 159 ≤ N ∧ N < 999999) (hz : okz z) (rv1 : inR v1) (rv2 : inR v2) (rv3 : inR v3) {p : (Int × Int) ⊕ (Int)} (h : fX6_lapsing_s28 v1 v2 v3 z = some p) (k1 : ∀ (v2' : Int) (v3' : Int), p = .inl (v2', v3') → inR v2' → inR v3' → X mX6_lapsing 28 [some (.ref (151)), some (.int (iN (v1))), some (.int (iN (v2'))), some (.int (iN (v3')))] [] (zmk ln N z) c9 s9 Φ) (k2 : ∀ (v2' : Int), p = .inr v2' → inR v2' → X mX6_lapsing 80 [none, none, some (.int (iN (v2'))), none] [] (zmk ln N z) c9 s9 Φ) : X mX6_lapsing 28 [some (.ref (151)), some (.int (iN (v1))), some (.int (iN (v2))), some (.int (iN (v3)))] [] (zmk ln N z) c9 s9 Φ := by
  unfold fX6_lapsing_s28 at h
  refine X_iload_n (pc' := 29) dX6_lapsing_28 rfl rfl ?_
  refine X_aload_n (pc' := 30) dX6_lapsing_29 rfl rfl ?_
  refine Y_get (pc' := 33) dX6_lapsing_30 rfl FX6_16 (zlN hN (by decide)) (congrArg Prod.fst (sh151 ln)) (ct151_9 z) ?_
  refine X_sipush (pc' := 36) dX6_lapsing_33 rfl (by decide) ?_
  refine Y_iald (pc' := 37) dX6_lapsing_36 rfl (zlN hN (by decide)) (sh154 ln) (by decide) ⟨by decide, by decide⟩ ?_
  refine X_icmp_ge dX6_lapsing_37 (tgt := 80) rfl (pc' := 40) rfl ⟨rv3.1, rv3.2, (hz 154 (470) (by decide)).1, (hz 154 (470) (by decide)).2⟩ (fun c1 => ?_) (fun c1 => ?_)
  · have h := if_f (Int.not_lt.mpr c1) h
    cases h
    exact X_sub (sub_n (sub_n (sub_s (sub_n sub_0)))) (k2 _ rfl rv2)
  have h := if_t c1 h
  refine X_iload_n (pc' := 41) dX6_lapsing_40 rfl rfl ?_
  refine X_aload_n (pc' := 42) dX6_lapsing_41 rfl rfl ?_
  refine X_iload_n (pc' := 43) dX6_lapsing_42 rfl rfl ?_
  obtain ⟨r2, q2, h⟩ := bs h
  refine Y_callV [.int (iN (v3))] (pc' := 46) dX6_lapsing_43 rfl VX6_201 (by decide) (zlN hN (by decide)) (congrArg Prod.fst (sh151 ln)) rfl rfl rfl (cs rfl) (cs rfl) rfl (CX6_isRetired hN hz rv3 q2) (Nat.zero_add _).symm (Nat.zero_add _).symm (fun f2 => ?_)
  refine X_if_ne dX6_lapsing_46 (tgt := 71) rfl (pc' := 49) rfl (inR_b f2) (fun c3 => ?_) (fun c3 => ?_)
  · have h := if_f c3 h
    exact X_sub (sub_s (sub_s (sub_n (sub_s sub_0)))) (BX6_lapsing_71 hN hz rv1 rv3 rv2 h k1 k2)
  have h := if_t c3 h
  refine X_aload_n (pc' := 50) dX6_lapsing_49 rfl rfl ?_
  refine X_iload_n (pc' := 51) dX6_lapsing_50 rfl rfl ?_
  refine X_aload_n (pc' := 52) dX6_lapsing_51 rfl rfl ?_
  refine Y_get (pc' := 55) dX6_lapsing_52 rfl FX6_16 (zlN hN (by decide)) (congrArg Prod.fst (sh151 ln)) (ct151_9 z) ?_
  refine X_iconst (pc' := 56) dX6_lapsing_55 rfl ?_
  refine Y_iald (pc' := 57) dX6_lapsing_56 rfl (zlN hN (by decide)) (sh154 ln) (by decide) ⟨by decide, by decide⟩ ?_
  refine X_iload_n (pc' := 58) dX6_lapsing_57 rfl rfl ?_
  refine X_iadd (pc' := 59) dX6_lapsing_58 rfl ?_
  obtain ⟨g4, h⟩ := gs h
  obtain ⟨r5, q5, h⟩ := bs h
  refine Y_callV [.int (iN (v3)), .int (iN (((z 154 (3)) + v1)))] (pc' := 62) dX6_lapsing_59 rfl VX6_210 (by decide) (zlN hN (by decide)) (congrArg Prod.fst (sh151 ln)) rfl rfl rfl (cs rfl) (cs rfl) rfl (CX6_isInForce hN hz rv3 g4 q5) (Nat.zero_add _).symm (Nat.zero_add _).symm (fun f5 => ?_)
  refine X_if_ne dX6_lapsing_62 (tgt := 71) rfl (pc' := 65) rfl (inR_b f5) (fun c6 => ?_) (fun c6 => ?_)
  · have h := if_f c6 h
    exact X_sub (sub_s (sub_s (sub_n (sub_s sub_0)))) (BX6_lapsing_71 hN hz rv1 rv3 rv2 h k1 k2)
  have h := if_t c6 h
  refine X_iconst (pc' := 66) dX6_lapsing_65 rfl ?_
  refine X_iload_n (pc' := 67) dX6_lapsing_66 rfl rfl ?_
  refine X_ishl (pc' := 68) dX6_lapsing_67 rfl ?_
  refine X_goto dX6_lapsing_68 (tgt := 72) rfl ?_
  exact X_sub (sub_s (sub_s (sub_n (sub_s sub_0)))) (BX6_lapsing_72 hN hz rv1 rv3 rv2 (inR_zshl _ _) h k1 k2)
theorem LX6_lapsing_28 {ln N : Nat} {z : ZZ} {v1 : Int} {c9 s9 : Nat} {Φ : xRes → xS → Prop} (hN : 159 ≤ N ∧ N < 999999) (hz : okz z) (rv1 : inR v1) {r : Int} (k2 : ∀ (v2' : Int), r = v2' → inR v2' → X mX6_lapsing 80 [none, none, some (.int (iN (v2'))), none] [] (zmk ln N z) c9 s9 Φ) : ∀ (n : Nat) (v2 : Int) (v3 : Int), inR v2 → inR v3 → zlp (fun q => fX6_lapsing_s28 v1 q.1 q.2 z) n (v2, v3) = some r → X mX6_lapsing 28 [some (.ref (151)), some (.int (iN (v1))), some (.int (iN (v2))), some (.int (iN (v3)))] [] (zmk ln N z) c9 s9 Φ := by
  intro n
  induction n with
  | zero => intro v2 v3 rv2 rv3 h; cases h
  | succ n ih =>
    intro v2 v3 rv2 rv3 h
    rcases zlp_s h with ⟨⟨v2', v3'⟩, e, h'⟩ | e
    · exact SX6_lapsing_28 hN hz rv1 rv2 rv3 e (fun v2₁ v3₁ hh f0 f1 => by cases hh; exact ih _ _ f0 f1 h') (fun v2₁ hh f0 => by cases hh)
    · exact SX6_lapsing_28 hN hz rv1 rv2 rv3 e (fun v2₁ v3₁ hh f0 f1 => by cases hh) (fun v2₁ hh f0 => by cases hh; exact k2 _ rfl f0)
def fX6_lapsing (v1 : Int) (z : ZZ) : Option (Int × ZZ) := (zl (zup z 151 0 (0)) fun z1 => (Option.bind (fX6_in (v1) (0) (365) z1) fun r2 => (Option.bind (fX6_fails (r2) (1) z1) fun q3 => match q3 with | (r3, z3) => (if (r3) = (0) then (Option.bind (zlp (fun q => fX6_lapsing_s28 (v1) q.1 q.2 z3) FU (0, 0)) fun x5_v2 => some (x5_v2, z3)) else some (0, z3)))))
set_option maxRecDepth 100000 in
theorem CX6_lapsing {ln N : Nat} {z : ZZ} {v1 : Int} (hN : 159 ≤ N ∧ N < 999999) (hz : okz z) (rv1 : inR v1) {p : Int × ZZ} (h : fX6_lapsing v1 z = some p) : X mX6_lapsing 0 (xEnt [.ref (151), .int (iN (v1))] (xL mX6_lapsing)) [] (zmk ln N z) (cc_wi p) (6 * cc_wi p) (Qd (fa_wi p) (rs_wi p) (st_wi ln N p)) := by
  have k : Fin_wi (Qd (fa_wi p) (rs_wi p) (st_wi ln N p)) ln N p := Fin_wi_i
  unfold fX6_lapsing at h
  refine X_to (M := [some (.ref (151)), some (.int (iN (v1))), none, none]) (su := []) rfl rfl ?_
  refine X_aload_n (pc' := 1) dX6_lapsing_0 rfl rfl ?_
  refine X_iconst (pc' := 2) dX6_lapsing_1 rfl ?_
  refine Y_put (k := 0) (j := 0) (v := 0) (pc' := 5) dX6_lapsing_2 rfl FX6_51 (zlN hN (by decide)) (congrArg Prod.fst (sh151 ln)) (fun r hr => by cases hr; rfl) (xFit_int _) rfl rfl ?_
  obtain ⟨z1, e1, hz1, h⟩ := zl_some (P := okz) h (okz_up hz (inR_c (n := 0) rfl))
  rw [e1]
  refine X_aload_n (pc' := 6) dX6_lapsing_5 rfl rfl ?_
  refine X_iload_n (pc' := 7) dX6_lapsing_6 rfl rfl ?_
  refine X_lI_i2l (pc' := 8) dX6_lapsing_7 rfl rv1 ?_
  refine X_lI_const (pc' := 9) dX6_lapsing_8 rfl (a := 0) rfl ?_
  refine X_ldc2 (pc' := 12) dX6_lapsing_9 rfl tq1627 (n := 365) rfl ?_
  obtain ⟨r2, q2, h⟩ := bs h
  refine Y_callS [.long (lI (v1)), .long (lI (0)), .long (lI (365))] (pc' := 15) dX6_lapsing_12 rfl SX6_66 (by decide) rfl (cs rfl) (cs rfl) rfl (CX6_in hN hz1 (inL_R rv1) (inL_c (n := 0) rfl) (inL_c (n := 365) rfl) q2) (Nat.zero_add _).symm (Nat.zero_add _).symm (fun f2 => ?_)
  refine X_iconst (pc' := 16) dX6_lapsing_15 rfl ?_
  obtain ⟨⟨r3, z3⟩, q3, h⟩ := bs h
  refine Y_callV [.int (iN (r2)), .int (iN (1))] (pc' := 19) dX6_lapsing_16 rfl VX6_62 (by decide) (zlN hN (by decide)) (congrArg Prod.fst (sh151 ln)) rfl rfl rfl (cs rfl) (cs rfl) rfl (CX6_fails hN hz1 (inR_b f2) (inR_c (n := 1) rfl) q3) (Nat.zero_add _).symm (Nat.zero_add _).symm (fun f3 => ?_)
  refine X_if_eq dX6_lapsing_19 (tgt := 24) rfl (pc' := 22) rfl (inR_b f3.1) (fun c4 => ?_) (fun c4 => ?_)
  · have h := if_t c4 h
    refine X_iconst (pc' := 25) dX6_lapsing_24 rfl ?_
    refine X_istore_n (pc' := 26) dX6_lapsing_25 rfl (cl rfl) (Or.inr rfl) (L' := [some (.ref (151)), some (.int (iN (v1))), some (.int (iN (0))), none]) rfl ?_
    refine X_iconst (pc' := 27) dX6_lapsing_26 rfl ?_
    refine X_istore_n (pc' := 28) dX6_lapsing_27 rfl (cl rfl) (Or.inr rfl) (L' := [some (.ref (151)), some (.int (iN (v1))), some (.int (iN (0))), some (.int (iN (0)))]) rfl ?_
    obtain ⟨x5_v2, q5, h⟩ := bs h
    refine X_sub (sub_s (sub_s (sub_s (sub_s sub_0)))) (LX6_lapsing_28 hN f3.2 rv1 (fun x5_v2₁ hh rx5_v2 => ?_) FU _ _ (inR_c (n := 0) rfl) (inR_c (n := 0) rfl) q5)
    cases hh
    refine X_iload_n (pc' := 81) dX6_lapsing_80 rfl rfl ?_
    cases h
    exact X_iret dX6_lapsing_81 rfl (k ⟨rx5_v2, f3.2⟩)
  have h := if_f c4 h
  refine X_iconst (pc' := 23) dX6_lapsing_22 rfl ?_
  cases h
  exact X_iret dX6_lapsing_23 rfl (k ⟨(inR_c (n := 0) rfl), f3.2⟩)
def fX6_leaveCourse_b34 (v1 : Int) (s1 : Int) (z : ZZ) : Option (Int × ZZ) := (Option.bind (fX6_fails (s1) (2) z) fun q1 => match q1 with | (r1, z1) => (if (r1) = (0) then (Option.bind (fX6_record z1) fun z3 => (Option.bind (fX6_memberPart (v1) (4) z3) fun r4 => (Option.bind (fX6_setMember (v1) (4) ((-1)) z3) fun z5 => some (r4, z5)))) else some (0, z1)))
set_option maxRecDepth 100000 in
theorem BX6_leaveCourse_34 {ln N : Nat} {z : ZZ} {v1 : Int} {s1 : Int} {c9 s9 : Nat} {Φ : xRes → xS → Prop} (hN : 159 ≤ N ∧ N < 999999) (hz : okz z) (rv1 : inR v1) (rs1 : inR s1) {p : Int × ZZ} (h : fX6_leaveCourse_b34 v1 s1 z = some p) (k : Fin_wi Φ ln N p) : X mX6_leaveCourse 34 [some (.ref (151)), some (.int (iN (v1))), none] [.int (iN (s1)), .ref (151)] (zmk ln N z) c9 s9 Φ := by
  unfold fX6_leaveCourse_b34 at h
  refine X_iconst (pc' := 35) dX6_leaveCourse_34 rfl ?_
  obtain ⟨⟨r1, z1⟩, q1, h⟩ := bs h
  refine Y_callV [.int (iN (s1)), .int (iN (2))] (pc' := 38) dX6_leaveCourse_35 rfl VX6_62 (by decide) (zlN hN (by decide)) (congrArg Prod.fst (sh151 ln)) rfl rfl rfl (cs rfl) (cs rfl) rfl (CX6_fails hN hz rs1 (inR_c (n := 2) rfl) q1) (Nat.zero_add _).symm (Nat.zero_add _).symm (fun f1 => ?_)
  refine X_if_eq dX6_leaveCourse_38 (tgt := 43) rfl (pc' := 41) rfl (inR_b f1.1) (fun c2 => ?_) (fun c2 => ?_)
  · have h := if_t c2 h
    refine X_aload_n (pc' := 44) dX6_leaveCourse_43 rfl rfl ?_
    obtain ⟨z3, q3, h⟩ := bs h
    refine Y_callVv [] (pc' := 47) dX6_leaveCourse_44 rfl VX6_229 (by decide) (zlN hN (by decide)) (congrArg Prod.fst (sh151 ln)) rfl rfl rfl (cs rfl) (cs rfl) rfl (CX6_record hN f1.2 q3) (Nat.zero_add _).symm (Nat.zero_add _).symm (fun f3 => ?_)
    refine X_aload_n (pc' := 48) dX6_leaveCourse_47 rfl rfl ?_
    refine X_iload_n (pc' := 49) dX6_leaveCourse_48 rfl rfl ?_
    refine X_iconst (pc' := 50) dX6_leaveCourse_49 rfl ?_
    obtain ⟨r4, q4, h⟩ := bs h
    refine Y_callV [.int (iN (v1)), .int (iN (4))] (pc' := 53) dX6_leaveCourse_50 rfl VX6_207 (by decide) (zlN hN (by decide)) (congrArg Prod.fst (sh151 ln)) rfl rfl rfl (cs rfl) (cs rfl) rfl (CX6_memberPart hN f3 rv1 (inR_c (n := 4) rfl) q4) (Nat.zero_add _).symm (Nat.zero_add _).symm (fun f4 => ?_)
    refine X_istore_n (pc' := 54) dX6_leaveCourse_53 rfl (cl rfl) (Or.inr rfl) (L' := [some (.ref (151)), some (.int (iN (v1))), some (.int (iN (r4)))]) rfl ?_
    refine X_aload_n (pc' := 55) dX6_leaveCourse_54 rfl rfl ?_
    refine X_iload_n (pc' := 56) dX6_leaveCourse_55 rfl rfl ?_
    refine X_iconst (pc' := 57) dX6_leaveCourse_56 rfl ?_
    refine X_iconst (pc' := 58) dX6_leaveCourse_57 rfl ?_
    obtain ⟨z5, q5, h⟩ := bs h
    refine Y_callVv [.int (iN (v1)), .int (iN (4)), .int (iN ((-1)))] (pc' := 61) dX6_leaveCourse_58 rfl VX6_250 (by decide) (zlN hN (by decide)) (congrArg Prod.fst (sh151 ln)) rfl rfl rfl (cs rfl) (cs rfl) rfl (CX6_setMember hN f3 rv1 (inR_c (n := 4) rfl) (inR_c (n := (-1)) rfl) q5) (Nat.zero_add _).symm (Nat.zero_add _).symm (fun f5 => ?_)
    refine X_iload_n (pc' := 62) dX6_leaveCourse_61 rfl rfl ?_
    cases h
    exact X_iret dX6_leaveCourse_62 rfl (k ⟨f4, f5⟩)
  have h := if_f c2 h
  refine X_iconst (pc' := 42) dX6_leaveCourse_41 rfl ?_
  cases h
  exact X_iret dX6_leaveCourse_42 rfl (k ⟨(inR_c (n := 0) rfl), f1.2⟩)
def fX6_leaveCourse (v1 : Int) (z : ZZ) : Option (Int × ZZ) := (zl (zup z 151 0 (0)) fun z1 => (Option.bind (fX6_isMember (v1) z1) fun r2 => (Option.bind (fX6_fails (r2) (1) z1) fun q3 => match q3 with | (r3, z3) => (if (r3) = (0) then (Option.bind (fX6_memberPart (v1) (4) z3) fun r5 => (if (r5) = ((-1)) then fX6_leaveCourse_b34 (v1) (0) z3 else fX6_leaveCourse_b34 (v1) (1) z3)) else some (0, z3)))))
set_option maxRecDepth 100000 in
theorem CX6_leaveCourse {ln N : Nat} {z : ZZ} {v1 : Int} (hN : 159 ≤ N ∧ N < 999999) (hz : okz z) (rv1 : inR v1) {p : Int × ZZ} (h : fX6_leaveCourse v1 z = some p) : X mX6_leaveCourse 0 (xEnt [.ref (151), .int (iN (v1))] (xL mX6_leaveCourse)) [] (zmk ln N z) (cc_wi p) (6 * cc_wi p) (Qd (fa_wi p) (rs_wi p) (st_wi ln N p)) := by
  have k : Fin_wi (Qd (fa_wi p) (rs_wi p) (st_wi ln N p)) ln N p := Fin_wi_i
  unfold fX6_leaveCourse at h
  refine X_to (M := [some (.ref (151)), some (.int (iN (v1))), none]) (su := []) rfl rfl ?_
  refine X_aload_n (pc' := 1) dX6_leaveCourse_0 rfl rfl ?_
  refine X_iconst (pc' := 2) dX6_leaveCourse_1 rfl ?_
  refine Y_put (k := 0) (j := 0) (v := 0) (pc' := 5) dX6_leaveCourse_2 rfl FX6_51 (zlN hN (by decide)) (congrArg Prod.fst (sh151 ln)) (fun r hr => by cases hr; rfl) (xFit_int _) rfl rfl ?_
  obtain ⟨z1, e1, hz1, h⟩ := zl_some (P := okz) h (okz_up hz (inR_c (n := 0) rfl))
  rw [e1]
  refine X_aload_n (pc' := 6) dX6_leaveCourse_5 rfl rfl ?_
  refine X_aload_n (pc' := 7) dX6_leaveCourse_6 rfl rfl ?_
  refine X_iload_n (pc' := 8) dX6_leaveCourse_7 rfl rfl ?_
  obtain ⟨r2, q2, h⟩ := bs h
  refine Y_callV [.int (iN (v1))] (pc' := 11) dX6_leaveCourse_8 rfl VX6_244 (by decide) (zlN hN (by decide)) (congrArg Prod.fst (sh151 ln)) rfl rfl rfl (cs rfl) (cs rfl) rfl (CX6_isMember hN hz1 rv1 q2) (Nat.zero_add _).symm (Nat.zero_add _).symm (fun f2 => ?_)
  refine X_iconst (pc' := 12) dX6_leaveCourse_11 rfl ?_
  obtain ⟨⟨r3, z3⟩, q3, h⟩ := bs h
  refine Y_callV [.int (iN (r2)), .int (iN (1))] (pc' := 15) dX6_leaveCourse_12 rfl VX6_62 (by decide) (zlN hN (by decide)) (congrArg Prod.fst (sh151 ln)) rfl rfl rfl (cs rfl) (cs rfl) rfl (CX6_fails hN hz1 (inR_b f2) (inR_c (n := 1) rfl) q3) (Nat.zero_add _).symm (Nat.zero_add _).symm (fun f3 => ?_)
  refine X_if_ne dX6_leaveCourse_15 (tgt := 41) rfl (pc' := 18) rfl (inR_b f3.1) (fun c4 => ?_) (fun c4 => ?_)
  · have h := if_f c4 h
    refine X_iconst (pc' := 42) dX6_leaveCourse_41 rfl ?_
    cases h
    exact X_iret dX6_leaveCourse_42 rfl (k ⟨(inR_c (n := 0) rfl), f3.2⟩)
  have h := if_t c4 h
  refine X_aload_n (pc' := 19) dX6_leaveCourse_18 rfl rfl ?_
  refine X_aload_n (pc' := 20) dX6_leaveCourse_19 rfl rfl ?_
  refine X_iload_n (pc' := 21) dX6_leaveCourse_20 rfl rfl ?_
  refine X_iconst (pc' := 22) dX6_leaveCourse_21 rfl ?_
  obtain ⟨r5, q5, h⟩ := bs h
  refine Y_callV [.int (iN (v1)), .int (iN (4))] (pc' := 25) dX6_leaveCourse_22 rfl VX6_207 (by decide) (zlN hN (by decide)) (congrArg Prod.fst (sh151 ln)) rfl rfl rfl (cs rfl) (cs rfl) rfl (CX6_memberPart hN f3.2 rv1 (inR_c (n := 4) rfl) q5) (Nat.zero_add _).symm (Nat.zero_add _).symm (fun f5 => ?_)
  refine X_iconst (pc' := 26) dX6_leaveCourse_25 rfl ?_
  refine X_icmp_eq dX6_leaveCourse_26 (tgt := 33) rfl (pc' := 29) rfl ⟨f5.1, f5.2, (inR_c (n := (-1)) rfl).1, (inR_c (n := (-1)) rfl).2⟩ (fun c6 => ?_) (fun c6 => ?_)
  · have h := if_t c6 h
    refine X_iconst (pc' := 34) dX6_leaveCourse_33 rfl ?_
    exact X_sub (sub_s (sub_s (sub_n sub_0))) (BX6_leaveCourse_34 hN f3.2 rv1 (inR_c (n := 0) rfl) h k)
  have h := if_f c6 h
  refine X_iconst (pc' := 30) dX6_leaveCourse_29 rfl ?_
  refine X_goto dX6_leaveCourse_30 (tgt := 34) rfl ?_
  exact X_sub (sub_s (sub_s (sub_n sub_0))) (BX6_leaveCourse_34 hN f3.2 rv1 (inR_c (n := 1) rfl) h k)
def fX6_mayLend_b20 (v1 : Int) (v2 : Int) (s0 : Int) (z : ZZ) : Option (Int) := (Option.bind (fX6_memberPart (v1) (3) z) fun r1 => (if (r1) = ((-1)) then (if (s0) = (0) then some (0) else (Option.bind (fX6_isLent (v2) z) fun r4 => (if (r4) = (0) then (Option.bind (fX6_isInForce (v2) ((z 154 (3))) z) fun r6 => (if (r6) = (0) then some (0) else some (1))) else some (0)))) else some (0)))
set_option maxRecDepth 100000 in
theorem BX6_mayLend_20 {ln N : Nat} {z : ZZ} {v1 : Int} {v2 : Int} {s0 : Int} {c9 s9 : Nat} {Φ : xRes → xS → Prop} (hN : 159 ≤ N ∧ N < 999999) (hz : okz z) (rv1 : inR v1) (rv2 : inR v2) (rs0 : inR s0) {p : Int} (h : fX6_mayLend_b20 v1 v2 s0 z = some p) (k : Fin_b Φ ln N z p) : X mX6_mayLend 20 [some (.ref (151)), some (.int (iN (v1))), some (.int (iN (v2))), none] [.int (iN (s0))] (zmk ln N z) c9 s9 Φ := by
  unfold fX6_mayLend_b20 at h
  refine X_istore_n (pc' := 21) dX6_mayLend_20 rfl (cl rfl) (Or.inr rfl) (L' := [some (.ref (151)), some (.int (iN (v1))), some (.int (iN (v2))), some (.int (iN (s0)))]) rfl ?_
  refine X_aload_n (pc' := 22) dX6_mayLend_21 rfl rfl ?_
  refine X_iload_n (pc' := 23) dX6_mayLend_22 rfl rfl ?_
  refine X_iconst (pc' := 24) dX6_mayLend_23 rfl ?_
  obtain ⟨r1, q1, h⟩ := bs h
  refine Y_callV [.int (iN (v1)), .int (iN (3))] (pc' := 27) dX6_mayLend_24 rfl VX6_207 (by decide) (zlN hN (by decide)) (congrArg Prod.fst (sh151 ln)) rfl rfl rfl (cs rfl) (cs rfl) rfl (CX6_memberPart hN hz rv1 (inR_c (n := 3) rfl) q1) (Nat.zero_add _).symm (Nat.zero_add _).symm (fun f1 => ?_)
  refine X_iconst (pc' := 28) dX6_mayLend_27 rfl ?_
  refine X_icmp_ne dX6_mayLend_28 (tgt := 61) rfl (pc' := 31) rfl ⟨f1.1, f1.2, (inR_c (n := (-1)) rfl).1, (inR_c (n := (-1)) rfl).2⟩ (fun c2 => ?_) (fun c2 => ?_)
  · have h := if_f c2 h
    refine X_iconst (pc' := 62) dX6_mayLend_61 rfl ?_
    cases h
    exact X_zret dX6_mayLend_62 rfl (Or.inl rfl) (k (Or.inl rfl))
  have h := if_t c2 h
  refine X_iload_n (pc' := 32) dX6_mayLend_31 rfl rfl ?_
  refine X_if_eq dX6_mayLend_32 (tgt := 61) rfl (pc' := 35) rfl rs0 (fun c3 => ?_) (fun c3 => ?_)
  · have h := if_t c3 h
    refine X_iconst (pc' := 62) dX6_mayLend_61 rfl ?_
    cases h
    exact X_zret dX6_mayLend_62 rfl (Or.inl rfl) (k (Or.inl rfl))
  have h := if_f c3 h
  refine X_aload_n (pc' := 36) dX6_mayLend_35 rfl rfl ?_
  refine X_iload_n (pc' := 37) dX6_mayLend_36 rfl rfl ?_
  obtain ⟨r4, q4, h⟩ := bs h
  refine Y_callV [.int (iN (v2))] (pc' := 40) dX6_mayLend_37 rfl VX6_256 (by decide) (zlN hN (by decide)) (congrArg Prod.fst (sh151 ln)) rfl rfl rfl (cs rfl) (cs rfl) rfl (CX6_isLent hN hz rv2 q4) (Nat.zero_add _).symm (Nat.zero_add _).symm (fun f4 => ?_)
  refine X_if_ne dX6_mayLend_40 (tgt := 61) rfl (pc' := 43) rfl (inR_b f4) (fun c5 => ?_) (fun c5 => ?_)
  · have h := if_f c5 h
    refine X_iconst (pc' := 62) dX6_mayLend_61 rfl ?_
    cases h
    exact X_zret dX6_mayLend_62 rfl (Or.inl rfl) (k (Or.inl rfl))
  have h := if_t c5 h
  refine X_aload_n (pc' := 44) dX6_mayLend_43 rfl rfl ?_
  refine X_iload_n (pc' := 45) dX6_mayLend_44 rfl rfl ?_
  refine X_aload_n (pc' := 46) dX6_mayLend_45 rfl rfl ?_
  refine Y_get (pc' := 49) dX6_mayLend_46 rfl FX6_16 (zlN hN (by decide)) (congrArg Prod.fst (sh151 ln)) (ct151_9 z) ?_
  refine X_iconst (pc' := 50) dX6_mayLend_49 rfl ?_
  refine Y_iald (pc' := 51) dX6_mayLend_50 rfl (zlN hN (by decide)) (sh154 ln) (by decide) ⟨by decide, by decide⟩ ?_
  obtain ⟨r6, q6, h⟩ := bs h
  refine Y_callV [.int (iN (v2)), .int (iN ((z 154 (3))))] (pc' := 54) dX6_mayLend_51 rfl VX6_210 (by decide) (zlN hN (by decide)) (congrArg Prod.fst (sh151 ln)) rfl rfl rfl (cs rfl) (cs rfl) rfl (CX6_isInForce hN hz rv2 (hz 154 (3) (by decide)) q6) (Nat.zero_add _).symm (Nat.zero_add _).symm (fun f6 => ?_)
  refine X_if_eq dX6_mayLend_54 (tgt := 61) rfl (pc' := 57) rfl (inR_b f6) (fun c7 => ?_) (fun c7 => ?_)
  · have h := if_t c7 h
    refine X_iconst (pc' := 62) dX6_mayLend_61 rfl ?_
    cases h
    exact X_zret dX6_mayLend_62 rfl (Or.inl rfl) (k (Or.inl rfl))
  have h := if_f c7 h
  refine X_iconst (pc' := 58) dX6_mayLend_57 rfl ?_
  refine X_goto dX6_mayLend_58 (tgt := 62) rfl ?_
  cases h
  exact X_zret dX6_mayLend_62 rfl (Or.inr rfl) (k (Or.inr rfl))
def fX6_mayLend (v1 : Int) (v2 : Int) (z : ZZ) : Option (Int) := (Option.bind (fX6_memberPart (v1) (0) z) fun r1 => (Option.bind (fX6_harnessPart (v2) (0) z) fun r2 => (if (r1) = (r2) then fX6_mayLend_b20 (v1) (v2) (1) z else fX6_mayLend_b20 (v1) (v2) (0) z)))
set_option maxRecDepth 100000 in
theorem CX6_mayLend {ln N : Nat} {z : ZZ} {v1 : Int} {v2 : Int} (hN : 159 ≤ N ∧ N < 999999) (hz : okz z) (rv1 : inR v1) (rv2 : inR v2) {p : Int} (h : fX6_mayLend v1 v2 z = some p) : X mX6_mayLend 0 (xEnt [.ref (151), .int (iN (v1)), .int (iN (v2))] (xL mX6_mayLend)) [] (zmk ln N z) (cc_b p) (6 * cc_b p) (Qd (fa_b p) (rs_b p) (st_b ln N z p)) := by
  have k : Fin_b (Qd (fa_b p) (rs_b p) (st_b ln N z p)) ln N z p := Fin_b_i
  unfold fX6_mayLend at h
  refine X_to (M := [some (.ref (151)), some (.int (iN (v1))), some (.int (iN (v2))), none]) (su := []) rfl rfl ?_
  refine X_aload_n (pc' := 1) dX6_mayLend_0 rfl rfl ?_
  refine X_iload_n (pc' := 2) dX6_mayLend_1 rfl rfl ?_
  refine X_iconst (pc' := 3) dX6_mayLend_2 rfl ?_
  obtain ⟨r1, q1, h⟩ := bs h
  refine Y_callV [.int (iN (v1)), .int (iN (0))] (pc' := 6) dX6_mayLend_3 rfl VX6_207 (by decide) (zlN hN (by decide)) (congrArg Prod.fst (sh151 ln)) rfl rfl rfl (cs rfl) (cs rfl) rfl (CX6_memberPart hN hz rv1 (inR_c (n := 0) rfl) q1) (Nat.zero_add _).symm (Nat.zero_add _).symm (fun f1 => ?_)
  refine X_aload_n (pc' := 7) dX6_mayLend_6 rfl rfl ?_
  refine X_iload_n (pc' := 8) dX6_mayLend_7 rfl rfl ?_
  refine X_iconst (pc' := 9) dX6_mayLend_8 rfl ?_
  obtain ⟨r2, q2, h⟩ := bs h
  refine Y_callV [.int (iN (v2)), .int (iN (0))] (pc' := 12) dX6_mayLend_9 rfl VX6_198 (by decide) (zlN hN (by decide)) (congrArg Prod.fst (sh151 ln)) rfl rfl rfl (cs rfl) (cs rfl) rfl (CX6_harnessPart hN hz rv2 (inR_c (n := 0) rfl) q2) (Nat.zero_add _).symm (Nat.zero_add _).symm (fun f2 => ?_)
  refine X_icmp_ne dX6_mayLend_12 (tgt := 19) rfl (pc' := 15) rfl ⟨f1.1, f1.2, f2.1, f2.2⟩ (fun c3 => ?_) (fun c3 => ?_)
  · have h := if_f c3 h
    refine X_iconst (pc' := 20) dX6_mayLend_19 rfl ?_
    exact X_sub (sub_s (sub_s (sub_s (sub_n sub_0)))) (BX6_mayLend_20 hN hz rv1 rv2 (inR_c (n := 0) rfl) h k)
  have h := if_t c3 h
  refine X_iconst (pc' := 16) dX6_mayLend_15 rfl ?_
  refine X_goto dX6_mayLend_16 (tgt := 20) rfl ?_
  exact X_sub (sub_s (sub_s (sub_s (sub_n sub_0)))) (BX6_mayLend_20 hN hz rv1 rv2 (inR_c (n := 1) rfl) h k)
def fX6_lend_b27 (v1 : Int) (v2 : Int) (s1 : Int) (z : ZZ) : Option (Int × ZZ) := (Option.bind (fX6_fails (s1) (1) z) fun q1 => match q1 with | (r1, z1) => (if (r1) = (0) then (Option.bind (fX6_mayLend (v1) (v2) z1) fun r3 => (Option.bind (fX6_fails (r3) (2) z1) fun q4 => match q4 with | (r4, z4) => (if (r4) = (0) then (Option.bind (fX6_record z4) fun z6 => (Option.bind (fX6_setMember (v1) (3) (v2) z6) fun z7 => (Option.bind (fX6_setHarness (v2) (4) (1) z7) fun z8 => (Option.bind (fX6_lapse (v2) z8) fun r9 => some (r9, z8))))) else some (0, z4)))) else some (0, z1)))
set_option maxRecDepth 100000 in
theorem BX6_lend_27 {ln N : Nat} {z : ZZ} {v1 : Int} {v2 : Int} {s1 : Int} {c9 s9 : Nat} {Φ : xRes → xS → Prop} (hN : 159 ≤ N ∧ N < 999999) (hz : okz z) (rv1 : inR v1) (rv2 : inR v2) (rs1 : inR s1) {p : Int × ZZ} (h : fX6_lend_b27 v1 v2 s1 z = some p) (k : Fin_wi Φ ln N p) : X mX6_lend 27 [some (.ref (151)), some (.int (iN (v1))), some (.int (iN (v2)))] [.int (iN (s1)), .ref (151)] (zmk ln N z) c9 s9 Φ := by
  unfold fX6_lend_b27 at h
  refine X_iconst (pc' := 28) dX6_lend_27 rfl ?_
  obtain ⟨⟨r1, z1⟩, q1, h⟩ := bs h
  refine Y_callV [.int (iN (s1)), .int (iN (1))] (pc' := 31) dX6_lend_28 rfl VX6_62 (by decide) (zlN hN (by decide)) (congrArg Prod.fst (sh151 ln)) rfl rfl rfl (cs rfl) (cs rfl) rfl (CX6_fails hN hz rs1 (inR_c (n := 1) rfl) q1) (Nat.zero_add _).symm (Nat.zero_add _).symm (fun f1 => ?_)
  refine X_if_ne dX6_lend_31 (tgt := 48) rfl (pc' := 34) rfl (inR_b f1.1) (fun c2 => ?_) (fun c2 => ?_)
  · have h := if_f c2 h
    refine X_iconst (pc' := 49) dX6_lend_48 rfl ?_
    cases h
    exact X_iret dX6_lend_49 rfl (k ⟨(inR_c (n := 0) rfl), f1.2⟩)
  have h := if_t c2 h
  refine X_aload_n (pc' := 35) dX6_lend_34 rfl rfl ?_
  refine X_aload_n (pc' := 36) dX6_lend_35 rfl rfl ?_
  refine X_iload_n (pc' := 37) dX6_lend_36 rfl rfl ?_
  refine X_iload_n (pc' := 38) dX6_lend_37 rfl rfl ?_
  obtain ⟨r3, q3, h⟩ := bs h
  refine Y_callV [.int (iN (v1)), .int (iN (v2))] (pc' := 41) dX6_lend_38 rfl VX6_262 (by decide) (zlN hN (by decide)) (congrArg Prod.fst (sh151 ln)) rfl rfl rfl (cs rfl) (cs rfl) rfl (CX6_mayLend hN f1.2 rv1 rv2 q3) (Nat.zero_add _).symm (Nat.zero_add _).symm (fun f3 => ?_)
  refine X_iconst (pc' := 42) dX6_lend_41 rfl ?_
  obtain ⟨⟨r4, z4⟩, q4, h⟩ := bs h
  refine Y_callV [.int (iN (r3)), .int (iN (2))] (pc' := 45) dX6_lend_42 rfl VX6_62 (by decide) (zlN hN (by decide)) (congrArg Prod.fst (sh151 ln)) rfl rfl rfl (cs rfl) (cs rfl) rfl (CX6_fails hN f1.2 (inR_b f3) (inR_c (n := 2) rfl) q4) (Nat.zero_add _).symm (Nat.zero_add _).symm (fun f4 => ?_)
  refine X_if_eq dX6_lend_45 (tgt := 50) rfl (pc' := 48) rfl (inR_b f4.1) (fun c5 => ?_) (fun c5 => ?_)
  · have h := if_t c5 h
    refine X_aload_n (pc' := 51) dX6_lend_50 rfl rfl ?_
    obtain ⟨z6, q6, h⟩ := bs h
    refine Y_callVv [] (pc' := 54) dX6_lend_51 rfl VX6_229 (by decide) (zlN hN (by decide)) (congrArg Prod.fst (sh151 ln)) rfl rfl rfl (cs rfl) (cs rfl) rfl (CX6_record hN f4.2 q6) (Nat.zero_add _).symm (Nat.zero_add _).symm (fun f6 => ?_)
    refine X_aload_n (pc' := 55) dX6_lend_54 rfl rfl ?_
    refine X_iload_n (pc' := 56) dX6_lend_55 rfl rfl ?_
    refine X_iconst (pc' := 57) dX6_lend_56 rfl ?_
    refine X_iload_n (pc' := 58) dX6_lend_57 rfl rfl ?_
    obtain ⟨z7, q7, h⟩ := bs h
    refine Y_callVv [.int (iN (v1)), .int (iN (3)), .int (iN (v2))] (pc' := 61) dX6_lend_58 rfl VX6_250 (by decide) (zlN hN (by decide)) (congrArg Prod.fst (sh151 ln)) rfl rfl rfl (cs rfl) (cs rfl) rfl (CX6_setMember hN f6 rv1 (inR_c (n := 3) rfl) rv2 q7) (Nat.zero_add _).symm (Nat.zero_add _).symm (fun f7 => ?_)
    refine X_aload_n (pc' := 62) dX6_lend_61 rfl rfl ?_
    refine X_iload_n (pc' := 63) dX6_lend_62 rfl rfl ?_
    refine X_iconst (pc' := 64) dX6_lend_63 rfl ?_
    refine X_iconst (pc' := 65) dX6_lend_64 rfl ?_
    obtain ⟨z8, q8, h⟩ := bs h
    refine Y_callVv [.int (iN (v2)), .int (iN (4)), .int (iN (1))] (pc' := 68) dX6_lend_65 rfl VX6_265 (by decide) (zlN hN (by decide)) (congrArg Prod.fst (sh151 ln)) rfl rfl rfl (cs rfl) (cs rfl) rfl (CX6_setHarness hN f7 rv2 (inR_c (n := 4) rfl) (inR_c (n := 1) rfl) q8) (Nat.zero_add _).symm (Nat.zero_add _).symm (fun f8 => ?_)
    refine X_aload_n (pc' := 69) dX6_lend_68 rfl rfl ?_
    refine X_iload_n (pc' := 70) dX6_lend_69 rfl rfl ?_
    obtain ⟨r9, q9, h⟩ := bs h
    refine Y_callV [.int (iN (v2))] (pc' := 73) dX6_lend_70 rfl VX6_204 (by decide) (zlN hN (by decide)) (congrArg Prod.fst (sh151 ln)) rfl rfl rfl (cs rfl) (cs rfl) rfl (CX6_lapse hN f8 rv2 q9) (Nat.zero_add _).symm (Nat.zero_add _).symm (fun f9 => ?_)
    cases h
    exact X_iret dX6_lend_73 rfl (k ⟨f9, f8⟩)
  have h := if_f c5 h
  refine X_iconst (pc' := 49) dX6_lend_48 rfl ?_
  cases h
  exact X_iret dX6_lend_49 rfl (k ⟨(inR_c (n := 0) rfl), f4.2⟩)
def fX6_lend_b26 (v1 : Int) (v2 : Int) (z : ZZ) : Option (Int × ZZ) := fX6_lend_b27 (v1) (v2) (0) z
set_option maxRecDepth 100000 in
theorem BX6_lend_26 {ln N : Nat} {z : ZZ} {v1 : Int} {v2 : Int} {c9 s9 : Nat} {Φ : xRes → xS → Prop} (hN : 159 ≤ N ∧ N < 999999) (hz : okz z) (rv1 : inR v1) (rv2 : inR v2) {p : Int × ZZ} (h : fX6_lend_b26 v1 v2 z = some p) (k : Fin_wi Φ ln N p) : X mX6_lend 26 [some (.ref (151)), some (.int (iN (v1))), some (.int (iN (v2)))] [.ref (151)] (zmk ln N z) c9 s9 Φ := by
  unfold fX6_lend_b26 at h
  refine X_iconst (pc' := 27) dX6_lend_26 rfl ?_
  exact X_sub (sub_s (sub_s (sub_s sub_0))) (BX6_lend_27 hN hz rv1 rv2 (inR_c (n := 0) rfl) h k)
def fX6_lend (v1 : Int) (v2 : Int) (z : ZZ) : Option (Int × ZZ) := (zl (zup z 151 0 (0)) fun z1 => (Option.bind (fX6_isMember (v1) z1) fun r2 => (if (r2) = (0) then fX6_lend_b26 (v1) (v2) z1 else (Option.bind (fX6_isHarness (v2) z1) fun r4 => (if (r4) = (0) then fX6_lend_b26 (v1) (v2) z1 else fX6_lend_b27 (v1) (v2) (1) z1)))))
set_option maxRecDepth 100000 in
theorem CX6_lend {ln N : Nat} {z : ZZ} {v1 : Int} {v2 : Int} (hN : 159 ≤ N ∧ N < 999999) (hz : okz z) (rv1 : inR v1) (rv2 : inR v2) {p : Int × ZZ} (h : fX6_lend v1 v2 z = some p) : X mX6_lend 0 (xEnt [.ref (151), .int (iN (v1)), .int (iN (v2))] (xL mX6_lend)) [] (zmk ln N z) (cc_wi p) (6 * cc_wi p) (Qd (fa_wi p) (rs_wi p) (st_wi ln N p)) := by
  have k : Fin_wi (Qd (fa_wi p) (rs_wi p) (st_wi ln N p)) ln N p := Fin_wi_i
  unfold fX6_lend at h
  refine X_to (M := [some (.ref (151)), some (.int (iN (v1))), some (.int (iN (v2)))]) (su := []) rfl rfl ?_
  refine X_aload_n (pc' := 1) dX6_lend_0 rfl rfl ?_
  refine X_iconst (pc' := 2) dX6_lend_1 rfl ?_
  refine Y_put (k := 0) (j := 0) (v := 0) (pc' := 5) dX6_lend_2 rfl FX6_51 (zlN hN (by decide)) (congrArg Prod.fst (sh151 ln)) (fun r hr => by cases hr; rfl) (xFit_int _) rfl rfl ?_
  obtain ⟨z1, e1, hz1, h⟩ := zl_some (P := okz) h (okz_up hz (inR_c (n := 0) rfl))
  rw [e1]
  refine X_aload_n (pc' := 6) dX6_lend_5 rfl rfl ?_
  refine X_aload_n (pc' := 7) dX6_lend_6 rfl rfl ?_
  refine X_iload_n (pc' := 8) dX6_lend_7 rfl rfl ?_
  obtain ⟨r2, q2, h⟩ := bs h
  refine Y_callV [.int (iN (v1))] (pc' := 11) dX6_lend_8 rfl VX6_244 (by decide) (zlN hN (by decide)) (congrArg Prod.fst (sh151 ln)) rfl rfl rfl (cs rfl) (cs rfl) rfl (CX6_isMember hN hz1 rv1 q2) (Nat.zero_add _).symm (Nat.zero_add _).symm (fun f2 => ?_)
  refine X_if_eq dX6_lend_11 (tgt := 26) rfl (pc' := 14) rfl (inR_b f2) (fun c3 => ?_) (fun c3 => ?_)
  · have h := if_t c3 h
    exact X_sub (sub_s (sub_s (sub_s sub_0))) (BX6_lend_26 hN hz1 rv1 rv2 h k)
  have h := if_f c3 h
  refine X_aload_n (pc' := 15) dX6_lend_14 rfl rfl ?_
  refine X_iload_n (pc' := 16) dX6_lend_15 rfl rfl ?_
  obtain ⟨r4, q4, h⟩ := bs h
  refine Y_callV [.int (iN (v2))] (pc' := 19) dX6_lend_16 rfl VX6_259 (by decide) (zlN hN (by decide)) (congrArg Prod.fst (sh151 ln)) rfl rfl rfl (cs rfl) (cs rfl) rfl (CX6_isHarness hN hz1 rv2 q4) (Nat.zero_add _).symm (Nat.zero_add _).symm (fun f4 => ?_)
  refine X_if_eq dX6_lend_19 (tgt := 26) rfl (pc' := 22) rfl (inR_b f4) (fun c5 => ?_) (fun c5 => ?_)
  · have h := if_t c5 h
    exact X_sub (sub_s (sub_s (sub_s sub_0))) (BX6_lend_26 hN hz1 rv1 rv2 h k)
  have h := if_f c5 h
  refine X_iconst (pc' := 23) dX6_lend_22 rfl ?_
  refine X_goto dX6_lend_23 (tgt := 27) rfl ?_
  exact X_sub (sub_s (sub_s (sub_s sub_0))) (BX6_lend_27 hN hz1 rv1 rv2 (inR_c (n := 1) rfl) h k)
def fX6_lendable_b92 (v1 : Int) (v3 : Int) (s0 : Int) (s1 : Int) (z : ZZ) : Option ((Int × Int) ⊕ (Int)) := (if inR ((v3 + 1)) then some (.inl ((zor s0 s1), (v3 + 1))) else none)
set_option maxRecDepth 100000 in
theorem BX6_lendable_92 {ln N : Nat} {z : ZZ} {v1 : Int} {v3 : Int} {s0 : Int} {s1 : Int} {c9 s9 : Nat} {Φ : xRes → xS → Prop} (hN : 159 ≤ N ∧ N < 999999) (hz : okz z) (rv1 : inR v1) (rv3 : inR v3) (rs0 : inR s0) (rs1 : inR s1) {p : (Int × Int) ⊕ (Int)} (h : fX6_lendable_b92 v1 v3 s0 s1 z = some p) (k1 : ∀ (v2' : Int) (v3' : Int), p = .inl (v2', v3') → inR v2' → inR v3' → X mX6_lendable 28 [some (.ref (151)), some (.int (iN (v1))), some (.int (iN (v2'))), some (.int (iN (v3'))), none] [] (zmk ln N z) c9 s9 Φ) (k2 : ∀ (v2' : Int), p = .inr v2' → inR v2' → X mX6_lendable 100 [none, none, some (.int (iN (v2'))), none, none] [] (zmk ln N z) c9 s9 Φ) : X mX6_lendable 92 [some (.ref (151)), some (.int (iN (v1))), none, some (.int (iN (v3))), none] [.int (iN (s1)), .int (iN (s0))] (zmk ln N z) c9 s9 Φ := by
  unfold fX6_lendable_b92 at h
  refine X_ior (pc' := 93) dX6_lendable_92 rfl ?_
  refine X_istore_n (pc' := 94) dX6_lendable_93 rfl (cl rfl) (Or.inr rfl) (L' := [some (.ref (151)), some (.int (iN (v1))), some (.int (iN ((zor s0 s1)))), some (.int (iN (v3))), none]) rfl ?_
  refine X_iinc (pc' := 97) dX6_lendable_94 rfl rfl (Or.inr rfl) (L' := [some (.ref (151)), some (.int (iN (v1))), some (.int (iN ((zor s0 s1)))), some (.int (iN (v3 + 1))), none]) rfl ?_
  refine X_goto dX6_lendable_97 (tgt := 28) rfl ?_
  obtain ⟨g1, h⟩ := gs h
  cases h
  exact X_sub (sub_s (sub_s (sub_s (sub_s (sub_n sub_0))))) (k1 _ _ rfl (inR_zor _ _) g1)
def fX6_lendable_b77 (v1 : Int) (v2 : Int) (v3 : Int) (s0 : Int) (z : ZZ) : Option ((Int × Int) ⊕ (Int)) := (if (s0) = (0) then fX6_lendable_b92 (v1) (v3) (v2) (0) z else fX6_lendable_b92 (v1) (v3) (v2) ((zshl 1 v3)) z)
set_option maxRecDepth 100000 in
theorem BX6_lendable_77 {ln N : Nat} {z : ZZ} {v1 : Int} {v2 : Int} {v3 : Int} {s0 : Int} {c9 s9 : Nat} {Φ : xRes → xS → Prop} (hN : 159 ≤ N ∧ N < 999999) (hz : okz z) (rv1 : inR v1) (rv2 : inR v2) (rv3 : inR v3) (rs0 : inR s0) {p : (Int × Int) ⊕ (Int)} (h : fX6_lendable_b77 v1 v2 v3 s0 z = some p) (k1 : ∀ (v2' : Int) (v3' : Int), p = .inl (v2', v3') → inR v2' → inR v3' → X mX6_lendable 28 [some (.ref (151)), some (.int (iN (v1))), some (.int (iN (v2'))), some (.int (iN (v3'))), none] [] (zmk ln N z) c9 s9 Φ) (k2 : ∀ (v2' : Int), p = .inr v2' → inR v2' → X mX6_lendable 100 [none, none, some (.int (iN (v2'))), none, none] [] (zmk ln N z) c9 s9 Φ) : X mX6_lendable 77 [some (.ref (151)), some (.int (iN (v1))), some (.int (iN (v2))), some (.int (iN (v3))), none] [.int (iN (s0))] (zmk ln N z) c9 s9 Φ := by
  unfold fX6_lendable_b77 at h
  refine X_istore (pc' := 79) dX6_lendable_77 rfl (cl rfl) (Or.inr rfl) (L' := [some (.ref (151)), some (.int (iN (v1))), some (.int (iN (v2))), some (.int (iN (v3))), some (.int (iN (s0)))]) rfl ?_
  refine X_iload_n (pc' := 80) dX6_lendable_79 rfl rfl ?_
  refine X_iload (pc' := 82) dX6_lendable_80 rfl rfl ?_
  refine X_if_eq dX6_lendable_82 (tgt := 91) rfl (pc' := 85) rfl rs0 (fun c1 => ?_) (fun c1 => ?_)
  · have h := if_t c1 h
    refine X_iconst (pc' := 92) dX6_lendable_91 rfl ?_
    exact X_sub (sub_s (sub_s (sub_n (sub_s (sub_n sub_0))))) (BX6_lendable_92 hN hz rv1 rv3 rv2 (inR_c (n := 0) rfl) h k1 k2)
  have h := if_f c1 h
  refine X_iconst (pc' := 86) dX6_lendable_85 rfl ?_
  refine X_iload_n (pc' := 87) dX6_lendable_86 rfl rfl ?_
  refine X_ishl (pc' := 88) dX6_lendable_87 rfl ?_
  refine X_goto dX6_lendable_88 (tgt := 92) rfl ?_
  exact X_sub (sub_s (sub_s (sub_n (sub_s (sub_n sub_0))))) (BX6_lendable_92 hN hz rv1 rv3 rv2 (inR_zshl _ _) h k1 k2)
def fX6_lendable_b76 (v1 : Int) (v2 : Int) (v3 : Int) (z : ZZ) : Option ((Int × Int) ⊕ (Int)) := fX6_lendable_b77 (v1) (v2) (v3) (0) z
set_option maxRecDepth 100000 in
theorem BX6_lendable_76 {ln N : Nat} {z : ZZ} {v1 : Int} {v2 : Int} {v3 : Int} {c9 s9 : Nat} {Φ : xRes → xS → Prop} (hN : 159 ≤ N ∧ N < 999999) (hz : okz z) (rv1 : inR v1) (rv2 : inR v2) (rv3 : inR v3) {p : (Int × Int) ⊕ (Int)} (h : fX6_lendable_b76 v1 v2 v3 z = some p) (k1 : ∀ (v2' : Int) (v3' : Int), p = .inl (v2', v3') → inR v2' → inR v3' → X mX6_lendable 28 [some (.ref (151)), some (.int (iN (v1))), some (.int (iN (v2'))), some (.int (iN (v3'))), none] [] (zmk ln N z) c9 s9 Φ) (k2 : ∀ (v2' : Int), p = .inr v2' → inR v2' → X mX6_lendable 100 [none, none, some (.int (iN (v2'))), none, none] [] (zmk ln N z) c9 s9 Φ) : X mX6_lendable 76 [some (.ref (151)), some (.int (iN (v1))), some (.int (iN (v2))), some (.int (iN (v3))), none] [] (zmk ln N z) c9 s9 Φ := by
  unfold fX6_lendable_b76 at h
  refine X_iconst (pc' := 77) dX6_lendable_76 rfl ?_
  exact X_sub (sub_s (sub_s (sub_s (sub_s (sub_n sub_0))))) (BX6_lendable_77 hN hz rv1 rv2 rv3 (inR_c (n := 0) rfl) h k1 k2)
def fX6_lendable_s28 (v1 : Int) (v2 : Int) (v3 : Int) (z : ZZ) : Option ((Int × Int) ⊕ (Int)) := (if (v3) < ((z 154 (470))) then (Option.bind (fX6_harnessPart (v3) (0) z) fun r2 => (if (r2) = (v1) then (Option.bind (fX6_isLent (v3) z) fun r4 => (if (r4) = (0) then (Option.bind (fX6_isInForce (v3) ((z 154 (3))) z) fun r6 => (if (r6) = (0) then fX6_lendable_b76 (v1) (v2) (v3) z else fX6_lendable_b77 (v1) (v2) (v3) (1) z)) else fX6_lendable_b76 (v1) (v2) (v3) z)) else fX6_lendable_b76 (v1) (v2) (v3) z)) else some (.inr v2))
set_option maxRecDepth 100000 in
theorem SX6_lendable_28 {ln N : Nat} {z : ZZ} {v1 : Int} {v2 : Int} {v3 : Int} {c9 s9 : Nat} {Φ : xRes → xS → Prop} (hN : 159 ≤ N ∧ N < 999999) (hz : okz z) (rv1 : inR v1) (rv2 : inR v2) (rv3 : inR v3) {p : (Int × Int) ⊕ (Int)} (h : fX6_lendable_s28 v1 v2 v3 z = some p) (k1 : ∀ (v2' : Int) (v3' : Int), p = .inl (v2', v3') → inR v2' → inR v3' → X mX6_lendable 28 [some (.ref (151)), some (.int (iN (v1))), some (.int (iN (v2'))), some (.int (iN (v3'))), none] [] (zmk ln N z) c9 s9 Φ) (k2 : ∀ (v2' : Int), p = .inr v2' → inR v2' → X mX6_lendable 100 [none, none, some (.int (iN (v2'))), none, none] [] (zmk ln N z) c9 s9 Φ) : X mX6_lendable 28 [some (.ref (151)), some (.int (iN (v1))), some (.int (iN (v2))), some (.int (iN (v3))), none] [] (zmk ln N z) c9 s9 Φ := by
  unfold fX6_lendable_s28 at h
  refine X_iload_n (pc' := 29) dX6_lendable_28 rfl rfl ?_
  refine X_aload_n (pc' := 30) dX6_lendable_29 rfl rfl ?_
  refine Y_get (pc' := 33) dX6_lendable_30 rfl FX6_16 (zlN hN (by decide)) (congrArg Prod.fst (sh151 ln)) (ct151_9 z) ?_
  refine X_sipush (pc' := 36) dX6_lendable_33 rfl (by decide) ?_
  refine Y_iald (pc' := 37) dX6_lendable_36 rfl (zlN hN (by decide)) (sh154 ln) (by decide) ⟨by decide, by decide⟩ ?_
  refine X_icmp_ge dX6_lendable_37 (tgt := 100) rfl (pc' := 40) rfl ⟨rv3.1, rv3.2, (hz 154 (470) (by decide)).1, (hz 154 (470) (by decide)).2⟩ (fun c1 => ?_) (fun c1 => ?_)
  · have h := if_f (Int.not_lt.mpr c1) h
    cases h
    exact X_sub (sub_n (sub_n (sub_s (sub_n (sub_n sub_0))))) (k2 _ rfl rv2)
  have h := if_t c1 h
  refine X_aload_n (pc' := 41) dX6_lendable_40 rfl rfl ?_
  refine X_iload_n (pc' := 42) dX6_lendable_41 rfl rfl ?_
  refine X_iconst (pc' := 43) dX6_lendable_42 rfl ?_
  obtain ⟨r2, q2, h⟩ := bs h
  refine Y_callV [.int (iN (v3)), .int (iN (0))] (pc' := 46) dX6_lendable_43 rfl VX6_198 (by decide) (zlN hN (by decide)) (congrArg Prod.fst (sh151 ln)) rfl rfl rfl (cs rfl) (cs rfl) rfl (CX6_harnessPart hN hz rv3 (inR_c (n := 0) rfl) q2) (Nat.zero_add _).symm (Nat.zero_add _).symm (fun f2 => ?_)
  refine X_iload_n (pc' := 47) dX6_lendable_46 rfl rfl ?_
  refine X_icmp_ne dX6_lendable_47 (tgt := 76) rfl (pc' := 50) rfl ⟨f2.1, f2.2, rv1.1, rv1.2⟩ (fun c3 => ?_) (fun c3 => ?_)
  · have h := if_f c3 h
    exact X_sub (sub_s (sub_s (sub_s (sub_s (sub_n sub_0))))) (BX6_lendable_76 hN hz rv1 rv2 rv3 h k1 k2)
  have h := if_t c3 h
  refine X_aload_n (pc' := 51) dX6_lendable_50 rfl rfl ?_
  refine X_iload_n (pc' := 52) dX6_lendable_51 rfl rfl ?_
  obtain ⟨r4, q4, h⟩ := bs h
  refine Y_callV [.int (iN (v3))] (pc' := 55) dX6_lendable_52 rfl VX6_256 (by decide) (zlN hN (by decide)) (congrArg Prod.fst (sh151 ln)) rfl rfl rfl (cs rfl) (cs rfl) rfl (CX6_isLent hN hz rv3 q4) (Nat.zero_add _).symm (Nat.zero_add _).symm (fun f4 => ?_)
  refine X_if_ne dX6_lendable_55 (tgt := 76) rfl (pc' := 58) rfl (inR_b f4) (fun c5 => ?_) (fun c5 => ?_)
  · have h := if_f c5 h
    exact X_sub (sub_s (sub_s (sub_s (sub_s (sub_n sub_0))))) (BX6_lendable_76 hN hz rv1 rv2 rv3 h k1 k2)
  have h := if_t c5 h
  refine X_aload_n (pc' := 59) dX6_lendable_58 rfl rfl ?_
  refine X_iload_n (pc' := 60) dX6_lendable_59 rfl rfl ?_
  refine X_aload_n (pc' := 61) dX6_lendable_60 rfl rfl ?_
  refine Y_get (pc' := 64) dX6_lendable_61 rfl FX6_16 (zlN hN (by decide)) (congrArg Prod.fst (sh151 ln)) (ct151_9 z) ?_
  refine X_iconst (pc' := 65) dX6_lendable_64 rfl ?_
  refine Y_iald (pc' := 66) dX6_lendable_65 rfl (zlN hN (by decide)) (sh154 ln) (by decide) ⟨by decide, by decide⟩ ?_
  obtain ⟨r6, q6, h⟩ := bs h
  refine Y_callV [.int (iN (v3)), .int (iN ((z 154 (3))))] (pc' := 69) dX6_lendable_66 rfl VX6_210 (by decide) (zlN hN (by decide)) (congrArg Prod.fst (sh151 ln)) rfl rfl rfl (cs rfl) (cs rfl) rfl (CX6_isInForce hN hz rv3 (hz 154 (3) (by decide)) q6) (Nat.zero_add _).symm (Nat.zero_add _).symm (fun f6 => ?_)
  refine X_if_eq dX6_lendable_69 (tgt := 76) rfl (pc' := 72) rfl (inR_b f6) (fun c7 => ?_) (fun c7 => ?_)
  · have h := if_t c7 h
    exact X_sub (sub_s (sub_s (sub_s (sub_s (sub_n sub_0))))) (BX6_lendable_76 hN hz rv1 rv2 rv3 h k1 k2)
  have h := if_f c7 h
  refine X_iconst (pc' := 73) dX6_lendable_72 rfl ?_
  refine X_goto dX6_lendable_73 (tgt := 77) rfl ?_
  exact X_sub (sub_s (sub_s (sub_s (sub_s (sub_n sub_0))))) (BX6_lendable_77 hN hz rv1 rv2 rv3 (inR_c (n := 1) rfl) h k1 k2)
theorem LX6_lendable_28 {ln N : Nat} {z : ZZ} {v1 : Int} {c9 s9 : Nat} {Φ : xRes → xS → Prop} (hN : 159 ≤ N ∧ N < 999999) (hz : okz z) (rv1 : inR v1) {r : Int} (k2 : ∀ (v2' : Int), r = v2' → inR v2' → X mX6_lendable 100 [none, none, some (.int (iN (v2'))), none, none] [] (zmk ln N z) c9 s9 Φ) : ∀ (n : Nat) (v2 : Int) (v3 : Int), inR v2 → inR v3 → zlp (fun q => fX6_lendable_s28 v1 q.1 q.2 z) n (v2, v3) = some r → X mX6_lendable 28 [some (.ref (151)), some (.int (iN (v1))), some (.int (iN (v2))), some (.int (iN (v3))), none] [] (zmk ln N z) c9 s9 Φ := by
  intro n
  induction n with
  | zero => intro v2 v3 rv2 rv3 h; cases h
  | succ n ih =>
    intro v2 v3 rv2 rv3 h
    rcases zlp_s h with ⟨⟨v2', v3'⟩, e, h'⟩ | e
    · exact SX6_lendable_28 hN hz rv1 rv2 rv3 e (fun v2₁ v3₁ hh f0 f1 => by cases hh; exact ih _ _ f0 f1 h') (fun v2₁ hh f0 => by cases hh)
    · exact SX6_lendable_28 hN hz rv1 rv2 rv3 e (fun v2₁ v3₁ hh f0 f1 => by cases hh) (fun v2₁ hh f0 => by cases hh; exact k2 _ rfl f0)
def fX6_lendable (v1 : Int) (z : ZZ) : Option (Int × ZZ) := (zl (zup z 151 0 (0)) fun z1 => (Option.bind (fX6_in (v1) (0) (3) z1) fun r2 => (Option.bind (fX6_fails (r2) (1) z1) fun q3 => match q3 with | (r3, z3) => (if (r3) = (0) then (Option.bind (zlp (fun q => fX6_lendable_s28 (v1) q.1 q.2 z3) FU (0, 0)) fun x5_v2 => some (x5_v2, z3)) else some (0, z3)))))
set_option maxRecDepth 100000 in
theorem CX6_lendable {ln N : Nat} {z : ZZ} {v1 : Int} (hN : 159 ≤ N ∧ N < 999999) (hz : okz z) (rv1 : inR v1) {p : Int × ZZ} (h : fX6_lendable v1 z = some p) : X mX6_lendable 0 (xEnt [.ref (151), .int (iN (v1))] (xL mX6_lendable)) [] (zmk ln N z) (cc_wi p) (6 * cc_wi p) (Qd (fa_wi p) (rs_wi p) (st_wi ln N p)) := by
  have k : Fin_wi (Qd (fa_wi p) (rs_wi p) (st_wi ln N p)) ln N p := Fin_wi_i
  unfold fX6_lendable at h
  refine X_to (M := [some (.ref (151)), some (.int (iN (v1))), none, none, none]) (su := []) rfl rfl ?_
  refine X_aload_n (pc' := 1) dX6_lendable_0 rfl rfl ?_
  refine X_iconst (pc' := 2) dX6_lendable_1 rfl ?_
  refine Y_put (k := 0) (j := 0) (v := 0) (pc' := 5) dX6_lendable_2 rfl FX6_51 (zlN hN (by decide)) (congrArg Prod.fst (sh151 ln)) (fun r hr => by cases hr; rfl) (xFit_int _) rfl rfl ?_
  obtain ⟨z1, e1, hz1, h⟩ := zl_some (P := okz) h (okz_up hz (inR_c (n := 0) rfl))
  rw [e1]
  refine X_aload_n (pc' := 6) dX6_lendable_5 rfl rfl ?_
  refine X_iload_n (pc' := 7) dX6_lendable_6 rfl rfl ?_
  refine X_lI_i2l (pc' := 8) dX6_lendable_7 rfl rv1 ?_
  refine X_lI_const (pc' := 9) dX6_lendable_8 rfl (a := 0) rfl ?_
  refine X_ldc2 (pc' := 12) dX6_lendable_9 rfl tq1544 (n := 3) rfl ?_
  obtain ⟨r2, q2, h⟩ := bs h
  refine Y_callS [.long (lI (v1)), .long (lI (0)), .long (lI (3))] (pc' := 15) dX6_lendable_12 rfl SX6_66 (by decide) rfl (cs rfl) (cs rfl) rfl (CX6_in hN hz1 (inL_R rv1) (inL_c (n := 0) rfl) (inL_c (n := 3) rfl) q2) (Nat.zero_add _).symm (Nat.zero_add _).symm (fun f2 => ?_)
  refine X_iconst (pc' := 16) dX6_lendable_15 rfl ?_
  obtain ⟨⟨r3, z3⟩, q3, h⟩ := bs h
  refine Y_callV [.int (iN (r2)), .int (iN (1))] (pc' := 19) dX6_lendable_16 rfl VX6_62 (by decide) (zlN hN (by decide)) (congrArg Prod.fst (sh151 ln)) rfl rfl rfl (cs rfl) (cs rfl) rfl (CX6_fails hN hz1 (inR_b f2) (inR_c (n := 1) rfl) q3) (Nat.zero_add _).symm (Nat.zero_add _).symm (fun f3 => ?_)
  refine X_if_eq dX6_lendable_19 (tgt := 24) rfl (pc' := 22) rfl (inR_b f3.1) (fun c4 => ?_) (fun c4 => ?_)
  · have h := if_t c4 h
    refine X_iconst (pc' := 25) dX6_lendable_24 rfl ?_
    refine X_istore_n (pc' := 26) dX6_lendable_25 rfl (cl rfl) (Or.inr rfl) (L' := [some (.ref (151)), some (.int (iN (v1))), some (.int (iN (0))), none, none]) rfl ?_
    refine X_iconst (pc' := 27) dX6_lendable_26 rfl ?_
    refine X_istore_n (pc' := 28) dX6_lendable_27 rfl (cl rfl) (Or.inr rfl) (L' := [some (.ref (151)), some (.int (iN (v1))), some (.int (iN (0))), some (.int (iN (0))), none]) rfl ?_
    obtain ⟨x5_v2, q5, h⟩ := bs h
    refine X_sub (sub_s (sub_s (sub_s (sub_s (sub_n sub_0))))) (LX6_lendable_28 hN f3.2 rv1 (fun x5_v2₁ hh rx5_v2 => ?_) FU _ _ (inR_c (n := 0) rfl) (inR_c (n := 0) rfl) q5)
    cases hh
    refine X_iload_n (pc' := 101) dX6_lendable_100 rfl rfl ?_
    cases h
    exact X_iret dX6_lendable_101 rfl (k ⟨rx5_v2, f3.2⟩)
  have h := if_f c4 h
  refine X_iconst (pc' := 23) dX6_lendable_22 rfl ?_
  cases h
  exact X_iret dX6_lendable_23 rfl (k ⟨(inR_c (n := 0) rfl), f3.2⟩)
def fX6_takeRead_s2 (v1 : Int) (z : ZZ) : Option ((Int × ZZ) ⊕ (ZZ)) := (if (v1) < (765) then (if (0 : Int) ≤ (v1) ∧ (v1) < (765 : Int) then (zl (zup z 154 (v1) ((z 153 (v1)))) fun z3 => (if inR ((v1 + 1)) then some (.inl ((v1 + 1), z3)) else none)) else none) else some (.inr z))
set_option maxRecDepth 100000 in
theorem SX6_takeRead_2 {ln N : Nat} {z : ZZ} {v1 : Int} {c9 s9 : Nat} {Φ : xRes → xS → Prop} (hN : 159 ≤ N ∧ N < 999999) (hz : okz z) (rv1 : inR v1) {p : (Int × ZZ) ⊕ (ZZ)} (h : fX6_takeRead_s2 v1 z = some p) (k1 : ∀ (v1' : Int) (z' : ZZ), p = .inl (v1', z') → inR v1' → okz z' → X mX6_takeRead 2 [some (.ref (151)), some (.int (iN (v1')))] [] (zmk ln N z') c9 s9 Φ) (k2 : ∀ (z' : ZZ), p = .inr z' → okz z' → X mX6_takeRead 27 [some (.ref (151)), none] [] (zmk ln N z') c9 s9 Φ) : X mX6_takeRead 2 [some (.ref (151)), some (.int (iN (v1)))] [] (zmk ln N z) c9 s9 Φ := by
  unfold fX6_takeRead_s2 at h
  refine X_iload_n (pc' := 3) dX6_takeRead_2 rfl rfl ?_
  refine X_sipush (pc' := 6) dX6_takeRead_3 rfl (by decide) ?_
  refine X_icmp_ge dX6_takeRead_6 (tgt := 27) rfl (pc' := 9) rfl ⟨rv1.1, rv1.2, (inR_c (n := 765) rfl).1, (inR_c (n := 765) rfl).2⟩ (fun c1 => ?_) (fun c1 => ?_)
  · have h := if_f (Int.not_lt.mpr c1) h
    cases h
    exact X_sub (sub_s (sub_n sub_0)) (k2 _ rfl hz)
  have h := if_t c1 h
  refine X_aload_n (pc' := 10) dX6_takeRead_9 rfl rfl ?_
  refine Y_get (pc' := 13) dX6_takeRead_10 rfl FX6_16 (zlN hN (by decide)) (congrArg Prod.fst (sh151 ln)) (ct151_9 z) ?_
  refine X_iload_n (pc' := 14) dX6_takeRead_13 rfl rfl ?_
  refine X_aload_n (pc' := 15) dX6_takeRead_14 rfl rfl ?_
  refine Y_get (pc' := 18) dX6_takeRead_15 rfl FX6_13 (zlN hN (by decide)) (congrArg Prod.fst (sh151 ln)) (ct151_8 z) ?_
  refine X_iload_n (pc' := 19) dX6_takeRead_18 rfl rfl ?_
  obtain ⟨g2, h⟩ := gs h
  refine Y_iald (pc' := 20) dX6_takeRead_19 rfl (zlN hN (by decide)) (sh153 ln) (by decide) g2 ?_
  refine Y_iast (pc' := 21) dX6_takeRead_20 rfl (zlN hN (by decide)) (sh154 ln) (by decide) g2 ?_
  obtain ⟨z3, e3, hz3, h⟩ := zl_some (P := okz) h (okz_up hz (hz 153 (v1) (by decide)))
  rw [e3]
  refine X_iinc (pc' := 24) dX6_takeRead_21 rfl rfl (Or.inr rfl) (L' := [some (.ref (151)), some (.int (iN (v1 + 1)))]) rfl ?_
  refine X_goto dX6_takeRead_24 (tgt := 2) rfl ?_
  obtain ⟨g4, h⟩ := gs h
  cases h
  exact X_sub (sub_s (sub_s sub_0)) (k1 _ _ rfl g4 hz3)
theorem LX6_takeRead_2 {ln N : Nat} {c9 s9 : Nat} {Φ : xRes → xS → Prop} (hN : 159 ≤ N ∧ N < 999999) {r : ZZ} (k2 : ∀ (z' : ZZ), r = z' → okz z' → X mX6_takeRead 27 [some (.ref (151)), none] [] (zmk ln N z') c9 s9 Φ) : ∀ (n : Nat) (v1 : Int) (z : ZZ), inR v1 → okz z → zlp (fun q => fX6_takeRead_s2 q.1 q.2) n (v1, z) = some r → X mX6_takeRead 2 [some (.ref (151)), some (.int (iN (v1)))] [] (zmk ln N z) c9 s9 Φ := by
  intro n
  induction n with
  | zero => intro v1 z rv1 hz h; cases h
  | succ n ih =>
    intro v1 z rv1 hz h
    rcases zlp_s h with ⟨⟨v1', z'⟩, e, h'⟩ | e
    · exact SX6_takeRead_2 hN hz rv1 e (fun v1₁ z₁ hh f0 f1 => by cases hh; exact ih _ _ f0 f1 h') (fun z₁ hh f0 => by cases hh)
    · exact SX6_takeRead_2 hN hz rv1 e (fun v1₁ z₁ hh f0 f1 => by cases hh) (fun z₁ hh f0 => by cases hh; exact k2 _ rfl f0)
def fX6_takeRead (z : ZZ) : Option (ZZ) := (Option.bind (zlp (fun q => fX6_takeRead_s2 q.1 q.2) FU (0, z)) fun x1_z => (zl (zup x1_z 151 12 (0)) fun z2 => (zl (zup z2 151 13 (0)) fun z3 => some z3)))
set_option maxRecDepth 100000 in
theorem CX6_takeRead {ln N : Nat} {z : ZZ} (hN : 159 ≤ N ∧ N < 999999) (hz : okz z) {p : ZZ} (h : fX6_takeRead z = some p) : X mX6_takeRead 0 (xEnt [.ref (151)] (xL mX6_takeRead)) [] (zmk ln N z) (cc_w p) (6 * cc_w p) (Qd (fa_w p) (rs_w p) (st_w ln N p)) := by
  have k : Fin_w (Qd (fa_w p) (rs_w p) (st_w ln N p)) ln N p := Fin_w_i
  unfold fX6_takeRead at h
  refine X_to (M := [some (.ref (151)), none]) (su := []) rfl rfl ?_
  refine X_iconst (pc' := 1) dX6_takeRead_0 rfl ?_
  refine X_istore_n (pc' := 2) dX6_takeRead_1 rfl (cl rfl) (Or.inr rfl) (L' := [some (.ref (151)), some (.int (iN (0)))]) rfl ?_
  obtain ⟨x1_z, q1, h⟩ := bs h
  refine X_sub (sub_s (sub_s sub_0)) (LX6_takeRead_2 hN (fun x1_z₁ hh hx1_z => ?_) FU _ _ (inR_c (n := 0) rfl) hz q1)
  cases hh
  refine X_aload_n (pc' := 28) dX6_takeRead_27 rfl rfl ?_
  refine X_iconst (pc' := 29) dX6_takeRead_28 rfl ?_
  refine Y_put (k := 12) (j := 12) (v := 0) (pc' := 32) dX6_takeRead_29 rfl FX6_152 (zlN hN (by decide)) (congrArg Prod.fst (sh151 ln)) (fun r hr => by cases hr; rfl) (xFit_int _) rfl rfl ?_
  obtain ⟨z2, e2, hz2, h⟩ := zl_some (P := okz) h (okz_up hx1_z (inR_c (n := 0) rfl))
  rw [e2]
  refine X_aload_n (pc' := 33) dX6_takeRead_32 rfl rfl ?_
  refine X_iconst (pc' := 34) dX6_takeRead_33 rfl ?_
  refine Y_put (k := 13) (j := 13) (v := 0) (pc' := 37) dX6_takeRead_34 rfl FX6_155 (zlN hN (by decide)) (congrArg Prod.fst (sh151 ln)) (fun r hr => by cases hr; rfl) (xFit_bool (Or.inl rfl)) rfl rfl ?_
  obtain ⟨z3, e3, hz3, h⟩ := zl_some (P := okz) h (okz_up hz2 (inR_b (Or.inl rfl)))
  rw [e3]
  cases h
  exact X_vret dX6_takeRead_37 rfl (k hz3)
def fX6_load_b18 (s1 : Int) (z : ZZ) : Option (Int × ZZ) := (Option.bind (fX6_fails (s1) (1) z) fun q1 => match q1 with | (r1, z1) => (if (r1) = (0) then (Option.bind (fX6_takeRead z1) fun z3 => (zl (zup z3 151 2 (0)) fun z4 => some ((z4 154 (4)), z4))) else some (0, z1)))
set_option maxRecDepth 100000 in
theorem BX6_load_18 {ln N : Nat} {z : ZZ} {s1 : Int} {c9 s9 : Nat} {Φ : xRes → xS → Prop} (hN : 159 ≤ N ∧ N < 999999) (hz : okz z) (rs1 : inR s1) {p : Int × ZZ} (h : fX6_load_b18 s1 z = some p) (k : Fin_wi Φ ln N p) : X mX6_load 18 [some (.ref (151))] [.int (iN (s1)), .ref (151)] (zmk ln N z) c9 s9 Φ := by
  unfold fX6_load_b18 at h
  refine X_iconst (pc' := 19) dX6_load_18 rfl ?_
  obtain ⟨⟨r1, z1⟩, q1, h⟩ := bs h
  refine Y_callV [.int (iN (s1)), .int (iN (1))] (pc' := 22) dX6_load_19 rfl VX6_62 (by decide) (zlN hN (by decide)) (congrArg Prod.fst (sh151 ln)) rfl rfl rfl (cs rfl) (cs rfl) rfl (CX6_fails hN hz rs1 (inR_c (n := 1) rfl) q1) (Nat.zero_add _).symm (Nat.zero_add _).symm (fun f1 => ?_)
  refine X_if_eq dX6_load_22 (tgt := 27) rfl (pc' := 25) rfl (inR_b f1.1) (fun c2 => ?_) (fun c2 => ?_)
  · have h := if_t c2 h
    refine X_aload_n (pc' := 28) dX6_load_27 rfl rfl ?_
    obtain ⟨z3, q3, h⟩ := bs h
    refine Y_callVv [] (pc' := 31) dX6_load_28 rfl VX6_48 (by decide) (zlN hN (by decide)) (congrArg Prod.fst (sh151 ln)) rfl rfl rfl (cs rfl) (cs rfl) rfl (CX6_takeRead hN f1.2 q3) (Nat.zero_add _).symm (Nat.zero_add _).symm (fun f3 => ?_)
    refine X_aload_n (pc' := 32) dX6_load_31 rfl rfl ?_
    refine X_iconst (pc' := 33) dX6_load_32 rfl ?_
    refine Y_put (k := 2) (j := 2) (v := 0) (pc' := 36) dX6_load_33 rfl FX6_59 (zlN hN (by decide)) (congrArg Prod.fst (sh151 ln)) (fun r hr => by cases hr; rfl) (xFit_int _) rfl rfl ?_
    obtain ⟨z4, e4, hz4, h⟩ := zl_some (P := okz) h (okz_up f3 (inR_c (n := 0) rfl))
    rw [e4]
    refine X_aload_n (pc' := 37) dX6_load_36 rfl rfl ?_
    refine Y_get (pc' := 40) dX6_load_37 rfl FX6_16 (zlN hN (by decide)) (congrArg Prod.fst (sh151 ln)) (ct151_9 z4) ?_
    refine X_iconst (pc' := 41) dX6_load_40 rfl ?_
    refine Y_iald (pc' := 42) dX6_load_41 rfl (zlN hN (by decide)) (sh154 ln) (by decide) ⟨by decide, by decide⟩ ?_
    cases h
    exact X_iret dX6_load_42 rfl (k ⟨(hz4 154 (4) (by decide)), hz4⟩)
  have h := if_f c2 h
  refine X_iconst (pc' := 26) dX6_load_25 rfl ?_
  cases h
  exact X_iret dX6_load_26 rfl (k ⟨(inR_c (n := 0) rfl), f1.2⟩)
def fX6_load (z : ZZ) : Option (Int × ZZ) := (zl (zup z 151 0 (0)) fun z1 => (Option.bind (fX6_parse z1) fun q2 => match q2 with | (r2, z2) => (if (r2) < (0) then fX6_load_b18 (1) z2 else fX6_load_b18 (0) z2)))
set_option maxRecDepth 100000 in
theorem CX6_load {ln N : Nat} {z : ZZ} (hN : 159 ≤ N ∧ N < 999999) (hz : okz z) {p : Int × ZZ} (h : fX6_load z = some p) : X mX6_load 0 (xEnt [.ref (151)] (xL mX6_load)) [] (zmk ln N z) (cc_wi p) (6 * cc_wi p) (Qd (fa_wi p) (rs_wi p) (st_wi ln N p)) := by
  have k : Fin_wi (Qd (fa_wi p) (rs_wi p) (st_wi ln N p)) ln N p := Fin_wi_i
  unfold fX6_load at h
  refine X_to (M := [some (.ref (151))]) (su := []) rfl rfl ?_
  refine X_aload_n (pc' := 1) dX6_load_0 rfl rfl ?_
  refine X_iconst (pc' := 2) dX6_load_1 rfl ?_
  refine Y_put (k := 0) (j := 0) (v := 0) (pc' := 5) dX6_load_2 rfl FX6_51 (zlN hN (by decide)) (congrArg Prod.fst (sh151 ln)) (fun r hr => by cases hr; rfl) (xFit_int _) rfl rfl ?_
  obtain ⟨z1, e1, hz1, h⟩ := zl_some (P := okz) h (okz_up hz (inR_c (n := 0) rfl))
  rw [e1]
  refine X_aload_n (pc' := 6) dX6_load_5 rfl rfl ?_
  refine X_aload_n (pc' := 7) dX6_load_6 rfl rfl ?_
  obtain ⟨⟨r2, z2⟩, q2, h⟩ := bs h
  refine Y_callV [] (pc' := 10) dX6_load_7 rfl VX6_149 (by decide) (zlN hN (by decide)) (congrArg Prod.fst (sh151 ln)) rfl rfl rfl (cs rfl) (cs rfl) rfl (CX6_parse hN hz1 q2) (Nat.zero_add _).symm (Nat.zero_add _).symm (fun f2 => ?_)
  refine X_if_ge dX6_load_10 (tgt := 17) rfl (pc' := 13) rfl f2.1 (fun c3 => ?_) (fun c3 => ?_)
  · have h := if_f (Int.not_lt.mpr c3) h
    refine X_iconst (pc' := 18) dX6_load_17 rfl ?_
    exact X_sub (sub_s sub_0) (BX6_load_18 hN f2.2 (inR_c (n := 0) rfl) h k)
  have h := if_t c3 h
  refine X_iconst (pc' := 14) dX6_load_13 rfl ?_
  refine X_goto dX6_load_14 (tgt := 18) rfl ?_
  exact X_sub (sub_s sub_0) (BX6_load_18 hN f2.2 (inR_c (n := 1) rfl) h k)
def fX6_meanGrade (v1 : Int) (v2 : Int) (z : ZZ) : Option (Int × ZZ) := (zl (zup z 151 0 (0)) fun z1 => (Option.bind (fX6_isRoute (v1) z1) fun r2 => (Option.bind (fX6_fails (r2) (1) z1) fun q3 => match q3 with | (r3, z3) => (if (r3) = (0) then (Option.bind (fX6_layMean (v1) (0) (0) z3) fun z5 => (Option.bind (fX6_common ((z5 151 17)) ((z5 151 18)) z5) fun r6 => (if (v2) = (0) then (if (0 : Int) ≤ ((z5 151 17)) ∧ (0 : Int) < (r6) then some (((z5 151 17) / r6), z5) else none) else (if (0 : Int) ≤ ((z5 151 18)) ∧ (0 : Int) < (r6) then some (((z5 151 18) / r6), z5) else none)))) else some (0, z3)))))
set_option maxRecDepth 100000 in
theorem CX6_meanGrade {ln N : Nat} {z : ZZ} {v1 : Int} {v2 : Int} (hN : 159 ≤ N ∧ N < 999999) (hz : okz z) (rv1 : inR v1) (rv2 : inR v2) {p : Int × ZZ} (h : fX6_meanGrade v1 v2 z = some p) : X mX6_meanGrade 0 (xEnt [.ref (151), .int (iN (v1)), .int (iN (v2))] (xL mX6_meanGrade)) [] (zmk ln N z) (cc_wi p) (6 * cc_wi p) (Qd (fa_wi p) (rs_wi p) (st_wi ln N p)) := by
  have k : Fin_wi (Qd (fa_wi p) (rs_wi p) (st_wi ln N p)) ln N p := Fin_wi_i
  unfold fX6_meanGrade at h
  refine X_to (M := [some (.ref (151)), some (.int (iN (v1))), some (.int (iN (v2))), none]) (su := []) rfl rfl ?_
  refine X_aload_n (pc' := 1) dX6_meanGrade_0 rfl rfl ?_
  refine X_iconst (pc' := 2) dX6_meanGrade_1 rfl ?_
  refine Y_put (k := 0) (j := 0) (v := 0) (pc' := 5) dX6_meanGrade_2 rfl FX6_51 (zlN hN (by decide)) (congrArg Prod.fst (sh151 ln)) (fun r hr => by cases hr; rfl) (xFit_int _) rfl rfl ?_
  obtain ⟨z1, e1, hz1, h⟩ := zl_some (P := okz) h (okz_up hz (inR_c (n := 0) rfl))
  rw [e1]
  refine X_aload_n (pc' := 6) dX6_meanGrade_5 rfl rfl ?_
  refine X_aload_n (pc' := 7) dX6_meanGrade_6 rfl rfl ?_
  refine X_iload_n (pc' := 8) dX6_meanGrade_7 rfl rfl ?_
  obtain ⟨r2, q2, h⟩ := bs h
  refine Y_callV [.int (iN (v1))] (pc' := 11) dX6_meanGrade_8 rfl VX6_238 (by decide) (zlN hN (by decide)) (congrArg Prod.fst (sh151 ln)) rfl rfl rfl (cs rfl) (cs rfl) rfl (CX6_isRoute hN hz1 rv1 q2) (Nat.zero_add _).symm (Nat.zero_add _).symm (fun f2 => ?_)
  refine X_iconst (pc' := 12) dX6_meanGrade_11 rfl ?_
  obtain ⟨⟨r3, z3⟩, q3, h⟩ := bs h
  refine Y_callV [.int (iN (r2)), .int (iN (1))] (pc' := 15) dX6_meanGrade_12 rfl VX6_62 (by decide) (zlN hN (by decide)) (congrArg Prod.fst (sh151 ln)) rfl rfl rfl (cs rfl) (cs rfl) rfl (CX6_fails hN hz1 (inR_b f2) (inR_c (n := 1) rfl) q3) (Nat.zero_add _).symm (Nat.zero_add _).symm (fun f3 => ?_)
  refine X_if_eq dX6_meanGrade_15 (tgt := 20) rfl (pc' := 18) rfl (inR_b f3.1) (fun c4 => ?_) (fun c4 => ?_)
  · have h := if_t c4 h
    refine X_aload_n (pc' := 21) dX6_meanGrade_20 rfl rfl ?_
    refine X_iload_n (pc' := 22) dX6_meanGrade_21 rfl rfl ?_
    refine X_iconst (pc' := 23) dX6_meanGrade_22 rfl ?_
    refine X_iconst (pc' := 24) dX6_meanGrade_23 rfl ?_
    obtain ⟨z5, q5, h⟩ := bs h
    refine Y_callVv [.int (iN (v1)), .int (iN (0)), .int (iN (0))] (pc' := 27) dX6_meanGrade_24 rfl VX6_192 (by decide) (zlN hN (by decide)) (congrArg Prod.fst (sh151 ln)) rfl rfl rfl (cs rfl) (cs rfl) rfl (CX6_layMean hN f3.2 rv1 (inR_c (n := 0) rfl) (inR_c (n := 0) rfl) q5) (Nat.zero_add _).symm (Nat.zero_add _).symm (fun f5 => ?_)
    refine X_aload_n (pc' := 28) dX6_meanGrade_27 rfl rfl ?_
    refine Y_get (pc' := 31) dX6_meanGrade_28 rfl FX6_172 (zlN hN (by decide)) (congrArg Prod.fst (sh151 ln)) (ct151_17 z5) ?_
    refine X_aload_n (pc' := 32) dX6_meanGrade_31 rfl rfl ?_
    refine Y_get (pc' := 35) dX6_meanGrade_32 rfl FX6_175 (zlN hN (by decide)) (congrArg Prod.fst (sh151 ln)) (ct151_18 z5) ?_
    obtain ⟨r6, q6, h⟩ := bs h
    refine Y_callS [.int (iN ((z5 151 17))), .int (iN ((z5 151 18)))] (pc' := 38) dX6_meanGrade_35 rfl SX6_312 (by decide) rfl (cs rfl) (cs rfl) rfl (CX6_common hN f5 (f5 151 17 (by decide)) (f5 151 18 (by decide)) q6) (Nat.zero_add _).symm (Nat.zero_add _).symm (fun f6 => ?_)
    refine X_istore_n (pc' := 39) dX6_meanGrade_38 rfl (cl rfl) (Or.inr rfl) (L' := [some (.ref (151)), some (.int (iN (v1))), some (.int (iN (v2))), some (.int (iN (r6)))]) rfl ?_
    refine X_iload_n (pc' := 40) dX6_meanGrade_39 rfl rfl ?_
    refine X_if_eq dX6_meanGrade_40 (tgt := 50) rfl (pc' := 43) rfl rv2 (fun c7 => ?_) (fun c7 => ?_)
    · have h := if_t c7 h
      refine X_aload_n (pc' := 51) dX6_meanGrade_50 rfl rfl ?_
      refine Y_get (pc' := 54) dX6_meanGrade_51 rfl FX6_172 (zlN hN (by decide)) (congrArg Prod.fst (sh151 ln)) (ct151_17 z5) ?_
      refine X_iload_n (pc' := 55) dX6_meanGrade_54 rfl rfl ?_
      obtain ⟨g8, h⟩ := gs h
      refine X_idiv (pc' := 56) dX6_meanGrade_55 rfl ⟨g8.1, (f5 151 17 (by decide)).2, g8.2, f6.2⟩ ?_
      cases h
      exact X_iret dX6_meanGrade_56 rfl (k ⟨(inR_div g8 (f5 151 17 (by decide))), f5⟩)
    have h := if_f c7 h
    refine X_aload_n (pc' := 44) dX6_meanGrade_43 rfl rfl ?_
    refine Y_get (pc' := 47) dX6_meanGrade_44 rfl FX6_175 (zlN hN (by decide)) (congrArg Prod.fst (sh151 ln)) (ct151_18 z5) ?_
    refine X_goto dX6_meanGrade_47 (tgt := 54) rfl ?_
    refine X_iload_n (pc' := 55) dX6_meanGrade_54 rfl rfl ?_
    obtain ⟨g9, h⟩ := gs h
    refine X_idiv (pc' := 56) dX6_meanGrade_55 rfl ⟨g9.1, (f5 151 18 (by decide)).2, g9.2, f6.2⟩ ?_
    cases h
    exact X_iret dX6_meanGrade_56 rfl (k ⟨(inR_div g9 (f5 151 18 (by decide))), f5⟩)
  have h := if_f c4 h
  refine X_iconst (pc' := 19) dX6_meanGrade_18 rfl ?_
  cases h
  exact X_iret dX6_meanGrade_19 rfl (k ⟨(inR_c (n := 0) rfl), f3.2⟩)
def fX6_member (v1 : Int) (v2 : Int) (z : ZZ) : Option (Int × ZZ) := (zl (zup z 151 0 (0)) fun z1 => (Option.bind (fX6_isMember (v1) z1) fun r2 => (Option.bind (fX6_fails (r2) (1) z1) fun q3 => match q3 with | (r3, z3) => (if (r3) = (0) then (Option.bind (fX6_in (v2) (0) (5) z3) fun r5 => (Option.bind (fX6_fails (r5) (2) z3) fun q6 => match q6 with | (r6, z6) => (if (r6) = (0) then (Option.bind (fX6_memberPart (v1) (v2) z6) fun r8 => some (r8, z6)) else some (0, z6)))) else some (0, z3)))))
set_option maxRecDepth 100000 in
theorem CX6_member {ln N : Nat} {z : ZZ} {v1 : Int} {v2 : Int} (hN : 159 ≤ N ∧ N < 999999) (hz : okz z) (rv1 : inR v1) (rv2 : inR v2) {p : Int × ZZ} (h : fX6_member v1 v2 z = some p) : X mX6_member 0 (xEnt [.ref (151), .int (iN (v1)), .int (iN (v2))] (xL mX6_member)) [] (zmk ln N z) (cc_wi p) (6 * cc_wi p) (Qd (fa_wi p) (rs_wi p) (st_wi ln N p)) := by
  have k : Fin_wi (Qd (fa_wi p) (rs_wi p) (st_wi ln N p)) ln N p := Fin_wi_i
  unfold fX6_member at h
  refine X_to (M := [some (.ref (151)), some (.int (iN (v1))), some (.int (iN (v2)))]) (su := []) rfl rfl ?_
  refine X_aload_n (pc' := 1) dX6_member_0 rfl rfl ?_
  refine X_iconst (pc' := 2) dX6_member_1 rfl ?_
  refine Y_put (k := 0) (j := 0) (v := 0) (pc' := 5) dX6_member_2 rfl FX6_51 (zlN hN (by decide)) (congrArg Prod.fst (sh151 ln)) (fun r hr => by cases hr; rfl) (xFit_int _) rfl rfl ?_
  obtain ⟨z1, e1, hz1, h⟩ := zl_some (P := okz) h (okz_up hz (inR_c (n := 0) rfl))
  rw [e1]
  refine X_aload_n (pc' := 6) dX6_member_5 rfl rfl ?_
  refine X_aload_n (pc' := 7) dX6_member_6 rfl rfl ?_
  refine X_iload_n (pc' := 8) dX6_member_7 rfl rfl ?_
  obtain ⟨r2, q2, h⟩ := bs h
  refine Y_callV [.int (iN (v1))] (pc' := 11) dX6_member_8 rfl VX6_244 (by decide) (zlN hN (by decide)) (congrArg Prod.fst (sh151 ln)) rfl rfl rfl (cs rfl) (cs rfl) rfl (CX6_isMember hN hz1 rv1 q2) (Nat.zero_add _).symm (Nat.zero_add _).symm (fun f2 => ?_)
  refine X_iconst (pc' := 12) dX6_member_11 rfl ?_
  obtain ⟨⟨r3, z3⟩, q3, h⟩ := bs h
  refine Y_callV [.int (iN (r2)), .int (iN (1))] (pc' := 15) dX6_member_12 rfl VX6_62 (by decide) (zlN hN (by decide)) (congrArg Prod.fst (sh151 ln)) rfl rfl rfl (cs rfl) (cs rfl) rfl (CX6_fails hN hz1 (inR_b f2) (inR_c (n := 1) rfl) q3) (Nat.zero_add _).symm (Nat.zero_add _).symm (fun f3 => ?_)
  refine X_if_ne dX6_member_15 (tgt := 35) rfl (pc' := 18) rfl (inR_b f3.1) (fun c4 => ?_) (fun c4 => ?_)
  · have h := if_f c4 h
    refine X_iconst (pc' := 36) dX6_member_35 rfl ?_
    cases h
    exact X_iret dX6_member_36 rfl (k ⟨(inR_c (n := 0) rfl), f3.2⟩)
  have h := if_t c4 h
  refine X_aload_n (pc' := 19) dX6_member_18 rfl rfl ?_
  refine X_iload_n (pc' := 20) dX6_member_19 rfl rfl ?_
  refine X_lI_i2l (pc' := 21) dX6_member_20 rfl rv2 ?_
  refine X_lI_const (pc' := 22) dX6_member_21 rfl (a := 0) rfl ?_
  refine X_ldc2 (pc' := 25) dX6_member_22 rfl tq1530 (n := 5) rfl ?_
  obtain ⟨r5, q5, h⟩ := bs h
  refine Y_callS [.long (lI (v2)), .long (lI (0)), .long (lI (5))] (pc' := 28) dX6_member_25 rfl SX6_66 (by decide) rfl (cs rfl) (cs rfl) rfl (CX6_in hN f3.2 (inL_R rv2) (inL_c (n := 0) rfl) (inL_c (n := 5) rfl) q5) (Nat.zero_add _).symm (Nat.zero_add _).symm (fun f5 => ?_)
  refine X_iconst (pc' := 29) dX6_member_28 rfl ?_
  obtain ⟨⟨r6, z6⟩, q6, h⟩ := bs h
  refine Y_callV [.int (iN (r5)), .int (iN (2))] (pc' := 32) dX6_member_29 rfl VX6_62 (by decide) (zlN hN (by decide)) (congrArg Prod.fst (sh151 ln)) rfl rfl rfl (cs rfl) (cs rfl) rfl (CX6_fails hN f3.2 (inR_b f5) (inR_c (n := 2) rfl) q6) (Nat.zero_add _).symm (Nat.zero_add _).symm (fun f6 => ?_)
  refine X_if_eq dX6_member_32 (tgt := 37) rfl (pc' := 35) rfl (inR_b f6.1) (fun c7 => ?_) (fun c7 => ?_)
  · have h := if_t c7 h
    refine X_aload_n (pc' := 38) dX6_member_37 rfl rfl ?_
    refine X_iload_n (pc' := 39) dX6_member_38 rfl rfl ?_
    refine X_iload_n (pc' := 40) dX6_member_39 rfl rfl ?_
    obtain ⟨r8, q8, h⟩ := bs h
    refine Y_callV [.int (iN (v1)), .int (iN (v2))] (pc' := 43) dX6_member_40 rfl VX6_207 (by decide) (zlN hN (by decide)) (congrArg Prod.fst (sh151 ln)) rfl rfl rfl (cs rfl) (cs rfl) rfl (CX6_memberPart hN f6.2 rv1 rv2 q8) (Nat.zero_add _).symm (Nat.zero_add _).symm (fun f8 => ?_)
    cases h
    exact X_iret dX6_member_43 rfl (k ⟨f8, f6.2⟩)
  have h := if_f c7 h
  refine X_iconst (pc' := 36) dX6_member_35 rfl ?_
  cases h
  exact X_iret dX6_member_36 rfl (k ⟨(inR_c (n := 0) rfl), f6.2⟩)
def fX6_onWall_b31 (v1 : Int) (v3 : Int) (s0 : Int) (s1 : Int) (z : ZZ) : Option ((Int × Int) ⊕ (Int)) := (if inR ((s0 + s1)) then (if inR ((v3 + 1)) then some (.inl ((s0 + s1), (v3 + 1))) else none) else none)
set_option maxRecDepth 100000 in
theorem BX6_onWall_31 {ln N : Nat} {z : ZZ} {v1 : Int} {v3 : Int} {s0 : Int} {s1 : Int} {c9 s9 : Nat} {Φ : xRes → xS → Prop} (hN : 159 ≤ N ∧ N < 999999) (hz : okz z) (rv1 : inR v1) (rv3 : inR v3) (rs0 : inR s0) (rs1 : inR s1) {p : (Int × Int) ⊕ (Int)} (h : fX6_onWall_b31 v1 v3 s0 s1 z = some p) (k1 : ∀ (v2' : Int) (v3' : Int), p = .inl (v2', v3') → inR v2' → inR v3' → X mX6_onWall 4 [some (.ref (151)), some (.int (iN (v1))), some (.int (iN (v2'))), some (.int (iN (v3')))] [] (zmk ln N z) c9 s9 Φ) (k2 : ∀ (v2' : Int), p = .inr v2' → inR v2' → X mX6_onWall 39 [none, none, some (.int (iN (v2'))), none] [] (zmk ln N z) c9 s9 Φ) : X mX6_onWall 31 [some (.ref (151)), some (.int (iN (v1))), none, some (.int (iN (v3)))] [.int (iN (s1)), .int (iN (s0))] (zmk ln N z) c9 s9 Φ := by
  unfold fX6_onWall_b31 at h
  refine X_iadd (pc' := 32) dX6_onWall_31 rfl ?_
  refine X_istore_n (pc' := 33) dX6_onWall_32 rfl (cl rfl) (Or.inr rfl) (L' := [some (.ref (151)), some (.int (iN (v1))), some (.int (iN ((s0 + s1)))), some (.int (iN (v3)))]) rfl ?_
  refine X_iinc (pc' := 36) dX6_onWall_33 rfl rfl (Or.inr rfl) (L' := [some (.ref (151)), some (.int (iN (v1))), some (.int (iN ((s0 + s1)))), some (.int (iN (v3 + 1)))]) rfl ?_
  refine X_goto dX6_onWall_36 (tgt := 4) rfl ?_
  obtain ⟨g1, h⟩ := gs h
  obtain ⟨g2, h⟩ := gs h
  cases h
  exact X_sub (sub_s (sub_s (sub_s (sub_s sub_0)))) (k1 _ _ rfl g1 g2)
def fX6_onWall_s4 (v1 : Int) (v2 : Int) (v3 : Int) (z : ZZ) : Option ((Int × Int) ⊕ (Int)) := (if (v3) < ((z 154 (37))) then (Option.bind (fX6_routePart (v3) (0) z) fun r2 => (if (r2) = (v1) then fX6_onWall_b31 (v1) (v3) (v2) (1) z else fX6_onWall_b31 (v1) (v3) (v2) (0) z)) else some (.inr v2))
set_option maxRecDepth 100000 in
theorem SX6_onWall_4 {ln N : Nat} {z : ZZ} {v1 : Int} {v2 : Int} {v3 : Int} {c9 s9 : Nat} {Φ : xRes → xS → Prop} (hN : 159 ≤ N ∧ N < 999999) (hz : okz z) (rv1 : inR v1) (rv2 : inR v2) (rv3 : inR v3) {p : (Int × Int) ⊕ (Int)} (h : fX6_onWall_s4 v1 v2 v3 z = some p) (k1 : ∀ (v2' : Int) (v3' : Int), p = .inl (v2', v3') → inR v2' → inR v3' → X mX6_onWall 4 [some (.ref (151)), some (.int (iN (v1))), some (.int (iN (v2'))), some (.int (iN (v3')))] [] (zmk ln N z) c9 s9 Φ) (k2 : ∀ (v2' : Int), p = .inr v2' → inR v2' → X mX6_onWall 39 [none, none, some (.int (iN (v2'))), none] [] (zmk ln N z) c9 s9 Φ) : X mX6_onWall 4 [some (.ref (151)), some (.int (iN (v1))), some (.int (iN (v2))), some (.int (iN (v3)))] [] (zmk ln N z) c9 s9 Φ := by
  unfold fX6_onWall_s4 at h
  refine X_iload_n (pc' := 5) dX6_onWall_4 rfl rfl ?_
  refine X_aload_n (pc' := 6) dX6_onWall_5 rfl rfl ?_
  refine Y_get (pc' := 9) dX6_onWall_6 rfl FX6_16 (zlN hN (by decide)) (congrArg Prod.fst (sh151 ln)) (ct151_9 z) ?_
  refine X_bipush (pc' := 11) dX6_onWall_9 rfl (by decide) ?_
  refine Y_iald (pc' := 12) dX6_onWall_11 rfl (zlN hN (by decide)) (sh154 ln) (by decide) ⟨by decide, by decide⟩ ?_
  refine X_icmp_ge dX6_onWall_12 (tgt := 39) rfl (pc' := 15) rfl ⟨rv3.1, rv3.2, (hz 154 (37) (by decide)).1, (hz 154 (37) (by decide)).2⟩ (fun c1 => ?_) (fun c1 => ?_)
  · have h := if_f (Int.not_lt.mpr c1) h
    cases h
    exact X_sub (sub_n (sub_n (sub_s (sub_n sub_0)))) (k2 _ rfl rv2)
  have h := if_t c1 h
  refine X_iload_n (pc' := 16) dX6_onWall_15 rfl rfl ?_
  refine X_aload_n (pc' := 17) dX6_onWall_16 rfl rfl ?_
  refine X_iload_n (pc' := 18) dX6_onWall_17 rfl rfl ?_
  refine X_iconst (pc' := 19) dX6_onWall_18 rfl ?_
  obtain ⟨r2, q2, h⟩ := bs h
  refine Y_callV [.int (iN (v3)), .int (iN (0))] (pc' := 22) dX6_onWall_19 rfl VX6_163 (by decide) (zlN hN (by decide)) (congrArg Prod.fst (sh151 ln)) rfl rfl rfl (cs rfl) (cs rfl) rfl (CX6_routePart hN hz rv3 (inR_c (n := 0) rfl) q2) (Nat.zero_add _).symm (Nat.zero_add _).symm (fun f2 => ?_)
  refine X_iload_n (pc' := 23) dX6_onWall_22 rfl rfl ?_
  refine X_icmp_ne dX6_onWall_23 (tgt := 30) rfl (pc' := 26) rfl ⟨f2.1, f2.2, rv1.1, rv1.2⟩ (fun c3 => ?_) (fun c3 => ?_)
  · have h := if_f c3 h
    refine X_iconst (pc' := 31) dX6_onWall_30 rfl ?_
    exact X_sub (sub_s (sub_s (sub_n (sub_s sub_0)))) (BX6_onWall_31 hN hz rv1 rv3 rv2 (inR_c (n := 0) rfl) h k1 k2)
  have h := if_t c3 h
  refine X_iconst (pc' := 27) dX6_onWall_26 rfl ?_
  refine X_goto dX6_onWall_27 (tgt := 31) rfl ?_
  exact X_sub (sub_s (sub_s (sub_n (sub_s sub_0)))) (BX6_onWall_31 hN hz rv1 rv3 rv2 (inR_c (n := 1) rfl) h k1 k2)
theorem LX6_onWall_4 {ln N : Nat} {z : ZZ} {v1 : Int} {c9 s9 : Nat} {Φ : xRes → xS → Prop} (hN : 159 ≤ N ∧ N < 999999) (hz : okz z) (rv1 : inR v1) {r : Int} (k2 : ∀ (v2' : Int), r = v2' → inR v2' → X mX6_onWall 39 [none, none, some (.int (iN (v2'))), none] [] (zmk ln N z) c9 s9 Φ) : ∀ (n : Nat) (v2 : Int) (v3 : Int), inR v2 → inR v3 → zlp (fun q => fX6_onWall_s4 v1 q.1 q.2 z) n (v2, v3) = some r → X mX6_onWall 4 [some (.ref (151)), some (.int (iN (v1))), some (.int (iN (v2))), some (.int (iN (v3)))] [] (zmk ln N z) c9 s9 Φ := by
  intro n
  induction n with
  | zero => intro v2 v3 rv2 rv3 h; cases h
  | succ n ih =>
    intro v2 v3 rv2 rv3 h
    rcases zlp_s h with ⟨⟨v2', v3'⟩, e, h'⟩ | e
    · exact SX6_onWall_4 hN hz rv1 rv2 rv3 e (fun v2₁ v3₁ hh f0 f1 => by cases hh; exact ih _ _ f0 f1 h') (fun v2₁ hh f0 => by cases hh)
    · exact SX6_onWall_4 hN hz rv1 rv2 rv3 e (fun v2₁ v3₁ hh f0 f1 => by cases hh) (fun v2₁ hh f0 => by cases hh; exact k2 _ rfl f0)
def fX6_onWall (v1 : Int) (z : ZZ) : Option (Int) := (Option.bind (zlp (fun q => fX6_onWall_s4 (v1) q.1 q.2 z) FU (0, 0)) fun x1_v2 => some (x1_v2))
set_option maxRecDepth 100000 in
theorem CX6_onWall {ln N : Nat} {z : ZZ} {v1 : Int} (hN : 159 ≤ N ∧ N < 999999) (hz : okz z) (rv1 : inR v1) {p : Int} (h : fX6_onWall v1 z = some p) : X mX6_onWall 0 (xEnt [.ref (151), .int (iN (v1))] (xL mX6_onWall)) [] (zmk ln N z) (cc_r p) (6 * cc_r p) (Qd (fa_r p) (rs_r p) (st_r ln N z p)) := by
  have k : Fin_r (Qd (fa_r p) (rs_r p) (st_r ln N z p)) ln N z p := Fin_r_i
  unfold fX6_onWall at h
  refine X_to (M := [some (.ref (151)), some (.int (iN (v1))), none, none]) (su := []) rfl rfl ?_
  refine X_iconst (pc' := 1) dX6_onWall_0 rfl ?_
  refine X_istore_n (pc' := 2) dX6_onWall_1 rfl (cl rfl) (Or.inr rfl) (L' := [some (.ref (151)), some (.int (iN (v1))), some (.int (iN (0))), none]) rfl ?_
  refine X_iconst (pc' := 3) dX6_onWall_2 rfl ?_
  refine X_istore_n (pc' := 4) dX6_onWall_3 rfl (cl rfl) (Or.inr rfl) (L' := [some (.ref (151)), some (.int (iN (v1))), some (.int (iN (0))), some (.int (iN (0)))]) rfl ?_
  obtain ⟨x1_v2, q1, h⟩ := bs h
  refine X_sub (sub_s (sub_s (sub_s (sub_s sub_0)))) (LX6_onWall_4 hN hz rv1 (fun x1_v2₁ hh rx1_v2 => ?_) FU _ _ (inR_c (n := 0) rfl) (inR_c (n := 0) rfl) q1)
  cases hh
  refine X_iload_n (pc' := 40) dX6_onWall_39 rfl rfl ?_
  cases h
  exact X_iret dX6_onWall_40 rfl (k rx1_v2)
def fX6_openOn_b31 (v1 : Int) (v3 : Int) (s0 : Int) (s1 : Int) (z : ZZ) : Option ((Int × Int) ⊕ (Int)) := (if inR ((v3 + 1)) then some (.inl ((zor s0 s1), (v3 + 1))) else none)
set_option maxRecDepth 100000 in
theorem BX6_openOn_31 {ln N : Nat} {z : ZZ} {v1 : Int} {v3 : Int} {s0 : Int} {s1 : Int} {c9 s9 : Nat} {Φ : xRes → xS → Prop} (hN : 159 ≤ N ∧ N < 999999) (hz : okz z) (rv1 : inR v1) (rv3 : inR v3) (rs0 : inR s0) (rs1 : inR s1) {p : (Int × Int) ⊕ (Int)} (h : fX6_openOn_b31 v1 v3 s0 s1 z = some p) (k1 : ∀ (v2' : Int) (v3' : Int), p = .inl (v2', v3') → inR v2' → inR v3' → X mX6_openOn 4 [some (.ref (151)), some (.int (iN (v1))), some (.int (iN (v2'))), some (.int (iN (v3')))] [] (zmk ln N z) c9 s9 Φ) (k2 : ∀ (v2' : Int), p = .inr v2' → inR v2' → X mX6_openOn 39 [none, none, some (.int (iN (v2'))), none] [] (zmk ln N z) c9 s9 Φ) : X mX6_openOn 31 [some (.ref (151)), some (.int (iN (v1))), none, some (.int (iN (v3)))] [.int (iN (s1)), .int (iN (s0))] (zmk ln N z) c9 s9 Φ := by
  unfold fX6_openOn_b31 at h
  refine X_ior (pc' := 32) dX6_openOn_31 rfl ?_
  refine X_istore_n (pc' := 33) dX6_openOn_32 rfl (cl rfl) (Or.inr rfl) (L' := [some (.ref (151)), some (.int (iN (v1))), some (.int (iN ((zor s0 s1)))), some (.int (iN (v3)))]) rfl ?_
  refine X_iinc (pc' := 36) dX6_openOn_33 rfl rfl (Or.inr rfl) (L' := [some (.ref (151)), some (.int (iN (v1))), some (.int (iN ((zor s0 s1)))), some (.int (iN (v3 + 1)))]) rfl ?_
  refine X_goto dX6_openOn_36 (tgt := 4) rfl ?_
  obtain ⟨g1, h⟩ := gs h
  cases h
  exact X_sub (sub_s (sub_s (sub_s (sub_s sub_0)))) (k1 _ _ rfl (inR_zor _ _) g1)
def fX6_openOn_s4 (v1 : Int) (v2 : Int) (v3 : Int) (z : ZZ) : Option ((Int × Int) ⊕ (Int)) := (if (v3) < ((z 154 (4))) then (Option.bind (fX6_isClosedOn (v3) (v1) z) fun r2 => (if (r2) = (0) then fX6_openOn_b31 (v1) (v3) (v2) ((zshl 1 v3)) z else fX6_openOn_b31 (v1) (v3) (v2) (0) z)) else some (.inr v2))
set_option maxRecDepth 100000 in
theorem SX6_openOn_4 {ln N : Nat} {z : ZZ} {v1 : Int} {v2 : Int} {v3 : Int} {c9 s9 : Nat} {Φ : xRes → xS → Prop} (hN : 159 ≤ N ∧ N < 999999) (hz : okz z) (rv1 : inR v1) (rv2 : inR v2) (rv3 : inR v3) {p : (Int × Int) ⊕ (Int)} (h : fX6_openOn_s4 v1 v2 v3 z = some p) (k1 : ∀ (v2' : Int) (v3' : Int), p = .inl (v2', v3') → inR v2' → inR v3' → X mX6_openOn 4 [some (.ref (151)), some (.int (iN (v1))), some (.int (iN (v2'))), some (.int (iN (v3')))] [] (zmk ln N z) c9 s9 Φ) (k2 : ∀ (v2' : Int), p = .inr v2' → inR v2' → X mX6_openOn 39 [none, none, some (.int (iN (v2'))), none] [] (zmk ln N z) c9 s9 Φ) : X mX6_openOn 4 [some (.ref (151)), some (.int (iN (v1))), some (.int (iN (v2))), some (.int (iN (v3)))] [] (zmk ln N z) c9 s9 Φ := by
  unfold fX6_openOn_s4 at h
  refine X_iload_n (pc' := 5) dX6_openOn_4 rfl rfl ?_
  refine X_aload_n (pc' := 6) dX6_openOn_5 rfl rfl ?_
  refine Y_get (pc' := 9) dX6_openOn_6 rfl FX6_16 (zlN hN (by decide)) (congrArg Prod.fst (sh151 ln)) (ct151_9 z) ?_
  refine X_iconst (pc' := 10) dX6_openOn_9 rfl ?_
  refine Y_iald (pc' := 11) dX6_openOn_10 rfl (zlN hN (by decide)) (sh154 ln) (by decide) ⟨by decide, by decide⟩ ?_
  refine X_icmp_ge dX6_openOn_11 (tgt := 39) rfl (pc' := 14) rfl ⟨rv3.1, rv3.2, (hz 154 (4) (by decide)).1, (hz 154 (4) (by decide)).2⟩ (fun c1 => ?_) (fun c1 => ?_)
  · have h := if_f (Int.not_lt.mpr c1) h
    cases h
    exact X_sub (sub_n (sub_n (sub_s (sub_n sub_0)))) (k2 _ rfl rv2)
  have h := if_t c1 h
  refine X_iload_n (pc' := 15) dX6_openOn_14 rfl rfl ?_
  refine X_aload_n (pc' := 16) dX6_openOn_15 rfl rfl ?_
  refine X_iload_n (pc' := 17) dX6_openOn_16 rfl rfl ?_
  refine X_iload_n (pc' := 18) dX6_openOn_17 rfl rfl ?_
  obtain ⟨r2, q2, h⟩ := bs h
  refine Y_callV [.int (iN (v3)), .int (iN (v1))] (pc' := 21) dX6_openOn_18 rfl VX6_320 (by decide) (zlN hN (by decide)) (congrArg Prod.fst (sh151 ln)) rfl rfl rfl (cs rfl) (cs rfl) rfl (CX6_isClosedOn hN hz rv3 rv1 q2) (Nat.zero_add _).symm (Nat.zero_add _).symm (fun f2 => ?_)
  refine X_if_eq dX6_openOn_21 (tgt := 28) rfl (pc' := 24) rfl (inR_b f2) (fun c3 => ?_) (fun c3 => ?_)
  · have h := if_t c3 h
    refine X_iconst (pc' := 29) dX6_openOn_28 rfl ?_
    refine X_iload_n (pc' := 30) dX6_openOn_29 rfl rfl ?_
    refine X_ishl (pc' := 31) dX6_openOn_30 rfl ?_
    exact X_sub (sub_s (sub_s (sub_n (sub_s sub_0)))) (BX6_openOn_31 hN hz rv1 rv3 rv2 (inR_zshl _ _) h k1 k2)
  have h := if_f c3 h
  refine X_iconst (pc' := 25) dX6_openOn_24 rfl ?_
  refine X_goto dX6_openOn_25 (tgt := 31) rfl ?_
  exact X_sub (sub_s (sub_s (sub_n (sub_s sub_0)))) (BX6_openOn_31 hN hz rv1 rv3 rv2 (inR_c (n := 0) rfl) h k1 k2)
theorem LX6_openOn_4 {ln N : Nat} {z : ZZ} {v1 : Int} {c9 s9 : Nat} {Φ : xRes → xS → Prop} (hN : 159 ≤ N ∧ N < 999999) (hz : okz z) (rv1 : inR v1) {r : Int} (k2 : ∀ (v2' : Int), r = v2' → inR v2' → X mX6_openOn 39 [none, none, some (.int (iN (v2'))), none] [] (zmk ln N z) c9 s9 Φ) : ∀ (n : Nat) (v2 : Int) (v3 : Int), inR v2 → inR v3 → zlp (fun q => fX6_openOn_s4 v1 q.1 q.2 z) n (v2, v3) = some r → X mX6_openOn 4 [some (.ref (151)), some (.int (iN (v1))), some (.int (iN (v2))), some (.int (iN (v3)))] [] (zmk ln N z) c9 s9 Φ := by
  intro n
  induction n with
  | zero => intro v2 v3 rv2 rv3 h; cases h
  | succ n ih =>
    intro v2 v3 rv2 rv3 h
    rcases zlp_s h with ⟨⟨v2', v3'⟩, e, h'⟩ | e
    · exact SX6_openOn_4 hN hz rv1 rv2 rv3 e (fun v2₁ v3₁ hh f0 f1 => by cases hh; exact ih _ _ f0 f1 h') (fun v2₁ hh f0 => by cases hh)
    · exact SX6_openOn_4 hN hz rv1 rv2 rv3 e (fun v2₁ v3₁ hh f0 f1 => by cases hh) (fun v2₁ hh f0 => by cases hh; exact k2 _ rfl f0)
def fX6_openOn (v1 : Int) (z : ZZ) : Option (Int) := (Option.bind (zlp (fun q => fX6_openOn_s4 (v1) q.1 q.2 z) FU (0, 0)) fun x1_v2 => some (x1_v2))
set_option maxRecDepth 100000 in
theorem CX6_openOn {ln N : Nat} {z : ZZ} {v1 : Int} (hN : 159 ≤ N ∧ N < 999999) (hz : okz z) (rv1 : inR v1) {p : Int} (h : fX6_openOn v1 z = some p) : X mX6_openOn 0 (xEnt [.ref (151), .int (iN (v1))] (xL mX6_openOn)) [] (zmk ln N z) (cc_r p) (6 * cc_r p) (Qd (fa_r p) (rs_r p) (st_r ln N z p)) := by
  have k : Fin_r (Qd (fa_r p) (rs_r p) (st_r ln N z p)) ln N z p := Fin_r_i
  unfold fX6_openOn at h
  refine X_to (M := [some (.ref (151)), some (.int (iN (v1))), none, none]) (su := []) rfl rfl ?_
  refine X_iconst (pc' := 1) dX6_openOn_0 rfl ?_
  refine X_istore_n (pc' := 2) dX6_openOn_1 rfl (cl rfl) (Or.inr rfl) (L' := [some (.ref (151)), some (.int (iN (v1))), some (.int (iN (0))), none]) rfl ?_
  refine X_iconst (pc' := 3) dX6_openOn_2 rfl ?_
  refine X_istore_n (pc' := 4) dX6_openOn_3 rfl (cl rfl) (Or.inr rfl) (L' := [some (.ref (151)), some (.int (iN (v1))), some (.int (iN (0))), some (.int (iN (0)))]) rfl ?_
  obtain ⟨x1_v2, q1, h⟩ := bs h
  refine X_sub (sub_s (sub_s (sub_s (sub_s sub_0)))) (LX6_openOn_4 hN hz rv1 (fun x1_v2₁ hh rx1_v2 => ?_) FU _ _ (inR_c (n := 0) rfl) (inR_c (n := 0) rfl) q1)
  cases hh
  refine X_iload_n (pc' := 40) dX6_openOn_39 rfl rfl ?_
  cases h
  exact X_iret dX6_openOn_40 rfl (k rx1_v2)
def fX6_openWalls (v1 : Int) (z : ZZ) : Option (Int × ZZ) := (zl (zup z 151 0 (0)) fun z1 => (Option.bind (fX6_in (v1) ((z1 154 (3))) (9999) z1) fun r2 => (Option.bind (fX6_fails (r2) (1) z1) fun q3 => match q3 with | (r3, z3) => (if (r3) = (0) then (Option.bind (fX6_openOn (v1) z3) fun r5 => some (r5, z3)) else some (0, z3)))))
set_option maxRecDepth 100000 in
theorem CX6_openWalls {ln N : Nat} {z : ZZ} {v1 : Int} (hN : 159 ≤ N ∧ N < 999999) (hz : okz z) (rv1 : inR v1) {p : Int × ZZ} (h : fX6_openWalls v1 z = some p) : X mX6_openWalls 0 (xEnt [.ref (151), .int (iN (v1))] (xL mX6_openWalls)) [] (zmk ln N z) (cc_wi p) (6 * cc_wi p) (Qd (fa_wi p) (rs_wi p) (st_wi ln N p)) := by
  have k : Fin_wi (Qd (fa_wi p) (rs_wi p) (st_wi ln N p)) ln N p := Fin_wi_i
  unfold fX6_openWalls at h
  refine X_to (M := [some (.ref (151)), some (.int (iN (v1)))]) (su := []) rfl rfl ?_
  refine X_aload_n (pc' := 1) dX6_openWalls_0 rfl rfl ?_
  refine X_iconst (pc' := 2) dX6_openWalls_1 rfl ?_
  refine Y_put (k := 0) (j := 0) (v := 0) (pc' := 5) dX6_openWalls_2 rfl FX6_51 (zlN hN (by decide)) (congrArg Prod.fst (sh151 ln)) (fun r hr => by cases hr; rfl) (xFit_int _) rfl rfl ?_
  obtain ⟨z1, e1, hz1, h⟩ := zl_some (P := okz) h (okz_up hz (inR_c (n := 0) rfl))
  rw [e1]
  refine X_aload_n (pc' := 6) dX6_openWalls_5 rfl rfl ?_
  refine X_iload_n (pc' := 7) dX6_openWalls_6 rfl rfl ?_
  refine X_lI_i2l (pc' := 8) dX6_openWalls_7 rfl rv1 ?_
  refine X_aload_n (pc' := 9) dX6_openWalls_8 rfl rfl ?_
  refine Y_get (pc' := 12) dX6_openWalls_9 rfl FX6_16 (zlN hN (by decide)) (congrArg Prod.fst (sh151 ln)) (ct151_9 z1) ?_
  refine X_iconst (pc' := 13) dX6_openWalls_12 rfl ?_
  refine Y_iald (pc' := 14) dX6_openWalls_13 rfl (zlN hN (by decide)) (sh154 ln) (by decide) ⟨by decide, by decide⟩ ?_
  refine X_lI_i2l (pc' := 15) dX6_openWalls_14 rfl (hz1 154 (3) (by decide)) ?_
  refine X_ldc2 (pc' := 18) dX6_openWalls_15 rfl tq1614 (n := 9999) rfl ?_
  obtain ⟨r2, q2, h⟩ := bs h
  refine Y_callS [.long (lI (v1)), .long (lI ((z1 154 (3)))), .long (lI (9999))] (pc' := 21) dX6_openWalls_18 rfl SX6_66 (by decide) rfl (cs rfl) (cs rfl) rfl (CX6_in hN hz1 (inL_R rv1) (inL_R (hz1 154 (3) (by decide))) (inL_c (n := 9999) rfl) q2) (Nat.zero_add _).symm (Nat.zero_add _).symm (fun f2 => ?_)
  refine X_iconst (pc' := 22) dX6_openWalls_21 rfl ?_
  obtain ⟨⟨r3, z3⟩, q3, h⟩ := bs h
  refine Y_callV [.int (iN (r2)), .int (iN (1))] (pc' := 25) dX6_openWalls_22 rfl VX6_62 (by decide) (zlN hN (by decide)) (congrArg Prod.fst (sh151 ln)) rfl rfl rfl (cs rfl) (cs rfl) rfl (CX6_fails hN hz1 (inR_b f2) (inR_c (n := 1) rfl) q3) (Nat.zero_add _).symm (Nat.zero_add _).symm (fun f3 => ?_)
  refine X_if_eq dX6_openWalls_25 (tgt := 32) rfl (pc' := 28) rfl (inR_b f3.1) (fun c4 => ?_) (fun c4 => ?_)
  · have h := if_t c4 h
    refine X_aload_n (pc' := 33) dX6_openWalls_32 rfl rfl ?_
    refine X_iload_n (pc' := 34) dX6_openWalls_33 rfl rfl ?_
    obtain ⟨r5, q5, h⟩ := bs h
    refine Y_callV [.int (iN (v1))] (pc' := 37) dX6_openWalls_34 rfl VX6_325 (by decide) (zlN hN (by decide)) (congrArg Prod.fst (sh151 ln)) rfl rfl rfl (cs rfl) (cs rfl) rfl (CX6_openOn hN f3.2 rv1 q5) (Nat.zero_add _).symm (Nat.zero_add _).symm (fun f5 => ?_)
    cases h
    exact X_iret dX6_openWalls_37 rfl (k ⟨f5, f3.2⟩)
  have h := if_f c4 h
  refine X_iconst (pc' := 29) dX6_openWalls_28 rfl ?_
  refine X_goto dX6_openWalls_29 (tgt := 37) rfl ?_
  cases h
  exact X_iret dX6_openWalls_37 rfl (k ⟨(inR_c (n := 0) rfl), f3.2⟩)
def fX6_postpone (v1 : Int) (v2 : Int) (z : ZZ) : Option (Int × ZZ) := (zl (zup z 151 0 (0)) fun z1 => (Option.bind (fX6_isWall (v1) z1) fun r2 => (Option.bind (fX6_fails (r2) (1) z1) fun q3 => match q3 with | (r3, z3) => (if (r3) = (0) then (Option.bind (fX6_in (v2) (1) (14) z3) fun r5 => (Option.bind (fX6_fails (r5) (2) z3) fun q6 => match q6 with | (r6, z6) => (if (r6) = (0) then (Option.bind (fX6_record z6) fun z8 => (if (0 : Int) ≤ (((5 + (4 * v1)) + 3)) ∧ (((5 + (4 * v1)) + 3)) < (765 : Int) then (if inR (((z8 154 (((5 + (4 * v1)) + 3))) + v2)) then (zl (zup z8 154 (((5 + (4 * v1)) + 3)) (((z8 154 (((5 + (4 * v1)) + 3))) + v2))) fun z11 => (Option.bind (fX6_wallPart (v1) (3) z11) fun r12 => some (r12, z11))) else none) else none)) else some (0, z6)))) else some (0, z3)))))
set_option maxRecDepth 100000 in
theorem CX6_postpone {ln N : Nat} {z : ZZ} {v1 : Int} {v2 : Int} (hN : 159 ≤ N ∧ N < 999999) (hz : okz z) (rv1 : inR v1) (rv2 : inR v2) {p : Int × ZZ} (h : fX6_postpone v1 v2 z = some p) : X mX6_postpone 0 (xEnt [.ref (151), .int (iN (v1)), .int (iN (v2))] (xL mX6_postpone)) [] (zmk ln N z) (cc_wi p) (6 * cc_wi p) (Qd (fa_wi p) (rs_wi p) (st_wi ln N p)) := by
  have k : Fin_wi (Qd (fa_wi p) (rs_wi p) (st_wi ln N p)) ln N p := Fin_wi_i
  unfold fX6_postpone at h
  refine X_to (M := [some (.ref (151)), some (.int (iN (v1))), some (.int (iN (v2)))]) (su := []) rfl rfl ?_
  refine X_aload_n (pc' := 1) dX6_postpone_0 rfl rfl ?_
  refine X_iconst (pc' := 2) dX6_postpone_1 rfl ?_
  refine Y_put (k := 0) (j := 0) (v := 0) (pc' := 5) dX6_postpone_2 rfl FX6_51 (zlN hN (by decide)) (congrArg Prod.fst (sh151 ln)) (fun r hr => by cases hr; rfl) (xFit_int _) rfl rfl ?_
  obtain ⟨z1, e1, hz1, h⟩ := zl_some (P := okz) h (okz_up hz (inR_c (n := 0) rfl))
  rw [e1]
  refine X_aload_n (pc' := 6) dX6_postpone_5 rfl rfl ?_
  refine X_aload_n (pc' := 7) dX6_postpone_6 rfl rfl ?_
  refine X_iload_n (pc' := 8) dX6_postpone_7 rfl rfl ?_
  obtain ⟨r2, q2, h⟩ := bs h
  refine Y_callV [.int (iN (v1))] (pc' := 11) dX6_postpone_8 rfl VX6_220 (by decide) (zlN hN (by decide)) (congrArg Prod.fst (sh151 ln)) rfl rfl rfl (cs rfl) (cs rfl) rfl (CX6_isWall hN hz1 rv1 q2) (Nat.zero_add _).symm (Nat.zero_add _).symm (fun f2 => ?_)
  refine X_iconst (pc' := 12) dX6_postpone_11 rfl ?_
  obtain ⟨⟨r3, z3⟩, q3, h⟩ := bs h
  refine Y_callV [.int (iN (r2)), .int (iN (1))] (pc' := 15) dX6_postpone_12 rfl VX6_62 (by decide) (zlN hN (by decide)) (congrArg Prod.fst (sh151 ln)) rfl rfl rfl (cs rfl) (cs rfl) rfl (CX6_fails hN hz1 (inR_b f2) (inR_c (n := 1) rfl) q3) (Nat.zero_add _).symm (Nat.zero_add _).symm (fun f3 => ?_)
  refine X_if_ne dX6_postpone_15 (tgt := 35) rfl (pc' := 18) rfl (inR_b f3.1) (fun c4 => ?_) (fun c4 => ?_)
  · have h := if_f c4 h
    refine X_iconst (pc' := 36) dX6_postpone_35 rfl ?_
    cases h
    exact X_iret dX6_postpone_36 rfl (k ⟨(inR_c (n := 0) rfl), f3.2⟩)
  have h := if_t c4 h
  refine X_aload_n (pc' := 19) dX6_postpone_18 rfl rfl ?_
  refine X_iload_n (pc' := 20) dX6_postpone_19 rfl rfl ?_
  refine X_lI_i2l (pc' := 21) dX6_postpone_20 rfl rv2 ?_
  refine X_lI_const (pc' := 22) dX6_postpone_21 rfl (a := 1) rfl ?_
  refine X_ldc2 (pc' := 25) dX6_postpone_22 rfl tq1508 (n := 14) rfl ?_
  obtain ⟨r5, q5, h⟩ := bs h
  refine Y_callS [.long (lI (v2)), .long (lI (1)), .long (lI (14))] (pc' := 28) dX6_postpone_25 rfl SX6_66 (by decide) rfl (cs rfl) (cs rfl) rfl (CX6_in hN f3.2 (inL_R rv2) (inL_c (n := 1) rfl) (inL_c (n := 14) rfl) q5) (Nat.zero_add _).symm (Nat.zero_add _).symm (fun f5 => ?_)
  refine X_iconst (pc' := 29) dX6_postpone_28 rfl ?_
  obtain ⟨⟨r6, z6⟩, q6, h⟩ := bs h
  refine Y_callV [.int (iN (r5)), .int (iN (2))] (pc' := 32) dX6_postpone_29 rfl VX6_62 (by decide) (zlN hN (by decide)) (congrArg Prod.fst (sh151 ln)) rfl rfl rfl (cs rfl) (cs rfl) rfl (CX6_fails hN f3.2 (inR_b f5) (inR_c (n := 2) rfl) q6) (Nat.zero_add _).symm (Nat.zero_add _).symm (fun f6 => ?_)
  refine X_if_eq dX6_postpone_32 (tgt := 37) rfl (pc' := 35) rfl (inR_b f6.1) (fun c7 => ?_) (fun c7 => ?_)
  · have h := if_t c7 h
    refine X_aload_n (pc' := 38) dX6_postpone_37 rfl rfl ?_
    obtain ⟨z8, q8, h⟩ := bs h
    refine Y_callVv [] (pc' := 41) dX6_postpone_38 rfl VX6_229 (by decide) (zlN hN (by decide)) (congrArg Prod.fst (sh151 ln)) rfl rfl rfl (cs rfl) (cs rfl) rfl (CX6_record hN f6.2 q8) (Nat.zero_add _).symm (Nat.zero_add _).symm (fun f8 => ?_)
    refine X_aload_n (pc' := 42) dX6_postpone_41 rfl rfl ?_
    refine Y_get (pc' := 45) dX6_postpone_42 rfl FX6_16 (zlN hN (by decide)) (congrArg Prod.fst (sh151 ln)) (ct151_9 z8) ?_
    refine X_iconst (pc' := 46) dX6_postpone_45 rfl ?_
    refine X_iconst (pc' := 47) dX6_postpone_46 rfl ?_
    refine X_iload_n (pc' := 48) dX6_postpone_47 rfl rfl ?_
    refine X_imul (pc' := 49) dX6_postpone_48 rfl ?_
    refine X_iadd (pc' := 50) dX6_postpone_49 rfl ?_
    refine X_iconst (pc' := 51) dX6_postpone_50 rfl ?_
    refine X_iadd (pc' := 52) dX6_postpone_51 rfl ?_
    refine X_dup2 (pc' := 53) dX6_postpone_52 rfl rfl rfl ?_
    obtain ⟨g9, h⟩ := gs h
    refine Y_iald (pc' := 54) dX6_postpone_53 rfl (zlN hN (by decide)) (sh154 ln) (by decide) g9 ?_
    refine X_iload_n (pc' := 55) dX6_postpone_54 rfl rfl ?_
    refine X_iadd (pc' := 56) dX6_postpone_55 rfl ?_
    obtain ⟨g10, h⟩ := gs h
    refine Y_iast (pc' := 57) dX6_postpone_56 rfl (zlN hN (by decide)) (sh154 ln) (by decide) g9 ?_
    obtain ⟨z11, e11, hz11, h⟩ := zl_some (P := okz) h (okz_up f8 g10)
    rw [e11]
    refine X_aload_n (pc' := 58) dX6_postpone_57 rfl rfl ?_
    refine X_iload_n (pc' := 59) dX6_postpone_58 rfl rfl ?_
    refine X_iconst (pc' := 60) dX6_postpone_59 rfl ?_
    obtain ⟨r12, q12, h⟩ := bs h
    refine Y_callV [.int (iN (v1)), .int (iN (3))] (pc' := 63) dX6_postpone_60 rfl VX6_195 (by decide) (zlN hN (by decide)) (congrArg Prod.fst (sh151 ln)) rfl rfl rfl (cs rfl) (cs rfl) rfl (CX6_wallPart hN hz11 rv1 (inR_c (n := 3) rfl) q12) (Nat.zero_add _).symm (Nat.zero_add _).symm (fun f12 => ?_)
    cases h
    exact X_iret dX6_postpone_63 rfl (k ⟨f12, hz11⟩)
  have h := if_f c7 h
  refine X_iconst (pc' := 36) dX6_postpone_35 rfl ?_
  cases h
  exact X_iret dX6_postpone_36 rfl (k ⟨(inR_c (n := 0) rfl), f6.2⟩)
def fX6_removeRoute (v1 : Int) (z : ZZ) : Option (Int × ZZ) := (zl (zup z 151 0 (0)) fun z1 => (Option.bind (fX6_isRoute (v1) z1) fun r2 => (Option.bind (fX6_fails (r2) (1) z1) fun q3 => match q3 with | (r3, z3) => (if (r3) = (0) then (Option.bind (fX6_gradeOf (v1) z3) fun q5 => match q5 with | (r5, z5) => (Option.bind (fX6_record z5) fun z6 => (Option.bind (fX6_takeOff (v1) z6) fun z7 => some (r5, z7)))) else some (0, z3)))))
set_option maxRecDepth 100000 in
theorem CX6_removeRoute {ln N : Nat} {z : ZZ} {v1 : Int} (hN : 159 ≤ N ∧ N < 999999) (hz : okz z) (rv1 : inR v1) {p : Int × ZZ} (h : fX6_removeRoute v1 z = some p) : X mX6_removeRoute 0 (xEnt [.ref (151), .int (iN (v1))] (xL mX6_removeRoute)) [] (zmk ln N z) (cc_wi p) (6 * cc_wi p) (Qd (fa_wi p) (rs_wi p) (st_wi ln N p)) := by
  have k : Fin_wi (Qd (fa_wi p) (rs_wi p) (st_wi ln N p)) ln N p := Fin_wi_i
  unfold fX6_removeRoute at h
  refine X_to (M := [some (.ref (151)), some (.int (iN (v1))), none]) (su := []) rfl rfl ?_
  refine X_aload_n (pc' := 1) dX6_removeRoute_0 rfl rfl ?_
  refine X_iconst (pc' := 2) dX6_removeRoute_1 rfl ?_
  refine Y_put (k := 0) (j := 0) (v := 0) (pc' := 5) dX6_removeRoute_2 rfl FX6_51 (zlN hN (by decide)) (congrArg Prod.fst (sh151 ln)) (fun r hr => by cases hr; rfl) (xFit_int _) rfl rfl ?_
  obtain ⟨z1, e1, hz1, h⟩ := zl_some (P := okz) h (okz_up hz (inR_c (n := 0) rfl))
  rw [e1]
  refine X_aload_n (pc' := 6) dX6_removeRoute_5 rfl rfl ?_
  refine X_aload_n (pc' := 7) dX6_removeRoute_6 rfl rfl ?_
  refine X_iload_n (pc' := 8) dX6_removeRoute_7 rfl rfl ?_
  obtain ⟨r2, q2, h⟩ := bs h
  refine Y_callV [.int (iN (v1))] (pc' := 11) dX6_removeRoute_8 rfl VX6_238 (by decide) (zlN hN (by decide)) (congrArg Prod.fst (sh151 ln)) rfl rfl rfl (cs rfl) (cs rfl) rfl (CX6_isRoute hN hz1 rv1 q2) (Nat.zero_add _).symm (Nat.zero_add _).symm (fun f2 => ?_)
  refine X_iconst (pc' := 12) dX6_removeRoute_11 rfl ?_
  obtain ⟨⟨r3, z3⟩, q3, h⟩ := bs h
  refine Y_callV [.int (iN (r2)), .int (iN (1))] (pc' := 15) dX6_removeRoute_12 rfl VX6_62 (by decide) (zlN hN (by decide)) (congrArg Prod.fst (sh151 ln)) rfl rfl rfl (cs rfl) (cs rfl) rfl (CX6_fails hN hz1 (inR_b f2) (inR_c (n := 1) rfl) q3) (Nat.zero_add _).symm (Nat.zero_add _).symm (fun f3 => ?_)
  refine X_if_eq dX6_removeRoute_15 (tgt := 20) rfl (pc' := 18) rfl (inR_b f3.1) (fun c4 => ?_) (fun c4 => ?_)
  · have h := if_t c4 h
    refine X_aload_n (pc' := 21) dX6_removeRoute_20 rfl rfl ?_
    refine X_iload_n (pc' := 22) dX6_removeRoute_21 rfl rfl ?_
    obtain ⟨⟨r5, z5⟩, q5, h⟩ := bs h
    refine Y_callV [.int (iN (v1))] (pc' := 25) dX6_removeRoute_22 rfl VX6_232 (by decide) (zlN hN (by decide)) (congrArg Prod.fst (sh151 ln)) rfl rfl rfl (cs rfl) (cs rfl) rfl (CX6_gradeOf hN f3.2 rv1 q5) (Nat.zero_add _).symm (Nat.zero_add _).symm (fun f5 => ?_)
    refine X_istore_n (pc' := 26) dX6_removeRoute_25 rfl (cl rfl) (Or.inr rfl) (L' := [some (.ref (151)), some (.int (iN (v1))), some (.int (iN (r5)))]) rfl ?_
    refine X_aload_n (pc' := 27) dX6_removeRoute_26 rfl rfl ?_
    obtain ⟨z6, q6, h⟩ := bs h
    refine Y_callVv [] (pc' := 30) dX6_removeRoute_27 rfl VX6_229 (by decide) (zlN hN (by decide)) (congrArg Prod.fst (sh151 ln)) rfl rfl rfl (cs rfl) (cs rfl) rfl (CX6_record hN f5.2 q6) (Nat.zero_add _).symm (Nat.zero_add _).symm (fun f6 => ?_)
    refine X_aload_n (pc' := 31) dX6_removeRoute_30 rfl rfl ?_
    refine X_iload_n (pc' := 32) dX6_removeRoute_31 rfl rfl ?_
    obtain ⟨z7, q7, h⟩ := bs h
    refine Y_callVv [.int (iN (v1))] (pc' := 35) dX6_removeRoute_32 rfl VX6_241 (by decide) (zlN hN (by decide)) (congrArg Prod.fst (sh151 ln)) rfl rfl rfl (cs rfl) (cs rfl) rfl (CX6_takeOff hN f6 rv1 q7) (Nat.zero_add _).symm (Nat.zero_add _).symm (fun f7 => ?_)
    refine X_iload_n (pc' := 36) dX6_removeRoute_35 rfl rfl ?_
    cases h
    exact X_iret dX6_removeRoute_36 rfl (k ⟨f5.1, f7⟩)
  have h := if_f c4 h
  refine X_iconst (pc' := 19) dX6_removeRoute_18 rfl ?_
  cases h
  exact X_iret dX6_removeRoute_19 rfl (k ⟨(inR_c (n := 0) rfl), f3.2⟩)
def fX6_restore_s21 (v1 : Int) (z : ZZ) : Option ((Int × ZZ) ⊕ (ZZ)) := (if (v1) < (765) then (if (0 : Int) ≤ (v1) ∧ (v1) < (765 : Int) then (zl (zup z 154 (v1) ((z 155 (v1)))) fun z3 => (if inR ((v1 + 1)) then some (.inl ((v1 + 1), z3)) else none)) else none) else some (.inr z))
set_option maxRecDepth 100000 in
theorem SX6_restore_21 {ln N : Nat} {z : ZZ} {v1 : Int} {c9 s9 : Nat} {Φ : xRes → xS → Prop} (hN : 159 ≤ N ∧ N < 999999) (hz : okz z) (rv1 : inR v1) {p : (Int × ZZ) ⊕ (ZZ)} (h : fX6_restore_s21 v1 z = some p) (k1 : ∀ (v1' : Int) (z' : ZZ), p = .inl (v1', z') → inR v1' → okz z' → X mX6_restore 21 [some (.ref (151)), some (.int (iN (v1')))] [] (zmk ln N z') c9 s9 Φ) (k2 : ∀ (z' : ZZ), p = .inr z' → okz z' → X mX6_restore 46 [some (.ref (151)), none] [] (zmk ln N z') c9 s9 Φ) : X mX6_restore 21 [some (.ref (151)), some (.int (iN (v1)))] [] (zmk ln N z) c9 s9 Φ := by
  unfold fX6_restore_s21 at h
  refine X_iload_n (pc' := 22) dX6_restore_21 rfl rfl ?_
  refine X_sipush (pc' := 25) dX6_restore_22 rfl (by decide) ?_
  refine X_icmp_ge dX6_restore_25 (tgt := 46) rfl (pc' := 28) rfl ⟨rv1.1, rv1.2, (inR_c (n := 765) rfl).1, (inR_c (n := 765) rfl).2⟩ (fun c1 => ?_) (fun c1 => ?_)
  · have h := if_f (Int.not_lt.mpr c1) h
    cases h
    exact X_sub (sub_s (sub_n sub_0)) (k2 _ rfl hz)
  have h := if_t c1 h
  refine X_aload_n (pc' := 29) dX6_restore_28 rfl rfl ?_
  refine Y_get (pc' := 32) dX6_restore_29 rfl FX6_16 (zlN hN (by decide)) (congrArg Prod.fst (sh151 ln)) (ct151_9 z) ?_
  refine X_iload_n (pc' := 33) dX6_restore_32 rfl rfl ?_
  refine X_aload_n (pc' := 34) dX6_restore_33 rfl rfl ?_
  refine Y_get (pc' := 37) dX6_restore_34 rfl FX6_19 (zlN hN (by decide)) (congrArg Prod.fst (sh151 ln)) (ct151_10 z) ?_
  refine X_iload_n (pc' := 38) dX6_restore_37 rfl rfl ?_
  obtain ⟨g2, h⟩ := gs h
  refine Y_iald (pc' := 39) dX6_restore_38 rfl (zlN hN (by decide)) (sh155 ln) (by decide) g2 ?_
  refine Y_iast (pc' := 40) dX6_restore_39 rfl (zlN hN (by decide)) (sh154 ln) (by decide) g2 ?_
  obtain ⟨z3, e3, hz3, h⟩ := zl_some (P := okz) h (okz_up hz (hz 155 (v1) (by decide)))
  rw [e3]
  refine X_iinc (pc' := 43) dX6_restore_40 rfl rfl (Or.inr rfl) (L' := [some (.ref (151)), some (.int (iN (v1 + 1)))]) rfl ?_
  refine X_goto dX6_restore_43 (tgt := 21) rfl ?_
  obtain ⟨g4, h⟩ := gs h
  cases h
  exact X_sub (sub_s (sub_s sub_0)) (k1 _ _ rfl g4 hz3)
theorem LX6_restore_21 {ln N : Nat} {c9 s9 : Nat} {Φ : xRes → xS → Prop} (hN : 159 ≤ N ∧ N < 999999) {r : ZZ} (k2 : ∀ (z' : ZZ), r = z' → okz z' → X mX6_restore 46 [some (.ref (151)), none] [] (zmk ln N z') c9 s9 Φ) : ∀ (n : Nat) (v1 : Int) (z : ZZ), inR v1 → okz z → zlp (fun q => fX6_restore_s21 q.1 q.2) n (v1, z) = some r → X mX6_restore 21 [some (.ref (151)), some (.int (iN (v1)))] [] (zmk ln N z) c9 s9 Φ := by
  intro n
  induction n with
  | zero => intro v1 z rv1 hz h; cases h
  | succ n ih =>
    intro v1 z rv1 hz h
    rcases zlp_s h with ⟨⟨v1', z'⟩, e, h'⟩ | e
    · exact SX6_restore_21 hN hz rv1 e (fun v1₁ z₁ hh f0 f1 => by cases hh; exact ih _ _ f0 f1 h') (fun z₁ hh f0 => by cases hh)
    · exact SX6_restore_21 hN hz rv1 e (fun v1₁ z₁ hh f0 f1 => by cases hh) (fun z₁ hh f0 => by cases hh; exact k2 _ rfl f0)
def fX6_restore (z : ZZ) : Option (Int × ZZ) := (zl (zup z 151 0 (0)) fun z1 => (Option.bind (fX6_fails ((z1 151 13)) (1) z1) fun q2 => match q2 with | (r2, z2) => (if (r2) = (0) then (Option.bind (zlp (fun q => fX6_restore_s21 q.1 q.2) FU (0, z2)) fun x4_z => (zl (zup x4_z 151 12 (0)) fun z5 => some ((z5 154 (3)), z5))) else some (0, z2))))
set_option maxRecDepth 100000 in
theorem CX6_restore {ln N : Nat} {z : ZZ} (hN : 159 ≤ N ∧ N < 999999) (hz : okz z) {p : Int × ZZ} (h : fX6_restore z = some p) : X mX6_restore 0 (xEnt [.ref (151)] (xL mX6_restore)) [] (zmk ln N z) (cc_wi p) (6 * cc_wi p) (Qd (fa_wi p) (rs_wi p) (st_wi ln N p)) := by
  have k : Fin_wi (Qd (fa_wi p) (rs_wi p) (st_wi ln N p)) ln N p := Fin_wi_i
  unfold fX6_restore at h
  refine X_to (M := [some (.ref (151)), none]) (su := []) rfl rfl ?_
  refine X_aload_n (pc' := 1) dX6_restore_0 rfl rfl ?_
  refine X_iconst (pc' := 2) dX6_restore_1 rfl ?_
  refine Y_put (k := 0) (j := 0) (v := 0) (pc' := 5) dX6_restore_2 rfl FX6_51 (zlN hN (by decide)) (congrArg Prod.fst (sh151 ln)) (fun r hr => by cases hr; rfl) (xFit_int _) rfl rfl ?_
  obtain ⟨z1, e1, hz1, h⟩ := zl_some (P := okz) h (okz_up hz (inR_c (n := 0) rfl))
  rw [e1]
  refine X_aload_n (pc' := 6) dX6_restore_5 rfl rfl ?_
  refine X_aload_n (pc' := 7) dX6_restore_6 rfl rfl ?_
  refine Y_get (pc' := 10) dX6_restore_7 rfl FX6_155 (zlN hN (by decide)) (congrArg Prod.fst (sh151 ln)) (ct151_13 z1) ?_
  refine X_iconst (pc' := 11) dX6_restore_10 rfl ?_
  obtain ⟨⟨r2, z2⟩, q2, h⟩ := bs h
  refine Y_callV [.int (iN ((z1 151 13))), .int (iN (1))] (pc' := 14) dX6_restore_11 rfl VX6_62 (by decide) (zlN hN (by decide)) (congrArg Prod.fst (sh151 ln)) rfl rfl rfl (cs rfl) (cs rfl) rfl (CX6_fails hN hz1 (hz1 151 13 (by decide)) (inR_c (n := 1) rfl) q2) (Nat.zero_add _).symm (Nat.zero_add _).symm (fun f2 => ?_)
  refine X_if_eq dX6_restore_14 (tgt := 19) rfl (pc' := 17) rfl (inR_b f2.1) (fun c3 => ?_) (fun c3 => ?_)
  · have h := if_t c3 h
    refine X_iconst (pc' := 20) dX6_restore_19 rfl ?_
    refine X_istore_n (pc' := 21) dX6_restore_20 rfl (cl rfl) (Or.inr rfl) (L' := [some (.ref (151)), some (.int (iN (0)))]) rfl ?_
    obtain ⟨x4_z, q4, h⟩ := bs h
    refine X_sub (sub_s (sub_s sub_0)) (LX6_restore_21 hN (fun x4_z₁ hh hx4_z => ?_) FU _ _ (inR_c (n := 0) rfl) f2.2 q4)
    cases hh
    refine X_aload_n (pc' := 47) dX6_restore_46 rfl rfl ?_
    refine X_iconst (pc' := 48) dX6_restore_47 rfl ?_
    refine Y_put (k := 12) (j := 12) (v := 0) (pc' := 51) dX6_restore_48 rfl FX6_152 (zlN hN (by decide)) (congrArg Prod.fst (sh151 ln)) (fun r hr => by cases hr; rfl) (xFit_int _) rfl rfl ?_
    obtain ⟨z5, e5, hz5, h⟩ := zl_some (P := okz) h (okz_up hx4_z (inR_c (n := 0) rfl))
    rw [e5]
    refine X_aload_n (pc' := 52) dX6_restore_51 rfl rfl ?_
    refine Y_get (pc' := 55) dX6_restore_52 rfl FX6_16 (zlN hN (by decide)) (congrArg Prod.fst (sh151 ln)) (ct151_9 z5) ?_
    refine X_iconst (pc' := 56) dX6_restore_55 rfl ?_
    refine Y_iald (pc' := 57) dX6_restore_56 rfl (zlN hN (by decide)) (sh154 ln) (by decide) ⟨by decide, by decide⟩ ?_
    cases h
    exact X_iret dX6_restore_57 rfl (k ⟨(hz5 154 (3) (by decide)), hz5⟩)
  have h := if_f c3 h
  refine X_iconst (pc' := 18) dX6_restore_17 rfl ?_
  cases h
  exact X_iret dX6_restore_18 rfl (k ⟨(inR_c (n := 0) rfl), f2.2⟩)
def fX6_route (v1 : Int) (v2 : Int) (z : ZZ) : Option (Int × ZZ) := (zl (zup z 151 0 (0)) fun z1 => (Option.bind (fX6_isRoute (v1) z1) fun r2 => (Option.bind (fX6_fails (r2) (1) z1) fun q3 => match q3 with | (r3, z3) => (if (r3) = (0) then (Option.bind (fX6_in (v2) (0) (6) z3) fun r5 => (Option.bind (fX6_fails (r5) (2) z3) fun q6 => match q6 with | (r6, z6) => (if (r6) = (0) then (if (4) < (v2) then (if (v2) = (5) then (Option.bind (fX6_votesOf (v1) z6) fun r12 => some (r12, z6)) else (Option.bind (fX6_isWorn (v1) z6) fun r10 => (if (r10) = (0) then some (0, z6) else some (1, z6)))) else (Option.bind (fX6_routePart (v1) (v2) z6) fun r13 => some (r13, z6))) else some (0, z6)))) else some (0, z3)))))
set_option maxRecDepth 100000 in
theorem CX6_route {ln N : Nat} {z : ZZ} {v1 : Int} {v2 : Int} (hN : 159 ≤ N ∧ N < 999999) (hz : okz z) (rv1 : inR v1) (rv2 : inR v2) {p : Int × ZZ} (h : fX6_route v1 v2 z = some p) : X mX6_route 0 (xEnt [.ref (151), .int (iN (v1)), .int (iN (v2))] (xL mX6_route)) [] (zmk ln N z) (cc_wi p) (6 * cc_wi p) (Qd (fa_wi p) (rs_wi p) (st_wi ln N p)) := by
  have k : Fin_wi (Qd (fa_wi p) (rs_wi p) (st_wi ln N p)) ln N p := Fin_wi_i
  unfold fX6_route at h
  refine X_to (M := [some (.ref (151)), some (.int (iN (v1))), some (.int (iN (v2)))]) (su := []) rfl rfl ?_
  refine X_aload_n (pc' := 1) dX6_route_0 rfl rfl ?_
  refine X_iconst (pc' := 2) dX6_route_1 rfl ?_
  refine Y_put (k := 0) (j := 0) (v := 0) (pc' := 5) dX6_route_2 rfl FX6_51 (zlN hN (by decide)) (congrArg Prod.fst (sh151 ln)) (fun r hr => by cases hr; rfl) (xFit_int _) rfl rfl ?_
  obtain ⟨z1, e1, hz1, h⟩ := zl_some (P := okz) h (okz_up hz (inR_c (n := 0) rfl))
  rw [e1]
  refine X_aload_n (pc' := 6) dX6_route_5 rfl rfl ?_
  refine X_aload_n (pc' := 7) dX6_route_6 rfl rfl ?_
  refine X_iload_n (pc' := 8) dX6_route_7 rfl rfl ?_
  obtain ⟨r2, q2, h⟩ := bs h
  refine Y_callV [.int (iN (v1))] (pc' := 11) dX6_route_8 rfl VX6_238 (by decide) (zlN hN (by decide)) (congrArg Prod.fst (sh151 ln)) rfl rfl rfl (cs rfl) (cs rfl) rfl (CX6_isRoute hN hz1 rv1 q2) (Nat.zero_add _).symm (Nat.zero_add _).symm (fun f2 => ?_)
  refine X_iconst (pc' := 12) dX6_route_11 rfl ?_
  obtain ⟨⟨r3, z3⟩, q3, h⟩ := bs h
  refine Y_callV [.int (iN (r2)), .int (iN (1))] (pc' := 15) dX6_route_12 rfl VX6_62 (by decide) (zlN hN (by decide)) (congrArg Prod.fst (sh151 ln)) rfl rfl rfl (cs rfl) (cs rfl) rfl (CX6_fails hN hz1 (inR_b f2) (inR_c (n := 1) rfl) q3) (Nat.zero_add _).symm (Nat.zero_add _).symm (fun f3 => ?_)
  refine X_if_ne dX6_route_15 (tgt := 35) rfl (pc' := 18) rfl (inR_b f3.1) (fun c4 => ?_) (fun c4 => ?_)
  · have h := if_f c4 h
    refine X_iconst (pc' := 36) dX6_route_35 rfl ?_
    cases h
    exact X_iret dX6_route_36 rfl (k ⟨(inR_c (n := 0) rfl), f3.2⟩)
  have h := if_t c4 h
  refine X_aload_n (pc' := 19) dX6_route_18 rfl rfl ?_
  refine X_iload_n (pc' := 20) dX6_route_19 rfl rfl ?_
  refine X_lI_i2l (pc' := 21) dX6_route_20 rfl rv2 ?_
  refine X_lI_const (pc' := 22) dX6_route_21 rfl (a := 0) rfl ?_
  refine X_ldc2 (pc' := 25) dX6_route_22 rfl tq1535 (n := 6) rfl ?_
  obtain ⟨r5, q5, h⟩ := bs h
  refine Y_callS [.long (lI (v2)), .long (lI (0)), .long (lI (6))] (pc' := 28) dX6_route_25 rfl SX6_66 (by decide) rfl (cs rfl) (cs rfl) rfl (CX6_in hN f3.2 (inL_R rv2) (inL_c (n := 0) rfl) (inL_c (n := 6) rfl) q5) (Nat.zero_add _).symm (Nat.zero_add _).symm (fun f5 => ?_)
  refine X_iconst (pc' := 29) dX6_route_28 rfl ?_
  obtain ⟨⟨r6, z6⟩, q6, h⟩ := bs h
  refine Y_callV [.int (iN (r5)), .int (iN (2))] (pc' := 32) dX6_route_29 rfl VX6_62 (by decide) (zlN hN (by decide)) (congrArg Prod.fst (sh151 ln)) rfl rfl rfl (cs rfl) (cs rfl) rfl (CX6_fails hN f3.2 (inR_b f5) (inR_c (n := 2) rfl) q6) (Nat.zero_add _).symm (Nat.zero_add _).symm (fun f6 => ?_)
  refine X_if_eq dX6_route_32 (tgt := 37) rfl (pc' := 35) rfl (inR_b f6.1) (fun c7 => ?_) (fun c7 => ?_)
  · have h := if_t c7 h
    refine X_iload_n (pc' := 38) dX6_route_37 rfl rfl ?_
    refine X_iconst (pc' := 39) dX6_route_38 rfl ?_
    refine X_icmp_gt dX6_route_39 (tgt := 49) rfl (pc' := 42) rfl ⟨rv2.1, rv2.2, (inR_c (n := 4) rfl).1, (inR_c (n := 4) rfl).2⟩ (fun c8 => ?_) (fun c8 => ?_)
    · have h := if_t c8 h
      refine X_iload_n (pc' := 50) dX6_route_49 rfl rfl ?_
      refine X_iconst (pc' := 51) dX6_route_50 rfl ?_
      refine X_icmp_ne dX6_route_51 (tgt := 62) rfl (pc' := 54) rfl ⟨rv2.1, rv2.2, (inR_c (n := 5) rfl).1, (inR_c (n := 5) rfl).2⟩ (fun c9 => ?_) (fun c9 => ?_)
      · have h := if_f c9 h
        refine X_aload_n (pc' := 63) dX6_route_62 rfl rfl ?_
        refine X_iload_n (pc' := 64) dX6_route_63 rfl rfl ?_
        obtain ⟨r10, q10, h⟩ := bs h
        refine Y_callV [.int (iN (v1))] (pc' := 67) dX6_route_64 rfl VX6_217 (by decide) (zlN hN (by decide)) (congrArg Prod.fst (sh151 ln)) rfl rfl rfl (cs rfl) (cs rfl) rfl (CX6_isWorn hN f6.2 rv1 q10) (Nat.zero_add _).symm (Nat.zero_add _).symm (fun f10 => ?_)
        refine X_if_eq dX6_route_67 (tgt := 74) rfl (pc' := 70) rfl (inR_b f10) (fun c11 => ?_) (fun c11 => ?_)
        · have h := if_t c11 h
          refine X_iconst (pc' := 75) dX6_route_74 rfl ?_
          cases h
          exact X_iret dX6_route_75 rfl (k ⟨(inR_c (n := 0) rfl), f6.2⟩)
        have h := if_f c11 h
        refine X_iconst (pc' := 71) dX6_route_70 rfl ?_
        refine X_goto dX6_route_71 (tgt := 75) rfl ?_
        cases h
        exact X_iret dX6_route_75 rfl (k ⟨(inR_c (n := 1) rfl), f6.2⟩)
      have h := if_t c9 h
      refine X_aload_n (pc' := 55) dX6_route_54 rfl rfl ?_
      refine X_iload_n (pc' := 56) dX6_route_55 rfl rfl ?_
      obtain ⟨r12, q12, h⟩ := bs h
      refine Y_callV [.int (iN (v1))] (pc' := 59) dX6_route_56 rfl VX6_297 (by decide) (zlN hN (by decide)) (congrArg Prod.fst (sh151 ln)) rfl rfl rfl (cs rfl) (cs rfl) rfl (CX6_votesOf hN f6.2 rv1 q12) (Nat.zero_add _).symm (Nat.zero_add _).symm (fun f12 => ?_)
      refine X_goto dX6_route_59 (tgt := 75) rfl ?_
      cases h
      exact X_iret dX6_route_75 rfl (k ⟨f12, f6.2⟩)
    have h := if_f (Int.not_lt.mpr c8) h
    refine X_aload_n (pc' := 43) dX6_route_42 rfl rfl ?_
    refine X_iload_n (pc' := 44) dX6_route_43 rfl rfl ?_
    refine X_iload_n (pc' := 45) dX6_route_44 rfl rfl ?_
    obtain ⟨r13, q13, h⟩ := bs h
    refine Y_callV [.int (iN (v1)), .int (iN (v2))] (pc' := 48) dX6_route_45 rfl VX6_163 (by decide) (zlN hN (by decide)) (congrArg Prod.fst (sh151 ln)) rfl rfl rfl (cs rfl) (cs rfl) rfl (CX6_routePart hN f6.2 rv1 rv2 q13) (Nat.zero_add _).symm (Nat.zero_add _).symm (fun f13 => ?_)
    cases h
    exact X_iret dX6_route_48 rfl (k ⟨f13, f6.2⟩)
  have h := if_f c7 h
  refine X_iconst (pc' := 36) dX6_route_35 rfl ?_
  cases h
  exact X_iret dX6_route_36 rfl (k ⟨(inR_c (n := 0) rfl), f6.2⟩)
def fX6_save_s7 (v1 : Int) (z : ZZ) : Option ((Int × ZZ) ⊕ (ZZ)) := (if (v1) < (765) then (if (0 : Int) ≤ (v1) ∧ (v1) < (765 : Int) then (zl (zup z 155 (v1) ((z 154 (v1)))) fun z3 => (if inR ((v1 + 1)) then some (.inl ((v1 + 1), z3)) else none)) else none) else some (.inr z))
set_option maxRecDepth 100000 in
theorem SX6_save_7 {ln N : Nat} {z : ZZ} {v1 : Int} {c9 s9 : Nat} {Φ : xRes → xS → Prop} (hN : 159 ≤ N ∧ N < 999999) (hz : okz z) (rv1 : inR v1) {p : (Int × ZZ) ⊕ (ZZ)} (h : fX6_save_s7 v1 z = some p) (k1 : ∀ (v1' : Int) (z' : ZZ), p = .inl (v1', z') → inR v1' → okz z' → X mX6_save 7 [some (.ref (151)), some (.int (iN (v1')))] [] (zmk ln N z') c9 s9 Φ) (k2 : ∀ (z' : ZZ), p = .inr z' → okz z' → X mX6_save 32 [some (.ref (151)), none] [] (zmk ln N z') c9 s9 Φ) : X mX6_save 7 [some (.ref (151)), some (.int (iN (v1)))] [] (zmk ln N z) c9 s9 Φ := by
  unfold fX6_save_s7 at h
  refine X_iload_n (pc' := 8) dX6_save_7 rfl rfl ?_
  refine X_sipush (pc' := 11) dX6_save_8 rfl (by decide) ?_
  refine X_icmp_ge dX6_save_11 (tgt := 32) rfl (pc' := 14) rfl ⟨rv1.1, rv1.2, (inR_c (n := 765) rfl).1, (inR_c (n := 765) rfl).2⟩ (fun c1 => ?_) (fun c1 => ?_)
  · have h := if_f (Int.not_lt.mpr c1) h
    cases h
    exact X_sub (sub_s (sub_n sub_0)) (k2 _ rfl hz)
  have h := if_t c1 h
  refine X_aload_n (pc' := 15) dX6_save_14 rfl rfl ?_
  refine Y_get (pc' := 18) dX6_save_15 rfl FX6_19 (zlN hN (by decide)) (congrArg Prod.fst (sh151 ln)) (ct151_10 z) ?_
  refine X_iload_n (pc' := 19) dX6_save_18 rfl rfl ?_
  refine X_aload_n (pc' := 20) dX6_save_19 rfl rfl ?_
  refine Y_get (pc' := 23) dX6_save_20 rfl FX6_16 (zlN hN (by decide)) (congrArg Prod.fst (sh151 ln)) (ct151_9 z) ?_
  refine X_iload_n (pc' := 24) dX6_save_23 rfl rfl ?_
  obtain ⟨g2, h⟩ := gs h
  refine Y_iald (pc' := 25) dX6_save_24 rfl (zlN hN (by decide)) (sh154 ln) (by decide) g2 ?_
  refine Y_iast (pc' := 26) dX6_save_25 rfl (zlN hN (by decide)) (sh155 ln) (by decide) g2 ?_
  obtain ⟨z3, e3, hz3, h⟩ := zl_some (P := okz) h (okz_up hz (hz 154 (v1) (by decide)))
  rw [e3]
  refine X_iinc (pc' := 29) dX6_save_26 rfl rfl (Or.inr rfl) (L' := [some (.ref (151)), some (.int (iN (v1 + 1)))]) rfl ?_
  refine X_goto dX6_save_29 (tgt := 7) rfl ?_
  obtain ⟨g4, h⟩ := gs h
  cases h
  exact X_sub (sub_s (sub_s sub_0)) (k1 _ _ rfl g4 hz3)
theorem LX6_save_7 {ln N : Nat} {c9 s9 : Nat} {Φ : xRes → xS → Prop} (hN : 159 ≤ N ∧ N < 999999) {r : ZZ} (k2 : ∀ (z' : ZZ), r = z' → okz z' → X mX6_save 32 [some (.ref (151)), none] [] (zmk ln N z') c9 s9 Φ) : ∀ (n : Nat) (v1 : Int) (z : ZZ), inR v1 → okz z → zlp (fun q => fX6_save_s7 q.1 q.2) n (v1, z) = some r → X mX6_save 7 [some (.ref (151)), some (.int (iN (v1)))] [] (zmk ln N z) c9 s9 Φ := by
  intro n
  induction n with
  | zero => intro v1 z rv1 hz h; cases h
  | succ n ih =>
    intro v1 z rv1 hz h
    rcases zlp_s h with ⟨⟨v1', z'⟩, e, h'⟩ | e
    · exact SX6_save_7 hN hz rv1 e (fun v1₁ z₁ hh f0 f1 => by cases hh; exact ih _ _ f0 f1 h') (fun z₁ hh f0 => by cases hh)
    · exact SX6_save_7 hN hz rv1 e (fun v1₁ z₁ hh f0 f1 => by cases hh) (fun z₁ hh f0 => by cases hh; exact k2 _ rfl f0)
def fX6_save (z : ZZ) : Option (Int × ZZ) := (zl (zup z 151 0 (0)) fun z1 => (Option.bind (zlp (fun q => fX6_save_s7 q.1 q.2) FU (0, z1)) fun x2_z => (zl (zup x2_z 151 13 (1)) fun z3 => some ((z3 154 (3)), z3))))
set_option maxRecDepth 100000 in
theorem CX6_save {ln N : Nat} {z : ZZ} (hN : 159 ≤ N ∧ N < 999999) (hz : okz z) {p : Int × ZZ} (h : fX6_save z = some p) : X mX6_save 0 (xEnt [.ref (151)] (xL mX6_save)) [] (zmk ln N z) (cc_wi p) (6 * cc_wi p) (Qd (fa_wi p) (rs_wi p) (st_wi ln N p)) := by
  have k : Fin_wi (Qd (fa_wi p) (rs_wi p) (st_wi ln N p)) ln N p := Fin_wi_i
  unfold fX6_save at h
  refine X_to (M := [some (.ref (151)), none]) (su := []) rfl rfl ?_
  refine X_aload_n (pc' := 1) dX6_save_0 rfl rfl ?_
  refine X_iconst (pc' := 2) dX6_save_1 rfl ?_
  refine Y_put (k := 0) (j := 0) (v := 0) (pc' := 5) dX6_save_2 rfl FX6_51 (zlN hN (by decide)) (congrArg Prod.fst (sh151 ln)) (fun r hr => by cases hr; rfl) (xFit_int _) rfl rfl ?_
  obtain ⟨z1, e1, hz1, h⟩ := zl_some (P := okz) h (okz_up hz (inR_c (n := 0) rfl))
  rw [e1]
  refine X_iconst (pc' := 6) dX6_save_5 rfl ?_
  refine X_istore_n (pc' := 7) dX6_save_6 rfl (cl rfl) (Or.inr rfl) (L' := [some (.ref (151)), some (.int (iN (0)))]) rfl ?_
  obtain ⟨x2_z, q2, h⟩ := bs h
  refine X_sub (sub_s (sub_s sub_0)) (LX6_save_7 hN (fun x2_z₁ hh hx2_z => ?_) FU _ _ (inR_c (n := 0) rfl) hz1 q2)
  cases hh
  refine X_aload_n (pc' := 33) dX6_save_32 rfl rfl ?_
  refine X_iconst (pc' := 34) dX6_save_33 rfl ?_
  refine Y_put (k := 13) (j := 13) (v := 1) (pc' := 37) dX6_save_34 rfl FX6_155 (zlN hN (by decide)) (congrArg Prod.fst (sh151 ln)) (fun r hr => by cases hr; rfl) (xFit_bool (Or.inr rfl)) rfl rfl ?_
  obtain ⟨z3, e3, hz3, h⟩ := zl_some (P := okz) h (okz_up hx2_z (inR_b (Or.inr rfl)))
  rw [e3]
  refine X_aload_n (pc' := 38) dX6_save_37 rfl rfl ?_
  refine Y_get (pc' := 41) dX6_save_38 rfl FX6_16 (zlN hN (by decide)) (congrArg Prod.fst (sh151 ln)) (ct151_9 z3) ?_
  refine X_iconst (pc' := 42) dX6_save_41 rfl ?_
  refine Y_iald (pc' := 43) dX6_save_42 rfl (zlN hN (by decide)) (sh154 ln) (by decide) ⟨by decide, by decide⟩ ?_
  cases h
  exact X_iret dX6_save_43 rfl (k ⟨(hz3 154 (3) (by decide)), hz3⟩)
def fX6_setRoute_s156 (v3 : Int) (v4 : Int) (z : ZZ) : Option ((Int × ZZ) ⊕ (ZZ)) := (if (v4) < (12) then (if (0 : Int) ≤ (((v3 + 6) + v4)) ∧ (((v3 + 6) + v4)) < (765 : Int) then (zl (zup z 154 (((v3 + 6) + v4)) ((-1))) fun z3 => (if inR ((v4 + 1)) then some (.inl ((v4 + 1), z3)) else none)) else none) else some (.inr z))
set_option maxRecDepth 100000 in
theorem SX6_setRoute_156 {ln N : Nat} {z : ZZ} {v3 : Int} {v4 : Int} {c9 s9 : Nat} {Φ : xRes → xS → Prop} (hN : 159 ≤ N ∧ N < 999999) (hz : okz z) (rv3 : inR v3) (rv4 : inR v4) {p : (Int × ZZ) ⊕ (ZZ)} (h : fX6_setRoute_s156 v3 v4 z = some p) (k1 : ∀ (v4' : Int) (z' : ZZ), p = .inl (v4', z') → inR v4' → okz z' → X mX6_setRoute 156 [some (.ref (151)), none, none, some (.int (iN (v3))), some (.int (iN (v4')))] [] (zmk ln N z') c9 s9 Φ) (k2 : ∀ (z' : ZZ), p = .inr z' → okz z' → X mX6_setRoute 182 [some (.ref (151)), none, none, none, none] [] (zmk ln N z') c9 s9 Φ) : X mX6_setRoute 156 [some (.ref (151)), none, none, some (.int (iN (v3))), some (.int (iN (v4)))] [] (zmk ln N z) c9 s9 Φ := by
  unfold fX6_setRoute_s156 at h
  refine X_iload (pc' := 158) dX6_setRoute_156 rfl rfl ?_
  refine X_bipush (pc' := 160) dX6_setRoute_158 rfl (by decide) ?_
  refine X_icmp_ge dX6_setRoute_160 (tgt := 182) rfl (pc' := 163) rfl ⟨rv4.1, rv4.2, (inR_c (n := 12) rfl).1, (inR_c (n := 12) rfl).2⟩ (fun c1 => ?_) (fun c1 => ?_)
  · have h := if_f (Int.not_lt.mpr c1) h
    cases h
    exact X_sub (sub_s (sub_n (sub_n (sub_n (sub_n sub_0))))) (k2 _ rfl hz)
  have h := if_t c1 h
  refine X_aload_n (pc' := 164) dX6_setRoute_163 rfl rfl ?_
  refine Y_get (pc' := 167) dX6_setRoute_164 rfl FX6_16 (zlN hN (by decide)) (congrArg Prod.fst (sh151 ln)) (ct151_9 z) ?_
  refine X_iload_n (pc' := 168) dX6_setRoute_167 rfl rfl ?_
  refine X_bipush (pc' := 170) dX6_setRoute_168 rfl (by decide) ?_
  refine X_iadd (pc' := 171) dX6_setRoute_170 rfl ?_
  refine X_iload (pc' := 173) dX6_setRoute_171 rfl rfl ?_
  refine X_iadd (pc' := 174) dX6_setRoute_173 rfl ?_
  refine X_iconst (pc' := 175) dX6_setRoute_174 rfl ?_
  obtain ⟨g2, h⟩ := gs h
  refine Y_iast (pc' := 176) dX6_setRoute_175 rfl (zlN hN (by decide)) (sh154 ln) (by decide) g2 ?_
  obtain ⟨z3, e3, hz3, h⟩ := zl_some (P := okz) h (okz_up hz (inR_c (n := (-1)) rfl))
  rw [e3]
  refine X_iinc (pc' := 179) dX6_setRoute_176 rfl rfl (Or.inr rfl) (L' := [some (.ref (151)), none, none, some (.int (iN (v3))), some (.int (iN (v4 + 1)))]) rfl ?_
  refine X_goto dX6_setRoute_179 (tgt := 156) rfl ?_
  obtain ⟨g4, h⟩ := gs h
  cases h
  exact X_sub (sub_s (sub_n (sub_n (sub_s (sub_s sub_0))))) (k1 _ _ rfl g4 hz3)
theorem LX6_setRoute_156 {ln N : Nat} {v3 : Int} {c9 s9 : Nat} {Φ : xRes → xS → Prop} (hN : 159 ≤ N ∧ N < 999999) (rv3 : inR v3) {r : ZZ} (k2 : ∀ (z' : ZZ), r = z' → okz z' → X mX6_setRoute 182 [some (.ref (151)), none, none, none, none] [] (zmk ln N z') c9 s9 Φ) : ∀ (n : Nat) (v4 : Int) (z : ZZ), inR v4 → okz z → zlp (fun q => fX6_setRoute_s156 v3 q.1 q.2) n (v4, z) = some r → X mX6_setRoute 156 [some (.ref (151)), none, none, some (.int (iN (v3))), some (.int (iN (v4)))] [] (zmk ln N z) c9 s9 Φ := by
  intro n
  induction n with
  | zero => intro v4 z rv4 hz h; cases h
  | succ n ih =>
    intro v4 z rv4 hz h
    rcases zlp_s h with ⟨⟨v4', z'⟩, e, h'⟩ | e
    · exact SX6_setRoute_156 hN hz rv3 rv4 e (fun v4₁ z₁ hh f0 f1 => by cases hh; exact ih _ _ f0 f1 h') (fun z₁ hh f0 => by cases hh)
    · exact SX6_setRoute_156 hN hz rv3 rv4 e (fun v4₁ z₁ hh f0 f1 => by cases hh) (fun z₁ hh f0 => by cases hh; exact k2 _ rfl f0)
def fX6_setRoute_b67 (v1 : Int) (v2 : Int) (s1 : Int) (z : ZZ) : Option (Int × ZZ) := (Option.bind (fX6_fails (s1) (3) z) fun q1 => match q1 with | (r1, z1) => (if (r1) = (0) then (Option.bind (fX6_record z1) fun z3 => (if (0 : Int) ≤ (((38 + (18 * (z3 154 (37)))) + 0)) ∧ (((38 + (18 * (z3 154 (37)))) + 0)) < (765 : Int) then (zl (zup z3 154 (((38 + (18 * (z3 154 (37)))) + 0)) (v1)) fun z5 => (if (0 : Int) ≤ (((38 + (18 * (z3 154 (37)))) + 1)) ∧ (((38 + (18 * (z3 154 (37)))) + 1)) < (765 : Int) then (zl (zup z5 154 (((38 + (18 * (z3 154 (37)))) + 1)) (v2)) fun z7 => (if (0 : Int) ≤ (((38 + (18 * (z3 154 (37)))) + 2)) ∧ (((38 + (18 * (z3 154 (37)))) + 2)) < (765 : Int) then (zl (zup z7 154 (((38 + (18 * (z3 154 (37)))) + 2)) ((z7 154 (3)))) fun z9 => (if (0 : Int) ≤ (((38 + (18 * (z3 154 (37)))) + 3)) ∧ (((38 + (18 * (z3 154 (37)))) + 3)) < (765 : Int) then (zl (zup z9 154 (((38 + (18 * (z3 154 (37)))) + 3)) (0)) fun z11 => (if (0 : Int) ≤ (((38 + (18 * (z3 154 (37)))) + 4)) ∧ (((38 + (18 * (z3 154 (37)))) + 4)) < (765 : Int) then (zl (zup z11 154 (((38 + (18 * (z3 154 (37)))) + 4)) (0)) fun z13 => (if (0 : Int) ≤ (((38 + (18 * (z3 154 (37)))) + 5)) ∧ (((38 + (18 * (z3 154 (37)))) + 5)) < (765 : Int) then (zl (zup z13 154 (((38 + (18 * (z3 154 (37)))) + 5)) (0)) fun z15 => (if inR ((38 + (18 * (z3 154 (37))))) then (Option.bind (zlp (fun q => fX6_setRoute_s156 ((38 + (18 * (z3 154 (37))))) q.1 q.2) FU (0, z15)) fun x17_z => (if inR (((x17_z 154 (37)) + 1)) then (zl (zup x17_z 154 (37) (((x17_z 154 (37)) + 1))) fun z19 => (if inR (((z19 154 (37)) - 1)) then some (((z19 154 (37)) - 1), z19) else none)) else none)) else none)) else none)) else none)) else none)) else none)) else none)) else none)) else some (0, z1)))
set_option maxRecDepth 100000 in
theorem BX6_setRoute_67 {ln N : Nat} {z : ZZ} {v1 : Int} {v2 : Int} {s1 : Int} {c9 s9 : Nat} {Φ : xRes → xS → Prop} (hN : 159 ≤ N ∧ N < 999999) (hz : okz z) (rv1 : inR v1) (rv2 : inR v2) (rs1 : inR s1) {p : Int × ZZ} (h : fX6_setRoute_b67 v1 v2 s1 z = some p) (k : Fin_wi Φ ln N p) : X mX6_setRoute 67 [some (.ref (151)), some (.int (iN (v1))), some (.int (iN (v2))), none, none] [.int (iN (s1)), .ref (151)] (zmk ln N z) c9 s9 Φ := by
  unfold fX6_setRoute_b67 at h
  refine X_iconst (pc' := 68) dX6_setRoute_67 rfl ?_
  obtain ⟨⟨r1, z1⟩, q1, h⟩ := bs h
  refine Y_callV [.int (iN (s1)), .int (iN (3))] (pc' := 71) dX6_setRoute_68 rfl VX6_62 (by decide) (zlN hN (by decide)) (congrArg Prod.fst (sh151 ln)) rfl rfl rfl (cs rfl) (cs rfl) rfl (CX6_fails hN hz rs1 (inR_c (n := 3) rfl) q1) (Nat.zero_add _).symm (Nat.zero_add _).symm (fun f1 => ?_)
  refine X_if_eq dX6_setRoute_71 (tgt := 76) rfl (pc' := 74) rfl (inR_b f1.1) (fun c2 => ?_) (fun c2 => ?_)
  · have h := if_t c2 h
    refine X_aload_n (pc' := 77) dX6_setRoute_76 rfl rfl ?_
    obtain ⟨z3, q3, h⟩ := bs h
    refine Y_callVv [] (pc' := 80) dX6_setRoute_77 rfl VX6_229 (by decide) (zlN hN (by decide)) (congrArg Prod.fst (sh151 ln)) rfl rfl rfl (cs rfl) (cs rfl) rfl (CX6_record hN f1.2 q3) (Nat.zero_add _).symm (Nat.zero_add _).symm (fun f3 => ?_)
    refine X_bipush (pc' := 82) dX6_setRoute_80 rfl (by decide) ?_
    refine X_bipush (pc' := 84) dX6_setRoute_82 rfl (by decide) ?_
    refine X_aload_n (pc' := 85) dX6_setRoute_84 rfl rfl ?_
    refine Y_get (pc' := 88) dX6_setRoute_85 rfl FX6_16 (zlN hN (by decide)) (congrArg Prod.fst (sh151 ln)) (ct151_9 z3) ?_
    refine X_bipush (pc' := 90) dX6_setRoute_88 rfl (by decide) ?_
    refine Y_iald (pc' := 91) dX6_setRoute_90 rfl (zlN hN (by decide)) (sh154 ln) (by decide) ⟨by decide, by decide⟩ ?_
    refine X_imul (pc' := 92) dX6_setRoute_91 rfl ?_
    refine X_iadd (pc' := 93) dX6_setRoute_92 rfl ?_
    refine X_istore_n (pc' := 94) dX6_setRoute_93 rfl (cl rfl) (Or.inr rfl) (L' := [some (.ref (151)), some (.int (iN (v1))), some (.int (iN (v2))), some (.int (iN ((38 + (18 * (z3 154 (37))))))), none]) rfl ?_
    refine X_aload_n (pc' := 95) dX6_setRoute_94 rfl rfl ?_
    refine Y_get (pc' := 98) dX6_setRoute_95 rfl FX6_16 (zlN hN (by decide)) (congrArg Prod.fst (sh151 ln)) (ct151_9 z3) ?_
    refine X_iload_n (pc' := 99) dX6_setRoute_98 rfl rfl ?_
    refine X_iconst (pc' := 100) dX6_setRoute_99 rfl ?_
    refine X_iadd (pc' := 101) dX6_setRoute_100 rfl ?_
    refine X_iload_n (pc' := 102) dX6_setRoute_101 rfl rfl ?_
    obtain ⟨g4, h⟩ := gs h
    refine Y_iast (pc' := 103) dX6_setRoute_102 rfl (zlN hN (by decide)) (sh154 ln) (by decide) g4 ?_
    obtain ⟨z5, e5, hz5, h⟩ := zl_some (P := okz) h (okz_up f3 rv1)
    rw [e5]
    refine X_aload_n (pc' := 104) dX6_setRoute_103 rfl rfl ?_
    refine Y_get (pc' := 107) dX6_setRoute_104 rfl FX6_16 (zlN hN (by decide)) (congrArg Prod.fst (sh151 ln)) (ct151_9 z5) ?_
    refine X_iload_n (pc' := 108) dX6_setRoute_107 rfl rfl ?_
    refine X_iconst (pc' := 109) dX6_setRoute_108 rfl ?_
    refine X_iadd (pc' := 110) dX6_setRoute_109 rfl ?_
    refine X_iload_n (pc' := 111) dX6_setRoute_110 rfl rfl ?_
    obtain ⟨g6, h⟩ := gs h
    refine Y_iast (pc' := 112) dX6_setRoute_111 rfl (zlN hN (by decide)) (sh154 ln) (by decide) g6 ?_
    obtain ⟨z7, e7, hz7, h⟩ := zl_some (P := okz) h (okz_up hz5 rv2)
    rw [e7]
    refine X_aload_n (pc' := 113) dX6_setRoute_112 rfl rfl ?_
    refine Y_get (pc' := 116) dX6_setRoute_113 rfl FX6_16 (zlN hN (by decide)) (congrArg Prod.fst (sh151 ln)) (ct151_9 z7) ?_
    refine X_iload_n (pc' := 117) dX6_setRoute_116 rfl rfl ?_
    refine X_iconst (pc' := 118) dX6_setRoute_117 rfl ?_
    refine X_iadd (pc' := 119) dX6_setRoute_118 rfl ?_
    refine X_aload_n (pc' := 120) dX6_setRoute_119 rfl rfl ?_
    refine Y_get (pc' := 123) dX6_setRoute_120 rfl FX6_16 (zlN hN (by decide)) (congrArg Prod.fst (sh151 ln)) (ct151_9 z7) ?_
    refine X_iconst (pc' := 124) dX6_setRoute_123 rfl ?_
    refine Y_iald (pc' := 125) dX6_setRoute_124 rfl (zlN hN (by decide)) (sh154 ln) (by decide) ⟨by decide, by decide⟩ ?_
    obtain ⟨g8, h⟩ := gs h
    refine Y_iast (pc' := 126) dX6_setRoute_125 rfl (zlN hN (by decide)) (sh154 ln) (by decide) g8 ?_
    obtain ⟨z9, e9, hz9, h⟩ := zl_some (P := okz) h (okz_up hz7 (hz7 154 (3) (by decide)))
    rw [e9]
    refine X_aload_n (pc' := 127) dX6_setRoute_126 rfl rfl ?_
    refine Y_get (pc' := 130) dX6_setRoute_127 rfl FX6_16 (zlN hN (by decide)) (congrArg Prod.fst (sh151 ln)) (ct151_9 z9) ?_
    refine X_iload_n (pc' := 131) dX6_setRoute_130 rfl rfl ?_
    refine X_iconst (pc' := 132) dX6_setRoute_131 rfl ?_
    refine X_iadd (pc' := 133) dX6_setRoute_132 rfl ?_
    refine X_iconst (pc' := 134) dX6_setRoute_133 rfl ?_
    obtain ⟨g10, h⟩ := gs h
    refine Y_iast (pc' := 135) dX6_setRoute_134 rfl (zlN hN (by decide)) (sh154 ln) (by decide) g10 ?_
    obtain ⟨z11, e11, hz11, h⟩ := zl_some (P := okz) h (okz_up hz9 (inR_c (n := 0) rfl))
    rw [e11]
    refine X_aload_n (pc' := 136) dX6_setRoute_135 rfl rfl ?_
    refine Y_get (pc' := 139) dX6_setRoute_136 rfl FX6_16 (zlN hN (by decide)) (congrArg Prod.fst (sh151 ln)) (ct151_9 z11) ?_
    refine X_iload_n (pc' := 140) dX6_setRoute_139 rfl rfl ?_
    refine X_iconst (pc' := 141) dX6_setRoute_140 rfl ?_
    refine X_iadd (pc' := 142) dX6_setRoute_141 rfl ?_
    refine X_iconst (pc' := 143) dX6_setRoute_142 rfl ?_
    obtain ⟨g12, h⟩ := gs h
    refine Y_iast (pc' := 144) dX6_setRoute_143 rfl (zlN hN (by decide)) (sh154 ln) (by decide) g12 ?_
    obtain ⟨z13, e13, hz13, h⟩ := zl_some (P := okz) h (okz_up hz11 (inR_c (n := 0) rfl))
    rw [e13]
    refine X_aload_n (pc' := 145) dX6_setRoute_144 rfl rfl ?_
    refine Y_get (pc' := 148) dX6_setRoute_145 rfl FX6_16 (zlN hN (by decide)) (congrArg Prod.fst (sh151 ln)) (ct151_9 z13) ?_
    refine X_iload_n (pc' := 149) dX6_setRoute_148 rfl rfl ?_
    refine X_iconst (pc' := 150) dX6_setRoute_149 rfl ?_
    refine X_iadd (pc' := 151) dX6_setRoute_150 rfl ?_
    refine X_iconst (pc' := 152) dX6_setRoute_151 rfl ?_
    obtain ⟨g14, h⟩ := gs h
    refine Y_iast (pc' := 153) dX6_setRoute_152 rfl (zlN hN (by decide)) (sh154 ln) (by decide) g14 ?_
    obtain ⟨z15, e15, hz15, h⟩ := zl_some (P := okz) h (okz_up hz13 (inR_c (n := 0) rfl))
    rw [e15]
    refine X_iconst (pc' := 154) dX6_setRoute_153 rfl ?_
    refine X_istore (pc' := 156) dX6_setRoute_154 rfl (cl rfl) (Or.inr rfl) (L' := [some (.ref (151)), some (.int (iN (v1))), some (.int (iN (v2))), some (.int (iN ((38 + (18 * (z3 154 (37))))))), some (.int (iN (0)))]) rfl ?_
    obtain ⟨g16, h⟩ := gs h
    obtain ⟨x17_z, q17, h⟩ := bs h
    refine X_sub (sub_s (sub_n (sub_n (sub_s (sub_s sub_0))))) (LX6_setRoute_156 hN g16 (fun x17_z₁ hh hx17_z => ?_) FU _ _ (inR_c (n := 0) rfl) hz15 q17)
    cases hh
    refine X_aload_n (pc' := 183) dX6_setRoute_182 rfl rfl ?_
    refine Y_get (pc' := 186) dX6_setRoute_183 rfl FX6_16 (zlN hN (by decide)) (congrArg Prod.fst (sh151 ln)) (ct151_9 x17_z) ?_
    refine X_bipush (pc' := 188) dX6_setRoute_186 rfl (by decide) ?_
    refine X_dup2 (pc' := 189) dX6_setRoute_188 rfl rfl rfl ?_
    refine Y_iald (pc' := 190) dX6_setRoute_189 rfl (zlN hN (by decide)) (sh154 ln) (by decide) ⟨by decide, by decide⟩ ?_
    refine X_iconst (pc' := 191) dX6_setRoute_190 rfl ?_
    refine X_iadd (pc' := 192) dX6_setRoute_191 rfl ?_
    obtain ⟨g18, h⟩ := gs h
    refine Y_iast (pc' := 193) dX6_setRoute_192 rfl (zlN hN (by decide)) (sh154 ln) (by decide) ⟨by decide, by decide⟩ ?_
    obtain ⟨z19, e19, hz19, h⟩ := zl_some (P := okz) h (okz_up hx17_z g18)
    rw [e19]
    refine X_aload_n (pc' := 194) dX6_setRoute_193 rfl rfl ?_
    refine Y_get (pc' := 197) dX6_setRoute_194 rfl FX6_16 (zlN hN (by decide)) (congrArg Prod.fst (sh151 ln)) (ct151_9 z19) ?_
    refine X_bipush (pc' := 199) dX6_setRoute_197 rfl (by decide) ?_
    refine Y_iald (pc' := 200) dX6_setRoute_199 rfl (zlN hN (by decide)) (sh154 ln) (by decide) ⟨by decide, by decide⟩ ?_
    refine X_iconst (pc' := 201) dX6_setRoute_200 rfl ?_
    refine X_isub (pc' := 202) dX6_setRoute_201 rfl ?_
    obtain ⟨g20, h⟩ := gs h
    cases h
    exact X_iret dX6_setRoute_202 rfl (k ⟨g20, hz19⟩)
  have h := if_f c2 h
  refine X_iconst (pc' := 75) dX6_setRoute_74 rfl ?_
  cases h
  exact X_iret dX6_setRoute_75 rfl (k ⟨(inR_c (n := 0) rfl), f1.2⟩)
def fX6_setRoute_b66 (v1 : Int) (v2 : Int) (z : ZZ) : Option (Int × ZZ) := fX6_setRoute_b67 (v1) (v2) (0) z
set_option maxRecDepth 100000 in
theorem BX6_setRoute_66 {ln N : Nat} {z : ZZ} {v1 : Int} {v2 : Int} {c9 s9 : Nat} {Φ : xRes → xS → Prop} (hN : 159 ≤ N ∧ N < 999999) (hz : okz z) (rv1 : inR v1) (rv2 : inR v2) {p : Int × ZZ} (h : fX6_setRoute_b66 v1 v2 z = some p) (k : Fin_wi Φ ln N p) : X mX6_setRoute 66 [some (.ref (151)), some (.int (iN (v1))), some (.int (iN (v2))), none, none] [.ref (151)] (zmk ln N z) c9 s9 Φ := by
  unfold fX6_setRoute_b66 at h
  refine X_iconst (pc' := 67) dX6_setRoute_66 rfl ?_
  exact X_sub (sub_s (sub_s (sub_s (sub_n (sub_n sub_0))))) (BX6_setRoute_67 hN hz rv1 rv2 (inR_c (n := 0) rfl) h k)
def fX6_setRoute (v1 : Int) (v2 : Int) (z : ZZ) : Option (Int × ZZ) := (zl (zup z 151 0 (0)) fun z1 => (Option.bind (fX6_isWall (v1) z1) fun r2 => (Option.bind (fX6_fails (r2) (1) z1) fun q3 => match q3 with | (r3, z3) => (if (r3) = (0) then (Option.bind (fX6_isGrade (v2) z3) fun r5 => (Option.bind (fX6_fails (r5) (2) z3) fun q6 => match q6 with | (r6, z6) => (if (r6) = (0) then (Option.bind (fX6_isClosed (v1) z6) fun r8 => (if (r8) = (0) then (Option.bind (fX6_onWall (v1) z6) fun r10 => (if (r10) < (5) then (if ((z6 154 (37))) < (24) then fX6_setRoute_b67 (v1) (v2) (1) z6 else fX6_setRoute_b66 (v1) (v2) z6) else fX6_setRoute_b66 (v1) (v2) z6)) else fX6_setRoute_b66 (v1) (v2) z6)) else some (0, z6)))) else some (0, z3)))))
set_option maxRecDepth 100000 in
theorem CX6_setRoute {ln N : Nat} {z : ZZ} {v1 : Int} {v2 : Int} (hN : 159 ≤ N ∧ N < 999999) (hz : okz z) (rv1 : inR v1) (rv2 : inR v2) {p : Int × ZZ} (h : fX6_setRoute v1 v2 z = some p) : X mX6_setRoute 0 (xEnt [.ref (151), .int (iN (v1)), .int (iN (v2))] (xL mX6_setRoute)) [] (zmk ln N z) (cc_wi p) (6 * cc_wi p) (Qd (fa_wi p) (rs_wi p) (st_wi ln N p)) := by
  have k : Fin_wi (Qd (fa_wi p) (rs_wi p) (st_wi ln N p)) ln N p := Fin_wi_i
  unfold fX6_setRoute at h
  refine X_to (M := [some (.ref (151)), some (.int (iN (v1))), some (.int (iN (v2))), none, none]) (su := []) rfl rfl ?_
  refine X_aload_n (pc' := 1) dX6_setRoute_0 rfl rfl ?_
  refine X_iconst (pc' := 2) dX6_setRoute_1 rfl ?_
  refine Y_put (k := 0) (j := 0) (v := 0) (pc' := 5) dX6_setRoute_2 rfl FX6_51 (zlN hN (by decide)) (congrArg Prod.fst (sh151 ln)) (fun r hr => by cases hr; rfl) (xFit_int _) rfl rfl ?_
  obtain ⟨z1, e1, hz1, h⟩ := zl_some (P := okz) h (okz_up hz (inR_c (n := 0) rfl))
  rw [e1]
  refine X_aload_n (pc' := 6) dX6_setRoute_5 rfl rfl ?_
  refine X_aload_n (pc' := 7) dX6_setRoute_6 rfl rfl ?_
  refine X_iload_n (pc' := 8) dX6_setRoute_7 rfl rfl ?_
  obtain ⟨r2, q2, h⟩ := bs h
  refine Y_callV [.int (iN (v1))] (pc' := 11) dX6_setRoute_8 rfl VX6_220 (by decide) (zlN hN (by decide)) (congrArg Prod.fst (sh151 ln)) rfl rfl rfl (cs rfl) (cs rfl) rfl (CX6_isWall hN hz1 rv1 q2) (Nat.zero_add _).symm (Nat.zero_add _).symm (fun f2 => ?_)
  refine X_iconst (pc' := 12) dX6_setRoute_11 rfl ?_
  obtain ⟨⟨r3, z3⟩, q3, h⟩ := bs h
  refine Y_callV [.int (iN (r2)), .int (iN (1))] (pc' := 15) dX6_setRoute_12 rfl VX6_62 (by decide) (zlN hN (by decide)) (congrArg Prod.fst (sh151 ln)) rfl rfl rfl (cs rfl) (cs rfl) rfl (CX6_fails hN hz1 (inR_b f2) (inR_c (n := 1) rfl) q3) (Nat.zero_add _).symm (Nat.zero_add _).symm (fun f3 => ?_)
  refine X_if_ne dX6_setRoute_15 (tgt := 30) rfl (pc' := 18) rfl (inR_b f3.1) (fun c4 => ?_) (fun c4 => ?_)
  · have h := if_f c4 h
    refine X_iconst (pc' := 31) dX6_setRoute_30 rfl ?_
    cases h
    exact X_iret dX6_setRoute_31 rfl (k ⟨(inR_c (n := 0) rfl), f3.2⟩)
  have h := if_t c4 h
  refine X_aload_n (pc' := 19) dX6_setRoute_18 rfl rfl ?_
  refine X_iload_n (pc' := 20) dX6_setRoute_19 rfl rfl ?_
  obtain ⟨r5, q5, h⟩ := bs h
  refine Y_callS [.int (iN (v2))] (pc' := 23) dX6_setRoute_20 rfl SX6_223 (by decide) rfl (cs rfl) (cs rfl) rfl (CX6_isGrade hN f3.2 rv2 q5) (Nat.zero_add _).symm (Nat.zero_add _).symm (fun f5 => ?_)
  refine X_iconst (pc' := 24) dX6_setRoute_23 rfl ?_
  obtain ⟨⟨r6, z6⟩, q6, h⟩ := bs h
  refine Y_callV [.int (iN (r5)), .int (iN (2))] (pc' := 27) dX6_setRoute_24 rfl VX6_62 (by decide) (zlN hN (by decide)) (congrArg Prod.fst (sh151 ln)) rfl rfl rfl (cs rfl) (cs rfl) rfl (CX6_fails hN f3.2 (inR_b f5) (inR_c (n := 2) rfl) q6) (Nat.zero_add _).symm (Nat.zero_add _).symm (fun f6 => ?_)
  refine X_if_eq dX6_setRoute_27 (tgt := 32) rfl (pc' := 30) rfl (inR_b f6.1) (fun c7 => ?_) (fun c7 => ?_)
  · have h := if_t c7 h
    refine X_aload_n (pc' := 33) dX6_setRoute_32 rfl rfl ?_
    refine X_aload_n (pc' := 34) dX6_setRoute_33 rfl rfl ?_
    refine X_iload_n (pc' := 35) dX6_setRoute_34 rfl rfl ?_
    obtain ⟨r8, q8, h⟩ := bs h
    refine Y_callV [.int (iN (v1))] (pc' := 38) dX6_setRoute_35 rfl VX6_214 (by decide) (zlN hN (by decide)) (congrArg Prod.fst (sh151 ln)) rfl rfl rfl (cs rfl) (cs rfl) rfl (CX6_isClosed hN f6.2 rv1 q8) (Nat.zero_add _).symm (Nat.zero_add _).symm (fun f8 => ?_)
    refine X_if_ne dX6_setRoute_38 (tgt := 66) rfl (pc' := 41) rfl (inR_b f8) (fun c9 => ?_) (fun c9 => ?_)
    · have h := if_f c9 h
      exact X_sub (sub_s (sub_s (sub_s (sub_n (sub_n sub_0))))) (BX6_setRoute_66 hN f6.2 rv1 rv2 h k)
    have h := if_t c9 h
    refine X_aload_n (pc' := 42) dX6_setRoute_41 rfl rfl ?_
    refine X_iload_n (pc' := 43) dX6_setRoute_42 rfl rfl ?_
    obtain ⟨r10, q10, h⟩ := bs h
    refine Y_callV [.int (iN (v1))] (pc' := 46) dX6_setRoute_43 rfl VX6_226 (by decide) (zlN hN (by decide)) (congrArg Prod.fst (sh151 ln)) rfl rfl rfl (cs rfl) (cs rfl) rfl (CX6_onWall hN f6.2 rv1 q10) (Nat.zero_add _).symm (Nat.zero_add _).symm (fun f10 => ?_)
    refine X_iconst (pc' := 47) dX6_setRoute_46 rfl ?_
    refine X_icmp_ge dX6_setRoute_47 (tgt := 66) rfl (pc' := 50) rfl ⟨f10.1, f10.2, (inR_c (n := 5) rfl).1, (inR_c (n := 5) rfl).2⟩ (fun c11 => ?_) (fun c11 => ?_)
    · have h := if_f (Int.not_lt.mpr c11) h
      exact X_sub (sub_s (sub_s (sub_s (sub_n (sub_n sub_0))))) (BX6_setRoute_66 hN f6.2 rv1 rv2 h k)
    have h := if_t c11 h
    refine X_aload_n (pc' := 51) dX6_setRoute_50 rfl rfl ?_
    refine Y_get (pc' := 54) dX6_setRoute_51 rfl FX6_16 (zlN hN (by decide)) (congrArg Prod.fst (sh151 ln)) (ct151_9 z6) ?_
    refine X_bipush (pc' := 56) dX6_setRoute_54 rfl (by decide) ?_
    refine Y_iald (pc' := 57) dX6_setRoute_56 rfl (zlN hN (by decide)) (sh154 ln) (by decide) ⟨by decide, by decide⟩ ?_
    refine X_bipush (pc' := 59) dX6_setRoute_57 rfl (by decide) ?_
    refine X_icmp_ge dX6_setRoute_59 (tgt := 66) rfl (pc' := 62) rfl ⟨(f6.2 154 (37) (by decide)).1, (f6.2 154 (37) (by decide)).2, (inR_c (n := 24) rfl).1, (inR_c (n := 24) rfl).2⟩ (fun c12 => ?_) (fun c12 => ?_)
    · have h := if_f (Int.not_lt.mpr c12) h
      exact X_sub (sub_s (sub_s (sub_s (sub_n (sub_n sub_0))))) (BX6_setRoute_66 hN f6.2 rv1 rv2 h k)
    have h := if_t c12 h
    refine X_iconst (pc' := 63) dX6_setRoute_62 rfl ?_
    refine X_goto dX6_setRoute_63 (tgt := 67) rfl ?_
    exact X_sub (sub_s (sub_s (sub_s (sub_n (sub_n sub_0))))) (BX6_setRoute_67 hN f6.2 rv1 rv2 (inR_c (n := 1) rfl) h k)
  have h := if_f c7 h
  refine X_iconst (pc' := 31) dX6_setRoute_30 rfl ?_
  cases h
  exact X_iret dX6_setRoute_31 rfl (k ⟨(inR_c (n := 0) rfl), f6.2⟩)
def fX6_shiftFor_s22 (v1 : Int) (v2 : Int) (z : ZZ) : Option ((Int) ⊕ (Int)) := (if (14) < (v2) then some (.inr v2) else (Option.bind (fX6_wallPart (v1) (3) z) fun r2 => (if inR ((r2 + v2)) then (Option.bind (fX6_isAlone (v1) ((r2 + v2)) z) fun r4 => (if (r4) = (0) then (if inR ((v2 + 1)) then some (.inl (v2 + 1)) else none) else some (.inr v2))) else none)))
set_option maxRecDepth 100000 in
theorem SX6_shiftFor_22 {ln N : Nat} {z : ZZ} {v1 : Int} {v2 : Int} {c9 s9 : Nat} {Φ : xRes → xS → Prop} (hN : 159 ≤ N ∧ N < 999999) (hz : okz z) (rv1 : inR v1) (rv2 : inR v2) {p : (Int) ⊕ (Int)} (h : fX6_shiftFor_s22 v1 v2 z = some p) (k1 : ∀ (v2' : Int), p = .inl v2' → inR v2' → X mX6_shiftFor 22 [some (.ref (151)), some (.int (iN (v1))), some (.int (iN (v2')))] [] (zmk ln N z) c9 s9 Φ) (k2 : ∀ (v2' : Int), p = .inr v2' → inR v2' → X mX6_shiftFor 50 [some (.ref (151)), none, some (.int (iN (v2')))] [] (zmk ln N z) c9 s9 Φ) : X mX6_shiftFor 22 [some (.ref (151)), some (.int (iN (v1))), some (.int (iN (v2)))] [] (zmk ln N z) c9 s9 Φ := by
  unfold fX6_shiftFor_s22 at h
  refine X_iload_n (pc' := 23) dX6_shiftFor_22 rfl rfl ?_
  refine X_bipush (pc' := 25) dX6_shiftFor_23 rfl (by decide) ?_
  refine X_icmp_gt dX6_shiftFor_25 (tgt := 50) rfl (pc' := 28) rfl ⟨rv2.1, rv2.2, (inR_c (n := 14) rfl).1, (inR_c (n := 14) rfl).2⟩ (fun c1 => ?_) (fun c1 => ?_)
  · have h := if_t c1 h
    cases h
    exact X_sub (sub_s (sub_n (sub_s sub_0))) (k2 _ rfl rv2)
  have h := if_f (Int.not_lt.mpr c1) h
  refine X_aload_n (pc' := 29) dX6_shiftFor_28 rfl rfl ?_
  refine X_iload_n (pc' := 30) dX6_shiftFor_29 rfl rfl ?_
  refine X_aload_n (pc' := 31) dX6_shiftFor_30 rfl rfl ?_
  refine X_iload_n (pc' := 32) dX6_shiftFor_31 rfl rfl ?_
  refine X_iconst (pc' := 33) dX6_shiftFor_32 rfl ?_
  obtain ⟨r2, q2, h⟩ := bs h
  refine Y_callV [.int (iN (v1)), .int (iN (3))] (pc' := 36) dX6_shiftFor_33 rfl VX6_195 (by decide) (zlN hN (by decide)) (congrArg Prod.fst (sh151 ln)) rfl rfl rfl (cs rfl) (cs rfl) rfl (CX6_wallPart hN hz rv1 (inR_c (n := 3) rfl) q2) (Nat.zero_add _).symm (Nat.zero_add _).symm (fun f2 => ?_)
  refine X_iload_n (pc' := 37) dX6_shiftFor_36 rfl rfl ?_
  refine X_iadd (pc' := 38) dX6_shiftFor_37 rfl ?_
  obtain ⟨g3, h⟩ := gs h
  obtain ⟨r4, q4, h⟩ := bs h
  refine Y_callV [.int (iN (v1)), .int (iN ((r2 + v2)))] (pc' := 41) dX6_shiftFor_38 rfl VX6_330 (by decide) (zlN hN (by decide)) (congrArg Prod.fst (sh151 ln)) rfl rfl rfl (cs rfl) (cs rfl) rfl (CX6_isAlone hN hz rv1 g3 q4) (Nat.zero_add _).symm (Nat.zero_add _).symm (fun f4 => ?_)
  refine X_if_ne dX6_shiftFor_41 (tgt := 50) rfl (pc' := 44) rfl (inR_b f4) (fun c5 => ?_) (fun c5 => ?_)
  · have h := if_f c5 h
    cases h
    exact X_sub (sub_s (sub_n (sub_s sub_0))) (k2 _ rfl rv2)
  have h := if_t c5 h
  refine X_iinc (pc' := 47) dX6_shiftFor_44 rfl rfl (Or.inr rfl) (L' := [some (.ref (151)), some (.int (iN (v1))), some (.int (iN (v2 + 1)))]) rfl ?_
  refine X_goto dX6_shiftFor_47 (tgt := 22) rfl ?_
  obtain ⟨g6, h⟩ := gs h
  cases h
  exact X_sub (sub_s (sub_s (sub_s sub_0))) (k1 _ rfl g6)
theorem LX6_shiftFor_22 {ln N : Nat} {z : ZZ} {v1 : Int} {c9 s9 : Nat} {Φ : xRes → xS → Prop} (hN : 159 ≤ N ∧ N < 999999) (hz : okz z) (rv1 : inR v1) {r : Int} (k2 : ∀ (v2' : Int), r = v2' → inR v2' → X mX6_shiftFor 50 [some (.ref (151)), none, some (.int (iN (v2')))] [] (zmk ln N z) c9 s9 Φ) : ∀ (n : Nat) (v2 : Int), inR v2 → zlp (fun q => fX6_shiftFor_s22 v1 q z) n v2 = some r → X mX6_shiftFor 22 [some (.ref (151)), some (.int (iN (v1))), some (.int (iN (v2)))] [] (zmk ln N z) c9 s9 Φ := by
  intro n
  induction n with
  | zero => intro v2 rv2 h; cases h
  | succ n ih =>
    intro v2 rv2 h
    rcases zlp_s h with ⟨v2', e, h'⟩ | e
    · exact SX6_shiftFor_22 hN hz rv1 rv2 e (fun v2₁ hh f0 => by cases hh; exact ih _ f0 h') (fun v2₁ hh f0 => by cases hh)
    · exact SX6_shiftFor_22 hN hz rv1 rv2 e (fun v2₁ hh f0 => by cases hh) (fun v2₁ hh f0 => by cases hh; exact k2 _ rfl f0)
def fX6_shiftFor_b62 (v2 : Int) (s1 : Int) (z : ZZ) : Option (Int × ZZ) := (Option.bind (fX6_fails (s1) (2) z) fun q1 => match q1 with | (r1, z1) => (if (r1) = (0) then some (v2, z1) else some (0, z1)))
set_option maxRecDepth 100000 in
theorem BX6_shiftFor_62 {ln N : Nat} {z : ZZ} {v2 : Int} {s1 : Int} {c9 s9 : Nat} {Φ : xRes → xS → Prop} (hN : 159 ≤ N ∧ N < 999999) (hz : okz z) (rv2 : inR v2) (rs1 : inR s1) {p : Int × ZZ} (h : fX6_shiftFor_b62 v2 s1 z = some p) (k : Fin_wi Φ ln N p) : X mX6_shiftFor 62 [none, none, some (.int (iN (v2)))] [.int (iN (s1)), .ref (151)] (zmk ln N z) c9 s9 Φ := by
  unfold fX6_shiftFor_b62 at h
  refine X_iconst (pc' := 63) dX6_shiftFor_62 rfl ?_
  obtain ⟨⟨r1, z1⟩, q1, h⟩ := bs h
  refine Y_callV [.int (iN (s1)), .int (iN (2))] (pc' := 66) dX6_shiftFor_63 rfl VX6_62 (by decide) (zlN hN (by decide)) (congrArg Prod.fst (sh151 ln)) rfl rfl rfl (cs rfl) (cs rfl) rfl (CX6_fails hN hz rs1 (inR_c (n := 2) rfl) q1) (Nat.zero_add _).symm (Nat.zero_add _).symm (fun f1 => ?_)
  refine X_if_eq dX6_shiftFor_66 (tgt := 73) rfl (pc' := 69) rfl (inR_b f1.1) (fun c2 => ?_) (fun c2 => ?_)
  · have h := if_t c2 h
    refine X_iload_n (pc' := 74) dX6_shiftFor_73 rfl rfl ?_
    cases h
    exact X_iret dX6_shiftFor_74 rfl (k ⟨rv2, f1.2⟩)
  have h := if_f c2 h
  refine X_iconst (pc' := 70) dX6_shiftFor_69 rfl ?_
  refine X_goto dX6_shiftFor_70 (tgt := 74) rfl ?_
  cases h
  exact X_iret dX6_shiftFor_74 rfl (k ⟨(inR_c (n := 0) rfl), f1.2⟩)
def fX6_shiftFor (v1 : Int) (z : ZZ) : Option (Int × ZZ) := (zl (zup z 151 0 (0)) fun z1 => (Option.bind (fX6_isWall (v1) z1) fun r2 => (Option.bind (fX6_fails (r2) (1) z1) fun q3 => match q3 with | (r3, z3) => (if (r3) = (0) then (Option.bind (zlp (fun q => fX6_shiftFor_s22 (v1) q z3) FU 0) fun x5_v2 => (if (14) < (x5_v2) then fX6_shiftFor_b62 (x5_v2) (0) z3 else fX6_shiftFor_b62 (x5_v2) (1) z3)) else some (0, z3)))))
set_option maxRecDepth 100000 in
theorem CX6_shiftFor {ln N : Nat} {z : ZZ} {v1 : Int} (hN : 159 ≤ N ∧ N < 999999) (hz : okz z) (rv1 : inR v1) {p : Int × ZZ} (h : fX6_shiftFor v1 z = some p) : X mX6_shiftFor 0 (xEnt [.ref (151), .int (iN (v1))] (xL mX6_shiftFor)) [] (zmk ln N z) (cc_wi p) (6 * cc_wi p) (Qd (fa_wi p) (rs_wi p) (st_wi ln N p)) := by
  have k : Fin_wi (Qd (fa_wi p) (rs_wi p) (st_wi ln N p)) ln N p := Fin_wi_i
  unfold fX6_shiftFor at h
  refine X_to (M := [some (.ref (151)), some (.int (iN (v1))), none]) (su := []) rfl rfl ?_
  refine X_aload_n (pc' := 1) dX6_shiftFor_0 rfl rfl ?_
  refine X_iconst (pc' := 2) dX6_shiftFor_1 rfl ?_
  refine Y_put (k := 0) (j := 0) (v := 0) (pc' := 5) dX6_shiftFor_2 rfl FX6_51 (zlN hN (by decide)) (congrArg Prod.fst (sh151 ln)) (fun r hr => by cases hr; rfl) (xFit_int _) rfl rfl ?_
  obtain ⟨z1, e1, hz1, h⟩ := zl_some (P := okz) h (okz_up hz (inR_c (n := 0) rfl))
  rw [e1]
  refine X_aload_n (pc' := 6) dX6_shiftFor_5 rfl rfl ?_
  refine X_aload_n (pc' := 7) dX6_shiftFor_6 rfl rfl ?_
  refine X_iload_n (pc' := 8) dX6_shiftFor_7 rfl rfl ?_
  obtain ⟨r2, q2, h⟩ := bs h
  refine Y_callV [.int (iN (v1))] (pc' := 11) dX6_shiftFor_8 rfl VX6_220 (by decide) (zlN hN (by decide)) (congrArg Prod.fst (sh151 ln)) rfl rfl rfl (cs rfl) (cs rfl) rfl (CX6_isWall hN hz1 rv1 q2) (Nat.zero_add _).symm (Nat.zero_add _).symm (fun f2 => ?_)
  refine X_iconst (pc' := 12) dX6_shiftFor_11 rfl ?_
  obtain ⟨⟨r3, z3⟩, q3, h⟩ := bs h
  refine Y_callV [.int (iN (r2)), .int (iN (1))] (pc' := 15) dX6_shiftFor_12 rfl VX6_62 (by decide) (zlN hN (by decide)) (congrArg Prod.fst (sh151 ln)) rfl rfl rfl (cs rfl) (cs rfl) rfl (CX6_fails hN hz1 (inR_b f2) (inR_c (n := 1) rfl) q3) (Nat.zero_add _).symm (Nat.zero_add _).symm (fun f3 => ?_)
  refine X_if_eq dX6_shiftFor_15 (tgt := 20) rfl (pc' := 18) rfl (inR_b f3.1) (fun c4 => ?_) (fun c4 => ?_)
  · have h := if_t c4 h
    refine X_iconst (pc' := 21) dX6_shiftFor_20 rfl ?_
    refine X_istore_n (pc' := 22) dX6_shiftFor_21 rfl (cl rfl) (Or.inr rfl) (L' := [some (.ref (151)), some (.int (iN (v1))), some (.int (iN (0)))]) rfl ?_
    obtain ⟨x5_v2, q5, h⟩ := bs h
    refine X_sub (sub_s (sub_s (sub_s sub_0))) (LX6_shiftFor_22 hN f3.2 rv1 (fun x5_v2₁ hh rx5_v2 => ?_) FU _ (inR_c (n := 0) rfl) q5)
    cases hh
    refine X_aload_n (pc' := 51) dX6_shiftFor_50 rfl rfl ?_
    refine X_iload_n (pc' := 52) dX6_shiftFor_51 rfl rfl ?_
    refine X_bipush (pc' := 54) dX6_shiftFor_52 rfl (by decide) ?_
    refine X_icmp_gt dX6_shiftFor_54 (tgt := 61) rfl (pc' := 57) rfl ⟨rx5_v2.1, rx5_v2.2, (inR_c (n := 14) rfl).1, (inR_c (n := 14) rfl).2⟩ (fun c6 => ?_) (fun c6 => ?_)
    · have h := if_t c6 h
      refine X_iconst (pc' := 62) dX6_shiftFor_61 rfl ?_
      exact X_sub (sub_n (sub_n (sub_s sub_0))) (BX6_shiftFor_62 hN f3.2 rx5_v2 (inR_c (n := 0) rfl) h k)
    have h := if_f (Int.not_lt.mpr c6) h
    refine X_iconst (pc' := 58) dX6_shiftFor_57 rfl ?_
    refine X_goto dX6_shiftFor_58 (tgt := 62) rfl ?_
    exact X_sub (sub_n (sub_n (sub_s sub_0))) (BX6_shiftFor_62 hN f3.2 rx5_v2 (inR_c (n := 1) rfl) h k)
  have h := if_f c4 h
  refine X_iconst (pc' := 19) dX6_shiftFor_18 rfl ?_
  cases h
  exact X_iret dX6_shiftFor_19 rfl (k ⟨(inR_c (n := 0) rfl), f3.2⟩)
def fX6_thrown (z : ZZ) : Option (Int) := some ((z 151 0))
set_option maxRecDepth 100000 in
theorem CX6_thrown {ln N : Nat} {z : ZZ} (hN : 159 ≤ N ∧ N < 999999) (hz : okz z) {p : Int} (h : fX6_thrown z = some p) : X mX6_thrown 0 (xEnt [.ref (151)] (xL mX6_thrown)) [] (zmk ln N z) (cc_r p) (6 * cc_r p) (Qd (fa_r p) (rs_r p) (st_r ln N z p)) := by
  have k : Fin_r (Qd (fa_r p) (rs_r p) (st_r ln N z p)) ln N z p := Fin_r_i
  unfold fX6_thrown at h
  refine X_to (M := [some (.ref (151))]) (su := []) rfl rfl ?_
  refine X_aload_n (pc' := 1) dX6_thrown_0 rfl rfl ?_
  refine Y_get (pc' := 4) dX6_thrown_1 rfl FX6_51 (zlN hN (by decide)) (congrArg Prod.fst (sh151 ln)) (ct151_0 z) ?_
  cases h
  exact X_iret dX6_thrown_4 rfl (k (hz 151 0 (by decide)))
def fX6_truncate (v1 : Int) (z : ZZ) : Option (Int × ZZ) := (zl (zup z 151 0 (0)) fun z1 => (Option.bind (fX6_in (v1) (0) ((z1 151 2)) z1) fun r2 => (Option.bind (fX6_fails (r2) (1) z1) fun q3 => match q3 with | (r3, z3) => (if (r3) = (0) then (zl (zup z3 151 2 (v1)) fun z5 => some (v1, z5)) else some (0, z3)))))
set_option maxRecDepth 100000 in
theorem CX6_truncate {ln N : Nat} {z : ZZ} {v1 : Int} (hN : 159 ≤ N ∧ N < 999999) (hz : okz z) (rv1 : inR v1) {p : Int × ZZ} (h : fX6_truncate v1 z = some p) : X mX6_truncate 0 (xEnt [.ref (151), .int (iN (v1))] (xL mX6_truncate)) [] (zmk ln N z) (cc_wi p) (6 * cc_wi p) (Qd (fa_wi p) (rs_wi p) (st_wi ln N p)) := by
  have k : Fin_wi (Qd (fa_wi p) (rs_wi p) (st_wi ln N p)) ln N p := Fin_wi_i
  unfold fX6_truncate at h
  refine X_to (M := [some (.ref (151)), some (.int (iN (v1)))]) (su := []) rfl rfl ?_
  refine X_aload_n (pc' := 1) dX6_truncate_0 rfl rfl ?_
  refine X_iconst (pc' := 2) dX6_truncate_1 rfl ?_
  refine Y_put (k := 0) (j := 0) (v := 0) (pc' := 5) dX6_truncate_2 rfl FX6_51 (zlN hN (by decide)) (congrArg Prod.fst (sh151 ln)) (fun r hr => by cases hr; rfl) (xFit_int _) rfl rfl ?_
  obtain ⟨z1, e1, hz1, h⟩ := zl_some (P := okz) h (okz_up hz (inR_c (n := 0) rfl))
  rw [e1]
  refine X_aload_n (pc' := 6) dX6_truncate_5 rfl rfl ?_
  refine X_iload_n (pc' := 7) dX6_truncate_6 rfl rfl ?_
  refine X_lI_i2l (pc' := 8) dX6_truncate_7 rfl rv1 ?_
  refine X_lI_const (pc' := 9) dX6_truncate_8 rfl (a := 0) rfl ?_
  refine X_aload_n (pc' := 10) dX6_truncate_9 rfl rfl ?_
  refine Y_get (pc' := 13) dX6_truncate_10 rfl FX6_59 (zlN hN (by decide)) (congrArg Prod.fst (sh151 ln)) (ct151_2 z1) ?_
  refine X_lI_i2l (pc' := 14) dX6_truncate_13 rfl (hz1 151 2 (by decide)) ?_
  obtain ⟨r2, q2, h⟩ := bs h
  refine Y_callS [.long (lI (v1)), .long (lI (0)), .long (lI ((z1 151 2)))] (pc' := 17) dX6_truncate_14 rfl SX6_66 (by decide) rfl (cs rfl) (cs rfl) rfl (CX6_in hN hz1 (inL_R rv1) (inL_c (n := 0) rfl) (inL_R (hz1 151 2 (by decide))) q2) (Nat.zero_add _).symm (Nat.zero_add _).symm (fun f2 => ?_)
  refine X_iconst (pc' := 18) dX6_truncate_17 rfl ?_
  obtain ⟨⟨r3, z3⟩, q3, h⟩ := bs h
  refine Y_callV [.int (iN (r2)), .int (iN (1))] (pc' := 21) dX6_truncate_18 rfl VX6_62 (by decide) (zlN hN (by decide)) (congrArg Prod.fst (sh151 ln)) rfl rfl rfl (cs rfl) (cs rfl) rfl (CX6_fails hN hz1 (inR_b f2) (inR_c (n := 1) rfl) q3) (Nat.zero_add _).symm (Nat.zero_add _).symm (fun f3 => ?_)
  refine X_if_eq dX6_truncate_21 (tgt := 26) rfl (pc' := 24) rfl (inR_b f3.1) (fun c4 => ?_) (fun c4 => ?_)
  · have h := if_t c4 h
    refine X_aload_n (pc' := 27) dX6_truncate_26 rfl rfl ?_
    refine X_iload_n (pc' := 28) dX6_truncate_27 rfl rfl ?_
    refine Y_put (k := 2) (j := 2) (v := v1) (pc' := 31) dX6_truncate_28 rfl FX6_59 (zlN hN (by decide)) (congrArg Prod.fst (sh151 ln)) (fun r hr => by cases hr; rfl) (xFit_int _) rfl rfl ?_
    obtain ⟨z5, e5, hz5, h⟩ := zl_some (P := okz) h (okz_up f3.2 rv1)
    rw [e5]
    refine X_iload_n (pc' := 32) dX6_truncate_31 rfl rfl ?_
    cases h
    exact X_iret dX6_truncate_32 rfl (k ⟨rv1, hz5⟩)
  have h := if_f c4 h
  refine X_iconst (pc' := 25) dX6_truncate_24 rfl ?_
  cases h
  exact X_iret dX6_truncate_25 rfl (k ⟨(inR_c (n := 0) rfl), f3.2⟩)
def fX6_undo_s39 (v1 : Int) (z : ZZ) : Option ((Int × ZZ) ⊕ (ZZ)) := (if (v1) < (765) then (if (0 : Int) ≤ (((765 * (z 151 12)) + v1)) ∧ (((765 * (z 151 12)) + v1)) < (6120 : Int) then (if (0 : Int) ≤ (v1) ∧ (v1) < (765 : Int) then (zl (zup z 154 (v1) ((z 156 (((765 * (z 151 12)) + v1))))) fun z4 => (if inR ((v1 + 1)) then some (.inl ((v1 + 1), z4)) else none)) else none) else none) else some (.inr z))
set_option maxRecDepth 100000 in
theorem SX6_undo_39 {ln N : Nat} {z : ZZ} {v1 : Int} {c9 s9 : Nat} {Φ : xRes → xS → Prop} (hN : 159 ≤ N ∧ N < 999999) (hz : okz z) (rv1 : inR v1) {p : (Int × ZZ) ⊕ (ZZ)} (h : fX6_undo_s39 v1 z = some p) (k1 : ∀ (v1' : Int) (z' : ZZ), p = .inl (v1', z') → inR v1' → okz z' → X mX6_undo 39 [some (.ref (151)), some (.int (iN (v1')))] [] (zmk ln N z') c9 s9 Φ) (k2 : ∀ (z' : ZZ), p = .inr z' → okz z' → X mX6_undo 73 [some (.ref (151)), none] [] (zmk ln N z') c9 s9 Φ) : X mX6_undo 39 [some (.ref (151)), some (.int (iN (v1)))] [] (zmk ln N z) c9 s9 Φ := by
  unfold fX6_undo_s39 at h
  refine X_iload_n (pc' := 40) dX6_undo_39 rfl rfl ?_
  refine X_sipush (pc' := 43) dX6_undo_40 rfl (by decide) ?_
  refine X_icmp_ge dX6_undo_43 (tgt := 73) rfl (pc' := 46) rfl ⟨rv1.1, rv1.2, (inR_c (n := 765) rfl).1, (inR_c (n := 765) rfl).2⟩ (fun c1 => ?_) (fun c1 => ?_)
  · have h := if_f (Int.not_lt.mpr c1) h
    cases h
    exact X_sub (sub_s (sub_n sub_0)) (k2 _ rfl hz)
  have h := if_t c1 h
  refine X_aload_n (pc' := 47) dX6_undo_46 rfl rfl ?_
  refine Y_get (pc' := 50) dX6_undo_47 rfl FX6_16 (zlN hN (by decide)) (congrArg Prod.fst (sh151 ln)) (ct151_9 z) ?_
  refine X_iload_n (pc' := 51) dX6_undo_50 rfl rfl ?_
  refine X_aload_n (pc' := 52) dX6_undo_51 rfl rfl ?_
  refine Y_get (pc' := 55) dX6_undo_52 rfl FX6_22 (zlN hN (by decide)) (congrArg Prod.fst (sh151 ln)) (ct151_11 z) ?_
  refine X_sipush (pc' := 58) dX6_undo_55 rfl (by decide) ?_
  refine X_aload_n (pc' := 59) dX6_undo_58 rfl rfl ?_
  refine Y_get (pc' := 62) dX6_undo_59 rfl FX6_152 (zlN hN (by decide)) (congrArg Prod.fst (sh151 ln)) (ct151_12 z) ?_
  refine X_imul (pc' := 63) dX6_undo_62 rfl ?_
  refine X_iload_n (pc' := 64) dX6_undo_63 rfl rfl ?_
  refine X_iadd (pc' := 65) dX6_undo_64 rfl ?_
  obtain ⟨g2, h⟩ := gs h
  refine Y_iald (pc' := 66) dX6_undo_65 rfl (zlN hN (by decide)) (sh156 ln) (by decide) g2 ?_
  obtain ⟨g3, h⟩ := gs h
  refine Y_iast (pc' := 67) dX6_undo_66 rfl (zlN hN (by decide)) (sh154 ln) (by decide) g3 ?_
  obtain ⟨z4, e4, hz4, h⟩ := zl_some (P := okz) h (okz_up hz (hz 156 (((765 * (z 151 12)) + v1)) (by decide)))
  rw [e4]
  refine X_iinc (pc' := 70) dX6_undo_67 rfl rfl (Or.inr rfl) (L' := [some (.ref (151)), some (.int (iN (v1 + 1)))]) rfl ?_
  refine X_goto dX6_undo_70 (tgt := 39) rfl ?_
  obtain ⟨g5, h⟩ := gs h
  cases h
  exact X_sub (sub_s (sub_s sub_0)) (k1 _ _ rfl g5 hz4)
theorem LX6_undo_39 {ln N : Nat} {c9 s9 : Nat} {Φ : xRes → xS → Prop} (hN : 159 ≤ N ∧ N < 999999) {r : ZZ} (k2 : ∀ (z' : ZZ), r = z' → okz z' → X mX6_undo 73 [some (.ref (151)), none] [] (zmk ln N z') c9 s9 Φ) : ∀ (n : Nat) (v1 : Int) (z : ZZ), inR v1 → okz z → zlp (fun q => fX6_undo_s39 q.1 q.2) n (v1, z) = some r → X mX6_undo 39 [some (.ref (151)), some (.int (iN (v1)))] [] (zmk ln N z) c9 s9 Φ := by
  intro n
  induction n with
  | zero => intro v1 z rv1 hz h; cases h
  | succ n ih =>
    intro v1 z rv1 hz h
    rcases zlp_s h with ⟨⟨v1', z'⟩, e, h'⟩ | e
    · exact SX6_undo_39 hN hz rv1 e (fun v1₁ z₁ hh f0 f1 => by cases hh; exact ih _ _ f0 f1 h') (fun z₁ hh f0 => by cases hh)
    · exact SX6_undo_39 hN hz rv1 e (fun v1₁ z₁ hh f0 f1 => by cases hh) (fun z₁ hh f0 => by cases hh; exact k2 _ rfl f0)
def fX6_undo_b18 (s1 : Int) (z : ZZ) : Option (Int × ZZ) := (Option.bind (fX6_fails (s1) (1) z) fun q1 => match q1 with | (r1, z1) => (if (r1) = (0) then (if inR (((z1 151 12) - 1)) then (zl (zup z1 151 12 (((z1 151 12) - 1))) fun z4 => (Option.bind (zlp (fun q => fX6_undo_s39 q.1 q.2) FU (0, z4)) fun x5_z => some ((x5_z 151 12), x5_z))) else none) else some (0, z1)))
set_option maxRecDepth 100000 in
theorem BX6_undo_18 {ln N : Nat} {z : ZZ} {s1 : Int} {c9 s9 : Nat} {Φ : xRes → xS → Prop} (hN : 159 ≤ N ∧ N < 999999) (hz : okz z) (rs1 : inR s1) {p : Int × ZZ} (h : fX6_undo_b18 s1 z = some p) (k : Fin_wi Φ ln N p) : X mX6_undo 18 [some (.ref (151)), none] [.int (iN (s1)), .ref (151)] (zmk ln N z) c9 s9 Φ := by
  unfold fX6_undo_b18 at h
  refine X_iconst (pc' := 19) dX6_undo_18 rfl ?_
  obtain ⟨⟨r1, z1⟩, q1, h⟩ := bs h
  refine Y_callV [.int (iN (s1)), .int (iN (1))] (pc' := 22) dX6_undo_19 rfl VX6_62 (by decide) (zlN hN (by decide)) (congrArg Prod.fst (sh151 ln)) rfl rfl rfl (cs rfl) (cs rfl) rfl (CX6_fails hN hz rs1 (inR_c (n := 1) rfl) q1) (Nat.zero_add _).symm (Nat.zero_add _).symm (fun f1 => ?_)
  refine X_if_eq dX6_undo_22 (tgt := 27) rfl (pc' := 25) rfl (inR_b f1.1) (fun c2 => ?_) (fun c2 => ?_)
  · have h := if_t c2 h
    refine X_aload_n (pc' := 28) dX6_undo_27 rfl rfl ?_
    refine X_dup (pc' := 29) dX6_undo_28 rfl rfl ?_
    refine Y_get (pc' := 32) dX6_undo_29 rfl FX6_152 (zlN hN (by decide)) (congrArg Prod.fst (sh151 ln)) (ct151_12 z1) ?_
    refine X_iconst (pc' := 33) dX6_undo_32 rfl ?_
    refine X_isub (pc' := 34) dX6_undo_33 rfl ?_
    obtain ⟨g3, h⟩ := gs h
    refine Y_put (k := 12) (j := 12) (v := ((z1 151 12) - 1)) (pc' := 37) dX6_undo_34 rfl FX6_152 (zlN hN (by decide)) (congrArg Prod.fst (sh151 ln)) (fun r hr => by cases hr; rfl) (xFit_int _) rfl rfl ?_
    obtain ⟨z4, e4, hz4, h⟩ := zl_some (P := okz) h (okz_up f1.2 g3)
    rw [e4]
    refine X_iconst (pc' := 38) dX6_undo_37 rfl ?_
    refine X_istore_n (pc' := 39) dX6_undo_38 rfl (cl rfl) (Or.inr rfl) (L' := [some (.ref (151)), some (.int (iN (0)))]) rfl ?_
    obtain ⟨x5_z, q5, h⟩ := bs h
    refine X_sub (sub_s (sub_s sub_0)) (LX6_undo_39 hN (fun x5_z₁ hh hx5_z => ?_) FU _ _ (inR_c (n := 0) rfl) hz4 q5)
    cases hh
    refine X_aload_n (pc' := 74) dX6_undo_73 rfl rfl ?_
    refine Y_get (pc' := 77) dX6_undo_74 rfl FX6_152 (zlN hN (by decide)) (congrArg Prod.fst (sh151 ln)) (ct151_12 x5_z) ?_
    cases h
    exact X_iret dX6_undo_77 rfl (k ⟨(hx5_z 151 12 (by decide)), hx5_z⟩)
  have h := if_f c2 h
  refine X_iconst (pc' := 26) dX6_undo_25 rfl ?_
  cases h
  exact X_iret dX6_undo_26 rfl (k ⟨(inR_c (n := 0) rfl), f1.2⟩)
def fX6_undo (z : ZZ) : Option (Int × ZZ) := (zl (zup z 151 0 (0)) fun z1 => (if (0) < ((z1 151 12)) then fX6_undo_b18 (1) z1 else fX6_undo_b18 (0) z1))
set_option maxRecDepth 100000 in
theorem CX6_undo {ln N : Nat} {z : ZZ} (hN : 159 ≤ N ∧ N < 999999) (hz : okz z) {p : Int × ZZ} (h : fX6_undo z = some p) : X mX6_undo 0 (xEnt [.ref (151)] (xL mX6_undo)) [] (zmk ln N z) (cc_wi p) (6 * cc_wi p) (Qd (fa_wi p) (rs_wi p) (st_wi ln N p)) := by
  have k : Fin_wi (Qd (fa_wi p) (rs_wi p) (st_wi ln N p)) ln N p := Fin_wi_i
  unfold fX6_undo at h
  refine X_to (M := [some (.ref (151)), none]) (su := []) rfl rfl ?_
  refine X_aload_n (pc' := 1) dX6_undo_0 rfl rfl ?_
  refine X_iconst (pc' := 2) dX6_undo_1 rfl ?_
  refine Y_put (k := 0) (j := 0) (v := 0) (pc' := 5) dX6_undo_2 rfl FX6_51 (zlN hN (by decide)) (congrArg Prod.fst (sh151 ln)) (fun r hr => by cases hr; rfl) (xFit_int _) rfl rfl ?_
  obtain ⟨z1, e1, hz1, h⟩ := zl_some (P := okz) h (okz_up hz (inR_c (n := 0) rfl))
  rw [e1]
  refine X_aload_n (pc' := 6) dX6_undo_5 rfl rfl ?_
  refine X_aload_n (pc' := 7) dX6_undo_6 rfl rfl ?_
  refine Y_get (pc' := 10) dX6_undo_7 rfl FX6_152 (zlN hN (by decide)) (congrArg Prod.fst (sh151 ln)) (ct151_12 z1) ?_
  refine X_if_le dX6_undo_10 (tgt := 17) rfl (pc' := 13) rfl (hz1 151 12 (by decide)) (fun c2 => ?_) (fun c2 => ?_)
  · have h := if_f (Int.not_lt.mpr c2) h
    refine X_iconst (pc' := 18) dX6_undo_17 rfl ?_
    exact X_sub (sub_s (sub_n sub_0)) (BX6_undo_18 hN hz1 (inR_c (n := 0) rfl) h k)
  have h := if_t c2 h
  refine X_iconst (pc' := 14) dX6_undo_13 rfl ?_
  refine X_goto dX6_undo_14 (tgt := 18) rfl ?_
  exact X_sub (sub_s (sub_n sub_0)) (BX6_undo_18 hN hz1 (inR_c (n := 1) rfl) h k)
def fX6_undoCount (z : ZZ) : Option (Int × ZZ) := (zl (zup z 151 0 (0)) fun z1 => some ((z1 151 12), z1))
set_option maxRecDepth 100000 in
theorem CX6_undoCount {ln N : Nat} {z : ZZ} (hN : 159 ≤ N ∧ N < 999999) (hz : okz z) {p : Int × ZZ} (h : fX6_undoCount z = some p) : X mX6_undoCount 0 (xEnt [.ref (151)] (xL mX6_undoCount)) [] (zmk ln N z) (cc_wi p) (6 * cc_wi p) (Qd (fa_wi p) (rs_wi p) (st_wi ln N p)) := by
  have k : Fin_wi (Qd (fa_wi p) (rs_wi p) (st_wi ln N p)) ln N p := Fin_wi_i
  unfold fX6_undoCount at h
  refine X_to (M := [some (.ref (151))]) (su := []) rfl rfl ?_
  refine X_aload_n (pc' := 1) dX6_undoCount_0 rfl rfl ?_
  refine X_iconst (pc' := 2) dX6_undoCount_1 rfl ?_
  refine Y_put (k := 0) (j := 0) (v := 0) (pc' := 5) dX6_undoCount_2 rfl FX6_51 (zlN hN (by decide)) (congrArg Prod.fst (sh151 ln)) (fun r hr => by cases hr; rfl) (xFit_int _) rfl rfl ?_
  obtain ⟨z1, e1, hz1, h⟩ := zl_some (P := okz) h (okz_up hz (inR_c (n := 0) rfl))
  rw [e1]
  refine X_aload_n (pc' := 6) dX6_undoCount_5 rfl rfl ?_
  refine Y_get (pc' := 9) dX6_undoCount_6 rfl FX6_152 (zlN hN (by decide)) (congrArg Prod.fst (sh151 ln)) (ct151_12 z1) ?_
  cases h
  exact X_iret dX6_undoCount_9 rfl (k ⟨(hz1 151 12 (by decide)), hz1⟩)
def fX6_vote_b27 (v1 : Int) (v2 : Int) (v3 : Int) (s1 : Int) (z : ZZ) : Option (Int × ZZ) := (Option.bind (fX6_fails (s1) (1) z) fun q1 => match q1 with | (r1, z1) => (if (r1) = (0) then (Option.bind (fX6_isGrade (v3) z1) fun r3 => (Option.bind (fX6_fails (r3) (2) z1) fun q4 => match q4 with | (r4, z4) => (if (r4) = (0) then (Option.bind (fX6_routePart (v2) (5) z4) fun r6 => (Option.bind (fX6_has (r6) (v1) z4) fun r7 => (Option.bind (fX6_fails (r7) (3) z4) fun q8 => match q8 with | (r8, z8) => (if (r8) = (0) then (Option.bind (fX6_record z8) fun z10 => (if (0 : Int) ≤ ((((38 + (18 * v2)) + 6) + v1)) ∧ ((((38 + (18 * v2)) + 6) + v1)) < (765 : Int) then (zl (zup z10 154 ((((38 + (18 * v2)) + 6) + v1)) (v3)) fun z12 => (Option.bind (fX6_gradeOf (v2) z12) fun q13 => match q13 with | (r13, z13) => some (r13, z13))) else none)) else some (0, z8))))) else some (0, z4)))) else some (0, z1)))
set_option maxRecDepth 100000 in
theorem BX6_vote_27 {ln N : Nat} {z : ZZ} {v1 : Int} {v2 : Int} {v3 : Int} {s1 : Int} {c9 s9 : Nat} {Φ : xRes → xS → Prop} (hN : 159 ≤ N ∧ N < 999999) (hz : okz z) (rv1 : inR v1) (rv2 : inR v2) (rv3 : inR v3) (rs1 : inR s1) {p : Int × ZZ} (h : fX6_vote_b27 v1 v2 v3 s1 z = some p) (k : Fin_wi Φ ln N p) : X mX6_vote 27 [some (.ref (151)), some (.int (iN (v1))), some (.int (iN (v2))), some (.int (iN (v3)))] [.int (iN (s1)), .ref (151)] (zmk ln N z) c9 s9 Φ := by
  unfold fX6_vote_b27 at h
  refine X_iconst (pc' := 28) dX6_vote_27 rfl ?_
  obtain ⟨⟨r1, z1⟩, q1, h⟩ := bs h
  refine Y_callV [.int (iN (s1)), .int (iN (1))] (pc' := 31) dX6_vote_28 rfl VX6_62 (by decide) (zlN hN (by decide)) (congrArg Prod.fst (sh151 ln)) rfl rfl rfl (cs rfl) (cs rfl) rfl (CX6_fails hN hz rs1 (inR_c (n := 1) rfl) q1) (Nat.zero_add _).symm (Nat.zero_add _).symm (fun f1 => ?_)
  refine X_if_ne dX6_vote_31 (tgt := 64) rfl (pc' := 34) rfl (inR_b f1.1) (fun c2 => ?_) (fun c2 => ?_)
  · have h := if_f c2 h
    refine X_iconst (pc' := 65) dX6_vote_64 rfl ?_
    cases h
    exact X_iret dX6_vote_65 rfl (k ⟨(inR_c (n := 0) rfl), f1.2⟩)
  have h := if_t c2 h
  refine X_aload_n (pc' := 35) dX6_vote_34 rfl rfl ?_
  refine X_iload_n (pc' := 36) dX6_vote_35 rfl rfl ?_
  obtain ⟨r3, q3, h⟩ := bs h
  refine Y_callS [.int (iN (v3))] (pc' := 39) dX6_vote_36 rfl SX6_223 (by decide) rfl (cs rfl) (cs rfl) rfl (CX6_isGrade hN f1.2 rv3 q3) (Nat.zero_add _).symm (Nat.zero_add _).symm (fun f3 => ?_)
  refine X_iconst (pc' := 40) dX6_vote_39 rfl ?_
  obtain ⟨⟨r4, z4⟩, q4, h⟩ := bs h
  refine Y_callV [.int (iN (r3)), .int (iN (2))] (pc' := 43) dX6_vote_40 rfl VX6_62 (by decide) (zlN hN (by decide)) (congrArg Prod.fst (sh151 ln)) rfl rfl rfl (cs rfl) (cs rfl) rfl (CX6_fails hN f1.2 (inR_b f3) (inR_c (n := 2) rfl) q4) (Nat.zero_add _).symm (Nat.zero_add _).symm (fun f4 => ?_)
  refine X_if_ne dX6_vote_43 (tgt := 64) rfl (pc' := 46) rfl (inR_b f4.1) (fun c5 => ?_) (fun c5 => ?_)
  · have h := if_f c5 h
    refine X_iconst (pc' := 65) dX6_vote_64 rfl ?_
    cases h
    exact X_iret dX6_vote_65 rfl (k ⟨(inR_c (n := 0) rfl), f4.2⟩)
  have h := if_t c5 h
  refine X_aload_n (pc' := 47) dX6_vote_46 rfl rfl ?_
  refine X_aload_n (pc' := 48) dX6_vote_47 rfl rfl ?_
  refine X_iload_n (pc' := 49) dX6_vote_48 rfl rfl ?_
  refine X_iconst (pc' := 50) dX6_vote_49 rfl ?_
  obtain ⟨r6, q6, h⟩ := bs h
  refine Y_callV [.int (iN (v2)), .int (iN (5))] (pc' := 53) dX6_vote_50 rfl VX6_163 (by decide) (zlN hN (by decide)) (congrArg Prod.fst (sh151 ln)) rfl rfl rfl (cs rfl) (cs rfl) rfl (CX6_routePart hN f4.2 rv2 (inR_c (n := 5) rfl) q6) (Nat.zero_add _).symm (Nat.zero_add _).symm (fun f6 => ?_)
  refine X_iload_n (pc' := 54) dX6_vote_53 rfl rfl ?_
  obtain ⟨r7, q7, h⟩ := bs h
  refine Y_callS [.int (iN (r6)), .int (iN (v1))] (pc' := 57) dX6_vote_54 rfl SX6_253 (by decide) rfl (cs rfl) (cs rfl) rfl (CX6_has hN f4.2 f6 rv1 q7) (Nat.zero_add _).symm (Nat.zero_add _).symm (fun f7 => ?_)
  refine X_iconst (pc' := 58) dX6_vote_57 rfl ?_
  obtain ⟨⟨r8, z8⟩, q8, h⟩ := bs h
  refine Y_callV [.int (iN (r7)), .int (iN (3))] (pc' := 61) dX6_vote_58 rfl VX6_62 (by decide) (zlN hN (by decide)) (congrArg Prod.fst (sh151 ln)) rfl rfl rfl (cs rfl) (cs rfl) rfl (CX6_fails hN f4.2 (inR_b f7) (inR_c (n := 3) rfl) q8) (Nat.zero_add _).symm (Nat.zero_add _).symm (fun f8 => ?_)
  refine X_if_eq dX6_vote_61 (tgt := 66) rfl (pc' := 64) rfl (inR_b f8.1) (fun c9 => ?_) (fun c9 => ?_)
  · have h := if_t c9 h
    refine X_aload_n (pc' := 67) dX6_vote_66 rfl rfl ?_
    obtain ⟨z10, q10, h⟩ := bs h
    refine Y_callVv [] (pc' := 70) dX6_vote_67 rfl VX6_229 (by decide) (zlN hN (by decide)) (congrArg Prod.fst (sh151 ln)) rfl rfl rfl (cs rfl) (cs rfl) rfl (CX6_record hN f8.2 q10) (Nat.zero_add _).symm (Nat.zero_add _).symm (fun f10 => ?_)
    refine X_aload_n (pc' := 71) dX6_vote_70 rfl rfl ?_
    refine Y_get (pc' := 74) dX6_vote_71 rfl FX6_16 (zlN hN (by decide)) (congrArg Prod.fst (sh151 ln)) (ct151_9 z10) ?_
    refine X_bipush (pc' := 76) dX6_vote_74 rfl (by decide) ?_
    refine X_bipush (pc' := 78) dX6_vote_76 rfl (by decide) ?_
    refine X_iload_n (pc' := 79) dX6_vote_78 rfl rfl ?_
    refine X_imul (pc' := 80) dX6_vote_79 rfl ?_
    refine X_iadd (pc' := 81) dX6_vote_80 rfl ?_
    refine X_bipush (pc' := 83) dX6_vote_81 rfl (by decide) ?_
    refine X_iadd (pc' := 84) dX6_vote_83 rfl ?_
    refine X_iload_n (pc' := 85) dX6_vote_84 rfl rfl ?_
    refine X_iadd (pc' := 86) dX6_vote_85 rfl ?_
    refine X_iload_n (pc' := 87) dX6_vote_86 rfl rfl ?_
    obtain ⟨g11, h⟩ := gs h
    refine Y_iast (pc' := 88) dX6_vote_87 rfl (zlN hN (by decide)) (sh154 ln) (by decide) g11 ?_
    obtain ⟨z12, e12, hz12, h⟩ := zl_some (P := okz) h (okz_up f10 rv3)
    rw [e12]
    refine X_aload_n (pc' := 89) dX6_vote_88 rfl rfl ?_
    refine X_iload_n (pc' := 90) dX6_vote_89 rfl rfl ?_
    obtain ⟨⟨r13, z13⟩, q13, h⟩ := bs h
    refine Y_callV [.int (iN (v2))] (pc' := 93) dX6_vote_90 rfl VX6_232 (by decide) (zlN hN (by decide)) (congrArg Prod.fst (sh151 ln)) rfl rfl rfl (cs rfl) (cs rfl) rfl (CX6_gradeOf hN hz12 rv2 q13) (Nat.zero_add _).symm (Nat.zero_add _).symm (fun f13 => ?_)
    cases h
    exact X_iret dX6_vote_93 rfl (k ⟨f13.1, f13.2⟩)
  have h := if_f c9 h
  refine X_iconst (pc' := 65) dX6_vote_64 rfl ?_
  cases h
  exact X_iret dX6_vote_65 rfl (k ⟨(inR_c (n := 0) rfl), f8.2⟩)
def fX6_vote_b26 (v1 : Int) (v2 : Int) (v3 : Int) (z : ZZ) : Option (Int × ZZ) := fX6_vote_b27 (v1) (v2) (v3) (0) z
set_option maxRecDepth 100000 in
theorem BX6_vote_26 {ln N : Nat} {z : ZZ} {v1 : Int} {v2 : Int} {v3 : Int} {c9 s9 : Nat} {Φ : xRes → xS → Prop} (hN : 159 ≤ N ∧ N < 999999) (hz : okz z) (rv1 : inR v1) (rv2 : inR v2) (rv3 : inR v3) {p : Int × ZZ} (h : fX6_vote_b26 v1 v2 v3 z = some p) (k : Fin_wi Φ ln N p) : X mX6_vote 26 [some (.ref (151)), some (.int (iN (v1))), some (.int (iN (v2))), some (.int (iN (v3)))] [.ref (151)] (zmk ln N z) c9 s9 Φ := by
  unfold fX6_vote_b26 at h
  refine X_iconst (pc' := 27) dX6_vote_26 rfl ?_
  exact X_sub (sub_s (sub_s (sub_s (sub_s sub_0)))) (BX6_vote_27 hN hz rv1 rv2 rv3 (inR_c (n := 0) rfl) h k)
def fX6_vote (v1 : Int) (v2 : Int) (v3 : Int) (z : ZZ) : Option (Int × ZZ) := (zl (zup z 151 0 (0)) fun z1 => (Option.bind (fX6_isMember (v1) z1) fun r2 => (if (r2) = (0) then fX6_vote_b26 (v1) (v2) (v3) z1 else (Option.bind (fX6_isRoute (v2) z1) fun r4 => (if (r4) = (0) then fX6_vote_b26 (v1) (v2) (v3) z1 else fX6_vote_b27 (v1) (v2) (v3) (1) z1)))))
set_option maxRecDepth 100000 in
theorem CX6_vote {ln N : Nat} {z : ZZ} {v1 : Int} {v2 : Int} {v3 : Int} (hN : 159 ≤ N ∧ N < 999999) (hz : okz z) (rv1 : inR v1) (rv2 : inR v2) (rv3 : inR v3) {p : Int × ZZ} (h : fX6_vote v1 v2 v3 z = some p) : X mX6_vote 0 (xEnt [.ref (151), .int (iN (v1)), .int (iN (v2)), .int (iN (v3))] (xL mX6_vote)) [] (zmk ln N z) (cc_wi p) (6 * cc_wi p) (Qd (fa_wi p) (rs_wi p) (st_wi ln N p)) := by
  have k : Fin_wi (Qd (fa_wi p) (rs_wi p) (st_wi ln N p)) ln N p := Fin_wi_i
  unfold fX6_vote at h
  refine X_to (M := [some (.ref (151)), some (.int (iN (v1))), some (.int (iN (v2))), some (.int (iN (v3)))]) (su := []) rfl rfl ?_
  refine X_aload_n (pc' := 1) dX6_vote_0 rfl rfl ?_
  refine X_iconst (pc' := 2) dX6_vote_1 rfl ?_
  refine Y_put (k := 0) (j := 0) (v := 0) (pc' := 5) dX6_vote_2 rfl FX6_51 (zlN hN (by decide)) (congrArg Prod.fst (sh151 ln)) (fun r hr => by cases hr; rfl) (xFit_int _) rfl rfl ?_
  obtain ⟨z1, e1, hz1, h⟩ := zl_some (P := okz) h (okz_up hz (inR_c (n := 0) rfl))
  rw [e1]
  refine X_aload_n (pc' := 6) dX6_vote_5 rfl rfl ?_
  refine X_aload_n (pc' := 7) dX6_vote_6 rfl rfl ?_
  refine X_iload_n (pc' := 8) dX6_vote_7 rfl rfl ?_
  obtain ⟨r2, q2, h⟩ := bs h
  refine Y_callV [.int (iN (v1))] (pc' := 11) dX6_vote_8 rfl VX6_244 (by decide) (zlN hN (by decide)) (congrArg Prod.fst (sh151 ln)) rfl rfl rfl (cs rfl) (cs rfl) rfl (CX6_isMember hN hz1 rv1 q2) (Nat.zero_add _).symm (Nat.zero_add _).symm (fun f2 => ?_)
  refine X_if_eq dX6_vote_11 (tgt := 26) rfl (pc' := 14) rfl (inR_b f2) (fun c3 => ?_) (fun c3 => ?_)
  · have h := if_t c3 h
    exact X_sub (sub_s (sub_s (sub_s (sub_s sub_0)))) (BX6_vote_26 hN hz1 rv1 rv2 rv3 h k)
  have h := if_f c3 h
  refine X_aload_n (pc' := 15) dX6_vote_14 rfl rfl ?_
  refine X_iload_n (pc' := 16) dX6_vote_15 rfl rfl ?_
  obtain ⟨r4, q4, h⟩ := bs h
  refine Y_callV [.int (iN (v2))] (pc' := 19) dX6_vote_16 rfl VX6_238 (by decide) (zlN hN (by decide)) (congrArg Prod.fst (sh151 ln)) rfl rfl rfl (cs rfl) (cs rfl) rfl (CX6_isRoute hN hz1 rv2 q4) (Nat.zero_add _).symm (Nat.zero_add _).symm (fun f4 => ?_)
  refine X_if_eq dX6_vote_19 (tgt := 26) rfl (pc' := 22) rfl (inR_b f4) (fun c5 => ?_) (fun c5 => ?_)
  · have h := if_t c5 h
    exact X_sub (sub_s (sub_s (sub_s (sub_s sub_0)))) (BX6_vote_26 hN hz1 rv1 rv2 rv3 h k)
  have h := if_f c5 h
  refine X_iconst (pc' := 23) dX6_vote_22 rfl ?_
  refine X_goto dX6_vote_23 (tgt := 27) rfl ?_
  exact X_sub (sub_s (sub_s (sub_s (sub_s sub_0)))) (BX6_vote_27 hN hz1 rv1 rv2 rv3 (inR_c (n := 1) rfl) h k)
def fX6_voteOf_b57 (v3 : Int) (s1 : Int) (z : ZZ) : Option (Int × ZZ) := (Option.bind (fX6_fails (s1) (2) z) fun q1 => match q1 with | (r1, z1) => (if (r1) = (0) then some (v3, z1) else some (0, z1)))
set_option maxRecDepth 100000 in
theorem BX6_voteOf_57 {ln N : Nat} {z : ZZ} {v3 : Int} {s1 : Int} {c9 s9 : Nat} {Φ : xRes → xS → Prop} (hN : 159 ≤ N ∧ N < 999999) (hz : okz z) (rv3 : inR v3) (rs1 : inR s1) {p : Int × ZZ} (h : fX6_voteOf_b57 v3 s1 z = some p) (k : Fin_wi Φ ln N p) : X mX6_voteOf 57 [none, none, none, some (.int (iN (v3)))] [.int (iN (s1)), .ref (151)] (zmk ln N z) c9 s9 Φ := by
  unfold fX6_voteOf_b57 at h
  refine X_iconst (pc' := 58) dX6_voteOf_57 rfl ?_
  obtain ⟨⟨r1, z1⟩, q1, h⟩ := bs h
  refine Y_callV [.int (iN (s1)), .int (iN (2))] (pc' := 61) dX6_voteOf_58 rfl VX6_62 (by decide) (zlN hN (by decide)) (congrArg Prod.fst (sh151 ln)) rfl rfl rfl (cs rfl) (cs rfl) rfl (CX6_fails hN hz rs1 (inR_c (n := 2) rfl) q1) (Nat.zero_add _).symm (Nat.zero_add _).symm (fun f1 => ?_)
  refine X_if_eq dX6_voteOf_61 (tgt := 68) rfl (pc' := 64) rfl (inR_b f1.1) (fun c2 => ?_) (fun c2 => ?_)
  · have h := if_t c2 h
    refine X_iload_n (pc' := 69) dX6_voteOf_68 rfl rfl ?_
    cases h
    exact X_iret dX6_voteOf_69 rfl (k ⟨rv3, f1.2⟩)
  have h := if_f c2 h
  refine X_iconst (pc' := 65) dX6_voteOf_64 rfl ?_
  refine X_goto dX6_voteOf_65 (tgt := 69) rfl ?_
  cases h
  exact X_iret dX6_voteOf_69 rfl (k ⟨(inR_c (n := 0) rfl), f1.2⟩)
def fX6_voteOf_b27 (v1 : Int) (v2 : Int) (s1 : Int) (z : ZZ) : Option (Int × ZZ) := (Option.bind (fX6_fails (s1) (1) z) fun q1 => match q1 with | (r1, z1) => (if (r1) = (0) then (if inR ((6 + v1)) then (Option.bind (fX6_routePart (v2) ((6 + v1)) z1) fun r4 => (if (r4) = ((-1)) then fX6_voteOf_b57 (r4) (0) z1 else fX6_voteOf_b57 (r4) (1) z1)) else none) else some (0, z1)))
set_option maxRecDepth 100000 in
theorem BX6_voteOf_27 {ln N : Nat} {z : ZZ} {v1 : Int} {v2 : Int} {s1 : Int} {c9 s9 : Nat} {Φ : xRes → xS → Prop} (hN : 159 ≤ N ∧ N < 999999) (hz : okz z) (rv1 : inR v1) (rv2 : inR v2) (rs1 : inR s1) {p : Int × ZZ} (h : fX6_voteOf_b27 v1 v2 s1 z = some p) (k : Fin_wi Φ ln N p) : X mX6_voteOf 27 [some (.ref (151)), some (.int (iN (v1))), some (.int (iN (v2))), none] [.int (iN (s1)), .ref (151)] (zmk ln N z) c9 s9 Φ := by
  unfold fX6_voteOf_b27 at h
  refine X_iconst (pc' := 28) dX6_voteOf_27 rfl ?_
  obtain ⟨⟨r1, z1⟩, q1, h⟩ := bs h
  refine Y_callV [.int (iN (s1)), .int (iN (1))] (pc' := 31) dX6_voteOf_28 rfl VX6_62 (by decide) (zlN hN (by decide)) (congrArg Prod.fst (sh151 ln)) rfl rfl rfl (cs rfl) (cs rfl) rfl (CX6_fails hN hz rs1 (inR_c (n := 1) rfl) q1) (Nat.zero_add _).symm (Nat.zero_add _).symm (fun f1 => ?_)
  refine X_if_eq dX6_voteOf_31 (tgt := 36) rfl (pc' := 34) rfl (inR_b f1.1) (fun c2 => ?_) (fun c2 => ?_)
  · have h := if_t c2 h
    refine X_aload_n (pc' := 37) dX6_voteOf_36 rfl rfl ?_
    refine X_iload_n (pc' := 38) dX6_voteOf_37 rfl rfl ?_
    refine X_bipush (pc' := 40) dX6_voteOf_38 rfl (by decide) ?_
    refine X_iload_n (pc' := 41) dX6_voteOf_40 rfl rfl ?_
    refine X_iadd (pc' := 42) dX6_voteOf_41 rfl ?_
    obtain ⟨g3, h⟩ := gs h
    obtain ⟨r4, q4, h⟩ := bs h
    refine Y_callV [.int (iN (v2)), .int (iN ((6 + v1)))] (pc' := 45) dX6_voteOf_42 rfl VX6_163 (by decide) (zlN hN (by decide)) (congrArg Prod.fst (sh151 ln)) rfl rfl rfl (cs rfl) (cs rfl) rfl (CX6_routePart hN f1.2 rv2 g3 q4) (Nat.zero_add _).symm (Nat.zero_add _).symm (fun f4 => ?_)
    refine X_istore_n (pc' := 46) dX6_voteOf_45 rfl (cl rfl) (Or.inr rfl) (L' := [some (.ref (151)), some (.int (iN (v1))), some (.int (iN (v2))), some (.int (iN (r4)))]) rfl ?_
    refine X_aload_n (pc' := 47) dX6_voteOf_46 rfl rfl ?_
    refine X_iload_n (pc' := 48) dX6_voteOf_47 rfl rfl ?_
    refine X_iconst (pc' := 49) dX6_voteOf_48 rfl ?_
    refine X_icmp_eq dX6_voteOf_49 (tgt := 56) rfl (pc' := 52) rfl ⟨f4.1, f4.2, (inR_c (n := (-1)) rfl).1, (inR_c (n := (-1)) rfl).2⟩ (fun c5 => ?_) (fun c5 => ?_)
    · have h := if_t c5 h
      refine X_iconst (pc' := 57) dX6_voteOf_56 rfl ?_
      exact X_sub (sub_n (sub_n (sub_n (sub_s sub_0)))) (BX6_voteOf_57 hN f1.2 f4 (inR_c (n := 0) rfl) h k)
    have h := if_f c5 h
    refine X_iconst (pc' := 53) dX6_voteOf_52 rfl ?_
    refine X_goto dX6_voteOf_53 (tgt := 57) rfl ?_
    exact X_sub (sub_n (sub_n (sub_n (sub_s sub_0)))) (BX6_voteOf_57 hN f1.2 f4 (inR_c (n := 1) rfl) h k)
  have h := if_f c2 h
  refine X_iconst (pc' := 35) dX6_voteOf_34 rfl ?_
  cases h
  exact X_iret dX6_voteOf_35 rfl (k ⟨(inR_c (n := 0) rfl), f1.2⟩)
def fX6_voteOf_b26 (v1 : Int) (v2 : Int) (z : ZZ) : Option (Int × ZZ) := fX6_voteOf_b27 (v1) (v2) (0) z
set_option maxRecDepth 100000 in
theorem BX6_voteOf_26 {ln N : Nat} {z : ZZ} {v1 : Int} {v2 : Int} {c9 s9 : Nat} {Φ : xRes → xS → Prop} (hN : 159 ≤ N ∧ N < 999999) (hz : okz z) (rv1 : inR v1) (rv2 : inR v2) {p : Int × ZZ} (h : fX6_voteOf_b26 v1 v2 z = some p) (k : Fin_wi Φ ln N p) : X mX6_voteOf 26 [some (.ref (151)), some (.int (iN (v1))), some (.int (iN (v2))), none] [.ref (151)] (zmk ln N z) c9 s9 Φ := by
  unfold fX6_voteOf_b26 at h
  refine X_iconst (pc' := 27) dX6_voteOf_26 rfl ?_
  exact X_sub (sub_s (sub_s (sub_s (sub_n sub_0)))) (BX6_voteOf_27 hN hz rv1 rv2 (inR_c (n := 0) rfl) h k)
def fX6_voteOf (v1 : Int) (v2 : Int) (z : ZZ) : Option (Int × ZZ) := (zl (zup z 151 0 (0)) fun z1 => (Option.bind (fX6_isMember (v1) z1) fun r2 => (if (r2) = (0) then fX6_voteOf_b26 (v1) (v2) z1 else (Option.bind (fX6_isRoute (v2) z1) fun r4 => (if (r4) = (0) then fX6_voteOf_b26 (v1) (v2) z1 else fX6_voteOf_b27 (v1) (v2) (1) z1)))))
set_option maxRecDepth 100000 in
theorem CX6_voteOf {ln N : Nat} {z : ZZ} {v1 : Int} {v2 : Int} (hN : 159 ≤ N ∧ N < 999999) (hz : okz z) (rv1 : inR v1) (rv2 : inR v2) {p : Int × ZZ} (h : fX6_voteOf v1 v2 z = some p) : X mX6_voteOf 0 (xEnt [.ref (151), .int (iN (v1)), .int (iN (v2))] (xL mX6_voteOf)) [] (zmk ln N z) (cc_wi p) (6 * cc_wi p) (Qd (fa_wi p) (rs_wi p) (st_wi ln N p)) := by
  have k : Fin_wi (Qd (fa_wi p) (rs_wi p) (st_wi ln N p)) ln N p := Fin_wi_i
  unfold fX6_voteOf at h
  refine X_to (M := [some (.ref (151)), some (.int (iN (v1))), some (.int (iN (v2))), none]) (su := []) rfl rfl ?_
  refine X_aload_n (pc' := 1) dX6_voteOf_0 rfl rfl ?_
  refine X_iconst (pc' := 2) dX6_voteOf_1 rfl ?_
  refine Y_put (k := 0) (j := 0) (v := 0) (pc' := 5) dX6_voteOf_2 rfl FX6_51 (zlN hN (by decide)) (congrArg Prod.fst (sh151 ln)) (fun r hr => by cases hr; rfl) (xFit_int _) rfl rfl ?_
  obtain ⟨z1, e1, hz1, h⟩ := zl_some (P := okz) h (okz_up hz (inR_c (n := 0) rfl))
  rw [e1]
  refine X_aload_n (pc' := 6) dX6_voteOf_5 rfl rfl ?_
  refine X_aload_n (pc' := 7) dX6_voteOf_6 rfl rfl ?_
  refine X_iload_n (pc' := 8) dX6_voteOf_7 rfl rfl ?_
  obtain ⟨r2, q2, h⟩ := bs h
  refine Y_callV [.int (iN (v1))] (pc' := 11) dX6_voteOf_8 rfl VX6_244 (by decide) (zlN hN (by decide)) (congrArg Prod.fst (sh151 ln)) rfl rfl rfl (cs rfl) (cs rfl) rfl (CX6_isMember hN hz1 rv1 q2) (Nat.zero_add _).symm (Nat.zero_add _).symm (fun f2 => ?_)
  refine X_if_eq dX6_voteOf_11 (tgt := 26) rfl (pc' := 14) rfl (inR_b f2) (fun c3 => ?_) (fun c3 => ?_)
  · have h := if_t c3 h
    exact X_sub (sub_s (sub_s (sub_s (sub_n sub_0)))) (BX6_voteOf_26 hN hz1 rv1 rv2 h k)
  have h := if_f c3 h
  refine X_aload_n (pc' := 15) dX6_voteOf_14 rfl rfl ?_
  refine X_iload_n (pc' := 16) dX6_voteOf_15 rfl rfl ?_
  obtain ⟨r4, q4, h⟩ := bs h
  refine Y_callV [.int (iN (v2))] (pc' := 19) dX6_voteOf_16 rfl VX6_238 (by decide) (zlN hN (by decide)) (congrArg Prod.fst (sh151 ln)) rfl rfl rfl (cs rfl) (cs rfl) rfl (CX6_isRoute hN hz1 rv2 q4) (Nat.zero_add _).symm (Nat.zero_add _).symm (fun f4 => ?_)
  refine X_if_eq dX6_voteOf_19 (tgt := 26) rfl (pc' := 22) rfl (inR_b f4) (fun c5 => ?_) (fun c5 => ?_)
  · have h := if_t c5 h
    exact X_sub (sub_s (sub_s (sub_s (sub_n sub_0)))) (BX6_voteOf_26 hN hz1 rv1 rv2 h k)
  have h := if_f c5 h
  refine X_iconst (pc' := 23) dX6_voteOf_22 rfl ?_
  refine X_goto dX6_voteOf_23 (tgt := 27) rfl ?_
  exact X_sub (sub_s (sub_s (sub_s (sub_n sub_0)))) (BX6_voteOf_27 hN hz1 rv1 rv2 (inR_c (n := 1) rfl) h k)
def fX6_votesTo_s34 (v1 : Int) (v2 : Int) (v3 : Int) (z : ZZ) : Option ((Int × ZZ) ⊕ (Int × ZZ)) := (if (20) < (v3) then some (.inr (v3, z)) else (Option.bind (fX6_gradeBy (v1) (v2) (v3) z) fun q2 => match q2 with | (r2, z2) => (if (r2) = (v2) then some (.inr (v3, z2)) else (if inR ((v3 + 1)) then some (.inl ((v3 + 1), z2)) else none))))
set_option maxRecDepth 100000 in
theorem SX6_votesTo_34 {ln N : Nat} {z : ZZ} {v1 : Int} {v2 : Int} {v3 : Int} {c9 s9 : Nat} {Φ : xRes → xS → Prop} (hN : 159 ≤ N ∧ N < 999999) (hz : okz z) (rv1 : inR v1) (rv2 : inR v2) (rv3 : inR v3) {p : (Int × ZZ) ⊕ (Int × ZZ)} (h : fX6_votesTo_s34 v1 v2 v3 z = some p) (k1 : ∀ (v3' : Int) (z' : ZZ), p = .inl (v3', z') → inR v3' → okz z' → X mX6_votesTo 34 [some (.ref (151)), some (.int (iN (v1))), some (.int (iN (v2))), some (.int (iN (v3')))] [] (zmk ln N z') c9 s9 Φ) (k2 : ∀ (v3' : Int) (z' : ZZ), p = .inr (v3', z') → inR v3' → okz z' → X mX6_votesTo 57 [some (.ref (151)), none, none, some (.int (iN (v3')))] [] (zmk ln N z') c9 s9 Φ) : X mX6_votesTo 34 [some (.ref (151)), some (.int (iN (v1))), some (.int (iN (v2))), some (.int (iN (v3)))] [] (zmk ln N z) c9 s9 Φ := by
  unfold fX6_votesTo_s34 at h
  refine X_iload_n (pc' := 35) dX6_votesTo_34 rfl rfl ?_
  refine X_bipush (pc' := 37) dX6_votesTo_35 rfl (by decide) ?_
  refine X_icmp_gt dX6_votesTo_37 (tgt := 57) rfl (pc' := 40) rfl ⟨rv3.1, rv3.2, (inR_c (n := 20) rfl).1, (inR_c (n := 20) rfl).2⟩ (fun c1 => ?_) (fun c1 => ?_)
  · have h := if_t c1 h
    cases h
    exact X_sub (sub_s (sub_n (sub_n (sub_s sub_0)))) (k2 _ _ rfl rv3 hz)
  have h := if_f (Int.not_lt.mpr c1) h
  refine X_aload_n (pc' := 41) dX6_votesTo_40 rfl rfl ?_
  refine X_iload_n (pc' := 42) dX6_votesTo_41 rfl rfl ?_
  refine X_iload_n (pc' := 43) dX6_votesTo_42 rfl rfl ?_
  refine X_iload_n (pc' := 44) dX6_votesTo_43 rfl rfl ?_
  obtain ⟨⟨r2, z2⟩, q2, h⟩ := bs h
  refine Y_callV [.int (iN (v1)), .int (iN (v2)), .int (iN (v3))] (pc' := 47) dX6_votesTo_44 rfl VX6_189 (by decide) (zlN hN (by decide)) (congrArg Prod.fst (sh151 ln)) rfl rfl rfl (cs rfl) (cs rfl) rfl (CX6_gradeBy hN hz rv1 rv2 rv3 q2) (Nat.zero_add _).symm (Nat.zero_add _).symm (fun f2 => ?_)
  refine X_iload_n (pc' := 48) dX6_votesTo_47 rfl rfl ?_
  refine X_icmp_eq dX6_votesTo_48 (tgt := 57) rfl (pc' := 51) rfl ⟨f2.1.1, f2.1.2, rv2.1, rv2.2⟩ (fun c3 => ?_) (fun c3 => ?_)
  · have h := if_t c3 h
    cases h
    exact X_sub (sub_s (sub_n (sub_n (sub_s sub_0)))) (k2 _ _ rfl rv3 f2.2)
  have h := if_f c3 h
  refine X_iinc (pc' := 54) dX6_votesTo_51 rfl rfl (Or.inr rfl) (L' := [some (.ref (151)), some (.int (iN (v1))), some (.int (iN (v2))), some (.int (iN (v3 + 1)))]) rfl ?_
  refine X_goto dX6_votesTo_54 (tgt := 34) rfl ?_
  obtain ⟨g4, h⟩ := gs h
  cases h
  exact X_sub (sub_s (sub_s (sub_s (sub_s sub_0)))) (k1 _ _ rfl g4 f2.2)
theorem LX6_votesTo_34 {ln N : Nat} {v1 : Int} {v2 : Int} {c9 s9 : Nat} {Φ : xRes → xS → Prop} (hN : 159 ≤ N ∧ N < 999999) (rv1 : inR v1) (rv2 : inR v2) {r : Int × ZZ} (k2 : ∀ (v3' : Int) (z' : ZZ), r = (v3', z') → inR v3' → okz z' → X mX6_votesTo 57 [some (.ref (151)), none, none, some (.int (iN (v3')))] [] (zmk ln N z') c9 s9 Φ) : ∀ (n : Nat) (v3 : Int) (z : ZZ), inR v3 → okz z → zlp (fun q => fX6_votesTo_s34 v1 v2 q.1 q.2) n (v3, z) = some r → X mX6_votesTo 34 [some (.ref (151)), some (.int (iN (v1))), some (.int (iN (v2))), some (.int (iN (v3)))] [] (zmk ln N z) c9 s9 Φ := by
  intro n
  induction n with
  | zero => intro v3 z rv3 hz h; cases h
  | succ n ih =>
    intro v3 z rv3 hz h
    rcases zlp_s h with ⟨⟨v3', z'⟩, e, h'⟩ | e
    · exact SX6_votesTo_34 hN hz rv1 rv2 rv3 e (fun v3₁ z₁ hh f0 f1 => by cases hh; exact ih _ _ f0 f1 h') (fun v3₁ z₁ hh f0 f1 => by cases hh)
    · exact SX6_votesTo_34 hN hz rv1 rv2 rv3 e (fun v3₁ z₁ hh f0 f1 => by cases hh) (fun v3₁ z₁ hh f0 f1 => by cases hh; exact k2 _ _ rfl f0 f1)
def fX6_votesTo_b69 (v3 : Int) (s1 : Int) (z : ZZ) : Option (Int × ZZ) := (Option.bind (fX6_fails (s1) (3) z) fun q1 => match q1 with | (r1, z1) => (if (r1) = (0) then some (v3, z1) else some (0, z1)))
set_option maxRecDepth 100000 in
theorem BX6_votesTo_69 {ln N : Nat} {z : ZZ} {v3 : Int} {s1 : Int} {c9 s9 : Nat} {Φ : xRes → xS → Prop} (hN : 159 ≤ N ∧ N < 999999) (hz : okz z) (rv3 : inR v3) (rs1 : inR s1) {p : Int × ZZ} (h : fX6_votesTo_b69 v3 s1 z = some p) (k : Fin_wi Φ ln N p) : X mX6_votesTo 69 [none, none, none, some (.int (iN (v3)))] [.int (iN (s1)), .ref (151)] (zmk ln N z) c9 s9 Φ := by
  unfold fX6_votesTo_b69 at h
  refine X_iconst (pc' := 70) dX6_votesTo_69 rfl ?_
  obtain ⟨⟨r1, z1⟩, q1, h⟩ := bs h
  refine Y_callV [.int (iN (s1)), .int (iN (3))] (pc' := 73) dX6_votesTo_70 rfl VX6_62 (by decide) (zlN hN (by decide)) (congrArg Prod.fst (sh151 ln)) rfl rfl rfl (cs rfl) (cs rfl) rfl (CX6_fails hN hz rs1 (inR_c (n := 3) rfl) q1) (Nat.zero_add _).symm (Nat.zero_add _).symm (fun f1 => ?_)
  refine X_if_eq dX6_votesTo_73 (tgt := 80) rfl (pc' := 76) rfl (inR_b f1.1) (fun c2 => ?_) (fun c2 => ?_)
  · have h := if_t c2 h
    refine X_iload_n (pc' := 81) dX6_votesTo_80 rfl rfl ?_
    cases h
    exact X_iret dX6_votesTo_81 rfl (k ⟨rv3, f1.2⟩)
  have h := if_f c2 h
  refine X_iconst (pc' := 77) dX6_votesTo_76 rfl ?_
  refine X_goto dX6_votesTo_77 (tgt := 81) rfl ?_
  cases h
  exact X_iret dX6_votesTo_81 rfl (k ⟨(inR_c (n := 0) rfl), f1.2⟩)
def fX6_votesTo (v1 : Int) (v2 : Int) (z : ZZ) : Option (Int × ZZ) := (zl (zup z 151 0 (0)) fun z1 => (Option.bind (fX6_isRoute (v1) z1) fun r2 => (Option.bind (fX6_fails (r2) (1) z1) fun q3 => match q3 with | (r3, z3) => (if (r3) = (0) then (Option.bind (fX6_isGrade (v2) z3) fun r5 => (Option.bind (fX6_fails (r5) (2) z3) fun q6 => match q6 with | (r6, z6) => (if (r6) = (0) then (Option.bind (zlp (fun q => fX6_votesTo_s34 (v1) (v2) q.1 q.2) FU (0, z6)) fun q8 => match q8 with | (x8_v3, x8_z) => (if (20) < (x8_v3) then fX6_votesTo_b69 (x8_v3) (0) x8_z else fX6_votesTo_b69 (x8_v3) (1) x8_z)) else some (0, z6)))) else some (0, z3)))))
set_option maxRecDepth 100000 in
theorem CX6_votesTo {ln N : Nat} {z : ZZ} {v1 : Int} {v2 : Int} (hN : 159 ≤ N ∧ N < 999999) (hz : okz z) (rv1 : inR v1) (rv2 : inR v2) {p : Int × ZZ} (h : fX6_votesTo v1 v2 z = some p) : X mX6_votesTo 0 (xEnt [.ref (151), .int (iN (v1)), .int (iN (v2))] (xL mX6_votesTo)) [] (zmk ln N z) (cc_wi p) (6 * cc_wi p) (Qd (fa_wi p) (rs_wi p) (st_wi ln N p)) := by
  have k : Fin_wi (Qd (fa_wi p) (rs_wi p) (st_wi ln N p)) ln N p := Fin_wi_i
  unfold fX6_votesTo at h
  refine X_to (M := [some (.ref (151)), some (.int (iN (v1))), some (.int (iN (v2))), none]) (su := []) rfl rfl ?_
  refine X_aload_n (pc' := 1) dX6_votesTo_0 rfl rfl ?_
  refine X_iconst (pc' := 2) dX6_votesTo_1 rfl ?_
  refine Y_put (k := 0) (j := 0) (v := 0) (pc' := 5) dX6_votesTo_2 rfl FX6_51 (zlN hN (by decide)) (congrArg Prod.fst (sh151 ln)) (fun r hr => by cases hr; rfl) (xFit_int _) rfl rfl ?_
  obtain ⟨z1, e1, hz1, h⟩ := zl_some (P := okz) h (okz_up hz (inR_c (n := 0) rfl))
  rw [e1]
  refine X_aload_n (pc' := 6) dX6_votesTo_5 rfl rfl ?_
  refine X_aload_n (pc' := 7) dX6_votesTo_6 rfl rfl ?_
  refine X_iload_n (pc' := 8) dX6_votesTo_7 rfl rfl ?_
  obtain ⟨r2, q2, h⟩ := bs h
  refine Y_callV [.int (iN (v1))] (pc' := 11) dX6_votesTo_8 rfl VX6_238 (by decide) (zlN hN (by decide)) (congrArg Prod.fst (sh151 ln)) rfl rfl rfl (cs rfl) (cs rfl) rfl (CX6_isRoute hN hz1 rv1 q2) (Nat.zero_add _).symm (Nat.zero_add _).symm (fun f2 => ?_)
  refine X_iconst (pc' := 12) dX6_votesTo_11 rfl ?_
  obtain ⟨⟨r3, z3⟩, q3, h⟩ := bs h
  refine Y_callV [.int (iN (r2)), .int (iN (1))] (pc' := 15) dX6_votesTo_12 rfl VX6_62 (by decide) (zlN hN (by decide)) (congrArg Prod.fst (sh151 ln)) rfl rfl rfl (cs rfl) (cs rfl) rfl (CX6_fails hN hz1 (inR_b f2) (inR_c (n := 1) rfl) q3) (Nat.zero_add _).symm (Nat.zero_add _).symm (fun f3 => ?_)
  refine X_if_ne dX6_votesTo_15 (tgt := 30) rfl (pc' := 18) rfl (inR_b f3.1) (fun c4 => ?_) (fun c4 => ?_)
  · have h := if_f c4 h
    refine X_iconst (pc' := 31) dX6_votesTo_30 rfl ?_
    cases h
    exact X_iret dX6_votesTo_31 rfl (k ⟨(inR_c (n := 0) rfl), f3.2⟩)
  have h := if_t c4 h
  refine X_aload_n (pc' := 19) dX6_votesTo_18 rfl rfl ?_
  refine X_iload_n (pc' := 20) dX6_votesTo_19 rfl rfl ?_
  obtain ⟨r5, q5, h⟩ := bs h
  refine Y_callS [.int (iN (v2))] (pc' := 23) dX6_votesTo_20 rfl SX6_223 (by decide) rfl (cs rfl) (cs rfl) rfl (CX6_isGrade hN f3.2 rv2 q5) (Nat.zero_add _).symm (Nat.zero_add _).symm (fun f5 => ?_)
  refine X_iconst (pc' := 24) dX6_votesTo_23 rfl ?_
  obtain ⟨⟨r6, z6⟩, q6, h⟩ := bs h
  refine Y_callV [.int (iN (r5)), .int (iN (2))] (pc' := 27) dX6_votesTo_24 rfl VX6_62 (by decide) (zlN hN (by decide)) (congrArg Prod.fst (sh151 ln)) rfl rfl rfl (cs rfl) (cs rfl) rfl (CX6_fails hN f3.2 (inR_b f5) (inR_c (n := 2) rfl) q6) (Nat.zero_add _).symm (Nat.zero_add _).symm (fun f6 => ?_)
  refine X_if_eq dX6_votesTo_27 (tgt := 32) rfl (pc' := 30) rfl (inR_b f6.1) (fun c7 => ?_) (fun c7 => ?_)
  · have h := if_t c7 h
    refine X_iconst (pc' := 33) dX6_votesTo_32 rfl ?_
    refine X_istore_n (pc' := 34) dX6_votesTo_33 rfl (cl rfl) (Or.inr rfl) (L' := [some (.ref (151)), some (.int (iN (v1))), some (.int (iN (v2))), some (.int (iN (0)))]) rfl ?_
    obtain ⟨⟨x8_v3, x8_z⟩, q8, h⟩ := bs h
    refine X_sub (sub_s (sub_s (sub_s (sub_s sub_0)))) (LX6_votesTo_34 hN rv1 rv2 (fun x8_v3₁ x8_z₁ hh rx8_v3 hx8_z => ?_) FU _ _ (inR_c (n := 0) rfl) f6.2 q8)
    cases hh
    refine X_aload_n (pc' := 58) dX6_votesTo_57 rfl rfl ?_
    refine X_iload_n (pc' := 59) dX6_votesTo_58 rfl rfl ?_
    refine X_bipush (pc' := 61) dX6_votesTo_59 rfl (by decide) ?_
    refine X_icmp_gt dX6_votesTo_61 (tgt := 68) rfl (pc' := 64) rfl ⟨rx8_v3.1, rx8_v3.2, (inR_c (n := 20) rfl).1, (inR_c (n := 20) rfl).2⟩ (fun c9 => ?_) (fun c9 => ?_)
    · have h := if_t c9 h
      refine X_iconst (pc' := 69) dX6_votesTo_68 rfl ?_
      exact X_sub (sub_n (sub_n (sub_n (sub_s sub_0)))) (BX6_votesTo_69 hN hx8_z rx8_v3 (inR_c (n := 0) rfl) h k)
    have h := if_f (Int.not_lt.mpr c9) h
    refine X_iconst (pc' := 65) dX6_votesTo_64 rfl ?_
    refine X_goto dX6_votesTo_65 (tgt := 69) rfl ?_
    exact X_sub (sub_n (sub_n (sub_n (sub_s sub_0)))) (BX6_votesTo_69 hN hx8_z rx8_v3 (inR_c (n := 1) rfl) h k)
  have h := if_f c7 h
  refine X_iconst (pc' := 31) dX6_votesTo_30 rfl ?_
  cases h
  exact X_iret dX6_votesTo_31 rfl (k ⟨(inR_c (n := 0) rfl), f6.2⟩)
def fX6_wall (v1 : Int) (v2 : Int) (z : ZZ) : Option (Int × ZZ) := (zl (zup z 151 0 (0)) fun z1 => (Option.bind (fX6_isWall (v1) z1) fun r2 => (Option.bind (fX6_fails (r2) (1) z1) fun q3 => match q3 with | (r3, z3) => (if (r3) = (0) then (Option.bind (fX6_in (v2) (0) (5) z3) fun r5 => (Option.bind (fX6_fails (r5) (2) z3) fun q6 => match q6 with | (r6, z6) => (if (r6) = (0) then (if (3) < (v2) then (if (v2) = (4) then (Option.bind (fX6_onWall (v1) z6) fun r12 => some (r12, z6)) else (Option.bind (fX6_isClosed (v1) z6) fun r10 => (if (r10) = (0) then some (0, z6) else some (1, z6)))) else (Option.bind (fX6_wallPart (v1) (v2) z6) fun r13 => some (r13, z6))) else some (0, z6)))) else some (0, z3)))))
set_option maxRecDepth 100000 in
theorem CX6_wall {ln N : Nat} {z : ZZ} {v1 : Int} {v2 : Int} (hN : 159 ≤ N ∧ N < 999999) (hz : okz z) (rv1 : inR v1) (rv2 : inR v2) {p : Int × ZZ} (h : fX6_wall v1 v2 z = some p) : X mX6_wall 0 (xEnt [.ref (151), .int (iN (v1)), .int (iN (v2))] (xL mX6_wall)) [] (zmk ln N z) (cc_wi p) (6 * cc_wi p) (Qd (fa_wi p) (rs_wi p) (st_wi ln N p)) := by
  have k : Fin_wi (Qd (fa_wi p) (rs_wi p) (st_wi ln N p)) ln N p := Fin_wi_i
  unfold fX6_wall at h
  refine X_to (M := [some (.ref (151)), some (.int (iN (v1))), some (.int (iN (v2)))]) (su := []) rfl rfl ?_
  refine X_aload_n (pc' := 1) dX6_wall_0 rfl rfl ?_
  refine X_iconst (pc' := 2) dX6_wall_1 rfl ?_
  refine Y_put (k := 0) (j := 0) (v := 0) (pc' := 5) dX6_wall_2 rfl FX6_51 (zlN hN (by decide)) (congrArg Prod.fst (sh151 ln)) (fun r hr => by cases hr; rfl) (xFit_int _) rfl rfl ?_
  obtain ⟨z1, e1, hz1, h⟩ := zl_some (P := okz) h (okz_up hz (inR_c (n := 0) rfl))
  rw [e1]
  refine X_aload_n (pc' := 6) dX6_wall_5 rfl rfl ?_
  refine X_aload_n (pc' := 7) dX6_wall_6 rfl rfl ?_
  refine X_iload_n (pc' := 8) dX6_wall_7 rfl rfl ?_
  obtain ⟨r2, q2, h⟩ := bs h
  refine Y_callV [.int (iN (v1))] (pc' := 11) dX6_wall_8 rfl VX6_220 (by decide) (zlN hN (by decide)) (congrArg Prod.fst (sh151 ln)) rfl rfl rfl (cs rfl) (cs rfl) rfl (CX6_isWall hN hz1 rv1 q2) (Nat.zero_add _).symm (Nat.zero_add _).symm (fun f2 => ?_)
  refine X_iconst (pc' := 12) dX6_wall_11 rfl ?_
  obtain ⟨⟨r3, z3⟩, q3, h⟩ := bs h
  refine Y_callV [.int (iN (r2)), .int (iN (1))] (pc' := 15) dX6_wall_12 rfl VX6_62 (by decide) (zlN hN (by decide)) (congrArg Prod.fst (sh151 ln)) rfl rfl rfl (cs rfl) (cs rfl) rfl (CX6_fails hN hz1 (inR_b f2) (inR_c (n := 1) rfl) q3) (Nat.zero_add _).symm (Nat.zero_add _).symm (fun f3 => ?_)
  refine X_if_ne dX6_wall_15 (tgt := 35) rfl (pc' := 18) rfl (inR_b f3.1) (fun c4 => ?_) (fun c4 => ?_)
  · have h := if_f c4 h
    refine X_iconst (pc' := 36) dX6_wall_35 rfl ?_
    cases h
    exact X_iret dX6_wall_36 rfl (k ⟨(inR_c (n := 0) rfl), f3.2⟩)
  have h := if_t c4 h
  refine X_aload_n (pc' := 19) dX6_wall_18 rfl rfl ?_
  refine X_iload_n (pc' := 20) dX6_wall_19 rfl rfl ?_
  refine X_lI_i2l (pc' := 21) dX6_wall_20 rfl rv2 ?_
  refine X_lI_const (pc' := 22) dX6_wall_21 rfl (a := 0) rfl ?_
  refine X_ldc2 (pc' := 25) dX6_wall_22 rfl tq1530 (n := 5) rfl ?_
  obtain ⟨r5, q5, h⟩ := bs h
  refine Y_callS [.long (lI (v2)), .long (lI (0)), .long (lI (5))] (pc' := 28) dX6_wall_25 rfl SX6_66 (by decide) rfl (cs rfl) (cs rfl) rfl (CX6_in hN f3.2 (inL_R rv2) (inL_c (n := 0) rfl) (inL_c (n := 5) rfl) q5) (Nat.zero_add _).symm (Nat.zero_add _).symm (fun f5 => ?_)
  refine X_iconst (pc' := 29) dX6_wall_28 rfl ?_
  obtain ⟨⟨r6, z6⟩, q6, h⟩ := bs h
  refine Y_callV [.int (iN (r5)), .int (iN (2))] (pc' := 32) dX6_wall_29 rfl VX6_62 (by decide) (zlN hN (by decide)) (congrArg Prod.fst (sh151 ln)) rfl rfl rfl (cs rfl) (cs rfl) rfl (CX6_fails hN f3.2 (inR_b f5) (inR_c (n := 2) rfl) q6) (Nat.zero_add _).symm (Nat.zero_add _).symm (fun f6 => ?_)
  refine X_if_eq dX6_wall_32 (tgt := 37) rfl (pc' := 35) rfl (inR_b f6.1) (fun c7 => ?_) (fun c7 => ?_)
  · have h := if_t c7 h
    refine X_iload_n (pc' := 38) dX6_wall_37 rfl rfl ?_
    refine X_iconst (pc' := 39) dX6_wall_38 rfl ?_
    refine X_icmp_gt dX6_wall_39 (tgt := 49) rfl (pc' := 42) rfl ⟨rv2.1, rv2.2, (inR_c (n := 3) rfl).1, (inR_c (n := 3) rfl).2⟩ (fun c8 => ?_) (fun c8 => ?_)
    · have h := if_t c8 h
      refine X_iload_n (pc' := 50) dX6_wall_49 rfl rfl ?_
      refine X_iconst (pc' := 51) dX6_wall_50 rfl ?_
      refine X_icmp_ne dX6_wall_51 (tgt := 62) rfl (pc' := 54) rfl ⟨rv2.1, rv2.2, (inR_c (n := 4) rfl).1, (inR_c (n := 4) rfl).2⟩ (fun c9 => ?_) (fun c9 => ?_)
      · have h := if_f c9 h
        refine X_aload_n (pc' := 63) dX6_wall_62 rfl rfl ?_
        refine X_iload_n (pc' := 64) dX6_wall_63 rfl rfl ?_
        obtain ⟨r10, q10, h⟩ := bs h
        refine Y_callV [.int (iN (v1))] (pc' := 67) dX6_wall_64 rfl VX6_214 (by decide) (zlN hN (by decide)) (congrArg Prod.fst (sh151 ln)) rfl rfl rfl (cs rfl) (cs rfl) rfl (CX6_isClosed hN f6.2 rv1 q10) (Nat.zero_add _).symm (Nat.zero_add _).symm (fun f10 => ?_)
        refine X_if_eq dX6_wall_67 (tgt := 74) rfl (pc' := 70) rfl (inR_b f10) (fun c11 => ?_) (fun c11 => ?_)
        · have h := if_t c11 h
          refine X_iconst (pc' := 75) dX6_wall_74 rfl ?_
          cases h
          exact X_iret dX6_wall_75 rfl (k ⟨(inR_c (n := 0) rfl), f6.2⟩)
        have h := if_f c11 h
        refine X_iconst (pc' := 71) dX6_wall_70 rfl ?_
        refine X_goto dX6_wall_71 (tgt := 75) rfl ?_
        cases h
        exact X_iret dX6_wall_75 rfl (k ⟨(inR_c (n := 1) rfl), f6.2⟩)
      have h := if_t c9 h
      refine X_aload_n (pc' := 55) dX6_wall_54 rfl rfl ?_
      refine X_iload_n (pc' := 56) dX6_wall_55 rfl rfl ?_
      obtain ⟨r12, q12, h⟩ := bs h
      refine Y_callV [.int (iN (v1))] (pc' := 59) dX6_wall_56 rfl VX6_226 (by decide) (zlN hN (by decide)) (congrArg Prod.fst (sh151 ln)) rfl rfl rfl (cs rfl) (cs rfl) rfl (CX6_onWall hN f6.2 rv1 q12) (Nat.zero_add _).symm (Nat.zero_add _).symm (fun f12 => ?_)
      refine X_goto dX6_wall_59 (tgt := 75) rfl ?_
      cases h
      exact X_iret dX6_wall_75 rfl (k ⟨f12, f6.2⟩)
    have h := if_f (Int.not_lt.mpr c8) h
    refine X_aload_n (pc' := 43) dX6_wall_42 rfl rfl ?_
    refine X_iload_n (pc' := 44) dX6_wall_43 rfl rfl ?_
    refine X_iload_n (pc' := 45) dX6_wall_44 rfl rfl ?_
    obtain ⟨r13, q13, h⟩ := bs h
    refine Y_callV [.int (iN (v1)), .int (iN (v2))] (pc' := 48) dX6_wall_45 rfl VX6_195 (by decide) (zlN hN (by decide)) (congrArg Prod.fst (sh151 ln)) rfl rfl rfl (cs rfl) (cs rfl) rfl (CX6_wallPart hN f6.2 rv1 rv2 q13) (Nat.zero_add _).symm (Nat.zero_add _).symm (fun f13 => ?_)
    cases h
    exact X_iret dX6_wall_48 rfl (k ⟨f13, f6.2⟩)
  have h := if_f c7 h
  refine X_iconst (pc' := 36) dX6_wall_35 rfl ?_
  cases h
  exact X_iret dX6_wall_36 rfl (k ⟨(inR_c (n := 0) rfl), f6.2⟩)
def fX6_worstDay_b76 (v1 : Int) (v3 : Int) (s0 : Int) (z : ZZ) : Option ((Int × Int) ⊕ (Int)) := (if inR ((v3 + 1)) then some (.inl (s0, (v3 + 1))) else none)
set_option maxRecDepth 100000 in
theorem BX6_worstDay_76 {ln N : Nat} {z : ZZ} {v1 : Int} {v3 : Int} {s0 : Int} {c9 s9 : Nat} {Φ : xRes → xS → Prop} (hN : 159 ≤ N ∧ N < 999999) (hz : okz z) (rv1 : inR v1) (rv3 : inR v3) (rs0 : inR s0) {p : (Int × Int) ⊕ (Int)} (h : fX6_worstDay_b76 v1 v3 s0 z = some p) (k1 : ∀ (v2' : Int) (v3' : Int), p = .inl (v2', v3') → inR v2' → inR v3' → X mX6_worstDay 40 [some (.ref (151)), some (.int (iN (v1))), some (.int (iN (v2'))), some (.int (iN (v3')))] [] (zmk ln N z) c9 s9 Φ) (k2 : ∀ (v2' : Int), p = .inr v2' → inR v2' → X mX6_worstDay 83 [none, none, some (.int (iN (v2'))), none] [] (zmk ln N z) c9 s9 Φ) : X mX6_worstDay 76 [some (.ref (151)), some (.int (iN (v1))), none, some (.int (iN (v3)))] [.int (iN (s0))] (zmk ln N z) c9 s9 Φ := by
  unfold fX6_worstDay_b76 at h
  refine X_istore_n (pc' := 77) dX6_worstDay_76 rfl (cl rfl) (Or.inr rfl) (L' := [some (.ref (151)), some (.int (iN (v1))), some (.int (iN (s0))), some (.int (iN (v3)))]) rfl ?_
  refine X_iinc (pc' := 80) dX6_worstDay_77 rfl rfl (Or.inr rfl) (L' := [some (.ref (151)), some (.int (iN (v1))), some (.int (iN (s0))), some (.int (iN (v3 + 1)))]) rfl ?_
  refine X_goto dX6_worstDay_80 (tgt := 40) rfl ?_
  obtain ⟨g1, h⟩ := gs h
  cases h
  exact X_sub (sub_s (sub_s (sub_s (sub_s sub_0)))) (k1 _ _ rfl rs0 g1)
def fX6_worstDay_s40 (v1 : Int) (v2 : Int) (v3 : Int) (z : ZZ) : Option ((Int × Int) ⊕ (Int)) := (if inR (((z 154 (3)) + v1)) then (if (v3) < (((z 154 (3)) + v1)) then (Option.bind (fX6_openOn (v3) z) fun r3 => (Option.bind (fX6_bits (r3) z) fun r4 => (Option.bind (fX6_openOn (v2) z) fun r5 => (Option.bind (fX6_bits (r5) z) fun r6 => (if (r4) < (r6) then fX6_worstDay_b76 (v1) (v3) (v3) z else fX6_worstDay_b76 (v1) (v3) (v2) z))))) else some (.inr v2)) else none)
set_option maxRecDepth 100000 in
theorem SX6_worstDay_40 {ln N : Nat} {z : ZZ} {v1 : Int} {v2 : Int} {v3 : Int} {c9 s9 : Nat} {Φ : xRes → xS → Prop} (hN : 159 ≤ N ∧ N < 999999) (hz : okz z) (rv1 : inR v1) (rv2 : inR v2) (rv3 : inR v3) {p : (Int × Int) ⊕ (Int)} (h : fX6_worstDay_s40 v1 v2 v3 z = some p) (k1 : ∀ (v2' : Int) (v3' : Int), p = .inl (v2', v3') → inR v2' → inR v3' → X mX6_worstDay 40 [some (.ref (151)), some (.int (iN (v1))), some (.int (iN (v2'))), some (.int (iN (v3')))] [] (zmk ln N z) c9 s9 Φ) (k2 : ∀ (v2' : Int), p = .inr v2' → inR v2' → X mX6_worstDay 83 [none, none, some (.int (iN (v2'))), none] [] (zmk ln N z) c9 s9 Φ) : X mX6_worstDay 40 [some (.ref (151)), some (.int (iN (v1))), some (.int (iN (v2))), some (.int (iN (v3)))] [] (zmk ln N z) c9 s9 Φ := by
  unfold fX6_worstDay_s40 at h
  refine X_iload_n (pc' := 41) dX6_worstDay_40 rfl rfl ?_
  refine X_aload_n (pc' := 42) dX6_worstDay_41 rfl rfl ?_
  refine Y_get (pc' := 45) dX6_worstDay_42 rfl FX6_16 (zlN hN (by decide)) (congrArg Prod.fst (sh151 ln)) (ct151_9 z) ?_
  refine X_iconst (pc' := 46) dX6_worstDay_45 rfl ?_
  refine Y_iald (pc' := 47) dX6_worstDay_46 rfl (zlN hN (by decide)) (sh154 ln) (by decide) ⟨by decide, by decide⟩ ?_
  refine X_iload_n (pc' := 48) dX6_worstDay_47 rfl rfl ?_
  refine X_iadd (pc' := 49) dX6_worstDay_48 rfl ?_
  obtain ⟨g1, h⟩ := gs h
  refine X_icmp_ge dX6_worstDay_49 (tgt := 83) rfl (pc' := 52) rfl ⟨rv3.1, rv3.2, g1.1, g1.2⟩ (fun c2 => ?_) (fun c2 => ?_)
  · have h := if_f (Int.not_lt.mpr c2) h
    cases h
    exact X_sub (sub_n (sub_n (sub_s (sub_n sub_0)))) (k2 _ rfl rv2)
  have h := if_t c2 h
  refine X_aload_n (pc' := 53) dX6_worstDay_52 rfl rfl ?_
  refine X_iload_n (pc' := 54) dX6_worstDay_53 rfl rfl ?_
  obtain ⟨r3, q3, h⟩ := bs h
  refine Y_callV [.int (iN (v3))] (pc' := 57) dX6_worstDay_54 rfl VX6_325 (by decide) (zlN hN (by decide)) (congrArg Prod.fst (sh151 ln)) rfl rfl rfl (cs rfl) (cs rfl) rfl (CX6_openOn hN hz rv3 q3) (Nat.zero_add _).symm (Nat.zero_add _).symm (fun f3 => ?_)
  obtain ⟨r4, q4, h⟩ := bs h
  refine Y_callS [.int (iN (r3))] (pc' := 60) dX6_worstDay_57 rfl SX6_274 (by decide) rfl (cs rfl) (cs rfl) rfl (CX6_bits hN hz f3 q4) (Nat.zero_add _).symm (Nat.zero_add _).symm (fun f4 => ?_)
  refine X_aload_n (pc' := 61) dX6_worstDay_60 rfl rfl ?_
  refine X_iload_n (pc' := 62) dX6_worstDay_61 rfl rfl ?_
  obtain ⟨r5, q5, h⟩ := bs h
  refine Y_callV [.int (iN (v2))] (pc' := 65) dX6_worstDay_62 rfl VX6_325 (by decide) (zlN hN (by decide)) (congrArg Prod.fst (sh151 ln)) rfl rfl rfl (cs rfl) (cs rfl) rfl (CX6_openOn hN hz rv2 q5) (Nat.zero_add _).symm (Nat.zero_add _).symm (fun f5 => ?_)
  obtain ⟨r6, q6, h⟩ := bs h
  refine Y_callS [.int (iN (r5))] (pc' := 68) dX6_worstDay_65 rfl SX6_274 (by decide) rfl (cs rfl) (cs rfl) rfl (CX6_bits hN hz f5 q6) (Nat.zero_add _).symm (Nat.zero_add _).symm (fun f6 => ?_)
  refine X_icmp_ge dX6_worstDay_68 (tgt := 75) rfl (pc' := 71) rfl ⟨f4.1, f4.2, f6.1, f6.2⟩ (fun c7 => ?_) (fun c7 => ?_)
  · have h := if_f (Int.not_lt.mpr c7) h
    refine X_iload_n (pc' := 76) dX6_worstDay_75 rfl rfl ?_
    exact X_sub (sub_s (sub_s (sub_n (sub_s sub_0)))) (BX6_worstDay_76 hN hz rv1 rv3 rv2 h k1 k2)
  have h := if_t c7 h
  refine X_iload_n (pc' := 72) dX6_worstDay_71 rfl rfl ?_
  refine X_goto dX6_worstDay_72 (tgt := 76) rfl ?_
  exact X_sub (sub_s (sub_s (sub_n (sub_s sub_0)))) (BX6_worstDay_76 hN hz rv1 rv3 rv3 h k1 k2)
theorem LX6_worstDay_40 {ln N : Nat} {z : ZZ} {v1 : Int} {c9 s9 : Nat} {Φ : xRes → xS → Prop} (hN : 159 ≤ N ∧ N < 999999) (hz : okz z) (rv1 : inR v1) {r : Int} (k2 : ∀ (v2' : Int), r = v2' → inR v2' → X mX6_worstDay 83 [none, none, some (.int (iN (v2'))), none] [] (zmk ln N z) c9 s9 Φ) : ∀ (n : Nat) (v2 : Int) (v3 : Int), inR v2 → inR v3 → zlp (fun q => fX6_worstDay_s40 v1 q.1 q.2 z) n (v2, v3) = some r → X mX6_worstDay 40 [some (.ref (151)), some (.int (iN (v1))), some (.int (iN (v2))), some (.int (iN (v3)))] [] (zmk ln N z) c9 s9 Φ := by
  intro n
  induction n with
  | zero => intro v2 v3 rv2 rv3 h; cases h
  | succ n ih =>
    intro v2 v3 rv2 rv3 h
    rcases zlp_s h with ⟨⟨v2', v3'⟩, e, h'⟩ | e
    · exact SX6_worstDay_40 hN hz rv1 rv2 rv3 e (fun v2₁ v3₁ hh f0 f1 => by cases hh; exact ih _ _ f0 f1 h') (fun v2₁ hh f0 => by cases hh)
    · exact SX6_worstDay_40 hN hz rv1 rv2 rv3 e (fun v2₁ v3₁ hh f0 f1 => by cases hh) (fun v2₁ hh f0 => by cases hh; exact k2 _ rfl f0)
def fX6_worstDay (v1 : Int) (z : ZZ) : Option (Int × ZZ) := (zl (zup z 151 0 (0)) fun z1 => (Option.bind (fX6_in (v1) (1) (365) z1) fun r2 => (Option.bind (fX6_fails (r2) (1) z1) fun q3 => match q3 with | (r3, z3) => (if (r3) = (0) then (if inR (((z3 154 (3)) + 1)) then (Option.bind (zlp (fun q => fX6_worstDay_s40 (v1) q.1 q.2 z3) FU ((z3 154 (3)), ((z3 154 (3)) + 1))) fun x6_v2 => some (x6_v2, z3)) else none) else some (0, z3)))))
set_option maxRecDepth 100000 in
theorem CX6_worstDay {ln N : Nat} {z : ZZ} {v1 : Int} (hN : 159 ≤ N ∧ N < 999999) (hz : okz z) (rv1 : inR v1) {p : Int × ZZ} (h : fX6_worstDay v1 z = some p) : X mX6_worstDay 0 (xEnt [.ref (151), .int (iN (v1))] (xL mX6_worstDay)) [] (zmk ln N z) (cc_wi p) (6 * cc_wi p) (Qd (fa_wi p) (rs_wi p) (st_wi ln N p)) := by
  have k : Fin_wi (Qd (fa_wi p) (rs_wi p) (st_wi ln N p)) ln N p := Fin_wi_i
  unfold fX6_worstDay at h
  refine X_to (M := [some (.ref (151)), some (.int (iN (v1))), none, none]) (su := []) rfl rfl ?_
  refine X_aload_n (pc' := 1) dX6_worstDay_0 rfl rfl ?_
  refine X_iconst (pc' := 2) dX6_worstDay_1 rfl ?_
  refine Y_put (k := 0) (j := 0) (v := 0) (pc' := 5) dX6_worstDay_2 rfl FX6_51 (zlN hN (by decide)) (congrArg Prod.fst (sh151 ln)) (fun r hr => by cases hr; rfl) (xFit_int _) rfl rfl ?_
  obtain ⟨z1, e1, hz1, h⟩ := zl_some (P := okz) h (okz_up hz (inR_c (n := 0) rfl))
  rw [e1]
  refine X_aload_n (pc' := 6) dX6_worstDay_5 rfl rfl ?_
  refine X_iload_n (pc' := 7) dX6_worstDay_6 rfl rfl ?_
  refine X_lI_i2l (pc' := 8) dX6_worstDay_7 rfl rv1 ?_
  refine X_lI_const (pc' := 9) dX6_worstDay_8 rfl (a := 1) rfl ?_
  refine X_ldc2 (pc' := 12) dX6_worstDay_9 rfl tq1627 (n := 365) rfl ?_
  obtain ⟨r2, q2, h⟩ := bs h
  refine Y_callS [.long (lI (v1)), .long (lI (1)), .long (lI (365))] (pc' := 15) dX6_worstDay_12 rfl SX6_66 (by decide) rfl (cs rfl) (cs rfl) rfl (CX6_in hN hz1 (inL_R rv1) (inL_c (n := 1) rfl) (inL_c (n := 365) rfl) q2) (Nat.zero_add _).symm (Nat.zero_add _).symm (fun f2 => ?_)
  refine X_iconst (pc' := 16) dX6_worstDay_15 rfl ?_
  obtain ⟨⟨r3, z3⟩, q3, h⟩ := bs h
  refine Y_callV [.int (iN (r2)), .int (iN (1))] (pc' := 19) dX6_worstDay_16 rfl VX6_62 (by decide) (zlN hN (by decide)) (congrArg Prod.fst (sh151 ln)) rfl rfl rfl (cs rfl) (cs rfl) rfl (CX6_fails hN hz1 (inR_b f2) (inR_c (n := 1) rfl) q3) (Nat.zero_add _).symm (Nat.zero_add _).symm (fun f3 => ?_)
  refine X_if_eq dX6_worstDay_19 (tgt := 24) rfl (pc' := 22) rfl (inR_b f3.1) (fun c4 => ?_) (fun c4 => ?_)
  · have h := if_t c4 h
    refine X_aload_n (pc' := 25) dX6_worstDay_24 rfl rfl ?_
    refine Y_get (pc' := 28) dX6_worstDay_25 rfl FX6_16 (zlN hN (by decide)) (congrArg Prod.fst (sh151 ln)) (ct151_9 z3) ?_
    refine X_iconst (pc' := 29) dX6_worstDay_28 rfl ?_
    refine Y_iald (pc' := 30) dX6_worstDay_29 rfl (zlN hN (by decide)) (sh154 ln) (by decide) ⟨by decide, by decide⟩ ?_
    refine X_istore_n (pc' := 31) dX6_worstDay_30 rfl (cl rfl) (Or.inr rfl) (L' := [some (.ref (151)), some (.int (iN (v1))), some (.int (iN ((z3 154 (3))))), none]) rfl ?_
    refine X_aload_n (pc' := 32) dX6_worstDay_31 rfl rfl ?_
    refine Y_get (pc' := 35) dX6_worstDay_32 rfl FX6_16 (zlN hN (by decide)) (congrArg Prod.fst (sh151 ln)) (ct151_9 z3) ?_
    refine X_iconst (pc' := 36) dX6_worstDay_35 rfl ?_
    refine Y_iald (pc' := 37) dX6_worstDay_36 rfl (zlN hN (by decide)) (sh154 ln) (by decide) ⟨by decide, by decide⟩ ?_
    refine X_iconst (pc' := 38) dX6_worstDay_37 rfl ?_
    refine X_iadd (pc' := 39) dX6_worstDay_38 rfl ?_
    refine X_istore_n (pc' := 40) dX6_worstDay_39 rfl (cl rfl) (Or.inr rfl) (L' := [some (.ref (151)), some (.int (iN (v1))), some (.int (iN ((z3 154 (3))))), some (.int (iN (((z3 154 (3)) + 1))))]) rfl ?_
    obtain ⟨g5, h⟩ := gs h
    obtain ⟨x6_v2, q6, h⟩ := bs h
    refine X_sub (sub_s (sub_s (sub_s (sub_s sub_0)))) (LX6_worstDay_40 hN f3.2 rv1 (fun x6_v2₁ hh rx6_v2 => ?_) FU _ _ (f3.2 154 (3) (by decide)) g5 q6)
    cases hh
    refine X_iload_n (pc' := 84) dX6_worstDay_83 rfl rfl ?_
    cases h
    exact X_iret dX6_worstDay_84 rfl (k ⟨rx6_v2, f3.2⟩)
  have h := if_f c4 h
  refine X_iconst (pc' := 23) dX6_worstDay_22 rfl ?_
  cases h
  exact X_iret dX6_worstDay_23 rfl (k ⟨(inR_c (n := 0) rfl), f3.2⟩)

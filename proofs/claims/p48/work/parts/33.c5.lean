def fX5_bytesIn_b22 (v0 : Int) (v1 : Int) (v2 : Int) (z : ZZ) : Option ((Int × Int) ⊕ (Int)) := (if inR ((v2 + (-8))) then some (.inl (v1, (v2 + (-8)))) else none)
set_option maxRecDepth 100000 in
theorem BX5_bytesIn_22 {ln : ZR} {N : Nat} {z : ZZ} {v0 : Int} {v1 : Int} {v2 : Int} {c9 s9 : Nat} {Φ : xRes → xS → Prop} (hN : 151 ≤ N ∧ N < 999999) (hz : okz z) (rv0 : inR v0) (rv1 : inR v1) (rv2 : inR v2) {p : (Int × Int) ⊕ (Int)} (h : fX5_bytesIn_b22 v0 v1 v2 z = some p) (k1 : ∀ (v1' : Int) (v2' : Int), p = .inl (v1', v2') → inR v1' → inR v2' → X mX5_bytesIn 5 [some (.int (iN (v0))), some (.int (iN (v1'))), some (.int (iN (v2')))] [] (zmk ln N z) c9 s9 Φ) (k2 : ∀ (v1' : Int), p = .inr v1' → inR v1' → X mX5_bytesIn 28 [none, some (.int (iN (v1'))), none] [] (zmk ln N z) c9 s9 Φ) : X mX5_bytesIn 22 [some (.int (iN (v0))), some (.int (iN (v1))), some (.int (iN (v2)))] [] (zmk ln N z) c9 s9 Φ := by
  unfold fX5_bytesIn_b22 at h
  refine X_iinc (pc' := 25) dX5_bytesIn_22 rfl rfl (Or.inr rfl) (L' := [some (.int (iN (v0))), some (.int (iN (v1))), some (.int (iN (v2 + (-8))))]) rfl ?_
  refine X_goto dX5_bytesIn_25 (tgt := 5) rfl ?_
  obtain ⟨g1, h⟩ := gs h
  cases h
  exact X_sub (sub_s (sub_s (sub_s sub_0))) (k1 _ _ rfl rv1 g1)
def fX5_bytesIn_s5 (v0 : Int) (v1 : Int) (v2 : Int) (z : ZZ) : Option ((Int × Int) ⊕ (Int)) := (if (v2) < (0) then some (.inr v1) else (if ((zand (zushr v0 v2) 255)) = (0) then fX5_bytesIn_b22 (v0) (v1) (v2) z else (if inR ((v1 + 1)) then fX5_bytesIn_b22 (v0) ((v1 + 1)) (v2) z else none)))
set_option maxRecDepth 100000 in
theorem SX5_bytesIn_5 {ln : ZR} {N : Nat} {z : ZZ} {v0 : Int} {v1 : Int} {v2 : Int} {c9 s9 : Nat} {Φ : xRes → xS → Prop} (hN : 151 ≤ N ∧ N < 999999) (hz : okz z) (rv0 : inR v0) (rv1 : inR v1) (rv2 : inR v2) {p : (Int × Int) ⊕ (Int)} (h : fX5_bytesIn_s5 v0 v1 v2 z = some p) (k1 : ∀ (v1' : Int) (v2' : Int), p = .inl (v1', v2') → inR v1' → inR v2' → X mX5_bytesIn 5 [some (.int (iN (v0))), some (.int (iN (v1'))), some (.int (iN (v2')))] [] (zmk ln N z) c9 s9 Φ) (k2 : ∀ (v1' : Int), p = .inr v1' → inR v1' → X mX5_bytesIn 28 [none, some (.int (iN (v1'))), none] [] (zmk ln N z) c9 s9 Φ) : X mX5_bytesIn 5 [some (.int (iN (v0))), some (.int (iN (v1))), some (.int (iN (v2)))] [] (zmk ln N z) c9 s9 Φ := by
  unfold fX5_bytesIn_s5 at h
  refine X_iload_n (pc' := 6) dX5_bytesIn_5 rfl rfl ?_
  refine X_if_lt dX5_bytesIn_6 (tgt := 28) rfl (pc' := 9) rfl rv2 (fun c1 => ?_) (fun c1 => ?_)
  · have h := if_t c1 h
    cases h
    exact X_sub (sub_n (sub_s (sub_n sub_0))) (k2 _ rfl rv1)
  have h := if_f (Int.not_lt.mpr c1) h
  refine X_iload_n (pc' := 10) dX5_bytesIn_9 rfl rfl ?_
  refine X_iload_n (pc' := 11) dX5_bytesIn_10 rfl rfl ?_
  refine X_iushr (pc' := 12) dX5_bytesIn_11 rfl ?_
  refine X_sipush (pc' := 15) dX5_bytesIn_12 rfl (by decide) ?_
  refine X_iand (pc' := 16) dX5_bytesIn_15 rfl ?_
  refine X_if_eq dX5_bytesIn_16 (tgt := 22) rfl (pc' := 19) rfl (inR_zand _ _) (fun c2 => ?_) (fun c2 => ?_)
  · have h := if_t c2 h
    exact X_sub (sub_s (sub_s (sub_s sub_0))) (BX5_bytesIn_22 hN hz rv0 rv1 rv2 h k1 k2)
  have h := if_f c2 h
  refine X_iinc (pc' := 22) dX5_bytesIn_19 rfl rfl (Or.inr rfl) (L' := [some (.int (iN (v0))), some (.int (iN (v1 + 1))), some (.int (iN (v2)))]) rfl ?_
  obtain ⟨g3, h⟩ := gs h
  exact X_sub (sub_s (sub_s (sub_s sub_0))) (BX5_bytesIn_22 hN hz rv0 g3 rv2 h k1 k2)
theorem LX5_bytesIn_5 {ln : ZR} {N : Nat} {z : ZZ} {v0 : Int} {c9 s9 : Nat} {Φ : xRes → xS → Prop} (hN : 151 ≤ N ∧ N < 999999) (hz : okz z) (rv0 : inR v0) {r : Int} (k2 : ∀ (v1' : Int), r = v1' → inR v1' → X mX5_bytesIn 28 [none, some (.int (iN (v1'))), none] [] (zmk ln N z) c9 s9 Φ) : ∀ (n : Nat) (v1 : Int) (v2 : Int), inR v1 → inR v2 → zlp (fun q => fX5_bytesIn_s5 v0 q.1 q.2 z) n (v1, v2) = some r → X mX5_bytesIn 5 [some (.int (iN (v0))), some (.int (iN (v1))), some (.int (iN (v2)))] [] (zmk ln N z) c9 s9 Φ := by
  intro n
  induction n with
  | zero => intro v1 v2 rv1 rv2 h; cases h
  | succ n ih =>
    intro v1 v2 rv1 rv2 h
    rcases zlp_s h with ⟨⟨v1', v2'⟩, e, h'⟩ | e
    · exact SX5_bytesIn_5 hN hz rv0 rv1 rv2 e (fun v1₁ v2₁ hh f0 f1 => by cases hh; exact ih _ _ f0 f1 h') (fun v1₁ hh f0 => by cases hh)
    · exact SX5_bytesIn_5 hN hz rv0 rv1 rv2 e (fun v1₁ v2₁ hh f0 f1 => by cases hh) (fun v1₁ hh f0 => by cases hh; exact k2 _ rfl f0)
def fX5_bytesIn (v0 : Int) (z : ZZ) : Option (Int) := (Option.bind (zlp (fun q => fX5_bytesIn_s5 (v0) q.1 q.2 z) FU (0, 24)) fun x1_v1 => some (x1_v1))
set_option maxRecDepth 100000 in
theorem CX5_bytesIn {ln : ZR} {N : Nat} {z : ZZ} {v0 : Int} (hN : 151 ≤ N ∧ N < 999999) (hz : okz z) (rv0 : inR v0) {p : Int} (h : fX5_bytesIn v0 z = some p) : X mX5_bytesIn 0 (xEnt [.int (iN (v0))] (xL mX5_bytesIn)) [] (zmk ln N z) (cc_r p) (6 * cc_r p) (Qd (fa_r p) (rs_r p) (st_r ln N z p)) := by
  have k : Fin_r (Qd (fa_r p) (rs_r p) (st_r ln N z p)) ln N z p := Fin_r_i
  unfold fX5_bytesIn at h
  refine X_to (M := [some (.int (iN (v0))), none, none]) (su := []) rfl rfl ?_
  refine X_iconst (pc' := 1) dX5_bytesIn_0 rfl ?_
  refine X_istore_n (pc' := 2) dX5_bytesIn_1 rfl (cl rfl) (Or.inr rfl) (L' := [some (.int (iN (v0))), some (.int (iN (0))), none]) rfl ?_
  refine X_bipush (pc' := 4) dX5_bytesIn_2 rfl (by decide) ?_
  refine X_istore_n (pc' := 5) dX5_bytesIn_4 rfl (cl rfl) (Or.inr rfl) (L' := [some (.int (iN (v0))), some (.int (iN (0))), some (.int (iN (24)))]) rfl ?_
  obtain ⟨x1_v1, q1, h⟩ := bs h
  refine X_sub (sub_s (sub_s (sub_s sub_0))) (LX5_bytesIn_5 hN hz rv0 (fun x1_v1₁ hh rx1_v1 => ?_) FU _ _ (inR_c (n := 0) rfl) (inR_c (n := 24) rfl) q1)
  cases hh
  refine X_iload_n (pc' := 29) dX5_bytesIn_28 rfl rfl ?_
  cases h
  exact X_iret dX5_bytesIn_29 rfl (k rx1_v1)
def fX5_append (v1 : Int) (v2 : Int) (v3 : Int) (v4 : Int) (v5 : Int) (z : ZZ) : Option ((Int ⊕ Nat) × ZZ) := (Option.bind (fX5_bytesIn (v1) z) fun r1 => (Option.bind (fX5_bytesIn (v2) z) fun r2 => (Option.bind (fX5_bytesIn (v3) z) fun r3 => (Option.bind (fX5_bytesIn (v4) z) fun r4 => (Option.bind (fX5_bytesIn (v5) z) fun r5 => (if inR (((z 16 1) + ((((r1 + r2) + r3) + r4) + r5))) then (if (600) < (((z 16 1) + ((((r1 + r2) + r3) + r4) + r5))) then some (.inr 2, z) else (Option.bind (fX3_addBytesOf (v1) z) fun z8 => (Option.bind (fX3_addBytesOf (v2) z8) fun z9 => (Option.bind (fX3_addBytesOf (v3) z9) fun z10 => (Option.bind (fX3_addBytesOf (v4) z10) fun z11 => (Option.bind (fX3_addBytesOf (v5) z11) fun z12 => some (.inl ((z12 16 1)), z12))))))) else none))))))
set_option maxRecDepth 100000 in
theorem CX5_append {ln : ZR} {N : Nat} {z : ZZ} {v1 : Int} {v2 : Int} {v3 : Int} {v4 : Int} {v5 : Int} (hN : tN ln ≤ N ∧ N < 999999) (hz : okz z) (rv1 : inR v1) (rv2 : inR v2) (rv3 : inR v3) (rv4 : inR v4) (rv5 : inR v5) {p : (Int ⊕ Nat) × ZZ} (h : fX5_append v1 v2 v3 v4 v5 z = some p) : X mX5_append 0 (xEnt [.ref (0), .int (iN (v1)), .int (iN (v2)), .int (iN (v3)), .int (iN (v4)), .int (iN (v5))] (xL mX5_append)) [] (zmk ln N z) (cc_x p) (6 * cc_x p) (Qd (fa_x p) (rs_x p) (st_x ln N p)) := by
  have k : Fin_x (cc_x p) (6 * cc_x p) (Qd (fa_x p) (rs_x p) (st_x ln N p)) ln N p := Fin_x_i
  unfold fX5_append at h
  refine X_to (M := [some (.ref (0)), some (.int (iN (v1))), some (.int (iN (v2))), some (.int (iN (v3))), some (.int (iN (v4))), some (.int (iN (v5))), none]) (su := []) rfl rfl ?_
  refine X_iload_n (pc' := 1) dX5_append_0 rfl rfl ?_
  obtain ⟨r1, q1, h⟩ := bs h
  refine Y_callS [.int (iN (v1))] (pc' := 4) dX5_append_1 rfl SX5_51 (by decide) rfl (cs rfl) (cs rfl) rfl (CX5_bytesIn (hN1 hN) hz rv1 q1) (Nat.zero_add _).symm (Nat.zero_add _).symm (fun f1 => ?_)
  refine X_iload_n (pc' := 5) dX5_append_4 rfl rfl ?_
  obtain ⟨r2, q2, h⟩ := bs h
  refine Y_callS [.int (iN (v2))] (pc' := 8) dX5_append_5 rfl SX5_51 (by decide) rfl (cs rfl) (cs rfl) rfl (CX5_bytesIn (hN1 hN) hz rv2 q2) (Nat.zero_add _).symm (Nat.zero_add _).symm (fun f2 => ?_)
  refine X_iadd (pc' := 9) dX5_append_8 rfl ?_
  refine X_iload_n (pc' := 10) dX5_append_9 rfl rfl ?_
  obtain ⟨r3, q3, h⟩ := bs h
  refine Y_callS [.int (iN (v3))] (pc' := 13) dX5_append_10 rfl SX5_51 (by decide) rfl (cs rfl) (cs rfl) rfl (CX5_bytesIn (hN1 hN) hz rv3 q3) (Nat.zero_add _).symm (Nat.zero_add _).symm (fun f3 => ?_)
  refine X_iadd (pc' := 14) dX5_append_13 rfl ?_
  refine X_iload (pc' := 16) dX5_append_14 rfl rfl ?_
  obtain ⟨r4, q4, h⟩ := bs h
  refine Y_callS [.int (iN (v4))] (pc' := 19) dX5_append_16 rfl SX5_51 (by decide) rfl (cs rfl) (cs rfl) rfl (CX5_bytesIn (hN1 hN) hz rv4 q4) (Nat.zero_add _).symm (Nat.zero_add _).symm (fun f4 => ?_)
  refine X_iadd (pc' := 20) dX5_append_19 rfl ?_
  refine X_iload (pc' := 22) dX5_append_20 rfl rfl ?_
  obtain ⟨r5, q5, h⟩ := bs h
  refine Y_callS [.int (iN (v5))] (pc' := 25) dX5_append_22 rfl SX5_51 (by decide) rfl (cs rfl) (cs rfl) rfl (CX5_bytesIn (hN1 hN) hz rv5 q5) (Nat.zero_add _).symm (Nat.zero_add _).symm (fun f5 => ?_)
  refine X_iadd (pc' := 26) dX5_append_25 rfl ?_
  refine X_istore (pc' := 28) dX5_append_26 rfl (cl rfl) (Or.inr rfl) (L' := [some (.ref (0)), some (.int (iN (v1))), some (.int (iN (v2))), some (.int (iN (v3))), some (.int (iN (v4))), some (.int (iN (v5))), some (.int (iN (((((r1 + r2) + r3) + r4) + r5))))]) rfl ?_
  refine X_aload_n (pc' := 29) dX5_append_28 rfl rfl ?_
  refine Y_get (pc' := 32) dX5_append_29 rfl FX5_26 (zlN (hN1 hN) (by decide)) (congrArg Prod.fst (sh0 ln)) (ct0_1 z) ?_
  refine Y_get (pc' := 35) dX5_append_32 rfl FX5_55 (zlN (hN1 hN) (by decide)) (congrArg Prod.fst (sh16 ln)) (ct16_1 z) ?_
  refine X_iload (pc' := 37) dX5_append_35 rfl rfl ?_
  refine X_iadd (pc' := 38) dX5_append_37 rfl ?_
  refine X_sipush (pc' := 41) dX5_append_38 rfl (by decide) ?_
  obtain ⟨g6, h⟩ := gs h
  refine X_icmp_le dX5_append_41 (tgt := 54) rfl (pc' := 44) rfl ⟨g6.1, g6.2, (inR_c (n := 600) rfl).1, (inR_c (n := 600) rfl).2⟩ (fun c7 => ?_) (fun c7 => ?_)
  · have h := if_f (Int.not_lt.mpr c7) h
    refine X_aload_n (pc' := 55) dX5_append_54 rfl rfl ?_
    refine Y_get (pc' := 58) dX5_append_55 rfl FX5_26 (zlN (hN1 hN) (by decide)) (congrArg Prod.fst (sh0 ln)) (ct0_1 z) ?_
    refine X_iload_n (pc' := 59) dX5_append_58 rfl rfl ?_
    obtain ⟨z8, q8, h⟩ := bs h
    refine Y_callVv [.int (iN (v1))] (pc' := 62) dX5_append_59 rfl VX5_66 (by decide) (zlN (hN1 hN) (by decide)) (congrArg Prod.fst (sh16 ln)) rfl rfl rfl (cs rfl) (cs rfl) rfl (CX3_addBytesOf (hN1 hN) hz rv1 q8) (Nat.zero_add _).symm (Nat.zero_add _).symm (fun f8 => ?_)
    refine X_aload_n (pc' := 63) dX5_append_62 rfl rfl ?_
    refine Y_get (pc' := 66) dX5_append_63 rfl FX5_26 (zlN (hN1 hN) (by decide)) (congrArg Prod.fst (sh0 ln)) (ct0_1 z8) ?_
    refine X_iload_n (pc' := 67) dX5_append_66 rfl rfl ?_
    obtain ⟨z9, q9, h⟩ := bs h
    refine Y_callVv [.int (iN (v2))] (pc' := 70) dX5_append_67 rfl VX5_66 (by decide) (zlN (hN1 hN) (by decide)) (congrArg Prod.fst (sh16 ln)) rfl rfl rfl (cs rfl) (cs rfl) rfl (CX3_addBytesOf (hN1 hN) f8 rv2 q9) (Nat.zero_add _).symm (Nat.zero_add _).symm (fun f9 => ?_)
    refine X_aload_n (pc' := 71) dX5_append_70 rfl rfl ?_
    refine Y_get (pc' := 74) dX5_append_71 rfl FX5_26 (zlN (hN1 hN) (by decide)) (congrArg Prod.fst (sh0 ln)) (ct0_1 z9) ?_
    refine X_iload_n (pc' := 75) dX5_append_74 rfl rfl ?_
    obtain ⟨z10, q10, h⟩ := bs h
    refine Y_callVv [.int (iN (v3))] (pc' := 78) dX5_append_75 rfl VX5_66 (by decide) (zlN (hN1 hN) (by decide)) (congrArg Prod.fst (sh16 ln)) rfl rfl rfl (cs rfl) (cs rfl) rfl (CX3_addBytesOf (hN1 hN) f9 rv3 q10) (Nat.zero_add _).symm (Nat.zero_add _).symm (fun f10 => ?_)
    refine X_aload_n (pc' := 79) dX5_append_78 rfl rfl ?_
    refine Y_get (pc' := 82) dX5_append_79 rfl FX5_26 (zlN (hN1 hN) (by decide)) (congrArg Prod.fst (sh0 ln)) (ct0_1 z10) ?_
    refine X_iload (pc' := 84) dX5_append_82 rfl rfl ?_
    obtain ⟨z11, q11, h⟩ := bs h
    refine Y_callVv [.int (iN (v4))] (pc' := 87) dX5_append_84 rfl VX5_66 (by decide) (zlN (hN1 hN) (by decide)) (congrArg Prod.fst (sh16 ln)) rfl rfl rfl (cs rfl) (cs rfl) rfl (CX3_addBytesOf (hN1 hN) f10 rv4 q11) (Nat.zero_add _).symm (Nat.zero_add _).symm (fun f11 => ?_)
    refine X_aload_n (pc' := 88) dX5_append_87 rfl rfl ?_
    refine Y_get (pc' := 91) dX5_append_88 rfl FX5_26 (zlN (hN1 hN) (by decide)) (congrArg Prod.fst (sh0 ln)) (ct0_1 z11) ?_
    refine X_iload (pc' := 93) dX5_append_91 rfl rfl ?_
    obtain ⟨z12, q12, h⟩ := bs h
    refine Y_callVv [.int (iN (v5))] (pc' := 96) dX5_append_93 rfl VX5_66 (by decide) (zlN (hN1 hN) (by decide)) (congrArg Prod.fst (sh16 ln)) rfl rfl rfl (cs rfl) (cs rfl) rfl (CX3_addBytesOf (hN1 hN) f11 rv5 q12) (Nat.zero_add _).symm (Nat.zero_add _).symm (fun f12 => ?_)
    refine X_aload_n (pc' := 97) dX5_append_96 rfl rfl ?_
    refine Y_get (pc' := 100) dX5_append_97 rfl FX5_26 (zlN (hN1 hN) (by decide)) (congrArg Prod.fst (sh0 ln)) (ct0_1 z12) ?_
    refine Y_get (pc' := 103) dX5_append_100 rfl FX5_55 (zlN (hN1 hN) (by decide)) (congrArg Prod.fst (sh16 ln)) (ct16_1 z12) ?_
    cases h
    exact X_iret dX5_append_103 rfl (k.2 ⟨(f12 16 1 (by decide)), f12⟩)
  have h := if_t c7 h
  cases h
  exact Y_throw (w := 2) dX5_append_44 dX5_append_47 (Or.inl ⟨rfl, dX5_append_48⟩) dX5_append_50 dX5_append_53 ThX5_2 strX5_61 (cs rfl) hN k.1.1 k.1.2 rfl (k.2 hz)
def fX5_needRow (t : Nat) (v1 : Int) (z : ZZ) : Option (Int ⊕ Nat) := (Option.bind (fX4_hasRow t (v1) z) fun r1 => (if (r1) = (0) then some (.inr 0) else some (.inl 0)))
set_option maxRecDepth 100000 in
theorem CX5_needRow {ln : ZR} {N : Nat} {z : ZZ} {t : Nat} {v1 : Int} (hN : tN ln ≤ N ∧ N < 999999) (hz : okz z) (ht : isT t) (rv1 : inR v1) {p : Int ⊕ Nat} (h : fX5_needRow t v1 z = some p) : X mX5_needRow 0 (xEnt [.ref (t), .int (iN (v1))] (xL mX5_needRow)) [] (zmk ln N z) (cc_yv p) (6 * cc_yv p) (Qd (fa_yv p) (rs_yv p) (st_yv ln N z p)) := by
  have k : Fin_yv (cc_yv p) (6 * cc_yv p) (Qd (fa_yv p) (rs_yv p) (st_yv ln N z p)) ln N z p := Fin_yv_i
  unfold fX5_needRow at h
  refine X_to (M := [some (.ref (t)), some (.int (iN (v1)))]) (su := []) rfl rfl ?_
  refine X_aload_n (pc' := 1) dX5_needRow_0 rfl rfl ?_
  refine X_iload_n (pc' := 2) dX5_needRow_1 rfl rfl ?_
  obtain ⟨r1, q1, h⟩ := bs h
  refine Y_callV [.int (iN (v1))] (pc' := 5) dX5_needRow_2 rfl VX5_323 (by decide) (isT_lt ht (hN1 hN)) (isT_sh ht ln) rfl rfl rfl (cs rfl) (cs rfl) rfl (CX4_hasRow (hN1 hN) hz ht rv1 q1) (Nat.zero_add _).symm (Nat.zero_add _).symm (fun f1 => ?_)
  refine X_if_ne dX5_needRow_5 (tgt := 19) rfl (pc' := 8) rfl (inR_b f1) (fun c2 => ?_) (fun c2 => ?_)
  · have h := if_f c2 h
    cases h
    exact X_vret dX5_needRow_19 rfl (k.2 trivial)
  have h := if_t c2 h
  cases h
  exact Y_throw (w := 3) dX5_needRow_8 dX5_needRow_11 (Or.inr ⟨rfl, dX5_needRow_12⟩) dX5_needRow_15 dX5_needRow_18 ThX5_0 strX5_328 (cs rfl) hN k.1.1 k.1.2 rfl (k.2 trivial)
def fX5_needBetween_b10 (z : ZZ) : Option (Int ⊕ Nat) := some (.inr 1)
set_option maxRecDepth 100000 in
theorem BX5_needBetween_10 {ln : ZR} {N : Nat} {z : ZZ} {c9 s9 : Nat} {Φ : xRes → xS → Prop} (hN : tN ln ≤ N ∧ N < 999999) (hz : okz z) {p : Int ⊕ Nat} (h : fX5_needBetween_b10 z = some p) (k : Fin_yv c9 s9 Φ ln N z p) : X mX5_needBetween 10 [none, none, none] [] (zmk ln N z) c9 s9 Φ := by
  unfold fX5_needBetween_b10 at h
  cases h
  exact Y_throw (w := 3) dX5_needBetween_10 dX5_needBetween_13 (Or.inr ⟨rfl, dX5_needBetween_14⟩) dX5_needBetween_17 dX5_needBetween_20 ThX5_1 strX5_331 (cs rfl) hN k.1.1 k.1.2 rfl (k.2 trivial)
def fX5_needBetween (v0 : Int) (v1 : Int) (v2 : Int) (z : ZZ) : Option (Int ⊕ Nat) := (if (v0) < (v1) then fX5_needBetween_b10  z else (if (v2) < (v0) then fX5_needBetween_b10  z else some (.inl 0)))
set_option maxRecDepth 100000 in
theorem CX5_needBetween {ln : ZR} {N : Nat} {z : ZZ} {v0 : Int} {v1 : Int} {v2 : Int} (hN : tN ln ≤ N ∧ N < 999999) (hz : okz z) (rv0 : inR v0) (rv1 : inR v1) (rv2 : inR v2) {p : Int ⊕ Nat} (h : fX5_needBetween v0 v1 v2 z = some p) : X mX5_needBetween 0 (xEnt [.int (iN (v0)), .int (iN (v1)), .int (iN (v2))] (xL mX5_needBetween)) [] (zmk ln N z) (cc_yv p) (6 * cc_yv p) (Qd (fa_yv p) (rs_yv p) (st_yv ln N z p)) := by
  have k : Fin_yv (cc_yv p) (6 * cc_yv p) (Qd (fa_yv p) (rs_yv p) (st_yv ln N z p)) ln N z p := Fin_yv_i
  unfold fX5_needBetween at h
  refine X_to (M := [some (.int (iN (v0))), some (.int (iN (v1))), some (.int (iN (v2)))]) (su := []) rfl rfl ?_
  refine X_iload_n (pc' := 1) dX5_needBetween_0 rfl rfl ?_
  refine X_iload_n (pc' := 2) dX5_needBetween_1 rfl rfl ?_
  refine X_icmp_lt dX5_needBetween_2 (tgt := 10) rfl (pc' := 5) rfl ⟨rv0.1, rv0.2, rv1.1, rv1.2⟩ (fun c1 => ?_) (fun c1 => ?_)
  · have h := if_t c1 h
    exact X_sub (sub_n (sub_n (sub_n sub_0))) (BX5_needBetween_10 hN hz h k)
  have h := if_f (Int.not_lt.mpr c1) h
  refine X_iload_n (pc' := 6) dX5_needBetween_5 rfl rfl ?_
  refine X_iload_n (pc' := 7) dX5_needBetween_6 rfl rfl ?_
  refine X_icmp_le dX5_needBetween_7 (tgt := 21) rfl (pc' := 10) rfl ⟨rv0.1, rv0.2, rv2.1, rv2.2⟩ (fun c2 => ?_) (fun c2 => ?_)
  · have h := if_f (Int.not_lt.mpr c2) h
    cases h
    exact X_vret dX5_needBetween_21 rfl (k.2 trivial)
  have h := if_t c2 h
  exact X_sub (sub_n (sub_n (sub_n sub_0))) (BX5_needBetween_10 hN hz h k)
def fX5_archived (v1 : Int) (v2 : Int) (z : ZZ) : Option (Int ⊕ Nat) := (Option.bind (fX5_needRow 8 (v1) z) fun q1 => match q1 with | .inl r1 => (Option.bind (fX5_needBetween (v2) (0) (3) z) fun q2 => match q2 with | .inl r2 => (Option.bind (fX4_get 8 (v1) (v2) z) fun r3 => some (.inl (r3))) | .inr E2 => some (.inr E2)) | .inr E1 => some (.inr E1))
set_option maxRecDepth 100000 in
theorem CX5_archived {ln : ZR} {N : Nat} {z : ZZ} {v1 : Int} {v2 : Int} (hN : tN ln ≤ N ∧ N < 999999) (hz : okz z) (rv1 : inR v1) (rv2 : inR v2) {p : Int ⊕ Nat} (h : fX5_archived v1 v2 z = some p) : X mX5_archived 0 (xEnt [.ref (0), .int (iN (v1)), .int (iN (v2))] (xL mX5_archived)) [] (zmk ln N z) (cc_y p) (6 * cc_y p) (Qd (fa_y p) (rs_y p) (st_y ln N z p)) := by
  have k : Fin_y (cc_y p) (6 * cc_y p) (Qd (fa_y p) (rs_y p) (st_y ln N z p)) ln N z p := Fin_y_i
  unfold fX5_archived at h
  refine X_to (M := [some (.ref (0)), some (.int (iN (v1))), some (.int (iN (v2)))]) (su := []) rfl rfl ?_
  refine X_aload_n (pc' := 1) dX5_archived_0 rfl rfl ?_
  refine Y_get (pc' := 4) dX5_archived_1 rfl FX5_17 (zlN (hN1 hN) (by decide)) (congrArg Prod.fst (sh0 ln)) (ct0_0 z) ?_
  refine Y_get (pc' := 7) dX5_archived_4 rfl FX5_237 (zlN (hN1 hN) (by decide)) (congrArg Prod.fst (sh3 ln)) (ct3_2 z) ?_
  refine X_iload_n (pc' := 8) dX5_archived_7 rfl rfl ?_
  obtain ⟨r1 | E1, q1, h⟩ := bs h
  rotate_left
  · cases h
    exact Y_callSx [.ref (8), .int (iN (v1))] (pc' := 11) dX5_archived_8 rfl SX5_100 (by decide) rfl (cs rfl) (cs rfl) rfl (CX5_needRow hN hz kT8 rv1 q1) k.1.1 k.1.2 rfl (fun f1 => k.2 trivial)
  refine Y_callSv [.ref (8), .int (iN (v1))] (pc' := 11) dX5_archived_8 rfl SX5_100 (by decide) rfl (cs rfl) (cs rfl) rfl (CX5_needRow hN hz kT8 rv1 q1) (Nat.zero_add _).symm (Nat.zero_add _).symm (fun f1 => ?_)
  refine X_iload_n (pc' := 12) dX5_archived_11 rfl rfl ?_
  refine X_iconst (pc' := 13) dX5_archived_12 rfl ?_
  refine X_iconst (pc' := 14) dX5_archived_13 rfl ?_
  obtain ⟨r2 | E2, q2, h⟩ := bs h
  rotate_left
  · cases h
    exact Y_callSx [.int (iN (v2)), .int (iN (0)), .int (iN (3))] (pc' := 17) dX5_archived_14 rfl SX5_70 (by decide) rfl (cs rfl) (cs rfl) rfl (CX5_needBetween hN hz rv2 (inR_c (n := 0) rfl) (inR_c (n := 3) rfl) q2) k.1.1 k.1.2 rfl (fun f2 => k.2 trivial)
  refine Y_callSv [.int (iN (v2)), .int (iN (0)), .int (iN (3))] (pc' := 17) dX5_archived_14 rfl SX5_70 (by decide) rfl (cs rfl) (cs rfl) rfl (CX5_needBetween hN hz rv2 (inR_c (n := 0) rfl) (inR_c (n := 3) rfl) q2) (Nat.zero_add _).symm (Nat.zero_add _).symm (fun f2 => ?_)
  refine X_aload_n (pc' := 18) dX5_archived_17 rfl rfl ?_
  refine Y_get (pc' := 21) dX5_archived_18 rfl FX5_17 (zlN (hN1 hN) (by decide)) (congrArg Prod.fst (sh0 ln)) (ct0_0 z) ?_
  refine Y_get (pc' := 24) dX5_archived_21 rfl FX5_237 (zlN (hN1 hN) (by decide)) (congrArg Prod.fst (sh3 ln)) (ct3_2 z) ?_
  refine X_iload_n (pc' := 25) dX5_archived_24 rfl rfl ?_
  refine X_iload_n (pc' := 26) dX5_archived_25 rfl rfl ?_
  obtain ⟨r3, q3, h⟩ := bs h
  refine Y_callV [.int (iN (v1)), .int (iN (v2))] (pc' := 29) dX5_archived_26 rfl VX5_163 (by decide) (zlN (hN1 hN) (by decide)) (congrArg Prod.fst (sh8 ln)) rfl rfl rfl (cs rfl) (cs rfl) rfl (CX4_get (hN1 hN) hz kT8 rv1 rv2 q3) (Nat.zero_add _).symm (Nat.zero_add _).symm (fun f3 => ?_)
  cases h
  exact X_iret dX5_archived_29 rfl (k.2 f3)
def fX5_check (v1 : Int) (v2 : Int) (z : ZZ) : Option ((Int ⊕ Nat) × ZZ) := (Option.bind (fX5_needRow 10 (v1) z) fun q1 => match q1 with | .inl r1 => (Option.bind (fX1_stateOf (v1) z) fun r2 => (if (r2) = (0) then (Option.bind (fX2_remember z) fun z4 => (Option.bind (fX1_addCheck (v1) (v2) z4) fun z5 => (if (v2) = (0) then some (.inl ((-1)), z5) else (Option.bind (fX1_lapseOf (v1) z5) fun r7 => some (.inl (r7), z5))))) else some (.inr 2, z))) | .inr E1 => some (.inr E1, z))
set_option maxRecDepth 100000 in
theorem CX5_check {ln : ZR} {N : Nat} {z : ZZ} {v1 : Int} {v2 : Int} (hN : tN ln ≤ N ∧ N < 999999) (hz : okz z) (rv1 : inR v1) (rv2 : inR v2) {p : (Int ⊕ Nat) × ZZ} (h : fX5_check v1 v2 z = some p) : X mX5_check 0 (xEnt [.ref (0), .int (iN (v1)), .int (iN (v2))] (xL mX5_check)) [] (zmk ln N z) (cc_x p) (6 * cc_x p) (Qd (fa_x p) (rs_x p) (st_x ln N p)) := by
  have k : Fin_x (cc_x p) (6 * cc_x p) (Qd (fa_x p) (rs_x p) (st_x ln N p)) ln N p := Fin_x_i
  unfold fX5_check at h
  refine X_to (M := [some (.ref (0)), some (.int (iN (v1))), some (.int (iN (v2)))]) (su := []) rfl rfl ?_
  refine X_aload_n (pc' := 1) dX5_check_0 rfl rfl ?_
  refine Y_get (pc' := 4) dX5_check_1 rfl FX5_17 (zlN (hN1 hN) (by decide)) (congrArg Prod.fst (sh0 ln)) (ct0_0 z) ?_
  refine Y_get (pc' := 7) dX5_check_4 rfl FX5_155 (zlN (hN1 hN) (by decide)) (congrArg Prod.fst (sh3 ln)) (ct3_3 z) ?_
  refine X_iload_n (pc' := 8) dX5_check_7 rfl rfl ?_
  obtain ⟨r1 | E1, q1, h⟩ := bs h
  rotate_left
  · cases h
    exact Y_callSx [.ref (10), .int (iN (v1))] (pc' := 11) dX5_check_8 rfl SX5_100 (by decide) rfl (cs rfl) (cs rfl) rfl (CX5_needRow hN hz kT10 rv1 q1) k.1.1 k.1.2 rfl (fun f1 => k.2 hz)
  refine Y_callSv [.ref (10), .int (iN (v1))] (pc' := 11) dX5_check_8 rfl SX5_100 (by decide) rfl (cs rfl) (cs rfl) rfl (CX5_needRow hN hz kT10 rv1 q1) (Nat.zero_add _).symm (Nat.zero_add _).symm (fun f1 => ?_)
  refine X_aload_n (pc' := 12) dX5_check_11 rfl rfl ?_
  refine Y_get (pc' := 15) dX5_check_12 rfl FX5_17 (zlN (hN1 hN) (by decide)) (congrArg Prod.fst (sh0 ln)) (ct0_0 z) ?_
  refine X_iload_n (pc' := 16) dX5_check_15 rfl rfl ?_
  obtain ⟨r2, q2, h⟩ := bs h
  refine Y_callV [.int (iN (v1))] (pc' := 19) dX5_check_16 rfl VX5_178 (by decide) (zlN (hN1 hN) (by decide)) (congrArg Prod.fst (sh3 ln)) rfl rfl rfl (cs rfl) (cs rfl) rfl (CX1_stateOf (hN1 hN) hz rv1 q2) (Nat.zero_add _).symm (Nat.zero_add _).symm (fun f2 => ?_)
  refine X_if_eq dX5_check_19 (tgt := 32) rfl (pc' := 22) rfl f2 (fun c3 => ?_) (fun c3 => ?_)
  · have h := if_t c3 h
    refine X_aload_n (pc' := 33) dX5_check_32 rfl rfl ?_
    refine Y_get (pc' := 36) dX5_check_33 rfl FX5_33 (zlN (hN1 hN) (by decide)) (congrArg Prod.fst (sh0 ln)) (ct0_2 z) ?_
    refine X_aload_n (pc' := 37) dX5_check_36 rfl rfl ?_
    refine Y_get (pc' := 40) dX5_check_37 rfl FX5_17 (zlN (hN1 hN) (by decide)) (congrArg Prod.fst (sh0 ln)) (ct0_0 z) ?_
    obtain ⟨z4, q4, h⟩ := bs h
    refine Y_callVv [.ref (3)] (pc' := 43) dX5_check_40 rfl VX5_122 (by decide) (zlN (hN1 hN) (by decide)) (congrArg Prod.fst (sh32 ln)) rfl rfl rfl (cs rfl) (cs rfl) rfl (CX2_remember (hN1 hN) hz q4) (Nat.zero_add _).symm (Nat.zero_add _).symm (fun f4 => ?_)
    refine X_aload_n (pc' := 44) dX5_check_43 rfl rfl ?_
    refine Y_get (pc' := 47) dX5_check_44 rfl FX5_17 (zlN (hN1 hN) (by decide)) (congrArg Prod.fst (sh0 ln)) (ct0_0 z4) ?_
    refine X_iload_n (pc' := 48) dX5_check_47 rfl rfl ?_
    refine X_iload_n (pc' := 49) dX5_check_48 rfl rfl ?_
    obtain ⟨z5, q5, h⟩ := bs h
    refine Y_callVv [.int (iN (v1)), .int (iN (v2))] (pc' := 52) dX5_check_49 rfl VX5_183 (by decide) (zlN (hN1 hN) (by decide)) (congrArg Prod.fst (sh3 ln)) rfl rfl rfl (cs rfl) (cs rfl) rfl (CX1_addCheck (hN1 hN) f4 rv1 rv2 q5) (Nat.zero_add _).symm (Nat.zero_add _).symm (fun f5 => ?_)
    refine X_iload_n (pc' := 53) dX5_check_52 rfl rfl ?_
    refine X_if_eq dX5_check_53 (tgt := 67) rfl (pc' := 56) rfl rv2 (fun c6 => ?_) (fun c6 => ?_)
    · have h := if_t c6 h
      refine X_iconst (pc' := 68) dX5_check_67 rfl ?_
      cases h
      exact X_iret dX5_check_68 rfl (k.2 ⟨(inR_c (n := (-1)) rfl), f5⟩)
    have h := if_f c6 h
    refine X_aload_n (pc' := 57) dX5_check_56 rfl rfl ?_
    refine Y_get (pc' := 60) dX5_check_57 rfl FX5_17 (zlN (hN1 hN) (by decide)) (congrArg Prod.fst (sh0 ln)) (ct0_0 z5) ?_
    refine X_iload_n (pc' := 61) dX5_check_60 rfl rfl ?_
    obtain ⟨r7, q7, h⟩ := bs h
    refine Y_callV [.int (iN (v1))] (pc' := 64) dX5_check_61 rfl VX5_173 (by decide) (zlN (hN1 hN) (by decide)) (congrArg Prod.fst (sh3 ln)) rfl rfl rfl (cs rfl) (cs rfl) rfl (CX1_lapseOf (hN1 hN) f5 rv1 q7) (Nat.zero_add _).symm (Nat.zero_add _).symm (fun f7 => ?_)
    refine X_goto dX5_check_64 (tgt := 68) rfl ?_
    cases h
    exact X_iret dX5_check_68 rfl (k.2 ⟨f7, f5⟩)
  have h := if_f c3 h
  cases h
  exact Y_throw (w := 2) dX5_check_22 dX5_check_25 (Or.inl ⟨rfl, dX5_check_26⟩) dX5_check_28 dX5_check_31 ThX5_2 strX5_181 (cs rfl) hN k.1.1 k.1.2 rfl (k.2 hz)
def fX5_climb (v1 : Int) (v2 : Int) (z : ZZ) : Option ((Int ⊕ Nat) × ZZ) := (Option.bind (fX5_needRow 12 (v1) z) fun q1 => match q1 with | .inl r1 => (Option.bind (fX5_needRow 6 (v2) z) fun q2 => match q2 with | .inl r2 => (Option.bind (fX1_mayClimb (v1) (v2) z) fun r3 => (if (r3) = (0) then some (.inr 2, z) else (Option.bind (fX2_remember z) fun z5 => (Option.bind (fX1_addClimb (v1) (v2) z5) fun q6 => match q6 with | (r6, z6) => some (.inl (r6), z6))))) | .inr E2 => some (.inr E2, z)) | .inr E1 => some (.inr E1, z))
set_option maxRecDepth 100000 in
theorem CX5_climb {ln : ZR} {N : Nat} {z : ZZ} {v1 : Int} {v2 : Int} (hN : tN ln ≤ N ∧ N < 999999) (hz : okz z) (rv1 : inR v1) (rv2 : inR v2) {p : (Int ⊕ Nat) × ZZ} (h : fX5_climb v1 v2 z = some p) : X mX5_climb 0 (xEnt [.ref (0), .int (iN (v1)), .int (iN (v2))] (xL mX5_climb)) [] (zmk ln N z) (cc_x p) (6 * cc_x p) (Qd (fa_x p) (rs_x p) (st_x ln N p)) := by
  have k : Fin_x (cc_x p) (6 * cc_x p) (Qd (fa_x p) (rs_x p) (st_x ln N p)) ln N p := Fin_x_i
  unfold fX5_climb at h
  refine X_to (M := [some (.ref (0)), some (.int (iN (v1))), some (.int (iN (v2)))]) (su := []) rfl rfl ?_
  refine X_aload_n (pc' := 1) dX5_climb_0 rfl rfl ?_
  refine Y_get (pc' := 4) dX5_climb_1 rfl FX5_17 (zlN (hN1 hN) (by decide)) (congrArg Prod.fst (sh0 ln)) (ct0_0 z) ?_
  refine Y_get (pc' := 7) dX5_climb_4 rfl FX5_132 (zlN (hN1 hN) (by decide)) (congrArg Prod.fst (sh3 ln)) (ct3_4 z) ?_
  refine X_iload_n (pc' := 8) dX5_climb_7 rfl rfl ?_
  obtain ⟨r1 | E1, q1, h⟩ := bs h
  rotate_left
  · cases h
    exact Y_callSx [.ref (12), .int (iN (v1))] (pc' := 11) dX5_climb_8 rfl SX5_100 (by decide) rfl (cs rfl) (cs rfl) rfl (CX5_needRow hN hz kT12 rv1 q1) k.1.1 k.1.2 rfl (fun f1 => k.2 hz)
  refine Y_callSv [.ref (12), .int (iN (v1))] (pc' := 11) dX5_climb_8 rfl SX5_100 (by decide) rfl (cs rfl) (cs rfl) rfl (CX5_needRow hN hz kT12 rv1 q1) (Nat.zero_add _).symm (Nat.zero_add _).symm (fun f1 => ?_)
  refine X_aload_n (pc' := 12) dX5_climb_11 rfl rfl ?_
  refine Y_get (pc' := 15) dX5_climb_12 rfl FX5_17 (zlN (hN1 hN) (by decide)) (congrArg Prod.fst (sh0 ln)) (ct0_0 z) ?_
  refine Y_get (pc' := 18) dX5_climb_15 rfl FX5_113 (zlN (hN1 hN) (by decide)) (congrArg Prod.fst (sh3 ln)) (ct3_1 z) ?_
  refine X_iload_n (pc' := 19) dX5_climb_18 rfl rfl ?_
  obtain ⟨r2 | E2, q2, h⟩ := bs h
  rotate_left
  · cases h
    exact Y_callSx [.ref (6), .int (iN (v2))] (pc' := 22) dX5_climb_19 rfl SX5_100 (by decide) rfl (cs rfl) (cs rfl) rfl (CX5_needRow hN hz kT6 rv2 q2) k.1.1 k.1.2 rfl (fun f2 => k.2 hz)
  refine Y_callSv [.ref (6), .int (iN (v2))] (pc' := 22) dX5_climb_19 rfl SX5_100 (by decide) rfl (cs rfl) (cs rfl) rfl (CX5_needRow hN hz kT6 rv2 q2) (Nat.zero_add _).symm (Nat.zero_add _).symm (fun f2 => ?_)
  refine X_aload_n (pc' := 23) dX5_climb_22 rfl rfl ?_
  refine Y_get (pc' := 26) dX5_climb_23 rfl FX5_17 (zlN (hN1 hN) (by decide)) (congrArg Prod.fst (sh0 ln)) (ct0_0 z) ?_
  refine X_iload_n (pc' := 27) dX5_climb_26 rfl rfl ?_
  refine X_iload_n (pc' := 28) dX5_climb_27 rfl rfl ?_
  obtain ⟨r3, q3, h⟩ := bs h
  refine Y_callV [.int (iN (v1)), .int (iN (v2))] (pc' := 31) dX5_climb_28 rfl VX5_135 (by decide) (zlN (hN1 hN) (by decide)) (congrArg Prod.fst (sh3 ln)) rfl rfl rfl (cs rfl) (cs rfl) rfl (CX1_mayClimb (hN1 hN) hz rv1 rv2 q3) (Nat.zero_add _).symm (Nat.zero_add _).symm (fun f3 => ?_)
  refine X_if_ne dX5_climb_31 (tgt := 44) rfl (pc' := 34) rfl (inR_b f3) (fun c4 => ?_) (fun c4 => ?_)
  · have h := if_f c4 h
    refine X_aload_n (pc' := 45) dX5_climb_44 rfl rfl ?_
    refine Y_get (pc' := 48) dX5_climb_45 rfl FX5_33 (zlN (hN1 hN) (by decide)) (congrArg Prod.fst (sh0 ln)) (ct0_2 z) ?_
    refine X_aload_n (pc' := 49) dX5_climb_48 rfl rfl ?_
    refine Y_get (pc' := 52) dX5_climb_49 rfl FX5_17 (zlN (hN1 hN) (by decide)) (congrArg Prod.fst (sh0 ln)) (ct0_0 z) ?_
    obtain ⟨z5, q5, h⟩ := bs h
    refine Y_callVv [.ref (3)] (pc' := 55) dX5_climb_52 rfl VX5_122 (by decide) (zlN (hN1 hN) (by decide)) (congrArg Prod.fst (sh32 ln)) rfl rfl rfl (cs rfl) (cs rfl) rfl (CX2_remember (hN1 hN) hz q5) (Nat.zero_add _).symm (Nat.zero_add _).symm (fun f5 => ?_)
    refine X_aload_n (pc' := 56) dX5_climb_55 rfl rfl ?_
    refine Y_get (pc' := 59) dX5_climb_56 rfl FX5_17 (zlN (hN1 hN) (by decide)) (congrArg Prod.fst (sh0 ln)) (ct0_0 z5) ?_
    refine X_iload_n (pc' := 60) dX5_climb_59 rfl rfl ?_
    refine X_iload_n (pc' := 61) dX5_climb_60 rfl rfl ?_
    obtain ⟨⟨r6, z6⟩, q6, h⟩ := bs h
    refine Y_callV [.int (iN (v1)), .int (iN (v2))] (pc' := 64) dX5_climb_61 rfl VX5_141 (by decide) (zlN (hN1 hN) (by decide)) (congrArg Prod.fst (sh3 ln)) rfl rfl rfl (cs rfl) (cs rfl) rfl (CX1_addClimb (hN1 hN) f5 rv1 rv2 q6) (Nat.zero_add _).symm (Nat.zero_add _).symm (fun f6 => ?_)
    cases h
    exact X_iret dX5_climb_64 rfl (k.2 ⟨f6.1, f6.2⟩)
  have h := if_t c4 h
  cases h
  exact Y_throw (w := 2) dX5_climb_34 dX5_climb_37 (Or.inl ⟨rfl, dX5_climb_38⟩) dX5_climb_40 dX5_climb_43 ThX5_2 strX5_139 (cs rfl) hN k.1.1 k.1.2 rfl (k.2 hz)
def fX5_count (v1 : Int) (z : ZZ) : Option (Int ⊕ Nat) := (Option.bind (fX5_needBetween (v1) (0) (9) z) fun q1 => match q1 with | .inl r1 => (if (v1) = 0 then some (.inl ((z 4 3))) else (if (v1) = 1 then some (.inl ((z 6 3))) else (if (v1) = 2 then some (.inl ((z 10 3))) else (if (v1) = 3 then some (.inl ((z 12 3))) else (if (v1) = 4 then some (.inl ((z 14 3))) else (if (v1) = 5 then some (.inl ((z 8 3))) else (if (v1) = 6 then some (.inl ((z 3 7))) else (if (v1) = 7 then some (.inl ((z 3 8))) else (if (v1) = 8 then some (.inl ((z 3 9))) else some (.inl ((z 3 10)))))))))))) | .inr E1 => some (.inr E1))
set_option maxRecDepth 100000 in
theorem CX5_count {ln : ZR} {N : Nat} {z : ZZ} {v1 : Int} (hN : tN ln ≤ N ∧ N < 999999) (hz : okz z) (rv1 : inR v1) {p : Int ⊕ Nat} (h : fX5_count v1 z = some p) : X mX5_count 0 (xEnt [.ref (0), .int (iN (v1))] (xL mX5_count)) [] (zmk ln N z) (cc_y p) (6 * cc_y p) (Qd (fa_y p) (rs_y p) (st_y ln N z p)) := by
  have k : Fin_y (cc_y p) (6 * cc_y p) (Qd (fa_y p) (rs_y p) (st_y ln N z p)) ln N z p := Fin_y_i
  unfold fX5_count at h
  refine X_to (M := [some (.ref (0)), some (.int (iN (v1)))]) (su := []) rfl rfl ?_
  refine X_iload_n (pc' := 1) dX5_count_0 rfl rfl ?_
  refine X_iconst (pc' := 2) dX5_count_1 rfl ?_
  refine X_bipush (pc' := 4) dX5_count_2 rfl (by decide) ?_
  obtain ⟨r1 | E1, q1, h⟩ := bs h
  rotate_left
  · cases h
    exact Y_callSx [.int (iN (v1)), .int (iN (0)), .int (iN (9))] (pc' := 7) dX5_count_4 rfl SX5_70 (by decide) rfl (cs rfl) (cs rfl) rfl (CX5_needBetween hN hz rv1 (inR_c (n := 0) rfl) (inR_c (n := 9) rfl) q1) k.1.1 k.1.2 rfl (fun f1 => k.2 trivial)
  refine Y_callSv [.int (iN (v1)), .int (iN (0)), .int (iN (9))] (pc' := 7) dX5_count_4 rfl SX5_70 (by decide) rfl (cs rfl) (cs rfl) rfl (CX5_needBetween hN hz rv1 (inR_c (n := 0) rfl) (inR_c (n := 9) rfl) q1) (Nat.zero_add _).symm (Nat.zero_add _).symm (fun f1 => ?_)
  refine X_iload_n (pc' := 8) dX5_count_7 rfl rfl ?_
  by_cases c2 : (v1) = 0
  · refine X_tableIn dX5_count_8 (off := 52) (tgt := 60) rv1 (by rw [c2]; decide) (by rw [c2]; decide) (by rw [c2]; rfl) rfl ?_
    have h := if_t c2 h
    refine X_aload_n (pc' := 61) dX5_count_60 rfl rfl ?_
    refine Y_get (pc' := 64) dX5_count_61 rfl FX5_17 (zlN (hN1 hN) (by decide)) (congrArg Prod.fst (sh0 ln)) (ct0_0 z) ?_
    refine Y_get (pc' := 67) dX5_count_64 rfl FX5_91 (zlN (hN1 hN) (by decide)) (congrArg Prod.fst (sh3 ln)) (ct3_0 z) ?_
    refine Y_get (pc' := 70) dX5_count_67 rfl FX5_95 (zlN (hN1 hN) (by decide)) (congrArg Prod.fst (sh4 ln)) (ct4_3 z) ?_
    cases h
    exact X_iret dX5_count_70 rfl (k.2 (hz 4 3 (by decide)))
  have h := if_f c2 h
  by_cases c3 : (v1) = 1
  · refine X_tableIn dX5_count_8 (off := 63) (tgt := 71) rv1 (by rw [c3]; decide) (by rw [c3]; decide) (by rw [c3]; rfl) rfl ?_
    have h := if_t c3 h
    refine X_aload_n (pc' := 72) dX5_count_71 rfl rfl ?_
    refine Y_get (pc' := 75) dX5_count_72 rfl FX5_17 (zlN (hN1 hN) (by decide)) (congrArg Prod.fst (sh0 ln)) (ct0_0 z) ?_
    refine Y_get (pc' := 78) dX5_count_75 rfl FX5_113 (zlN (hN1 hN) (by decide)) (congrArg Prod.fst (sh3 ln)) (ct3_1 z) ?_
    refine Y_get (pc' := 81) dX5_count_78 rfl FX5_95 (zlN (hN1 hN) (by decide)) (congrArg Prod.fst (sh6 ln)) (ct6_3 z) ?_
    cases h
    exact X_iret dX5_count_81 rfl (k.2 (hz 6 3 (by decide)))
  have h := if_f c3 h
  by_cases c4 : (v1) = 2
  · refine X_tableIn dX5_count_8 (off := 74) (tgt := 82) rv1 (by rw [c4]; decide) (by rw [c4]; decide) (by rw [c4]; rfl) rfl ?_
    have h := if_t c4 h
    refine X_aload_n (pc' := 83) dX5_count_82 rfl rfl ?_
    refine Y_get (pc' := 86) dX5_count_83 rfl FX5_17 (zlN (hN1 hN) (by decide)) (congrArg Prod.fst (sh0 ln)) (ct0_0 z) ?_
    refine Y_get (pc' := 89) dX5_count_86 rfl FX5_155 (zlN (hN1 hN) (by decide)) (congrArg Prod.fst (sh3 ln)) (ct3_3 z) ?_
    refine Y_get (pc' := 92) dX5_count_89 rfl FX5_95 (zlN (hN1 hN) (by decide)) (congrArg Prod.fst (sh10 ln)) (ct10_3 z) ?_
    cases h
    exact X_iret dX5_count_92 rfl (k.2 (hz 10 3 (by decide)))
  have h := if_f c4 h
  by_cases c5 : (v1) = 3
  · refine X_tableIn dX5_count_8 (off := 85) (tgt := 93) rv1 (by rw [c5]; decide) (by rw [c5]; decide) (by rw [c5]; rfl) rfl ?_
    have h := if_t c5 h
    refine X_aload_n (pc' := 94) dX5_count_93 rfl rfl ?_
    refine Y_get (pc' := 97) dX5_count_94 rfl FX5_17 (zlN (hN1 hN) (by decide)) (congrArg Prod.fst (sh0 ln)) (ct0_0 z) ?_
    refine Y_get (pc' := 100) dX5_count_97 rfl FX5_132 (zlN (hN1 hN) (by decide)) (congrArg Prod.fst (sh3 ln)) (ct3_4 z) ?_
    refine Y_get (pc' := 103) dX5_count_100 rfl FX5_95 (zlN (hN1 hN) (by decide)) (congrArg Prod.fst (sh12 ln)) (ct12_3 z) ?_
    cases h
    exact X_iret dX5_count_103 rfl (k.2 (hz 12 3 (by decide)))
  have h := if_f c5 h
  by_cases c6 : (v1) = 4
  · refine X_tableIn dX5_count_8 (off := 96) (tgt := 104) rv1 (by rw [c6]; decide) (by rw [c6]; decide) (by rw [c6]; rfl) rfl ?_
    have h := if_t c6 h
    refine X_aload_n (pc' := 105) dX5_count_104 rfl rfl ?_
    refine Y_get (pc' := 108) dX5_count_105 rfl FX5_17 (zlN (hN1 hN) (by decide)) (congrArg Prod.fst (sh0 ln)) (ct0_0 z) ?_
    refine Y_get (pc' := 111) dX5_count_108 rfl FX5_187 (zlN (hN1 hN) (by decide)) (congrArg Prod.fst (sh3 ln)) (ct3_5 z) ?_
    refine Y_get (pc' := 114) dX5_count_111 rfl FX5_95 (zlN (hN1 hN) (by decide)) (congrArg Prod.fst (sh14 ln)) (ct14_3 z) ?_
    cases h
    exact X_iret dX5_count_114 rfl (k.2 (hz 14 3 (by decide)))
  have h := if_f c6 h
  by_cases c7 : (v1) = 5
  · refine X_tableIn dX5_count_8 (off := 107) (tgt := 115) rv1 (by rw [c7]; decide) (by rw [c7]; decide) (by rw [c7]; rfl) rfl ?_
    have h := if_t c7 h
    refine X_aload_n (pc' := 116) dX5_count_115 rfl rfl ?_
    refine Y_get (pc' := 119) dX5_count_116 rfl FX5_17 (zlN (hN1 hN) (by decide)) (congrArg Prod.fst (sh0 ln)) (ct0_0 z) ?_
    refine Y_get (pc' := 122) dX5_count_119 rfl FX5_237 (zlN (hN1 hN) (by decide)) (congrArg Prod.fst (sh3 ln)) (ct3_2 z) ?_
    refine Y_get (pc' := 125) dX5_count_122 rfl FX5_95 (zlN (hN1 hN) (by decide)) (congrArg Prod.fst (sh8 ln)) (ct8_3 z) ?_
    cases h
    exact X_iret dX5_count_125 rfl (k.2 (hz 8 3 (by decide)))
  have h := if_f c7 h
  by_cases c8 : (v1) = 6
  · refine X_tableIn dX5_count_8 (off := 118) (tgt := 126) rv1 (by rw [c8]; decide) (by rw [c8]; decide) (by rw [c8]; rfl) rfl ?_
    have h := if_t c8 h
    refine X_aload_n (pc' := 127) dX5_count_126 rfl rfl ?_
    refine Y_get (pc' := 130) dX5_count_127 rfl FX5_17 (zlN (hN1 hN) (by decide)) (congrArg Prod.fst (sh0 ln)) (ct0_0 z) ?_
    refine Y_get (pc' := 133) dX5_count_130 rfl FX5_211 (zlN (hN1 hN) (by decide)) (congrArg Prod.fst (sh3 ln)) (ct3_7 z) ?_
    cases h
    exact X_iret dX5_count_133 rfl (k.2 (hz 3 7 (by decide)))
  have h := if_f c8 h
  by_cases c9 : (v1) = 7
  · refine X_tableIn dX5_count_8 (off := 126) (tgt := 134) rv1 (by rw [c9]; decide) (by rw [c9]; decide) (by rw [c9]; rfl) rfl ?_
    have h := if_t c9 h
    refine X_aload_n (pc' := 135) dX5_count_134 rfl rfl ?_
    refine Y_get (pc' := 138) dX5_count_135 rfl FX5_17 (zlN (hN1 hN) (by decide)) (congrArg Prod.fst (sh0 ln)) (ct0_0 z) ?_
    refine Y_get (pc' := 141) dX5_count_138 rfl FX5_240 (zlN (hN1 hN) (by decide)) (congrArg Prod.fst (sh3 ln)) (ct3_8 z) ?_
    cases h
    exact X_iret dX5_count_141 rfl (k.2 (hz 3 8 (by decide)))
  have h := if_f c9 h
  by_cases c10 : (v1) = 8
  · refine X_tableIn dX5_count_8 (off := 134) (tgt := 142) rv1 (by rw [c10]; decide) (by rw [c10]; decide) (by rw [c10]; rfl) rfl ?_
    have h := if_t c10 h
    refine X_aload_n (pc' := 143) dX5_count_142 rfl rfl ?_
    refine Y_get (pc' := 146) dX5_count_143 rfl FX5_17 (zlN (hN1 hN) (by decide)) (congrArg Prod.fst (sh0 ln)) (ct0_0 z) ?_
    refine Y_get (pc' := 149) dX5_count_146 rfl FX5_243 (zlN (hN1 hN) (by decide)) (congrArg Prod.fst (sh3 ln)) (ct3_9 z) ?_
    cases h
    exact X_iret dX5_count_149 rfl (k.2 (hz 3 9 (by decide)))
  have h := if_f c10 h
  refine X_tableOut dX5_count_8 (tgt := 150) rv1 (by omega) rfl ?_
  refine X_aload_n (pc' := 151) dX5_count_150 rfl rfl ?_
  refine Y_get (pc' := 154) dX5_count_151 rfl FX5_17 (zlN (hN1 hN) (by decide)) (congrArg Prod.fst (sh0 ln)) (ct0_0 z) ?_
  refine Y_get (pc' := 157) dX5_count_154 rfl FX5_246 (zlN (hN1 hN) (by decide)) (congrArg Prod.fst (sh3 ln)) (ct3_10 z) ?_
  cases h
  exact X_iret dX5_count_157 rfl (k.2 (hz 3 10 (by decide)))
def fX5_course (v1 : Int) (v2 : Int) (z : ZZ) : Option (Int ⊕ Nat) := (Option.bind (fX5_needRow 14 (v1) z) fun q1 => match q1 with | .inl r1 => (Option.bind (fX5_needBetween (v2) (0) (3) z) fun q2 => match q2 with | .inl r2 => (if (v2) = (3) then (Option.bind (fX1_membersIn (v1) z) fun r5 => some (.inl (r5))) else (Option.bind (fX4_get 14 (v1) (v2) z) fun r4 => some (.inl (r4)))) | .inr E2 => some (.inr E2)) | .inr E1 => some (.inr E1))
set_option maxRecDepth 100000 in
theorem CX5_course {ln : ZR} {N : Nat} {z : ZZ} {v1 : Int} {v2 : Int} (hN : tN ln ≤ N ∧ N < 999999) (hz : okz z) (rv1 : inR v1) (rv2 : inR v2) {p : Int ⊕ Nat} (h : fX5_course v1 v2 z = some p) : X mX5_course 0 (xEnt [.ref (0), .int (iN (v1)), .int (iN (v2))] (xL mX5_course)) [] (zmk ln N z) (cc_y p) (6 * cc_y p) (Qd (fa_y p) (rs_y p) (st_y ln N z p)) := by
  have k : Fin_y (cc_y p) (6 * cc_y p) (Qd (fa_y p) (rs_y p) (st_y ln N z p)) ln N z p := Fin_y_i
  unfold fX5_course at h
  refine X_to (M := [some (.ref (0)), some (.int (iN (v1))), some (.int (iN (v2)))]) (su := []) rfl rfl ?_
  refine X_aload_n (pc' := 1) dX5_course_0 rfl rfl ?_
  refine Y_get (pc' := 4) dX5_course_1 rfl FX5_17 (zlN (hN1 hN) (by decide)) (congrArg Prod.fst (sh0 ln)) (ct0_0 z) ?_
  refine Y_get (pc' := 7) dX5_course_4 rfl FX5_187 (zlN (hN1 hN) (by decide)) (congrArg Prod.fst (sh3 ln)) (ct3_5 z) ?_
  refine X_iload_n (pc' := 8) dX5_course_7 rfl rfl ?_
  obtain ⟨r1 | E1, q1, h⟩ := bs h
  rotate_left
  · cases h
    exact Y_callSx [.ref (14), .int (iN (v1))] (pc' := 11) dX5_course_8 rfl SX5_100 (by decide) rfl (cs rfl) (cs rfl) rfl (CX5_needRow hN hz kT14 rv1 q1) k.1.1 k.1.2 rfl (fun f1 => k.2 trivial)
  refine Y_callSv [.ref (14), .int (iN (v1))] (pc' := 11) dX5_course_8 rfl SX5_100 (by decide) rfl (cs rfl) (cs rfl) rfl (CX5_needRow hN hz kT14 rv1 q1) (Nat.zero_add _).symm (Nat.zero_add _).symm (fun f1 => ?_)
  refine X_iload_n (pc' := 12) dX5_course_11 rfl rfl ?_
  refine X_iconst (pc' := 13) dX5_course_12 rfl ?_
  refine X_iconst (pc' := 14) dX5_course_13 rfl ?_
  obtain ⟨r2 | E2, q2, h⟩ := bs h
  rotate_left
  · cases h
    exact Y_callSx [.int (iN (v2)), .int (iN (0)), .int (iN (3))] (pc' := 17) dX5_course_14 rfl SX5_70 (by decide) rfl (cs rfl) (cs rfl) rfl (CX5_needBetween hN hz rv2 (inR_c (n := 0) rfl) (inR_c (n := 3) rfl) q2) k.1.1 k.1.2 rfl (fun f2 => k.2 trivial)
  refine Y_callSv [.int (iN (v2)), .int (iN (0)), .int (iN (3))] (pc' := 17) dX5_course_14 rfl SX5_70 (by decide) rfl (cs rfl) (cs rfl) rfl (CX5_needBetween hN hz rv2 (inR_c (n := 0) rfl) (inR_c (n := 3) rfl) q2) (Nat.zero_add _).symm (Nat.zero_add _).symm (fun f2 => ?_)
  refine X_iload_n (pc' := 18) dX5_course_17 rfl rfl ?_
  refine X_iconst (pc' := 19) dX5_course_18 rfl ?_
  refine X_icmp_ne dX5_course_19 (tgt := 33) rfl (pc' := 22) rfl ⟨rv2.1, rv2.2, (inR_c (n := 3) rfl).1, (inR_c (n := 3) rfl).2⟩ (fun c3 => ?_) (fun c3 => ?_)
  · have h := if_f c3 h
    refine X_aload_n (pc' := 34) dX5_course_33 rfl rfl ?_
    refine Y_get (pc' := 37) dX5_course_34 rfl FX5_17 (zlN (hN1 hN) (by decide)) (congrArg Prod.fst (sh0 ln)) (ct0_0 z) ?_
    refine Y_get (pc' := 40) dX5_course_37 rfl FX5_187 (zlN (hN1 hN) (by decide)) (congrArg Prod.fst (sh3 ln)) (ct3_5 z) ?_
    refine X_iload_n (pc' := 41) dX5_course_40 rfl rfl ?_
    refine X_iload_n (pc' := 42) dX5_course_41 rfl rfl ?_
    obtain ⟨r4, q4, h⟩ := bs h
    refine Y_callV [.int (iN (v1)), .int (iN (v2))] (pc' := 45) dX5_course_42 rfl VX5_163 (by decide) (zlN (hN1 hN) (by decide)) (congrArg Prod.fst (sh14 ln)) rfl rfl rfl (cs rfl) (cs rfl) rfl (CX4_get (hN1 hN) hz kT14 rv1 rv2 q4) (Nat.zero_add _).symm (Nat.zero_add _).symm (fun f4 => ?_)
    cases h
    exact X_iret dX5_course_45 rfl (k.2 f4)
  have h := if_t c3 h
  refine X_aload_n (pc' := 23) dX5_course_22 rfl rfl ?_
  refine Y_get (pc' := 26) dX5_course_23 rfl FX5_17 (zlN (hN1 hN) (by decide)) (congrArg Prod.fst (sh0 ln)) (ct0_0 z) ?_
  refine X_iload_n (pc' := 27) dX5_course_26 rfl rfl ?_
  obtain ⟨r5, q5, h⟩ := bs h
  refine Y_callV [.int (iN (v1))] (pc' := 30) dX5_course_27 rfl VX5_195 (by decide) (zlN (hN1 hN) (by decide)) (congrArg Prod.fst (sh3 ln)) rfl rfl rfl (cs rfl) (cs rfl) rfl (CX1_membersIn (hN1 hN) hz rv1 q5) (Nat.zero_add _).symm (Nat.zero_add _).symm (fun f5 => ?_)
  refine X_goto dX5_course_30 (tgt := 45) rfl ?_
  cases h
  exact X_iret dX5_course_45 rfl (k.2 f5)
def fX5_endDays_s38 (v1 : Int) (v2 : Int) (v3 : Int) (z : ZZ) : Option ((Int × Int × ZZ) ⊕ (Int × ZZ)) := (if (v3) < (v1) then (Option.bind (fX1_endDay z) fun q2 => match q2 with | (r2, z2) => (if inR ((v2 + r2)) then (if inR ((v3 + 1)) then some (.inl ((v2 + r2), (v3 + 1), z2)) else none) else none)) else some (.inr (v2, z)))
set_option maxRecDepth 100000 in
theorem SX5_endDays_38 {ln : ZR} {N : Nat} {z : ZZ} {v1 : Int} {v2 : Int} {v3 : Int} {c9 s9 : Nat} {Φ : xRes → xS → Prop} (hN : tN ln ≤ N ∧ N < 999999) (hz : okz z) (rv1 : inR v1) (rv2 : inR v2) (rv3 : inR v3) {p : (Int × Int × ZZ) ⊕ (Int × ZZ)} (h : fX5_endDays_s38 v1 v2 v3 z = some p) (k1 : ∀ (v2' : Int) (v3' : Int) (z' : ZZ), p = .inl (v2', v3', z') → inR v2' → inR v3' → okz z' → X mX5_endDays 38 [some (.ref (0)), some (.int (iN (v1))), some (.int (iN (v2'))), some (.int (iN (v3')))] [] (zmk ln N z') c9 s9 Φ) (k2 : ∀ (v2' : Int) (z' : ZZ), p = .inr (v2', z') → inR v2' → okz z' → X mX5_endDays 59 [none, none, some (.int (iN (v2'))), none] [] (zmk ln N z') c9 s9 Φ) : X mX5_endDays 38 [some (.ref (0)), some (.int (iN (v1))), some (.int (iN (v2))), some (.int (iN (v3)))] [] (zmk ln N z) c9 s9 Φ := by
  unfold fX5_endDays_s38 at h
  refine X_iload_n (pc' := 39) dX5_endDays_38 rfl rfl ?_
  refine X_iload_n (pc' := 40) dX5_endDays_39 rfl rfl ?_
  refine X_icmp_ge dX5_endDays_40 (tgt := 59) rfl (pc' := 43) rfl ⟨rv3.1, rv3.2, rv1.1, rv1.2⟩ (fun c1 => ?_) (fun c1 => ?_)
  · have h := if_f (Int.not_lt.mpr c1) h
    cases h
    exact X_sub (sub_n (sub_n (sub_s (sub_n sub_0)))) (k2 _ _ rfl rv2 hz)
  have h := if_t c1 h
  refine X_iload_n (pc' := 44) dX5_endDays_43 rfl rfl ?_
  refine X_aload_n (pc' := 45) dX5_endDays_44 rfl rfl ?_
  refine Y_get (pc' := 48) dX5_endDays_45 rfl FX5_17 (zlN (hN1 hN) (by decide)) (congrArg Prod.fst (sh0 ln)) (ct0_0 z) ?_
  obtain ⟨⟨r2, z2⟩, q2, h⟩ := bs h
  refine Y_callV [] (pc' := 51) dX5_endDays_48 rfl VX5_214 (by decide) (zlN (hN1 hN) (by decide)) (congrArg Prod.fst (sh3 ln)) rfl rfl rfl (cs rfl) (cs rfl) rfl (CX1_endDay (hN1 hN) hz q2) (Nat.zero_add _).symm (Nat.zero_add _).symm (fun f2 => ?_)
  refine X_iadd (pc' := 52) dX5_endDays_51 rfl ?_
  refine X_istore_n (pc' := 53) dX5_endDays_52 rfl (cl rfl) (Or.inr rfl) (L' := [some (.ref (0)), some (.int (iN (v1))), some (.int (iN ((v2 + r2)))), some (.int (iN (v3)))]) rfl ?_
  refine X_iinc (pc' := 56) dX5_endDays_53 rfl rfl (Or.inr rfl) (L' := [some (.ref (0)), some (.int (iN (v1))), some (.int (iN ((v2 + r2)))), some (.int (iN (v3 + 1)))]) rfl ?_
  refine X_goto dX5_endDays_56 (tgt := 38) rfl ?_
  obtain ⟨g3, h⟩ := gs h
  obtain ⟨g4, h⟩ := gs h
  cases h
  exact X_sub (sub_s (sub_s (sub_s (sub_s sub_0)))) (k1 _ _ _ rfl g3 g4 f2.2)
theorem LX5_endDays_38 {ln : ZR} {N : Nat} {v1 : Int} {c9 s9 : Nat} {Φ : xRes → xS → Prop} (hN : tN ln ≤ N ∧ N < 999999) (rv1 : inR v1) {r : Int × ZZ} (k2 : ∀ (v2' : Int) (z' : ZZ), r = (v2', z') → inR v2' → okz z' → X mX5_endDays 59 [none, none, some (.int (iN (v2'))), none] [] (zmk ln N z') c9 s9 Φ) : ∀ (n : Nat) (v2 : Int) (v3 : Int) (z : ZZ), inR v2 → inR v3 → okz z → zlp (fun q => fX5_endDays_s38 v1 q.1 q.2.1 q.2.2) n (v2, v3, z) = some r → X mX5_endDays 38 [some (.ref (0)), some (.int (iN (v1))), some (.int (iN (v2))), some (.int (iN (v3)))] [] (zmk ln N z) c9 s9 Φ := by
  intro n
  induction n with
  | zero => intro v2 v3 z rv2 rv3 hz h; cases h
  | succ n ih =>
    intro v2 v3 z rv2 rv3 hz h
    rcases zlp_s h with ⟨⟨v2', v3', z'⟩, e, h'⟩ | e
    · exact SX5_endDays_38 hN hz rv1 rv2 rv3 e (fun v2₁ v3₁ z₁ hh f0 f1 f2 => by cases hh; exact ih _ _ _ f0 f1 f2 h') (fun v2₁ z₁ hh f0 f1 => by cases hh)
    · exact SX5_endDays_38 hN hz rv1 rv2 rv3 e (fun v2₁ v3₁ z₁ hh f0 f1 f2 => by cases hh) (fun v2₁ z₁ hh f0 f1 => by cases hh; exact k2 _ _ rfl f0 f1)
def fX5_endDays (v1 : Int) (z : ZZ) : Option ((Int ⊕ Nat) × ZZ) := (Option.bind (fX5_needBetween (v1) (1) (60) z) fun q1 => match q1 with | .inl r1 => (if inR (((z 3 7) + v1)) then (Option.bind (fX5_needBetween (((z 3 7) + v1)) (1) (9999) z) fun q3 => match q3 with | .inl r3 => (Option.bind (fX2_remember z) fun z4 => (Option.bind (zlp (fun q => fX5_endDays_s38 (v1) q.1 q.2.1 q.2.2) FU (0, 0, z4)) fun q5 => match q5 with | (x5_v2, x5_z) => some (.inl (x5_v2), x5_z))) | .inr E3 => some (.inr E3, z)) else none) | .inr E1 => some (.inr E1, z))
set_option maxRecDepth 100000 in
theorem CX5_endDays {ln : ZR} {N : Nat} {z : ZZ} {v1 : Int} (hN : tN ln ≤ N ∧ N < 999999) (hz : okz z) (rv1 : inR v1) {p : (Int ⊕ Nat) × ZZ} (h : fX5_endDays v1 z = some p) : X mX5_endDays 0 (xEnt [.ref (0), .int (iN (v1))] (xL mX5_endDays)) [] (zmk ln N z) (cc_x p) (6 * cc_x p) (Qd (fa_x p) (rs_x p) (st_x ln N p)) := by
  have k : Fin_x (cc_x p) (6 * cc_x p) (Qd (fa_x p) (rs_x p) (st_x ln N p)) ln N p := Fin_x_i
  unfold fX5_endDays at h
  refine X_to (M := [some (.ref (0)), some (.int (iN (v1))), none, none]) (su := []) rfl rfl ?_
  refine X_iload_n (pc' := 1) dX5_endDays_0 rfl rfl ?_
  refine X_iconst (pc' := 2) dX5_endDays_1 rfl ?_
  refine X_bipush (pc' := 4) dX5_endDays_2 rfl (by decide) ?_
  obtain ⟨r1 | E1, q1, h⟩ := bs h
  rotate_left
  · cases h
    exact Y_callSx [.int (iN (v1)), .int (iN (1)), .int (iN (60))] (pc' := 7) dX5_endDays_4 rfl SX5_70 (by decide) rfl (cs rfl) (cs rfl) rfl (CX5_needBetween hN hz rv1 (inR_c (n := 1) rfl) (inR_c (n := 60) rfl) q1) k.1.1 k.1.2 rfl (fun f1 => k.2 hz)
  refine Y_callSv [.int (iN (v1)), .int (iN (1)), .int (iN (60))] (pc' := 7) dX5_endDays_4 rfl SX5_70 (by decide) rfl (cs rfl) (cs rfl) rfl (CX5_needBetween hN hz rv1 (inR_c (n := 1) rfl) (inR_c (n := 60) rfl) q1) (Nat.zero_add _).symm (Nat.zero_add _).symm (fun f1 => ?_)
  refine X_aload_n (pc' := 8) dX5_endDays_7 rfl rfl ?_
  refine Y_get (pc' := 11) dX5_endDays_8 rfl FX5_17 (zlN (hN1 hN) (by decide)) (congrArg Prod.fst (sh0 ln)) (ct0_0 z) ?_
  refine Y_get (pc' := 14) dX5_endDays_11 rfl FX5_211 (zlN (hN1 hN) (by decide)) (congrArg Prod.fst (sh3 ln)) (ct3_7 z) ?_
  refine X_iload_n (pc' := 15) dX5_endDays_14 rfl rfl ?_
  refine X_iadd (pc' := 16) dX5_endDays_15 rfl ?_
  refine X_iconst (pc' := 17) dX5_endDays_16 rfl ?_
  refine X_sipush (pc' := 20) dX5_endDays_17 rfl (by decide) ?_
  obtain ⟨g2, h⟩ := gs h
  obtain ⟨r3 | E3, q3, h⟩ := bs h
  rotate_left
  · cases h
    exact Y_callSx [.int (iN (((z 3 7) + v1))), .int (iN (1)), .int (iN (9999))] (pc' := 23) dX5_endDays_20 rfl SX5_70 (by decide) rfl (cs rfl) (cs rfl) rfl (CX5_needBetween hN hz g2 (inR_c (n := 1) rfl) (inR_c (n := 9999) rfl) q3) k.1.1 k.1.2 rfl (fun f3 => k.2 hz)
  refine Y_callSv [.int (iN (((z 3 7) + v1))), .int (iN (1)), .int (iN (9999))] (pc' := 23) dX5_endDays_20 rfl SX5_70 (by decide) rfl (cs rfl) (cs rfl) rfl (CX5_needBetween hN hz g2 (inR_c (n := 1) rfl) (inR_c (n := 9999) rfl) q3) (Nat.zero_add _).symm (Nat.zero_add _).symm (fun f3 => ?_)
  refine X_aload_n (pc' := 24) dX5_endDays_23 rfl rfl ?_
  refine Y_get (pc' := 27) dX5_endDays_24 rfl FX5_33 (zlN (hN1 hN) (by decide)) (congrArg Prod.fst (sh0 ln)) (ct0_2 z) ?_
  refine X_aload_n (pc' := 28) dX5_endDays_27 rfl rfl ?_
  refine Y_get (pc' := 31) dX5_endDays_28 rfl FX5_17 (zlN (hN1 hN) (by decide)) (congrArg Prod.fst (sh0 ln)) (ct0_0 z) ?_
  obtain ⟨z4, q4, h⟩ := bs h
  refine Y_callVv [.ref (3)] (pc' := 34) dX5_endDays_31 rfl VX5_122 (by decide) (zlN (hN1 hN) (by decide)) (congrArg Prod.fst (sh32 ln)) rfl rfl rfl (cs rfl) (cs rfl) rfl (CX2_remember (hN1 hN) hz q4) (Nat.zero_add _).symm (Nat.zero_add _).symm (fun f4 => ?_)
  refine X_iconst (pc' := 35) dX5_endDays_34 rfl ?_
  refine X_istore_n (pc' := 36) dX5_endDays_35 rfl (cl rfl) (Or.inr rfl) (L' := [some (.ref (0)), some (.int (iN (v1))), some (.int (iN (0))), none]) rfl ?_
  refine X_iconst (pc' := 37) dX5_endDays_36 rfl ?_
  refine X_istore_n (pc' := 38) dX5_endDays_37 rfl (cl rfl) (Or.inr rfl) (L' := [some (.ref (0)), some (.int (iN (v1))), some (.int (iN (0))), some (.int (iN (0)))]) rfl ?_
  obtain ⟨⟨x5_v2, x5_z⟩, q5, h⟩ := bs h
  refine X_sub (sub_s (sub_s (sub_s (sub_s sub_0)))) (LX5_endDays_38 hN rv1 (fun x5_v2₁ x5_z₁ hh rx5_v2 hx5_z => ?_) FU _ _ _ (inR_c (n := 0) rfl) (inR_c (n := 0) rfl) f4 q5)
  cases hh
  refine X_iload_n (pc' := 60) dX5_endDays_59 rfl rfl ?_
  cases h
  exact X_iret dX5_endDays_60 rfl (k.2 ⟨rx5_v2, hx5_z⟩)
def fX5_enroll (v1 : Int) (v2 : Int) (z : ZZ) : Option ((Int ⊕ Nat) × ZZ) := (Option.bind (fX5_needRow 12 (v1) z) fun q1 => match q1 with | .inl r1 => (Option.bind (fX5_needRow 14 (v2) z) fun q2 => match q2 with | .inl r2 => (Option.bind (fX1_mayEnroll (v1) (v2) z) fun r3 => (if (r3) = (0) then some (.inr 2, z) else (Option.bind (fX2_remember z) fun z5 => (Option.bind (fX4_set 12 (v1) (4) (v2) z5) fun z6 => (Option.bind (fX1_membersIn (v2) z6) fun r7 => (Option.bind (fJ6_bitCount_0f7a4 (r7) z6) fun r8 => some (.inl (r8), z6))))))) | .inr E2 => some (.inr E2, z)) | .inr E1 => some (.inr E1, z))
set_option maxRecDepth 100000 in
theorem CX5_enroll {ln : ZR} {N : Nat} {z : ZZ} {v1 : Int} {v2 : Int} (hN : tN ln ≤ N ∧ N < 999999) (hz : okz z) (rv1 : inR v1) (rv2 : inR v2) {p : (Int ⊕ Nat) × ZZ} (h : fX5_enroll v1 v2 z = some p) : X mX5_enroll 0 (xEnt [.ref (0), .int (iN (v1)), .int (iN (v2))] (xL mX5_enroll)) [] (zmk ln N z) (cc_x p) (6 * cc_x p) (Qd (fa_x p) (rs_x p) (st_x ln N p)) := by
  have k : Fin_x (cc_x p) (6 * cc_x p) (Qd (fa_x p) (rs_x p) (st_x ln N p)) ln N p := Fin_x_i
  unfold fX5_enroll at h
  refine X_to (M := [some (.ref (0)), some (.int (iN (v1))), some (.int (iN (v2)))]) (su := []) rfl rfl ?_
  refine X_aload_n (pc' := 1) dX5_enroll_0 rfl rfl ?_
  refine Y_get (pc' := 4) dX5_enroll_1 rfl FX5_17 (zlN (hN1 hN) (by decide)) (congrArg Prod.fst (sh0 ln)) (ct0_0 z) ?_
  refine Y_get (pc' := 7) dX5_enroll_4 rfl FX5_132 (zlN (hN1 hN) (by decide)) (congrArg Prod.fst (sh3 ln)) (ct3_4 z) ?_
  refine X_iload_n (pc' := 8) dX5_enroll_7 rfl rfl ?_
  obtain ⟨r1 | E1, q1, h⟩ := bs h
  rotate_left
  · cases h
    exact Y_callSx [.ref (12), .int (iN (v1))] (pc' := 11) dX5_enroll_8 rfl SX5_100 (by decide) rfl (cs rfl) (cs rfl) rfl (CX5_needRow hN hz kT12 rv1 q1) k.1.1 k.1.2 rfl (fun f1 => k.2 hz)
  refine Y_callSv [.ref (12), .int (iN (v1))] (pc' := 11) dX5_enroll_8 rfl SX5_100 (by decide) rfl (cs rfl) (cs rfl) rfl (CX5_needRow hN hz kT12 rv1 q1) (Nat.zero_add _).symm (Nat.zero_add _).symm (fun f1 => ?_)
  refine X_aload_n (pc' := 12) dX5_enroll_11 rfl rfl ?_
  refine Y_get (pc' := 15) dX5_enroll_12 rfl FX5_17 (zlN (hN1 hN) (by decide)) (congrArg Prod.fst (sh0 ln)) (ct0_0 z) ?_
  refine Y_get (pc' := 18) dX5_enroll_15 rfl FX5_187 (zlN (hN1 hN) (by decide)) (congrArg Prod.fst (sh3 ln)) (ct3_5 z) ?_
  refine X_iload_n (pc' := 19) dX5_enroll_18 rfl rfl ?_
  obtain ⟨r2 | E2, q2, h⟩ := bs h
  rotate_left
  · cases h
    exact Y_callSx [.ref (14), .int (iN (v2))] (pc' := 22) dX5_enroll_19 rfl SX5_100 (by decide) rfl (cs rfl) (cs rfl) rfl (CX5_needRow hN hz kT14 rv2 q2) k.1.1 k.1.2 rfl (fun f2 => k.2 hz)
  refine Y_callSv [.ref (14), .int (iN (v2))] (pc' := 22) dX5_enroll_19 rfl SX5_100 (by decide) rfl (cs rfl) (cs rfl) rfl (CX5_needRow hN hz kT14 rv2 q2) (Nat.zero_add _).symm (Nat.zero_add _).symm (fun f2 => ?_)
  refine X_aload_n (pc' := 23) dX5_enroll_22 rfl rfl ?_
  refine Y_get (pc' := 26) dX5_enroll_23 rfl FX5_17 (zlN (hN1 hN) (by decide)) (congrArg Prod.fst (sh0 ln)) (ct0_0 z) ?_
  refine X_iload_n (pc' := 27) dX5_enroll_26 rfl rfl ?_
  refine X_iload_n (pc' := 28) dX5_enroll_27 rfl rfl ?_
  obtain ⟨r3, q3, h⟩ := bs h
  refine Y_callV [.int (iN (v1)), .int (iN (v2))] (pc' := 31) dX5_enroll_28 rfl VX5_190 (by decide) (zlN (hN1 hN) (by decide)) (congrArg Prod.fst (sh3 ln)) rfl rfl rfl (cs rfl) (cs rfl) rfl (CX1_mayEnroll (hN1 hN) hz rv1 rv2 q3) (Nat.zero_add _).symm (Nat.zero_add _).symm (fun f3 => ?_)
  refine X_if_ne dX5_enroll_31 (tgt := 44) rfl (pc' := 34) rfl (inR_b f3) (fun c4 => ?_) (fun c4 => ?_)
  · have h := if_f c4 h
    refine X_aload_n (pc' := 45) dX5_enroll_44 rfl rfl ?_
    refine Y_get (pc' := 48) dX5_enroll_45 rfl FX5_33 (zlN (hN1 hN) (by decide)) (congrArg Prod.fst (sh0 ln)) (ct0_2 z) ?_
    refine X_aload_n (pc' := 49) dX5_enroll_48 rfl rfl ?_
    refine Y_get (pc' := 52) dX5_enroll_49 rfl FX5_17 (zlN (hN1 hN) (by decide)) (congrArg Prod.fst (sh0 ln)) (ct0_0 z) ?_
    obtain ⟨z5, q5, h⟩ := bs h
    refine Y_callVv [.ref (3)] (pc' := 55) dX5_enroll_52 rfl VX5_122 (by decide) (zlN (hN1 hN) (by decide)) (congrArg Prod.fst (sh32 ln)) rfl rfl rfl (cs rfl) (cs rfl) rfl (CX2_remember (hN1 hN) hz q5) (Nat.zero_add _).symm (Nat.zero_add _).symm (fun f5 => ?_)
    refine X_aload_n (pc' := 56) dX5_enroll_55 rfl rfl ?_
    refine Y_get (pc' := 59) dX5_enroll_56 rfl FX5_17 (zlN (hN1 hN) (by decide)) (congrArg Prod.fst (sh0 ln)) (ct0_0 z5) ?_
    refine Y_get (pc' := 62) dX5_enroll_59 rfl FX5_132 (zlN (hN1 hN) (by decide)) (congrArg Prod.fst (sh3 ln)) (ct3_4 z5) ?_
    refine X_iload_n (pc' := 63) dX5_enroll_62 rfl rfl ?_
    refine X_iconst (pc' := 64) dX5_enroll_63 rfl ?_
    refine X_iload_n (pc' := 65) dX5_enroll_64 rfl rfl ?_
    obtain ⟨z6, q6, h⟩ := bs h
    refine Y_callVv [.int (iN (v1)), .int (iN (4)), .int (iN (v2))] (pc' := 68) dX5_enroll_65 rfl VX5_149 (by decide) (zlN (hN1 hN) (by decide)) (congrArg Prod.fst (sh12 ln)) rfl rfl rfl (cs rfl) (cs rfl) rfl (CX4_set (hN1 hN) f5 kT12 rv1 (inR_c (n := 4) rfl) rv2 q6) (Nat.zero_add _).symm (Nat.zero_add _).symm (fun f6 => ?_)
    refine X_aload_n (pc' := 69) dX5_enroll_68 rfl rfl ?_
    refine Y_get (pc' := 72) dX5_enroll_69 rfl FX5_17 (zlN (hN1 hN) (by decide)) (congrArg Prod.fst (sh0 ln)) (ct0_0 z6) ?_
    refine X_iload_n (pc' := 73) dX5_enroll_72 rfl rfl ?_
    obtain ⟨r7, q7, h⟩ := bs h
    refine Y_callV [.int (iN (v2))] (pc' := 76) dX5_enroll_73 rfl VX5_195 (by decide) (zlN (hN1 hN) (by decide)) (congrArg Prod.fst (sh3 ln)) rfl rfl rfl (cs rfl) (cs rfl) rfl (CX1_membersIn (hN1 hN) f6 rv2 q7) (Nat.zero_add _).symm (Nat.zero_add _).symm (fun f7 => ?_)
    obtain ⟨r8, q8, h⟩ := bs h
    refine Y_callS [.int (iN (r7))] (pc' := 79) dX5_enroll_76 rfl SX5_198 (by decide) rfl (cs rfl) (cs rfl) rfl (CJ6_bitCount_0f7a4 (hN1 hN) f6 f7 q8) (Nat.zero_add _).symm (Nat.zero_add _).symm (fun f8 => ?_)
    cases h
    exact X_iret dX5_enroll_79 rfl (k.2 ⟨f8, f6⟩)
  have h := if_t c4 h
  cases h
  exact Y_throw (w := 2) dX5_enroll_34 dX5_enroll_37 (Or.inl ⟨rfl, dX5_enroll_38⟩) dX5_enroll_40 dX5_enroll_43 ThX5_2 strX5_193 (cs rfl) hN k.1.1 k.1.2 rfl (k.2 hz)
def fX5_errorPosition (z : ZZ) : Option (Int × ZZ) := (Option.bind (fX3_readDraft z) fun q1 => match q1 with | (r1, z1) => some (r1, z1))
set_option maxRecDepth 100000 in
theorem CX5_errorPosition {ln : ZR} {N : Nat} {z : ZZ} (hN : 151 ≤ N ∧ N < 999999) (hz : okz z) {p : Int × ZZ} (h : fX5_errorPosition z = some p) : X mX5_errorPosition 0 (xEnt [.ref (0)] (xL mX5_errorPosition)) [] (zmk ln N z) (cc_wi p) (6 * cc_wi p) (Qd (fa_wi p) (rs_wi p) (st_wi ln N p)) := by
  have k : Fin_wi (Qd (fa_wi p) (rs_wi p) (st_wi ln N p)) ln N p := Fin_wi_i
  unfold fX5_errorPosition at h
  refine X_to (M := [some (.ref (0))]) (su := []) rfl rfl ?_
  refine X_aload_n (pc' := 1) dX5_errorPosition_0 rfl rfl ?_
  refine Y_get (pc' := 4) dX5_errorPosition_1 rfl FX5_26 (zlN hN (by decide)) (congrArg Prod.fst (sh0 ln)) (ct0_1 z) ?_
  obtain ⟨⟨r1, z1⟩, q1, h⟩ := bs h
  refine Y_callV [] (pc' := 7) dX5_errorPosition_4 rfl VX5_73 (by decide) (zlN hN (by decide)) (congrArg Prod.fst (sh16 ln)) rfl rfl rfl (cs rfl) (cs rfl) rfl (CX3_readDraft hN hz q1) (Nat.zero_add _).symm (Nat.zero_add _).symm (fun f1 => ?_)
  cases h
  exact X_iret dX5_errorPosition_7 rfl (k ⟨f1.1, f1.2⟩)
def fX5_finish (v1 : Int) (v2 : Int) (z : ZZ) : Option ((Int ⊕ Nat) × ZZ) := (Option.bind (fX5_needRow 14 (v1) z) fun q1 => match q1 with | .inl r1 => (Option.bind (fX2_remember z) fun z2 => (Option.bind (fX1_endCourse (v1) (v2) z2) fun q3 => match q3 with | (r3, z3) => some (.inl (r3), z3))) | .inr E1 => some (.inr E1, z))
set_option maxRecDepth 100000 in
theorem CX5_finish {ln : ZR} {N : Nat} {z : ZZ} {v1 : Int} {v2 : Int} (hN : tN ln ≤ N ∧ N < 999999) (hz : okz z) (rv1 : inR v1) (rv2 : inR v2) {p : (Int ⊕ Nat) × ZZ} (h : fX5_finish v1 v2 z = some p) : X mX5_finish 0 (xEnt [.ref (0), .int (iN (v1)), .int (iN (v2))] (xL mX5_finish)) [] (zmk ln N z) (cc_x p) (6 * cc_x p) (Qd (fa_x p) (rs_x p) (st_x ln N p)) := by
  have k : Fin_x (cc_x p) (6 * cc_x p) (Qd (fa_x p) (rs_x p) (st_x ln N p)) ln N p := Fin_x_i
  unfold fX5_finish at h
  refine X_to (M := [some (.ref (0)), some (.int (iN (v1))), some (.int (iN (v2)))]) (su := []) rfl rfl ?_
  refine X_aload_n (pc' := 1) dX5_finish_0 rfl rfl ?_
  refine Y_get (pc' := 4) dX5_finish_1 rfl FX5_17 (zlN (hN1 hN) (by decide)) (congrArg Prod.fst (sh0 ln)) (ct0_0 z) ?_
  refine Y_get (pc' := 7) dX5_finish_4 rfl FX5_187 (zlN (hN1 hN) (by decide)) (congrArg Prod.fst (sh3 ln)) (ct3_5 z) ?_
  refine X_iload_n (pc' := 8) dX5_finish_7 rfl rfl ?_
  obtain ⟨r1 | E1, q1, h⟩ := bs h
  rotate_left
  · cases h
    exact Y_callSx [.ref (14), .int (iN (v1))] (pc' := 11) dX5_finish_8 rfl SX5_100 (by decide) rfl (cs rfl) (cs rfl) rfl (CX5_needRow hN hz kT14 rv1 q1) k.1.1 k.1.2 rfl (fun f1 => k.2 hz)
  refine Y_callSv [.ref (14), .int (iN (v1))] (pc' := 11) dX5_finish_8 rfl SX5_100 (by decide) rfl (cs rfl) (cs rfl) rfl (CX5_needRow hN hz kT14 rv1 q1) (Nat.zero_add _).symm (Nat.zero_add _).symm (fun f1 => ?_)
  refine X_aload_n (pc' := 12) dX5_finish_11 rfl rfl ?_
  refine Y_get (pc' := 15) dX5_finish_12 rfl FX5_33 (zlN (hN1 hN) (by decide)) (congrArg Prod.fst (sh0 ln)) (ct0_2 z) ?_
  refine X_aload_n (pc' := 16) dX5_finish_15 rfl rfl ?_
  refine Y_get (pc' := 19) dX5_finish_16 rfl FX5_17 (zlN (hN1 hN) (by decide)) (congrArg Prod.fst (sh0 ln)) (ct0_0 z) ?_
  obtain ⟨z2, q2, h⟩ := bs h
  refine Y_callVv [.ref (3)] (pc' := 22) dX5_finish_19 rfl VX5_122 (by decide) (zlN (hN1 hN) (by decide)) (congrArg Prod.fst (sh32 ln)) rfl rfl rfl (cs rfl) (cs rfl) rfl (CX2_remember (hN1 hN) hz q2) (Nat.zero_add _).symm (Nat.zero_add _).symm (fun f2 => ?_)
  refine X_aload_n (pc' := 23) dX5_finish_22 rfl rfl ?_
  refine Y_get (pc' := 26) dX5_finish_23 rfl FX5_17 (zlN (hN1 hN) (by decide)) (congrArg Prod.fst (sh0 ln)) (ct0_0 z2) ?_
  refine X_iload_n (pc' := 27) dX5_finish_26 rfl rfl ?_
  refine X_iload_n (pc' := 28) dX5_finish_27 rfl rfl ?_
  obtain ⟨⟨r3, z3⟩, q3, h⟩ := bs h
  refine Y_callV [.int (iN (v1)), .int (iN (v2))] (pc' := 31) dX5_finish_28 rfl VX5_205 (by decide) (zlN (hN1 hN) (by decide)) (congrArg Prod.fst (sh3 ln)) rfl rfl rfl (cs rfl) (cs rfl) rfl (CX1_endCourse (hN1 hN) f2 rv1 rv2 q3) (Nat.zero_add _).symm (Nat.zero_add _).symm (fun f3 => ?_)
  cases h
  exact X_iret dX5_finish_31 rfl (k.2 ⟨f3.1, f3.2⟩)
def fX5_giveBack (v1 : Int) (z : ZZ) : Option ((Int ⊕ Nat) × ZZ) := (Option.bind (fX5_needRow 12 (v1) z) fun q1 => match q1 with | .inl r1 => (Option.bind (fX1_harnessOf (v1) z) fun r2 => (if (r2) = ((-1)) then some (.inr 2, z) else (Option.bind (fX2_remember z) fun z4 => (Option.bind (fX4_set 12 (v1) (3) ((-1)) z4) fun z5 => some (.inl (r2), z5))))) | .inr E1 => some (.inr E1, z))
set_option maxRecDepth 100000 in
theorem CX5_giveBack {ln : ZR} {N : Nat} {z : ZZ} {v1 : Int} (hN : tN ln ≤ N ∧ N < 999999) (hz : okz z) (rv1 : inR v1) {p : (Int ⊕ Nat) × ZZ} (h : fX5_giveBack v1 z = some p) : X mX5_giveBack 0 (xEnt [.ref (0), .int (iN (v1))] (xL mX5_giveBack)) [] (zmk ln N z) (cc_x p) (6 * cc_x p) (Qd (fa_x p) (rs_x p) (st_x ln N p)) := by
  have k : Fin_x (cc_x p) (6 * cc_x p) (Qd (fa_x p) (rs_x p) (st_x ln N p)) ln N p := Fin_x_i
  unfold fX5_giveBack at h
  refine X_to (M := [some (.ref (0)), some (.int (iN (v1))), none]) (su := []) rfl rfl ?_
  refine X_aload_n (pc' := 1) dX5_giveBack_0 rfl rfl ?_
  refine Y_get (pc' := 4) dX5_giveBack_1 rfl FX5_17 (zlN (hN1 hN) (by decide)) (congrArg Prod.fst (sh0 ln)) (ct0_0 z) ?_
  refine Y_get (pc' := 7) dX5_giveBack_4 rfl FX5_132 (zlN (hN1 hN) (by decide)) (congrArg Prod.fst (sh3 ln)) (ct3_4 z) ?_
  refine X_iload_n (pc' := 8) dX5_giveBack_7 rfl rfl ?_
  obtain ⟨r1 | E1, q1, h⟩ := bs h
  rotate_left
  · cases h
    exact Y_callSx [.ref (12), .int (iN (v1))] (pc' := 11) dX5_giveBack_8 rfl SX5_100 (by decide) rfl (cs rfl) (cs rfl) rfl (CX5_needRow hN hz kT12 rv1 q1) k.1.1 k.1.2 rfl (fun f1 => k.2 hz)
  refine Y_callSv [.ref (12), .int (iN (v1))] (pc' := 11) dX5_giveBack_8 rfl SX5_100 (by decide) rfl (cs rfl) (cs rfl) rfl (CX5_needRow hN hz kT12 rv1 q1) (Nat.zero_add _).symm (Nat.zero_add _).symm (fun f1 => ?_)
  refine X_aload_n (pc' := 12) dX5_giveBack_11 rfl rfl ?_
  refine Y_get (pc' := 15) dX5_giveBack_12 rfl FX5_17 (zlN (hN1 hN) (by decide)) (congrArg Prod.fst (sh0 ln)) (ct0_0 z) ?_
  refine X_iload_n (pc' := 16) dX5_giveBack_15 rfl rfl ?_
  obtain ⟨r2, q2, h⟩ := bs h
  refine Y_callV [.int (iN (v1))] (pc' := 19) dX5_giveBack_16 rfl VX5_158 (by decide) (zlN (hN1 hN) (by decide)) (congrArg Prod.fst (sh3 ln)) rfl rfl rfl (cs rfl) (cs rfl) rfl (CX1_harnessOf (hN1 hN) hz rv1 q2) (Nat.zero_add _).symm (Nat.zero_add _).symm (fun f2 => ?_)
  refine X_istore_n (pc' := 20) dX5_giveBack_19 rfl (cl rfl) (Or.inr rfl) (L' := [some (.ref (0)), some (.int (iN (v1))), some (.int (iN (r2)))]) rfl ?_
  refine X_iload_n (pc' := 21) dX5_giveBack_20 rfl rfl ?_
  refine X_iconst (pc' := 22) dX5_giveBack_21 rfl ?_
  refine X_icmp_ne dX5_giveBack_22 (tgt := 35) rfl (pc' := 25) rfl ⟨f2.1, f2.2, (inR_c (n := (-1)) rfl).1, (inR_c (n := (-1)) rfl).2⟩ (fun c3 => ?_) (fun c3 => ?_)
  · have h := if_f c3 h
    refine X_aload_n (pc' := 36) dX5_giveBack_35 rfl rfl ?_
    refine Y_get (pc' := 39) dX5_giveBack_36 rfl FX5_33 (zlN (hN1 hN) (by decide)) (congrArg Prod.fst (sh0 ln)) (ct0_2 z) ?_
    refine X_aload_n (pc' := 40) dX5_giveBack_39 rfl rfl ?_
    refine Y_get (pc' := 43) dX5_giveBack_40 rfl FX5_17 (zlN (hN1 hN) (by decide)) (congrArg Prod.fst (sh0 ln)) (ct0_0 z) ?_
    obtain ⟨z4, q4, h⟩ := bs h
    refine Y_callVv [.ref (3)] (pc' := 46) dX5_giveBack_43 rfl VX5_122 (by decide) (zlN (hN1 hN) (by decide)) (congrArg Prod.fst (sh32 ln)) rfl rfl rfl (cs rfl) (cs rfl) rfl (CX2_remember (hN1 hN) hz q4) (Nat.zero_add _).symm (Nat.zero_add _).symm (fun f4 => ?_)
    refine X_aload_n (pc' := 47) dX5_giveBack_46 rfl rfl ?_
    refine Y_get (pc' := 50) dX5_giveBack_47 rfl FX5_17 (zlN (hN1 hN) (by decide)) (congrArg Prod.fst (sh0 ln)) (ct0_0 z4) ?_
    refine Y_get (pc' := 53) dX5_giveBack_50 rfl FX5_132 (zlN (hN1 hN) (by decide)) (congrArg Prod.fst (sh3 ln)) (ct3_4 z4) ?_
    refine X_iload_n (pc' := 54) dX5_giveBack_53 rfl rfl ?_
    refine X_iconst (pc' := 55) dX5_giveBack_54 rfl ?_
    refine X_iconst (pc' := 56) dX5_giveBack_55 rfl ?_
    obtain ⟨z5, q5, h⟩ := bs h
    refine Y_callVv [.int (iN (v1)), .int (iN (3)), .int (iN ((-1)))] (pc' := 59) dX5_giveBack_56 rfl VX5_149 (by decide) (zlN (hN1 hN) (by decide)) (congrArg Prod.fst (sh12 ln)) rfl rfl rfl (cs rfl) (cs rfl) rfl (CX4_set (hN1 hN) f4 kT12 rv1 (inR_c (n := 3) rfl) (inR_c (n := (-1)) rfl) q5) (Nat.zero_add _).symm (Nat.zero_add _).symm (fun f5 => ?_)
    refine X_iload_n (pc' := 60) dX5_giveBack_59 rfl rfl ?_
    cases h
    exact X_iret dX5_giveBack_60 rfl (k.2 ⟨f2, f5⟩)
  have h := if_t c3 h
  cases h
  exact Y_throw (w := 2) dX5_giveBack_25 dX5_giveBack_28 (Or.inl ⟨rfl, dX5_giveBack_29⟩) dX5_giveBack_31 dX5_giveBack_34 ThX5_2 strX5_176 (cs rfl) hN k.1.1 k.1.2 rfl (k.2 hz)
def fX5_grade (v1 : Int) (z : ZZ) : Option ((Int ⊕ Nat) × ZZ) := (Option.bind (fX5_needRow 6 (v1) z) fun q1 => match q1 with | .inl r1 => (Option.bind (fX1_gradeOf (v1) z) fun q2 => match q2 with | (r2, z2) => some (.inl (r2), z2)) | .inr E1 => some (.inr E1, z))
set_option maxRecDepth 100000 in
theorem CX5_grade {ln : ZR} {N : Nat} {z : ZZ} {v1 : Int} (hN : tN ln ≤ N ∧ N < 999999) (hz : okz z) (rv1 : inR v1) {p : (Int ⊕ Nat) × ZZ} (h : fX5_grade v1 z = some p) : X mX5_grade 0 (xEnt [.ref (0), .int (iN (v1))] (xL mX5_grade)) [] (zmk ln N z) (cc_x p) (6 * cc_x p) (Qd (fa_x p) (rs_x p) (st_x ln N p)) := by
  have k : Fin_x (cc_x p) (6 * cc_x p) (Qd (fa_x p) (rs_x p) (st_x ln N p)) ln N p := Fin_x_i
  unfold fX5_grade at h
  refine X_to (M := [some (.ref (0)), some (.int (iN (v1)))]) (su := []) rfl rfl ?_
  refine X_aload_n (pc' := 1) dX5_grade_0 rfl rfl ?_
  refine Y_get (pc' := 4) dX5_grade_1 rfl FX5_17 (zlN (hN1 hN) (by decide)) (congrArg Prod.fst (sh0 ln)) (ct0_0 z) ?_
  refine Y_get (pc' := 7) dX5_grade_4 rfl FX5_113 (zlN (hN1 hN) (by decide)) (congrArg Prod.fst (sh3 ln)) (ct3_1 z) ?_
  refine X_iload_n (pc' := 8) dX5_grade_7 rfl rfl ?_
  obtain ⟨r1 | E1, q1, h⟩ := bs h
  rotate_left
  · cases h
    exact Y_callSx [.ref (6), .int (iN (v1))] (pc' := 11) dX5_grade_8 rfl SX5_100 (by decide) rfl (cs rfl) (cs rfl) rfl (CX5_needRow hN hz kT6 rv1 q1) k.1.1 k.1.2 rfl (fun f1 => k.2 hz)
  refine Y_callSv [.ref (6), .int (iN (v1))] (pc' := 11) dX5_grade_8 rfl SX5_100 (by decide) rfl (cs rfl) (cs rfl) rfl (CX5_needRow hN hz kT6 rv1 q1) (Nat.zero_add _).symm (Nat.zero_add _).symm (fun f1 => ?_)
  refine X_aload_n (pc' := 12) dX5_grade_11 rfl rfl ?_
  refine Y_get (pc' := 15) dX5_grade_12 rfl FX5_17 (zlN (hN1 hN) (by decide)) (congrArg Prod.fst (sh0 ln)) (ct0_0 z) ?_
  refine X_iload_n (pc' := 16) dX5_grade_15 rfl rfl ?_
  obtain ⟨⟨r2, z2⟩, q2, h⟩ := bs h
  refine Y_callV [.int (iN (v1))] (pc' := 19) dX5_grade_16 rfl VX5_152 (by decide) (zlN (hN1 hN) (by decide)) (congrArg Prod.fst (sh3 ln)) rfl rfl rfl (cs rfl) (cs rfl) rfl (CX1_gradeOf (hN1 hN) hz rv1 q2) (Nat.zero_add _).symm (Nat.zero_add _).symm (fun f2 => ?_)
  cases h
  exact X_iret dX5_grade_19 rfl (k.2 ⟨f2.1, f2.2⟩)
def fX5_harness (v1 : Int) (v2 : Int) (z : ZZ) : Option (Int ⊕ Nat) := (Option.bind (fX5_needRow 10 (v1) z) fun q1 => match q1 with | .inl r1 => (Option.bind (fX5_needBetween (v2) (0) (5) z) fun q2 => match q2 with | .inl r2 => (if (v2) = 3 then (Option.bind (fX1_lapseOf (v1) z) fun r4 => some (.inl (r4))) else (if (v2) = 4 then (Option.bind (fX1_stateOf (v1) z) fun r6 => some (.inl (r6))) else (if (v2) = 5 then (Option.bind (fX1_isInForce (v1) ((z 3 7)) z) fun r8 => (if (r8) = (0) then some (.inl (0)) else some (.inl (1)))) else (Option.bind (fX4_get 10 (v1) (v2) z) fun r10 => some (.inl (r10)))))) | .inr E2 => some (.inr E2)) | .inr E1 => some (.inr E1))
set_option maxRecDepth 100000 in
theorem CX5_harness {ln : ZR} {N : Nat} {z : ZZ} {v1 : Int} {v2 : Int} (hN : tN ln ≤ N ∧ N < 999999) (hz : okz z) (rv1 : inR v1) (rv2 : inR v2) {p : Int ⊕ Nat} (h : fX5_harness v1 v2 z = some p) : X mX5_harness 0 (xEnt [.ref (0), .int (iN (v1)), .int (iN (v2))] (xL mX5_harness)) [] (zmk ln N z) (cc_y p) (6 * cc_y p) (Qd (fa_y p) (rs_y p) (st_y ln N z p)) := by
  have k : Fin_y (cc_y p) (6 * cc_y p) (Qd (fa_y p) (rs_y p) (st_y ln N z p)) ln N z p := Fin_y_i
  unfold fX5_harness at h
  refine X_to (M := [some (.ref (0)), some (.int (iN (v1))), some (.int (iN (v2)))]) (su := []) rfl rfl ?_
  refine X_aload_n (pc' := 1) dX5_harness_0 rfl rfl ?_
  refine Y_get (pc' := 4) dX5_harness_1 rfl FX5_17 (zlN (hN1 hN) (by decide)) (congrArg Prod.fst (sh0 ln)) (ct0_0 z) ?_
  refine Y_get (pc' := 7) dX5_harness_4 rfl FX5_155 (zlN (hN1 hN) (by decide)) (congrArg Prod.fst (sh3 ln)) (ct3_3 z) ?_
  refine X_iload_n (pc' := 8) dX5_harness_7 rfl rfl ?_
  obtain ⟨r1 | E1, q1, h⟩ := bs h
  rotate_left
  · cases h
    exact Y_callSx [.ref (10), .int (iN (v1))] (pc' := 11) dX5_harness_8 rfl SX5_100 (by decide) rfl (cs rfl) (cs rfl) rfl (CX5_needRow hN hz kT10 rv1 q1) k.1.1 k.1.2 rfl (fun f1 => k.2 trivial)
  refine Y_callSv [.ref (10), .int (iN (v1))] (pc' := 11) dX5_harness_8 rfl SX5_100 (by decide) rfl (cs rfl) (cs rfl) rfl (CX5_needRow hN hz kT10 rv1 q1) (Nat.zero_add _).symm (Nat.zero_add _).symm (fun f1 => ?_)
  refine X_iload_n (pc' := 12) dX5_harness_11 rfl rfl ?_
  refine X_iconst (pc' := 13) dX5_harness_12 rfl ?_
  refine X_iconst (pc' := 14) dX5_harness_13 rfl ?_
  obtain ⟨r2 | E2, q2, h⟩ := bs h
  rotate_left
  · cases h
    exact Y_callSx [.int (iN (v2)), .int (iN (0)), .int (iN (5))] (pc' := 17) dX5_harness_14 rfl SX5_70 (by decide) rfl (cs rfl) (cs rfl) rfl (CX5_needBetween hN hz rv2 (inR_c (n := 0) rfl) (inR_c (n := 5) rfl) q2) k.1.1 k.1.2 rfl (fun f2 => k.2 trivial)
  refine Y_callSv [.int (iN (v2)), .int (iN (0)), .int (iN (5))] (pc' := 17) dX5_harness_14 rfl SX5_70 (by decide) rfl (cs rfl) (cs rfl) rfl (CX5_needBetween hN hz rv2 (inR_c (n := 0) rfl) (inR_c (n := 5) rfl) q2) (Nat.zero_add _).symm (Nat.zero_add _).symm (fun f2 => ?_)
  refine X_iload_n (pc' := 18) dX5_harness_17 rfl rfl ?_
  by_cases c3 : (v2) = 3
  · refine X_tableIn dX5_harness_18 (off := 26) (tgt := 44) rv2 (by rw [c3]; decide) (by rw [c3]; decide) (by rw [c3]; rfl) rfl ?_
    have h := if_t c3 h
    refine X_aload_n (pc' := 45) dX5_harness_44 rfl rfl ?_
    refine Y_get (pc' := 48) dX5_harness_45 rfl FX5_17 (zlN (hN1 hN) (by decide)) (congrArg Prod.fst (sh0 ln)) (ct0_0 z) ?_
    refine X_iload_n (pc' := 49) dX5_harness_48 rfl rfl ?_
    obtain ⟨r4, q4, h⟩ := bs h
    refine Y_callV [.int (iN (v1))] (pc' := 52) dX5_harness_49 rfl VX5_173 (by decide) (zlN (hN1 hN) (by decide)) (congrArg Prod.fst (sh3 ln)) rfl rfl rfl (cs rfl) (cs rfl) rfl (CX1_lapseOf (hN1 hN) hz rv1 q4) (Nat.zero_add _).symm (Nat.zero_add _).symm (fun f4 => ?_)
    cases h
    exact X_iret dX5_harness_52 rfl (k.2 f4)
  have h := if_f c3 h
  by_cases c5 : (v2) = 4
  · refine X_tableIn dX5_harness_18 (off := 35) (tgt := 53) rv2 (by rw [c5]; decide) (by rw [c5]; decide) (by rw [c5]; rfl) rfl ?_
    have h := if_t c5 h
    refine X_aload_n (pc' := 54) dX5_harness_53 rfl rfl ?_
    refine Y_get (pc' := 57) dX5_harness_54 rfl FX5_17 (zlN (hN1 hN) (by decide)) (congrArg Prod.fst (sh0 ln)) (ct0_0 z) ?_
    refine X_iload_n (pc' := 58) dX5_harness_57 rfl rfl ?_
    obtain ⟨r6, q6, h⟩ := bs h
    refine Y_callV [.int (iN (v1))] (pc' := 61) dX5_harness_58 rfl VX5_178 (by decide) (zlN (hN1 hN) (by decide)) (congrArg Prod.fst (sh3 ln)) rfl rfl rfl (cs rfl) (cs rfl) rfl (CX1_stateOf (hN1 hN) hz rv1 q6) (Nat.zero_add _).symm (Nat.zero_add _).symm (fun f6 => ?_)
    cases h
    exact X_iret dX5_harness_61 rfl (k.2 f6)
  have h := if_f c5 h
  by_cases c7 : (v2) = 5
  · refine X_tableIn dX5_harness_18 (off := 44) (tgt := 62) rv2 (by rw [c7]; decide) (by rw [c7]; decide) (by rw [c7]; rfl) rfl ?_
    have h := if_t c7 h
    refine X_aload_n (pc' := 63) dX5_harness_62 rfl rfl ?_
    refine Y_get (pc' := 66) dX5_harness_63 rfl FX5_17 (zlN (hN1 hN) (by decide)) (congrArg Prod.fst (sh0 ln)) (ct0_0 z) ?_
    refine X_iload_n (pc' := 67) dX5_harness_66 rfl rfl ?_
    refine X_aload_n (pc' := 68) dX5_harness_67 rfl rfl ?_
    refine Y_get (pc' := 71) dX5_harness_68 rfl FX5_17 (zlN (hN1 hN) (by decide)) (congrArg Prod.fst (sh0 ln)) (ct0_0 z) ?_
    refine Y_get (pc' := 74) dX5_harness_71 rfl FX5_211 (zlN (hN1 hN) (by decide)) (congrArg Prod.fst (sh3 ln)) (ct3_7 z) ?_
    obtain ⟨r8, q8, h⟩ := bs h
    refine Y_callV [.int (iN (v1)), .int (iN ((z 3 7)))] (pc' := 77) dX5_harness_74 rfl VX5_255 (by decide) (zlN (hN1 hN) (by decide)) (congrArg Prod.fst (sh3 ln)) rfl rfl rfl (cs rfl) (cs rfl) rfl (CX1_isInForce (hN1 hN) hz rv1 (hz 3 7 (by decide)) q8) (Nat.zero_add _).symm (Nat.zero_add _).symm (fun f8 => ?_)
    refine X_if_eq dX5_harness_77 (tgt := 84) rfl (pc' := 80) rfl (inR_b f8) (fun c9 => ?_) (fun c9 => ?_)
    · have h := if_t c9 h
      refine X_iconst (pc' := 85) dX5_harness_84 rfl ?_
      cases h
      exact X_iret dX5_harness_85 rfl (k.2 (inR_c (n := 0) rfl))
    have h := if_f c9 h
    refine X_iconst (pc' := 81) dX5_harness_80 rfl ?_
    refine X_goto dX5_harness_81 (tgt := 85) rfl ?_
    cases h
    exact X_iret dX5_harness_85 rfl (k.2 (inR_c (n := 1) rfl))
  have h := if_f c7 h
  refine X_tableOut dX5_harness_18 (tgt := 86) rv2 (by omega) rfl ?_
  refine X_aload_n (pc' := 87) dX5_harness_86 rfl rfl ?_
  refine Y_get (pc' := 90) dX5_harness_87 rfl FX5_17 (zlN (hN1 hN) (by decide)) (congrArg Prod.fst (sh0 ln)) (ct0_0 z) ?_
  refine Y_get (pc' := 93) dX5_harness_90 rfl FX5_155 (zlN (hN1 hN) (by decide)) (congrArg Prod.fst (sh3 ln)) (ct3_3 z) ?_
  refine X_iload_n (pc' := 94) dX5_harness_93 rfl rfl ?_
  refine X_iload_n (pc' := 95) dX5_harness_94 rfl rfl ?_
  obtain ⟨r10, q10, h⟩ := bs h
  refine Y_callV [.int (iN (v1)), .int (iN (v2))] (pc' := 98) dX5_harness_95 rfl VX5_163 (by decide) (zlN (hN1 hN) (by decide)) (congrArg Prod.fst (sh10 ln)) rfl rfl rfl (cs rfl) (cs rfl) rfl (CX4_get (hN1 hN) hz kT10 rv1 rv2 q10) (Nat.zero_add _).symm (Nat.zero_add _).symm (fun f10 => ?_)
  cases h
  exact X_iret dX5_harness_98 rfl (k.2 f10)
def fX5_leaveCourse (v1 : Int) (z : ZZ) : Option ((Int ⊕ Nat) × ZZ) := (Option.bind (fX5_needRow 12 (v1) z) fun q1 => match q1 with | .inl r1 => (Option.bind (fX4_get 12 (v1) (4) z) fun r2 => (if (r2) = ((-1)) then some (.inr 2, z) else (Option.bind (fX2_remember z) fun z4 => (Option.bind (fX4_set 12 (v1) (4) ((-1)) z4) fun z5 => some (.inl (r2), z5))))) | .inr E1 => some (.inr E1, z))
set_option maxRecDepth 100000 in
theorem CX5_leaveCourse {ln : ZR} {N : Nat} {z : ZZ} {v1 : Int} (hN : tN ln ≤ N ∧ N < 999999) (hz : okz z) (rv1 : inR v1) {p : (Int ⊕ Nat) × ZZ} (h : fX5_leaveCourse v1 z = some p) : X mX5_leaveCourse 0 (xEnt [.ref (0), .int (iN (v1))] (xL mX5_leaveCourse)) [] (zmk ln N z) (cc_x p) (6 * cc_x p) (Qd (fa_x p) (rs_x p) (st_x ln N p)) := by
  have k : Fin_x (cc_x p) (6 * cc_x p) (Qd (fa_x p) (rs_x p) (st_x ln N p)) ln N p := Fin_x_i
  unfold fX5_leaveCourse at h
  refine X_to (M := [some (.ref (0)), some (.int (iN (v1))), none]) (su := []) rfl rfl ?_
  refine X_aload_n (pc' := 1) dX5_leaveCourse_0 rfl rfl ?_
  refine Y_get (pc' := 4) dX5_leaveCourse_1 rfl FX5_17 (zlN (hN1 hN) (by decide)) (congrArg Prod.fst (sh0 ln)) (ct0_0 z) ?_
  refine Y_get (pc' := 7) dX5_leaveCourse_4 rfl FX5_132 (zlN (hN1 hN) (by decide)) (congrArg Prod.fst (sh3 ln)) (ct3_4 z) ?_
  refine X_iload_n (pc' := 8) dX5_leaveCourse_7 rfl rfl ?_
  obtain ⟨r1 | E1, q1, h⟩ := bs h
  rotate_left
  · cases h
    exact Y_callSx [.ref (12), .int (iN (v1))] (pc' := 11) dX5_leaveCourse_8 rfl SX5_100 (by decide) rfl (cs rfl) (cs rfl) rfl (CX5_needRow hN hz kT12 rv1 q1) k.1.1 k.1.2 rfl (fun f1 => k.2 hz)
  refine Y_callSv [.ref (12), .int (iN (v1))] (pc' := 11) dX5_leaveCourse_8 rfl SX5_100 (by decide) rfl (cs rfl) (cs rfl) rfl (CX5_needRow hN hz kT12 rv1 q1) (Nat.zero_add _).symm (Nat.zero_add _).symm (fun f1 => ?_)
  refine X_aload_n (pc' := 12) dX5_leaveCourse_11 rfl rfl ?_
  refine Y_get (pc' := 15) dX5_leaveCourse_12 rfl FX5_17 (zlN (hN1 hN) (by decide)) (congrArg Prod.fst (sh0 ln)) (ct0_0 z) ?_
  refine Y_get (pc' := 18) dX5_leaveCourse_15 rfl FX5_132 (zlN (hN1 hN) (by decide)) (congrArg Prod.fst (sh3 ln)) (ct3_4 z) ?_
  refine X_iload_n (pc' := 19) dX5_leaveCourse_18 rfl rfl ?_
  refine X_iconst (pc' := 20) dX5_leaveCourse_19 rfl ?_
  obtain ⟨r2, q2, h⟩ := bs h
  refine Y_callV [.int (iN (v1)), .int (iN (4))] (pc' := 23) dX5_leaveCourse_20 rfl VX5_163 (by decide) (zlN (hN1 hN) (by decide)) (congrArg Prod.fst (sh12 ln)) rfl rfl rfl (cs rfl) (cs rfl) rfl (CX4_get (hN1 hN) hz kT12 rv1 (inR_c (n := 4) rfl) q2) (Nat.zero_add _).symm (Nat.zero_add _).symm (fun f2 => ?_)
  refine X_istore_n (pc' := 24) dX5_leaveCourse_23 rfl (cl rfl) (Or.inr rfl) (L' := [some (.ref (0)), some (.int (iN (v1))), some (.int (iN (r2)))]) rfl ?_
  refine X_iload_n (pc' := 25) dX5_leaveCourse_24 rfl rfl ?_
  refine X_iconst (pc' := 26) dX5_leaveCourse_25 rfl ?_
  refine X_icmp_ne dX5_leaveCourse_26 (tgt := 39) rfl (pc' := 29) rfl ⟨f2.1, f2.2, (inR_c (n := (-1)) rfl).1, (inR_c (n := (-1)) rfl).2⟩ (fun c3 => ?_) (fun c3 => ?_)
  · have h := if_f c3 h
    refine X_aload_n (pc' := 40) dX5_leaveCourse_39 rfl rfl ?_
    refine Y_get (pc' := 43) dX5_leaveCourse_40 rfl FX5_33 (zlN (hN1 hN) (by decide)) (congrArg Prod.fst (sh0 ln)) (ct0_2 z) ?_
    refine X_aload_n (pc' := 44) dX5_leaveCourse_43 rfl rfl ?_
    refine Y_get (pc' := 47) dX5_leaveCourse_44 rfl FX5_17 (zlN (hN1 hN) (by decide)) (congrArg Prod.fst (sh0 ln)) (ct0_0 z) ?_
    obtain ⟨z4, q4, h⟩ := bs h
    refine Y_callVv [.ref (3)] (pc' := 50) dX5_leaveCourse_47 rfl VX5_122 (by decide) (zlN (hN1 hN) (by decide)) (congrArg Prod.fst (sh32 ln)) rfl rfl rfl (cs rfl) (cs rfl) rfl (CX2_remember (hN1 hN) hz q4) (Nat.zero_add _).symm (Nat.zero_add _).symm (fun f4 => ?_)
    refine X_aload_n (pc' := 51) dX5_leaveCourse_50 rfl rfl ?_
    refine Y_get (pc' := 54) dX5_leaveCourse_51 rfl FX5_17 (zlN (hN1 hN) (by decide)) (congrArg Prod.fst (sh0 ln)) (ct0_0 z4) ?_
    refine Y_get (pc' := 57) dX5_leaveCourse_54 rfl FX5_132 (zlN (hN1 hN) (by decide)) (congrArg Prod.fst (sh3 ln)) (ct3_4 z4) ?_
    refine X_iload_n (pc' := 58) dX5_leaveCourse_57 rfl rfl ?_
    refine X_iconst (pc' := 59) dX5_leaveCourse_58 rfl ?_
    refine X_iconst (pc' := 60) dX5_leaveCourse_59 rfl ?_
    obtain ⟨z5, q5, h⟩ := bs h
    refine Y_callVv [.int (iN (v1)), .int (iN (4)), .int (iN ((-1)))] (pc' := 63) dX5_leaveCourse_60 rfl VX5_149 (by decide) (zlN (hN1 hN) (by decide)) (congrArg Prod.fst (sh12 ln)) rfl rfl rfl (cs rfl) (cs rfl) rfl (CX4_set (hN1 hN) f4 kT12 rv1 (inR_c (n := 4) rfl) (inR_c (n := (-1)) rfl) q5) (Nat.zero_add _).symm (Nat.zero_add _).symm (fun f5 => ?_)
    refine X_iload_n (pc' := 64) dX5_leaveCourse_63 rfl rfl ?_
    cases h
    exact X_iret dX5_leaveCourse_64 rfl (k.2 ⟨f2, f5⟩)
  have h := if_t c3 h
  cases h
  exact Y_throw (w := 2) dX5_leaveCourse_29 dX5_leaveCourse_32 (Or.inl ⟨rfl, dX5_leaveCourse_33⟩) dX5_leaveCourse_35 dX5_leaveCourse_38 ThX5_2 strX5_203 (cs rfl) hN k.1.1 k.1.2 rfl (k.2 hz)
def fX5_lend (v1 : Int) (v2 : Int) (z : ZZ) : Option ((Int ⊕ Nat) × ZZ) := (Option.bind (fX5_needRow 12 (v1) z) fun q1 => match q1 with | .inl r1 => (Option.bind (fX5_needRow 10 (v2) z) fun q2 => match q2 with | .inl r2 => (Option.bind (fX1_harnessOf (v1) z) fun r3 => (if (r3) = ((-1)) then (Option.bind (fX4_get 12 (v1) (0) z) fun r5 => (Option.bind (fX4_get 10 (v2) (0) z) fun r6 => (if (r5) = (r6) then (Option.bind (fX1_isLendable (v2) z) fun r8 => (if (r8) = (0) then some (.inr 2, z) else (Option.bind (fX2_remember z) fun z10 => (Option.bind (fX4_set 12 (v1) (3) (v2) z10) fun z11 => (Option.bind (fX1_lapseOf (v2) z11) fun r12 => some (.inl (r12), z11)))))) else some (.inr 2, z)))) else some (.inr 2, z))) | .inr E2 => some (.inr E2, z)) | .inr E1 => some (.inr E1, z))
set_option maxRecDepth 100000 in
theorem CX5_lend {ln : ZR} {N : Nat} {z : ZZ} {v1 : Int} {v2 : Int} (hN : tN ln ≤ N ∧ N < 999999) (hz : okz z) (rv1 : inR v1) (rv2 : inR v2) {p : (Int ⊕ Nat) × ZZ} (h : fX5_lend v1 v2 z = some p) : X mX5_lend 0 (xEnt [.ref (0), .int (iN (v1)), .int (iN (v2))] (xL mX5_lend)) [] (zmk ln N z) (cc_x p) (6 * cc_x p) (Qd (fa_x p) (rs_x p) (st_x ln N p)) := by
  have k : Fin_x (cc_x p) (6 * cc_x p) (Qd (fa_x p) (rs_x p) (st_x ln N p)) ln N p := Fin_x_i
  unfold fX5_lend at h
  refine X_to (M := [some (.ref (0)), some (.int (iN (v1))), some (.int (iN (v2)))]) (su := []) rfl rfl ?_
  refine X_aload_n (pc' := 1) dX5_lend_0 rfl rfl ?_
  refine Y_get (pc' := 4) dX5_lend_1 rfl FX5_17 (zlN (hN1 hN) (by decide)) (congrArg Prod.fst (sh0 ln)) (ct0_0 z) ?_
  refine Y_get (pc' := 7) dX5_lend_4 rfl FX5_132 (zlN (hN1 hN) (by decide)) (congrArg Prod.fst (sh3 ln)) (ct3_4 z) ?_
  refine X_iload_n (pc' := 8) dX5_lend_7 rfl rfl ?_
  obtain ⟨r1 | E1, q1, h⟩ := bs h
  rotate_left
  · cases h
    exact Y_callSx [.ref (12), .int (iN (v1))] (pc' := 11) dX5_lend_8 rfl SX5_100 (by decide) rfl (cs rfl) (cs rfl) rfl (CX5_needRow hN hz kT12 rv1 q1) k.1.1 k.1.2 rfl (fun f1 => k.2 hz)
  refine Y_callSv [.ref (12), .int (iN (v1))] (pc' := 11) dX5_lend_8 rfl SX5_100 (by decide) rfl (cs rfl) (cs rfl) rfl (CX5_needRow hN hz kT12 rv1 q1) (Nat.zero_add _).symm (Nat.zero_add _).symm (fun f1 => ?_)
  refine X_aload_n (pc' := 12) dX5_lend_11 rfl rfl ?_
  refine Y_get (pc' := 15) dX5_lend_12 rfl FX5_17 (zlN (hN1 hN) (by decide)) (congrArg Prod.fst (sh0 ln)) (ct0_0 z) ?_
  refine Y_get (pc' := 18) dX5_lend_15 rfl FX5_155 (zlN (hN1 hN) (by decide)) (congrArg Prod.fst (sh3 ln)) (ct3_3 z) ?_
  refine X_iload_n (pc' := 19) dX5_lend_18 rfl rfl ?_
  obtain ⟨r2 | E2, q2, h⟩ := bs h
  rotate_left
  · cases h
    exact Y_callSx [.ref (10), .int (iN (v2))] (pc' := 22) dX5_lend_19 rfl SX5_100 (by decide) rfl (cs rfl) (cs rfl) rfl (CX5_needRow hN hz kT10 rv2 q2) k.1.1 k.1.2 rfl (fun f2 => k.2 hz)
  refine Y_callSv [.ref (10), .int (iN (v2))] (pc' := 22) dX5_lend_19 rfl SX5_100 (by decide) rfl (cs rfl) (cs rfl) rfl (CX5_needRow hN hz kT10 rv2 q2) (Nat.zero_add _).symm (Nat.zero_add _).symm (fun f2 => ?_)
  refine X_aload_n (pc' := 23) dX5_lend_22 rfl rfl ?_
  refine Y_get (pc' := 26) dX5_lend_23 rfl FX5_17 (zlN (hN1 hN) (by decide)) (congrArg Prod.fst (sh0 ln)) (ct0_0 z) ?_
  refine X_iload_n (pc' := 27) dX5_lend_26 rfl rfl ?_
  obtain ⟨r3, q3, h⟩ := bs h
  refine Y_callV [.int (iN (v1))] (pc' := 30) dX5_lend_27 rfl VX5_158 (by decide) (zlN (hN1 hN) (by decide)) (congrArg Prod.fst (sh3 ln)) rfl rfl rfl (cs rfl) (cs rfl) rfl (CX1_harnessOf (hN1 hN) hz rv1 q3) (Nat.zero_add _).symm (Nat.zero_add _).symm (fun f3 => ?_)
  refine X_iconst (pc' := 31) dX5_lend_30 rfl ?_
  refine X_icmp_eq dX5_lend_31 (tgt := 44) rfl (pc' := 34) rfl ⟨f3.1, f3.2, (inR_c (n := (-1)) rfl).1, (inR_c (n := (-1)) rfl).2⟩ (fun c4 => ?_) (fun c4 => ?_)
  · have h := if_t c4 h
    refine X_aload_n (pc' := 45) dX5_lend_44 rfl rfl ?_
    refine Y_get (pc' := 48) dX5_lend_45 rfl FX5_17 (zlN (hN1 hN) (by decide)) (congrArg Prod.fst (sh0 ln)) (ct0_0 z) ?_
    refine Y_get (pc' := 51) dX5_lend_48 rfl FX5_132 (zlN (hN1 hN) (by decide)) (congrArg Prod.fst (sh3 ln)) (ct3_4 z) ?_
    refine X_iload_n (pc' := 52) dX5_lend_51 rfl rfl ?_
    refine X_iconst (pc' := 53) dX5_lend_52 rfl ?_
    obtain ⟨r5, q5, h⟩ := bs h
    refine Y_callV [.int (iN (v1)), .int (iN (0))] (pc' := 56) dX5_lend_53 rfl VX5_163 (by decide) (zlN (hN1 hN) (by decide)) (congrArg Prod.fst (sh12 ln)) rfl rfl rfl (cs rfl) (cs rfl) rfl (CX4_get (hN1 hN) hz kT12 rv1 (inR_c (n := 0) rfl) q5) (Nat.zero_add _).symm (Nat.zero_add _).symm (fun f5 => ?_)
    refine X_aload_n (pc' := 57) dX5_lend_56 rfl rfl ?_
    refine Y_get (pc' := 60) dX5_lend_57 rfl FX5_17 (zlN (hN1 hN) (by decide)) (congrArg Prod.fst (sh0 ln)) (ct0_0 z) ?_
    refine Y_get (pc' := 63) dX5_lend_60 rfl FX5_155 (zlN (hN1 hN) (by decide)) (congrArg Prod.fst (sh3 ln)) (ct3_3 z) ?_
    refine X_iload_n (pc' := 64) dX5_lend_63 rfl rfl ?_
    refine X_iconst (pc' := 65) dX5_lend_64 rfl ?_
    obtain ⟨r6, q6, h⟩ := bs h
    refine Y_callV [.int (iN (v2)), .int (iN (0))] (pc' := 68) dX5_lend_65 rfl VX5_163 (by decide) (zlN (hN1 hN) (by decide)) (congrArg Prod.fst (sh10 ln)) rfl rfl rfl (cs rfl) (cs rfl) rfl (CX4_get (hN1 hN) hz kT10 rv2 (inR_c (n := 0) rfl) q6) (Nat.zero_add _).symm (Nat.zero_add _).symm (fun f6 => ?_)
    refine X_icmp_eq dX5_lend_68 (tgt := 81) rfl (pc' := 71) rfl ⟨f5.1, f5.2, f6.1, f6.2⟩ (fun c7 => ?_) (fun c7 => ?_)
    · have h := if_t c7 h
      refine X_aload_n (pc' := 82) dX5_lend_81 rfl rfl ?_
      refine Y_get (pc' := 85) dX5_lend_82 rfl FX5_17 (zlN (hN1 hN) (by decide)) (congrArg Prod.fst (sh0 ln)) (ct0_0 z) ?_
      refine X_iload_n (pc' := 86) dX5_lend_85 rfl rfl ?_
      obtain ⟨r8, q8, h⟩ := bs h
      refine Y_callV [.int (iN (v2))] (pc' := 89) dX5_lend_86 rfl VX5_168 (by decide) (zlN (hN1 hN) (by decide)) (congrArg Prod.fst (sh3 ln)) rfl rfl rfl (cs rfl) (cs rfl) rfl (CX1_isLendable (hN1 hN) hz rv2 q8) (Nat.zero_add _).symm (Nat.zero_add _).symm (fun f8 => ?_)
      refine X_if_ne dX5_lend_89 (tgt := 102) rfl (pc' := 92) rfl (inR_b f8) (fun c9 => ?_) (fun c9 => ?_)
      · have h := if_f c9 h
        refine X_aload_n (pc' := 103) dX5_lend_102 rfl rfl ?_
        refine Y_get (pc' := 106) dX5_lend_103 rfl FX5_33 (zlN (hN1 hN) (by decide)) (congrArg Prod.fst (sh0 ln)) (ct0_2 z) ?_
        refine X_aload_n (pc' := 107) dX5_lend_106 rfl rfl ?_
        refine Y_get (pc' := 110) dX5_lend_107 rfl FX5_17 (zlN (hN1 hN) (by decide)) (congrArg Prod.fst (sh0 ln)) (ct0_0 z) ?_
        obtain ⟨z10, q10, h⟩ := bs h
        refine Y_callVv [.ref (3)] (pc' := 113) dX5_lend_110 rfl VX5_122 (by decide) (zlN (hN1 hN) (by decide)) (congrArg Prod.fst (sh32 ln)) rfl rfl rfl (cs rfl) (cs rfl) rfl (CX2_remember (hN1 hN) hz q10) (Nat.zero_add _).symm (Nat.zero_add _).symm (fun f10 => ?_)
        refine X_aload_n (pc' := 114) dX5_lend_113 rfl rfl ?_
        refine Y_get (pc' := 117) dX5_lend_114 rfl FX5_17 (zlN (hN1 hN) (by decide)) (congrArg Prod.fst (sh0 ln)) (ct0_0 z10) ?_
        refine Y_get (pc' := 120) dX5_lend_117 rfl FX5_132 (zlN (hN1 hN) (by decide)) (congrArg Prod.fst (sh3 ln)) (ct3_4 z10) ?_
        refine X_iload_n (pc' := 121) dX5_lend_120 rfl rfl ?_
        refine X_iconst (pc' := 122) dX5_lend_121 rfl ?_
        refine X_iload_n (pc' := 123) dX5_lend_122 rfl rfl ?_
        obtain ⟨z11, q11, h⟩ := bs h
        refine Y_callVv [.int (iN (v1)), .int (iN (3)), .int (iN (v2))] (pc' := 126) dX5_lend_123 rfl VX5_149 (by decide) (zlN (hN1 hN) (by decide)) (congrArg Prod.fst (sh12 ln)) rfl rfl rfl (cs rfl) (cs rfl) rfl (CX4_set (hN1 hN) f10 kT12 rv1 (inR_c (n := 3) rfl) rv2 q11) (Nat.zero_add _).symm (Nat.zero_add _).symm (fun f11 => ?_)
        refine X_aload_n (pc' := 127) dX5_lend_126 rfl rfl ?_
        refine Y_get (pc' := 130) dX5_lend_127 rfl FX5_17 (zlN (hN1 hN) (by decide)) (congrArg Prod.fst (sh0 ln)) (ct0_0 z11) ?_
        refine X_iload_n (pc' := 131) dX5_lend_130 rfl rfl ?_
        obtain ⟨r12, q12, h⟩ := bs h
        refine Y_callV [.int (iN (v2))] (pc' := 134) dX5_lend_131 rfl VX5_173 (by decide) (zlN (hN1 hN) (by decide)) (congrArg Prod.fst (sh3 ln)) rfl rfl rfl (cs rfl) (cs rfl) rfl (CX1_lapseOf (hN1 hN) f11 rv2 q12) (Nat.zero_add _).symm (Nat.zero_add _).symm (fun f12 => ?_)
        cases h
        exact X_iret dX5_lend_134 rfl (k.2 ⟨f12, f11⟩)
      have h := if_t c9 h
      cases h
      exact Y_throw (w := 2) dX5_lend_92 dX5_lend_95 (Or.inl ⟨rfl, dX5_lend_96⟩) dX5_lend_98 dX5_lend_101 ThX5_2 strX5_171 (cs rfl) hN k.1.1 k.1.2 rfl (k.2 hz)
    have h := if_f c7 h
    cases h
    exact Y_throw (w := 2) dX5_lend_71 dX5_lend_74 (Or.inl ⟨rfl, dX5_lend_75⟩) dX5_lend_77 dX5_lend_80 ThX5_2 strX5_166 (cs rfl) hN k.1.1 k.1.2 rfl (k.2 hz)
  have h := if_f c4 h
  cases h
  exact Y_throw (w := 2) dX5_lend_34 dX5_lend_37 (Or.inl ⟨rfl, dX5_lend_38⟩) dX5_lend_40 dX5_lend_43 ThX5_2 strX5_161 (cs rfl) hN k.1.1 k.1.2 rfl (k.2 hz)
def fX5_load (z : ZZ) : Option ((Int ⊕ Nat) × ZZ) := (Option.bind (fX3_readDraft z) fun q1 => match q1 with | (r1, z1) => (if (r1) = ((-1)) then (Option.bind (fX1_copyFrom 3 17 z1) fun z3 => (Option.bind (fX2_forgetAll z3) fun z4 => (zl (zup z4 16 1 (0)) fun z5 => some (.inl ((z5 4 3)), z5)))) else some (.inr 1, z1)))
set_option maxRecDepth 100000 in
theorem CX5_load {ln : ZR} {N : Nat} {z : ZZ} (hN : tN ln ≤ N ∧ N < 999999) (hz : okz z) {p : (Int ⊕ Nat) × ZZ} (h : fX5_load z = some p) : X mX5_load 0 (xEnt [.ref (0)] (xL mX5_load)) [] (zmk ln N z) (cc_x p) (6 * cc_x p) (Qd (fa_x p) (rs_x p) (st_x ln N p)) := by
  have k : Fin_x (cc_x p) (6 * cc_x p) (Qd (fa_x p) (rs_x p) (st_x ln N p)) ln N p := Fin_x_i
  unfold fX5_load at h
  refine X_to (M := [some (.ref (0))]) (su := []) rfl rfl ?_
  refine X_aload_n (pc' := 1) dX5_load_0 rfl rfl ?_
  refine Y_get (pc' := 4) dX5_load_1 rfl FX5_26 (zlN (hN1 hN) (by decide)) (congrArg Prod.fst (sh0 ln)) (ct0_1 z) ?_
  obtain ⟨⟨r1, z1⟩, q1, h⟩ := bs h
  refine Y_callV [] (pc' := 7) dX5_load_4 rfl VX5_73 (by decide) (zlN (hN1 hN) (by decide)) (congrArg Prod.fst (sh16 ln)) rfl rfl rfl (cs rfl) (cs rfl) rfl (CX3_readDraft (hN1 hN) hz q1) (Nat.zero_add _).symm (Nat.zero_add _).symm (fun f1 => ?_)
  refine X_iconst (pc' := 8) dX5_load_7 rfl ?_
  refine X_icmp_eq dX5_load_8 (tgt := 21) rfl (pc' := 11) rfl ⟨f1.1.1, f1.1.2, (inR_c (n := (-1)) rfl).1, (inR_c (n := (-1)) rfl).2⟩ (fun c2 => ?_) (fun c2 => ?_)
  · have h := if_t c2 h
    refine X_aload_n (pc' := 22) dX5_load_21 rfl rfl ?_
    refine Y_get (pc' := 25) dX5_load_22 rfl FX5_17 (zlN (hN1 hN) (by decide)) (congrArg Prod.fst (sh0 ln)) (ct0_0 z1) ?_
    refine X_aload_n (pc' := 26) dX5_load_25 rfl rfl ?_
    refine Y_get (pc' := 29) dX5_load_26 rfl FX5_26 (zlN (hN1 hN) (by decide)) (congrArg Prod.fst (sh0 ln)) (ct0_1 z1) ?_
    refine Y_get (pc' := 32) dX5_load_29 rfl FX5_82 (zlN (hN1 hN) (by decide)) (congrArg Prod.fst (sh16 ln)) (ct16_2 z1) ?_
    obtain ⟨z3, q3, h⟩ := bs h
    refine Y_callVv [.ref (17)] (pc' := 35) dX5_load_32 rfl VX5_85 (by decide) (zlN (hN1 hN) (by decide)) (congrArg Prod.fst (sh3 ln)) rfl rfl rfl (cs rfl) (cs rfl) rfl (CX1_copyFrom (hN1 hN) f1.2 kH3 kH17 q3) (Nat.zero_add _).symm (Nat.zero_add _).symm (fun f3 => ?_)
    refine X_aload_n (pc' := 36) dX5_load_35 rfl rfl ?_
    refine Y_get (pc' := 39) dX5_load_36 rfl FX5_33 (zlN (hN1 hN) (by decide)) (congrArg Prod.fst (sh0 ln)) (ct0_2 z3) ?_
    obtain ⟨z4, q4, h⟩ := bs h
    refine Y_callVv [] (pc' := 42) dX5_load_39 rfl VX5_88 (by decide) (zlN (hN1 hN) (by decide)) (congrArg Prod.fst (sh32 ln)) rfl rfl rfl (cs rfl) (cs rfl) rfl (CX2_forgetAll (hN1 hN) f3 q4) (Nat.zero_add _).symm (Nat.zero_add _).symm (fun f4 => ?_)
    refine X_aload_n (pc' := 43) dX5_load_42 rfl rfl ?_
    refine Y_get (pc' := 46) dX5_load_43 rfl FX5_26 (zlN (hN1 hN) (by decide)) (congrArg Prod.fst (sh0 ln)) (ct0_1 z4) ?_
    refine X_iconst (pc' := 47) dX5_load_46 rfl ?_
    refine Y_put (k := 1) (j := 1) (v := 0) (pc' := 50) dX5_load_47 rfl FX5_55 (zlN (hN1 hN) (by decide)) (congrArg Prod.fst (sh16 ln)) (fun r hr => by cases hr; rfl) (xFit_int _) rfl rfl ?_
    obtain ⟨z5, e5, hz5, h⟩ := zl_some (P := okz) h (okz_up f4 (inR_c (n := 0) rfl))
    rw [e5]
    refine X_aload_n (pc' := 51) dX5_load_50 rfl rfl ?_
    refine Y_get (pc' := 54) dX5_load_51 rfl FX5_17 (zlN (hN1 hN) (by decide)) (congrArg Prod.fst (sh0 ln)) (ct0_0 z5) ?_
    refine Y_get (pc' := 57) dX5_load_54 rfl FX5_91 (zlN (hN1 hN) (by decide)) (congrArg Prod.fst (sh3 ln)) (ct3_0 z5) ?_
    refine Y_get (pc' := 60) dX5_load_57 rfl FX5_95 (zlN (hN1 hN) (by decide)) (congrArg Prod.fst (sh4 ln)) (ct4_3 z5) ?_
    cases h
    exact X_iret dX5_load_60 rfl (k.2 ⟨(hz5 4 3 (by decide)), hz5⟩)
  have h := if_f c2 h
  cases h
  exact Y_throw (w := 2) dX5_load_11 dX5_load_14 (Or.inl ⟨rfl, dX5_load_15⟩) dX5_load_17 dX5_load_20 ThX5_1 strX5_79 (cs rfl) hN k.1.1 k.1.2 rfl (k.2 f1.2)
def fX5_member (v1 : Int) (v2 : Int) (z : ZZ) : Option (Int ⊕ Nat) := (Option.bind (fX5_needRow 12 (v1) z) fun q1 => match q1 with | .inl r1 => (Option.bind (fX5_needBetween (v2) (0) (5) z) fun q2 => match q2 with | .inl r2 => (Option.bind (fX4_get 12 (v1) (v2) z) fun r3 => some (.inl (r3))) | .inr E2 => some (.inr E2)) | .inr E1 => some (.inr E1))
set_option maxRecDepth 100000 in
theorem CX5_member {ln : ZR} {N : Nat} {z : ZZ} {v1 : Int} {v2 : Int} (hN : tN ln ≤ N ∧ N < 999999) (hz : okz z) (rv1 : inR v1) (rv2 : inR v2) {p : Int ⊕ Nat} (h : fX5_member v1 v2 z = some p) : X mX5_member 0 (xEnt [.ref (0), .int (iN (v1)), .int (iN (v2))] (xL mX5_member)) [] (zmk ln N z) (cc_y p) (6 * cc_y p) (Qd (fa_y p) (rs_y p) (st_y ln N z p)) := by
  have k : Fin_y (cc_y p) (6 * cc_y p) (Qd (fa_y p) (rs_y p) (st_y ln N z p)) ln N z p := Fin_y_i
  unfold fX5_member at h
  refine X_to (M := [some (.ref (0)), some (.int (iN (v1))), some (.int (iN (v2)))]) (su := []) rfl rfl ?_
  refine X_aload_n (pc' := 1) dX5_member_0 rfl rfl ?_
  refine Y_get (pc' := 4) dX5_member_1 rfl FX5_17 (zlN (hN1 hN) (by decide)) (congrArg Prod.fst (sh0 ln)) (ct0_0 z) ?_
  refine Y_get (pc' := 7) dX5_member_4 rfl FX5_132 (zlN (hN1 hN) (by decide)) (congrArg Prod.fst (sh3 ln)) (ct3_4 z) ?_
  refine X_iload_n (pc' := 8) dX5_member_7 rfl rfl ?_
  obtain ⟨r1 | E1, q1, h⟩ := bs h
  rotate_left
  · cases h
    exact Y_callSx [.ref (12), .int (iN (v1))] (pc' := 11) dX5_member_8 rfl SX5_100 (by decide) rfl (cs rfl) (cs rfl) rfl (CX5_needRow hN hz kT12 rv1 q1) k.1.1 k.1.2 rfl (fun f1 => k.2 trivial)
  refine Y_callSv [.ref (12), .int (iN (v1))] (pc' := 11) dX5_member_8 rfl SX5_100 (by decide) rfl (cs rfl) (cs rfl) rfl (CX5_needRow hN hz kT12 rv1 q1) (Nat.zero_add _).symm (Nat.zero_add _).symm (fun f1 => ?_)
  refine X_iload_n (pc' := 12) dX5_member_11 rfl rfl ?_
  refine X_iconst (pc' := 13) dX5_member_12 rfl ?_
  refine X_iconst (pc' := 14) dX5_member_13 rfl ?_
  obtain ⟨r2 | E2, q2, h⟩ := bs h
  rotate_left
  · cases h
    exact Y_callSx [.int (iN (v2)), .int (iN (0)), .int (iN (5))] (pc' := 17) dX5_member_14 rfl SX5_70 (by decide) rfl (cs rfl) (cs rfl) rfl (CX5_needBetween hN hz rv2 (inR_c (n := 0) rfl) (inR_c (n := 5) rfl) q2) k.1.1 k.1.2 rfl (fun f2 => k.2 trivial)
  refine Y_callSv [.int (iN (v2)), .int (iN (0)), .int (iN (5))] (pc' := 17) dX5_member_14 rfl SX5_70 (by decide) rfl (cs rfl) (cs rfl) rfl (CX5_needBetween hN hz rv2 (inR_c (n := 0) rfl) (inR_c (n := 5) rfl) q2) (Nat.zero_add _).symm (Nat.zero_add _).symm (fun f2 => ?_)
  refine X_aload_n (pc' := 18) dX5_member_17 rfl rfl ?_
  refine Y_get (pc' := 21) dX5_member_18 rfl FX5_17 (zlN (hN1 hN) (by decide)) (congrArg Prod.fst (sh0 ln)) (ct0_0 z) ?_
  refine Y_get (pc' := 24) dX5_member_21 rfl FX5_132 (zlN (hN1 hN) (by decide)) (congrArg Prod.fst (sh3 ln)) (ct3_4 z) ?_
  refine X_iload_n (pc' := 25) dX5_member_24 rfl rfl ?_
  refine X_iload_n (pc' := 26) dX5_member_25 rfl rfl ?_
  obtain ⟨r3, q3, h⟩ := bs h
  refine Y_callV [.int (iN (v1)), .int (iN (v2))] (pc' := 29) dX5_member_26 rfl VX5_163 (by decide) (zlN (hN1 hN) (by decide)) (congrArg Prod.fst (sh12 ln)) rfl rfl rfl (cs rfl) (cs rfl) rfl (CX4_get (hN1 hN) hz kT12 rv1 rv2 q3) (Nat.zero_add _).symm (Nat.zero_add _).symm (fun f3 => ?_)
  cases h
  exact X_iret dX5_member_29 rfl (k.2 f3)
def fX5_postpone (v1 : Int) (v2 : Int) (z : ZZ) : Option ((Int ⊕ Nat) × ZZ) := (Option.bind (fX5_needRow 4 (v1) z) fun q1 => match q1 with | .inl r1 => (Option.bind (fX5_needBetween (v2) (1) (14) z) fun q2 => match q2 with | .inl r2 => (Option.bind (fX2_remember z) fun z3 => (Option.bind (fX4_add 4 (v1) (3) (v2) z3) fun z4 => (Option.bind (fX4_get 4 (v1) (3) z4) fun r5 => some (.inl (r5), z4)))) | .inr E2 => some (.inr E2, z)) | .inr E1 => some (.inr E1, z))
set_option maxRecDepth 100000 in
theorem CX5_postpone {ln : ZR} {N : Nat} {z : ZZ} {v1 : Int} {v2 : Int} (hN : tN ln ≤ N ∧ N < 999999) (hz : okz z) (rv1 : inR v1) (rv2 : inR v2) {p : (Int ⊕ Nat) × ZZ} (h : fX5_postpone v1 v2 z = some p) : X mX5_postpone 0 (xEnt [.ref (0), .int (iN (v1)), .int (iN (v2))] (xL mX5_postpone)) [] (zmk ln N z) (cc_x p) (6 * cc_x p) (Qd (fa_x p) (rs_x p) (st_x ln N p)) := by
  have k : Fin_x (cc_x p) (6 * cc_x p) (Qd (fa_x p) (rs_x p) (st_x ln N p)) ln N p := Fin_x_i
  unfold fX5_postpone at h
  refine X_to (M := [some (.ref (0)), some (.int (iN (v1))), some (.int (iN (v2)))]) (su := []) rfl rfl ?_
  refine X_aload_n (pc' := 1) dX5_postpone_0 rfl rfl ?_
  refine Y_get (pc' := 4) dX5_postpone_1 rfl FX5_17 (zlN (hN1 hN) (by decide)) (congrArg Prod.fst (sh0 ln)) (ct0_0 z) ?_
  refine Y_get (pc' := 7) dX5_postpone_4 rfl FX5_91 (zlN (hN1 hN) (by decide)) (congrArg Prod.fst (sh3 ln)) (ct3_0 z) ?_
  refine X_iload_n (pc' := 8) dX5_postpone_7 rfl rfl ?_
  obtain ⟨r1 | E1, q1, h⟩ := bs h
  rotate_left
  · cases h
    exact Y_callSx [.ref (4), .int (iN (v1))] (pc' := 11) dX5_postpone_8 rfl SX5_100 (by decide) rfl (cs rfl) (cs rfl) rfl (CX5_needRow hN hz kT4 rv1 q1) k.1.1 k.1.2 rfl (fun f1 => k.2 hz)
  refine Y_callSv [.ref (4), .int (iN (v1))] (pc' := 11) dX5_postpone_8 rfl SX5_100 (by decide) rfl (cs rfl) (cs rfl) rfl (CX5_needRow hN hz kT4 rv1 q1) (Nat.zero_add _).symm (Nat.zero_add _).symm (fun f1 => ?_)
  refine X_iload_n (pc' := 12) dX5_postpone_11 rfl rfl ?_
  refine X_iconst (pc' := 13) dX5_postpone_12 rfl ?_
  refine X_bipush (pc' := 15) dX5_postpone_13 rfl (by decide) ?_
  obtain ⟨r2 | E2, q2, h⟩ := bs h
  rotate_left
  · cases h
    exact Y_callSx [.int (iN (v2)), .int (iN (1)), .int (iN (14))] (pc' := 18) dX5_postpone_15 rfl SX5_70 (by decide) rfl (cs rfl) (cs rfl) rfl (CX5_needBetween hN hz rv2 (inR_c (n := 1) rfl) (inR_c (n := 14) rfl) q2) k.1.1 k.1.2 rfl (fun f2 => k.2 hz)
  refine Y_callSv [.int (iN (v2)), .int (iN (1)), .int (iN (14))] (pc' := 18) dX5_postpone_15 rfl SX5_70 (by decide) rfl (cs rfl) (cs rfl) rfl (CX5_needBetween hN hz rv2 (inR_c (n := 1) rfl) (inR_c (n := 14) rfl) q2) (Nat.zero_add _).symm (Nat.zero_add _).symm (fun f2 => ?_)
  refine X_aload_n (pc' := 19) dX5_postpone_18 rfl rfl ?_
  refine Y_get (pc' := 22) dX5_postpone_19 rfl FX5_33 (zlN (hN1 hN) (by decide)) (congrArg Prod.fst (sh0 ln)) (ct0_2 z) ?_
  refine X_aload_n (pc' := 23) dX5_postpone_22 rfl rfl ?_
  refine Y_get (pc' := 26) dX5_postpone_23 rfl FX5_17 (zlN (hN1 hN) (by decide)) (congrArg Prod.fst (sh0 ln)) (ct0_0 z) ?_
  obtain ⟨z3, q3, h⟩ := bs h
  refine Y_callVv [.ref (3)] (pc' := 29) dX5_postpone_26 rfl VX5_122 (by decide) (zlN (hN1 hN) (by decide)) (congrArg Prod.fst (sh32 ln)) rfl rfl rfl (cs rfl) (cs rfl) rfl (CX2_remember (hN1 hN) hz q3) (Nat.zero_add _).symm (Nat.zero_add _).symm (fun f3 => ?_)
  refine X_aload_n (pc' := 30) dX5_postpone_29 rfl rfl ?_
  refine Y_get (pc' := 33) dX5_postpone_30 rfl FX5_17 (zlN (hN1 hN) (by decide)) (congrArg Prod.fst (sh0 ln)) (ct0_0 z3) ?_
  refine Y_get (pc' := 36) dX5_postpone_33 rfl FX5_91 (zlN (hN1 hN) (by decide)) (congrArg Prod.fst (sh3 ln)) (ct3_0 z3) ?_
  refine X_iload_n (pc' := 37) dX5_postpone_36 rfl rfl ?_
  refine X_iconst (pc' := 38) dX5_postpone_37 rfl ?_
  refine X_iload_n (pc' := 39) dX5_postpone_38 rfl rfl ?_
  obtain ⟨z4, q4, h⟩ := bs h
  refine Y_callVv [.int (iN (v1)), .int (iN (3)), .int (iN (v2))] (pc' := 42) dX5_postpone_39 rfl VX5_208 (by decide) (zlN (hN1 hN) (by decide)) (congrArg Prod.fst (sh4 ln)) rfl rfl rfl (cs rfl) (cs rfl) rfl (CX4_add (hN1 hN) f3 kT4 rv1 (inR_c (n := 3) rfl) rv2 q4) (Nat.zero_add _).symm (Nat.zero_add _).symm (fun f4 => ?_)
  refine X_aload_n (pc' := 43) dX5_postpone_42 rfl rfl ?_
  refine Y_get (pc' := 46) dX5_postpone_43 rfl FX5_17 (zlN (hN1 hN) (by decide)) (congrArg Prod.fst (sh0 ln)) (ct0_0 z4) ?_
  refine Y_get (pc' := 49) dX5_postpone_46 rfl FX5_91 (zlN (hN1 hN) (by decide)) (congrArg Prod.fst (sh3 ln)) (ct3_0 z4) ?_
  refine X_iload_n (pc' := 50) dX5_postpone_49 rfl rfl ?_
  refine X_iconst (pc' := 51) dX5_postpone_50 rfl ?_
  obtain ⟨r5, q5, h⟩ := bs h
  refine Y_callV [.int (iN (v1)), .int (iN (3))] (pc' := 54) dX5_postpone_51 rfl VX5_163 (by decide) (zlN (hN1 hN) (by decide)) (congrArg Prod.fst (sh4 ln)) rfl rfl rfl (cs rfl) (cs rfl) rfl (CX4_get (hN1 hN) f4 kT4 rv1 (inR_c (n := 3) rfl) q5) (Nat.zero_add _).symm (Nat.zero_add _).symm (fun f5 => ?_)
  cases h
  exact X_iret dX5_postpone_54 rfl (k.2 ⟨f5, f4⟩)
def fX5_removeRoute (v1 : Int) (z : ZZ) : Option ((Int ⊕ Nat) × ZZ) := (Option.bind (fX5_needRow 6 (v1) z) fun q1 => match q1 with | .inl r1 => (Option.bind (fX2_remember z) fun z2 => (Option.bind (fX1_archiveRoute (v1) z2) fun q3 => match q3 with | (r3, z3) => some (.inl (r3), z3))) | .inr E1 => some (.inr E1, z))
set_option maxRecDepth 100000 in
theorem CX5_removeRoute {ln : ZR} {N : Nat} {z : ZZ} {v1 : Int} (hN : tN ln ≤ N ∧ N < 999999) (hz : okz z) (rv1 : inR v1) {p : (Int ⊕ Nat) × ZZ} (h : fX5_removeRoute v1 z = some p) : X mX5_removeRoute 0 (xEnt [.ref (0), .int (iN (v1))] (xL mX5_removeRoute)) [] (zmk ln N z) (cc_x p) (6 * cc_x p) (Qd (fa_x p) (rs_x p) (st_x ln N p)) := by
  have k : Fin_x (cc_x p) (6 * cc_x p) (Qd (fa_x p) (rs_x p) (st_x ln N p)) ln N p := Fin_x_i
  unfold fX5_removeRoute at h
  refine X_to (M := [some (.ref (0)), some (.int (iN (v1)))]) (su := []) rfl rfl ?_
  refine X_aload_n (pc' := 1) dX5_removeRoute_0 rfl rfl ?_
  refine Y_get (pc' := 4) dX5_removeRoute_1 rfl FX5_17 (zlN (hN1 hN) (by decide)) (congrArg Prod.fst (sh0 ln)) (ct0_0 z) ?_
  refine Y_get (pc' := 7) dX5_removeRoute_4 rfl FX5_113 (zlN (hN1 hN) (by decide)) (congrArg Prod.fst (sh3 ln)) (ct3_1 z) ?_
  refine X_iload_n (pc' := 8) dX5_removeRoute_7 rfl rfl ?_
  obtain ⟨r1 | E1, q1, h⟩ := bs h
  rotate_left
  · cases h
    exact Y_callSx [.ref (6), .int (iN (v1))] (pc' := 11) dX5_removeRoute_8 rfl SX5_100 (by decide) rfl (cs rfl) (cs rfl) rfl (CX5_needRow hN hz kT6 rv1 q1) k.1.1 k.1.2 rfl (fun f1 => k.2 hz)
  refine Y_callSv [.ref (6), .int (iN (v1))] (pc' := 11) dX5_removeRoute_8 rfl SX5_100 (by decide) rfl (cs rfl) (cs rfl) rfl (CX5_needRow hN hz kT6 rv1 q1) (Nat.zero_add _).symm (Nat.zero_add _).symm (fun f1 => ?_)
  refine X_aload_n (pc' := 12) dX5_removeRoute_11 rfl rfl ?_
  refine Y_get (pc' := 15) dX5_removeRoute_12 rfl FX5_33 (zlN (hN1 hN) (by decide)) (congrArg Prod.fst (sh0 ln)) (ct0_2 z) ?_
  refine X_aload_n (pc' := 16) dX5_removeRoute_15 rfl rfl ?_
  refine Y_get (pc' := 19) dX5_removeRoute_16 rfl FX5_17 (zlN (hN1 hN) (by decide)) (congrArg Prod.fst (sh0 ln)) (ct0_0 z) ?_
  obtain ⟨z2, q2, h⟩ := bs h
  refine Y_callVv [.ref (3)] (pc' := 22) dX5_removeRoute_19 rfl VX5_122 (by decide) (zlN (hN1 hN) (by decide)) (congrArg Prod.fst (sh32 ln)) rfl rfl rfl (cs rfl) (cs rfl) rfl (CX2_remember (hN1 hN) hz q2) (Nat.zero_add _).symm (Nat.zero_add _).symm (fun f2 => ?_)
  refine X_aload_n (pc' := 23) dX5_removeRoute_22 rfl rfl ?_
  refine Y_get (pc' := 26) dX5_removeRoute_23 rfl FX5_17 (zlN (hN1 hN) (by decide)) (congrArg Prod.fst (sh0 ln)) (ct0_0 z2) ?_
  refine X_iload_n (pc' := 27) dX5_removeRoute_26 rfl rfl ?_
  obtain ⟨⟨r3, z3⟩, q3, h⟩ := bs h
  refine Y_callV [.int (iN (v1))] (pc' := 30) dX5_removeRoute_27 rfl VX5_129 (by decide) (zlN (hN1 hN) (by decide)) (congrArg Prod.fst (sh3 ln)) rfl rfl rfl (cs rfl) (cs rfl) rfl (CX1_archiveRoute (hN1 hN) f2 rv1 q3) (Nat.zero_add _).symm (Nat.zero_add _).symm (fun f3 => ?_)
  cases h
  exact X_iret dX5_removeRoute_30 rfl (k.2 ⟨f3.1, f3.2⟩)
def fX5_restore (z : ZZ) : Option ((Int ⊕ Nat) × ZZ) := (if ((z 32 4)) = (0) then some (.inr 2, z) else (Option.bind (fX2_bringBackCopy z) fun z2 => some (.inl ((z2 3 7)), z2)))
set_option maxRecDepth 100000 in
theorem CX5_restore {ln : ZR} {N : Nat} {z : ZZ} (hN : tN ln ≤ N ∧ N < 999999) (hz : okz z) {p : (Int ⊕ Nat) × ZZ} (h : fX5_restore z = some p) : X mX5_restore 0 (xEnt [.ref (0)] (xL mX5_restore)) [] (zmk ln N z) (cc_x p) (6 * cc_x p) (Qd (fa_x p) (rs_x p) (st_x ln N p)) := by
  have k : Fin_x (cc_x p) (6 * cc_x p) (Qd (fa_x p) (rs_x p) (st_x ln N p)) ln N p := Fin_x_i
  unfold fX5_restore at h
  refine X_to (M := [some (.ref (0))]) (su := []) rfl rfl ?_
  refine X_aload_n (pc' := 1) dX5_restore_0 rfl rfl ?_
  refine Y_get (pc' := 4) dX5_restore_1 rfl FX5_33 (zlN (hN1 hN) (by decide)) (congrArg Prod.fst (sh0 ln)) (ct0_2 z) ?_
  refine Y_get (pc' := 7) dX5_restore_4 rfl FX5_228 (zlN (hN1 hN) (by decide)) (congrArg Prod.fst (sh32 ln)) (ct32_4 z) ?_
  refine X_if_ne dX5_restore_7 (tgt := 20) rfl (pc' := 10) rfl (hz 32 4 (by decide)) (fun c1 => ?_) (fun c1 => ?_)
  · have h := if_f c1 h
    refine X_aload_n (pc' := 21) dX5_restore_20 rfl rfl ?_
    refine Y_get (pc' := 24) dX5_restore_21 rfl FX5_33 (zlN (hN1 hN) (by decide)) (congrArg Prod.fst (sh0 ln)) (ct0_2 z) ?_
    refine X_aload_n (pc' := 25) dX5_restore_24 rfl rfl ?_
    refine Y_get (pc' := 28) dX5_restore_25 rfl FX5_17 (zlN (hN1 hN) (by decide)) (congrArg Prod.fst (sh0 ln)) (ct0_0 z) ?_
    obtain ⟨z2, q2, h⟩ := bs h
    refine Y_callVv [.ref (3)] (pc' := 31) dX5_restore_28 rfl VX5_234 (by decide) (zlN (hN1 hN) (by decide)) (congrArg Prod.fst (sh32 ln)) rfl rfl rfl (cs rfl) (cs rfl) rfl (CX2_bringBackCopy (hN1 hN) hz q2) (Nat.zero_add _).symm (Nat.zero_add _).symm (fun f2 => ?_)
    refine X_aload_n (pc' := 32) dX5_restore_31 rfl rfl ?_
    refine Y_get (pc' := 35) dX5_restore_32 rfl FX5_17 (zlN (hN1 hN) (by decide)) (congrArg Prod.fst (sh0 ln)) (ct0_0 z2) ?_
    refine Y_get (pc' := 38) dX5_restore_35 rfl FX5_211 (zlN (hN1 hN) (by decide)) (congrArg Prod.fst (sh3 ln)) (ct3_7 z2) ?_
    cases h
    exact X_iret dX5_restore_38 rfl (k.2 ⟨(f2 3 7 (by decide)), f2⟩)
  have h := if_t c1 h
  cases h
  exact Y_throw (w := 2) dX5_restore_10 dX5_restore_13 (Or.inl ⟨rfl, dX5_restore_14⟩) dX5_restore_16 dX5_restore_19 ThX5_2 strX5_232 (cs rfl) hN k.1.1 k.1.2 rfl (k.2 hz)
def fX5_route (v1 : Int) (v2 : Int) (z : ZZ) : Option (Int ⊕ Nat) := (Option.bind (fX5_needRow 6 (v1) z) fun q1 => match q1 with | .inl r1 => (Option.bind (fX5_needBetween (v2) (0) (6) z) fun q2 => match q2 with | .inl r2 => (if (v2) = 5 then (Option.bind (fX1_votesFor (v1) z) fun r4 => some (.inl (r4))) else (if (v2) = 6 then (Option.bind (fX1_isWorn (v1) z) fun r6 => (if (r6) = (0) then some (.inl (0)) else some (.inl (1)))) else (Option.bind (fX4_get 6 (v1) (v2) z) fun r8 => some (.inl (r8))))) | .inr E2 => some (.inr E2)) | .inr E1 => some (.inr E1))
set_option maxRecDepth 100000 in
theorem CX5_route {ln : ZR} {N : Nat} {z : ZZ} {v1 : Int} {v2 : Int} (hN : tN ln ≤ N ∧ N < 999999) (hz : okz z) (rv1 : inR v1) (rv2 : inR v2) {p : Int ⊕ Nat} (h : fX5_route v1 v2 z = some p) : X mX5_route 0 (xEnt [.ref (0), .int (iN (v1)), .int (iN (v2))] (xL mX5_route)) [] (zmk ln N z) (cc_y p) (6 * cc_y p) (Qd (fa_y p) (rs_y p) (st_y ln N z p)) := by
  have k : Fin_y (cc_y p) (6 * cc_y p) (Qd (fa_y p) (rs_y p) (st_y ln N z p)) ln N z p := Fin_y_i
  unfold fX5_route at h
  refine X_to (M := [some (.ref (0)), some (.int (iN (v1))), some (.int (iN (v2)))]) (su := []) rfl rfl ?_
  refine X_aload_n (pc' := 1) dX5_route_0 rfl rfl ?_
  refine Y_get (pc' := 4) dX5_route_1 rfl FX5_17 (zlN (hN1 hN) (by decide)) (congrArg Prod.fst (sh0 ln)) (ct0_0 z) ?_
  refine Y_get (pc' := 7) dX5_route_4 rfl FX5_113 (zlN (hN1 hN) (by decide)) (congrArg Prod.fst (sh3 ln)) (ct3_1 z) ?_
  refine X_iload_n (pc' := 8) dX5_route_7 rfl rfl ?_
  obtain ⟨r1 | E1, q1, h⟩ := bs h
  rotate_left
  · cases h
    exact Y_callSx [.ref (6), .int (iN (v1))] (pc' := 11) dX5_route_8 rfl SX5_100 (by decide) rfl (cs rfl) (cs rfl) rfl (CX5_needRow hN hz kT6 rv1 q1) k.1.1 k.1.2 rfl (fun f1 => k.2 trivial)
  refine Y_callSv [.ref (6), .int (iN (v1))] (pc' := 11) dX5_route_8 rfl SX5_100 (by decide) rfl (cs rfl) (cs rfl) rfl (CX5_needRow hN hz kT6 rv1 q1) (Nat.zero_add _).symm (Nat.zero_add _).symm (fun f1 => ?_)
  refine X_iload_n (pc' := 12) dX5_route_11 rfl rfl ?_
  refine X_iconst (pc' := 13) dX5_route_12 rfl ?_
  refine X_bipush (pc' := 15) dX5_route_13 rfl (by decide) ?_
  obtain ⟨r2 | E2, q2, h⟩ := bs h
  rotate_left
  · cases h
    exact Y_callSx [.int (iN (v2)), .int (iN (0)), .int (iN (6))] (pc' := 18) dX5_route_15 rfl SX5_70 (by decide) rfl (cs rfl) (cs rfl) rfl (CX5_needBetween hN hz rv2 (inR_c (n := 0) rfl) (inR_c (n := 6) rfl) q2) k.1.1 k.1.2 rfl (fun f2 => k.2 trivial)
  refine Y_callSv [.int (iN (v2)), .int (iN (0)), .int (iN (6))] (pc' := 18) dX5_route_15 rfl SX5_70 (by decide) rfl (cs rfl) (cs rfl) rfl (CX5_needBetween hN hz rv2 (inR_c (n := 0) rfl) (inR_c (n := 6) rfl) q2) (Nat.zero_add _).symm (Nat.zero_add _).symm (fun f2 => ?_)
  refine X_iload_n (pc' := 19) dX5_route_18 rfl rfl ?_
  by_cases c3 : (v2) = 5
  · refine X_lookup dX5_route_19 (off := 25) (tgt := 44) rv2 rfl (by rw [c3]; rfl) rfl ?_
    have h := if_t c3 h
    refine X_aload_n (pc' := 45) dX5_route_44 rfl rfl ?_
    refine Y_get (pc' := 48) dX5_route_45 rfl FX5_17 (zlN (hN1 hN) (by decide)) (congrArg Prod.fst (sh0 ln)) (ct0_0 z) ?_
    refine X_iload_n (pc' := 49) dX5_route_48 rfl rfl ?_
    obtain ⟨r4, q4, h⟩ := bs h
    refine Y_callV [.int (iN (v1))] (pc' := 52) dX5_route_49 rfl VX5_249 (by decide) (zlN (hN1 hN) (by decide)) (congrArg Prod.fst (sh3 ln)) rfl rfl rfl (cs rfl) (cs rfl) rfl (CX1_votesFor (hN1 hN) hz rv1 q4) (Nat.zero_add _).symm (Nat.zero_add _).symm (fun f4 => ?_)
    cases h
    exact X_iret dX5_route_52 rfl (k.2 f4)
  have h := if_f c3 h
  by_cases c5 : (v2) = 6
  · refine X_lookup dX5_route_19 (off := 34) (tgt := 53) rv2 rfl (by rw [c5]; rfl) rfl ?_
    have h := if_t c5 h
    refine X_aload_n (pc' := 54) dX5_route_53 rfl rfl ?_
    refine Y_get (pc' := 57) dX5_route_54 rfl FX5_17 (zlN (hN1 hN) (by decide)) (congrArg Prod.fst (sh0 ln)) (ct0_0 z) ?_
    refine X_iload_n (pc' := 58) dX5_route_57 rfl rfl ?_
    obtain ⟨r6, q6, h⟩ := bs h
    refine Y_callV [.int (iN (v1))] (pc' := 61) dX5_route_58 rfl VX5_252 (by decide) (zlN (hN1 hN) (by decide)) (congrArg Prod.fst (sh3 ln)) rfl rfl rfl (cs rfl) (cs rfl) rfl (CX1_isWorn (hN1 hN) hz rv1 q6) (Nat.zero_add _).symm (Nat.zero_add _).symm (fun f6 => ?_)
    refine X_if_eq dX5_route_61 (tgt := 68) rfl (pc' := 64) rfl (inR_b f6) (fun c7 => ?_) (fun c7 => ?_)
    · have h := if_t c7 h
      refine X_iconst (pc' := 69) dX5_route_68 rfl ?_
      cases h
      exact X_iret dX5_route_69 rfl (k.2 (inR_c (n := 0) rfl))
    have h := if_f c7 h
    refine X_iconst (pc' := 65) dX5_route_64 rfl ?_
    refine X_goto dX5_route_65 (tgt := 69) rfl ?_
    cases h
    exact X_iret dX5_route_69 rfl (k.2 (inR_c (n := 1) rfl))
  have h := if_f c5 h
  refine X_lookup dX5_route_19 (off := 51) (tgt := 70) rv2 rfl (zlk2 c3 c5) rfl ?_
  refine X_aload_n (pc' := 71) dX5_route_70 rfl rfl ?_
  refine Y_get (pc' := 74) dX5_route_71 rfl FX5_17 (zlN (hN1 hN) (by decide)) (congrArg Prod.fst (sh0 ln)) (ct0_0 z) ?_
  refine Y_get (pc' := 77) dX5_route_74 rfl FX5_113 (zlN (hN1 hN) (by decide)) (congrArg Prod.fst (sh3 ln)) (ct3_1 z) ?_
  refine X_iload_n (pc' := 78) dX5_route_77 rfl rfl ?_
  refine X_iload_n (pc' := 79) dX5_route_78 rfl rfl ?_
  obtain ⟨r8, q8, h⟩ := bs h
  refine Y_callV [.int (iN (v1)), .int (iN (v2))] (pc' := 82) dX5_route_79 rfl VX5_163 (by decide) (zlN (hN1 hN) (by decide)) (congrArg Prod.fst (sh6 ln)) rfl rfl rfl (cs rfl) (cs rfl) rfl (CX4_get (hN1 hN) hz kT6 rv1 rv2 q8) (Nat.zero_add _).symm (Nat.zero_add _).symm (fun f8 => ?_)
  cases h
  exact X_iret dX5_route_82 rfl (k.2 f8)
def fX5_save (z : ZZ) : Option (Int × ZZ) := (Option.bind (fX2_keepCopy z) fun z1 => some ((z1 3 7), z1))
set_option maxRecDepth 100000 in
theorem CX5_save {ln : ZR} {N : Nat} {z : ZZ} (hN : 151 ≤ N ∧ N < 999999) (hz : okz z) {p : Int × ZZ} (h : fX5_save z = some p) : X mX5_save 0 (xEnt [.ref (0)] (xL mX5_save)) [] (zmk ln N z) (cc_wi p) (6 * cc_wi p) (Qd (fa_wi p) (rs_wi p) (st_wi ln N p)) := by
  have k : Fin_wi (Qd (fa_wi p) (rs_wi p) (st_wi ln N p)) ln N p := Fin_wi_i
  unfold fX5_save at h
  refine X_to (M := [some (.ref (0))]) (su := []) rfl rfl ?_
  refine X_aload_n (pc' := 1) dX5_save_0 rfl rfl ?_
  refine Y_get (pc' := 4) dX5_save_1 rfl FX5_33 (zlN hN (by decide)) (congrArg Prod.fst (sh0 ln)) (ct0_2 z) ?_
  refine X_aload_n (pc' := 5) dX5_save_4 rfl rfl ?_
  refine Y_get (pc' := 8) dX5_save_5 rfl FX5_17 (zlN hN (by decide)) (congrArg Prod.fst (sh0 ln)) (ct0_0 z) ?_
  obtain ⟨z1, q1, h⟩ := bs h
  refine Y_callVv [.ref (3)] (pc' := 11) dX5_save_8 rfl VX5_225 (by decide) (zlN hN (by decide)) (congrArg Prod.fst (sh32 ln)) rfl rfl rfl (cs rfl) (cs rfl) rfl (CX2_keepCopy hN hz q1) (Nat.zero_add _).symm (Nat.zero_add _).symm (fun f1 => ?_)
  refine X_aload_n (pc' := 12) dX5_save_11 rfl rfl ?_
  refine Y_get (pc' := 15) dX5_save_12 rfl FX5_17 (zlN hN (by decide)) (congrArg Prod.fst (sh0 ln)) (ct0_0 z1) ?_
  refine Y_get (pc' := 18) dX5_save_15 rfl FX5_211 (zlN hN (by decide)) (congrArg Prod.fst (sh3 ln)) (ct3_7 z1) ?_
  cases h
  exact X_iret dX5_save_18 rfl (k ⟨(f1 3 7 (by decide)), f1⟩)
def fX5_setRoute_b64 (z : ZZ) : Option ((Int ⊕ Nat) × ZZ) := some (.inr 2, z)
set_option maxRecDepth 100000 in
theorem BX5_setRoute_64 {ln : ZR} {N : Nat} {z : ZZ} {c9 s9 : Nat} {Φ : xRes → xS → Prop} (hN : tN ln ≤ N ∧ N < 999999) (hz : okz z) {p : (Int ⊕ Nat) × ZZ} (h : fX5_setRoute_b64 z = some p) (k : Fin_x c9 s9 Φ ln N p) : X mX5_setRoute 64 [none, none, none] [] (zmk ln N z) c9 s9 Φ := by
  unfold fX5_setRoute_b64 at h
  cases h
  exact Y_throw (w := 2) dX5_setRoute_64 dX5_setRoute_67 (Or.inl ⟨rfl, dX5_setRoute_68⟩) dX5_setRoute_70 dX5_setRoute_73 ThX5_2 strX5_120 (cs rfl) hN k.1.1 k.1.2 rfl (k.2 hz)
def fX5_setRoute (v1 : Int) (v2 : Int) (z : ZZ) : Option ((Int ⊕ Nat) × ZZ) := (Option.bind (fX5_needRow 4 (v1) z) fun q1 => match q1 with | .inl r1 => (Option.bind (fX5_needBetween (v2) (0) (29) z) fun q2 => match q2 with | .inl r2 => (Option.bind (fX1_isClosed (v1) z) fun r3 => (if (r3) = (0) then (Option.bind (fX1_routesOn (v1) z) fun r5 => (if (r5) < (5) then (Option.bind (fX4_isFull 6 z) fun r7 => (if (r7) = (0) then (Option.bind (fX2_remember z) fun z9 => (Option.bind (fX1_addRoute (v1) (v2) z9) fun q10 => match q10 with | (r10, z10) => some (.inl (r10), z10))) else fX5_setRoute_b64  z)) else fX5_setRoute_b64  z)) else some (.inr 2, z))) | .inr E2 => some (.inr E2, z)) | .inr E1 => some (.inr E1, z))
set_option maxRecDepth 100000 in
theorem CX5_setRoute {ln : ZR} {N : Nat} {z : ZZ} {v1 : Int} {v2 : Int} (hN : tN ln ≤ N ∧ N < 999999) (hz : okz z) (rv1 : inR v1) (rv2 : inR v2) {p : (Int ⊕ Nat) × ZZ} (h : fX5_setRoute v1 v2 z = some p) : X mX5_setRoute 0 (xEnt [.ref (0), .int (iN (v1)), .int (iN (v2))] (xL mX5_setRoute)) [] (zmk ln N z) (cc_x p) (6 * cc_x p) (Qd (fa_x p) (rs_x p) (st_x ln N p)) := by
  have k : Fin_x (cc_x p) (6 * cc_x p) (Qd (fa_x p) (rs_x p) (st_x ln N p)) ln N p := Fin_x_i
  unfold fX5_setRoute at h
  refine X_to (M := [some (.ref (0)), some (.int (iN (v1))), some (.int (iN (v2)))]) (su := []) rfl rfl ?_
  refine X_aload_n (pc' := 1) dX5_setRoute_0 rfl rfl ?_
  refine Y_get (pc' := 4) dX5_setRoute_1 rfl FX5_17 (zlN (hN1 hN) (by decide)) (congrArg Prod.fst (sh0 ln)) (ct0_0 z) ?_
  refine Y_get (pc' := 7) dX5_setRoute_4 rfl FX5_91 (zlN (hN1 hN) (by decide)) (congrArg Prod.fst (sh3 ln)) (ct3_0 z) ?_
  refine X_iload_n (pc' := 8) dX5_setRoute_7 rfl rfl ?_
  obtain ⟨r1 | E1, q1, h⟩ := bs h
  rotate_left
  · cases h
    exact Y_callSx [.ref (4), .int (iN (v1))] (pc' := 11) dX5_setRoute_8 rfl SX5_100 (by decide) rfl (cs rfl) (cs rfl) rfl (CX5_needRow hN hz kT4 rv1 q1) k.1.1 k.1.2 rfl (fun f1 => k.2 hz)
  refine Y_callSv [.ref (4), .int (iN (v1))] (pc' := 11) dX5_setRoute_8 rfl SX5_100 (by decide) rfl (cs rfl) (cs rfl) rfl (CX5_needRow hN hz kT4 rv1 q1) (Nat.zero_add _).symm (Nat.zero_add _).symm (fun f1 => ?_)
  refine X_iload_n (pc' := 12) dX5_setRoute_11 rfl rfl ?_
  refine X_iconst (pc' := 13) dX5_setRoute_12 rfl ?_
  refine X_bipush (pc' := 15) dX5_setRoute_13 rfl (by decide) ?_
  obtain ⟨r2 | E2, q2, h⟩ := bs h
  rotate_left
  · cases h
    exact Y_callSx [.int (iN (v2)), .int (iN (0)), .int (iN (29))] (pc' := 18) dX5_setRoute_15 rfl SX5_70 (by decide) rfl (cs rfl) (cs rfl) rfl (CX5_needBetween hN hz rv2 (inR_c (n := 0) rfl) (inR_c (n := 29) rfl) q2) k.1.1 k.1.2 rfl (fun f2 => k.2 hz)
  refine Y_callSv [.int (iN (v2)), .int (iN (0)), .int (iN (29))] (pc' := 18) dX5_setRoute_15 rfl SX5_70 (by decide) rfl (cs rfl) (cs rfl) rfl (CX5_needBetween hN hz rv2 (inR_c (n := 0) rfl) (inR_c (n := 29) rfl) q2) (Nat.zero_add _).symm (Nat.zero_add _).symm (fun f2 => ?_)
  refine X_aload_n (pc' := 19) dX5_setRoute_18 rfl rfl ?_
  refine Y_get (pc' := 22) dX5_setRoute_19 rfl FX5_17 (zlN (hN1 hN) (by decide)) (congrArg Prod.fst (sh0 ln)) (ct0_0 z) ?_
  refine X_iload_n (pc' := 23) dX5_setRoute_22 rfl rfl ?_
  obtain ⟨r3, q3, h⟩ := bs h
  refine Y_callV [.int (iN (v1))] (pc' := 26) dX5_setRoute_23 rfl VX5_104 (by decide) (zlN (hN1 hN) (by decide)) (congrArg Prod.fst (sh3 ln)) rfl rfl rfl (cs rfl) (cs rfl) rfl (CX1_isClosed (hN1 hN) hz rv1 q3) (Nat.zero_add _).symm (Nat.zero_add _).symm (fun f3 => ?_)
  refine X_if_eq dX5_setRoute_26 (tgt := 39) rfl (pc' := 29) rfl (inR_b f3) (fun c4 => ?_) (fun c4 => ?_)
  · have h := if_t c4 h
    refine X_aload_n (pc' := 40) dX5_setRoute_39 rfl rfl ?_
    refine Y_get (pc' := 43) dX5_setRoute_40 rfl FX5_17 (zlN (hN1 hN) (by decide)) (congrArg Prod.fst (sh0 ln)) (ct0_0 z) ?_
    refine X_iload_n (pc' := 44) dX5_setRoute_43 rfl rfl ?_
    obtain ⟨r5, q5, h⟩ := bs h
    refine Y_callV [.int (iN (v1))] (pc' := 47) dX5_setRoute_44 rfl VX5_110 (by decide) (zlN (hN1 hN) (by decide)) (congrArg Prod.fst (sh3 ln)) rfl rfl rfl (cs rfl) (cs rfl) rfl (CX1_routesOn (hN1 hN) hz rv1 q5) (Nat.zero_add _).symm (Nat.zero_add _).symm (fun f5 => ?_)
    refine X_iconst (pc' := 48) dX5_setRoute_47 rfl ?_
    refine X_icmp_ge dX5_setRoute_48 (tgt := 64) rfl (pc' := 51) rfl ⟨f5.1, f5.2, (inR_c (n := 5) rfl).1, (inR_c (n := 5) rfl).2⟩ (fun c6 => ?_) (fun c6 => ?_)
    · have h := if_f (Int.not_lt.mpr c6) h
      exact X_sub (sub_n (sub_n (sub_n sub_0))) (BX5_setRoute_64 hN hz h k)
    have h := if_t c6 h
    refine X_aload_n (pc' := 52) dX5_setRoute_51 rfl rfl ?_
    refine Y_get (pc' := 55) dX5_setRoute_52 rfl FX5_17 (zlN (hN1 hN) (by decide)) (congrArg Prod.fst (sh0 ln)) (ct0_0 z) ?_
    refine Y_get (pc' := 58) dX5_setRoute_55 rfl FX5_113 (zlN (hN1 hN) (by decide)) (congrArg Prod.fst (sh3 ln)) (ct3_1 z) ?_
    obtain ⟨r7, q7, h⟩ := bs h
    refine Y_callV [] (pc' := 61) dX5_setRoute_58 rfl VX5_116 (by decide) (zlN (hN1 hN) (by decide)) (congrArg Prod.fst (sh6 ln)) rfl rfl rfl (cs rfl) (cs rfl) rfl (CX4_isFull (hN1 hN) hz kT6 q7) (Nat.zero_add _).symm (Nat.zero_add _).symm (fun f7 => ?_)
    refine X_if_eq dX5_setRoute_61 (tgt := 74) rfl (pc' := 64) rfl (inR_b f7) (fun c8 => ?_) (fun c8 => ?_)
    · have h := if_t c8 h
      refine X_aload_n (pc' := 75) dX5_setRoute_74 rfl rfl ?_
      refine Y_get (pc' := 78) dX5_setRoute_75 rfl FX5_33 (zlN (hN1 hN) (by decide)) (congrArg Prod.fst (sh0 ln)) (ct0_2 z) ?_
      refine X_aload_n (pc' := 79) dX5_setRoute_78 rfl rfl ?_
      refine Y_get (pc' := 82) dX5_setRoute_79 rfl FX5_17 (zlN (hN1 hN) (by decide)) (congrArg Prod.fst (sh0 ln)) (ct0_0 z) ?_
      obtain ⟨z9, q9, h⟩ := bs h
      refine Y_callVv [.ref (3)] (pc' := 85) dX5_setRoute_82 rfl VX5_122 (by decide) (zlN (hN1 hN) (by decide)) (congrArg Prod.fst (sh32 ln)) rfl rfl rfl (cs rfl) (cs rfl) rfl (CX2_remember (hN1 hN) hz q9) (Nat.zero_add _).symm (Nat.zero_add _).symm (fun f9 => ?_)
      refine X_aload_n (pc' := 86) dX5_setRoute_85 rfl rfl ?_
      refine Y_get (pc' := 89) dX5_setRoute_86 rfl FX5_17 (zlN (hN1 hN) (by decide)) (congrArg Prod.fst (sh0 ln)) (ct0_0 z9) ?_
      refine X_iload_n (pc' := 90) dX5_setRoute_89 rfl rfl ?_
      refine X_iload_n (pc' := 91) dX5_setRoute_90 rfl rfl ?_
      obtain ⟨⟨r10, z10⟩, q10, h⟩ := bs h
      refine Y_callV [.int (iN (v1)), .int (iN (v2))] (pc' := 94) dX5_setRoute_91 rfl VX5_125 (by decide) (zlN (hN1 hN) (by decide)) (congrArg Prod.fst (sh3 ln)) rfl rfl rfl (cs rfl) (cs rfl) rfl (CX1_addRoute (hN1 hN) f9 rv1 rv2 q10) (Nat.zero_add _).symm (Nat.zero_add _).symm (fun f10 => ?_)
      cases h
      exact X_iret dX5_setRoute_94 rfl (k.2 ⟨f10.1, f10.2⟩)
    have h := if_f c8 h
    exact X_sub (sub_n (sub_n (sub_n sub_0))) (BX5_setRoute_64 hN hz h k)
  have h := if_f c4 h
  cases h
  exact Y_throw (w := 2) dX5_setRoute_29 dX5_setRoute_32 (Or.inl ⟨rfl, dX5_setRoute_33⟩) dX5_setRoute_35 dX5_setRoute_38 ThX5_2 strX5_108 (cs rfl) hN k.1.1 k.1.2 rfl (k.2 hz)
def fX5_truncate (v1 : Int) (z : ZZ) : Option ((Int ⊕ Nat) × ZZ) := (Option.bind (fX5_needBetween (v1) (0) ((z 16 1)) z) fun q1 => match q1 with | .inl r1 => (zl (zup z 16 1 (v1)) fun z2 => some (.inl (v1), z2)) | .inr E1 => some (.inr E1, z))
set_option maxRecDepth 100000 in
theorem CX5_truncate {ln : ZR} {N : Nat} {z : ZZ} {v1 : Int} (hN : tN ln ≤ N ∧ N < 999999) (hz : okz z) (rv1 : inR v1) {p : (Int ⊕ Nat) × ZZ} (h : fX5_truncate v1 z = some p) : X mX5_truncate 0 (xEnt [.ref (0), .int (iN (v1))] (xL mX5_truncate)) [] (zmk ln N z) (cc_x p) (6 * cc_x p) (Qd (fa_x p) (rs_x p) (st_x ln N p)) := by
  have k : Fin_x (cc_x p) (6 * cc_x p) (Qd (fa_x p) (rs_x p) (st_x ln N p)) ln N p := Fin_x_i
  unfold fX5_truncate at h
  refine X_to (M := [some (.ref (0)), some (.int (iN (v1)))]) (su := []) rfl rfl ?_
  refine X_iload_n (pc' := 1) dX5_truncate_0 rfl rfl ?_
  refine X_iconst (pc' := 2) dX5_truncate_1 rfl ?_
  refine X_aload_n (pc' := 3) dX5_truncate_2 rfl rfl ?_
  refine Y_get (pc' := 6) dX5_truncate_3 rfl FX5_26 (zlN (hN1 hN) (by decide)) (congrArg Prod.fst (sh0 ln)) (ct0_1 z) ?_
  refine Y_get (pc' := 9) dX5_truncate_6 rfl FX5_55 (zlN (hN1 hN) (by decide)) (congrArg Prod.fst (sh16 ln)) (ct16_1 z) ?_
  obtain ⟨r1 | E1, q1, h⟩ := bs h
  rotate_left
  · cases h
    exact Y_callSx [.int (iN (v1)), .int (iN (0)), .int (iN ((z 16 1)))] (pc' := 12) dX5_truncate_9 rfl SX5_70 (by decide) rfl (cs rfl) (cs rfl) rfl (CX5_needBetween hN hz rv1 (inR_c (n := 0) rfl) (hz 16 1 (by decide)) q1) k.1.1 k.1.2 rfl (fun f1 => k.2 hz)
  refine Y_callSv [.int (iN (v1)), .int (iN (0)), .int (iN ((z 16 1)))] (pc' := 12) dX5_truncate_9 rfl SX5_70 (by decide) rfl (cs rfl) (cs rfl) rfl (CX5_needBetween hN hz rv1 (inR_c (n := 0) rfl) (hz 16 1 (by decide)) q1) (Nat.zero_add _).symm (Nat.zero_add _).symm (fun f1 => ?_)
  refine X_aload_n (pc' := 13) dX5_truncate_12 rfl rfl ?_
  refine Y_get (pc' := 16) dX5_truncate_13 rfl FX5_26 (zlN (hN1 hN) (by decide)) (congrArg Prod.fst (sh0 ln)) (ct0_1 z) ?_
  refine X_iload_n (pc' := 17) dX5_truncate_16 rfl rfl ?_
  refine Y_put (k := 1) (j := 1) (v := v1) (pc' := 20) dX5_truncate_17 rfl FX5_55 (zlN (hN1 hN) (by decide)) (congrArg Prod.fst (sh16 ln)) (fun r hr => by cases hr; rfl) (xFit_int _) rfl rfl ?_
  obtain ⟨z2, e2, hz2, h⟩ := zl_some (P := okz) h (okz_up hz rv1)
  rw [e2]
  refine X_iload_n (pc' := 21) dX5_truncate_20 rfl rfl ?_
  cases h
  exact X_iret dX5_truncate_21 rfl (k.2 ⟨rv1, hz2⟩)
def fX5_undo (z : ZZ) : Option ((Int ⊕ Nat) × ZZ) := (if ((z 32 1)) = (0) then some (.inr 2, z) else (Option.bind (fX2_takeBack z) fun z2 => some (.inl ((z2 32 1)), z2)))
set_option maxRecDepth 100000 in
theorem CX5_undo {ln : ZR} {N : Nat} {z : ZZ} (hN : tN ln ≤ N ∧ N < 999999) (hz : okz z) {p : (Int ⊕ Nat) × ZZ} (h : fX5_undo z = some p) : X mX5_undo 0 (xEnt [.ref (0)] (xL mX5_undo)) [] (zmk ln N z) (cc_x p) (6 * cc_x p) (Qd (fa_x p) (rs_x p) (st_x ln N p)) := by
  have k : Fin_x (cc_x p) (6 * cc_x p) (Qd (fa_x p) (rs_x p) (st_x ln N p)) ln N p := Fin_x_i
  unfold fX5_undo at h
  refine X_to (M := [some (.ref (0))]) (su := []) rfl rfl ?_
  refine X_aload_n (pc' := 1) dX5_undo_0 rfl rfl ?_
  refine Y_get (pc' := 4) dX5_undo_1 rfl FX5_33 (zlN (hN1 hN) (by decide)) (congrArg Prod.fst (sh0 ln)) (ct0_2 z) ?_
  refine Y_get (pc' := 7) dX5_undo_4 rfl FX5_217 (zlN (hN1 hN) (by decide)) (congrArg Prod.fst (sh32 ln)) (ct32_1 z) ?_
  refine X_if_ne dX5_undo_7 (tgt := 20) rfl (pc' := 10) rfl (hz 32 1 (by decide)) (fun c1 => ?_) (fun c1 => ?_)
  · have h := if_f c1 h
    refine X_aload_n (pc' := 21) dX5_undo_20 rfl rfl ?_
    refine Y_get (pc' := 24) dX5_undo_21 rfl FX5_33 (zlN (hN1 hN) (by decide)) (congrArg Prod.fst (sh0 ln)) (ct0_2 z) ?_
    refine X_aload_n (pc' := 25) dX5_undo_24 rfl rfl ?_
    refine Y_get (pc' := 28) dX5_undo_25 rfl FX5_17 (zlN (hN1 hN) (by decide)) (congrArg Prod.fst (sh0 ln)) (ct0_0 z) ?_
    obtain ⟨z2, q2, h⟩ := bs h
    refine Y_callVv [.ref (3)] (pc' := 31) dX5_undo_28 rfl VX5_222 (by decide) (zlN (hN1 hN) (by decide)) (congrArg Prod.fst (sh32 ln)) rfl rfl rfl (cs rfl) (cs rfl) rfl (CX2_takeBack (hN1 hN) hz q2) (Nat.zero_add _).symm (Nat.zero_add _).symm (fun f2 => ?_)
    refine X_aload_n (pc' := 32) dX5_undo_31 rfl rfl ?_
    refine Y_get (pc' := 35) dX5_undo_32 rfl FX5_33 (zlN (hN1 hN) (by decide)) (congrArg Prod.fst (sh0 ln)) (ct0_2 z2) ?_
    refine Y_get (pc' := 38) dX5_undo_35 rfl FX5_217 (zlN (hN1 hN) (by decide)) (congrArg Prod.fst (sh32 ln)) (ct32_1 z2) ?_
    cases h
    exact X_iret dX5_undo_38 rfl (k.2 ⟨(f2 32 1 (by decide)), f2⟩)
  have h := if_t c1 h
  cases h
  exact Y_throw (w := 2) dX5_undo_10 dX5_undo_13 (Or.inl ⟨rfl, dX5_undo_14⟩) dX5_undo_16 dX5_undo_19 ThX5_2 strX5_220 (cs rfl) hN k.1.1 k.1.2 rfl (k.2 hz)
def fX5_undoCount (z : ZZ) : Option (Int) := some ((z 32 1))
set_option maxRecDepth 100000 in
theorem CX5_undoCount {ln : ZR} {N : Nat} {z : ZZ} (hN : 151 ≤ N ∧ N < 999999) (hz : okz z) {p : Int} (h : fX5_undoCount z = some p) : X mX5_undoCount 0 (xEnt [.ref (0)] (xL mX5_undoCount)) [] (zmk ln N z) (cc_r p) (6 * cc_r p) (Qd (fa_r p) (rs_r p) (st_r ln N z p)) := by
  have k : Fin_r (Qd (fa_r p) (rs_r p) (st_r ln N z p)) ln N z p := Fin_r_i
  unfold fX5_undoCount at h
  refine X_to (M := [some (.ref (0))]) (su := []) rfl rfl ?_
  refine X_aload_n (pc' := 1) dX5_undoCount_0 rfl rfl ?_
  refine Y_get (pc' := 4) dX5_undoCount_1 rfl FX5_33 (zlN hN (by decide)) (congrArg Prod.fst (sh0 ln)) (ct0_2 z) ?_
  refine Y_get (pc' := 7) dX5_undoCount_4 rfl FX5_217 (zlN hN (by decide)) (congrArg Prod.fst (sh32 ln)) (ct32_1 z) ?_
  cases h
  exact X_iret dX5_undoCount_7 rfl (k (hz 32 1 (by decide)))
def fX5_vote (v1 : Int) (v2 : Int) (v3 : Int) (z : ZZ) : Option ((Int ⊕ Nat) × ZZ) := (Option.bind (fX5_needRow 12 (v1) z) fun q1 => match q1 with | .inl r1 => (Option.bind (fX5_needRow 6 (v2) z) fun q2 => match q2 with | .inl r2 => (Option.bind (fX5_needBetween (v3) (0) (29) z) fun q3 => match q3 with | .inl r3 => (Option.bind (fX1_hasClimbed (v1) (v2) z) fun r4 => (if (r4) = (0) then some (.inr 2, z) else (Option.bind (fX2_remember z) fun z6 => (if inR ((6 + v1)) then (Option.bind (fX4_set 6 (v2) ((6 + v1)) (v3) z6) fun z8 => (Option.bind (fX1_gradeOf (v2) z8) fun q9 => match q9 with | (r9, z9) => some (.inl (r9), z9))) else none)))) | .inr E3 => some (.inr E3, z)) | .inr E2 => some (.inr E2, z)) | .inr E1 => some (.inr E1, z))
set_option maxRecDepth 100000 in
theorem CX5_vote {ln : ZR} {N : Nat} {z : ZZ} {v1 : Int} {v2 : Int} {v3 : Int} (hN : tN ln ≤ N ∧ N < 999999) (hz : okz z) (rv1 : inR v1) (rv2 : inR v2) (rv3 : inR v3) {p : (Int ⊕ Nat) × ZZ} (h : fX5_vote v1 v2 v3 z = some p) : X mX5_vote 0 (xEnt [.ref (0), .int (iN (v1)), .int (iN (v2)), .int (iN (v3))] (xL mX5_vote)) [] (zmk ln N z) (cc_x p) (6 * cc_x p) (Qd (fa_x p) (rs_x p) (st_x ln N p)) := by
  have k : Fin_x (cc_x p) (6 * cc_x p) (Qd (fa_x p) (rs_x p) (st_x ln N p)) ln N p := Fin_x_i
  unfold fX5_vote at h
  refine X_to (M := [some (.ref (0)), some (.int (iN (v1))), some (.int (iN (v2))), some (.int (iN (v3)))]) (su := []) rfl rfl ?_
  refine X_aload_n (pc' := 1) dX5_vote_0 rfl rfl ?_
  refine Y_get (pc' := 4) dX5_vote_1 rfl FX5_17 (zlN (hN1 hN) (by decide)) (congrArg Prod.fst (sh0 ln)) (ct0_0 z) ?_
  refine Y_get (pc' := 7) dX5_vote_4 rfl FX5_132 (zlN (hN1 hN) (by decide)) (congrArg Prod.fst (sh3 ln)) (ct3_4 z) ?_
  refine X_iload_n (pc' := 8) dX5_vote_7 rfl rfl ?_
  obtain ⟨r1 | E1, q1, h⟩ := bs h
  rotate_left
  · cases h
    exact Y_callSx [.ref (12), .int (iN (v1))] (pc' := 11) dX5_vote_8 rfl SX5_100 (by decide) rfl (cs rfl) (cs rfl) rfl (CX5_needRow hN hz kT12 rv1 q1) k.1.1 k.1.2 rfl (fun f1 => k.2 hz)
  refine Y_callSv [.ref (12), .int (iN (v1))] (pc' := 11) dX5_vote_8 rfl SX5_100 (by decide) rfl (cs rfl) (cs rfl) rfl (CX5_needRow hN hz kT12 rv1 q1) (Nat.zero_add _).symm (Nat.zero_add _).symm (fun f1 => ?_)
  refine X_aload_n (pc' := 12) dX5_vote_11 rfl rfl ?_
  refine Y_get (pc' := 15) dX5_vote_12 rfl FX5_17 (zlN (hN1 hN) (by decide)) (congrArg Prod.fst (sh0 ln)) (ct0_0 z) ?_
  refine Y_get (pc' := 18) dX5_vote_15 rfl FX5_113 (zlN (hN1 hN) (by decide)) (congrArg Prod.fst (sh3 ln)) (ct3_1 z) ?_
  refine X_iload_n (pc' := 19) dX5_vote_18 rfl rfl ?_
  obtain ⟨r2 | E2, q2, h⟩ := bs h
  rotate_left
  · cases h
    exact Y_callSx [.ref (6), .int (iN (v2))] (pc' := 22) dX5_vote_19 rfl SX5_100 (by decide) rfl (cs rfl) (cs rfl) rfl (CX5_needRow hN hz kT6 rv2 q2) k.1.1 k.1.2 rfl (fun f2 => k.2 hz)
  refine Y_callSv [.ref (6), .int (iN (v2))] (pc' := 22) dX5_vote_19 rfl SX5_100 (by decide) rfl (cs rfl) (cs rfl) rfl (CX5_needRow hN hz kT6 rv2 q2) (Nat.zero_add _).symm (Nat.zero_add _).symm (fun f2 => ?_)
  refine X_iload_n (pc' := 23) dX5_vote_22 rfl rfl ?_
  refine X_iconst (pc' := 24) dX5_vote_23 rfl ?_
  refine X_bipush (pc' := 26) dX5_vote_24 rfl (by decide) ?_
  obtain ⟨r3 | E3, q3, h⟩ := bs h
  rotate_left
  · cases h
    exact Y_callSx [.int (iN (v3)), .int (iN (0)), .int (iN (29))] (pc' := 29) dX5_vote_26 rfl SX5_70 (by decide) rfl (cs rfl) (cs rfl) rfl (CX5_needBetween hN hz rv3 (inR_c (n := 0) rfl) (inR_c (n := 29) rfl) q3) k.1.1 k.1.2 rfl (fun f3 => k.2 hz)
  refine Y_callSv [.int (iN (v3)), .int (iN (0)), .int (iN (29))] (pc' := 29) dX5_vote_26 rfl SX5_70 (by decide) rfl (cs rfl) (cs rfl) rfl (CX5_needBetween hN hz rv3 (inR_c (n := 0) rfl) (inR_c (n := 29) rfl) q3) (Nat.zero_add _).symm (Nat.zero_add _).symm (fun f3 => ?_)
  refine X_aload_n (pc' := 30) dX5_vote_29 rfl rfl ?_
  refine Y_get (pc' := 33) dX5_vote_30 rfl FX5_17 (zlN (hN1 hN) (by decide)) (congrArg Prod.fst (sh0 ln)) (ct0_0 z) ?_
  refine X_iload_n (pc' := 34) dX5_vote_33 rfl rfl ?_
  refine X_iload_n (pc' := 35) dX5_vote_34 rfl rfl ?_
  obtain ⟨r4, q4, h⟩ := bs h
  refine Y_callV [.int (iN (v1)), .int (iN (v2))] (pc' := 38) dX5_vote_35 rfl VX5_144 (by decide) (zlN (hN1 hN) (by decide)) (congrArg Prod.fst (sh3 ln)) rfl rfl rfl (cs rfl) (cs rfl) rfl (CX1_hasClimbed (hN1 hN) hz rv1 rv2 q4) (Nat.zero_add _).symm (Nat.zero_add _).symm (fun f4 => ?_)
  refine X_if_ne dX5_vote_38 (tgt := 51) rfl (pc' := 41) rfl (inR_b f4) (fun c5 => ?_) (fun c5 => ?_)
  · have h := if_f c5 h
    refine X_aload_n (pc' := 52) dX5_vote_51 rfl rfl ?_
    refine Y_get (pc' := 55) dX5_vote_52 rfl FX5_33 (zlN (hN1 hN) (by decide)) (congrArg Prod.fst (sh0 ln)) (ct0_2 z) ?_
    refine X_aload_n (pc' := 56) dX5_vote_55 rfl rfl ?_
    refine Y_get (pc' := 59) dX5_vote_56 rfl FX5_17 (zlN (hN1 hN) (by decide)) (congrArg Prod.fst (sh0 ln)) (ct0_0 z) ?_
    obtain ⟨z6, q6, h⟩ := bs h
    refine Y_callVv [.ref (3)] (pc' := 62) dX5_vote_59 rfl VX5_122 (by decide) (zlN (hN1 hN) (by decide)) (congrArg Prod.fst (sh32 ln)) rfl rfl rfl (cs rfl) (cs rfl) rfl (CX2_remember (hN1 hN) hz q6) (Nat.zero_add _).symm (Nat.zero_add _).symm (fun f6 => ?_)
    refine X_aload_n (pc' := 63) dX5_vote_62 rfl rfl ?_
    refine Y_get (pc' := 66) dX5_vote_63 rfl FX5_17 (zlN (hN1 hN) (by decide)) (congrArg Prod.fst (sh0 ln)) (ct0_0 z6) ?_
    refine Y_get (pc' := 69) dX5_vote_66 rfl FX5_113 (zlN (hN1 hN) (by decide)) (congrArg Prod.fst (sh3 ln)) (ct3_1 z6) ?_
    refine X_iload_n (pc' := 70) dX5_vote_69 rfl rfl ?_
    refine X_bipush (pc' := 72) dX5_vote_70 rfl (by decide) ?_
    refine X_iload_n (pc' := 73) dX5_vote_72 rfl rfl ?_
    refine X_iadd (pc' := 74) dX5_vote_73 rfl ?_
    refine X_iload_n (pc' := 75) dX5_vote_74 rfl rfl ?_
    obtain ⟨g7, h⟩ := gs h
    obtain ⟨z8, q8, h⟩ := bs h
    refine Y_callVv [.int (iN (v2)), .int (iN ((6 + v1))), .int (iN (v3))] (pc' := 78) dX5_vote_75 rfl VX5_149 (by decide) (zlN (hN1 hN) (by decide)) (congrArg Prod.fst (sh6 ln)) rfl rfl rfl (cs rfl) (cs rfl) rfl (CX4_set (hN1 hN) f6 kT6 rv2 g7 rv3 q8) (Nat.zero_add _).symm (Nat.zero_add _).symm (fun f8 => ?_)
    refine X_aload_n (pc' := 79) dX5_vote_78 rfl rfl ?_
    refine Y_get (pc' := 82) dX5_vote_79 rfl FX5_17 (zlN (hN1 hN) (by decide)) (congrArg Prod.fst (sh0 ln)) (ct0_0 z8) ?_
    refine X_iload_n (pc' := 83) dX5_vote_82 rfl rfl ?_
    obtain ⟨⟨r9, z9⟩, q9, h⟩ := bs h
    refine Y_callV [.int (iN (v2))] (pc' := 86) dX5_vote_83 rfl VX5_152 (by decide) (zlN (hN1 hN) (by decide)) (congrArg Prod.fst (sh3 ln)) rfl rfl rfl (cs rfl) (cs rfl) rfl (CX1_gradeOf (hN1 hN) f8 rv2 q9) (Nat.zero_add _).symm (Nat.zero_add _).symm (fun f9 => ?_)
    cases h
    exact X_iret dX5_vote_86 rfl (k.2 ⟨f9.1, f9.2⟩)
  have h := if_t c5 h
  cases h
  exact Y_throw (w := 2) dX5_vote_41 dX5_vote_44 (Or.inl ⟨rfl, dX5_vote_45⟩) dX5_vote_47 dX5_vote_50 ThX5_2 strX5_147 (cs rfl) hN k.1.1 k.1.2 rfl (k.2 hz)
def fX5_wall (v1 : Int) (v2 : Int) (z : ZZ) : Option (Int ⊕ Nat) := (Option.bind (fX5_needRow 4 (v1) z) fun q1 => match q1 with | .inl r1 => (Option.bind (fX5_needBetween (v2) (0) (5) z) fun q2 => match q2 with | .inl r2 => (if (v2) = 4 then (Option.bind (fX1_routesOn (v1) z) fun r4 => some (.inl (r4))) else (if (v2) = 5 then (Option.bind (fX1_isClosed (v1) z) fun r6 => (if (r6) = (0) then some (.inl (0)) else some (.inl (1)))) else (Option.bind (fX4_get 4 (v1) (v2) z) fun r8 => some (.inl (r8))))) | .inr E2 => some (.inr E2)) | .inr E1 => some (.inr E1))
set_option maxRecDepth 100000 in
theorem CX5_wall {ln : ZR} {N : Nat} {z : ZZ} {v1 : Int} {v2 : Int} (hN : tN ln ≤ N ∧ N < 999999) (hz : okz z) (rv1 : inR v1) (rv2 : inR v2) {p : Int ⊕ Nat} (h : fX5_wall v1 v2 z = some p) : X mX5_wall 0 (xEnt [.ref (0), .int (iN (v1)), .int (iN (v2))] (xL mX5_wall)) [] (zmk ln N z) (cc_y p) (6 * cc_y p) (Qd (fa_y p) (rs_y p) (st_y ln N z p)) := by
  have k : Fin_y (cc_y p) (6 * cc_y p) (Qd (fa_y p) (rs_y p) (st_y ln N z p)) ln N z p := Fin_y_i
  unfold fX5_wall at h
  refine X_to (M := [some (.ref (0)), some (.int (iN (v1))), some (.int (iN (v2)))]) (su := []) rfl rfl ?_
  refine X_aload_n (pc' := 1) dX5_wall_0 rfl rfl ?_
  refine Y_get (pc' := 4) dX5_wall_1 rfl FX5_17 (zlN (hN1 hN) (by decide)) (congrArg Prod.fst (sh0 ln)) (ct0_0 z) ?_
  refine Y_get (pc' := 7) dX5_wall_4 rfl FX5_91 (zlN (hN1 hN) (by decide)) (congrArg Prod.fst (sh3 ln)) (ct3_0 z) ?_
  refine X_iload_n (pc' := 8) dX5_wall_7 rfl rfl ?_
  obtain ⟨r1 | E1, q1, h⟩ := bs h
  rotate_left
  · cases h
    exact Y_callSx [.ref (4), .int (iN (v1))] (pc' := 11) dX5_wall_8 rfl SX5_100 (by decide) rfl (cs rfl) (cs rfl) rfl (CX5_needRow hN hz kT4 rv1 q1) k.1.1 k.1.2 rfl (fun f1 => k.2 trivial)
  refine Y_callSv [.ref (4), .int (iN (v1))] (pc' := 11) dX5_wall_8 rfl SX5_100 (by decide) rfl (cs rfl) (cs rfl) rfl (CX5_needRow hN hz kT4 rv1 q1) (Nat.zero_add _).symm (Nat.zero_add _).symm (fun f1 => ?_)
  refine X_iload_n (pc' := 12) dX5_wall_11 rfl rfl ?_
  refine X_iconst (pc' := 13) dX5_wall_12 rfl ?_
  refine X_iconst (pc' := 14) dX5_wall_13 rfl ?_
  obtain ⟨r2 | E2, q2, h⟩ := bs h
  rotate_left
  · cases h
    exact Y_callSx [.int (iN (v2)), .int (iN (0)), .int (iN (5))] (pc' := 17) dX5_wall_14 rfl SX5_70 (by decide) rfl (cs rfl) (cs rfl) rfl (CX5_needBetween hN hz rv2 (inR_c (n := 0) rfl) (inR_c (n := 5) rfl) q2) k.1.1 k.1.2 rfl (fun f2 => k.2 trivial)
  refine Y_callSv [.int (iN (v2)), .int (iN (0)), .int (iN (5))] (pc' := 17) dX5_wall_14 rfl SX5_70 (by decide) rfl (cs rfl) (cs rfl) rfl (CX5_needBetween hN hz rv2 (inR_c (n := 0) rfl) (inR_c (n := 5) rfl) q2) (Nat.zero_add _).symm (Nat.zero_add _).symm (fun f2 => ?_)
  refine X_iload_n (pc' := 18) dX5_wall_17 rfl rfl ?_
  by_cases c3 : (v2) = 4
  · refine X_lookup dX5_wall_18 (off := 26) (tgt := 44) rv2 rfl (by rw [c3]; rfl) rfl ?_
    have h := if_t c3 h
    refine X_aload_n (pc' := 45) dX5_wall_44 rfl rfl ?_
    refine Y_get (pc' := 48) dX5_wall_45 rfl FX5_17 (zlN (hN1 hN) (by decide)) (congrArg Prod.fst (sh0 ln)) (ct0_0 z) ?_
    refine X_iload_n (pc' := 49) dX5_wall_48 rfl rfl ?_
    obtain ⟨r4, q4, h⟩ := bs h
    refine Y_callV [.int (iN (v1))] (pc' := 52) dX5_wall_49 rfl VX5_110 (by decide) (zlN (hN1 hN) (by decide)) (congrArg Prod.fst (sh3 ln)) rfl rfl rfl (cs rfl) (cs rfl) rfl (CX1_routesOn (hN1 hN) hz rv1 q4) (Nat.zero_add _).symm (Nat.zero_add _).symm (fun f4 => ?_)
    cases h
    exact X_iret dX5_wall_52 rfl (k.2 f4)
  have h := if_f c3 h
  by_cases c5 : (v2) = 5
  · refine X_lookup dX5_wall_18 (off := 35) (tgt := 53) rv2 rfl (by rw [c5]; rfl) rfl ?_
    have h := if_t c5 h
    refine X_aload_n (pc' := 54) dX5_wall_53 rfl rfl ?_
    refine Y_get (pc' := 57) dX5_wall_54 rfl FX5_17 (zlN (hN1 hN) (by decide)) (congrArg Prod.fst (sh0 ln)) (ct0_0 z) ?_
    refine X_iload_n (pc' := 58) dX5_wall_57 rfl rfl ?_
    obtain ⟨r6, q6, h⟩ := bs h
    refine Y_callV [.int (iN (v1))] (pc' := 61) dX5_wall_58 rfl VX5_104 (by decide) (zlN (hN1 hN) (by decide)) (congrArg Prod.fst (sh3 ln)) rfl rfl rfl (cs rfl) (cs rfl) rfl (CX1_isClosed (hN1 hN) hz rv1 q6) (Nat.zero_add _).symm (Nat.zero_add _).symm (fun f6 => ?_)
    refine X_if_eq dX5_wall_61 (tgt := 68) rfl (pc' := 64) rfl (inR_b f6) (fun c7 => ?_) (fun c7 => ?_)
    · have h := if_t c7 h
      refine X_iconst (pc' := 69) dX5_wall_68 rfl ?_
      cases h
      exact X_iret dX5_wall_69 rfl (k.2 (inR_c (n := 0) rfl))
    have h := if_f c7 h
    refine X_iconst (pc' := 65) dX5_wall_64 rfl ?_
    refine X_goto dX5_wall_65 (tgt := 69) rfl ?_
    cases h
    exact X_iret dX5_wall_69 rfl (k.2 (inR_c (n := 1) rfl))
  have h := if_f c5 h
  refine X_lookup dX5_wall_18 (off := 52) (tgt := 70) rv2 rfl (zlk2 c3 c5) rfl ?_
  refine X_aload_n (pc' := 71) dX5_wall_70 rfl rfl ?_
  refine Y_get (pc' := 74) dX5_wall_71 rfl FX5_17 (zlN (hN1 hN) (by decide)) (congrArg Prod.fst (sh0 ln)) (ct0_0 z) ?_
  refine Y_get (pc' := 77) dX5_wall_74 rfl FX5_91 (zlN (hN1 hN) (by decide)) (congrArg Prod.fst (sh3 ln)) (ct3_0 z) ?_
  refine X_iload_n (pc' := 78) dX5_wall_77 rfl rfl ?_
  refine X_iload_n (pc' := 79) dX5_wall_78 rfl rfl ?_
  obtain ⟨r8, q8, h⟩ := bs h
  refine Y_callV [.int (iN (v1)), .int (iN (v2))] (pc' := 82) dX5_wall_79 rfl VX5_163 (by decide) (zlN (hN1 hN) (by decide)) (congrArg Prod.fst (sh4 ln)) rfl rfl rfl (cs rfl) (cs rfl) rfl (CX4_get (hN1 hN) hz kT4 rv1 rv2 q8) (Nat.zero_add _).symm (Nat.zero_add _).symm (fun f8 => ?_)
  cases h
  exact X_iret dX5_wall_82 rfl (k.2 f8)

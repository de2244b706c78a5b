def fX1_addCheck (v1 : Int) (v2 : Int) (z : ZZ) : Option (ZZ) := (Option.bind (fX4_set 10 (v1) (2) ((z 3 7)) z) fun z1 => (if (v2) = (0) then (Option.bind (fX4_set 10 (v1) (3) (1) z1) fun z3 => some z3) else (Option.bind (fX4_set 10 (v1) (3) (0) z1) fun z4 => some z4)))
set_option maxRecDepth 100000 in
theorem CX1_addCheck {ln : ZR} {N : Nat} {z : ZZ} {v1 : Int} {v2 : Int} (hN : 151 ≤ N ∧ N < 999999) (hz : okz z) (rv1 : inR v1) (rv2 : inR v2) {p : ZZ} (h : fX1_addCheck v1 v2 z = some p) : X mX1_addCheck 0 (xEnt [.ref (3), .int (iN (v1)), .int (iN (v2))] (xL mX1_addCheck)) [] (zmk ln N z) (cc_w p) (6 * cc_w p) (Qd (fa_w p) (rs_w p) (st_w ln N p)) := by
  have k : Fin_w (Qd (fa_w p) (rs_w p) (st_w ln N p)) ln N p := Fin_w_i
  unfold fX1_addCheck at h
  refine X_to (M := [some (.ref (3)), some (.int (iN (v1))), some (.int (iN (v2)))]) (su := []) rfl rfl ?_
  refine X_aload_n (pc' := 1) dX1_addCheck_0 rfl rfl ?_
  refine Y_get (pc' := 4) dX1_addCheck_1 rfl FX1_26 (zlN hN (by decide)) (congrArg Prod.fst (sh3 ln)) (ct3_3 z) ?_
  refine X_iload_n (pc' := 5) dX1_addCheck_4 rfl rfl ?_
  refine X_iconst (pc' := 6) dX1_addCheck_5 rfl ?_
  refine X_aload_n (pc' := 7) dX1_addCheck_6 rfl rfl ?_
  refine Y_get (pc' := 10) dX1_addCheck_7 rfl FX1_35 (zlN hN (by decide)) (congrArg Prod.fst (sh3 ln)) (ct3_7 z) ?_
  obtain ⟨z1, q1, h⟩ := bs h
  refine Y_callVv [.int (iN (v1)), .int (iN (2)), .int (iN ((z 3 7)))] (pc' := 13) dX1_addCheck_10 rfl VX1_67 (by decide) (zlN hN (by decide)) (congrArg Prod.fst (sh10 ln)) rfl rfl rfl (cs rfl) (cs rfl) rfl (CX4_set hN hz kT10 rv1 (inR_c (n := 2) rfl) (hz 3 7 (by decide)) q1) (Nat.zero_add _).symm (Nat.zero_add _).symm (fun f1 => ?_)
  refine X_aload_n (pc' := 14) dX1_addCheck_13 rfl rfl ?_
  refine Y_get (pc' := 17) dX1_addCheck_14 rfl FX1_26 (zlN hN (by decide)) (congrArg Prod.fst (sh3 ln)) (ct3_3 z1) ?_
  refine X_iload_n (pc' := 18) dX1_addCheck_17 rfl rfl ?_
  refine X_iconst (pc' := 19) dX1_addCheck_18 rfl ?_
  refine X_iload_n (pc' := 20) dX1_addCheck_19 rfl rfl ?_
  refine X_if_eq dX1_addCheck_20 (tgt := 27) rfl (pc' := 23) rfl rv2 (fun c2 => ?_) (fun c2 => ?_)
  · have h := if_t c2 h
    refine X_iconst (pc' := 28) dX1_addCheck_27 rfl ?_
    obtain ⟨z3, q3, h⟩ := bs h
    refine Y_callVv [.int (iN (v1)), .int (iN (3)), .int (iN (1))] (pc' := 31) dX1_addCheck_28 rfl VX1_67 (by decide) (zlN hN (by decide)) (congrArg Prod.fst (sh10 ln)) rfl rfl rfl (cs rfl) (cs rfl) rfl (CX4_set hN f1 kT10 rv1 (inR_c (n := 3) rfl) (inR_c (n := 1) rfl) q3) (Nat.zero_add _).symm (Nat.zero_add _).symm (fun f3 => ?_)
    cases h
    exact X_vret dX1_addCheck_31 rfl (k f3)
  have h := if_f c2 h
  refine X_iconst (pc' := 24) dX1_addCheck_23 rfl ?_
  refine X_goto dX1_addCheck_24 (tgt := 28) rfl ?_
  obtain ⟨z4, q4, h⟩ := bs h
  refine Y_callVv [.int (iN (v1)), .int (iN (3)), .int (iN (0))] (pc' := 31) dX1_addCheck_28 rfl VX1_67 (by decide) (zlN hN (by decide)) (congrArg Prod.fst (sh10 ln)) rfl rfl rfl (cs rfl) (cs rfl) rfl (CX4_set hN f1 kT10 rv1 (inR_c (n := 3) rfl) (inR_c (n := 0) rfl) q4) (Nat.zero_add _).symm (Nat.zero_add _).symm (fun f4 => ?_)
  cases h
  exact X_vret dX1_addCheck_31 rfl (k f4)
def fX1_fillBallot_s34 (v1 : Int) (v2 : Int) (v3 : Int) (v4 : Int) (v5 : Int) (z : ZZ) : Option ((Int × ZZ) ⊕ (ZZ)) := (if (v5) < ((z 12 3)) then (if inR ((6 + v5)) then (Option.bind (fX4_get 6 (v1) ((6 + v5)) z) fun r3 => (Option.bind (fX0_addVotes (r3) (1) z) fun z4 => (if inR ((v5 + 1)) then some (.inl ((v5 + 1), z4)) else none))) else none) else some (.inr z))
set_option maxRecDepth 100000 in
theorem SX1_fillBallot_34 {ln : ZR} {N : Nat} {z : ZZ} {v1 : Int} {v2 : Int} {v3 : Int} {v4 : Int} {v5 : Int} {c9 s9 : Nat} {Φ : xRes → xS → Prop} (hN : 151 ≤ N ∧ N < 999999) (hz : okz z) (rv1 : inR v1) (rv2 : inR v2) (rv3 : inR v3) (rv4 : inR v4) (rv5 : inR v5) {p : (Int × ZZ) ⊕ (ZZ)} (h : fX1_fillBallot_s34 v1 v2 v3 v4 v5 z = some p) (k1 : ∀ (v5' : Int) (z' : ZZ), p = .inl (v5', z') → inR v5' → okz z' → X mX1_fillBallot 34 [some (.ref (3)), some (.int (iN (v1))), some (.int (iN (v2))), some (.int (iN (v3))), some (.int (iN (v4))), some (.int (iN (v5')))] [] (zmk ln N z') c9 s9 Φ) (k2 : ∀ (z' : ZZ), p = .inr z' → okz z' → X mX1_fillBallot 73 [some (.ref (3)), none, some (.int (iN (v2))), some (.int (iN (v3))), some (.int (iN (v4))), none] [] (zmk ln N z') c9 s9 Φ) : X mX1_fillBallot 34 [some (.ref (3)), some (.int (iN (v1))), some (.int (iN (v2))), some (.int (iN (v3))), some (.int (iN (v4))), some (.int (iN (v5)))] [] (zmk ln N z) c9 s9 Φ := by
  unfold fX1_fillBallot_s34 at h
  refine X_iload (pc' := 36) dX1_fillBallot_34 rfl rfl ?_
  refine X_aload_n (pc' := 37) dX1_fillBallot_36 rfl rfl ?_
  refine Y_get (pc' := 40) dX1_fillBallot_37 rfl FX1_29 (zlN hN (by decide)) (congrArg Prod.fst (sh3 ln)) (ct3_4 z) ?_
  refine Y_get (pc' := 43) dX1_fillBallot_40 rfl FX1_70 (zlN hN (by decide)) (congrArg Prod.fst (sh12 ln)) (ct12_3 z) ?_
  refine X_icmp_ge dX1_fillBallot_43 (tgt := 73) rfl (pc' := 46) rfl ⟨rv5.1, rv5.2, (hz 12 3 (by decide)).1, (hz 12 3 (by decide)).2⟩ (fun c1 => ?_) (fun c1 => ?_)
  · have h := if_f (Int.not_lt.mpr c1) h
    cases h
    exact X_sub (sub_s (sub_n (sub_s (sub_s (sub_s (sub_n sub_0)))))) (k2 _ rfl hz)
  have h := if_t c1 h
  refine X_aload_n (pc' := 47) dX1_fillBallot_46 rfl rfl ?_
  refine Y_get (pc' := 50) dX1_fillBallot_47 rfl FX1_48 (zlN hN (by decide)) (congrArg Prod.fst (sh3 ln)) (ct3_6 z) ?_
  refine X_aload_n (pc' := 51) dX1_fillBallot_50 rfl rfl ?_
  refine Y_get (pc' := 54) dX1_fillBallot_51 rfl FX1_20 (zlN hN (by decide)) (congrArg Prod.fst (sh3 ln)) (ct3_1 z) ?_
  refine X_iload_n (pc' := 55) dX1_fillBallot_54 rfl rfl ?_
  refine X_bipush (pc' := 57) dX1_fillBallot_55 rfl (by decide) ?_
  refine X_iload (pc' := 59) dX1_fillBallot_57 rfl rfl ?_
  refine X_iadd (pc' := 60) dX1_fillBallot_59 rfl ?_
  obtain ⟨g2, h⟩ := gs h
  obtain ⟨r3, q3, h⟩ := bs h
  refine Y_callV [.int (iN (v1)), .int (iN ((6 + v5)))] (pc' := 63) dX1_fillBallot_60 rfl VX1_73 (by decide) (zlN hN (by decide)) (congrArg Prod.fst (sh6 ln)) rfl rfl rfl (cs rfl) (cs rfl) rfl (CX4_get hN hz kT6 rv1 g2 q3) (Nat.zero_add _).symm (Nat.zero_add _).symm (fun f3 => ?_)
  refine X_iconst (pc' := 64) dX1_fillBallot_63 rfl ?_
  obtain ⟨z4, q4, h⟩ := bs h
  refine Y_callVv [.int (iN (r3)), .int (iN (1))] (pc' := 67) dX1_fillBallot_64 rfl VX1_115 (by decide) (zlN hN (by decide)) (congrArg Prod.fst (sh1 ln)) rfl rfl rfl (cs rfl) (cs rfl) rfl (CX0_addVotes hN hz f3 (inR_c (n := 1) rfl) q4) (Nat.zero_add _).symm (Nat.zero_add _).symm (fun f4 => ?_)
  refine X_iinc (pc' := 70) dX1_fillBallot_67 rfl rfl (Or.inr rfl) (L' := [some (.ref (3)), some (.int (iN (v1))), some (.int (iN (v2))), some (.int (iN (v3))), some (.int (iN (v4))), some (.int (iN (v5 + 1)))]) rfl ?_
  refine X_goto dX1_fillBallot_70 (tgt := 34) rfl ?_
  obtain ⟨g5, h⟩ := gs h
  cases h
  exact X_sub (sub_s (sub_s (sub_s (sub_s (sub_s (sub_s sub_0)))))) (k1 _ _ rfl g5 f4)
theorem LX1_fillBallot_34 {ln : ZR} {N : Nat} {v1 : Int} {v2 : Int} {v3 : Int} {v4 : Int} {c9 s9 : Nat} {Φ : xRes → xS → Prop} (hN : 151 ≤ N ∧ N < 999999) (rv1 : inR v1) (rv2 : inR v2) (rv3 : inR v3) (rv4 : inR v4) {r : ZZ} (k2 : ∀ (z' : ZZ), r = z' → okz z' → X mX1_fillBallot 73 [some (.ref (3)), none, some (.int (iN (v2))), some (.int (iN (v3))), some (.int (iN (v4))), none] [] (zmk ln N z') c9 s9 Φ) : ∀ (n : Nat) (v5 : Int) (z : ZZ), inR v5 → okz z → zlp (fun q => fX1_fillBallot_s34 v1 v2 v3 v4 q.1 q.2) n (v5, z) = some r → X mX1_fillBallot 34 [some (.ref (3)), some (.int (iN (v1))), some (.int (iN (v2))), some (.int (iN (v3))), some (.int (iN (v4))), some (.int (iN (v5)))] [] (zmk ln N z) c9 s9 Φ := by
  intro n
  induction n with
  | zero => intro v5 z rv5 hz h; cases h
  | succ n ih =>
    intro v5 z rv5 hz h
    rcases zlp_s h with ⟨⟨v5', z'⟩, e, h'⟩ | e
    · exact SX1_fillBallot_34 hN hz rv1 rv2 rv3 rv4 rv5 e (fun v5₁ z₁ hh f0 f1 => by cases hh; exact ih _ _ f0 f1 h') (fun z₁ hh f0 => by cases hh)
    · exact SX1_fillBallot_34 hN hz rv1 rv2 rv3 rv4 rv5 e (fun v5₁ z₁ hh f0 f1 => by cases hh) (fun z₁ hh f0 => by cases hh; exact k2 _ rfl f0)
def fX1_fillBallot_b102 (z : ZZ) : Option (ZZ) := (Option.bind (fX0_trimEnds ((z 3 8)) z) fun z1 => some z1)
set_option maxRecDepth 100000 in
theorem BX1_fillBallot_102 {ln : ZR} {N : Nat} {z : ZZ} {c9 s9 : Nat} {Φ : xRes → xS → Prop} (hN : 151 ≤ N ∧ N < 999999) (hz : okz z) {p : ZZ} (h : fX1_fillBallot_b102 z = some p) (k : Fin_w Φ ln N p) : X mX1_fillBallot 102 [some (.ref (3)), none, none, none, none, none] [] (zmk ln N z) c9 s9 Φ := by
  unfold fX1_fillBallot_b102 at h
  refine X_aload_n (pc' := 103) dX1_fillBallot_102 rfl rfl ?_
  refine Y_get (pc' := 106) dX1_fillBallot_103 rfl FX1_48 (zlN hN (by decide)) (congrArg Prod.fst (sh3 ln)) (ct3_6 z) ?_
  refine X_aload_n (pc' := 107) dX1_fillBallot_106 rfl rfl ?_
  refine Y_get (pc' := 110) dX1_fillBallot_107 rfl FX1_39 (zlN hN (by decide)) (congrArg Prod.fst (sh3 ln)) (ct3_8 z) ?_
  obtain ⟨z1, q1, h⟩ := bs h
  refine Y_callVv [.int (iN ((z 3 8)))] (pc' := 113) dX1_fillBallot_110 rfl VX1_121 (by decide) (zlN hN (by decide)) (congrArg Prod.fst (sh1 ln)) rfl rfl rfl (cs rfl) (cs rfl) rfl (CX0_trimEnds hN hz (hz 3 8 (by decide)) q1) (Nat.zero_add _).symm (Nat.zero_add _).symm (fun f1 => ?_)
  cases h
  exact X_vret dX1_fillBallot_113 rfl (k f1)
def fX1_fillBallot (v1 : Int) (v2 : Int) (v3 : Int) (z : ZZ) : Option (ZZ) := (Option.bind (fX4_get 6 (v1) (1) z) fun r1 => (Option.bind (fX0_clear z) fun z2 => (Option.bind (fX0_addVotes (r1) ((z2 3 9)) z2) fun z3 => (Option.bind (zlp (fun q => fX1_fillBallot_s34 (v1) (v2) (v3) (r1) q.1 q.2) FU (0, z3)) fun x4_z => (Option.bind (fX0_addVotes (v2) (v3) x4_z) fun z5 => (if ((z5 1 1)) = (0) then (Option.bind (fX0_addVotes (r1) (1) z5) fun z7 => fX1_fillBallot_b102  z7) else fX1_fillBallot_b102  z5))))))
set_option maxRecDepth 100000 in
theorem CX1_fillBallot {ln : ZR} {N : Nat} {z : ZZ} {v1 : Int} {v2 : Int} {v3 : Int} (hN : 151 ≤ N ∧ N < 999999) (hz : okz z) (rv1 : inR v1) (rv2 : inR v2) (rv3 : inR v3) {p : ZZ} (h : fX1_fillBallot v1 v2 v3 z = some p) : X mX1_fillBallot 0 (xEnt [.ref (3), .int (iN (v1)), .int (iN (v2)), .int (iN (v3))] (xL mX1_fillBallot)) [] (zmk ln N z) (cc_w p) (6 * cc_w p) (Qd (fa_w p) (rs_w p) (st_w ln N p)) := by
  have k : Fin_w (Qd (fa_w p) (rs_w p) (st_w ln N p)) ln N p := Fin_w_i
  unfold fX1_fillBallot at h
  refine X_to (M := [some (.ref (3)), some (.int (iN (v1))), some (.int (iN (v2))), some (.int (iN (v3))), none, none]) (su := []) rfl rfl ?_
  refine X_aload_n (pc' := 1) dX1_fillBallot_0 rfl rfl ?_
  refine Y_get (pc' := 4) dX1_fillBallot_1 rfl FX1_20 (zlN hN (by decide)) (congrArg Prod.fst (sh3 ln)) (ct3_1 z) ?_
  refine X_iload_n (pc' := 5) dX1_fillBallot_4 rfl rfl ?_
  refine X_iconst (pc' := 6) dX1_fillBallot_5 rfl ?_
  obtain ⟨r1, q1, h⟩ := bs h
  refine Y_callV [.int (iN (v1)), .int (iN (1))] (pc' := 9) dX1_fillBallot_6 rfl VX1_73 (by decide) (zlN hN (by decide)) (congrArg Prod.fst (sh6 ln)) rfl rfl rfl (cs rfl) (cs rfl) rfl (CX4_get hN hz kT6 rv1 (inR_c (n := 1) rfl) q1) (Nat.zero_add _).symm (Nat.zero_add _).symm (fun f1 => ?_)
  refine X_istore (pc' := 11) dX1_fillBallot_9 rfl (cl rfl) (Or.inr rfl) (L' := [some (.ref (3)), some (.int (iN (v1))), some (.int (iN (v2))), some (.int (iN (v3))), some (.int (iN (r1))), none]) rfl ?_
  refine X_aload_n (pc' := 12) dX1_fillBallot_11 rfl rfl ?_
  refine Y_get (pc' := 15) dX1_fillBallot_12 rfl FX1_48 (zlN hN (by decide)) (congrArg Prod.fst (sh3 ln)) (ct3_6 z) ?_
  obtain ⟨z2, q2, h⟩ := bs h
  refine Y_callVv [] (pc' := 18) dX1_fillBallot_15 rfl VX1_112 (by decide) (zlN hN (by decide)) (congrArg Prod.fst (sh1 ln)) rfl rfl rfl (cs rfl) (cs rfl) rfl (CX0_clear hN hz q2) (Nat.zero_add _).symm (Nat.zero_add _).symm (fun f2 => ?_)
  refine X_aload_n (pc' := 19) dX1_fillBallot_18 rfl rfl ?_
  refine Y_get (pc' := 22) dX1_fillBallot_19 rfl FX1_48 (zlN hN (by decide)) (congrArg Prod.fst (sh3 ln)) (ct3_6 z2) ?_
  refine X_iload (pc' := 24) dX1_fillBallot_22 rfl rfl ?_
  refine X_aload_n (pc' := 25) dX1_fillBallot_24 rfl rfl ?_
  refine Y_get (pc' := 28) dX1_fillBallot_25 rfl FX1_42 (zlN hN (by decide)) (congrArg Prod.fst (sh3 ln)) (ct3_9 z2) ?_
  obtain ⟨z3, q3, h⟩ := bs h
  refine Y_callVv [.int (iN (r1)), .int (iN ((z2 3 9)))] (pc' := 31) dX1_fillBallot_28 rfl VX1_115 (by decide) (zlN hN (by decide)) (congrArg Prod.fst (sh1 ln)) rfl rfl rfl (cs rfl) (cs rfl) rfl (CX0_addVotes hN f2 f1 (f2 3 9 (by decide)) q3) (Nat.zero_add _).symm (Nat.zero_add _).symm (fun f3 => ?_)
  refine X_iconst (pc' := 32) dX1_fillBallot_31 rfl ?_
  refine X_istore (pc' := 34) dX1_fillBallot_32 rfl (cl rfl) (Or.inr rfl) (L' := [some (.ref (3)), some (.int (iN (v1))), some (.int (iN (v2))), some (.int (iN (v3))), some (.int (iN (r1))), some (.int (iN (0)))]) rfl ?_
  obtain ⟨x4_z, q4, h⟩ := bs h
  refine X_sub (sub_s (sub_s (sub_s (sub_s (sub_s (sub_s sub_0)))))) (LX1_fillBallot_34 hN rv1 rv2 rv3 f1 (fun x4_z₁ hh hx4_z => ?_) FU _ _ (inR_c (n := 0) rfl) f3 q4)
  cases hh
  refine X_aload_n (pc' := 74) dX1_fillBallot_73 rfl rfl ?_
  refine Y_get (pc' := 77) dX1_fillBallot_74 rfl FX1_48 (zlN hN (by decide)) (congrArg Prod.fst (sh3 ln)) (ct3_6 x4_z) ?_
  refine X_iload_n (pc' := 78) dX1_fillBallot_77 rfl rfl ?_
  refine X_iload_n (pc' := 79) dX1_fillBallot_78 rfl rfl ?_
  obtain ⟨z5, q5, h⟩ := bs h
  refine Y_callVv [.int (iN (v2)), .int (iN (v3))] (pc' := 82) dX1_fillBallot_79 rfl VX1_115 (by decide) (zlN hN (by decide)) (congrArg Prod.fst (sh1 ln)) rfl rfl rfl (cs rfl) (cs rfl) rfl (CX0_addVotes hN hx4_z rv2 rv3 q5) (Nat.zero_add _).symm (Nat.zero_add _).symm (fun f5 => ?_)
  refine X_aload_n (pc' := 83) dX1_fillBallot_82 rfl rfl ?_
  refine Y_get (pc' := 86) dX1_fillBallot_83 rfl FX1_48 (zlN hN (by decide)) (congrArg Prod.fst (sh3 ln)) (ct3_6 z5) ?_
  refine Y_get (pc' := 89) dX1_fillBallot_86 rfl FX1_118 (zlN hN (by decide)) (congrArg Prod.fst (sh1 ln)) (ct1_1 z5) ?_
  refine X_if_ne dX1_fillBallot_89 (tgt := 102) rfl (pc' := 92) rfl (f5 1 1 (by decide)) (fun c6 => ?_) (fun c6 => ?_)
  · have h := if_f c6 h
    exact X_sub (sub_s (sub_n (sub_n (sub_n (sub_n (sub_n sub_0)))))) (BX1_fillBallot_102 hN f5 h k)
  have h := if_t c6 h
  refine X_aload_n (pc' := 93) dX1_fillBallot_92 rfl rfl ?_
  refine Y_get (pc' := 96) dX1_fillBallot_93 rfl FX1_48 (zlN hN (by decide)) (congrArg Prod.fst (sh3 ln)) (ct3_6 z5) ?_
  refine X_iload (pc' := 98) dX1_fillBallot_96 rfl rfl ?_
  refine X_iconst (pc' := 99) dX1_fillBallot_98 rfl ?_
  obtain ⟨z7, q7, h⟩ := bs h
  refine Y_callVv [.int (iN (r1)), .int (iN (1))] (pc' := 102) dX1_fillBallot_99 rfl VX1_115 (by decide) (zlN hN (by decide)) (congrArg Prod.fst (sh1 ln)) rfl rfl rfl (cs rfl) (cs rfl) rfl (CX0_addVotes hN f5 f1 (inR_c (n := 1) rfl) q7) (Nat.zero_add _).symm (Nat.zero_add _).symm (fun f7 => ?_)
  exact X_sub (sub_s (sub_n (sub_n (sub_n (sub_n (sub_n sub_0)))))) (BX1_fillBallot_102 hN f7 h k)
def fX1_gradeOf (v1 : Int) (z : ZZ) : Option (Int × ZZ) := (Option.bind (fX1_fillBallot (v1) (0) (0) z) fun z1 => (Option.bind (fX0_nearestGrade z1) fun r2 => some (r2, z1)))
set_option maxRecDepth 100000 in
theorem CX1_gradeOf {ln : ZR} {N : Nat} {z : ZZ} {v1 : Int} (hN : 151 ≤ N ∧ N < 999999) (hz : okz z) (rv1 : inR v1) {p : Int × ZZ} (h : fX1_gradeOf v1 z = some p) : X mX1_gradeOf 0 (xEnt [.ref (3), .int (iN (v1))] (xL mX1_gradeOf)) [] (zmk ln N z) (cc_wi p) (6 * cc_wi p) (Qd (fa_wi p) (rs_wi p) (st_wi ln N p)) := by
  have k : Fin_wi (Qd (fa_wi p) (rs_wi p) (st_wi ln N p)) ln N p := Fin_wi_i
  unfold fX1_gradeOf at h
  refine X_to (M := [some (.ref (3)), some (.int (iN (v1)))]) (su := []) rfl rfl ?_
  refine X_aload_n (pc' := 1) dX1_gradeOf_0 rfl rfl ?_
  refine X_iload_n (pc' := 2) dX1_gradeOf_1 rfl rfl ?_
  refine X_iconst (pc' := 3) dX1_gradeOf_2 rfl ?_
  refine X_iconst (pc' := 4) dX1_gradeOf_3 rfl ?_
  obtain ⟨z1, q1, h⟩ := bs h
  refine Y_callVv [.int (iN (v1)), .int (iN (0)), .int (iN (0))] (pc' := 7) dX1_gradeOf_4 rfl VX1_124 (by decide) (zlN hN (by decide)) (congrArg Prod.fst (sh3 ln)) rfl rfl rfl (cs rfl) (cs rfl) rfl (CX1_fillBallot hN hz rv1 (inR_c (n := 0) rfl) (inR_c (n := 0) rfl) q1) (Nat.zero_add _).symm (Nat.zero_add _).symm (fun f1 => ?_)
  refine X_aload_n (pc' := 8) dX1_gradeOf_7 rfl rfl ?_
  refine Y_get (pc' := 11) dX1_gradeOf_8 rfl FX1_48 (zlN hN (by decide)) (congrArg Prod.fst (sh3 ln)) (ct3_6 z1) ?_
  obtain ⟨r2, q2, h⟩ := bs h
  refine Y_callV [] (pc' := 14) dX1_gradeOf_11 rfl VX1_127 (by decide) (zlN hN (by decide)) (congrArg Prod.fst (sh1 ln)) rfl rfl rfl (cs rfl) (cs rfl) rfl (CX0_nearestGrade hN f1 q2) (Nat.zero_add _).symm (Nat.zero_add _).symm (fun f2 => ?_)
  cases h
  exact X_iret dX1_gradeOf_14 rfl (k ⟨f2, f1⟩)
def fX1_wearOfClimb (v1 : Int) (z : ZZ) : Option (Int × ZZ) := (Option.bind (fX1_gradeOf (v1) z) fun q1 => match q1 with | (r1, z1) => (if (0 : Int) ≤ (r1) ∧ (0 : Int) < (10) then (if inR ((1 + (r1 / 10))) then some ((1 + (r1 / 10)), z1) else none) else none))
set_option maxRecDepth 100000 in
theorem CX1_wearOfClimb {ln : ZR} {N : Nat} {z : ZZ} {v1 : Int} (hN : 151 ≤ N ∧ N < 999999) (hz : okz z) (rv1 : inR v1) {p : Int × ZZ} (h : fX1_wearOfClimb v1 z = some p) : X mX1_wearOfClimb 0 (xEnt [.ref (3), .int (iN (v1))] (xL mX1_wearOfClimb)) [] (zmk ln N z) (cc_wi p) (6 * cc_wi p) (Qd (fa_wi p) (rs_wi p) (st_wi ln N p)) := by
  have k : Fin_wi (Qd (fa_wi p) (rs_wi p) (st_wi ln N p)) ln N p := Fin_wi_i
  unfold fX1_wearOfClimb at h
  refine X_to (M := [some (.ref (3)), some (.int (iN (v1)))]) (su := []) rfl rfl ?_
  refine X_iconst (pc' := 1) dX1_wearOfClimb_0 rfl ?_
  refine X_aload_n (pc' := 2) dX1_wearOfClimb_1 rfl rfl ?_
  refine X_iload_n (pc' := 3) dX1_wearOfClimb_2 rfl rfl ?_
  obtain ⟨⟨r1, z1⟩, q1, h⟩ := bs h
  refine Y_callV [.int (iN (v1))] (pc' := 6) dX1_wearOfClimb_3 rfl VX1_77 (by decide) (zlN hN (by decide)) (congrArg Prod.fst (sh3 ln)) rfl rfl rfl (cs rfl) (cs rfl) rfl (CX1_gradeOf hN hz rv1 q1) (Nat.zero_add _).symm (Nat.zero_add _).symm (fun f1 => ?_)
  refine X_bipush (pc' := 8) dX1_wearOfClimb_6 rfl (by decide) ?_
  obtain ⟨g2, h⟩ := gs h
  refine X_idiv (pc' := 9) dX1_wearOfClimb_8 rfl ⟨g2.1, f1.1.2, g2.2, (inR_c (n := 10) rfl).2⟩ ?_
  refine X_iadd (pc' := 10) dX1_wearOfClimb_9 rfl ?_
  obtain ⟨g3, h⟩ := gs h
  cases h
  exact X_iret dX1_wearOfClimb_10 rfl (k ⟨g3, f1.2⟩)
def fX1_addClimb (v1 : Int) (v2 : Int) (z : ZZ) : Option (Int × ZZ) := (Option.bind (fX4_get 6 (v2) (5) z) fun r1 => (Option.bind (fX4_set 6 (v2) (5) ((zor r1 (zshl 1 v1))) z) fun z2 => (Option.bind (fX1_wearOfClimb (v2) z2) fun q3 => match q3 with | (r3, z3) => (Option.bind (fX4_add 6 (v2) (3) (r3) z3) fun z4 => (Option.bind (fX4_add 6 (v2) (4) (1) z4) fun z5 => (Option.bind (fX4_add 12 (v1) (2) (1) z5) fun z6 => (Option.bind (fX4_get 6 (v2) (3) z6) fun r7 => some (r7, z6))))))))
set_option maxRecDepth 100000 in
theorem CX1_addClimb {ln : ZR} {N : Nat} {z : ZZ} {v1 : Int} {v2 : Int} (hN : 151 ≤ N ∧ N < 999999) (hz : okz z) (rv1 : inR v1) (rv2 : inR v2) {p : Int × ZZ} (h : fX1_addClimb v1 v2 z = some p) : X mX1_addClimb 0 (xEnt [.ref (3), .int (iN (v1)), .int (iN (v2))] (xL mX1_addClimb)) [] (zmk ln N z) (cc_wi p) (6 * cc_wi p) (Qd (fa_wi p) (rs_wi p) (st_wi ln N p)) := by
  have k : Fin_wi (Qd (fa_wi p) (rs_wi p) (st_wi ln N p)) ln N p := Fin_wi_i
  unfold fX1_addClimb at h
  refine X_to (M := [some (.ref (3)), some (.int (iN (v1))), some (.int (iN (v2))), none]) (su := []) rfl rfl ?_
  refine X_aload_n (pc' := 1) dX1_addClimb_0 rfl rfl ?_
  refine Y_get (pc' := 4) dX1_addClimb_1 rfl FX1_20 (zlN hN (by decide)) (congrArg Prod.fst (sh3 ln)) (ct3_1 z) ?_
  refine X_iload_n (pc' := 5) dX1_addClimb_4 rfl rfl ?_
  refine X_iconst (pc' := 6) dX1_addClimb_5 rfl ?_
  obtain ⟨r1, q1, h⟩ := bs h
  refine Y_callV [.int (iN (v2)), .int (iN (5))] (pc' := 9) dX1_addClimb_6 rfl VX1_73 (by decide) (zlN hN (by decide)) (congrArg Prod.fst (sh6 ln)) rfl rfl rfl (cs rfl) (cs rfl) rfl (CX4_get hN hz kT6 rv2 (inR_c (n := 5) rfl) q1) (Nat.zero_add _).symm (Nat.zero_add _).symm (fun f1 => ?_)
  refine X_istore_n (pc' := 10) dX1_addClimb_9 rfl (cl rfl) (Or.inr rfl) (L' := [some (.ref (3)), some (.int (iN (v1))), some (.int (iN (v2))), some (.int (iN (r1)))]) rfl ?_
  refine X_aload_n (pc' := 11) dX1_addClimb_10 rfl rfl ?_
  refine Y_get (pc' := 14) dX1_addClimb_11 rfl FX1_20 (zlN hN (by decide)) (congrArg Prod.fst (sh3 ln)) (ct3_1 z) ?_
  refine X_iload_n (pc' := 15) dX1_addClimb_14 rfl rfl ?_
  refine X_iconst (pc' := 16) dX1_addClimb_15 rfl ?_
  refine X_iload_n (pc' := 17) dX1_addClimb_16 rfl rfl ?_
  refine X_iconst (pc' := 18) dX1_addClimb_17 rfl ?_
  refine X_iload_n (pc' := 19) dX1_addClimb_18 rfl rfl ?_
  refine X_ishl (pc' := 20) dX1_addClimb_19 rfl ?_
  refine X_ior (pc' := 21) dX1_addClimb_20 rfl ?_
  obtain ⟨z2, q2, h⟩ := bs h
  refine Y_callVv [.int (iN (v2)), .int (iN (5)), .int (iN ((zor r1 (zshl 1 v1))))] (pc' := 24) dX1_addClimb_21 rfl VX1_67 (by decide) (zlN hN (by decide)) (congrArg Prod.fst (sh6 ln)) rfl rfl rfl (cs rfl) (cs rfl) rfl (CX4_set hN hz kT6 rv2 (inR_c (n := 5) rfl) (inR_zor _ _) q2) (Nat.zero_add _).symm (Nat.zero_add _).symm (fun f2 => ?_)
  refine X_aload_n (pc' := 25) dX1_addClimb_24 rfl rfl ?_
  refine Y_get (pc' := 28) dX1_addClimb_25 rfl FX1_20 (zlN hN (by decide)) (congrArg Prod.fst (sh3 ln)) (ct3_1 z2) ?_
  refine X_iload_n (pc' := 29) dX1_addClimb_28 rfl rfl ?_
  refine X_iconst (pc' := 30) dX1_addClimb_29 rfl ?_
  refine X_aload_n (pc' := 31) dX1_addClimb_30 rfl rfl ?_
  refine X_iload_n (pc' := 32) dX1_addClimb_31 rfl rfl ?_
  obtain ⟨⟨r3, z3⟩, q3, h⟩ := bs h
  refine Y_callV [.int (iN (v2))] (pc' := 35) dX1_addClimb_32 rfl VX1_106 (by decide) (zlN hN (by decide)) (congrArg Prod.fst (sh3 ln)) rfl rfl rfl (cs rfl) (cs rfl) rfl (CX1_wearOfClimb hN f2 rv2 q3) (Nat.zero_add _).symm (Nat.zero_add _).symm (fun f3 => ?_)
  obtain ⟨z4, q4, h⟩ := bs h
  refine Y_callVv [.int (iN (v2)), .int (iN (3)), .int (iN (r3))] (pc' := 38) dX1_addClimb_35 rfl VX1_109 (by decide) (zlN hN (by decide)) (congrArg Prod.fst (sh6 ln)) rfl rfl rfl (cs rfl) (cs rfl) rfl (CX4_add hN f3.2 kT6 rv2 (inR_c (n := 3) rfl) f3.1 q4) (Nat.zero_add _).symm (Nat.zero_add _).symm (fun f4 => ?_)
  refine X_aload_n (pc' := 39) dX1_addClimb_38 rfl rfl ?_
  refine Y_get (pc' := 42) dX1_addClimb_39 rfl FX1_20 (zlN hN (by decide)) (congrArg Prod.fst (sh3 ln)) (ct3_1 z4) ?_
  refine X_iload_n (pc' := 43) dX1_addClimb_42 rfl rfl ?_
  refine X_iconst (pc' := 44) dX1_addClimb_43 rfl ?_
  refine X_iconst (pc' := 45) dX1_addClimb_44 rfl ?_
  obtain ⟨z5, q5, h⟩ := bs h
  refine Y_callVv [.int (iN (v2)), .int (iN (4)), .int (iN (1))] (pc' := 48) dX1_addClimb_45 rfl VX1_109 (by decide) (zlN hN (by decide)) (congrArg Prod.fst (sh6 ln)) rfl rfl rfl (cs rfl) (cs rfl) rfl (CX4_add hN f4 kT6 rv2 (inR_c (n := 4) rfl) (inR_c (n := 1) rfl) q5) (Nat.zero_add _).symm (Nat.zero_add _).symm (fun f5 => ?_)
  refine X_aload_n (pc' := 49) dX1_addClimb_48 rfl rfl ?_
  refine Y_get (pc' := 52) dX1_addClimb_49 rfl FX1_29 (zlN hN (by decide)) (congrArg Prod.fst (sh3 ln)) (ct3_4 z5) ?_
  refine X_iload_n (pc' := 53) dX1_addClimb_52 rfl rfl ?_
  refine X_iconst (pc' := 54) dX1_addClimb_53 rfl ?_
  refine X_iconst (pc' := 55) dX1_addClimb_54 rfl ?_
  obtain ⟨z6, q6, h⟩ := bs h
  refine Y_callVv [.int (iN (v1)), .int (iN (2)), .int (iN (1))] (pc' := 58) dX1_addClimb_55 rfl VX1_109 (by decide) (zlN hN (by decide)) (congrArg Prod.fst (sh12 ln)) rfl rfl rfl (cs rfl) (cs rfl) rfl (CX4_add hN f5 kT12 rv1 (inR_c (n := 2) rfl) (inR_c (n := 1) rfl) q6) (Nat.zero_add _).symm (Nat.zero_add _).symm (fun f6 => ?_)
  refine X_aload_n (pc' := 59) dX1_addClimb_58 rfl rfl ?_
  refine Y_get (pc' := 62) dX1_addClimb_59 rfl FX1_20 (zlN hN (by decide)) (congrArg Prod.fst (sh3 ln)) (ct3_1 z6) ?_
  refine X_iload_n (pc' := 63) dX1_addClimb_62 rfl rfl ?_
  refine X_iconst (pc' := 64) dX1_addClimb_63 rfl ?_
  obtain ⟨r7, q7, h⟩ := bs h
  refine Y_callV [.int (iN (v2)), .int (iN (3))] (pc' := 67) dX1_addClimb_64 rfl VX1_73 (by decide) (zlN hN (by decide)) (congrArg Prod.fst (sh6 ln)) rfl rfl rfl (cs rfl) (cs rfl) rfl (CX4_get hN f6 kT6 rv2 (inR_c (n := 3) rfl) q7) (Nat.zero_add _).symm (Nat.zero_add _).symm (fun f7 => ?_)
  cases h
  exact X_iret dX1_addClimb_67 rfl (k ⟨f7, f6⟩)
def fX1_addCourse (hl : Nat) (v1 : Int) (v2 : Int) (v3 : Int) (z : ZZ) : Option (ZZ) := (Option.bind (fX4_addRow (hl + 11) z) fun q1 => match q1 with | (r1, z1) => (Option.bind (fX4_set (hl + 11) (r1) (0) (v1) z1) fun z2 => (Option.bind (fX4_set (hl + 11) (r1) (1) (v2) z2) fun z3 => (Option.bind (fX4_set (hl + 11) (r1) (2) (v3) z3) fun z4 => some z4))))
set_option maxRecDepth 100000 in
theorem CX1_addCourse {ln : ZR} {N : Nat} {z : ZZ} {hl : Nat} {v1 : Int} {v2 : Int} {v3 : Int} (hN : 151 ≤ N ∧ N < 999999) (hz : okz z) (hhl : isH hl) (rv1 : inR v1) (rv2 : inR v2) (rv3 : inR v3) {p : ZZ} (h : fX1_addCourse hl v1 v2 v3 z = some p) : X mX1_addCourse 0 (xEnt [.ref (hl), .int (iN (v1)), .int (iN (v2)), .int (iN (v3))] (xL mX1_addCourse)) [] (zmk ln N z) (cc_w p) (6 * cc_w p) (Qd (fa_w p) (rs_w p) (st_w ln N p)) := by
  have k : Fin_w (Qd (fa_w p) (rs_w p) (st_w ln N p)) ln N p := Fin_w_i
  unfold fX1_addCourse at h
  refine X_to (M := [some (.ref (hl)), some (.int (iN (v1))), some (.int (iN (v2))), some (.int (iN (v3))), none]) (su := []) rfl rfl ?_
  refine X_aload_n (pc' := 1) dX1_addCourse_0 rfl rfl ?_
  refine Y_get (pc' := 4) dX1_addCourse_1 rfl FX1_32 (isH_lt hhl hN) (isH_sh hhl ln) (isH_r (k := 5) hhl z (by decide) rfl) ?_
  obtain ⟨⟨r1, z1⟩, q1, h⟩ := bs h
  refine Y_callV [] (pc' := 7) dX1_addCourse_4 rfl VX1_63 (by decide) (isT_lt (isH_all hl hhl).2.2.2.2.2.2 hN) (isT_sh (isH_all hl hhl).2.2.2.2.2.2 ln) rfl rfl rfl (cs rfl) (cs rfl) rfl (CX4_addRow hN hz (isH_all hl hhl).2.2.2.2.2.2 q1) (Nat.zero_add _).symm (Nat.zero_add _).symm (fun f1 => ?_)
  refine X_istore (pc' := 9) dX1_addCourse_7 rfl (cl rfl) (Or.inr rfl) (L' := [some (.ref (hl)), some (.int (iN (v1))), some (.int (iN (v2))), some (.int (iN (v3))), some (.int (iN (r1)))]) rfl ?_
  refine X_aload_n (pc' := 10) dX1_addCourse_9 rfl rfl ?_
  refine Y_get (pc' := 13) dX1_addCourse_10 rfl FX1_32 (isH_lt hhl hN) (isH_sh hhl ln) (isH_r (k := 5) hhl z1 (by decide) rfl) ?_
  refine X_iload (pc' := 15) dX1_addCourse_13 rfl rfl ?_
  refine X_iconst (pc' := 16) dX1_addCourse_15 rfl ?_
  refine X_iload_n (pc' := 17) dX1_addCourse_16 rfl rfl ?_
  obtain ⟨z2, q2, h⟩ := bs h
  refine Y_callVv [.int (iN (r1)), .int (iN (0)), .int (iN (v1))] (pc' := 20) dX1_addCourse_17 rfl VX1_67 (by decide) (isT_lt (isH_all hl hhl).2.2.2.2.2.2 hN) (isT_sh (isH_all hl hhl).2.2.2.2.2.2 ln) rfl rfl rfl (cs rfl) (cs rfl) rfl (CX4_set hN f1.2 (isH_all hl hhl).2.2.2.2.2.2 f1.1 (inR_c (n := 0) rfl) rv1 q2) (Nat.zero_add _).symm (Nat.zero_add _).symm (fun f2 => ?_)
  refine X_aload_n (pc' := 21) dX1_addCourse_20 rfl rfl ?_
  refine Y_get (pc' := 24) dX1_addCourse_21 rfl FX1_32 (isH_lt hhl hN) (isH_sh hhl ln) (isH_r (k := 5) hhl z2 (by decide) rfl) ?_
  refine X_iload (pc' := 26) dX1_addCourse_24 rfl rfl ?_
  refine X_iconst (pc' := 27) dX1_addCourse_26 rfl ?_
  refine X_iload_n (pc' := 28) dX1_addCourse_27 rfl rfl ?_
  obtain ⟨z3, q3, h⟩ := bs h
  refine Y_callVv [.int (iN (r1)), .int (iN (1)), .int (iN (v2))] (pc' := 31) dX1_addCourse_28 rfl VX1_67 (by decide) (isT_lt (isH_all hl hhl).2.2.2.2.2.2 hN) (isT_sh (isH_all hl hhl).2.2.2.2.2.2 ln) rfl rfl rfl (cs rfl) (cs rfl) rfl (CX4_set hN f2 (isH_all hl hhl).2.2.2.2.2.2 f1.1 (inR_c (n := 1) rfl) rv2 q3) (Nat.zero_add _).symm (Nat.zero_add _).symm (fun f3 => ?_)
  refine X_aload_n (pc' := 32) dX1_addCourse_31 rfl rfl ?_
  refine Y_get (pc' := 35) dX1_addCourse_32 rfl FX1_32 (isH_lt hhl hN) (isH_sh hhl ln) (isH_r (k := 5) hhl z3 (by decide) rfl) ?_
  refine X_iload (pc' := 37) dX1_addCourse_35 rfl rfl ?_
  refine X_iconst (pc' := 38) dX1_addCourse_37 rfl ?_
  refine X_iload_n (pc' := 39) dX1_addCourse_38 rfl rfl ?_
  obtain ⟨z4, q4, h⟩ := bs h
  refine Y_callVv [.int (iN (r1)), .int (iN (2)), .int (iN (v3))] (pc' := 42) dX1_addCourse_39 rfl VX1_67 (by decide) (isT_lt (isH_all hl hhl).2.2.2.2.2.2 hN) (isT_sh (isH_all hl hhl).2.2.2.2.2.2 ln) rfl rfl rfl (cs rfl) (cs rfl) rfl (CX4_set hN f3 (isH_all hl hhl).2.2.2.2.2.2 f1.1 (inR_c (n := 2) rfl) rv3 q4) (Nat.zero_add _).symm (Nat.zero_add _).symm (fun f4 => ?_)
  cases h
  exact X_vret dX1_addCourse_42 rfl (k f4)
def fX1_addHarness (hl : Nat) (v1 : Int) (v2 : Int) (z : ZZ) : Option (ZZ) := (Option.bind (fX4_addRow (hl + 7) z) fun q1 => match q1 with | (r1, z1) => (Option.bind (fX4_set (hl + 7) (r1) (0) (v1) z1) fun z2 => (Option.bind (fX4_set (hl + 7) (r1) (1) (v2) z2) fun z3 => some z3)))
set_option maxRecDepth 100000 in
theorem CX1_addHarness {ln : ZR} {N : Nat} {z : ZZ} {hl : Nat} {v1 : Int} {v2 : Int} (hN : 151 ≤ N ∧ N < 999999) (hz : okz z) (hhl : isH hl) (rv1 : inR v1) (rv2 : inR v2) {p : ZZ} (h : fX1_addHarness hl v1 v2 z = some p) : X mX1_addHarness 0 (xEnt [.ref (hl), .int (iN (v1)), .int (iN (v2))] (xL mX1_addHarness)) [] (zmk ln N z) (cc_w p) (6 * cc_w p) (Qd (fa_w p) (rs_w p) (st_w ln N p)) := by
  have k : Fin_w (Qd (fa_w p) (rs_w p) (st_w ln N p)) ln N p := Fin_w_i
  unfold fX1_addHarness at h
  refine X_to (M := [some (.ref (hl)), some (.int (iN (v1))), some (.int (iN (v2))), none]) (su := []) rfl rfl ?_
  refine X_aload_n (pc' := 1) dX1_addHarness_0 rfl rfl ?_
  refine Y_get (pc' := 4) dX1_addHarness_1 rfl FX1_26 (isH_lt hhl hN) (isH_sh hhl ln) (isH_r (k := 3) hhl z (by decide) rfl) ?_
  obtain ⟨⟨r1, z1⟩, q1, h⟩ := bs h
  refine Y_callV [] (pc' := 7) dX1_addHarness_4 rfl VX1_63 (by decide) (isT_lt (isH_all hl hhl).2.2.2.2.1 hN) (isT_sh (isH_all hl hhl).2.2.2.2.1 ln) rfl rfl rfl (cs rfl) (cs rfl) rfl (CX4_addRow hN hz (isH_all hl hhl).2.2.2.2.1 q1) (Nat.zero_add _).symm (Nat.zero_add _).symm (fun f1 => ?_)
  refine X_istore_n (pc' := 8) dX1_addHarness_7 rfl (cl rfl) (Or.inr rfl) (L' := [some (.ref (hl)), some (.int (iN (v1))), some (.int (iN (v2))), some (.int (iN (r1)))]) rfl ?_
  refine X_aload_n (pc' := 9) dX1_addHarness_8 rfl rfl ?_
  refine Y_get (pc' := 12) dX1_addHarness_9 rfl FX1_26 (isH_lt hhl hN) (isH_sh hhl ln) (isH_r (k := 3) hhl z1 (by decide) rfl) ?_
  refine X_iload_n (pc' := 13) dX1_addHarness_12 rfl rfl ?_
  refine X_iconst (pc' := 14) dX1_addHarness_13 rfl ?_
  refine X_iload_n (pc' := 15) dX1_addHarness_14 rfl rfl ?_
  obtain ⟨z2, q2, h⟩ := bs h
  refine Y_callVv [.int (iN (r1)), .int (iN (0)), .int (iN (v1))] (pc' := 18) dX1_addHarness_15 rfl VX1_67 (by decide) (isT_lt (isH_all hl hhl).2.2.2.2.1 hN) (isT_sh (isH_all hl hhl).2.2.2.2.1 ln) rfl rfl rfl (cs rfl) (cs rfl) rfl (CX4_set hN f1.2 (isH_all hl hhl).2.2.2.2.1 f1.1 (inR_c (n := 0) rfl) rv1 q2) (Nat.zero_add _).symm (Nat.zero_add _).symm (fun f2 => ?_)
  refine X_aload_n (pc' := 19) dX1_addHarness_18 rfl rfl ?_
  refine Y_get (pc' := 22) dX1_addHarness_19 rfl FX1_26 (isH_lt hhl hN) (isH_sh hhl ln) (isH_r (k := 3) hhl z2 (by decide) rfl) ?_
  refine X_iload_n (pc' := 23) dX1_addHarness_22 rfl rfl ?_
  refine X_iconst (pc' := 24) dX1_addHarness_23 rfl ?_
  refine X_iload_n (pc' := 25) dX1_addHarness_24 rfl rfl ?_
  obtain ⟨z3, q3, h⟩ := bs h
  refine Y_callVv [.int (iN (r1)), .int (iN (1)), .int (iN (v2))] (pc' := 28) dX1_addHarness_25 rfl VX1_67 (by decide) (isT_lt (isH_all hl hhl).2.2.2.2.1 hN) (isT_sh (isH_all hl hhl).2.2.2.2.1 ln) rfl rfl rfl (cs rfl) (cs rfl) rfl (CX4_set hN f2 (isH_all hl hhl).2.2.2.2.1 f1.1 (inR_c (n := 1) rfl) rv2 q3) (Nat.zero_add _).symm (Nat.zero_add _).symm (fun f3 => ?_)
  cases h
  exact X_vret dX1_addHarness_28 rfl (k f3)
def fX1_addMember (hl : Nat) (v1 : Int) (v2 : Int) (z : ZZ) : Option (ZZ) := (Option.bind (fX4_addRow (hl + 9) z) fun q1 => match q1 with | (r1, z1) => (Option.bind (fX4_set (hl + 9) (r1) (0) (v1) z1) fun z2 => (Option.bind (fX4_set (hl + 9) (r1) (1) (v2) z2) fun z3 => (Option.bind (fX4_set (hl + 9) (r1) (3) ((-1)) z3) fun z4 => (Option.bind (fX4_set (hl + 9) (r1) (4) ((-1)) z4) fun z5 => some z5)))))
set_option maxRecDepth 100000 in
theorem CX1_addMember {ln : ZR} {N : Nat} {z : ZZ} {hl : Nat} {v1 : Int} {v2 : Int} (hN : 151 ≤ N ∧ N < 999999) (hz : okz z) (hhl : isH hl) (rv1 : inR v1) (rv2 : inR v2) {p : ZZ} (h : fX1_addMember hl v1 v2 z = some p) : X mX1_addMember 0 (xEnt [.ref (hl), .int (iN (v1)), .int (iN (v2))] (xL mX1_addMember)) [] (zmk ln N z) (cc_w p) (6 * cc_w p) (Qd (fa_w p) (rs_w p) (st_w ln N p)) := by
  have k : Fin_w (Qd (fa_w p) (rs_w p) (st_w ln N p)) ln N p := Fin_w_i
  unfold fX1_addMember at h
  refine X_to (M := [some (.ref (hl)), some (.int (iN (v1))), some (.int (iN (v2))), none]) (su := []) rfl rfl ?_
  refine X_aload_n (pc' := 1) dX1_addMember_0 rfl rfl ?_
  refine Y_get (pc' := 4) dX1_addMember_1 rfl FX1_29 (isH_lt hhl hN) (isH_sh hhl ln) (isH_r (k := 4) hhl z (by decide) rfl) ?_
  obtain ⟨⟨r1, z1⟩, q1, h⟩ := bs h
  refine Y_callV [] (pc' := 7) dX1_addMember_4 rfl VX1_63 (by decide) (isT_lt (isH_all hl hhl).2.2.2.2.2.1 hN) (isT_sh (isH_all hl hhl).2.2.2.2.2.1 ln) rfl rfl rfl (cs rfl) (cs rfl) rfl (CX4_addRow hN hz (isH_all hl hhl).2.2.2.2.2.1 q1) (Nat.zero_add _).symm (Nat.zero_add _).symm (fun f1 => ?_)
  refine X_istore_n (pc' := 8) dX1_addMember_7 rfl (cl rfl) (Or.inr rfl) (L' := [some (.ref (hl)), some (.int (iN (v1))), some (.int (iN (v2))), some (.int (iN (r1)))]) rfl ?_
  refine X_aload_n (pc' := 9) dX1_addMember_8 rfl rfl ?_
  refine Y_get (pc' := 12) dX1_addMember_9 rfl FX1_29 (isH_lt hhl hN) (isH_sh hhl ln) (isH_r (k := 4) hhl z1 (by decide) rfl) ?_
  refine X_iload_n (pc' := 13) dX1_addMember_12 rfl rfl ?_
  refine X_iconst (pc' := 14) dX1_addMember_13 rfl ?_
  refine X_iload_n (pc' := 15) dX1_addMember_14 rfl rfl ?_
  obtain ⟨z2, q2, h⟩ := bs h
  refine Y_callVv [.int (iN (r1)), .int (iN (0)), .int (iN (v1))] (pc' := 18) dX1_addMember_15 rfl VX1_67 (by decide) (isT_lt (isH_all hl hhl).2.2.2.2.2.1 hN) (isT_sh (isH_all hl hhl).2.2.2.2.2.1 ln) rfl rfl rfl (cs rfl) (cs rfl) rfl (CX4_set hN f1.2 (isH_all hl hhl).2.2.2.2.2.1 f1.1 (inR_c (n := 0) rfl) rv1 q2) (Nat.zero_add _).symm (Nat.zero_add _).symm (fun f2 => ?_)
  refine X_aload_n (pc' := 19) dX1_addMember_18 rfl rfl ?_
  refine Y_get (pc' := 22) dX1_addMember_19 rfl FX1_29 (isH_lt hhl hN) (isH_sh hhl ln) (isH_r (k := 4) hhl z2 (by decide) rfl) ?_
  refine X_iload_n (pc' := 23) dX1_addMember_22 rfl rfl ?_
  refine X_iconst (pc' := 24) dX1_addMember_23 rfl ?_
  refine X_iload_n (pc' := 25) dX1_addMember_24 rfl rfl ?_
  obtain ⟨z3, q3, h⟩ := bs h
  refine Y_callVv [.int (iN (r1)), .int (iN (1)), .int (iN (v2))] (pc' := 28) dX1_addMember_25 rfl VX1_67 (by decide) (isT_lt (isH_all hl hhl).2.2.2.2.2.1 hN) (isT_sh (isH_all hl hhl).2.2.2.2.2.1 ln) rfl rfl rfl (cs rfl) (cs rfl) rfl (CX4_set hN f2 (isH_all hl hhl).2.2.2.2.2.1 f1.1 (inR_c (n := 1) rfl) rv2 q3) (Nat.zero_add _).symm (Nat.zero_add _).symm (fun f3 => ?_)
  refine X_aload_n (pc' := 29) dX1_addMember_28 rfl rfl ?_
  refine Y_get (pc' := 32) dX1_addMember_29 rfl FX1_29 (isH_lt hhl hN) (isH_sh hhl ln) (isH_r (k := 4) hhl z3 (by decide) rfl) ?_
  refine X_iload_n (pc' := 33) dX1_addMember_32 rfl rfl ?_
  refine X_iconst (pc' := 34) dX1_addMember_33 rfl ?_
  refine X_iconst (pc' := 35) dX1_addMember_34 rfl ?_
  obtain ⟨z4, q4, h⟩ := bs h
  refine Y_callVv [.int (iN (r1)), .int (iN (3)), .int (iN ((-1)))] (pc' := 38) dX1_addMember_35 rfl VX1_67 (by decide) (isT_lt (isH_all hl hhl).2.2.2.2.2.1 hN) (isT_sh (isH_all hl hhl).2.2.2.2.2.1 ln) rfl rfl rfl (cs rfl) (cs rfl) rfl (CX4_set hN f3 (isH_all hl hhl).2.2.2.2.2.1 f1.1 (inR_c (n := 3) rfl) (inR_c (n := (-1)) rfl) q4) (Nat.zero_add _).symm (Nat.zero_add _).symm (fun f4 => ?_)
  refine X_aload_n (pc' := 39) dX1_addMember_38 rfl rfl ?_
  refine Y_get (pc' := 42) dX1_addMember_39 rfl FX1_29 (isH_lt hhl hN) (isH_sh hhl ln) (isH_r (k := 4) hhl z4 (by decide) rfl) ?_
  refine X_iload_n (pc' := 43) dX1_addMember_42 rfl rfl ?_
  refine X_iconst (pc' := 44) dX1_addMember_43 rfl ?_
  refine X_iconst (pc' := 45) dX1_addMember_44 rfl ?_
  obtain ⟨z5, q5, h⟩ := bs h
  refine Y_callVv [.int (iN (r1)), .int (iN (4)), .int (iN ((-1)))] (pc' := 48) dX1_addMember_45 rfl VX1_67 (by decide) (isT_lt (isH_all hl hhl).2.2.2.2.2.1 hN) (isT_sh (isH_all hl hhl).2.2.2.2.2.1 ln) rfl rfl rfl (cs rfl) (cs rfl) rfl (CX4_set hN f4 (isH_all hl hhl).2.2.2.2.2.1 f1.1 (inR_c (n := 4) rfl) (inR_c (n := (-1)) rfl) q5) (Nat.zero_add _).symm (Nat.zero_add _).symm (fun f5 => ?_)
  cases h
  exact X_vret dX1_addMember_48 rfl (k f5)
def fX1_addRoute_s44 (v3 : Int) (v4 : Int) (z : ZZ) : Option ((Int × ZZ) ⊕ (ZZ)) := (if (v4) < (12) then (if inR ((6 + v4)) then (Option.bind (fX4_set 6 (v3) ((6 + v4)) ((-1)) z) fun z3 => (if inR ((v4 + 1)) then some (.inl ((v4 + 1), z3)) else none)) else none) else some (.inr z))
set_option maxRecDepth 100000 in
theorem SX1_addRoute_44 {ln : ZR} {N : Nat} {z : ZZ} {v3 : Int} {v4 : Int} {c9 s9 : Nat} {Φ : xRes → xS → Prop} (hN : 151 ≤ N ∧ N < 999999) (hz : okz z) (rv3 : inR v3) (rv4 : inR v4) {p : (Int × ZZ) ⊕ (ZZ)} (h : fX1_addRoute_s44 v3 v4 z = some p) (k1 : ∀ (v4' : Int) (z' : ZZ), p = .inl (v4', z') → inR v4' → okz z' → X mX1_addRoute 44 [some (.ref (3)), none, none, some (.int (iN (v3))), some (.int (iN (v4')))] [] (zmk ln N z') c9 s9 Φ) (k2 : ∀ (z' : ZZ), p = .inr z' → okz z' → X mX1_addRoute 71 [none, none, none, some (.int (iN (v3))), none] [] (zmk ln N z') c9 s9 Φ) : X mX1_addRoute 44 [some (.ref (3)), none, none, some (.int (iN (v3))), some (.int (iN (v4)))] [] (zmk ln N z) c9 s9 Φ := by
  unfold fX1_addRoute_s44 at h
  refine X_iload (pc' := 46) dX1_addRoute_44 rfl rfl ?_
  refine X_bipush (pc' := 48) dX1_addRoute_46 rfl (by decide) ?_
  refine X_icmp_ge dX1_addRoute_48 (tgt := 71) rfl (pc' := 51) rfl ⟨rv4.1, rv4.2, (inR_c (n := 12) rfl).1, (inR_c (n := 12) rfl).2⟩ (fun c1 => ?_) (fun c1 => ?_)
  · have h := if_f (Int.not_lt.mpr c1) h
    cases h
    exact X_sub (sub_n (sub_n (sub_n (sub_s (sub_n sub_0))))) (k2 _ rfl hz)
  have h := if_t c1 h
  refine X_aload_n (pc' := 52) dX1_addRoute_51 rfl rfl ?_
  refine Y_get (pc' := 55) dX1_addRoute_52 rfl FX1_20 (zlN hN (by decide)) (congrArg Prod.fst (sh3 ln)) (ct3_1 z) ?_
  refine X_iload_n (pc' := 56) dX1_addRoute_55 rfl rfl ?_
  refine X_bipush (pc' := 58) dX1_addRoute_56 rfl (by decide) ?_
  refine X_iload (pc' := 60) dX1_addRoute_58 rfl rfl ?_
  refine X_iadd (pc' := 61) dX1_addRoute_60 rfl ?_
  refine X_iconst (pc' := 62) dX1_addRoute_61 rfl ?_
  obtain ⟨g2, h⟩ := gs h
  obtain ⟨z3, q3, h⟩ := bs h
  refine Y_callVv [.int (iN (v3)), .int (iN ((6 + v4))), .int (iN ((-1)))] (pc' := 65) dX1_addRoute_62 rfl VX1_67 (by decide) (zlN hN (by decide)) (congrArg Prod.fst (sh6 ln)) rfl rfl rfl (cs rfl) (cs rfl) rfl (CX4_set hN hz kT6 rv3 g2 (inR_c (n := (-1)) rfl) q3) (Nat.zero_add _).symm (Nat.zero_add _).symm (fun f3 => ?_)
  refine X_iinc (pc' := 68) dX1_addRoute_65 rfl rfl (Or.inr rfl) (L' := [some (.ref (3)), none, none, some (.int (iN (v3))), some (.int (iN (v4 + 1)))]) rfl ?_
  refine X_goto dX1_addRoute_68 (tgt := 44) rfl ?_
  obtain ⟨g4, h⟩ := gs h
  cases h
  exact X_sub (sub_s (sub_n (sub_n (sub_s (sub_s sub_0))))) (k1 _ _ rfl g4 f3)
theorem LX1_addRoute_44 {ln : ZR} {N : Nat} {v3 : Int} {c9 s9 : Nat} {Φ : xRes → xS → Prop} (hN : 151 ≤ N ∧ N < 999999) (rv3 : inR v3) {r : ZZ} (k2 : ∀ (z' : ZZ), r = z' → okz z' → X mX1_addRoute 71 [none, none, none, some (.int (iN (v3))), none] [] (zmk ln N z') c9 s9 Φ) : ∀ (n : Nat) (v4 : Int) (z : ZZ), inR v4 → okz z → zlp (fun q => fX1_addRoute_s44 v3 q.1 q.2) n (v4, z) = some r → X mX1_addRoute 44 [some (.ref (3)), none, none, some (.int (iN (v3))), some (.int (iN (v4)))] [] (zmk ln N z) c9 s9 Φ := by
  intro n
  induction n with
  | zero => intro v4 z rv4 hz h; cases h
  | succ n ih =>
    intro v4 z rv4 hz h
    rcases zlp_s h with ⟨⟨v4', z'⟩, e, h'⟩ | e
    · exact SX1_addRoute_44 hN hz rv3 rv4 e (fun v4₁ z₁ hh f0 f1 => by cases hh; exact ih _ _ f0 f1 h') (fun z₁ hh f0 => by cases hh)
    · exact SX1_addRoute_44 hN hz rv3 rv4 e (fun v4₁ z₁ hh f0 f1 => by cases hh) (fun z₁ hh f0 => by cases hh; exact k2 _ rfl f0)
def fX1_addRoute (v1 : Int) (v2 : Int) (z : ZZ) : Option (Int × ZZ) := (Option.bind (fX4_addRow 6 z) fun q1 => match q1 with | (r1, z1) => (Option.bind (fX4_set 6 (r1) (0) (v1) z1) fun z2 => (Option.bind (fX4_set 6 (r1) (1) (v2) z2) fun z3 => (Option.bind (fX4_set 6 (r1) (2) ((z3 3 7)) z3) fun z4 => (Option.bind (zlp (fun q => fX1_addRoute_s44 (r1) q.1 q.2) FU (0, z4)) fun x5_z => some (r1, x5_z))))))
set_option maxRecDepth 100000 in
theorem CX1_addRoute {ln : ZR} {N : Nat} {z : ZZ} {v1 : Int} {v2 : Int} (hN : 151 ≤ N ∧ N < 999999) (hz : okz z) (rv1 : inR v1) (rv2 : inR v2) {p : Int × ZZ} (h : fX1_addRoute v1 v2 z = some p) : X mX1_addRoute 0 (xEnt [.ref (3), .int (iN (v1)), .int (iN (v2))] (xL mX1_addRoute)) [] (zmk ln N z) (cc_wi p) (6 * cc_wi p) (Qd (fa_wi p) (rs_wi p) (st_wi ln N p)) := by
  have k : Fin_wi (Qd (fa_wi p) (rs_wi p) (st_wi ln N p)) ln N p := Fin_wi_i
  unfold fX1_addRoute at h
  refine X_to (M := [some (.ref (3)), some (.int (iN (v1))), some (.int (iN (v2))), none, none]) (su := []) rfl rfl ?_
  refine X_aload_n (pc' := 1) dX1_addRoute_0 rfl rfl ?_
  refine Y_get (pc' := 4) dX1_addRoute_1 rfl FX1_20 (zlN hN (by decide)) (congrArg Prod.fst (sh3 ln)) (ct3_1 z) ?_
  obtain ⟨⟨r1, z1⟩, q1, h⟩ := bs h
  refine Y_callV [] (pc' := 7) dX1_addRoute_4 rfl VX1_63 (by decide) (zlN hN (by decide)) (congrArg Prod.fst (sh6 ln)) rfl rfl rfl (cs rfl) (cs rfl) rfl (CX4_addRow hN hz kT6 q1) (Nat.zero_add _).symm (Nat.zero_add _).symm (fun f1 => ?_)
  refine X_istore_n (pc' := 8) dX1_addRoute_7 rfl (cl rfl) (Or.inr rfl) (L' := [some (.ref (3)), some (.int (iN (v1))), some (.int (iN (v2))), some (.int (iN (r1))), none]) rfl ?_
  refine X_aload_n (pc' := 9) dX1_addRoute_8 rfl rfl ?_
  refine Y_get (pc' := 12) dX1_addRoute_9 rfl FX1_20 (zlN hN (by decide)) (congrArg Prod.fst (sh3 ln)) (ct3_1 z1) ?_
  refine X_iload_n (pc' := 13) dX1_addRoute_12 rfl rfl ?_
  refine X_iconst (pc' := 14) dX1_addRoute_13 rfl ?_
  refine X_iload_n (pc' := 15) dX1_addRoute_14 rfl rfl ?_
  obtain ⟨z2, q2, h⟩ := bs h
  refine Y_callVv [.int (iN (r1)), .int (iN (0)), .int (iN (v1))] (pc' := 18) dX1_addRoute_15 rfl VX1_67 (by decide) (zlN hN (by decide)) (congrArg Prod.fst (sh6 ln)) rfl rfl rfl (cs rfl) (cs rfl) rfl (CX4_set hN f1.2 kT6 f1.1 (inR_c (n := 0) rfl) rv1 q2) (Nat.zero_add _).symm (Nat.zero_add _).symm (fun f2 => ?_)
  refine X_aload_n (pc' := 19) dX1_addRoute_18 rfl rfl ?_
  refine Y_get (pc' := 22) dX1_addRoute_19 rfl FX1_20 (zlN hN (by decide)) (congrArg Prod.fst (sh3 ln)) (ct3_1 z2) ?_
  refine X_iload_n (pc' := 23) dX1_addRoute_22 rfl rfl ?_
  refine X_iconst (pc' := 24) dX1_addRoute_23 rfl ?_
  refine X_iload_n (pc' := 25) dX1_addRoute_24 rfl rfl ?_
  obtain ⟨z3, q3, h⟩ := bs h
  refine Y_callVv [.int (iN (r1)), .int (iN (1)), .int (iN (v2))] (pc' := 28) dX1_addRoute_25 rfl VX1_67 (by decide) (zlN hN (by decide)) (congrArg Prod.fst (sh6 ln)) rfl rfl rfl (cs rfl) (cs rfl) rfl (CX4_set hN f2 kT6 f1.1 (inR_c (n := 1) rfl) rv2 q3) (Nat.zero_add _).symm (Nat.zero_add _).symm (fun f3 => ?_)
  refine X_aload_n (pc' := 29) dX1_addRoute_28 rfl rfl ?_
  refine Y_get (pc' := 32) dX1_addRoute_29 rfl FX1_20 (zlN hN (by decide)) (congrArg Prod.fst (sh3 ln)) (ct3_1 z3) ?_
  refine X_iload_n (pc' := 33) dX1_addRoute_32 rfl rfl ?_
  refine X_iconst (pc' := 34) dX1_addRoute_33 rfl ?_
  refine X_aload_n (pc' := 35) dX1_addRoute_34 rfl rfl ?_
  refine Y_get (pc' := 38) dX1_addRoute_35 rfl FX1_35 (zlN hN (by decide)) (congrArg Prod.fst (sh3 ln)) (ct3_7 z3) ?_
  obtain ⟨z4, q4, h⟩ := bs h
  refine Y_callVv [.int (iN (r1)), .int (iN (2)), .int (iN ((z3 3 7)))] (pc' := 41) dX1_addRoute_38 rfl VX1_67 (by decide) (zlN hN (by decide)) (congrArg Prod.fst (sh6 ln)) rfl rfl rfl (cs rfl) (cs rfl) rfl (CX4_set hN f3 kT6 f1.1 (inR_c (n := 2) rfl) (f3 3 7 (by decide)) q4) (Nat.zero_add _).symm (Nat.zero_add _).symm (fun f4 => ?_)
  refine X_iconst (pc' := 42) dX1_addRoute_41 rfl ?_
  refine X_istore (pc' := 44) dX1_addRoute_42 rfl (cl rfl) (Or.inr rfl) (L' := [some (.ref (3)), some (.int (iN (v1))), some (.int (iN (v2))), some (.int (iN (r1))), some (.int (iN (0)))]) rfl ?_
  obtain ⟨x5_z, q5, h⟩ := bs h
  refine X_sub (sub_s (sub_n (sub_n (sub_s (sub_s sub_0))))) (LX1_addRoute_44 hN f1.1 (fun x5_z₁ hh hx5_z => ?_) FU _ _ (inR_c (n := 0) rfl) f4 q5)
  cases hh
  refine X_iload_n (pc' := 72) dX1_addRoute_71 rfl rfl ?_
  cases h
  exact X_iret dX1_addRoute_72 rfl (k ⟨f1.1, hx5_z⟩)
def fX1_addWall (hl : Nat) (v1 : Int) (v2 : Int) (v3 : Int) (z : ZZ) : Option (ZZ) := (Option.bind (fX4_addRow (hl + 1) z) fun q1 => match q1 with | (r1, z1) => (Option.bind (fX4_set (hl + 1) (r1) (0) (v1) z1) fun z2 => (Option.bind (fX4_set (hl + 1) (r1) (1) (v2) z2) fun z3 => (Option.bind (fX4_set (hl + 1) (r1) (2) (v3) z3) fun z4 => (Option.bind (fX4_set (hl + 1) (r1) (3) (v3) z4) fun z5 => some z5)))))
set_option maxRecDepth 100000 in
theorem CX1_addWall {ln : ZR} {N : Nat} {z : ZZ} {hl : Nat} {v1 : Int} {v2 : Int} {v3 : Int} (hN : 151 ≤ N ∧ N < 999999) (hz : okz z) (hhl : isH hl) (rv1 : inR v1) (rv2 : inR v2) (rv3 : inR v3) {p : ZZ} (h : fX1_addWall hl v1 v2 v3 z = some p) : X mX1_addWall 0 (xEnt [.ref (hl), .int (iN (v1)), .int (iN (v2)), .int (iN (v3))] (xL mX1_addWall)) [] (zmk ln N z) (cc_w p) (6 * cc_w p) (Qd (fa_w p) (rs_w p) (st_w ln N p)) := by
  have k : Fin_w (Qd (fa_w p) (rs_w p) (st_w ln N p)) ln N p := Fin_w_i
  unfold fX1_addWall at h
  refine X_to (M := [some (.ref (hl)), some (.int (iN (v1))), some (.int (iN (v2))), some (.int (iN (v3))), none]) (su := []) rfl rfl ?_
  refine X_aload_n (pc' := 1) dX1_addWall_0 rfl rfl ?_
  refine Y_get (pc' := 4) dX1_addWall_1 rfl FX1_14 (isH_lt hhl hN) (isH_sh hhl ln) (isH_r (k := 0) hhl z (by decide) rfl) ?_
  obtain ⟨⟨r1, z1⟩, q1, h⟩ := bs h
  refine Y_callV [] (pc' := 7) dX1_addWall_4 rfl VX1_63 (by decide) (isT_lt (isH_all hl hhl).2.1 hN) (isT_sh (isH_all hl hhl).2.1 ln) rfl rfl rfl (cs rfl) (cs rfl) rfl (CX4_addRow hN hz (isH_all hl hhl).2.1 q1) (Nat.zero_add _).symm (Nat.zero_add _).symm (fun f1 => ?_)
  refine X_istore (pc' := 9) dX1_addWall_7 rfl (cl rfl) (Or.inr rfl) (L' := [some (.ref (hl)), some (.int (iN (v1))), some (.int (iN (v2))), some (.int (iN (v3))), some (.int (iN (r1)))]) rfl ?_
  refine X_aload_n (pc' := 10) dX1_addWall_9 rfl rfl ?_
  refine Y_get (pc' := 13) dX1_addWall_10 rfl FX1_14 (isH_lt hhl hN) (isH_sh hhl ln) (isH_r (k := 0) hhl z1 (by decide) rfl) ?_
  refine X_iload (pc' := 15) dX1_addWall_13 rfl rfl ?_
  refine X_iconst (pc' := 16) dX1_addWall_15 rfl ?_
  refine X_iload_n (pc' := 17) dX1_addWall_16 rfl rfl ?_
  obtain ⟨z2, q2, h⟩ := bs h
  refine Y_callVv [.int (iN (r1)), .int (iN (0)), .int (iN (v1))] (pc' := 20) dX1_addWall_17 rfl VX1_67 (by decide) (isT_lt (isH_all hl hhl).2.1 hN) (isT_sh (isH_all hl hhl).2.1 ln) rfl rfl rfl (cs rfl) (cs rfl) rfl (CX4_set hN f1.2 (isH_all hl hhl).2.1 f1.1 (inR_c (n := 0) rfl) rv1 q2) (Nat.zero_add _).symm (Nat.zero_add _).symm (fun f2 => ?_)
  refine X_aload_n (pc' := 21) dX1_addWall_20 rfl rfl ?_
  refine Y_get (pc' := 24) dX1_addWall_21 rfl FX1_14 (isH_lt hhl hN) (isH_sh hhl ln) (isH_r (k := 0) hhl z2 (by decide) rfl) ?_
  refine X_iload (pc' := 26) dX1_addWall_24 rfl rfl ?_
  refine X_iconst (pc' := 27) dX1_addWall_26 rfl ?_
  refine X_iload_n (pc' := 28) dX1_addWall_27 rfl rfl ?_
  obtain ⟨z3, q3, h⟩ := bs h
  refine Y_callVv [.int (iN (r1)), .int (iN (1)), .int (iN (v2))] (pc' := 31) dX1_addWall_28 rfl VX1_67 (by decide) (isT_lt (isH_all hl hhl).2.1 hN) (isT_sh (isH_all hl hhl).2.1 ln) rfl rfl rfl (cs rfl) (cs rfl) rfl (CX4_set hN f2 (isH_all hl hhl).2.1 f1.1 (inR_c (n := 1) rfl) rv2 q3) (Nat.zero_add _).symm (Nat.zero_add _).symm (fun f3 => ?_)
  refine X_aload_n (pc' := 32) dX1_addWall_31 rfl rfl ?_
  refine Y_get (pc' := 35) dX1_addWall_32 rfl FX1_14 (isH_lt hhl hN) (isH_sh hhl ln) (isH_r (k := 0) hhl z3 (by decide) rfl) ?_
  refine X_iload (pc' := 37) dX1_addWall_35 rfl rfl ?_
  refine X_iconst (pc' := 38) dX1_addWall_37 rfl ?_
  refine X_iload_n (pc' := 39) dX1_addWall_38 rfl rfl ?_
  obtain ⟨z4, q4, h⟩ := bs h
  refine Y_callVv [.int (iN (r1)), .int (iN (2)), .int (iN (v3))] (pc' := 42) dX1_addWall_39 rfl VX1_67 (by decide) (isT_lt (isH_all hl hhl).2.1 hN) (isT_sh (isH_all hl hhl).2.1 ln) rfl rfl rfl (cs rfl) (cs rfl) rfl (CX4_set hN f3 (isH_all hl hhl).2.1 f1.1 (inR_c (n := 2) rfl) rv3 q4) (Nat.zero_add _).symm (Nat.zero_add _).symm (fun f4 => ?_)
  refine X_aload_n (pc' := 43) dX1_addWall_42 rfl rfl ?_
  refine Y_get (pc' := 46) dX1_addWall_43 rfl FX1_14 (isH_lt hhl hN) (isH_sh hhl ln) (isH_r (k := 0) hhl z4 (by decide) rfl) ?_
  refine X_iload (pc' := 48) dX1_addWall_46 rfl rfl ?_
  refine X_iconst (pc' := 49) dX1_addWall_48 rfl ?_
  refine X_iload_n (pc' := 50) dX1_addWall_49 rfl rfl ?_
  obtain ⟨z5, q5, h⟩ := bs h
  refine Y_callVv [.int (iN (r1)), .int (iN (3)), .int (iN (v3))] (pc' := 53) dX1_addWall_50 rfl VX1_67 (by decide) (isT_lt (isH_all hl hhl).2.1 hN) (isT_sh (isH_all hl hhl).2.1 ln) rfl rfl rfl (cs rfl) (cs rfl) rfl (CX4_set hN f4 (isH_all hl hhl).2.1 f1.1 (inR_c (n := 3) rfl) rv3 q5) (Nat.zero_add _).symm (Nat.zero_add _).symm (fun f5 => ?_)
  cases h
  exact X_vret dX1_addWall_53 rfl (k f5)
def fX1_archiveRoute_b24 (v1 : Int) (v2 : Int) (z : ZZ) : Option (Int × ZZ) := (Option.bind (fX4_addRow 8 z) fun q1 => match q1 with | (r1, z1) => (Option.bind (fX4_get 6 (v1) (0) z1) fun r2 => (Option.bind (fX4_set 8 (r1) (0) (r2) z1) fun z3 => (Option.bind (fX4_set 8 (r1) (1) (v2) z3) fun z4 => (Option.bind (fX4_set 8 (r1) (2) ((z4 3 7)) z4) fun z5 => (Option.bind (fX4_get 6 (v1) (4) z5) fun r6 => (Option.bind (fX4_set 8 (r1) (3) (r6) z5) fun z7 => (Option.bind (fX4_removeRow 6 (v1) z7) fun z8 => some (v2, z8)))))))))
set_option maxRecDepth 100000 in
theorem BX1_archiveRoute_24 {ln : ZR} {N : Nat} {z : ZZ} {v1 : Int} {v2 : Int} {c9 s9 : Nat} {Φ : xRes → xS → Prop} (hN : 151 ≤ N ∧ N < 999999) (hz : okz z) (rv1 : inR v1) (rv2 : inR v2) {p : Int × ZZ} (h : fX1_archiveRoute_b24 v1 v2 z = some p) (k : Fin_wi Φ ln N p) : X mX1_archiveRoute 24 [some (.ref (3)), some (.int (iN (v1))), some (.int (iN (v2))), none] [] (zmk ln N z) c9 s9 Φ := by
  unfold fX1_archiveRoute_b24 at h
  refine X_aload_n (pc' := 25) dX1_archiveRoute_24 rfl rfl ?_
  refine Y_get (pc' := 28) dX1_archiveRoute_25 rfl FX1_23 (zlN hN (by decide)) (congrArg Prod.fst (sh3 ln)) (ct3_2 z) ?_
  obtain ⟨⟨r1, z1⟩, q1, h⟩ := bs h
  refine Y_callV [] (pc' := 31) dX1_archiveRoute_28 rfl VX1_63 (by decide) (zlN hN (by decide)) (congrArg Prod.fst (sh8 ln)) rfl rfl rfl (cs rfl) (cs rfl) rfl (CX4_addRow hN hz kT8 q1) (Nat.zero_add _).symm (Nat.zero_add _).symm (fun f1 => ?_)
  refine X_istore_n (pc' := 32) dX1_archiveRoute_31 rfl (cl rfl) (Or.inr rfl) (L' := [some (.ref (3)), some (.int (iN (v1))), some (.int (iN (v2))), some (.int (iN (r1)))]) rfl ?_
  refine X_aload_n (pc' := 33) dX1_archiveRoute_32 rfl rfl ?_
  refine Y_get (pc' := 36) dX1_archiveRoute_33 rfl FX1_23 (zlN hN (by decide)) (congrArg Prod.fst (sh3 ln)) (ct3_2 z1) ?_
  refine X_iload_n (pc' := 37) dX1_archiveRoute_36 rfl rfl ?_
  refine X_iconst (pc' := 38) dX1_archiveRoute_37 rfl ?_
  refine X_aload_n (pc' := 39) dX1_archiveRoute_38 rfl rfl ?_
  refine Y_get (pc' := 42) dX1_archiveRoute_39 rfl FX1_20 (zlN hN (by decide)) (congrArg Prod.fst (sh3 ln)) (ct3_1 z1) ?_
  refine X_iload_n (pc' := 43) dX1_archiveRoute_42 rfl rfl ?_
  refine X_iconst (pc' := 44) dX1_archiveRoute_43 rfl ?_
  obtain ⟨r2, q2, h⟩ := bs h
  refine Y_callV [.int (iN (v1)), .int (iN (0))] (pc' := 47) dX1_archiveRoute_44 rfl VX1_73 (by decide) (zlN hN (by decide)) (congrArg Prod.fst (sh6 ln)) rfl rfl rfl (cs rfl) (cs rfl) rfl (CX4_get hN f1.2 kT6 rv1 (inR_c (n := 0) rfl) q2) (Nat.zero_add _).symm (Nat.zero_add _).symm (fun f2 => ?_)
  obtain ⟨z3, q3, h⟩ := bs h
  refine Y_callVv [.int (iN (r1)), .int (iN (0)), .int (iN (r2))] (pc' := 50) dX1_archiveRoute_47 rfl VX1_67 (by decide) (zlN hN (by decide)) (congrArg Prod.fst (sh8 ln)) rfl rfl rfl (cs rfl) (cs rfl) rfl (CX4_set hN f1.2 kT8 f1.1 (inR_c (n := 0) rfl) f2 q3) (Nat.zero_add _).symm (Nat.zero_add _).symm (fun f3 => ?_)
  refine X_aload_n (pc' := 51) dX1_archiveRoute_50 rfl rfl ?_
  refine Y_get (pc' := 54) dX1_archiveRoute_51 rfl FX1_23 (zlN hN (by decide)) (congrArg Prod.fst (sh3 ln)) (ct3_2 z3) ?_
  refine X_iload_n (pc' := 55) dX1_archiveRoute_54 rfl rfl ?_
  refine X_iconst (pc' := 56) dX1_archiveRoute_55 rfl ?_
  refine X_iload_n (pc' := 57) dX1_archiveRoute_56 rfl rfl ?_
  obtain ⟨z4, q4, h⟩ := bs h
  refine Y_callVv [.int (iN (r1)), .int (iN (1)), .int (iN (v2))] (pc' := 60) dX1_archiveRoute_57 rfl VX1_67 (by decide) (zlN hN (by decide)) (congrArg Prod.fst (sh8 ln)) rfl rfl rfl (cs rfl) (cs rfl) rfl (CX4_set hN f3 kT8 f1.1 (inR_c (n := 1) rfl) rv2 q4) (Nat.zero_add _).symm (Nat.zero_add _).symm (fun f4 => ?_)
  refine X_aload_n (pc' := 61) dX1_archiveRoute_60 rfl rfl ?_
  refine Y_get (pc' := 64) dX1_archiveRoute_61 rfl FX1_23 (zlN hN (by decide)) (congrArg Prod.fst (sh3 ln)) (ct3_2 z4) ?_
  refine X_iload_n (pc' := 65) dX1_archiveRoute_64 rfl rfl ?_
  refine X_iconst (pc' := 66) dX1_archiveRoute_65 rfl ?_
  refine X_aload_n (pc' := 67) dX1_archiveRoute_66 rfl rfl ?_
  refine Y_get (pc' := 70) dX1_archiveRoute_67 rfl FX1_35 (zlN hN (by decide)) (congrArg Prod.fst (sh3 ln)) (ct3_7 z4) ?_
  obtain ⟨z5, q5, h⟩ := bs h
  refine Y_callVv [.int (iN (r1)), .int (iN (2)), .int (iN ((z4 3 7)))] (pc' := 73) dX1_archiveRoute_70 rfl VX1_67 (by decide) (zlN hN (by decide)) (congrArg Prod.fst (sh8 ln)) rfl rfl rfl (cs rfl) (cs rfl) rfl (CX4_set hN f4 kT8 f1.1 (inR_c (n := 2) rfl) (f4 3 7 (by decide)) q5) (Nat.zero_add _).symm (Nat.zero_add _).symm (fun f5 => ?_)
  refine X_aload_n (pc' := 74) dX1_archiveRoute_73 rfl rfl ?_
  refine Y_get (pc' := 77) dX1_archiveRoute_74 rfl FX1_23 (zlN hN (by decide)) (congrArg Prod.fst (sh3 ln)) (ct3_2 z5) ?_
  refine X_iload_n (pc' := 78) dX1_archiveRoute_77 rfl rfl ?_
  refine X_iconst (pc' := 79) dX1_archiveRoute_78 rfl ?_
  refine X_aload_n (pc' := 80) dX1_archiveRoute_79 rfl rfl ?_
  refine Y_get (pc' := 83) dX1_archiveRoute_80 rfl FX1_20 (zlN hN (by decide)) (congrArg Prod.fst (sh3 ln)) (ct3_1 z5) ?_
  refine X_iload_n (pc' := 84) dX1_archiveRoute_83 rfl rfl ?_
  refine X_iconst (pc' := 85) dX1_archiveRoute_84 rfl ?_
  obtain ⟨r6, q6, h⟩ := bs h
  refine Y_callV [.int (iN (v1)), .int (iN (4))] (pc' := 88) dX1_archiveRoute_85 rfl VX1_73 (by decide) (zlN hN (by decide)) (congrArg Prod.fst (sh6 ln)) rfl rfl rfl (cs rfl) (cs rfl) rfl (CX4_get hN f5 kT6 rv1 (inR_c (n := 4) rfl) q6) (Nat.zero_add _).symm (Nat.zero_add _).symm (fun f6 => ?_)
  obtain ⟨z7, q7, h⟩ := bs h
  refine Y_callVv [.int (iN (r1)), .int (iN (3)), .int (iN (r6))] (pc' := 91) dX1_archiveRoute_88 rfl VX1_67 (by decide) (zlN hN (by decide)) (congrArg Prod.fst (sh8 ln)) rfl rfl rfl (cs rfl) (cs rfl) rfl (CX4_set hN f5 kT8 f1.1 (inR_c (n := 3) rfl) f6 q7) (Nat.zero_add _).symm (Nat.zero_add _).symm (fun f7 => ?_)
  refine X_aload_n (pc' := 92) dX1_archiveRoute_91 rfl rfl ?_
  refine Y_get (pc' := 95) dX1_archiveRoute_92 rfl FX1_20 (zlN hN (by decide)) (congrArg Prod.fst (sh3 ln)) (ct3_1 z7) ?_
  refine X_iload_n (pc' := 96) dX1_archiveRoute_95 rfl rfl ?_
  obtain ⟨z8, q8, h⟩ := bs h
  refine Y_callVv [.int (iN (v1))] (pc' := 99) dX1_archiveRoute_96 rfl VX1_85 (by decide) (zlN hN (by decide)) (congrArg Prod.fst (sh6 ln)) rfl rfl rfl (cs rfl) (cs rfl) rfl (CX4_removeRow hN f7 kT6 rv1 q8) (Nat.zero_add _).symm (Nat.zero_add _).symm (fun f8 => ?_)
  refine X_iload_n (pc' := 100) dX1_archiveRoute_99 rfl rfl ?_
  cases h
  exact X_iret dX1_archiveRoute_100 rfl (k ⟨rv2, f8⟩)
def fX1_archiveRoute (v1 : Int) (z : ZZ) : Option (Int × ZZ) := (Option.bind (fX1_gradeOf (v1) z) fun q1 => match q1 with | (r1, z1) => (Option.bind (fX4_isFull 8 z1) fun r2 => (if (r2) = (0) then fX1_archiveRoute_b24 (v1) (r1) z1 else (Option.bind (fX4_removeRow 8 (0) z1) fun z4 => fX1_archiveRoute_b24 (v1) (r1) z4))))
set_option maxRecDepth 100000 in
theorem CX1_archiveRoute {ln : ZR} {N : Nat} {z : ZZ} {v1 : Int} (hN : 151 ≤ N ∧ N < 999999) (hz : okz z) (rv1 : inR v1) {p : Int × ZZ} (h : fX1_archiveRoute v1 z = some p) : X mX1_archiveRoute 0 (xEnt [.ref (3), .int (iN (v1))] (xL mX1_archiveRoute)) [] (zmk ln N z) (cc_wi p) (6 * cc_wi p) (Qd (fa_wi p) (rs_wi p) (st_wi ln N p)) := by
  have k : Fin_wi (Qd (fa_wi p) (rs_wi p) (st_wi ln N p)) ln N p := Fin_wi_i
  unfold fX1_archiveRoute at h
  refine X_to (M := [some (.ref (3)), some (.int (iN (v1))), none, none]) (su := []) rfl rfl ?_
  refine X_aload_n (pc' := 1) dX1_archiveRoute_0 rfl rfl ?_
  refine X_iload_n (pc' := 2) dX1_archiveRoute_1 rfl rfl ?_
  obtain ⟨⟨r1, z1⟩, q1, h⟩ := bs h
  refine Y_callV [.int (iN (v1))] (pc' := 5) dX1_archiveRoute_2 rfl VX1_77 (by decide) (zlN hN (by decide)) (congrArg Prod.fst (sh3 ln)) rfl rfl rfl (cs rfl) (cs rfl) rfl (CX1_gradeOf hN hz rv1 q1) (Nat.zero_add _).symm (Nat.zero_add _).symm (fun f1 => ?_)
  refine X_istore_n (pc' := 6) dX1_archiveRoute_5 rfl (cl rfl) (Or.inr rfl) (L' := [some (.ref (3)), some (.int (iN (v1))), some (.int (iN (r1))), none]) rfl ?_
  refine X_aload_n (pc' := 7) dX1_archiveRoute_6 rfl rfl ?_
  refine Y_get (pc' := 10) dX1_archiveRoute_7 rfl FX1_23 (zlN hN (by decide)) (congrArg Prod.fst (sh3 ln)) (ct3_2 z1) ?_
  obtain ⟨r2, q2, h⟩ := bs h
  refine Y_callV [] (pc' := 13) dX1_archiveRoute_10 rfl VX1_81 (by decide) (zlN hN (by decide)) (congrArg Prod.fst (sh8 ln)) rfl rfl rfl (cs rfl) (cs rfl) rfl (CX4_isFull hN f1.2 kT8 q2) (Nat.zero_add _).symm (Nat.zero_add _).symm (fun f2 => ?_)
  refine X_if_eq dX1_archiveRoute_13 (tgt := 24) rfl (pc' := 16) rfl (inR_b f2) (fun c3 => ?_) (fun c3 => ?_)
  · have h := if_t c3 h
    exact X_sub (sub_s (sub_s (sub_s (sub_n sub_0)))) (BX1_archiveRoute_24 hN f1.2 rv1 f1.1 h k)
  have h := if_f c3 h
  refine X_aload_n (pc' := 17) dX1_archiveRoute_16 rfl rfl ?_
  refine Y_get (pc' := 20) dX1_archiveRoute_17 rfl FX1_23 (zlN hN (by decide)) (congrArg Prod.fst (sh3 ln)) (ct3_2 z1) ?_
  refine X_iconst (pc' := 21) dX1_archiveRoute_20 rfl ?_
  obtain ⟨z4, q4, h⟩ := bs h
  refine Y_callVv [.int (iN (0))] (pc' := 24) dX1_archiveRoute_21 rfl VX1_85 (by decide) (zlN hN (by decide)) (congrArg Prod.fst (sh8 ln)) rfl rfl rfl (cs rfl) (cs rfl) rfl (CX4_removeRow hN f1.2 kT8 (inR_c (n := 0) rfl) q4) (Nat.zero_add _).symm (Nat.zero_add _).symm (fun f4 => ?_)
  exact X_sub (sub_s (sub_s (sub_s (sub_n sub_0)))) (BX1_archiveRoute_24 hN f4 rv1 f1.1 h k)
def fX1_setRules (hl : Nat) (v1 : Int) (v2 : Int) (v3 : Int) (z : ZZ) : Option (ZZ) := (zl (zup z hl 8 (v1)) fun z1 => (zl (zup z1 hl 9 (v2)) fun z2 => (zl (zup z2 hl 10 (v3)) fun z3 => some z3)))
set_option maxRecDepth 100000 in
theorem CX1_setRules {ln : ZR} {N : Nat} {z : ZZ} {hl : Nat} {v1 : Int} {v2 : Int} {v3 : Int} (hN : 151 ≤ N ∧ N < 999999) (hz : okz z) (hhl : isH hl) (rv1 : inR v1) (rv2 : inR v2) (rv3 : inR v3) {p : ZZ} (h : fX1_setRules hl v1 v2 v3 z = some p) : X mX1_setRules 0 (xEnt [.ref (hl), .int (iN (v1)), .int (iN (v2)), .int (iN (v3))] (xL mX1_setRules)) [] (zmk ln N z) (cc_w p) (6 * cc_w p) (Qd (fa_w p) (rs_w p) (st_w ln N p)) := by
  have k : Fin_w (Qd (fa_w p) (rs_w p) (st_w ln N p)) ln N p := Fin_w_i
  unfold fX1_setRules at h
  refine X_to (M := [some (.ref (hl)), some (.int (iN (v1))), some (.int (iN (v2))), some (.int (iN (v3)))]) (su := []) rfl rfl ?_
  refine X_aload_n (pc' := 1) dX1_setRules_0 rfl rfl ?_
  refine X_iload_n (pc' := 2) dX1_setRules_1 rfl rfl ?_
  refine Y_put (k := 8) (j := 8) (v := v1) (pc' := 5) dX1_setRules_2 rfl FX1_39 (isH_lt hhl hN) (isH_sh hhl ln) (fun r hr => by cases hr; rfl) (xFit_int _) rfl (isH_v (k := 8) hhl (by decide) _) ?_
  obtain ⟨z1, e1, hz1, h⟩ := zl_some (P := okz) h (okz_up hz rv1)
  rw [e1]
  refine X_aload_n (pc' := 6) dX1_setRules_5 rfl rfl ?_
  refine X_iload_n (pc' := 7) dX1_setRules_6 rfl rfl ?_
  refine Y_put (k := 9) (j := 9) (v := v2) (pc' := 10) dX1_setRules_7 rfl FX1_42 (isH_lt hhl hN) (isH_sh hhl ln) (fun r hr => by cases hr; rfl) (xFit_int _) rfl (isH_v (k := 9) hhl (by decide) _) ?_
  obtain ⟨z2, e2, hz2, h⟩ := zl_some (P := okz) h (okz_up hz1 rv2)
  rw [e2]
  refine X_aload_n (pc' := 11) dX1_setRules_10 rfl rfl ?_
  refine X_iload_n (pc' := 12) dX1_setRules_11 rfl rfl ?_
  refine Y_put (k := 10) (j := 10) (v := v3) (pc' := 15) dX1_setRules_12 rfl FX1_45 (isH_lt hhl hN) (isH_sh hhl ln) (fun r hr => by cases hr; rfl) (xFit_int _) rfl (isH_v (k := 10) hhl (by decide) _) ?_
  obtain ⟨z3, e3, hz3, h⟩ := zl_some (P := okz) h (okz_up hz2 rv3)
  rw [e3]
  cases h
  exact X_vret dX1_setRules_15 rfl (k hz3)
def fX1_clear (hl : Nat) (z : ZZ) : Option (ZZ) := (Option.bind (fX4_clear (hl + 1) z) fun z1 => (Option.bind (fX4_clear (hl + 3) z1) fun z2 => (Option.bind (fX4_clear (hl + 5) z2) fun z3 => (Option.bind (fX4_clear (hl + 7) z3) fun z4 => (Option.bind (fX4_clear (hl + 9) z4) fun z5 => (Option.bind (fX4_clear (hl + 11) z5) fun z6 => (zl (zup z6 hl 7 (0)) fun z7 => (Option.bind (fX1_setRules hl (20) (2) (50) z7) fun z8 => some z8))))))))
set_option maxRecDepth 100000 in
theorem CX1_clear {ln : ZR} {N : Nat} {z : ZZ} {hl : Nat} (hN : 151 ≤ N ∧ N < 999999) (hz : okz z) (hhl : isH hl) {p : ZZ} (h : fX1_clear hl z = some p) : X mX1_clear 0 (xEnt [.ref (hl)] (xL mX1_clear)) [] (zmk ln N z) (cc_w p) (6 * cc_w p) (Qd (fa_w p) (rs_w p) (st_w ln N p)) := by
  have k : Fin_w (Qd (fa_w p) (rs_w p) (st_w ln N p)) ln N p := Fin_w_i
  unfold fX1_clear at h
  refine X_to (M := [some (.ref (hl))]) (su := []) rfl rfl ?_
  refine X_aload_n (pc' := 1) dX1_clear_0 rfl rfl ?_
  refine Y_get (pc' := 4) dX1_clear_1 rfl FX1_14 (isH_lt hhl hN) (isH_sh hhl ln) (isH_r (k := 0) hhl z (by decide) rfl) ?_
  obtain ⟨z1, q1, h⟩ := bs h
  refine Y_callVv [] (pc' := 7) dX1_clear_4 rfl VX1_60 (by decide) (isT_lt (isH_all hl hhl).2.1 hN) (isT_sh (isH_all hl hhl).2.1 ln) rfl rfl rfl (cs rfl) (cs rfl) rfl (CX4_clear hN hz (isH_all hl hhl).2.1 q1) (Nat.zero_add _).symm (Nat.zero_add _).symm (fun f1 => ?_)
  refine X_aload_n (pc' := 8) dX1_clear_7 rfl rfl ?_
  refine Y_get (pc' := 11) dX1_clear_8 rfl FX1_20 (isH_lt hhl hN) (isH_sh hhl ln) (isH_r (k := 1) hhl z1 (by decide) rfl) ?_
  obtain ⟨z2, q2, h⟩ := bs h
  refine Y_callVv [] (pc' := 14) dX1_clear_11 rfl VX1_60 (by decide) (isT_lt (isH_all hl hhl).2.2.1 hN) (isT_sh (isH_all hl hhl).2.2.1 ln) rfl rfl rfl (cs rfl) (cs rfl) rfl (CX4_clear hN f1 (isH_all hl hhl).2.2.1 q2) (Nat.zero_add _).symm (Nat.zero_add _).symm (fun f2 => ?_)
  refine X_aload_n (pc' := 15) dX1_clear_14 rfl rfl ?_
  refine Y_get (pc' := 18) dX1_clear_15 rfl FX1_23 (isH_lt hhl hN) (isH_sh hhl ln) (isH_r (k := 2) hhl z2 (by decide) rfl) ?_
  obtain ⟨z3, q3, h⟩ := bs h
  refine Y_callVv [] (pc' := 21) dX1_clear_18 rfl VX1_60 (by decide) (isT_lt (isH_all hl hhl).2.2.2.1 hN) (isT_sh (isH_all hl hhl).2.2.2.1 ln) rfl rfl rfl (cs rfl) (cs rfl) rfl (CX4_clear hN f2 (isH_all hl hhl).2.2.2.1 q3) (Nat.zero_add _).symm (Nat.zero_add _).symm (fun f3 => ?_)
  refine X_aload_n (pc' := 22) dX1_clear_21 rfl rfl ?_
  refine Y_get (pc' := 25) dX1_clear_22 rfl FX1_26 (isH_lt hhl hN) (isH_sh hhl ln) (isH_r (k := 3) hhl z3 (by decide) rfl) ?_
  obtain ⟨z4, q4, h⟩ := bs h
  refine Y_callVv [] (pc' := 28) dX1_clear_25 rfl VX1_60 (by decide) (isT_lt (isH_all hl hhl).2.2.2.2.1 hN) (isT_sh (isH_all hl hhl).2.2.2.2.1 ln) rfl rfl rfl (cs rfl) (cs rfl) rfl (CX4_clear hN f3 (isH_all hl hhl).2.2.2.2.1 q4) (Nat.zero_add _).symm (Nat.zero_add _).symm (fun f4 => ?_)
  refine X_aload_n (pc' := 29) dX1_clear_28 rfl rfl ?_
  refine Y_get (pc' := 32) dX1_clear_29 rfl FX1_29 (isH_lt hhl hN) (isH_sh hhl ln) (isH_r (k := 4) hhl z4 (by decide) rfl) ?_
  obtain ⟨z5, q5, h⟩ := bs h
  refine Y_callVv [] (pc' := 35) dX1_clear_32 rfl VX1_60 (by decide) (isT_lt (isH_all hl hhl).2.2.2.2.2.1 hN) (isT_sh (isH_all hl hhl).2.2.2.2.2.1 ln) rfl rfl rfl (cs rfl) (cs rfl) rfl (CX4_clear hN f4 (isH_all hl hhl).2.2.2.2.2.1 q5) (Nat.zero_add _).symm (Nat.zero_add _).symm (fun f5 => ?_)
  refine X_aload_n (pc' := 36) dX1_clear_35 rfl rfl ?_
  refine Y_get (pc' := 39) dX1_clear_36 rfl FX1_32 (isH_lt hhl hN) (isH_sh hhl ln) (isH_r (k := 5) hhl z5 (by decide) rfl) ?_
  obtain ⟨z6, q6, h⟩ := bs h
  refine Y_callVv [] (pc' := 42) dX1_clear_39 rfl VX1_60 (by decide) (isT_lt (isH_all hl hhl).2.2.2.2.2.2 hN) (isT_sh (isH_all hl hhl).2.2.2.2.2.2 ln) rfl rfl rfl (cs rfl) (cs rfl) rfl (CX4_clear hN f5 (isH_all hl hhl).2.2.2.2.2.2 q6) (Nat.zero_add _).symm (Nat.zero_add _).symm (fun f6 => ?_)
  refine X_aload_n (pc' := 43) dX1_clear_42 rfl rfl ?_
  refine X_iconst (pc' := 44) dX1_clear_43 rfl ?_
  refine Y_put (k := 7) (j := 7) (v := 0) (pc' := 47) dX1_clear_44 rfl FX1_35 (isH_lt hhl hN) (isH_sh hhl ln) (fun r hr => by cases hr; rfl) (xFit_int _) rfl (isH_v (k := 7) hhl (by decide) _) ?_
  obtain ⟨z7, e7, hz7, h⟩ := zl_some (P := okz) h (okz_up f6 (inR_c (n := 0) rfl))
  rw [e7]
  refine X_aload_n (pc' := 48) dX1_clear_47 rfl rfl ?_
  refine X_bipush (pc' := 50) dX1_clear_48 rfl (by decide) ?_
  refine X_iconst (pc' := 51) dX1_clear_50 rfl ?_
  refine X_bipush (pc' := 53) dX1_clear_51 rfl (by decide) ?_
  obtain ⟨z8, q8, h⟩ := bs h
  refine Y_callVv [.int (iN (20)), .int (iN (2)), .int (iN (50))] (pc' := 56) dX1_clear_53 rfl VX1_56 (by decide) (isH_lt hhl hN) (isH_sh hhl ln) rfl rfl rfl (cs rfl) (cs rfl) rfl (CX1_setRules hN hz7 hhl (inR_c (n := 20) rfl) (inR_c (n := 2) rfl) (inR_c (n := 50) rfl) q8) (Nat.zero_add _).symm (Nat.zero_add _).symm (fun f8 => ?_)
  cases h
  exact X_vret dX1_clear_56 rfl (k f8)
def fX1_copyFrom (hl : Nat) (hm : Nat) (z : ZZ) : Option (ZZ) := (Option.bind (fX4_copyFrom (hl + 1) (hm + 1) z) fun z1 => (Option.bind (fX4_copyFrom (hl + 3) (hm + 3) z1) fun z2 => (Option.bind (fX4_copyFrom (hl + 5) (hm + 5) z2) fun z3 => (Option.bind (fX4_copyFrom (hl + 7) (hm + 7) z3) fun z4 => (Option.bind (fX4_copyFrom (hl + 9) (hm + 9) z4) fun z5 => (Option.bind (fX4_copyFrom (hl + 11) (hm + 11) z5) fun z6 => (zl (zup z6 hl 7 ((z6 hm 7))) fun z7 => (Option.bind (fX1_setRules hl ((z7 hm 8)) ((z7 hm 9)) ((z7 hm 10)) z7) fun z8 => some z8))))))))
set_option maxRecDepth 100000 in
theorem CX1_copyFrom {ln : ZR} {N : Nat} {z : ZZ} {hl : Nat} {hm : Nat} (hN : 151 ≤ N ∧ N < 999999) (hz : okz z) (hhl : isH hl) (hhm : isH hm) {p : ZZ} (h : fX1_copyFrom hl hm z = some p) : X mX1_copyFrom 0 (xEnt [.ref (hl), .ref (hm)] (xL mX1_copyFrom)) [] (zmk ln N z) (cc_w p) (6 * cc_w p) (Qd (fa_w p) (rs_w p) (st_w ln N p)) := by
  have k : Fin_w (Qd (fa_w p) (rs_w p) (st_w ln N p)) ln N p := Fin_w_i
  unfold fX1_copyFrom at h
  refine X_to (M := [some (.ref (hl)), some (.ref (hm))]) (su := []) rfl rfl ?_
  refine X_aload_n (pc' := 1) dX1_copyFrom_0 rfl rfl ?_
  refine Y_get (pc' := 4) dX1_copyFrom_1 rfl FX1_14 (isH_lt hhl hN) (isH_sh hhl ln) (isH_r (k := 0) hhl z (by decide) rfl) ?_
  refine X_aload_n (pc' := 5) dX1_copyFrom_4 rfl rfl ?_
  refine Y_get (pc' := 8) dX1_copyFrom_5 rfl FX1_14 (isH_lt hhm hN) (isH_sh hhm ln) (isH_r (k := 0) hhm z (by decide) rfl) ?_
  obtain ⟨z1, q1, h⟩ := bs h
  refine Y_callVv [.ref ((hm + 1))] (pc' := 11) dX1_copyFrom_8 rfl VX1_52 (by decide) (isT_lt (isH_all hl hhl).2.1 hN) (isT_sh (isH_all hl hhl).2.1 ln) rfl rfl rfl (cs rfl) (cs rfl) rfl (CX4_copyFrom hN hz (isH_all hl hhl).2.1 (isH_all hm hhm).2.1 q1) (Nat.zero_add _).symm (Nat.zero_add _).symm (fun f1 => ?_)
  refine X_aload_n (pc' := 12) dX1_copyFrom_11 rfl rfl ?_
  refine Y_get (pc' := 15) dX1_copyFrom_12 rfl FX1_20 (isH_lt hhl hN) (isH_sh hhl ln) (isH_r (k := 1) hhl z1 (by decide) rfl) ?_
  refine X_aload_n (pc' := 16) dX1_copyFrom_15 rfl rfl ?_
  refine Y_get (pc' := 19) dX1_copyFrom_16 rfl FX1_20 (isH_lt hhm hN) (isH_sh hhm ln) (isH_r (k := 1) hhm z1 (by decide) rfl) ?_
  obtain ⟨z2, q2, h⟩ := bs h
  refine Y_callVv [.ref ((hm + 3))] (pc' := 22) dX1_copyFrom_19 rfl VX1_52 (by decide) (isT_lt (isH_all hl hhl).2.2.1 hN) (isT_sh (isH_all hl hhl).2.2.1 ln) rfl rfl rfl (cs rfl) (cs rfl) rfl (CX4_copyFrom hN f1 (isH_all hl hhl).2.2.1 (isH_all hm hhm).2.2.1 q2) (Nat.zero_add _).symm (Nat.zero_add _).symm (fun f2 => ?_)
  refine X_aload_n (pc' := 23) dX1_copyFrom_22 rfl rfl ?_
  refine Y_get (pc' := 26) dX1_copyFrom_23 rfl FX1_23 (isH_lt hhl hN) (isH_sh hhl ln) (isH_r (k := 2) hhl z2 (by decide) rfl) ?_
  refine X_aload_n (pc' := 27) dX1_copyFrom_26 rfl rfl ?_
  refine Y_get (pc' := 30) dX1_copyFrom_27 rfl FX1_23 (isH_lt hhm hN) (isH_sh hhm ln) (isH_r (k := 2) hhm z2 (by decide) rfl) ?_
  obtain ⟨z3, q3, h⟩ := bs h
  refine Y_callVv [.ref ((hm + 5))] (pc' := 33) dX1_copyFrom_30 rfl VX1_52 (by decide) (isT_lt (isH_all hl hhl).2.2.2.1 hN) (isT_sh (isH_all hl hhl).2.2.2.1 ln) rfl rfl rfl (cs rfl) (cs rfl) rfl (CX4_copyFrom hN f2 (isH_all hl hhl).2.2.2.1 (isH_all hm hhm).2.2.2.1 q3) (Nat.zero_add _).symm (Nat.zero_add _).symm (fun f3 => ?_)
  refine X_aload_n (pc' := 34) dX1_copyFrom_33 rfl rfl ?_
  refine Y_get (pc' := 37) dX1_copyFrom_34 rfl FX1_26 (isH_lt hhl hN) (isH_sh hhl ln) (isH_r (k := 3) hhl z3 (by decide) rfl) ?_
  refine X_aload_n (pc' := 38) dX1_copyFrom_37 rfl rfl ?_
  refine Y_get (pc' := 41) dX1_copyFrom_38 rfl FX1_26 (isH_lt hhm hN) (isH_sh hhm ln) (isH_r (k := 3) hhm z3 (by decide) rfl) ?_
  obtain ⟨z4, q4, h⟩ := bs h
  refine Y_callVv [.ref ((hm + 7))] (pc' := 44) dX1_copyFrom_41 rfl VX1_52 (by decide) (isT_lt (isH_all hl hhl).2.2.2.2.1 hN) (isT_sh (isH_all hl hhl).2.2.2.2.1 ln) rfl rfl rfl (cs rfl) (cs rfl) rfl (CX4_copyFrom hN f3 (isH_all hl hhl).2.2.2.2.1 (isH_all hm hhm).2.2.2.2.1 q4) (Nat.zero_add _).symm (Nat.zero_add _).symm (fun f4 => ?_)
  refine X_aload_n (pc' := 45) dX1_copyFrom_44 rfl rfl ?_
  refine Y_get (pc' := 48) dX1_copyFrom_45 rfl FX1_29 (isH_lt hhl hN) (isH_sh hhl ln) (isH_r (k := 4) hhl z4 (by decide) rfl) ?_
  refine X_aload_n (pc' := 49) dX1_copyFrom_48 rfl rfl ?_
  refine Y_get (pc' := 52) dX1_copyFrom_49 rfl FX1_29 (isH_lt hhm hN) (isH_sh hhm ln) (isH_r (k := 4) hhm z4 (by decide) rfl) ?_
  obtain ⟨z5, q5, h⟩ := bs h
  refine Y_callVv [.ref ((hm + 9))] (pc' := 55) dX1_copyFrom_52 rfl VX1_52 (by decide) (isT_lt (isH_all hl hhl).2.2.2.2.2.1 hN) (isT_sh (isH_all hl hhl).2.2.2.2.2.1 ln) rfl rfl rfl (cs rfl) (cs rfl) rfl (CX4_copyFrom hN f4 (isH_all hl hhl).2.2.2.2.2.1 (isH_all hm hhm).2.2.2.2.2.1 q5) (Nat.zero_add _).symm (Nat.zero_add _).symm (fun f5 => ?_)
  refine X_aload_n (pc' := 56) dX1_copyFrom_55 rfl rfl ?_
  refine Y_get (pc' := 59) dX1_copyFrom_56 rfl FX1_32 (isH_lt hhl hN) (isH_sh hhl ln) (isH_r (k := 5) hhl z5 (by decide) rfl) ?_
  refine X_aload_n (pc' := 60) dX1_copyFrom_59 rfl rfl ?_
  refine Y_get (pc' := 63) dX1_copyFrom_60 rfl FX1_32 (isH_lt hhm hN) (isH_sh hhm ln) (isH_r (k := 5) hhm z5 (by decide) rfl) ?_
  obtain ⟨z6, q6, h⟩ := bs h
  refine Y_callVv [.ref ((hm + 11))] (pc' := 66) dX1_copyFrom_63 rfl VX1_52 (by decide) (isT_lt (isH_all hl hhl).2.2.2.2.2.2 hN) (isT_sh (isH_all hl hhl).2.2.2.2.2.2 ln) rfl rfl rfl (cs rfl) (cs rfl) rfl (CX4_copyFrom hN f5 (isH_all hl hhl).2.2.2.2.2.2 (isH_all hm hhm).2.2.2.2.2.2 q6) (Nat.zero_add _).symm (Nat.zero_add _).symm (fun f6 => ?_)
  refine X_aload_n (pc' := 67) dX1_copyFrom_66 rfl rfl ?_
  refine X_aload_n (pc' := 68) dX1_copyFrom_67 rfl rfl ?_
  refine Y_get (pc' := 71) dX1_copyFrom_68 rfl FX1_35 (isH_lt hhm hN) (isH_sh hhm ln) (isH_i (k := 7) hhm z6 (by decide) rfl) ?_
  refine Y_put (k := 7) (j := 7) (v := (z6 hm 7)) (pc' := 74) dX1_copyFrom_71 rfl FX1_35 (isH_lt hhl hN) (isH_sh hhl ln) (fun r hr => by cases hr; rfl) (xFit_int _) rfl (isH_v (k := 7) hhl (by decide) _) ?_
  obtain ⟨z7, e7, hz7, h⟩ := zl_some (P := okz) h (okz_up f6 (f6 hm 7 (isH_ne hhm)))
  rw [e7]
  refine X_aload_n (pc' := 75) dX1_copyFrom_74 rfl rfl ?_
  refine X_aload_n (pc' := 76) dX1_copyFrom_75 rfl rfl ?_
  refine Y_get (pc' := 79) dX1_copyFrom_76 rfl FX1_39 (isH_lt hhm hN) (isH_sh hhm ln) (isH_i (k := 8) hhm z7 (by decide) rfl) ?_
  refine X_aload_n (pc' := 80) dX1_copyFrom_79 rfl rfl ?_
  refine Y_get (pc' := 83) dX1_copyFrom_80 rfl FX1_42 (isH_lt hhm hN) (isH_sh hhm ln) (isH_i (k := 9) hhm z7 (by decide) rfl) ?_
  refine X_aload_n (pc' := 84) dX1_copyFrom_83 rfl rfl ?_
  refine Y_get (pc' := 87) dX1_copyFrom_84 rfl FX1_45 (isH_lt hhm hN) (isH_sh hhm ln) (isH_i (k := 10) hhm z7 (by decide) rfl) ?_
  obtain ⟨z8, q8, h⟩ := bs h
  refine Y_callVv [.int (iN ((z7 hm 8))), .int (iN ((z7 hm 9))), .int (iN ((z7 hm 10)))] (pc' := 90) dX1_copyFrom_87 rfl VX1_56 (by decide) (isH_lt hhl hN) (isH_sh hhl ln) rfl rfl rfl (cs rfl) (cs rfl) rfl (CX1_setRules hN hz7 hhl (hz7 hm 8 (isH_ne hhm)) (hz7 hm 9 (isH_ne hhm)) (hz7 hm 10 (isH_ne hhm)) q8) (Nat.zero_add _).symm (Nat.zero_add _).symm (fun f8 => ?_)
  cases h
  exact X_vret dX1_copyFrom_90 rfl (k f8)
def fX1_membersIn_b34 (v1 : Int) (v2 : Int) (v3 : Int) (z : ZZ) : Option ((Int × Int) ⊕ (Int)) := (if inR ((v3 + 1)) then some (.inl (v2, (v3 + 1))) else none)
set_option maxRecDepth 100000 in
theorem BX1_membersIn_34 {ln : ZR} {N : Nat} {z : ZZ} {v1 : Int} {v2 : Int} {v3 : Int} {c9 s9 : Nat} {Φ : xRes → xS → Prop} (hN : 151 ≤ N ∧ N < 999999) (hz : okz z) (rv1 : inR v1) (rv2 : inR v2) (rv3 : inR v3) {p : (Int × Int) ⊕ (Int)} (h : fX1_membersIn_b34 v1 v2 v3 z = some p) (k1 : ∀ (v2' : Int) (v3' : Int), p = .inl (v2', v3') → inR v2' → inR v3' → X mX1_membersIn 4 [some (.ref (3)), some (.int (iN (v1))), some (.int (iN (v2'))), some (.int (iN (v3')))] [] (zmk ln N z) c9 s9 Φ) (k2 : ∀ (v2' : Int), p = .inr v2' → inR v2' → X mX1_membersIn 40 [none, none, some (.int (iN (v2'))), none] [] (zmk ln N z) c9 s9 Φ) : X mX1_membersIn 34 [some (.ref (3)), some (.int (iN (v1))), some (.int (iN (v2))), some (.int (iN (v3)))] [] (zmk ln N z) c9 s9 Φ := by
  unfold fX1_membersIn_b34 at h
  refine X_iinc (pc' := 37) dX1_membersIn_34 rfl rfl (Or.inr rfl) (L' := [some (.ref (3)), some (.int (iN (v1))), some (.int (iN (v2))), some (.int (iN (v3 + 1)))]) rfl ?_
  refine X_goto dX1_membersIn_37 (tgt := 4) rfl ?_
  obtain ⟨g1, h⟩ := gs h
  cases h
  exact X_sub (sub_s (sub_s (sub_s (sub_s sub_0)))) (k1 _ _ rfl rv2 g1)
def fX1_membersIn_s4 (v1 : Int) (v2 : Int) (v3 : Int) (z : ZZ) : Option ((Int × Int) ⊕ (Int)) := (if (v3) < ((z 12 3)) then (Option.bind (fX4_get 12 (v3) (4) z) fun r2 => (if (r2) = (v1) then fX1_membersIn_b34 (v1) ((zor v2 (zshl 1 v3))) (v3) z else fX1_membersIn_b34 (v1) (v2) (v3) z)) else some (.inr v2))
set_option maxRecDepth 100000 in
theorem SX1_membersIn_4 {ln : ZR} {N : Nat} {z : ZZ} {v1 : Int} {v2 : Int} {v3 : Int} {c9 s9 : Nat} {Φ : xRes → xS → Prop} (hN : 151 ≤ N ∧ N < 999999) (hz : okz z) (rv1 : inR v1) (rv2 : inR v2) (rv3 : inR v3) {p : (Int × Int) ⊕ (Int)} (h : fX1_membersIn_s4 v1 v2 v3 z = some p) (k1 : ∀ (v2' : Int) (v3' : Int), p = .inl (v2', v3') → inR v2' → inR v3' → X mX1_membersIn 4 [some (.ref (3)), some (.int (iN (v1))), some (.int (iN (v2'))), some (.int (iN (v3')))] [] (zmk ln N z) c9 s9 Φ) (k2 : ∀ (v2' : Int), p = .inr v2' → inR v2' → X mX1_membersIn 40 [none, none, some (.int (iN (v2'))), none] [] (zmk ln N z) c9 s9 Φ) : X mX1_membersIn 4 [some (.ref (3)), some (.int (iN (v1))), some (.int (iN (v2))), some (.int (iN (v3)))] [] (zmk ln N z) c9 s9 Φ := by
  unfold fX1_membersIn_s4 at h
  refine X_iload_n (pc' := 5) dX1_membersIn_4 rfl rfl ?_
  refine X_aload_n (pc' := 6) dX1_membersIn_5 rfl rfl ?_
  refine Y_get (pc' := 9) dX1_membersIn_6 rfl FX1_29 (zlN hN (by decide)) (congrArg Prod.fst (sh3 ln)) (ct3_4 z) ?_
  refine Y_get (pc' := 12) dX1_membersIn_9 rfl FX1_70 (zlN hN (by decide)) (congrArg Prod.fst (sh12 ln)) (ct12_3 z) ?_
  refine X_icmp_ge dX1_membersIn_12 (tgt := 40) rfl (pc' := 15) rfl ⟨rv3.1, rv3.2, (hz 12 3 (by decide)).1, (hz 12 3 (by decide)).2⟩ (fun c1 => ?_) (fun c1 => ?_)
  · have h := if_f (Int.not_lt.mpr c1) h
    cases h
    exact X_sub (sub_n (sub_n (sub_s (sub_n sub_0)))) (k2 _ rfl rv2)
  have h := if_t c1 h
  refine X_aload_n (pc' := 16) dX1_membersIn_15 rfl rfl ?_
  refine Y_get (pc' := 19) dX1_membersIn_16 rfl FX1_29 (zlN hN (by decide)) (congrArg Prod.fst (sh3 ln)) (ct3_4 z) ?_
  refine X_iload_n (pc' := 20) dX1_membersIn_19 rfl rfl ?_
  refine X_iconst (pc' := 21) dX1_membersIn_20 rfl ?_
  obtain ⟨r2, q2, h⟩ := bs h
  refine Y_callV [.int (iN (v3)), .int (iN (4))] (pc' := 24) dX1_membersIn_21 rfl VX1_73 (by decide) (zlN hN (by decide)) (congrArg Prod.fst (sh12 ln)) rfl rfl rfl (cs rfl) (cs rfl) rfl (CX4_get hN hz kT12 rv3 (inR_c (n := 4) rfl) q2) (Nat.zero_add _).symm (Nat.zero_add _).symm (fun f2 => ?_)
  refine X_iload_n (pc' := 25) dX1_membersIn_24 rfl rfl ?_
  refine X_icmp_ne dX1_membersIn_25 (tgt := 34) rfl (pc' := 28) rfl ⟨f2.1, f2.2, rv1.1, rv1.2⟩ (fun c3 => ?_) (fun c3 => ?_)
  · have h := if_f c3 h
    exact X_sub (sub_s (sub_s (sub_s (sub_s sub_0)))) (BX1_membersIn_34 hN hz rv1 rv2 rv3 h k1 k2)
  have h := if_t c3 h
  refine X_iload_n (pc' := 29) dX1_membersIn_28 rfl rfl ?_
  refine X_iconst (pc' := 30) dX1_membersIn_29 rfl ?_
  refine X_iload_n (pc' := 31) dX1_membersIn_30 rfl rfl ?_
  refine X_ishl (pc' := 32) dX1_membersIn_31 rfl ?_
  refine X_ior (pc' := 33) dX1_membersIn_32 rfl ?_
  refine X_istore_n (pc' := 34) dX1_membersIn_33 rfl (cl rfl) (Or.inr rfl) (L' := [some (.ref (3)), some (.int (iN (v1))), some (.int (iN ((zor v2 (zshl 1 v3))))), some (.int (iN (v3)))]) rfl ?_
  exact X_sub (sub_s (sub_s (sub_s (sub_s sub_0)))) (BX1_membersIn_34 hN hz rv1 (inR_zor _ _) rv3 h k1 k2)
theorem LX1_membersIn_4 {ln : ZR} {N : Nat} {z : ZZ} {v1 : Int} {c9 s9 : Nat} {Φ : xRes → xS → Prop} (hN : 151 ≤ N ∧ N < 999999) (hz : okz z) (rv1 : inR v1) {r : Int} (k2 : ∀ (v2' : Int), r = v2' → inR v2' → X mX1_membersIn 40 [none, none, some (.int (iN (v2'))), none] [] (zmk ln N z) c9 s9 Φ) : ∀ (n : Nat) (v2 : Int) (v3 : Int), inR v2 → inR v3 → zlp (fun q => fX1_membersIn_s4 v1 q.1 q.2 z) n (v2, v3) = some r → X mX1_membersIn 4 [some (.ref (3)), some (.int (iN (v1))), some (.int (iN (v2))), some (.int (iN (v3)))] [] (zmk ln N z) c9 s9 Φ := by
  intro n
  induction n with
  | zero => intro v2 v3 rv2 rv3 h; cases h
  | succ n ih =>
    intro v2 v3 rv2 rv3 h
    rcases zlp_s h with ⟨⟨v2', v3'⟩, e, h'⟩ | e
    · exact SX1_membersIn_4 hN hz rv1 rv2 rv3 e (fun v2₁ v3₁ hh f0 f1 => by cases hh; exact ih _ _ f0 f1 h') (fun v2₁ hh f0 => by cases hh)
    · exact SX1_membersIn_4 hN hz rv1 rv2 rv3 e (fun v2₁ v3₁ hh f0 f1 => by cases hh) (fun v2₁ hh f0 => by cases hh; exact k2 _ rfl f0)
def fX1_membersIn (v1 : Int) (z : ZZ) : Option (Int) := (Option.bind (zlp (fun q => fX1_membersIn_s4 (v1) q.1 q.2 z) FU (0, 0)) fun x1_v2 => some (x1_v2))
set_option maxRecDepth 100000 in
theorem CX1_membersIn {ln : ZR} {N : Nat} {z : ZZ} {v1 : Int} (hN : 151 ≤ N ∧ N < 999999) (hz : okz z) (rv1 : inR v1) {p : Int} (h : fX1_membersIn v1 z = some p) : X mX1_membersIn 0 (xEnt [.ref (3), .int (iN (v1))] (xL mX1_membersIn)) [] (zmk ln N z) (cc_r p) (6 * cc_r p) (Qd (fa_r p) (rs_r p) (st_r ln N z p)) := by
  have k : Fin_r (Qd (fa_r p) (rs_r p) (st_r ln N z p)) ln N z p := Fin_r_i
  unfold fX1_membersIn at h
  refine X_to (M := [some (.ref (3)), some (.int (iN (v1))), none, none]) (su := []) rfl rfl ?_
  refine X_iconst (pc' := 1) dX1_membersIn_0 rfl ?_
  refine X_istore_n (pc' := 2) dX1_membersIn_1 rfl (cl rfl) (Or.inr rfl) (L' := [some (.ref (3)), some (.int (iN (v1))), some (.int (iN (0))), none]) rfl ?_
  refine X_iconst (pc' := 3) dX1_membersIn_2 rfl ?_
  refine X_istore_n (pc' := 4) dX1_membersIn_3 rfl (cl rfl) (Or.inr rfl) (L' := [some (.ref (3)), some (.int (iN (v1))), some (.int (iN (0))), some (.int (iN (0)))]) rfl ?_
  obtain ⟨x1_v2, q1, h⟩ := bs h
  refine X_sub (sub_s (sub_s (sub_s (sub_s sub_0)))) (LX1_membersIn_4 hN hz rv1 (fun x1_v2₁ hh rx1_v2 => ?_) FU _ _ (inR_c (n := 0) rfl) (inR_c (n := 0) rfl) q1)
  cases hh
  refine X_iload_n (pc' := 41) dX1_membersIn_40 rfl rfl ?_
  cases h
  exact X_iret dX1_membersIn_41 rfl (k rx1_v2)
def fX1_endCourse_b78 (v1 : Int) (v2 : Int) (v3 : Int) (v4 : Int) (v5 : Int) (z : ZZ) : Option ((Int × Int × ZZ) ⊕ (Int × ZZ)) := (if inR ((v5 + 1)) then some (.inl (v3, (v5 + 1), z)) else none)
set_option maxRecDepth 100000 in
theorem BX1_endCourse_78 {ln : ZR} {N : Nat} {z : ZZ} {v1 : Int} {v2 : Int} {v3 : Int} {v4 : Int} {v5 : Int} {c9 s9 : Nat} {Φ : xRes → xS → Prop} (hN : 151 ≤ N ∧ N < 999999) (hz : okz z) (rv1 : inR v1) (rv2 : inR v2) (rv3 : inR v3) (rv4 : inR v4) (rv5 : inR v5) {p : (Int × Int × ZZ) ⊕ (Int × ZZ)} (h : fX1_endCourse_b78 v1 v2 v3 v4 v5 z = some p) (k1 : ∀ (v3' : Int) (v5' : Int) (z' : ZZ), p = .inl (v3', v5', z') → inR v3' → inR v5' → okz z' → X mX1_endCourse 12 [some (.ref (3)), some (.int (iN (v1))), some (.int (iN (v2))), some (.int (iN (v3'))), some (.int (iN (v4))), some (.int (iN (v5')))] [] (zmk ln N z') c9 s9 Φ) (k2 : ∀ (v3' : Int) (z' : ZZ), p = .inr (v3', z') → inR v3' → okz z' → X mX1_endCourse 84 [none, none, none, some (.int (iN (v3'))), none, none] [] (zmk ln N z') c9 s9 Φ) : X mX1_endCourse 78 [some (.ref (3)), some (.int (iN (v1))), some (.int (iN (v2))), some (.int (iN (v3))), some (.int (iN (v4))), some (.int (iN (v5)))] [] (zmk ln N z) c9 s9 Φ := by
  unfold fX1_endCourse_b78 at h
  refine X_iinc (pc' := 81) dX1_endCourse_78 rfl rfl (Or.inr rfl) (L' := [some (.ref (3)), some (.int (iN (v1))), some (.int (iN (v2))), some (.int (iN (v3))), some (.int (iN (v4))), some (.int (iN (v5 + 1)))]) rfl ?_
  refine X_goto dX1_endCourse_81 (tgt := 12) rfl ?_
  obtain ⟨g1, h⟩ := gs h
  cases h
  exact X_sub (sub_s (sub_s (sub_s (sub_s (sub_s (sub_s sub_0)))))) (k1 _ _ _ rfl rv3 g1 hz)
def fX1_endCourse_s12 (v1 : Int) (v2 : Int) (v4 : Int) (v3 : Int) (v5 : Int) (z : ZZ) : Option ((Int × Int × ZZ) ⊕ (Int × ZZ)) := (if (v5) < ((z 12 3)) then (if ((zand (zushr v4 v5) 1)) = (1) then (Option.bind (fX4_set 12 (v5) (4) ((-1)) z) fun z3 => (if ((zand (zushr v2 v5) 1)) = (1) then (Option.bind (fX4_get 14 (v1) (0) z3) fun r5 => (Option.bind (fX4_set 12 (v5) (1) (r5) z3) fun z6 => (if inR ((v3 + 1)) then fX1_endCourse_b78 (v1) (v2) ((v3 + 1)) (v4) (v5) z6 else none))) else fX1_endCourse_b78 (v1) (v2) (v3) (v4) (v5) z3)) else fX1_endCourse_b78 (v1) (v2) (v3) (v4) (v5) z) else some (.inr (v3, z)))
set_option maxRecDepth 100000 in
theorem SX1_endCourse_12 {ln : ZR} {N : Nat} {z : ZZ} {v1 : Int} {v2 : Int} {v4 : Int} {v3 : Int} {v5 : Int} {c9 s9 : Nat} {Φ : xRes → xS → Prop} (hN : 151 ≤ N ∧ N < 999999) (hz : okz z) (rv1 : inR v1) (rv2 : inR v2) (rv4 : inR v4) (rv3 : inR v3) (rv5 : inR v5) {p : (Int × Int × ZZ) ⊕ (Int × ZZ)} (h : fX1_endCourse_s12 v1 v2 v4 v3 v5 z = some p) (k1 : ∀ (v3' : Int) (v5' : Int) (z' : ZZ), p = .inl (v3', v5', z') → inR v3' → inR v5' → okz z' → X mX1_endCourse 12 [some (.ref (3)), some (.int (iN (v1))), some (.int (iN (v2))), some (.int (iN (v3'))), some (.int (iN (v4))), some (.int (iN (v5')))] [] (zmk ln N z') c9 s9 Φ) (k2 : ∀ (v3' : Int) (z' : ZZ), p = .inr (v3', z') → inR v3' → okz z' → X mX1_endCourse 84 [none, none, none, some (.int (iN (v3'))), none, none] [] (zmk ln N z') c9 s9 Φ) : X mX1_endCourse 12 [some (.ref (3)), some (.int (iN (v1))), some (.int (iN (v2))), some (.int (iN (v3))), some (.int (iN (v4))), some (.int (iN (v5)))] [] (zmk ln N z) c9 s9 Φ := by
  unfold fX1_endCourse_s12 at h
  refine X_iload (pc' := 14) dX1_endCourse_12 rfl rfl ?_
  refine X_aload_n (pc' := 15) dX1_endCourse_14 rfl rfl ?_
  refine Y_get (pc' := 18) dX1_endCourse_15 rfl FX1_29 (zlN hN (by decide)) (congrArg Prod.fst (sh3 ln)) (ct3_4 z) ?_
  refine Y_get (pc' := 21) dX1_endCourse_18 rfl FX1_70 (zlN hN (by decide)) (congrArg Prod.fst (sh12 ln)) (ct12_3 z) ?_
  refine X_icmp_ge dX1_endCourse_21 (tgt := 84) rfl (pc' := 24) rfl ⟨rv5.1, rv5.2, (hz 12 3 (by decide)).1, (hz 12 3 (by decide)).2⟩ (fun c1 => ?_) (fun c1 => ?_)
  · have h := if_f (Int.not_lt.mpr c1) h
    cases h
    exact X_sub (sub_n (sub_n (sub_n (sub_s (sub_n (sub_n sub_0)))))) (k2 _ _ rfl rv3 hz)
  have h := if_t c1 h
  refine X_iload (pc' := 26) dX1_endCourse_24 rfl rfl ?_
  refine X_iload (pc' := 28) dX1_endCourse_26 rfl rfl ?_
  refine X_iushr (pc' := 29) dX1_endCourse_28 rfl ?_
  refine X_iconst (pc' := 30) dX1_endCourse_29 rfl ?_
  refine X_iand (pc' := 31) dX1_endCourse_30 rfl ?_
  refine X_iconst (pc' := 32) dX1_endCourse_31 rfl ?_
  refine X_icmp_ne dX1_endCourse_32 (tgt := 78) rfl (pc' := 35) rfl ⟨(inR_zand _ _).1, (inR_zand _ _).2, (inR_c (n := 1) rfl).1, (inR_c (n := 1) rfl).2⟩ (fun c2 => ?_) (fun c2 => ?_)
  · have h := if_f c2 h
    exact X_sub (sub_s (sub_s (sub_s (sub_s (sub_s (sub_s sub_0)))))) (BX1_endCourse_78 hN hz rv1 rv2 rv3 rv4 rv5 h k1 k2)
  have h := if_t c2 h
  refine X_aload_n (pc' := 36) dX1_endCourse_35 rfl rfl ?_
  refine Y_get (pc' := 39) dX1_endCourse_36 rfl FX1_29 (zlN hN (by decide)) (congrArg Prod.fst (sh3 ln)) (ct3_4 z) ?_
  refine X_iload (pc' := 41) dX1_endCourse_39 rfl rfl ?_
  refine X_iconst (pc' := 42) dX1_endCourse_41 rfl ?_
  refine X_iconst (pc' := 43) dX1_endCourse_42 rfl ?_
  obtain ⟨z3, q3, h⟩ := bs h
  refine Y_callVv [.int (iN (v5)), .int (iN (4)), .int (iN ((-1)))] (pc' := 46) dX1_endCourse_43 rfl VX1_67 (by decide) (zlN hN (by decide)) (congrArg Prod.fst (sh12 ln)) rfl rfl rfl (cs rfl) (cs rfl) rfl (CX4_set hN hz kT12 rv5 (inR_c (n := 4) rfl) (inR_c (n := (-1)) rfl) q3) (Nat.zero_add _).symm (Nat.zero_add _).symm (fun f3 => ?_)
  refine X_iload_n (pc' := 47) dX1_endCourse_46 rfl rfl ?_
  refine X_iload (pc' := 49) dX1_endCourse_47 rfl rfl ?_
  refine X_iushr (pc' := 50) dX1_endCourse_49 rfl ?_
  refine X_iconst (pc' := 51) dX1_endCourse_50 rfl ?_
  refine X_iand (pc' := 52) dX1_endCourse_51 rfl ?_
  refine X_iconst (pc' := 53) dX1_endCourse_52 rfl ?_
  refine X_icmp_ne dX1_endCourse_53 (tgt := 78) rfl (pc' := 56) rfl ⟨(inR_zand _ _).1, (inR_zand _ _).2, (inR_c (n := 1) rfl).1, (inR_c (n := 1) rfl).2⟩ (fun c4 => ?_) (fun c4 => ?_)
  · have h := if_f c4 h
    exact X_sub (sub_s (sub_s (sub_s (sub_s (sub_s (sub_s sub_0)))))) (BX1_endCourse_78 hN f3 rv1 rv2 rv3 rv4 rv5 h k1 k2)
  have h := if_t c4 h
  refine X_aload_n (pc' := 57) dX1_endCourse_56 rfl rfl ?_
  refine Y_get (pc' := 60) dX1_endCourse_57 rfl FX1_29 (zlN hN (by decide)) (congrArg Prod.fst (sh3 ln)) (ct3_4 z3) ?_
  refine X_iload (pc' := 62) dX1_endCourse_60 rfl rfl ?_
  refine X_iconst (pc' := 63) dX1_endCourse_62 rfl ?_
  refine X_aload_n (pc' := 64) dX1_endCourse_63 rfl rfl ?_
  refine Y_get (pc' := 67) dX1_endCourse_64 rfl FX1_32 (zlN hN (by decide)) (congrArg Prod.fst (sh3 ln)) (ct3_5 z3) ?_
  refine X_iload_n (pc' := 68) dX1_endCourse_67 rfl rfl ?_
  refine X_iconst (pc' := 69) dX1_endCourse_68 rfl ?_
  obtain ⟨r5, q5, h⟩ := bs h
  refine Y_callV [.int (iN (v1)), .int (iN (0))] (pc' := 72) dX1_endCourse_69 rfl VX1_73 (by decide) (zlN hN (by decide)) (congrArg Prod.fst (sh14 ln)) rfl rfl rfl (cs rfl) (cs rfl) rfl (CX4_get hN f3 kT14 rv1 (inR_c (n := 0) rfl) q5) (Nat.zero_add _).symm (Nat.zero_add _).symm (fun f5 => ?_)
  obtain ⟨z6, q6, h⟩ := bs h
  refine Y_callVv [.int (iN (v5)), .int (iN (1)), .int (iN (r5))] (pc' := 75) dX1_endCourse_72 rfl VX1_67 (by decide) (zlN hN (by decide)) (congrArg Prod.fst (sh12 ln)) rfl rfl rfl (cs rfl) (cs rfl) rfl (CX4_set hN f3 kT12 rv5 (inR_c (n := 1) rfl) f5 q6) (Nat.zero_add _).symm (Nat.zero_add _).symm (fun f6 => ?_)
  refine X_iinc (pc' := 78) dX1_endCourse_75 rfl rfl (Or.inr rfl) (L' := [some (.ref (3)), some (.int (iN (v1))), some (.int (iN (v2))), some (.int (iN (v3 + 1))), some (.int (iN (v4))), some (.int (iN (v5)))]) rfl ?_
  obtain ⟨g7, h⟩ := gs h
  exact X_sub (sub_s (sub_s (sub_s (sub_s (sub_s (sub_s sub_0)))))) (BX1_endCourse_78 hN f6 rv1 rv2 g7 rv4 rv5 h k1 k2)
theorem LX1_endCourse_12 {ln : ZR} {N : Nat} {v1 : Int} {v2 : Int} {v4 : Int} {c9 s9 : Nat} {Φ : xRes → xS → Prop} (hN : 151 ≤ N ∧ N < 999999) (rv1 : inR v1) (rv2 : inR v2) (rv4 : inR v4) {r : Int × ZZ} (k2 : ∀ (v3' : Int) (z' : ZZ), r = (v3', z') → inR v3' → okz z' → X mX1_endCourse 84 [none, none, none, some (.int (iN (v3'))), none, none] [] (zmk ln N z') c9 s9 Φ) : ∀ (n : Nat) (v3 : Int) (v5 : Int) (z : ZZ), inR v3 → inR v5 → okz z → zlp (fun q => fX1_endCourse_s12 v1 v2 v4 q.1 q.2.1 q.2.2) n (v3, v5, z) = some r → X mX1_endCourse 12 [some (.ref (3)), some (.int (iN (v1))), some (.int (iN (v2))), some (.int (iN (v3))), some (.int (iN (v4))), some (.int (iN (v5)))] [] (zmk ln N z) c9 s9 Φ := by
  intro n
  induction n with
  | zero => intro v3 v5 z rv3 rv5 hz h; cases h
  | succ n ih =>
    intro v3 v5 z rv3 rv5 hz h
    rcases zlp_s h with ⟨⟨v3', v5', z'⟩, e, h'⟩ | e
    · exact SX1_endCourse_12 hN hz rv1 rv2 rv4 rv3 rv5 e (fun v3₁ v5₁ z₁ hh f0 f1 f2 => by cases hh; exact ih _ _ _ f0 f1 f2 h') (fun v3₁ z₁ hh f0 f1 => by cases hh)
    · exact SX1_endCourse_12 hN hz rv1 rv2 rv4 rv3 rv5 e (fun v3₁ v5₁ z₁ hh f0 f1 f2 => by cases hh) (fun v3₁ z₁ hh f0 f1 => by cases hh; exact k2 _ _ rfl f0 f1)
def fX1_endCourse (v1 : Int) (v2 : Int) (z : ZZ) : Option (Int × ZZ) := (Option.bind (fX1_membersIn (v1) z) fun r1 => (Option.bind (zlp (fun q => fX1_endCourse_s12 (v1) (v2) (r1) q.1 q.2.1 q.2.2) FU (0, 0, z)) fun q2 => match q2 with | (x2_v3, x2_z) => some (x2_v3, x2_z)))
set_option maxRecDepth 100000 in
theorem CX1_endCourse {ln : ZR} {N : Nat} {z : ZZ} {v1 : Int} {v2 : Int} (hN : 151 ≤ N ∧ N < 999999) (hz : okz z) (rv1 : inR v1) (rv2 : inR v2) {p : Int × ZZ} (h : fX1_endCourse v1 v2 z = some p) : X mX1_endCourse 0 (xEnt [.ref (3), .int (iN (v1)), .int (iN (v2))] (xL mX1_endCourse)) [] (zmk ln N z) (cc_wi p) (6 * cc_wi p) (Qd (fa_wi p) (rs_wi p) (st_wi ln N p)) := by
  have k : Fin_wi (Qd (fa_wi p) (rs_wi p) (st_wi ln N p)) ln N p := Fin_wi_i
  unfold fX1_endCourse at h
  refine X_to (M := [some (.ref (3)), some (.int (iN (v1))), some (.int (iN (v2))), none, none, none]) (su := []) rfl rfl ?_
  refine X_iconst (pc' := 1) dX1_endCourse_0 rfl ?_
  refine X_istore_n (pc' := 2) dX1_endCourse_1 rfl (cl rfl) (Or.inr rfl) (L' := [some (.ref (3)), some (.int (iN (v1))), some (.int (iN (v2))), some (.int (iN (0))), none, none]) rfl ?_
  refine X_aload_n (pc' := 3) dX1_endCourse_2 rfl rfl ?_
  refine X_iload_n (pc' := 4) dX1_endCourse_3 rfl rfl ?_
  obtain ⟨r1, q1, h⟩ := bs h
  refine Y_callV [.int (iN (v1))] (pc' := 7) dX1_endCourse_4 rfl VX1_188 (by decide) (zlN hN (by decide)) (congrArg Prod.fst (sh3 ln)) rfl rfl rfl (cs rfl) (cs rfl) rfl (CX1_membersIn hN hz rv1 q1) (Nat.zero_add _).symm (Nat.zero_add _).symm (fun f1 => ?_)
  refine X_istore (pc' := 9) dX1_endCourse_7 rfl (cl rfl) (Or.inr rfl) (L' := [some (.ref (3)), some (.int (iN (v1))), some (.int (iN (v2))), some (.int (iN (0))), some (.int (iN (r1))), none]) rfl ?_
  refine X_iconst (pc' := 10) dX1_endCourse_9 rfl ?_
  refine X_istore (pc' := 12) dX1_endCourse_10 rfl (cl rfl) (Or.inr rfl) (L' := [some (.ref (3)), some (.int (iN (v1))), some (.int (iN (v2))), some (.int (iN (0))), some (.int (iN (r1))), some (.int (iN (0)))]) rfl ?_
  obtain ⟨⟨x2_v3, x2_z⟩, q2, h⟩ := bs h
  refine X_sub (sub_s (sub_s (sub_s (sub_s (sub_s (sub_s sub_0)))))) (LX1_endCourse_12 hN rv1 rv2 f1 (fun x2_v3₁ x2_z₁ hh rx2_v3 hx2_z => ?_) FU _ _ _ (inR_c (n := 0) rfl) (inR_c (n := 0) rfl) hz q2)
  cases hh
  refine X_iload_n (pc' := 85) dX1_endCourse_84 rfl rfl ?_
  cases h
  exact X_iret dX1_endCourse_85 rfl (k ⟨rx2_v3, hx2_z⟩)
def fX1_isClosed (v1 : Int) (z : ZZ) : Option (Int) := (Option.bind (fX4_get 4 (v1) (3) z) fun r1 => (if (r1) = ((z 3 7)) then some (1) else some (0)))
set_option maxRecDepth 100000 in
theorem CX1_isClosed {ln : ZR} {N : Nat} {z : ZZ} {v1 : Int} (hN : 151 ≤ N ∧ N < 999999) (hz : okz z) (rv1 : inR v1) {p : Int} (h : fX1_isClosed v1 z = some p) : X mX1_isClosed 0 (xEnt [.ref (3), .int (iN (v1))] (xL mX1_isClosed)) [] (zmk ln N z) (cc_b p) (6 * cc_b p) (Qd (fa_b p) (rs_b p) (st_b ln N z p)) := by
  have k : Fin_b (Qd (fa_b p) (rs_b p) (st_b ln N z p)) ln N z p := Fin_b_i
  unfold fX1_isClosed at h
  refine X_to (M := [some (.ref (3)), some (.int (iN (v1)))]) (su := []) rfl rfl ?_
  refine X_aload_n (pc' := 1) dX1_isClosed_0 rfl rfl ?_
  refine Y_get (pc' := 4) dX1_isClosed_1 rfl FX1_14 (zlN hN (by decide)) (congrArg Prod.fst (sh3 ln)) (ct3_0 z) ?_
  refine X_iload_n (pc' := 5) dX1_isClosed_4 rfl rfl ?_
  refine X_iconst (pc' := 6) dX1_isClosed_5 rfl ?_
  obtain ⟨r1, q1, h⟩ := bs h
  refine Y_callV [.int (iN (v1)), .int (iN (3))] (pc' := 9) dX1_isClosed_6 rfl VX1_73 (by decide) (zlN hN (by decide)) (congrArg Prod.fst (sh4 ln)) rfl rfl rfl (cs rfl) (cs rfl) rfl (CX4_get hN hz kT4 rv1 (inR_c (n := 3) rfl) q1) (Nat.zero_add _).symm (Nat.zero_add _).symm (fun f1 => ?_)
  refine X_aload_n (pc' := 10) dX1_isClosed_9 rfl rfl ?_
  refine Y_get (pc' := 13) dX1_isClosed_10 rfl FX1_35 (zlN hN (by decide)) (congrArg Prod.fst (sh3 ln)) (ct3_7 z) ?_
  refine X_icmp_ne dX1_isClosed_13 (tgt := 20) rfl (pc' := 16) rfl ⟨f1.1, f1.2, (hz 3 7 (by decide)).1, (hz 3 7 (by decide)).2⟩ (fun c2 => ?_) (fun c2 => ?_)
  · have h := if_f c2 h
    refine X_iconst (pc' := 21) dX1_isClosed_20 rfl ?_
    cases h
    exact X_zret dX1_isClosed_21 rfl (Or.inl rfl) (k (Or.inl rfl))
  have h := if_t c2 h
  refine X_iconst (pc' := 17) dX1_isClosed_16 rfl ?_
  refine X_goto dX1_isClosed_17 (tgt := 21) rfl ?_
  cases h
  exact X_zret dX1_isClosed_21 rfl (Or.inr rfl) (k (Or.inr rfl))
def fX1_resetWall_b51 (v1 : Int) (v2 : Int) (v3 : Int) (v4 : Int) (v5 : Int) (z : ZZ) : Option ((Int × Int × Int × ZZ) ⊕ (Int × ZZ)) := (if inR ((v5 + 1)) then some (.inl (v2, v3, (v5 + 1), z)) else none)
set_option maxRecDepth 100000 in
theorem BX1_resetWall_51 {ln : ZR} {N : Nat} {z : ZZ} {v1 : Int} {v2 : Int} {v3 : Int} {v4 : Int} {v5 : Int} {c9 s9 : Nat} {Φ : xRes → xS → Prop} (hN : 151 ≤ N ∧ N < 999999) (hz : okz z) (rv1 : inR v1) (rv2 : inR v2) (rv3 : inR v3) (rv4 : inR v4) (rv5 : inR v5) {p : (Int × Int × Int × ZZ) ⊕ (Int × ZZ)} (h : fX1_resetWall_b51 v1 v2 v3 v4 v5 z = some p) (k1 : ∀ (v2' : Int) (v3' : Int) (v5' : Int) (z' : ZZ), p = .inl (v2', v3', v5', z') → inR v2' → inR v3' → inR v5' → okz z' → X mX1_resetWall 16 [some (.ref (3)), some (.int (iN (v1))), some (.int (iN (v2'))), some (.int (iN (v3'))), some (.int (iN (v4))), some (.int (iN (v5')))] [] (zmk ln N z') c9 s9 Φ) (k2 : ∀ (v2' : Int) (z' : ZZ), p = .inr (v2', z') → inR v2' → okz z' → X mX1_resetWall 57 [some (.ref (3)), some (.int (iN (v1))), some (.int (iN (v2'))), none, none, none] [] (zmk ln N z') c9 s9 Φ) : X mX1_resetWall 51 [some (.ref (3)), some (.int (iN (v1))), some (.int (iN (v2))), some (.int (iN (v3))), some (.int (iN (v4))), some (.int (iN (v5)))] [] (zmk ln N z) c9 s9 Φ := by
  unfold fX1_resetWall_b51 at h
  refine X_iinc (pc' := 54) dX1_resetWall_51 rfl rfl (Or.inr rfl) (L' := [some (.ref (3)), some (.int (iN (v1))), some (.int (iN (v2))), some (.int (iN (v3))), some (.int (iN (v4))), some (.int (iN (v5 + 1)))]) rfl ?_
  refine X_goto dX1_resetWall_54 (tgt := 16) rfl ?_
  obtain ⟨g1, h⟩ := gs h
  cases h
  exact X_sub (sub_s (sub_s (sub_s (sub_s (sub_s (sub_s sub_0)))))) (k1 _ _ _ _ rfl rv2 rv3 g1 hz)
def fX1_resetWall_s16 (v1 : Int) (v4 : Int) (v2 : Int) (v3 : Int) (v5 : Int) (z : ZZ) : Option ((Int × Int × Int × ZZ) ⊕ (Int × ZZ)) := (if (v5) < (v4) then (Option.bind (fX4_get 6 (v3) (0) z) fun r2 => (if (r2) = (v1) then (Option.bind (fX1_archiveRoute (v3) z) fun q5 => match q5 with | (r5, z5) => (if inR ((v2 + 1)) then fX1_resetWall_b51 (v1) ((v2 + 1)) (v3) (v4) (v5) z5 else none)) else (if inR ((v3 + 1)) then fX1_resetWall_b51 (v1) (v2) ((v3 + 1)) (v4) (v5) z else none))) else some (.inr (v2, z)))
set_option maxRecDepth 100000 in
theorem SX1_resetWall_16 {ln : ZR} {N : Nat} {z : ZZ} {v1 : Int} {v4 : Int} {v2 : Int} {v3 : Int} {v5 : Int} {c9 s9 : Nat} {Φ : xRes → xS → Prop} (hN : 151 ≤ N ∧ N < 999999) (hz : okz z) (rv1 : inR v1) (rv4 : inR v4) (rv2 : inR v2) (rv3 : inR v3) (rv5 : inR v5) {p : (Int × Int × Int × ZZ) ⊕ (Int × ZZ)} (h : fX1_resetWall_s16 v1 v4 v2 v3 v5 z = some p) (k1 : ∀ (v2' : Int) (v3' : Int) (v5' : Int) (z' : ZZ), p = .inl (v2', v3', v5', z') → inR v2' → inR v3' → inR v5' → okz z' → X mX1_resetWall 16 [some (.ref (3)), some (.int (iN (v1))), some (.int (iN (v2'))), some (.int (iN (v3'))), some (.int (iN (v4))), some (.int (iN (v5')))] [] (zmk ln N z') c9 s9 Φ) (k2 : ∀ (v2' : Int) (z' : ZZ), p = .inr (v2', z') → inR v2' → okz z' → X mX1_resetWall 57 [some (.ref (3)), some (.int (iN (v1))), some (.int (iN (v2'))), none, none, none] [] (zmk ln N z') c9 s9 Φ) : X mX1_resetWall 16 [some (.ref (3)), some (.int (iN (v1))), some (.int (iN (v2))), some (.int (iN (v3))), some (.int (iN (v4))), some (.int (iN (v5)))] [] (zmk ln N z) c9 s9 Φ := by
  unfold fX1_resetWall_s16 at h
  refine X_iload (pc' := 18) dX1_resetWall_16 rfl rfl ?_
  refine X_iload (pc' := 20) dX1_resetWall_18 rfl rfl ?_
  refine X_icmp_ge dX1_resetWall_20 (tgt := 57) rfl (pc' := 23) rfl ⟨rv5.1, rv5.2, rv4.1, rv4.2⟩ (fun c1 => ?_) (fun c1 => ?_)
  · have h := if_f (Int.not_lt.mpr c1) h
    cases h
    exact X_sub (sub_s (sub_s (sub_s (sub_n (sub_n (sub_n sub_0)))))) (k2 _ _ rfl rv2 hz)
  have h := if_t c1 h
  refine X_aload_n (pc' := 24) dX1_resetWall_23 rfl rfl ?_
  refine Y_get (pc' := 27) dX1_resetWall_24 rfl FX1_20 (zlN hN (by decide)) (congrArg Prod.fst (sh3 ln)) (ct3_1 z) ?_
  refine X_iload_n (pc' := 28) dX1_resetWall_27 rfl rfl ?_
  refine X_iconst (pc' := 29) dX1_resetWall_28 rfl ?_
  obtain ⟨r2, q2, h⟩ := bs h
  refine Y_callV [.int (iN (v3)), .int (iN (0))] (pc' := 32) dX1_resetWall_29 rfl VX1_73 (by decide) (zlN hN (by decide)) (congrArg Prod.fst (sh6 ln)) rfl rfl rfl (cs rfl) (cs rfl) rfl (CX4_get hN hz kT6 rv3 (inR_c (n := 0) rfl) q2) (Nat.zero_add _).symm (Nat.zero_add _).symm (fun f2 => ?_)
  refine X_iload_n (pc' := 33) dX1_resetWall_32 rfl rfl ?_
  refine X_icmp_ne dX1_resetWall_33 (tgt := 48) rfl (pc' := 36) rfl ⟨f2.1, f2.2, rv1.1, rv1.2⟩ (fun c3 => ?_) (fun c3 => ?_)
  · have h := if_f c3 h
    refine X_iinc (pc' := 51) dX1_resetWall_48 rfl rfl (Or.inr rfl) (L' := [some (.ref (3)), some (.int (iN (v1))), some (.int (iN (v2))), some (.int (iN (v3 + 1))), some (.int (iN (v4))), some (.int (iN (v5)))]) rfl ?_
    obtain ⟨g4, h⟩ := gs h
    exact X_sub (sub_s (sub_s (sub_s (sub_s (sub_s (sub_s sub_0)))))) (BX1_resetWall_51 hN hz rv1 rv2 g4 rv4 rv5 h k1 k2)
  have h := if_t c3 h
  refine X_aload_n (pc' := 37) dX1_resetWall_36 rfl rfl ?_
  refine X_iload_n (pc' := 38) dX1_resetWall_37 rfl rfl ?_
  obtain ⟨⟨r5, z5⟩, q5, h⟩ := bs h
  refine Y_callV [.int (iN (v3))] (pc' := 41) dX1_resetWall_38 rfl VX1_182 (by decide) (zlN hN (by decide)) (congrArg Prod.fst (sh3 ln)) rfl rfl rfl (cs rfl) (cs rfl) rfl (CX1_archiveRoute hN hz rv3 q5) (Nat.zero_add _).symm (Nat.zero_add _).symm (fun f5 => ?_)
  refine X_pop (pc' := 42) dX1_resetWall_41 rfl rfl ?_
  refine X_iinc (pc' := 45) dX1_resetWall_42 rfl rfl (Or.inr rfl) (L' := [some (.ref (3)), some (.int (iN (v1))), some (.int (iN (v2 + 1))), some (.int (iN (v3))), some (.int (iN (v4))), some (.int (iN (v5)))]) rfl ?_
  refine X_goto dX1_resetWall_45 (tgt := 51) rfl ?_
  obtain ⟨g6, h⟩ := gs h
  exact X_sub (sub_s (sub_s (sub_s (sub_s (sub_s (sub_s sub_0)))))) (BX1_resetWall_51 hN f5.2 rv1 g6 rv3 rv4 rv5 h k1 k2)
theorem LX1_resetWall_16 {ln : ZR} {N : Nat} {v1 : Int} {v4 : Int} {c9 s9 : Nat} {Φ : xRes → xS → Prop} (hN : 151 ≤ N ∧ N < 999999) (rv1 : inR v1) (rv4 : inR v4) {r : Int × ZZ} (k2 : ∀ (v2' : Int) (z' : ZZ), r = (v2', z') → inR v2' → okz z' → X mX1_resetWall 57 [some (.ref (3)), some (.int (iN (v1))), some (.int (iN (v2'))), none, none, none] [] (zmk ln N z') c9 s9 Φ) : ∀ (n : Nat) (v2 : Int) (v3 : Int) (v5 : Int) (z : ZZ), inR v2 → inR v3 → inR v5 → okz z → zlp (fun q => fX1_resetWall_s16 v1 v4 q.1 q.2.1 q.2.2.1 q.2.2.2) n (v2, v3, v5, z) = some r → X mX1_resetWall 16 [some (.ref (3)), some (.int (iN (v1))), some (.int (iN (v2))), some (.int (iN (v3))), some (.int (iN (v4))), some (.int (iN (v5)))] [] (zmk ln N z) c9 s9 Φ := by
  intro n
  induction n with
  | zero => intro v2 v3 v5 z rv2 rv3 rv5 hz h; cases h
  | succ n ih =>
    intro v2 v3 v5 z rv2 rv3 rv5 hz h
    rcases zlp_s h with ⟨⟨v2', v3', v5', z'⟩, e, h'⟩ | e
    · exact SX1_resetWall_16 hN hz rv1 rv4 rv2 rv3 rv5 e (fun v2₁ v3₁ v5₁ z₁ hh f0 f1 f2 f3 => by cases hh; exact ih _ _ _ _ f0 f1 f2 f3 h') (fun v2₁ z₁ hh f0 f1 => by cases hh)
    · exact SX1_resetWall_16 hN hz rv1 rv4 rv2 rv3 rv5 e (fun v2₁ v3₁ v5₁ z₁ hh f0 f1 f2 f3 => by cases hh) (fun v2₁ z₁ hh f0 f1 => by cases hh; exact k2 _ _ rfl f0 f1)
def fX1_resetWall (v1 : Int) (z : ZZ) : Option (Int × ZZ) := (Option.bind (zlp (fun q => fX1_resetWall_s16 (v1) ((z 6 3)) q.1 q.2.1 q.2.2.1 q.2.2.2) FU (0, 0, 0, z)) fun q1 => match q1 with | (x1_v2, x1_z) => (Option.bind (fX4_get 4 (v1) (2) x1_z) fun r2 => (if inR (((x1_z 3 7) + r2)) then (Option.bind (fX4_set 4 (v1) (3) (((x1_z 3 7) + r2)) x1_z) fun z4 => some (x1_v2, z4)) else none)))
set_option maxRecDepth 100000 in
theorem CX1_resetWall {ln : ZR} {N : Nat} {z : ZZ} {v1 : Int} (hN : 151 ≤ N ∧ N < 999999) (hz : okz z) (rv1 : inR v1) {p : Int × ZZ} (h : fX1_resetWall v1 z = some p) : X mX1_resetWall 0 (xEnt [.ref (3), .int (iN (v1))] (xL mX1_resetWall)) [] (zmk ln N z) (cc_wi p) (6 * cc_wi p) (Qd (fa_wi p) (rs_wi p) (st_wi ln N p)) := by
  have k : Fin_wi (Qd (fa_wi p) (rs_wi p) (st_wi ln N p)) ln N p := Fin_wi_i
  unfold fX1_resetWall at h
  refine X_to (M := [some (.ref (3)), some (.int (iN (v1))), none, none, none, none]) (su := []) rfl rfl ?_
  refine X_iconst (pc' := 1) dX1_resetWall_0 rfl ?_
  refine X_istore_n (pc' := 2) dX1_resetWall_1 rfl (cl rfl) (Or.inr rfl) (L' := [some (.ref (3)), some (.int (iN (v1))), some (.int (iN (0))), none, none, none]) rfl ?_
  refine X_iconst (pc' := 3) dX1_resetWall_2 rfl ?_
  refine X_istore_n (pc' := 4) dX1_resetWall_3 rfl (cl rfl) (Or.inr rfl) (L' := [some (.ref (3)), some (.int (iN (v1))), some (.int (iN (0))), some (.int (iN (0))), none, none]) rfl ?_
  refine X_aload_n (pc' := 5) dX1_resetWall_4 rfl rfl ?_
  refine Y_get (pc' := 8) dX1_resetWall_5 rfl FX1_20 (zlN hN (by decide)) (congrArg Prod.fst (sh3 ln)) (ct3_1 z) ?_
  refine Y_get (pc' := 11) dX1_resetWall_8 rfl FX1_70 (zlN hN (by decide)) (congrArg Prod.fst (sh6 ln)) (ct6_3 z) ?_
  refine X_istore (pc' := 13) dX1_resetWall_11 rfl (cl rfl) (Or.inr rfl) (L' := [some (.ref (3)), some (.int (iN (v1))), some (.int (iN (0))), some (.int (iN (0))), some (.int (iN ((z 6 3)))), none]) rfl ?_
  refine X_iconst (pc' := 14) dX1_resetWall_13 rfl ?_
  refine X_istore (pc' := 16) dX1_resetWall_14 rfl (cl rfl) (Or.inr rfl) (L' := [some (.ref (3)), some (.int (iN (v1))), some (.int (iN (0))), some (.int (iN (0))), some (.int (iN ((z 6 3)))), some (.int (iN (0)))]) rfl ?_
  obtain ⟨⟨x1_v2, x1_z⟩, q1, h⟩ := bs h
  refine X_sub (sub_s (sub_s (sub_s (sub_s (sub_s (sub_s sub_0)))))) (LX1_resetWall_16 hN rv1 (hz 6 3 (by decide)) (fun x1_v2₁ x1_z₁ hh rx1_v2 hx1_z => ?_) FU _ _ _ _ (inR_c (n := 0) rfl) (inR_c (n := 0) rfl) (inR_c (n := 0) rfl) hz q1)
  cases hh
  refine X_aload_n (pc' := 58) dX1_resetWall_57 rfl rfl ?_
  refine Y_get (pc' := 61) dX1_resetWall_58 rfl FX1_14 (zlN hN (by decide)) (congrArg Prod.fst (sh3 ln)) (ct3_0 x1_z) ?_
  refine X_iload_n (pc' := 62) dX1_resetWall_61 rfl rfl ?_
  refine X_iconst (pc' := 63) dX1_resetWall_62 rfl ?_
  refine X_aload_n (pc' := 64) dX1_resetWall_63 rfl rfl ?_
  refine Y_get (pc' := 67) dX1_resetWall_64 rfl FX1_35 (zlN hN (by decide)) (congrArg Prod.fst (sh3 ln)) (ct3_7 x1_z) ?_
  refine X_aload_n (pc' := 68) dX1_resetWall_67 rfl rfl ?_
  refine Y_get (pc' := 71) dX1_resetWall_68 rfl FX1_14 (zlN hN (by decide)) (congrArg Prod.fst (sh3 ln)) (ct3_0 x1_z) ?_
  refine X_iload_n (pc' := 72) dX1_resetWall_71 rfl rfl ?_
  refine X_iconst (pc' := 73) dX1_resetWall_72 rfl ?_
  obtain ⟨r2, q2, h⟩ := bs h
  refine Y_callV [.int (iN (v1)), .int (iN (2))] (pc' := 76) dX1_resetWall_73 rfl VX1_73 (by decide) (zlN hN (by decide)) (congrArg Prod.fst (sh4 ln)) rfl rfl rfl (cs rfl) (cs rfl) rfl (CX4_get hN hx1_z kT4 rv1 (inR_c (n := 2) rfl) q2) (Nat.zero_add _).symm (Nat.zero_add _).symm (fun f2 => ?_)
  refine X_iadd (pc' := 77) dX1_resetWall_76 rfl ?_
  obtain ⟨g3, h⟩ := gs h
  obtain ⟨z4, q4, h⟩ := bs h
  refine Y_callVv [.int (iN (v1)), .int (iN (3)), .int (iN (((x1_z 3 7) + r2)))] (pc' := 80) dX1_resetWall_77 rfl VX1_67 (by decide) (zlN hN (by decide)) (congrArg Prod.fst (sh4 ln)) rfl rfl rfl (cs rfl) (cs rfl) rfl (CX4_set hN hx1_z kT4 rv1 (inR_c (n := 3) rfl) g3 q4) (Nat.zero_add _).symm (Nat.zero_add _).symm (fun f4 => ?_)
  refine X_iload_n (pc' := 81) dX1_resetWall_80 rfl rfl ?_
  cases h
  exact X_iret dX1_resetWall_81 rfl (k ⟨rx1_v2, f4⟩)
def fX1_harnessOf (v1 : Int) (z : ZZ) : Option (Int) := (Option.bind (fX4_get 12 (v1) (3) z) fun r1 => some (r1))
set_option maxRecDepth 100000 in
theorem CX1_harnessOf {ln : ZR} {N : Nat} {z : ZZ} {v1 : Int} (hN : 151 ≤ N ∧ N < 999999) (hz : okz z) (rv1 : inR v1) {p : Int} (h : fX1_harnessOf v1 z = some p) : X mX1_harnessOf 0 (xEnt [.ref (3), .int (iN (v1))] (xL mX1_harnessOf)) [] (zmk ln N z) (cc_r p) (6 * cc_r p) (Qd (fa_r p) (rs_r p) (st_r ln N z p)) := by
  have k : Fin_r (Qd (fa_r p) (rs_r p) (st_r ln N z p)) ln N z p := Fin_r_i
  unfold fX1_harnessOf at h
  refine X_to (M := [some (.ref (3)), some (.int (iN (v1)))]) (su := []) rfl rfl ?_
  refine X_aload_n (pc' := 1) dX1_harnessOf_0 rfl rfl ?_
  refine Y_get (pc' := 4) dX1_harnessOf_1 rfl FX1_29 (zlN hN (by decide)) (congrArg Prod.fst (sh3 ln)) (ct3_4 z) ?_
  refine X_iload_n (pc' := 5) dX1_harnessOf_4 rfl rfl ?_
  refine X_iconst (pc' := 6) dX1_harnessOf_5 rfl ?_
  obtain ⟨r1, q1, h⟩ := bs h
  refine Y_callV [.int (iN (v1)), .int (iN (3))] (pc' := 9) dX1_harnessOf_6 rfl VX1_73 (by decide) (zlN hN (by decide)) (congrArg Prod.fst (sh12 ln)) rfl rfl rfl (cs rfl) (cs rfl) rfl (CX4_get hN hz kT12 rv1 (inR_c (n := 3) rfl) q1) (Nat.zero_add _).symm (Nat.zero_add _).symm (fun f1 => ?_)
  cases h
  exact X_iret dX1_harnessOf_9 rfl (k f1)
def fX1_endDay_b31 (v1 : Int) (v2 : Int) (z : ZZ) : Option ((Int × Int × ZZ) ⊕ (Int × ZZ)) := (if inR ((v2 + 1)) then some (.inl (v1, (v2 + 1), z)) else none)
set_option maxRecDepth 100000 in
theorem BX1_endDay_31 {ln : ZR} {N : Nat} {z : ZZ} {v1 : Int} {v2 : Int} {c9 s9 : Nat} {Φ : xRes → xS → Prop} (hN : 151 ≤ N ∧ N < 999999) (hz : okz z) (rv1 : inR v1) (rv2 : inR v2) {p : (Int × Int × ZZ) ⊕ (Int × ZZ)} (h : fX1_endDay_b31 v1 v2 z = some p) (k1 : ∀ (v1' : Int) (v2' : Int) (z' : ZZ), p = .inl (v1', v2', z') → inR v1' → inR v2' → okz z' → X mX1_endDay 4 [some (.ref (3)), some (.int (iN (v1'))), some (.int (iN (v2')))] [] (zmk ln N z') c9 s9 Φ) (k2 : ∀ (v1' : Int) (z' : ZZ), p = .inr (v1', z') → inR v1' → okz z' → X mX1_endDay 37 [some (.ref (3)), some (.int (iN (v1'))), none] [] (zmk ln N z') c9 s9 Φ) : X mX1_endDay 31 [some (.ref (3)), some (.int (iN (v1))), some (.int (iN (v2)))] [] (zmk ln N z) c9 s9 Φ := by
  unfold fX1_endDay_b31 at h
  refine X_iinc (pc' := 34) dX1_endDay_31 rfl rfl (Or.inr rfl) (L' := [some (.ref (3)), some (.int (iN (v1))), some (.int (iN (v2 + 1)))]) rfl ?_
  refine X_goto dX1_endDay_34 (tgt := 4) rfl ?_
  obtain ⟨g1, h⟩ := gs h
  cases h
  exact X_sub (sub_s (sub_s (sub_s sub_0))) (k1 _ _ _ rfl rv1 g1 hz)
def fX1_endDay_s4 (v1 : Int) (v2 : Int) (z : ZZ) : Option ((Int × Int × ZZ) ⊕ (Int × ZZ)) := (if (v2) < ((z 4 3)) then (Option.bind (fX1_isClosed (v2) z) fun r2 => (if (r2) = (0) then fX1_endDay_b31 (v1) (v2) z else (Option.bind (fX1_resetWall (v2) z) fun q4 => match q4 with | (r4, z4) => (if inR ((v1 + r4)) then fX1_endDay_b31 ((v1 + r4)) (v2) z4 else none)))) else some (.inr (v1, z)))
set_option maxRecDepth 100000 in
theorem SX1_endDay_4 {ln : ZR} {N : Nat} {z : ZZ} {v1 : Int} {v2 : Int} {c9 s9 : Nat} {Φ : xRes → xS → Prop} (hN : 151 ≤ N ∧ N < 999999) (hz : okz z) (rv1 : inR v1) (rv2 : inR v2) {p : (Int × Int × ZZ) ⊕ (Int × ZZ)} (h : fX1_endDay_s4 v1 v2 z = some p) (k1 : ∀ (v1' : Int) (v2' : Int) (z' : ZZ), p = .inl (v1', v2', z') → inR v1' → inR v2' → okz z' → X mX1_endDay 4 [some (.ref (3)), some (.int (iN (v1'))), some (.int (iN (v2')))] [] (zmk ln N z') c9 s9 Φ) (k2 : ∀ (v1' : Int) (z' : ZZ), p = .inr (v1', z') → inR v1' → okz z' → X mX1_endDay 37 [some (.ref (3)), some (.int (iN (v1'))), none] [] (zmk ln N z') c9 s9 Φ) : X mX1_endDay 4 [some (.ref (3)), some (.int (iN (v1))), some (.int (iN (v2)))] [] (zmk ln N z) c9 s9 Φ := by
  unfold fX1_endDay_s4 at h
  refine X_iload_n (pc' := 5) dX1_endDay_4 rfl rfl ?_
  refine X_aload_n (pc' := 6) dX1_endDay_5 rfl rfl ?_
  refine Y_get (pc' := 9) dX1_endDay_6 rfl FX1_14 (zlN hN (by decide)) (congrArg Prod.fst (sh3 ln)) (ct3_0 z) ?_
  refine Y_get (pc' := 12) dX1_endDay_9 rfl FX1_70 (zlN hN (by decide)) (congrArg Prod.fst (sh4 ln)) (ct4_3 z) ?_
  refine X_icmp_ge dX1_endDay_12 (tgt := 37) rfl (pc' := 15) rfl ⟨rv2.1, rv2.2, (hz 4 3 (by decide)).1, (hz 4 3 (by decide)).2⟩ (fun c1 => ?_) (fun c1 => ?_)
  · have h := if_f (Int.not_lt.mpr c1) h
    cases h
    exact X_sub (sub_s (sub_s (sub_n sub_0))) (k2 _ _ rfl rv1 hz)
  have h := if_t c1 h
  refine X_aload_n (pc' := 16) dX1_endDay_15 rfl rfl ?_
  refine X_iload_n (pc' := 17) dX1_endDay_16 rfl rfl ?_
  obtain ⟨r2, q2, h⟩ := bs h
  refine Y_callV [.int (iN (v2))] (pc' := 20) dX1_endDay_17 rfl VX1_92 (by decide) (zlN hN (by decide)) (congrArg Prod.fst (sh3 ln)) rfl rfl rfl (cs rfl) (cs rfl) rfl (CX1_isClosed hN hz rv2 q2) (Nat.zero_add _).symm (Nat.zero_add _).symm (fun f2 => ?_)
  refine X_if_eq dX1_endDay_20 (tgt := 31) rfl (pc' := 23) rfl (inR_b f2) (fun c3 => ?_) (fun c3 => ?_)
  · have h := if_t c3 h
    exact X_sub (sub_s (sub_s (sub_s sub_0))) (BX1_endDay_31 hN hz rv1 rv2 h k1 k2)
  have h := if_f c3 h
  refine X_iload_n (pc' := 24) dX1_endDay_23 rfl rfl ?_
  refine X_aload_n (pc' := 25) dX1_endDay_24 rfl rfl ?_
  refine X_iload_n (pc' := 26) dX1_endDay_25 rfl rfl ?_
  obtain ⟨⟨r4, z4⟩, q4, h⟩ := bs h
  refine Y_callV [.int (iN (v2))] (pc' := 29) dX1_endDay_26 rfl VX1_185 (by decide) (zlN hN (by decide)) (congrArg Prod.fst (sh3 ln)) rfl rfl rfl (cs rfl) (cs rfl) rfl (CX1_resetWall hN hz rv2 q4) (Nat.zero_add _).symm (Nat.zero_add _).symm (fun f4 => ?_)
  refine X_iadd (pc' := 30) dX1_endDay_29 rfl ?_
  refine X_istore_n (pc' := 31) dX1_endDay_30 rfl (cl rfl) (Or.inr rfl) (L' := [some (.ref (3)), some (.int (iN ((v1 + r4)))), some (.int (iN (v2)))]) rfl ?_
  obtain ⟨g5, h⟩ := gs h
  exact X_sub (sub_s (sub_s (sub_s sub_0))) (BX1_endDay_31 hN f4.2 g5 rv2 h k1 k2)
theorem LX1_endDay_4 {ln : ZR} {N : Nat} {c9 s9 : Nat} {Φ : xRes → xS → Prop} (hN : 151 ≤ N ∧ N < 999999) {r : Int × ZZ} (k2 : ∀ (v1' : Int) (z' : ZZ), r = (v1', z') → inR v1' → okz z' → X mX1_endDay 37 [some (.ref (3)), some (.int (iN (v1'))), none] [] (zmk ln N z') c9 s9 Φ) : ∀ (n : Nat) (v1 : Int) (v2 : Int) (z : ZZ), inR v1 → inR v2 → okz z → zlp (fun q => fX1_endDay_s4 q.1 q.2.1 q.2.2) n (v1, v2, z) = some r → X mX1_endDay 4 [some (.ref (3)), some (.int (iN (v1))), some (.int (iN (v2)))] [] (zmk ln N z) c9 s9 Φ := by
  intro n
  induction n with
  | zero => intro v1 v2 z rv1 rv2 hz h; cases h
  | succ n ih =>
    intro v1 v2 z rv1 rv2 hz h
    rcases zlp_s h with ⟨⟨v1', v2', z'⟩, e, h'⟩ | e
    · exact SX1_endDay_4 hN hz rv1 rv2 e (fun v1₁ v2₁ z₁ hh f0 f1 f2 => by cases hh; exact ih _ _ _ f0 f1 f2 h') (fun v1₁ z₁ hh f0 f1 => by cases hh)
    · exact SX1_endDay_4 hN hz rv1 rv2 e (fun v1₁ v2₁ z₁ hh f0 f1 f2 => by cases hh) (fun v1₁ z₁ hh f0 f1 => by cases hh; exact k2 _ _ rfl f0 f1)
def fX1_endDay_b69 (v1 : Int) (v2 : Int) (z : ZZ) : Option ((Int × ZZ) ⊕ (ZZ)) := (if inR ((v2 + 1)) then some (.inl ((v2 + 1), z)) else none)
set_option maxRecDepth 100000 in
theorem BX1_endDay_69 {ln : ZR} {N : Nat} {z : ZZ} {v1 : Int} {v2 : Int} {c9 s9 : Nat} {Φ : xRes → xS → Prop} (hN : 151 ≤ N ∧ N < 999999) (hz : okz z) (rv1 : inR v1) (rv2 : inR v2) {p : (Int × ZZ) ⊕ (ZZ)} (h : fX1_endDay_b69 v1 v2 z = some p) (k1 : ∀ (v2' : Int) (z' : ZZ), p = .inl (v2', z') → inR v2' → okz z' → X mX1_endDay 39 [some (.ref (3)), some (.int (iN (v1))), some (.int (iN (v2')))] [] (zmk ln N z') c9 s9 Φ) (k2 : ∀ (z' : ZZ), p = .inr z' → okz z' → X mX1_endDay 75 [some (.ref (3)), some (.int (iN (v1))), none] [] (zmk ln N z') c9 s9 Φ) : X mX1_endDay 69 [some (.ref (3)), some (.int (iN (v1))), some (.int (iN (v2)))] [] (zmk ln N z) c9 s9 Φ := by
  unfold fX1_endDay_b69 at h
  refine X_iinc (pc' := 72) dX1_endDay_69 rfl rfl (Or.inr rfl) (L' := [some (.ref (3)), some (.int (iN (v1))), some (.int (iN (v2 + 1)))]) rfl ?_
  refine X_goto dX1_endDay_72 (tgt := 39) rfl ?_
  obtain ⟨g1, h⟩ := gs h
  cases h
  exact X_sub (sub_s (sub_s (sub_s sub_0))) (k1 _ _ rfl g1 hz)
def fX1_endDay_s39 (v1 : Int) (v2 : Int) (z : ZZ) : Option ((Int × ZZ) ⊕ (ZZ)) := (if (v2) < ((z 12 3)) then (Option.bind (fX1_harnessOf (v2) z) fun r2 => (if (r2) = ((-1)) then fX1_endDay_b69 (v1) (v2) z else (Option.bind (fX4_add 12 (v2) (5) (1) z) fun z4 => fX1_endDay_b69 (v1) (v2) z4))) else some (.inr z))
set_option maxRecDepth 100000 in
theorem SX1_endDay_39 {ln : ZR} {N : Nat} {z : ZZ} {v1 : Int} {v2 : Int} {c9 s9 : Nat} {Φ : xRes → xS → Prop} (hN : 151 ≤ N ∧ N < 999999) (hz : okz z) (rv1 : inR v1) (rv2 : inR v2) {p : (Int × ZZ) ⊕ (ZZ)} (h : fX1_endDay_s39 v1 v2 z = some p) (k1 : ∀ (v2' : Int) (z' : ZZ), p = .inl (v2', z') → inR v2' → okz z' → X mX1_endDay 39 [some (.ref (3)), some (.int (iN (v1))), some (.int (iN (v2')))] [] (zmk ln N z') c9 s9 Φ) (k2 : ∀ (z' : ZZ), p = .inr z' → okz z' → X mX1_endDay 75 [some (.ref (3)), some (.int (iN (v1))), none] [] (zmk ln N z') c9 s9 Φ) : X mX1_endDay 39 [some (.ref (3)), some (.int (iN (v1))), some (.int (iN (v2)))] [] (zmk ln N z) c9 s9 Φ := by
  unfold fX1_endDay_s39 at h
  refine X_iload_n (pc' := 40) dX1_endDay_39 rfl rfl ?_
  refine X_aload_n (pc' := 41) dX1_endDay_40 rfl rfl ?_
  refine Y_get (pc' := 44) dX1_endDay_41 rfl FX1_29 (zlN hN (by decide)) (congrArg Prod.fst (sh3 ln)) (ct3_4 z) ?_
  refine Y_get (pc' := 47) dX1_endDay_44 rfl FX1_70 (zlN hN (by decide)) (congrArg Prod.fst (sh12 ln)) (ct12_3 z) ?_
  refine X_icmp_ge dX1_endDay_47 (tgt := 75) rfl (pc' := 50) rfl ⟨rv2.1, rv2.2, (hz 12 3 (by decide)).1, (hz 12 3 (by decide)).2⟩ (fun c1 => ?_) (fun c1 => ?_)
  · have h := if_f (Int.not_lt.mpr c1) h
    cases h
    exact X_sub (sub_s (sub_s (sub_n sub_0))) (k2 _ rfl hz)
  have h := if_t c1 h
  refine X_aload_n (pc' := 51) dX1_endDay_50 rfl rfl ?_
  refine X_iload_n (pc' := 52) dX1_endDay_51 rfl rfl ?_
  obtain ⟨r2, q2, h⟩ := bs h
  refine Y_callV [.int (iN (v2))] (pc' := 55) dX1_endDay_52 rfl VX1_89 (by decide) (zlN hN (by decide)) (congrArg Prod.fst (sh3 ln)) rfl rfl rfl (cs rfl) (cs rfl) rfl (CX1_harnessOf hN hz rv2 q2) (Nat.zero_add _).symm (Nat.zero_add _).symm (fun f2 => ?_)
  refine X_iconst (pc' := 56) dX1_endDay_55 rfl ?_
  refine X_icmp_eq dX1_endDay_56 (tgt := 69) rfl (pc' := 59) rfl ⟨f2.1, f2.2, (inR_c (n := (-1)) rfl).1, (inR_c (n := (-1)) rfl).2⟩ (fun c3 => ?_) (fun c3 => ?_)
  · have h := if_t c3 h
    exact X_sub (sub_s (sub_s (sub_s sub_0))) (BX1_endDay_69 hN hz rv1 rv2 h k1 k2)
  have h := if_f c3 h
  refine X_aload_n (pc' := 60) dX1_endDay_59 rfl rfl ?_
  refine Y_get (pc' := 63) dX1_endDay_60 rfl FX1_29 (zlN hN (by decide)) (congrArg Prod.fst (sh3 ln)) (ct3_4 z) ?_
  refine X_iload_n (pc' := 64) dX1_endDay_63 rfl rfl ?_
  refine X_iconst (pc' := 65) dX1_endDay_64 rfl ?_
  refine X_iconst (pc' := 66) dX1_endDay_65 rfl ?_
  obtain ⟨z4, q4, h⟩ := bs h
  refine Y_callVv [.int (iN (v2)), .int (iN (5)), .int (iN (1))] (pc' := 69) dX1_endDay_66 rfl VX1_109 (by decide) (zlN hN (by decide)) (congrArg Prod.fst (sh12 ln)) rfl rfl rfl (cs rfl) (cs rfl) rfl (CX4_add hN hz kT12 rv2 (inR_c (n := 5) rfl) (inR_c (n := 1) rfl) q4) (Nat.zero_add _).symm (Nat.zero_add _).symm (fun f4 => ?_)
  exact X_sub (sub_s (sub_s (sub_s sub_0))) (BX1_endDay_69 hN f4 rv1 rv2 h k1 k2)
theorem LX1_endDay_39 {ln : ZR} {N : Nat} {v1 : Int} {c9 s9 : Nat} {Φ : xRes → xS → Prop} (hN : 151 ≤ N ∧ N < 999999) (rv1 : inR v1) {r : ZZ} (k2 : ∀ (z' : ZZ), r = z' → okz z' → X mX1_endDay 75 [some (.ref (3)), some (.int (iN (v1))), none] [] (zmk ln N z') c9 s9 Φ) : ∀ (n : Nat) (v2 : Int) (z : ZZ), inR v2 → okz z → zlp (fun q => fX1_endDay_s39 v1 q.1 q.2) n (v2, z) = some r → X mX1_endDay 39 [some (.ref (3)), some (.int (iN (v1))), some (.int (iN (v2)))] [] (zmk ln N z) c9 s9 Φ := by
  intro n
  induction n with
  | zero => intro v2 z rv2 hz h; cases h
  | succ n ih =>
    intro v2 z rv2 hz h
    rcases zlp_s h with ⟨⟨v2', z'⟩, e, h'⟩ | e
    · exact SX1_endDay_39 hN hz rv1 rv2 e (fun v2₁ z₁ hh f0 f1 => by cases hh; exact ih _ _ f0 f1 h') (fun z₁ hh f0 => by cases hh)
    · exact SX1_endDay_39 hN hz rv1 rv2 e (fun v2₁ z₁ hh f0 f1 => by cases hh) (fun z₁ hh f0 => by cases hh; exact k2 _ rfl f0)
def fX1_endDay (z : ZZ) : Option (Int × ZZ) := (Option.bind (zlp (fun q => fX1_endDay_s4 q.1 q.2.1 q.2.2) FU (0, 0, z)) fun q1 => match q1 with | (x1_v1, x1_z) => (Option.bind (zlp (fun q => fX1_endDay_s39 (x1_v1) q.1 q.2) FU (0, x1_z)) fun x2_z => (if inR (((x2_z 3 7) + 1)) then (zl (zup x2_z 3 7 (((x2_z 3 7) + 1))) fun z4 => some (x1_v1, z4)) else none)))
set_option maxRecDepth 100000 in
theorem CX1_endDay {ln : ZR} {N : Nat} {z : ZZ} (hN : 151 ≤ N ∧ N < 999999) (hz : okz z) {p : Int × ZZ} (h : fX1_endDay z = some p) : X mX1_endDay 0 (xEnt [.ref (3)] (xL mX1_endDay)) [] (zmk ln N z) (cc_wi p) (6 * cc_wi p) (Qd (fa_wi p) (rs_wi p) (st_wi ln N p)) := by
  have k : Fin_wi (Qd (fa_wi p) (rs_wi p) (st_wi ln N p)) ln N p := Fin_wi_i
  unfold fX1_endDay at h
  refine X_to (M := [some (.ref (3)), none, none]) (su := []) rfl rfl ?_
  refine X_iconst (pc' := 1) dX1_endDay_0 rfl ?_
  refine X_istore_n (pc' := 2) dX1_endDay_1 rfl (cl rfl) (Or.inr rfl) (L' := [some (.ref (3)), some (.int (iN (0))), none]) rfl ?_
  refine X_iconst (pc' := 3) dX1_endDay_2 rfl ?_
  refine X_istore_n (pc' := 4) dX1_endDay_3 rfl (cl rfl) (Or.inr rfl) (L' := [some (.ref (3)), some (.int (iN (0))), some (.int (iN (0)))]) rfl ?_
  obtain ⟨⟨x1_v1, x1_z⟩, q1, h⟩ := bs h
  refine X_sub (sub_s (sub_s (sub_s sub_0))) (LX1_endDay_4 hN (fun x1_v1₁ x1_z₁ hh rx1_v1 hx1_z => ?_) FU _ _ _ (inR_c (n := 0) rfl) (inR_c (n := 0) rfl) hz q1)
  cases hh
  refine X_iconst (pc' := 38) dX1_endDay_37 rfl ?_
  refine X_istore_n (pc' := 39) dX1_endDay_38 rfl (cl rfl) (Or.inr rfl) (L' := [some (.ref (3)), some (.int (iN (x1_v1))), some (.int (iN (0)))]) rfl ?_
  obtain ⟨x2_z, q2, h⟩ := bs h
  refine X_sub (sub_s (sub_s (sub_s sub_0))) (LX1_endDay_39 hN rx1_v1 (fun x2_z₁ hh hx2_z => ?_) FU _ _ (inR_c (n := 0) rfl) hx1_z q2)
  cases hh
  refine X_aload_n (pc' := 76) dX1_endDay_75 rfl rfl ?_
  refine X_dup (pc' := 77) dX1_endDay_76 rfl rfl ?_
  refine Y_get (pc' := 80) dX1_endDay_77 rfl FX1_35 (zlN hN (by decide)) (congrArg Prod.fst (sh3 ln)) (ct3_7 x2_z) ?_
  refine X_iconst (pc' := 81) dX1_endDay_80 rfl ?_
  refine X_iadd (pc' := 82) dX1_endDay_81 rfl ?_
  obtain ⟨g3, h⟩ := gs h
  refine Y_put (k := 7) (j := 7) (v := ((x2_z 3 7) + 1)) (pc' := 85) dX1_endDay_82 rfl FX1_35 (zlN hN (by decide)) (congrArg Prod.fst (sh3 ln)) (fun r hr => by cases hr; rfl) (xFit_int _) rfl rfl ?_
  obtain ⟨z4, e4, hz4, h⟩ := zl_some (P := okz) h (okz_up hx2_z g3)
  rw [e4]
  refine X_iload_n (pc' := 86) dX1_endDay_85 rfl rfl ?_
  cases h
  exact X_iret dX1_endDay_86 rfl (k ⟨rx1_v1, hz4⟩)
def fX1_hasClimbed (v1 : Int) (v2 : Int) (z : ZZ) : Option (Int) := (Option.bind (fX4_get 6 (v2) (5) z) fun r1 => (if ((zand (zushr r1 v1) 1)) = (1) then some (1) else some (0)))
set_option maxRecDepth 100000 in
theorem CX1_hasClimbed {ln : ZR} {N : Nat} {z : ZZ} {v1 : Int} {v2 : Int} (hN : 151 ≤ N ∧ N < 999999) (hz : okz z) (rv1 : inR v1) (rv2 : inR v2) {p : Int} (h : fX1_hasClimbed v1 v2 z = some p) : X mX1_hasClimbed 0 (xEnt [.ref (3), .int (iN (v1)), .int (iN (v2))] (xL mX1_hasClimbed)) [] (zmk ln N z) (cc_b p) (6 * cc_b p) (Qd (fa_b p) (rs_b p) (st_b ln N z p)) := by
  have k : Fin_b (Qd (fa_b p) (rs_b p) (st_b ln N z p)) ln N z p := Fin_b_i
  unfold fX1_hasClimbed at h
  refine X_to (M := [some (.ref (3)), some (.int (iN (v1))), some (.int (iN (v2)))]) (su := []) rfl rfl ?_
  refine X_aload_n (pc' := 1) dX1_hasClimbed_0 rfl rfl ?_
  refine Y_get (pc' := 4) dX1_hasClimbed_1 rfl FX1_20 (zlN hN (by decide)) (congrArg Prod.fst (sh3 ln)) (ct3_1 z) ?_
  refine X_iload_n (pc' := 5) dX1_hasClimbed_4 rfl rfl ?_
  refine X_iconst (pc' := 6) dX1_hasClimbed_5 rfl ?_
  obtain ⟨r1, q1, h⟩ := bs h
  refine Y_callV [.int (iN (v2)), .int (iN (5))] (pc' := 9) dX1_hasClimbed_6 rfl VX1_73 (by decide) (zlN hN (by decide)) (congrArg Prod.fst (sh6 ln)) rfl rfl rfl (cs rfl) (cs rfl) rfl (CX4_get hN hz kT6 rv2 (inR_c (n := 5) rfl) q1) (Nat.zero_add _).symm (Nat.zero_add _).symm (fun f1 => ?_)
  refine X_iload_n (pc' := 10) dX1_hasClimbed_9 rfl rfl ?_
  refine X_iushr (pc' := 11) dX1_hasClimbed_10 rfl ?_
  refine X_iconst (pc' := 12) dX1_hasClimbed_11 rfl ?_
  refine X_iand (pc' := 13) dX1_hasClimbed_12 rfl ?_
  refine X_iconst (pc' := 14) dX1_hasClimbed_13 rfl ?_
  refine X_icmp_ne dX1_hasClimbed_14 (tgt := 21) rfl (pc' := 17) rfl ⟨(inR_zand _ _).1, (inR_zand _ _).2, (inR_c (n := 1) rfl).1, (inR_c (n := 1) rfl).2⟩ (fun c2 => ?_) (fun c2 => ?_)
  · have h := if_f c2 h
    refine X_iconst (pc' := 22) dX1_hasClimbed_21 rfl ?_
    cases h
    exact X_zret dX1_hasClimbed_22 rfl (Or.inl rfl) (k (Or.inl rfl))
  have h := if_t c2 h
  refine X_iconst (pc' := 18) dX1_hasClimbed_17 rfl ?_
  refine X_goto dX1_hasClimbed_18 (tgt := 22) rfl ?_
  cases h
  exact X_zret dX1_hasClimbed_22 rfl (Or.inr rfl) (k (Or.inr rfl))
def fX1_isRetired (v1 : Int) (z : ZZ) : Option (Int) := (Option.bind (fX4_get 10 (v1) (3) z) fun r1 => (if (r1) = (0) then some (0) else some (1)))
set_option maxRecDepth 100000 in
theorem CX1_isRetired {ln : ZR} {N : Nat} {z : ZZ} {v1 : Int} (hN : 151 ≤ N ∧ N < 999999) (hz : okz z) (rv1 : inR v1) {p : Int} (h : fX1_isRetired v1 z = some p) : X mX1_isRetired 0 (xEnt [.ref (3), .int (iN (v1))] (xL mX1_isRetired)) [] (zmk ln N z) (cc_b p) (6 * cc_b p) (Qd (fa_b p) (rs_b p) (st_b ln N z p)) := by
  have k : Fin_b (Qd (fa_b p) (rs_b p) (st_b ln N z p)) ln N z p := Fin_b_i
  unfold fX1_isRetired at h
  refine X_to (M := [some (.ref (3)), some (.int (iN (v1)))]) (su := []) rfl rfl ?_
  refine X_aload_n (pc' := 1) dX1_isRetired_0 rfl rfl ?_
  refine Y_get (pc' := 4) dX1_isRetired_1 rfl FX1_26 (zlN hN (by decide)) (congrArg Prod.fst (sh3 ln)) (ct3_3 z) ?_
  refine X_iload_n (pc' := 5) dX1_isRetired_4 rfl rfl ?_
  refine X_iconst (pc' := 6) dX1_isRetired_5 rfl ?_
  obtain ⟨r1, q1, h⟩ := bs h
  refine Y_callV [.int (iN (v1)), .int (iN (3))] (pc' := 9) dX1_isRetired_6 rfl VX1_73 (by decide) (zlN hN (by decide)) (congrArg Prod.fst (sh10 ln)) rfl rfl rfl (cs rfl) (cs rfl) rfl (CX4_get hN hz kT10 rv1 (inR_c (n := 3) rfl) q1) (Nat.zero_add _).symm (Nat.zero_add _).symm (fun f1 => ?_)
  refine X_if_eq dX1_isRetired_9 (tgt := 16) rfl (pc' := 12) rfl f1 (fun c2 => ?_) (fun c2 => ?_)
  · have h := if_t c2 h
    refine X_iconst (pc' := 17) dX1_isRetired_16 rfl ?_
    cases h
    exact X_zret dX1_isRetired_17 rfl (Or.inl rfl) (k (Or.inl rfl))
  have h := if_f c2 h
  refine X_iconst (pc' := 13) dX1_isRetired_12 rfl ?_
  refine X_goto dX1_isRetired_13 (tgt := 17) rfl ?_
  cases h
  exact X_zret dX1_isRetired_17 rfl (Or.inr rfl) (k (Or.inr rfl))
def fX1_lapseOf (v1 : Int) (z : ZZ) : Option (Int) := (Option.bind (fX4_get 10 (v1) (2) z) fun r1 => (Option.bind (fX4_get 10 (v1) (1) z) fun r2 => (if inR ((r1 + r2)) then some ((r1 + r2)) else none)))
set_option maxRecDepth 100000 in
theorem CX1_lapseOf {ln : ZR} {N : Nat} {z : ZZ} {v1 : Int} (hN : 151 ≤ N ∧ N < 999999) (hz : okz z) (rv1 : inR v1) {p : Int} (h : fX1_lapseOf v1 z = some p) : X mX1_lapseOf 0 (xEnt [.ref (3), .int (iN (v1))] (xL mX1_lapseOf)) [] (zmk ln N z) (cc_r p) (6 * cc_r p) (Qd (fa_r p) (rs_r p) (st_r ln N z p)) := by
  have k : Fin_r (Qd (fa_r p) (rs_r p) (st_r ln N z p)) ln N z p := Fin_r_i
  unfold fX1_lapseOf at h
  refine X_to (M := [some (.ref (3)), some (.int (iN (v1)))]) (su := []) rfl rfl ?_
  refine X_aload_n (pc' := 1) dX1_lapseOf_0 rfl rfl ?_
  refine Y_get (pc' := 4) dX1_lapseOf_1 rfl FX1_26 (zlN hN (by decide)) (congrArg Prod.fst (sh3 ln)) (ct3_3 z) ?_
  refine X_iload_n (pc' := 5) dX1_lapseOf_4 rfl rfl ?_
  refine X_iconst (pc' := 6) dX1_lapseOf_5 rfl ?_
  obtain ⟨r1, q1, h⟩ := bs h
  refine Y_callV [.int (iN (v1)), .int (iN (2))] (pc' := 9) dX1_lapseOf_6 rfl VX1_73 (by decide) (zlN hN (by decide)) (congrArg Prod.fst (sh10 ln)) rfl rfl rfl (cs rfl) (cs rfl) rfl (CX4_get hN hz kT10 rv1 (inR_c (n := 2) rfl) q1) (Nat.zero_add _).symm (Nat.zero_add _).symm (fun f1 => ?_)
  refine X_aload_n (pc' := 10) dX1_lapseOf_9 rfl rfl ?_
  refine Y_get (pc' := 13) dX1_lapseOf_10 rfl FX1_26 (zlN hN (by decide)) (congrArg Prod.fst (sh3 ln)) (ct3_3 z) ?_
  refine X_iload_n (pc' := 14) dX1_lapseOf_13 rfl rfl ?_
  refine X_iconst (pc' := 15) dX1_lapseOf_14 rfl ?_
  obtain ⟨r2, q2, h⟩ := bs h
  refine Y_callV [.int (iN (v1)), .int (iN (1))] (pc' := 18) dX1_lapseOf_15 rfl VX1_73 (by decide) (zlN hN (by decide)) (congrArg Prod.fst (sh10 ln)) rfl rfl rfl (cs rfl) (cs rfl) rfl (CX4_get hN hz kT10 rv1 (inR_c (n := 1) rfl) q2) (Nat.zero_add _).symm (Nat.zero_add _).symm (fun f2 => ?_)
  refine X_iadd (pc' := 19) dX1_lapseOf_18 rfl ?_
  obtain ⟨g3, h⟩ := gs h
  cases h
  exact X_iret dX1_lapseOf_19 rfl (k g3)
def fX1_isInForce (v1 : Int) (v2 : Int) (z : ZZ) : Option (Int) := (Option.bind (fX1_isRetired (v1) z) fun r1 => (if (r1) = (0) then (Option.bind (fX1_lapseOf (v1) z) fun r3 => (if (v2) < (r3) then some (1) else some (0))) else some (0)))
set_option maxRecDepth 100000 in
theorem CX1_isInForce {ln : ZR} {N : Nat} {z : ZZ} {v1 : Int} {v2 : Int} (hN : 151 ≤ N ∧ N < 999999) (hz : okz z) (rv1 : inR v1) (rv2 : inR v2) {p : Int} (h : fX1_isInForce v1 v2 z = some p) : X mX1_isInForce 0 (xEnt [.ref (3), .int (iN (v1)), .int (iN (v2))] (xL mX1_isInForce)) [] (zmk ln N z) (cc_b p) (6 * cc_b p) (Qd (fa_b p) (rs_b p) (st_b ln N z p)) := by
  have k : Fin_b (Qd (fa_b p) (rs_b p) (st_b ln N z p)) ln N z p := Fin_b_i
  unfold fX1_isInForce at h
  refine X_to (M := [some (.ref (3)), some (.int (iN (v1))), some (.int (iN (v2)))]) (su := []) rfl rfl ?_
  refine X_aload_n (pc' := 1) dX1_isInForce_0 rfl rfl ?_
  refine X_iload_n (pc' := 2) dX1_isInForce_1 rfl rfl ?_
  obtain ⟨r1, q1, h⟩ := bs h
  refine Y_callV [.int (iN (v1))] (pc' := 5) dX1_isInForce_2 rfl VX1_150 (by decide) (zlN hN (by decide)) (congrArg Prod.fst (sh3 ln)) rfl rfl rfl (cs rfl) (cs rfl) rfl (CX1_isRetired hN hz rv1 q1) (Nat.zero_add _).symm (Nat.zero_add _).symm (fun f1 => ?_)
  refine X_if_ne dX1_isInForce_5 (tgt := 21) rfl (pc' := 8) rfl (inR_b f1) (fun c2 => ?_) (fun c2 => ?_)
  · have h := if_f c2 h
    refine X_iconst (pc' := 22) dX1_isInForce_21 rfl ?_
    cases h
    exact X_zret dX1_isInForce_22 rfl (Or.inl rfl) (k (Or.inl rfl))
  have h := if_t c2 h
  refine X_iload_n (pc' := 9) dX1_isInForce_8 rfl rfl ?_
  refine X_aload_n (pc' := 10) dX1_isInForce_9 rfl rfl ?_
  refine X_iload_n (pc' := 11) dX1_isInForce_10 rfl rfl ?_
  obtain ⟨r3, q3, h⟩ := bs h
  refine Y_callV [.int (iN (v1))] (pc' := 14) dX1_isInForce_11 rfl VX1_156 (by decide) (zlN hN (by decide)) (congrArg Prod.fst (sh3 ln)) rfl rfl rfl (cs rfl) (cs rfl) rfl (CX1_lapseOf hN hz rv1 q3) (Nat.zero_add _).symm (Nat.zero_add _).symm (fun f3 => ?_)
  refine X_icmp_ge dX1_isInForce_14 (tgt := 21) rfl (pc' := 17) rfl ⟨rv2.1, rv2.2, f3.1, f3.2⟩ (fun c4 => ?_) (fun c4 => ?_)
  · have h := if_f (Int.not_lt.mpr c4) h
    refine X_iconst (pc' := 22) dX1_isInForce_21 rfl ?_
    cases h
    exact X_zret dX1_isInForce_22 rfl (Or.inl rfl) (k (Or.inl rfl))
  have h := if_t c4 h
  refine X_iconst (pc' := 18) dX1_isInForce_17 rfl ?_
  refine X_goto dX1_isInForce_18 (tgt := 22) rfl ?_
  cases h
  exact X_zret dX1_isInForce_22 rfl (Or.inr rfl) (k (Or.inr rfl))
def fX1_isLent_s2 (v1 : Int) (v2 : Int) (z : ZZ) : Option ((Int) ⊕ ((Unit) ⊕ (Int))) := (if (v2) < ((z 12 3)) then (Option.bind (fX1_harnessOf (v2) z) fun r2 => (if (r2) = (v1) then some (.inr (.inr ((1)))) else (if inR ((v2 + 1)) then some (.inl (v2 + 1)) else none))) else some (.inr (.inl ())))
set_option maxRecDepth 100000 in
theorem SX1_isLent_2 {ln : ZR} {N : Nat} {z : ZZ} {v1 : Int} {v2 : Int} {c9 s9 : Nat} {Φ : xRes → xS → Prop} (hN : 151 ≤ N ∧ N < 999999) (hz : okz z) (rv1 : inR v1) (rv2 : inR v2) {p : (Int) ⊕ ((Unit) ⊕ (Int))} (h : fX1_isLent_s2 v1 v2 z = some p) (k1 : ∀ (v2' : Int), p = .inl v2' → inR v2' → X mX1_isLent 2 [some (.ref (3)), some (.int (iN (v1))), some (.int (iN (v2')))] [] (zmk ln N z) c9 s9 Φ) (k2 : p = .inr (.inl ()) → X mX1_isLent 30 [none, none, none] [] (zmk ln N z) c9 s9 Φ) (k3 : ∀ t, p = .inr (.inr t) → Fin_b Φ ln N z t) : X mX1_isLent 2 [some (.ref (3)), some (.int (iN (v1))), some (.int (iN (v2)))] [] (zmk ln N z) c9 s9 Φ := by
  unfold fX1_isLent_s2 at h
  refine X_iload_n (pc' := 3) dX1_isLent_2 rfl rfl ?_
  refine X_aload_n (pc' := 4) dX1_isLent_3 rfl rfl ?_
  refine Y_get (pc' := 7) dX1_isLent_4 rfl FX1_29 (zlN hN (by decide)) (congrArg Prod.fst (sh3 ln)) (ct3_4 z) ?_
  refine Y_get (pc' := 10) dX1_isLent_7 rfl FX1_70 (zlN hN (by decide)) (congrArg Prod.fst (sh12 ln)) (ct12_3 z) ?_
  refine X_icmp_ge dX1_isLent_10 (tgt := 30) rfl (pc' := 13) rfl ⟨rv2.1, rv2.2, (hz 12 3 (by decide)).1, (hz 12 3 (by decide)).2⟩ (fun c1 => ?_) (fun c1 => ?_)
  · have h := if_f (Int.not_lt.mpr c1) h
    cases h
    exact X_sub (sub_n (sub_n (sub_n sub_0))) (k2  rfl )
  have h := if_t c1 h
  refine X_aload_n (pc' := 14) dX1_isLent_13 rfl rfl ?_
  refine X_iload_n (pc' := 15) dX1_isLent_14 rfl rfl ?_
  obtain ⟨r2, q2, h⟩ := bs h
  refine Y_callV [.int (iN (v2))] (pc' := 18) dX1_isLent_15 rfl VX1_89 (by decide) (zlN hN (by decide)) (congrArg Prod.fst (sh3 ln)) rfl rfl rfl (cs rfl) (cs rfl) rfl (CX1_harnessOf hN hz rv2 q2) (Nat.zero_add _).symm (Nat.zero_add _).symm (fun f2 => ?_)
  refine X_iload_n (pc' := 19) dX1_isLent_18 rfl rfl ?_
  refine X_icmp_ne dX1_isLent_19 (tgt := 24) rfl (pc' := 22) rfl ⟨f2.1, f2.2, rv1.1, rv1.2⟩ (fun c3 => ?_) (fun c3 => ?_)
  · have h := if_f c3 h
    refine X_iinc (pc' := 27) dX1_isLent_24 rfl rfl (Or.inr rfl) (L' := [some (.ref (3)), some (.int (iN (v1))), some (.int (iN (v2 + 1)))]) rfl ?_
    refine X_goto dX1_isLent_27 (tgt := 2) rfl ?_
    obtain ⟨g4, h⟩ := gs h
    cases h
    exact X_sub (sub_s (sub_s (sub_s sub_0))) (k1 _ rfl g4)
  have h := if_t c3 h
  refine X_iconst (pc' := 23) dX1_isLent_22 rfl ?_
  cases h
  exact X_zret dX1_isLent_23 rfl (Or.inr rfl) ((k3 _ rfl) (Or.inr rfl))
theorem LX1_isLent_2 {ln : ZR} {N : Nat} {z : ZZ} {v1 : Int} {c9 s9 : Nat} {Φ : xRes → xS → Prop} (hN : 151 ≤ N ∧ N < 999999) (hz : okz z) (rv1 : inR v1) {r : (Unit) ⊕ (Int)} (k2 : r = .inl () → X mX1_isLent 30 [none, none, none] [] (zmk ln N z) c9 s9 Φ) (k3 : ∀ t, r = .inr t → Fin_b Φ ln N z t) : ∀ (n : Nat) (v2 : Int), inR v2 → zlp (fun q => fX1_isLent_s2 v1 q z) n v2 = some r → X mX1_isLent 2 [some (.ref (3)), some (.int (iN (v1))), some (.int (iN (v2)))] [] (zmk ln N z) c9 s9 Φ := by
  intro n
  induction n with
  | zero => intro v2 rv2 h; cases h
  | succ n ih =>
    intro v2 rv2 h
    rcases zlp_s h with ⟨v2', e, h'⟩ | e
    · exact SX1_isLent_2 hN hz rv1 rv2 e (fun v2₁ hh f0 => by cases hh; exact ih _ f0 h') (fun hh => by cases hh) (fun t hh => by cases hh)
    · exact SX1_isLent_2 hN hz rv1 rv2 e (fun v2₁ hh f0 => by cases hh) (fun hh => by cases hh; exact k2 rfl) (fun t hh => by cases hh; exact k3 t rfl)
def fX1_isLent (v1 : Int) (z : ZZ) : Option (Int) := (Option.bind (zlp (fun q => fX1_isLent_s2 (v1) q z) FU 0) fun q1 => match q1 with | .inl () => some (0) | .inr y1 => some y1)
set_option maxRecDepth 100000 in
theorem CX1_isLent {ln : ZR} {N : Nat} {z : ZZ} {v1 : Int} (hN : 151 ≤ N ∧ N < 999999) (hz : okz z) (rv1 : inR v1) {p : Int} (h : fX1_isLent v1 z = some p) : X mX1_isLent 0 (xEnt [.ref (3), .int (iN (v1))] (xL mX1_isLent)) [] (zmk ln N z) (cc_b p) (6 * cc_b p) (Qd (fa_b p) (rs_b p) (st_b ln N z p)) := by
  have k : Fin_b (Qd (fa_b p) (rs_b p) (st_b ln N z p)) ln N z p := Fin_b_i
  unfold fX1_isLent at h
  refine X_to (M := [some (.ref (3)), some (.int (iN (v1))), none]) (su := []) rfl rfl ?_
  refine X_iconst (pc' := 1) dX1_isLent_0 rfl ?_
  refine X_istore_n (pc' := 2) dX1_isLent_1 rfl (cl rfl) (Or.inr rfl) (L' := [some (.ref (3)), some (.int (iN (v1))), some (.int (iN (0)))]) rfl ?_
  obtain ⟨⟨⟩ | y1, q1, h⟩ := bs h
  rotate_left
  · exact X_sub (sub_s (sub_s (sub_s sub_0))) (LX1_isLent_2 hN hz rv1 (fun hh => by cases hh) (fun t hh => by cases hh; cases h; exact k) FU _ (inR_c (n := 0) rfl) q1)
  refine X_sub (sub_s (sub_s (sub_s sub_0))) (LX1_isLent_2 hN hz rv1 (fun hh => ?_) (fun t hh => by cases hh) FU _ (inR_c (n := 0) rfl) q1)
  cases hh
  refine X_iconst (pc' := 31) dX1_isLent_30 rfl ?_
  cases h
  exact X_zret dX1_isLent_31 rfl (Or.inl rfl) (k (Or.inl rfl))
def fX1_stateOf (v1 : Int) (z : ZZ) : Option (Int) := (Option.bind (fX1_isRetired (v1) z) fun r1 => (if (r1) = (0) then (Option.bind (fX1_isLent (v1) z) fun r3 => (if (r3) = (0) then some (0) else some (1))) else some (2)))
set_option maxRecDepth 100000 in
theorem CX1_stateOf {ln : ZR} {N : Nat} {z : ZZ} {v1 : Int} (hN : 151 ≤ N ∧ N < 999999) (hz : okz z) (rv1 : inR v1) {p : Int} (h : fX1_stateOf v1 z = some p) : X mX1_stateOf 0 (xEnt [.ref (3), .int (iN (v1))] (xL mX1_stateOf)) [] (zmk ln N z) (cc_r p) (6 * cc_r p) (Qd (fa_r p) (rs_r p) (st_r ln N z p)) := by
  have k : Fin_r (Qd (fa_r p) (rs_r p) (st_r ln N z p)) ln N z p := Fin_r_i
  unfold fX1_stateOf at h
  refine X_to (M := [some (.ref (3)), some (.int (iN (v1)))]) (su := []) rfl rfl ?_
  refine X_aload_n (pc' := 1) dX1_stateOf_0 rfl rfl ?_
  refine X_iload_n (pc' := 2) dX1_stateOf_1 rfl rfl ?_
  obtain ⟨r1, q1, h⟩ := bs h
  refine Y_callV [.int (iN (v1))] (pc' := 5) dX1_stateOf_2 rfl VX1_150 (by decide) (zlN hN (by decide)) (congrArg Prod.fst (sh3 ln)) rfl rfl rfl (cs rfl) (cs rfl) rfl (CX1_isRetired hN hz rv1 q1) (Nat.zero_add _).symm (Nat.zero_add _).symm (fun f1 => ?_)
  refine X_if_eq dX1_stateOf_5 (tgt := 10) rfl (pc' := 8) rfl (inR_b f1) (fun c2 => ?_) (fun c2 => ?_)
  · have h := if_t c2 h
    refine X_aload_n (pc' := 11) dX1_stateOf_10 rfl rfl ?_
    refine X_iload_n (pc' := 12) dX1_stateOf_11 rfl rfl ?_
    obtain ⟨r3, q3, h⟩ := bs h
    refine Y_callV [.int (iN (v1))] (pc' := 15) dX1_stateOf_12 rfl VX1_153 (by decide) (zlN hN (by decide)) (congrArg Prod.fst (sh3 ln)) rfl rfl rfl (cs rfl) (cs rfl) rfl (CX1_isLent hN hz rv1 q3) (Nat.zero_add _).symm (Nat.zero_add _).symm (fun f3 => ?_)
    refine X_if_eq dX1_stateOf_15 (tgt := 22) rfl (pc' := 18) rfl (inR_b f3) (fun c4 => ?_) (fun c4 => ?_)
    · have h := if_t c4 h
      refine X_iconst (pc' := 23) dX1_stateOf_22 rfl ?_
      cases h
      exact X_iret dX1_stateOf_23 rfl (k (inR_c (n := 0) rfl))
    have h := if_f c4 h
    refine X_iconst (pc' := 19) dX1_stateOf_18 rfl ?_
    refine X_goto dX1_stateOf_19 (tgt := 23) rfl ?_
    cases h
    exact X_iret dX1_stateOf_23 rfl (k (inR_c (n := 1) rfl))
  have h := if_f c2 h
  refine X_iconst (pc' := 9) dX1_stateOf_8 rfl ?_
  cases h
  exact X_iret dX1_stateOf_9 rfl (k (inR_c (n := 2) rfl))
def fX1_isLendable (v1 : Int) (z : ZZ) : Option (Int) := (Option.bind (fX1_stateOf (v1) z) fun r1 => (if (r1) = (0) then (Option.bind (fX1_isInForce (v1) ((z 3 7)) z) fun r3 => (if (r3) = (0) then some (0) else some (1))) else some (0)))
set_option maxRecDepth 100000 in
theorem CX1_isLendable {ln : ZR} {N : Nat} {z : ZZ} {v1 : Int} (hN : 151 ≤ N ∧ N < 999999) (hz : okz z) (rv1 : inR v1) {p : Int} (h : fX1_isLendable v1 z = some p) : X mX1_isLendable 0 (xEnt [.ref (3), .int (iN (v1))] (xL mX1_isLendable)) [] (zmk ln N z) (cc_b p) (6 * cc_b p) (Qd (fa_b p) (rs_b p) (st_b ln N z p)) := by
  have k : Fin_b (Qd (fa_b p) (rs_b p) (st_b ln N z p)) ln N z p := Fin_b_i
  unfold fX1_isLendable at h
  refine X_to (M := [some (.ref (3)), some (.int (iN (v1)))]) (su := []) rfl rfl ?_
  refine X_aload_n (pc' := 1) dX1_isLendable_0 rfl rfl ?_
  refine X_iload_n (pc' := 2) dX1_isLendable_1 rfl rfl ?_
  obtain ⟨r1, q1, h⟩ := bs h
  refine Y_callV [.int (iN (v1))] (pc' := 5) dX1_isLendable_2 rfl VX1_159 (by decide) (zlN hN (by decide)) (congrArg Prod.fst (sh3 ln)) rfl rfl rfl (cs rfl) (cs rfl) rfl (CX1_stateOf hN hz rv1 q1) (Nat.zero_add _).symm (Nat.zero_add _).symm (fun f1 => ?_)
  refine X_if_ne dX1_isLendable_5 (tgt := 24) rfl (pc' := 8) rfl f1 (fun c2 => ?_) (fun c2 => ?_)
  · have h := if_f c2 h
    refine X_iconst (pc' := 25) dX1_isLendable_24 rfl ?_
    cases h
    exact X_zret dX1_isLendable_25 rfl (Or.inl rfl) (k (Or.inl rfl))
  have h := if_t c2 h
  refine X_aload_n (pc' := 9) dX1_isLendable_8 rfl rfl ?_
  refine X_iload_n (pc' := 10) dX1_isLendable_9 rfl rfl ?_
  refine X_aload_n (pc' := 11) dX1_isLendable_10 rfl rfl ?_
  refine Y_get (pc' := 14) dX1_isLendable_11 rfl FX1_35 (zlN hN (by decide)) (congrArg Prod.fst (sh3 ln)) (ct3_7 z) ?_
  obtain ⟨r3, q3, h⟩ := bs h
  refine Y_callV [.int (iN (v1)), .int (iN ((z 3 7)))] (pc' := 17) dX1_isLendable_14 rfl VX1_96 (by decide) (zlN hN (by decide)) (congrArg Prod.fst (sh3 ln)) rfl rfl rfl (cs rfl) (cs rfl) rfl (CX1_isInForce hN hz rv1 (hz 3 7 (by decide)) q3) (Nat.zero_add _).symm (Nat.zero_add _).symm (fun f3 => ?_)
  refine X_if_eq dX1_isLendable_17 (tgt := 24) rfl (pc' := 20) rfl (inR_b f3) (fun c4 => ?_) (fun c4 => ?_)
  · have h := if_t c4 h
    refine X_iconst (pc' := 25) dX1_isLendable_24 rfl ?_
    cases h
    exact X_zret dX1_isLendable_25 rfl (Or.inl rfl) (k (Or.inl rfl))
  have h := if_f c4 h
  refine X_iconst (pc' := 21) dX1_isLendable_20 rfl ?_
  refine X_goto dX1_isLendable_21 (tgt := 25) rfl ?_
  cases h
  exact X_zret dX1_isLendable_25 rfl (Or.inr rfl) (k (Or.inr rfl))
def fX1_isWorn (v1 : Int) (z : ZZ) : Option (Int) := (Option.bind (fX4_get 6 (v1) (3) z) fun r1 => (if (r1) < ((z 3 10)) then some (0) else some (1)))
set_option maxRecDepth 100000 in
theorem CX1_isWorn {ln : ZR} {N : Nat} {z : ZZ} {v1 : Int} (hN : 151 ≤ N ∧ N < 999999) (hz : okz z) (rv1 : inR v1) {p : Int} (h : fX1_isWorn v1 z = some p) : X mX1_isWorn 0 (xEnt [.ref (3), .int (iN (v1))] (xL mX1_isWorn)) [] (zmk ln N z) (cc_b p) (6 * cc_b p) (Qd (fa_b p) (rs_b p) (st_b ln N z p)) := by
  have k : Fin_b (Qd (fa_b p) (rs_b p) (st_b ln N z p)) ln N z p := Fin_b_i
  unfold fX1_isWorn at h
  refine X_to (M := [some (.ref (3)), some (.int (iN (v1)))]) (su := []) rfl rfl ?_
  refine X_aload_n (pc' := 1) dX1_isWorn_0 rfl rfl ?_
  refine Y_get (pc' := 4) dX1_isWorn_1 rfl FX1_20 (zlN hN (by decide)) (congrArg Prod.fst (sh3 ln)) (ct3_1 z) ?_
  refine X_iload_n (pc' := 5) dX1_isWorn_4 rfl rfl ?_
  refine X_iconst (pc' := 6) dX1_isWorn_5 rfl ?_
  obtain ⟨r1, q1, h⟩ := bs h
  refine Y_callV [.int (iN (v1)), .int (iN (3))] (pc' := 9) dX1_isWorn_6 rfl VX1_73 (by decide) (zlN hN (by decide)) (congrArg Prod.fst (sh6 ln)) rfl rfl rfl (cs rfl) (cs rfl) rfl (CX4_get hN hz kT6 rv1 (inR_c (n := 3) rfl) q1) (Nat.zero_add _).symm (Nat.zero_add _).symm (fun f1 => ?_)
  refine X_aload_n (pc' := 10) dX1_isWorn_9 rfl rfl ?_
  refine Y_get (pc' := 13) dX1_isWorn_10 rfl FX1_45 (zlN hN (by decide)) (congrArg Prod.fst (sh3 ln)) (ct3_10 z) ?_
  refine X_icmp_lt dX1_isWorn_13 (tgt := 20) rfl (pc' := 16) rfl ⟨f1.1, f1.2, (hz 3 10 (by decide)).1, (hz 3 10 (by decide)).2⟩ (fun c2 => ?_) (fun c2 => ?_)
  · have h := if_t c2 h
    refine X_iconst (pc' := 21) dX1_isWorn_20 rfl ?_
    cases h
    exact X_zret dX1_isWorn_21 rfl (Or.inl rfl) (k (Or.inl rfl))
  have h := if_f (Int.not_lt.mpr c2) h
  refine X_iconst (pc' := 17) dX1_isWorn_16 rfl ?_
  refine X_goto dX1_isWorn_17 (tgt := 21) rfl ?_
  cases h
  exact X_zret dX1_isWorn_21 rfl (Or.inr rfl) (k (Or.inr rfl))
def fX1_mayClimb (v1 : Int) (v2 : Int) (z : ZZ) : Option (Int) := (Option.bind (fX4_get 6 (v2) (0) z) fun r1 => (Option.bind (fX1_harnessOf (v1) z) fun r2 => (Option.bind (fX1_isClosed (r1) z) fun r3 => (if (r3) = (0) then (Option.bind (fX4_get 12 (v1) (1) z) fun r5 => (Option.bind (fX4_get 4 (r1) (1) z) fun r6 => (if (r5) < (r6) then some (0) else (if (r2) = ((-1)) then some (0) else (Option.bind (fX1_isInForce (r2) ((z 3 7)) z) fun r9 => (if (r9) = (0) then some (0) else (Option.bind (fX1_isWorn (v2) z) fun r11 => (if (r11) = (0) then some (1) else some (0))))))))) else some (0)))))
set_option maxRecDepth 100000 in
theorem CX1_mayClimb {ln : ZR} {N : Nat} {z : ZZ} {v1 : Int} {v2 : Int} (hN : 151 ≤ N ∧ N < 999999) (hz : okz z) (rv1 : inR v1) (rv2 : inR v2) {p : Int} (h : fX1_mayClimb v1 v2 z = some p) : X mX1_mayClimb 0 (xEnt [.ref (3), .int (iN (v1)), .int (iN (v2))] (xL mX1_mayClimb)) [] (zmk ln N z) (cc_b p) (6 * cc_b p) (Qd (fa_b p) (rs_b p) (st_b ln N z p)) := by
  have k : Fin_b (Qd (fa_b p) (rs_b p) (st_b ln N z p)) ln N z p := Fin_b_i
  unfold fX1_mayClimb at h
  refine X_to (M := [some (.ref (3)), some (.int (iN (v1))), some (.int (iN (v2))), none, none]) (su := []) rfl rfl ?_
  refine X_aload_n (pc' := 1) dX1_mayClimb_0 rfl rfl ?_
  refine Y_get (pc' := 4) dX1_mayClimb_1 rfl FX1_20 (zlN hN (by decide)) (congrArg Prod.fst (sh3 ln)) (ct3_1 z) ?_
  refine X_iload_n (pc' := 5) dX1_mayClimb_4 rfl rfl ?_
  refine X_iconst (pc' := 6) dX1_mayClimb_5 rfl ?_
  obtain ⟨r1, q1, h⟩ := bs h
  refine Y_callV [.int (iN (v2)), .int (iN (0))] (pc' := 9) dX1_mayClimb_6 rfl VX1_73 (by decide) (zlN hN (by decide)) (congrArg Prod.fst (sh6 ln)) rfl rfl rfl (cs rfl) (cs rfl) rfl (CX4_get hN hz kT6 rv2 (inR_c (n := 0) rfl) q1) (Nat.zero_add _).symm (Nat.zero_add _).symm (fun f1 => ?_)
  refine X_istore_n (pc' := 10) dX1_mayClimb_9 rfl (cl rfl) (Or.inr rfl) (L' := [some (.ref (3)), some (.int (iN (v1))), some (.int (iN (v2))), some (.int (iN (r1))), none]) rfl ?_
  refine X_aload_n (pc' := 11) dX1_mayClimb_10 rfl rfl ?_
  refine X_iload_n (pc' := 12) dX1_mayClimb_11 rfl rfl ?_
  obtain ⟨r2, q2, h⟩ := bs h
  refine Y_callV [.int (iN (v1))] (pc' := 15) dX1_mayClimb_12 rfl VX1_89 (by decide) (zlN hN (by decide)) (congrArg Prod.fst (sh3 ln)) rfl rfl rfl (cs rfl) (cs rfl) rfl (CX1_harnessOf hN hz rv1 q2) (Nat.zero_add _).symm (Nat.zero_add _).symm (fun f2 => ?_)
  refine X_istore (pc' := 17) dX1_mayClimb_15 rfl (cl rfl) (Or.inr rfl) (L' := [some (.ref (3)), some (.int (iN (v1))), some (.int (iN (v2))), some (.int (iN (r1))), some (.int (iN (r2)))]) rfl ?_
  refine X_aload_n (pc' := 18) dX1_mayClimb_17 rfl rfl ?_
  refine X_iload_n (pc' := 19) dX1_mayClimb_18 rfl rfl ?_
  obtain ⟨r3, q3, h⟩ := bs h
  refine Y_callV [.int (iN (r1))] (pc' := 22) dX1_mayClimb_19 rfl VX1_92 (by decide) (zlN hN (by decide)) (congrArg Prod.fst (sh3 ln)) rfl rfl rfl (cs rfl) (cs rfl) rfl (CX1_isClosed hN hz f1 q3) (Nat.zero_add _).symm (Nat.zero_add _).symm (fun f3 => ?_)
  refine X_if_ne dX1_mayClimb_22 (tgt := 77) rfl (pc' := 25) rfl (inR_b f3) (fun c4 => ?_) (fun c4 => ?_)
  · have h := if_f c4 h
    refine X_iconst (pc' := 78) dX1_mayClimb_77 rfl ?_
    cases h
    exact X_zret dX1_mayClimb_78 rfl (Or.inl rfl) (k (Or.inl rfl))
  have h := if_t c4 h
  refine X_aload_n (pc' := 26) dX1_mayClimb_25 rfl rfl ?_
  refine Y_get (pc' := 29) dX1_mayClimb_26 rfl FX1_29 (zlN hN (by decide)) (congrArg Prod.fst (sh3 ln)) (ct3_4 z) ?_
  refine X_iload_n (pc' := 30) dX1_mayClimb_29 rfl rfl ?_
  refine X_iconst (pc' := 31) dX1_mayClimb_30 rfl ?_
  obtain ⟨r5, q5, h⟩ := bs h
  refine Y_callV [.int (iN (v1)), .int (iN (1))] (pc' := 34) dX1_mayClimb_31 rfl VX1_73 (by decide) (zlN hN (by decide)) (congrArg Prod.fst (sh12 ln)) rfl rfl rfl (cs rfl) (cs rfl) rfl (CX4_get hN hz kT12 rv1 (inR_c (n := 1) rfl) q5) (Nat.zero_add _).symm (Nat.zero_add _).symm (fun f5 => ?_)
  refine X_aload_n (pc' := 35) dX1_mayClimb_34 rfl rfl ?_
  refine Y_get (pc' := 38) dX1_mayClimb_35 rfl FX1_14 (zlN hN (by decide)) (congrArg Prod.fst (sh3 ln)) (ct3_0 z) ?_
  refine X_iload_n (pc' := 39) dX1_mayClimb_38 rfl rfl ?_
  refine X_iconst (pc' := 40) dX1_mayClimb_39 rfl ?_
  obtain ⟨r6, q6, h⟩ := bs h
  refine Y_callV [.int (iN (r1)), .int (iN (1))] (pc' := 43) dX1_mayClimb_40 rfl VX1_73 (by decide) (zlN hN (by decide)) (congrArg Prod.fst (sh4 ln)) rfl rfl rfl (cs rfl) (cs rfl) rfl (CX4_get hN hz kT4 f1 (inR_c (n := 1) rfl) q6) (Nat.zero_add _).symm (Nat.zero_add _).symm (fun f6 => ?_)
  refine X_icmp_lt dX1_mayClimb_43 (tgt := 77) rfl (pc' := 46) rfl ⟨f5.1, f5.2, f6.1, f6.2⟩ (fun c7 => ?_) (fun c7 => ?_)
  · have h := if_t c7 h
    refine X_iconst (pc' := 78) dX1_mayClimb_77 rfl ?_
    cases h
    exact X_zret dX1_mayClimb_78 rfl (Or.inl rfl) (k (Or.inl rfl))
  have h := if_f (Int.not_lt.mpr c7) h
  refine X_iload (pc' := 48) dX1_mayClimb_46 rfl rfl ?_
  refine X_iconst (pc' := 49) dX1_mayClimb_48 rfl ?_
  refine X_icmp_eq dX1_mayClimb_49 (tgt := 77) rfl (pc' := 52) rfl ⟨f2.1, f2.2, (inR_c (n := (-1)) rfl).1, (inR_c (n := (-1)) rfl).2⟩ (fun c8 => ?_) (fun c8 => ?_)
  · have h := if_t c8 h
    refine X_iconst (pc' := 78) dX1_mayClimb_77 rfl ?_
    cases h
    exact X_zret dX1_mayClimb_78 rfl (Or.inl rfl) (k (Or.inl rfl))
  have h := if_f c8 h
  refine X_aload_n (pc' := 53) dX1_mayClimb_52 rfl rfl ?_
  refine X_iload (pc' := 55) dX1_mayClimb_53 rfl rfl ?_
  refine X_aload_n (pc' := 56) dX1_mayClimb_55 rfl rfl ?_
  refine Y_get (pc' := 59) dX1_mayClimb_56 rfl FX1_35 (zlN hN (by decide)) (congrArg Prod.fst (sh3 ln)) (ct3_7 z) ?_
  obtain ⟨r9, q9, h⟩ := bs h
  refine Y_callV [.int (iN (r2)), .int (iN ((z 3 7)))] (pc' := 62) dX1_mayClimb_59 rfl VX1_96 (by decide) (zlN hN (by decide)) (congrArg Prod.fst (sh3 ln)) rfl rfl rfl (cs rfl) (cs rfl) rfl (CX1_isInForce hN hz f2 (hz 3 7 (by decide)) q9) (Nat.zero_add _).symm (Nat.zero_add _).symm (fun f9 => ?_)
  refine X_if_eq dX1_mayClimb_62 (tgt := 77) rfl (pc' := 65) rfl (inR_b f9) (fun c10 => ?_) (fun c10 => ?_)
  · have h := if_t c10 h
    refine X_iconst (pc' := 78) dX1_mayClimb_77 rfl ?_
    cases h
    exact X_zret dX1_mayClimb_78 rfl (Or.inl rfl) (k (Or.inl rfl))
  have h := if_f c10 h
  refine X_aload_n (pc' := 66) dX1_mayClimb_65 rfl rfl ?_
  refine X_iload_n (pc' := 67) dX1_mayClimb_66 rfl rfl ?_
  obtain ⟨r11, q11, h⟩ := bs h
  refine Y_callV [.int (iN (v2))] (pc' := 70) dX1_mayClimb_67 rfl VX1_100 (by decide) (zlN hN (by decide)) (congrArg Prod.fst (sh3 ln)) rfl rfl rfl (cs rfl) (cs rfl) rfl (CX1_isWorn hN hz rv2 q11) (Nat.zero_add _).symm (Nat.zero_add _).symm (fun f11 => ?_)
  refine X_if_ne dX1_mayClimb_70 (tgt := 77) rfl (pc' := 73) rfl (inR_b f11) (fun c12 => ?_) (fun c12 => ?_)
  · have h := if_f c12 h
    refine X_iconst (pc' := 78) dX1_mayClimb_77 rfl ?_
    cases h
    exact X_zret dX1_mayClimb_78 rfl (Or.inl rfl) (k (Or.inl rfl))
  have h := if_t c12 h
  refine X_iconst (pc' := 74) dX1_mayClimb_73 rfl ?_
  refine X_goto dX1_mayClimb_74 (tgt := 78) rfl ?_
  cases h
  exact X_zret dX1_mayClimb_78 rfl (Or.inr rfl) (k (Or.inr rfl))
def fX1_mayEnroll (v1 : Int) (v2 : Int) (z : ZZ) : Option (Int) := (Option.bind (fX4_get 12 (v1) (4) z) fun r1 => (if (r1) = ((-1)) then (Option.bind (fX4_get 12 (v1) (1) z) fun r3 => (Option.bind (fX4_get 14 (v2) (0) z) fun r4 => (if inR ((r4 - 1)) then (if (r3) = ((r4 - 1)) then (Option.bind (fX4_get 12 (v1) (2) z) fun r7 => (Option.bind (fX4_get 14 (v2) (2) z) fun r8 => (if (r7) < (r8) then some (0) else (Option.bind (fX1_membersIn (v2) z) fun r10 => (Option.bind (fJ6_bitCount_0f7a4 (r10) z) fun r11 => (Option.bind (fX4_get 14 (v2) (1) z) fun r12 => (if (r11) < (r12) then some (1) else some (0)))))))) else some (0)) else none))) else some (0)))
set_option maxRecDepth 100000 in
theorem CX1_mayEnroll {ln : ZR} {N : Nat} {z : ZZ} {v1 : Int} {v2 : Int} (hN : 151 ≤ N ∧ N < 999999) (hz : okz z) (rv1 : inR v1) (rv2 : inR v2) {p : Int} (h : fX1_mayEnroll v1 v2 z = some p) : X mX1_mayEnroll 0 (xEnt [.ref (3), .int (iN (v1)), .int (iN (v2))] (xL mX1_mayEnroll)) [] (zmk ln N z) (cc_b p) (6 * cc_b p) (Qd (fa_b p) (rs_b p) (st_b ln N z p)) := by
  have k : Fin_b (Qd (fa_b p) (rs_b p) (st_b ln N z p)) ln N z p := Fin_b_i
  unfold fX1_mayEnroll at h
  refine X_to (M := [some (.ref (3)), some (.int (iN (v1))), some (.int (iN (v2)))]) (su := []) rfl rfl ?_
  refine X_aload_n (pc' := 1) dX1_mayEnroll_0 rfl rfl ?_
  refine Y_get (pc' := 4) dX1_mayEnroll_1 rfl FX1_29 (zlN hN (by decide)) (congrArg Prod.fst (sh3 ln)) (ct3_4 z) ?_
  refine X_iload_n (pc' := 5) dX1_mayEnroll_4 rfl rfl ?_
  refine X_iconst (pc' := 6) dX1_mayEnroll_5 rfl ?_
  obtain ⟨r1, q1, h⟩ := bs h
  refine Y_callV [.int (iN (v1)), .int (iN (4))] (pc' := 9) dX1_mayEnroll_6 rfl VX1_73 (by decide) (zlN hN (by decide)) (congrArg Prod.fst (sh12 ln)) rfl rfl rfl (cs rfl) (cs rfl) rfl (CX4_get hN hz kT12 rv1 (inR_c (n := 4) rfl) q1) (Nat.zero_add _).symm (Nat.zero_add _).symm (fun f1 => ?_)
  refine X_iconst (pc' := 10) dX1_mayEnroll_9 rfl ?_
  refine X_icmp_ne dX1_mayEnroll_10 (tgt := 81) rfl (pc' := 13) rfl ⟨f1.1, f1.2, (inR_c (n := (-1)) rfl).1, (inR_c (n := (-1)) rfl).2⟩ (fun c2 => ?_) (fun c2 => ?_)
  · have h := if_f c2 h
    refine X_iconst (pc' := 82) dX1_mayEnroll_81 rfl ?_
    cases h
    exact X_zret dX1_mayEnroll_82 rfl (Or.inl rfl) (k (Or.inl rfl))
  have h := if_t c2 h
  refine X_aload_n (pc' := 14) dX1_mayEnroll_13 rfl rfl ?_
  refine Y_get (pc' := 17) dX1_mayEnroll_14 rfl FX1_29 (zlN hN (by decide)) (congrArg Prod.fst (sh3 ln)) (ct3_4 z) ?_
  refine X_iload_n (pc' := 18) dX1_mayEnroll_17 rfl rfl ?_
  refine X_iconst (pc' := 19) dX1_mayEnroll_18 rfl ?_
  obtain ⟨r3, q3, h⟩ := bs h
  refine Y_callV [.int (iN (v1)), .int (iN (1))] (pc' := 22) dX1_mayEnroll_19 rfl VX1_73 (by decide) (zlN hN (by decide)) (congrArg Prod.fst (sh12 ln)) rfl rfl rfl (cs rfl) (cs rfl) rfl (CX4_get hN hz kT12 rv1 (inR_c (n := 1) rfl) q3) (Nat.zero_add _).symm (Nat.zero_add _).symm (fun f3 => ?_)
  refine X_aload_n (pc' := 23) dX1_mayEnroll_22 rfl rfl ?_
  refine Y_get (pc' := 26) dX1_mayEnroll_23 rfl FX1_32 (zlN hN (by decide)) (congrArg Prod.fst (sh3 ln)) (ct3_5 z) ?_
  refine X_iload_n (pc' := 27) dX1_mayEnroll_26 rfl rfl ?_
  refine X_iconst (pc' := 28) dX1_mayEnroll_27 rfl ?_
  obtain ⟨r4, q4, h⟩ := bs h
  refine Y_callV [.int (iN (v2)), .int (iN (0))] (pc' := 31) dX1_mayEnroll_28 rfl VX1_73 (by decide) (zlN hN (by decide)) (congrArg Prod.fst (sh14 ln)) rfl rfl rfl (cs rfl) (cs rfl) rfl (CX4_get hN hz kT14 rv2 (inR_c (n := 0) rfl) q4) (Nat.zero_add _).symm (Nat.zero_add _).symm (fun f4 => ?_)
  refine X_iconst (pc' := 32) dX1_mayEnroll_31 rfl ?_
  refine X_isub (pc' := 33) dX1_mayEnroll_32 rfl ?_
  obtain ⟨g5, h⟩ := gs h
  refine X_icmp_ne dX1_mayEnroll_33 (tgt := 81) rfl (pc' := 36) rfl ⟨f3.1, f3.2, g5.1, g5.2⟩ (fun c6 => ?_) (fun c6 => ?_)
  · have h := if_f c6 h
    refine X_iconst (pc' := 82) dX1_mayEnroll_81 rfl ?_
    cases h
    exact X_zret dX1_mayEnroll_82 rfl (Or.inl rfl) (k (Or.inl rfl))
  have h := if_t c6 h
  refine X_aload_n (pc' := 37) dX1_mayEnroll_36 rfl rfl ?_
  refine Y_get (pc' := 40) dX1_mayEnroll_37 rfl FX1_29 (zlN hN (by decide)) (congrArg Prod.fst (sh3 ln)) (ct3_4 z) ?_
  refine X_iload_n (pc' := 41) dX1_mayEnroll_40 rfl rfl ?_
  refine X_iconst (pc' := 42) dX1_mayEnroll_41 rfl ?_
  obtain ⟨r7, q7, h⟩ := bs h
  refine Y_callV [.int (iN (v1)), .int (iN (2))] (pc' := 45) dX1_mayEnroll_42 rfl VX1_73 (by decide) (zlN hN (by decide)) (congrArg Prod.fst (sh12 ln)) rfl rfl rfl (cs rfl) (cs rfl) rfl (CX4_get hN hz kT12 rv1 (inR_c (n := 2) rfl) q7) (Nat.zero_add _).symm (Nat.zero_add _).symm (fun f7 => ?_)
  refine X_aload_n (pc' := 46) dX1_mayEnroll_45 rfl rfl ?_
  refine Y_get (pc' := 49) dX1_mayEnroll_46 rfl FX1_32 (zlN hN (by decide)) (congrArg Prod.fst (sh3 ln)) (ct3_5 z) ?_
  refine X_iload_n (pc' := 50) dX1_mayEnroll_49 rfl rfl ?_
  refine X_iconst (pc' := 51) dX1_mayEnroll_50 rfl ?_
  obtain ⟨r8, q8, h⟩ := bs h
  refine Y_callV [.int (iN (v2)), .int (iN (2))] (pc' := 54) dX1_mayEnroll_51 rfl VX1_73 (by decide) (zlN hN (by decide)) (congrArg Prod.fst (sh14 ln)) rfl rfl rfl (cs rfl) (cs rfl) rfl (CX4_get hN hz kT14 rv2 (inR_c (n := 2) rfl) q8) (Nat.zero_add _).symm (Nat.zero_add _).symm (fun f8 => ?_)
  refine X_icmp_lt dX1_mayEnroll_54 (tgt := 81) rfl (pc' := 57) rfl ⟨f7.1, f7.2, f8.1, f8.2⟩ (fun c9 => ?_) (fun c9 => ?_)
  · have h := if_t c9 h
    refine X_iconst (pc' := 82) dX1_mayEnroll_81 rfl ?_
    cases h
    exact X_zret dX1_mayEnroll_82 rfl (Or.inl rfl) (k (Or.inl rfl))
  have h := if_f (Int.not_lt.mpr c9) h
  refine X_aload_n (pc' := 58) dX1_mayEnroll_57 rfl rfl ?_
  refine X_iload_n (pc' := 59) dX1_mayEnroll_58 rfl rfl ?_
  obtain ⟨r10, q10, h⟩ := bs h
  refine Y_callV [.int (iN (v2))] (pc' := 62) dX1_mayEnroll_59 rfl VX1_188 (by decide) (zlN hN (by decide)) (congrArg Prod.fst (sh3 ln)) rfl rfl rfl (cs rfl) (cs rfl) rfl (CX1_membersIn hN hz rv2 q10) (Nat.zero_add _).symm (Nat.zero_add _).symm (fun f10 => ?_)
  obtain ⟨r11, q11, h⟩ := bs h
  refine Y_callS [.int (iN (r10))] (pc' := 65) dX1_mayEnroll_62 rfl SX1_174 (by decide) rfl (cs rfl) (cs rfl) rfl (CJ6_bitCount_0f7a4 hN hz f10 q11) (Nat.zero_add _).symm (Nat.zero_add _).symm (fun f11 => ?_)
  refine X_aload_n (pc' := 66) dX1_mayEnroll_65 rfl rfl ?_
  refine Y_get (pc' := 69) dX1_mayEnroll_66 rfl FX1_32 (zlN hN (by decide)) (congrArg Prod.fst (sh3 ln)) (ct3_5 z) ?_
  refine X_iload_n (pc' := 70) dX1_mayEnroll_69 rfl rfl ?_
  refine X_iconst (pc' := 71) dX1_mayEnroll_70 rfl ?_
  obtain ⟨r12, q12, h⟩ := bs h
  refine Y_callV [.int (iN (v2)), .int (iN (1))] (pc' := 74) dX1_mayEnroll_71 rfl VX1_73 (by decide) (zlN hN (by decide)) (congrArg Prod.fst (sh14 ln)) rfl rfl rfl (cs rfl) (cs rfl) rfl (CX4_get hN hz kT14 rv2 (inR_c (n := 1) rfl) q12) (Nat.zero_add _).symm (Nat.zero_add _).symm (fun f12 => ?_)
  refine X_icmp_ge dX1_mayEnroll_74 (tgt := 81) rfl (pc' := 77) rfl ⟨f11.1, f11.2, f12.1, f12.2⟩ (fun c13 => ?_) (fun c13 => ?_)
  · have h := if_f (Int.not_lt.mpr c13) h
    refine X_iconst (pc' := 82) dX1_mayEnroll_81 rfl ?_
    cases h
    exact X_zret dX1_mayEnroll_82 rfl (Or.inl rfl) (k (Or.inl rfl))
  have h := if_t c13 h
  refine X_iconst (pc' := 78) dX1_mayEnroll_77 rfl ?_
  refine X_goto dX1_mayEnroll_78 (tgt := 82) rfl ?_
  cases h
  exact X_zret dX1_mayEnroll_82 rfl (Or.inr rfl) (k (Or.inr rfl))
def fX1_routesOn_b31 (v1 : Int) (v2 : Int) (v3 : Int) (z : ZZ) : Option ((Int × Int) ⊕ (Int)) := (if inR ((v3 + 1)) then some (.inl (v2, (v3 + 1))) else none)
set_option maxRecDepth 100000 in
theorem BX1_routesOn_31 {ln : ZR} {N : Nat} {z : ZZ} {v1 : Int} {v2 : Int} {v3 : Int} {c9 s9 : Nat} {Φ : xRes → xS → Prop} (hN : 151 ≤ N ∧ N < 999999) (hz : okz z) (rv1 : inR v1) (rv2 : inR v2) (rv3 : inR v3) {p : (Int × Int) ⊕ (Int)} (h : fX1_routesOn_b31 v1 v2 v3 z = some p) (k1 : ∀ (v2' : Int) (v3' : Int), p = .inl (v2', v3') → inR v2' → inR v3' → X mX1_routesOn 4 [some (.ref (3)), some (.int (iN (v1))), some (.int (iN (v2'))), some (.int (iN (v3')))] [] (zmk ln N z) c9 s9 Φ) (k2 : ∀ (v2' : Int), p = .inr v2' → inR v2' → X mX1_routesOn 37 [none, none, some (.int (iN (v2'))), none] [] (zmk ln N z) c9 s9 Φ) : X mX1_routesOn 31 [some (.ref (3)), some (.int (iN (v1))), some (.int (iN (v2))), some (.int (iN (v3)))] [] (zmk ln N z) c9 s9 Φ := by
  unfold fX1_routesOn_b31 at h
  refine X_iinc (pc' := 34) dX1_routesOn_31 rfl rfl (Or.inr rfl) (L' := [some (.ref (3)), some (.int (iN (v1))), some (.int (iN (v2))), some (.int (iN (v3 + 1)))]) rfl ?_
  refine X_goto dX1_routesOn_34 (tgt := 4) rfl ?_
  obtain ⟨g1, h⟩ := gs h
  cases h
  exact X_sub (sub_s (sub_s (sub_s (sub_s sub_0)))) (k1 _ _ rfl rv2 g1)
def fX1_routesOn_s4 (v1 : Int) (v2 : Int) (v3 : Int) (z : ZZ) : Option ((Int × Int) ⊕ (Int)) := (if (v3) < ((z 6 3)) then (Option.bind (fX4_get 6 (v3) (0) z) fun r2 => (if (r2) = (v1) then (if inR ((v2 + 1)) then fX1_routesOn_b31 (v1) ((v2 + 1)) (v3) z else none) else fX1_routesOn_b31 (v1) (v2) (v3) z)) else some (.inr v2))
set_option maxRecDepth 100000 in
theorem SX1_routesOn_4 {ln : ZR} {N : Nat} {z : ZZ} {v1 : Int} {v2 : Int} {v3 : Int} {c9 s9 : Nat} {Φ : xRes → xS → Prop} (hN : 151 ≤ N ∧ N < 999999) (hz : okz z) (rv1 : inR v1) (rv2 : inR v2) (rv3 : inR v3) {p : (Int × Int) ⊕ (Int)} (h : fX1_routesOn_s4 v1 v2 v3 z = some p) (k1 : ∀ (v2' : Int) (v3' : Int), p = .inl (v2', v3') → inR v2' → inR v3' → X mX1_routesOn 4 [some (.ref (3)), some (.int (iN (v1))), some (.int (iN (v2'))), some (.int (iN (v3')))] [] (zmk ln N z) c9 s9 Φ) (k2 : ∀ (v2' : Int), p = .inr v2' → inR v2' → X mX1_routesOn 37 [none, none, some (.int (iN (v2'))), none] [] (zmk ln N z) c9 s9 Φ) : X mX1_routesOn 4 [some (.ref (3)), some (.int (iN (v1))), some (.int (iN (v2))), some (.int (iN (v3)))] [] (zmk ln N z) c9 s9 Φ := by
  unfold fX1_routesOn_s4 at h
  refine X_iload_n (pc' := 5) dX1_routesOn_4 rfl rfl ?_
  refine X_aload_n (pc' := 6) dX1_routesOn_5 rfl rfl ?_
  refine Y_get (pc' := 9) dX1_routesOn_6 rfl FX1_20 (zlN hN (by decide)) (congrArg Prod.fst (sh3 ln)) (ct3_1 z) ?_
  refine Y_get (pc' := 12) dX1_routesOn_9 rfl FX1_70 (zlN hN (by decide)) (congrArg Prod.fst (sh6 ln)) (ct6_3 z) ?_
  refine X_icmp_ge dX1_routesOn_12 (tgt := 37) rfl (pc' := 15) rfl ⟨rv3.1, rv3.2, (hz 6 3 (by decide)).1, (hz 6 3 (by decide)).2⟩ (fun c1 => ?_) (fun c1 => ?_)
  · have h := if_f (Int.not_lt.mpr c1) h
    cases h
    exact X_sub (sub_n (sub_n (sub_s (sub_n sub_0)))) (k2 _ rfl rv2)
  have h := if_t c1 h
  refine X_aload_n (pc' := 16) dX1_routesOn_15 rfl rfl ?_
  refine Y_get (pc' := 19) dX1_routesOn_16 rfl FX1_20 (zlN hN (by decide)) (congrArg Prod.fst (sh3 ln)) (ct3_1 z) ?_
  refine X_iload_n (pc' := 20) dX1_routesOn_19 rfl rfl ?_
  refine X_iconst (pc' := 21) dX1_routesOn_20 rfl ?_
  obtain ⟨r2, q2, h⟩ := bs h
  refine Y_callV [.int (iN (v3)), .int (iN (0))] (pc' := 24) dX1_routesOn_21 rfl VX1_73 (by decide) (zlN hN (by decide)) (congrArg Prod.fst (sh6 ln)) rfl rfl rfl (cs rfl) (cs rfl) rfl (CX4_get hN hz kT6 rv3 (inR_c (n := 0) rfl) q2) (Nat.zero_add _).symm (Nat.zero_add _).symm (fun f2 => ?_)
  refine X_iload_n (pc' := 25) dX1_routesOn_24 rfl rfl ?_
  refine X_icmp_ne dX1_routesOn_25 (tgt := 31) rfl (pc' := 28) rfl ⟨f2.1, f2.2, rv1.1, rv1.2⟩ (fun c3 => ?_) (fun c3 => ?_)
  · have h := if_f c3 h
    exact X_sub (sub_s (sub_s (sub_s (sub_s sub_0)))) (BX1_routesOn_31 hN hz rv1 rv2 rv3 h k1 k2)
  have h := if_t c3 h
  refine X_iinc (pc' := 31) dX1_routesOn_28 rfl rfl (Or.inr rfl) (L' := [some (.ref (3)), some (.int (iN (v1))), some (.int (iN (v2 + 1))), some (.int (iN (v3)))]) rfl ?_
  obtain ⟨g4, h⟩ := gs h
  exact X_sub (sub_s (sub_s (sub_s (sub_s sub_0)))) (BX1_routesOn_31 hN hz rv1 g4 rv3 h k1 k2)
theorem LX1_routesOn_4 {ln : ZR} {N : Nat} {z : ZZ} {v1 : Int} {c9 s9 : Nat} {Φ : xRes → xS → Prop} (hN : 151 ≤ N ∧ N < 999999) (hz : okz z) (rv1 : inR v1) {r : Int} (k2 : ∀ (v2' : Int), r = v2' → inR v2' → X mX1_routesOn 37 [none, none, some (.int (iN (v2'))), none] [] (zmk ln N z) c9 s9 Φ) : ∀ (n : Nat) (v2 : Int) (v3 : Int), inR v2 → inR v3 → zlp (fun q => fX1_routesOn_s4 v1 q.1 q.2 z) n (v2, v3) = some r → X mX1_routesOn 4 [some (.ref (3)), some (.int (iN (v1))), some (.int (iN (v2))), some (.int (iN (v3)))] [] (zmk ln N z) c9 s9 Φ := by
  intro n
  induction n with
  | zero => intro v2 v3 rv2 rv3 h; cases h
  | succ n ih =>
    intro v2 v3 rv2 rv3 h
    rcases zlp_s h with ⟨⟨v2', v3'⟩, e, h'⟩ | e
    · exact SX1_routesOn_4 hN hz rv1 rv2 rv3 e (fun v2₁ v3₁ hh f0 f1 => by cases hh; exact ih _ _ f0 f1 h') (fun v2₁ hh f0 => by cases hh)
    · exact SX1_routesOn_4 hN hz rv1 rv2 rv3 e (fun v2₁ v3₁ hh f0 f1 => by cases hh) (fun v2₁ hh f0 => by cases hh; exact k2 _ rfl f0)
def fX1_routesOn (v1 : Int) (z : ZZ) : Option (Int) := (Option.bind (zlp (fun q => fX1_routesOn_s4 (v1) q.1 q.2 z) FU (0, 0)) fun x1_v2 => some (x1_v2))
set_option maxRecDepth 100000 in
theorem CX1_routesOn {ln : ZR} {N : Nat} {z : ZZ} {v1 : Int} (hN : 151 ≤ N ∧ N < 999999) (hz : okz z) (rv1 : inR v1) {p : Int} (h : fX1_routesOn v1 z = some p) : X mX1_routesOn 0 (xEnt [.ref (3), .int (iN (v1))] (xL mX1_routesOn)) [] (zmk ln N z) (cc_r p) (6 * cc_r p) (Qd (fa_r p) (rs_r p) (st_r ln N z p)) := by
  have k : Fin_r (Qd (fa_r p) (rs_r p) (st_r ln N z p)) ln N z p := Fin_r_i
  unfold fX1_routesOn at h
  refine X_to (M := [some (.ref (3)), some (.int (iN (v1))), none, none]) (su := []) rfl rfl ?_
  refine X_iconst (pc' := 1) dX1_routesOn_0 rfl ?_
  refine X_istore_n (pc' := 2) dX1_routesOn_1 rfl (cl rfl) (Or.inr rfl) (L' := [some (.ref (3)), some (.int (iN (v1))), some (.int (iN (0))), none]) rfl ?_
  refine X_iconst (pc' := 3) dX1_routesOn_2 rfl ?_
  refine X_istore_n (pc' := 4) dX1_routesOn_3 rfl (cl rfl) (Or.inr rfl) (L' := [some (.ref (3)), some (.int (iN (v1))), some (.int (iN (0))), some (.int (iN (0)))]) rfl ?_
  obtain ⟨x1_v2, q1, h⟩ := bs h
  refine X_sub (sub_s (sub_s (sub_s (sub_s sub_0)))) (LX1_routesOn_4 hN hz rv1 (fun x1_v2₁ hh rx1_v2 => ?_) FU _ _ (inR_c (n := 0) rfl) (inR_c (n := 0) rfl) q1)
  cases hh
  refine X_iload_n (pc' := 38) dX1_routesOn_37 rfl rfl ?_
  cases h
  exact X_iret dX1_routesOn_38 rfl (k rx1_v2)
def fX1_votesFor_b34 (v1 : Int) (v2 : Int) (v3 : Int) (z : ZZ) : Option ((Int × Int) ⊕ (Int)) := (if inR ((v3 + 1)) then some (.inl (v2, (v3 + 1))) else none)
set_option maxRecDepth 100000 in
theorem BX1_votesFor_34 {ln : ZR} {N : Nat} {z : ZZ} {v1 : Int} {v2 : Int} {v3 : Int} {c9 s9 : Nat} {Φ : xRes → xS → Prop} (hN : 151 ≤ N ∧ N < 999999) (hz : okz z) (rv1 : inR v1) (rv2 : inR v2) (rv3 : inR v3) {p : (Int × Int) ⊕ (Int)} (h : fX1_votesFor_b34 v1 v2 v3 z = some p) (k1 : ∀ (v2' : Int) (v3' : Int), p = .inl (v2', v3') → inR v2' → inR v3' → X mX1_votesFor 4 [some (.ref (3)), some (.int (iN (v1))), some (.int (iN (v2'))), some (.int (iN (v3')))] [] (zmk ln N z) c9 s9 Φ) (k2 : ∀ (v2' : Int), p = .inr v2' → inR v2' → X mX1_votesFor 40 [none, none, some (.int (iN (v2'))), none] [] (zmk ln N z) c9 s9 Φ) : X mX1_votesFor 34 [some (.ref (3)), some (.int (iN (v1))), some (.int (iN (v2))), some (.int (iN (v3)))] [] (zmk ln N z) c9 s9 Φ := by
  unfold fX1_votesFor_b34 at h
  refine X_iinc (pc' := 37) dX1_votesFor_34 rfl rfl (Or.inr rfl) (L' := [some (.ref (3)), some (.int (iN (v1))), some (.int (iN (v2))), some (.int (iN (v3 + 1)))]) rfl ?_
  refine X_goto dX1_votesFor_37 (tgt := 4) rfl ?_
  obtain ⟨g1, h⟩ := gs h
  cases h
  exact X_sub (sub_s (sub_s (sub_s (sub_s sub_0)))) (k1 _ _ rfl rv2 g1)
def fX1_votesFor_s4 (v1 : Int) (v2 : Int) (v3 : Int) (z : ZZ) : Option ((Int × Int) ⊕ (Int)) := (if (v3) < ((z 12 3)) then (if inR ((6 + v3)) then (Option.bind (fX4_get 6 (v1) ((6 + v3)) z) fun r3 => (if (r3) = ((-1)) then fX1_votesFor_b34 (v1) (v2) (v3) z else (if inR ((v2 + 1)) then fX1_votesFor_b34 (v1) ((v2 + 1)) (v3) z else none))) else none) else some (.inr v2))
set_option maxRecDepth 100000 in
theorem SX1_votesFor_4 {ln : ZR} {N : Nat} {z : ZZ} {v1 : Int} {v2 : Int} {v3 : Int} {c9 s9 : Nat} {Φ : xRes → xS → Prop} (hN : 151 ≤ N ∧ N < 999999) (hz : okz z) (rv1 : inR v1) (rv2 : inR v2) (rv3 : inR v3) {p : (Int × Int) ⊕ (Int)} (h : fX1_votesFor_s4 v1 v2 v3 z = some p) (k1 : ∀ (v2' : Int) (v3' : Int), p = .inl (v2', v3') → inR v2' → inR v3' → X mX1_votesFor 4 [some (.ref (3)), some (.int (iN (v1))), some (.int (iN (v2'))), some (.int (iN (v3')))] [] (zmk ln N z) c9 s9 Φ) (k2 : ∀ (v2' : Int), p = .inr v2' → inR v2' → X mX1_votesFor 40 [none, none, some (.int (iN (v2'))), none] [] (zmk ln N z) c9 s9 Φ) : X mX1_votesFor 4 [some (.ref (3)), some (.int (iN (v1))), some (.int (iN (v2))), some (.int (iN (v3)))] [] (zmk ln N z) c9 s9 Φ := by
  unfold fX1_votesFor_s4 at h
  refine X_iload_n (pc' := 5) dX1_votesFor_4 rfl rfl ?_
  refine X_aload_n (pc' := 6) dX1_votesFor_5 rfl rfl ?_
  refine Y_get (pc' := 9) dX1_votesFor_6 rfl FX1_29 (zlN hN (by decide)) (congrArg Prod.fst (sh3 ln)) (ct3_4 z) ?_
  refine Y_get (pc' := 12) dX1_votesFor_9 rfl FX1_70 (zlN hN (by decide)) (congrArg Prod.fst (sh12 ln)) (ct12_3 z) ?_
  refine X_icmp_ge dX1_votesFor_12 (tgt := 40) rfl (pc' := 15) rfl ⟨rv3.1, rv3.2, (hz 12 3 (by decide)).1, (hz 12 3 (by decide)).2⟩ (fun c1 => ?_) (fun c1 => ?_)
  · have h := if_f (Int.not_lt.mpr c1) h
    cases h
    exact X_sub (sub_n (sub_n (sub_s (sub_n sub_0)))) (k2 _ rfl rv2)
  have h := if_t c1 h
  refine X_aload_n (pc' := 16) dX1_votesFor_15 rfl rfl ?_
  refine Y_get (pc' := 19) dX1_votesFor_16 rfl FX1_20 (zlN hN (by decide)) (congrArg Prod.fst (sh3 ln)) (ct3_1 z) ?_
  refine X_iload_n (pc' := 20) dX1_votesFor_19 rfl rfl ?_
  refine X_bipush (pc' := 22) dX1_votesFor_20 rfl (by decide) ?_
  refine X_iload_n (pc' := 23) dX1_votesFor_22 rfl rfl ?_
  refine X_iadd (pc' := 24) dX1_votesFor_23 rfl ?_
  obtain ⟨g2, h⟩ := gs h
  obtain ⟨r3, q3, h⟩ := bs h
  refine Y_callV [.int (iN (v1)), .int (iN ((6 + v3)))] (pc' := 27) dX1_votesFor_24 rfl VX1_73 (by decide) (zlN hN (by decide)) (congrArg Prod.fst (sh6 ln)) rfl rfl rfl (cs rfl) (cs rfl) rfl (CX4_get hN hz kT6 rv1 g2 q3) (Nat.zero_add _).symm (Nat.zero_add _).symm (fun f3 => ?_)
  refine X_iconst (pc' := 28) dX1_votesFor_27 rfl ?_
  refine X_icmp_eq dX1_votesFor_28 (tgt := 34) rfl (pc' := 31) rfl ⟨f3.1, f3.2, (inR_c (n := (-1)) rfl).1, (inR_c (n := (-1)) rfl).2⟩ (fun c4 => ?_) (fun c4 => ?_)
  · have h := if_t c4 h
    exact X_sub (sub_s (sub_s (sub_s (sub_s sub_0)))) (BX1_votesFor_34 hN hz rv1 rv2 rv3 h k1 k2)
  have h := if_f c4 h
  refine X_iinc (pc' := 34) dX1_votesFor_31 rfl rfl (Or.inr rfl) (L' := [some (.ref (3)), some (.int (iN (v1))), some (.int (iN (v2 + 1))), some (.int (iN (v3)))]) rfl ?_
  obtain ⟨g5, h⟩ := gs h
  exact X_sub (sub_s (sub_s (sub_s (sub_s sub_0)))) (BX1_votesFor_34 hN hz rv1 g5 rv3 h k1 k2)
theorem LX1_votesFor_4 {ln : ZR} {N : Nat} {z : ZZ} {v1 : Int} {c9 s9 : Nat} {Φ : xRes → xS → Prop} (hN : 151 ≤ N ∧ N < 999999) (hz : okz z) (rv1 : inR v1) {r : Int} (k2 : ∀ (v2' : Int), r = v2' → inR v2' → X mX1_votesFor 40 [none, none, some (.int (iN (v2'))), none] [] (zmk ln N z) c9 s9 Φ) : ∀ (n : Nat) (v2 : Int) (v3 : Int), inR v2 → inR v3 → zlp (fun q => fX1_votesFor_s4 v1 q.1 q.2 z) n (v2, v3) = some r → X mX1_votesFor 4 [some (.ref (3)), some (.int (iN (v1))), some (.int (iN (v2))), some (.int (iN (v3)))] [] (zmk ln N z) c9 s9 Φ := by
  intro n
  induction n with
  | zero => intro v2 v3 rv2 rv3 h; cases h
  | succ n ih =>
    intro v2 v3 rv2 rv3 h
    rcases zlp_s h with ⟨⟨v2', v3'⟩, e, h'⟩ | e
    · exact SX1_votesFor_4 hN hz rv1 rv2 rv3 e (fun v2₁ v3₁ hh f0 f1 => by cases hh; exact ih _ _ f0 f1 h') (fun v2₁ hh f0 => by cases hh)
    · exact SX1_votesFor_4 hN hz rv1 rv2 rv3 e (fun v2₁ v3₁ hh f0 f1 => by cases hh) (fun v2₁ hh f0 => by cases hh; exact k2 _ rfl f0)
def fX1_votesFor (v1 : Int) (z : ZZ) : Option (Int) := (Option.bind (zlp (fun q => fX1_votesFor_s4 (v1) q.1 q.2 z) FU (0, 0)) fun x1_v2 => some (x1_v2))
set_option maxRecDepth 100000 in
theorem CX1_votesFor {ln : ZR} {N : Nat} {z : ZZ} {v1 : Int} (hN : 151 ≤ N ∧ N < 999999) (hz : okz z) (rv1 : inR v1) {p : Int} (h : fX1_votesFor v1 z = some p) : X mX1_votesFor 0 (xEnt [.ref (3), .int (iN (v1))] (xL mX1_votesFor)) [] (zmk ln N z) (cc_r p) (6 * cc_r p) (Qd (fa_r p) (rs_r p) (st_r ln N z p)) := by
  have k : Fin_r (Qd (fa_r p) (rs_r p) (st_r ln N z p)) ln N z p := Fin_r_i
  unfold fX1_votesFor at h
  refine X_to (M := [some (.ref (3)), some (.int (iN (v1))), none, none]) (su := []) rfl rfl ?_
  refine X_iconst (pc' := 1) dX1_votesFor_0 rfl ?_
  refine X_istore_n (pc' := 2) dX1_votesFor_1 rfl (cl rfl) (Or.inr rfl) (L' := [some (.ref (3)), some (.int (iN (v1))), some (.int (iN (0))), none]) rfl ?_
  refine X_iconst (pc' := 3) dX1_votesFor_2 rfl ?_
  refine X_istore_n (pc' := 4) dX1_votesFor_3 rfl (cl rfl) (Or.inr rfl) (L' := [some (.ref (3)), some (.int (iN (v1))), some (.int (iN (0))), some (.int (iN (0)))]) rfl ?_
  obtain ⟨x1_v2, q1, h⟩ := bs h
  refine X_sub (sub_s (sub_s (sub_s (sub_s sub_0)))) (LX1_votesFor_4 hN hz rv1 (fun x1_v2₁ hh rx1_v2 => ?_) FU _ _ (inR_c (n := 0) rfl) (inR_c (n := 0) rfl) q1)
  cases hh
  refine X_iload_n (pc' := 41) dX1_votesFor_40 rfl rfl ?_
  cases h
  exact X_iret dX1_votesFor_41 rfl (k rx1_v2)

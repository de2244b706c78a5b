/-! type, isWrong, texts, call -/
def fL_type_b58 (v1 : Int) (v3 : Int) (v5 : Int) (s0 : Int) (s1 : Int) (ln : Nat) (z : ZZ) (D : DD) : Option ((Int × Int) ⊕ (Int)) := (if inR ((v5 + 1)) then some (.inl ((zor s0 s1), (v5 + 1))) else none)
set_option maxRecDepth 100000 in
theorem BL_type_58 {ln : Nat} {D : DD} {z : ZZ} {c0 : Nat} {v1 : Int} {v3 : Int} {v5 : Int} {s0 : Int} {s1 : Int} {Φ : xRes → xS → Prop} (hD : okD D) (hz : okz z) (rv1 : gdV D v1) (rv3 : inR v3) (rv5 : inR v5) (rs0 : inR s0) (rs1 : inR s1) {p : (Int × Int) ⊕ (Int)} (h : fL_type_b58 v1 v3 v5 s0 s1 ln z D = some p) (k1 : ∀ (v4' : Int) (v5' : Int), p = .inl (v4', v5') → inR v4' → inR v5' → X mL_type 24 [some (.ref 0), some (rV (v1)), none, some (.int (iN (v3))), some (.int (iN (v4'))), some (.int (iN (v5')))] [] (sD ln D z) c0 (6 * c0) Φ) (k2 : ∀ (v4' : Int), p = .inr v4' → inR v4' → X mL_type 67 [some (.ref 0), some (rV (v1)), none, some (.int (iN (v3))), some (.int (iN (v4'))), none] [] (sD ln D z) c0 (6 * c0) Φ) : X mL_type 58 [some (.ref 0), some (rV (v1)), none, some (.int (iN (v3))), none, some (.int (iN (v5)))] [.int (iN (s1)), .int (iN (s0))] (sD ln D z) c0 (6 * c0) Φ := by
  unfold fL_type_b58 at h
  refine X_ior (pc' := 59) dL_type_58 rfl ?_
  refine X_istore (pc' := 61) dL_type_59 rfl (cl rfl) (Or.inr rfl) (L' := [some (.ref 0), some (rV (v1)), none, some (.int (iN (v3))), some (.int (iN ((zor s0 s1)))), some (.int (iN (v5)))]) rfl ?_
  refine X_iinc (pc' := 64) dL_type_61 rfl rfl (Or.inr rfl) (L' := [some (.ref 0), some (rV (v1)), none, some (.int (iN (v3))), some (.int (iN ((zor s0 s1)))), some (.int (iN (v5 + 1)))]) rfl ?_
  refine X_goto dL_type_64 (tgt := 24) rfl ?_
  obtain ⟨g1, h⟩ := gs h
  cases h
  exact X_sub (sub_s (sub_s (sub_n (sub_s (sub_s (sub_s sub_0)))))) (k1 _ _ rfl (inR_zor _ _) g1)
def fL_type_s24 (v1 : Int) (v3 : Int) (v4 : Int) (v5 : Int) (ln : Nat) (z : ZZ) (D : DD) : Option ((Int × Int) ⊕ (Int)) := (if (v5) < (4) then (Option.bind (fJ0_length_8abf5 (v1) D) fun r2 => (if isStr (v1) ∨ dO D (v1) 18 then (if inR ((v3 + v5)) then (if ((v3 + v5)) < (r2) then (Option.bind (fJ0_charAt_5068e_Z (v1) ((v3 + v5)) D) fun r6 => fL_type_b58 (v1) (v3) (v5) ((zshl v4 8)) (r6) ln z D) else fL_type_b58 (v1) (v3) (v5) ((zshl v4 8)) (0) ln z D) else none) else none)) else some (.inr v4))
set_option maxRecDepth 100000 in
theorem SL_type_24 {ln : Nat} {D : DD} {z : ZZ} {c0 : Nat} {v1 : Int} {v3 : Int} {v4 : Int} {v5 : Int} {Φ : xRes → xS → Prop} (hD : okD D) (hz : okz z) (rv1 : gdV D v1) (rv3 : inR v3) (rv4 : inR v4) (rv5 : inR v5) {p : (Int × Int) ⊕ (Int)} (h : fL_type_s24 v1 v3 v4 v5 ln z D = some p) (k1 : ∀ (v4' : Int) (v5' : Int), p = .inl (v4', v5') → inR v4' → inR v5' → X mL_type 24 [some (.ref 0), some (rV (v1)), none, some (.int (iN (v3))), some (.int (iN (v4'))), some (.int (iN (v5')))] [] (sD ln D z) c0 (6 * c0) Φ) (k2 : ∀ (v4' : Int), p = .inr v4' → inR v4' → X mL_type 67 [some (.ref 0), some (rV (v1)), none, some (.int (iN (v3))), some (.int (iN (v4'))), none] [] (sD ln D z) c0 (6 * c0) Φ) : X mL_type 24 [some (.ref 0), some (rV (v1)), none, some (.int (iN (v3))), some (.int (iN (v4))), some (.int (iN (v5)))] [] (sD ln D z) c0 (6 * c0) Φ := by
  unfold fL_type_s24 at h
  refine X_iload (pc' := 26) dL_type_24 rfl rfl ?_
  refine X_iconst (pc' := 27) dL_type_26 rfl ?_
  refine X_icmp_ge dL_type_27 (tgt := 67) rfl (pc' := 30) rfl ⟨rv5.1, rv5.2, (inR_c (n := 4) rfl).1, (inR_c (n := 4) rfl).2⟩ (fun c1 => ?_) (fun c1 => ?_)
  · have h := if_f (Int.not_lt.mpr c1) h
    cases h
    exact X_sub (sub_s (sub_s (sub_n (sub_s (sub_s (sub_n sub_0)))))) (k2 _ rfl rv4)
  have h := if_t c1 h
  refine X_iload (pc' := 32) dL_type_30 rfl rfl ?_
  refine X_bipush (pc' := 34) dL_type_32 rfl (by decide) ?_
  refine X_ishl (pc' := 35) dL_type_34 rfl ?_
  refine X_iload_n (pc' := 36) dL_type_35 rfl rfl ?_
  refine X_iload (pc' := 38) dL_type_36 rfl rfl ?_
  refine X_iadd (pc' := 39) dL_type_38 rfl ?_
  refine E_aload_n (pc' := 40) dL_type_39 rfl rfl ?_
  obtain ⟨r2, q2, h⟩ := bs h
  obtain ⟨g3, h⟩ := gs h
  refine E0_callV [] (pc' := 43) dL_type_40 rfl (xVc VL_34) (by decide) (str_recv hD g3) rfl c1_n (cs rfl) (c1_i (c1_i c1_n)) (cs rfl) rfl hD (ZJ0_length_8abf5 hD rv1 q2) (fun a2 b2 f2 => ?_)
  obtain ⟨g5, h⟩ := gs h
  refine X_icmp_ge dL_type_43 (tgt := 57) rfl (pc' := 46) rfl ⟨g5.1, g5.2, f2.1, f2.2⟩ (fun c4 => ?_) (fun c4 => ?_)
  · have h := if_f (Int.not_lt.mpr c4) h
    refine X_iconst (pc' := 58) dL_type_57 rfl ?_
    exact X_sub (sub_s (sub_s (sub_n (sub_s (sub_n (sub_s sub_0)))))) (BL_type_58 hD hz rv1 rv3 rv5 (inR_zshl _ _) (inR_c (n := 0) rfl) h k1 k2)
  have h := if_t c4 h
  refine E_aload_n (pc' := 47) dL_type_46 rfl rfl ?_
  refine X_iload_n (pc' := 48) dL_type_47 rfl rfl ?_
  refine X_iload (pc' := 50) dL_type_48 rfl rfl ?_
  refine X_iadd (pc' := 51) dL_type_50 rfl ?_
  obtain ⟨r6, q6, h⟩ := bs h
  refine E0_callV [.int (iN ((v3 + v5)))] (pc' := 54) dL_type_51 rfl (xVc VL_39) (by decide) (str_recv hD g3) rfl (c1_i c1_n) (cs rfl) (c1_i c1_n) (cs rfl) rfl hD (ZJ0_charAt_5068e_Z hD rv1 g5 q6) (fun a6 b6 f6 => ?_)
  refine X_goto dL_type_54 (tgt := 58) rfl ?_
  exact X_sub (sub_s (sub_s (sub_n (sub_s (sub_n (sub_s sub_0)))))) (BL_type_58 hD hz rv1 rv3 rv5 (inR_zshl _ _) f6 h k1 k2)
theorem LL_type_24 {ln : Nat} {D : DD} {c0 : Nat} {z : ZZ} {v1 : Int} {v3 : Int} {Φ : xRes → xS → Prop} {r : Int} (hD : okD D) : ∀ (n : Nat) (v4 : Int) (v5 : Int), okz z → gdV D v1 → inR v3 → inR v4 → inR v5 → zlp (fun q => fL_type_s24 v1 v3 q.1 q.2 ln z D) n (v4, v5) = some r → (∀ (v4' : Int), r = v4' → inR v4' → X mL_type 67 [some (.ref 0), some (rV (v1)), none, some (.int (iN (v3))), some (.int (iN (v4'))), none] [] (sD ln D z) c0 (6 * c0) Φ) → X mL_type 24 [some (.ref 0), some (rV (v1)), none, some (.int (iN (v3))), some (.int (iN (v4))), some (.int (iN (v5)))] [] (sD ln D z) c0 (6 * c0) Φ := by
  intro n
  induction n with
  | zero => intro v4 v5 hz rv1 rv3 rv4 rv5 h k2; cases h
  | succ n ih =>
    intro v4 v5 hz rv1 rv3 rv4 rv5 h k2
    rcases zlp_s h with ⟨⟨v4', v5'⟩, e, h'⟩ | e
    · exact SL_type_24 hD hz rv1 rv3 rv4 rv5 e (fun v4₁ v5₁ hh f0 f1 => by cases hh; exact ih _ _ hz rv1 rv3 f0 f1 h' k2) (fun x0 hh => by cases hh)
    · exact SL_type_24 hD hz rv1 rv3 rv4 rv5 e (fun v4₁ v5₁ hh => by cases hh) (fun x0 hh y0 => by cases hh; exact k2 _ rfl y0)
def fL_type_s10 (v1 : Int) (v2 : Int) (v3 : Int) (ln : Nat) (z : ZZ) (D : DD) : Option ((Int × Int × ZZ) ⊕ (Int × ZZ)) := (Option.bind (fJ0_length_8abf5 (v1) D) fun r1 => (if isStr (v1) ∨ dO D (v1) 18 then (if (v3) < (r1) then (Option.bind (zlp (fun q => fL_type_s24 (v1) (v3) q.1 q.2 ln z D) FU (0, 0)) fun x4_v4 => (Option.bind (fL_append (x4_v4) z) fun q5 => match q5 with | (r5, z5, j5) => (if j5 = 0 then (if inR ((v3 + 4)) then some (.inl (r5, (v3 + 4), z5)) else none) else none))) else some (.inr (v2, z))) else none))
set_option maxRecDepth 100000 in
theorem SL_type_10 {ln : Nat} {D : DD} {z : ZZ} {c0 : Nat} {v1 : Int} {v2 : Int} {v3 : Int} {Φ : xRes → xS → Prop} (hD : okD D) (hz : okz z) (rv1 : gdV D v1) (rv2 : inR v2) (rv3 : inR v3) {p : (Int × Int × ZZ) ⊕ (Int × ZZ)} (h : fL_type_s10 v1 v2 v3 ln z D = some p) (k1 : ∀ (v2' : Int) (v3' : Int) (z' : ZZ), p = .inl (v2', v3', z') → okz z' → inR v2' → inR v3' → X mL_type 10 [some (.ref 0), some (rV (v1)), some (.int (iN (v2'))), some (.int (iN (v3'))), none, none] [] (sD ln D z') c0 (6 * c0) Φ) (k2 : ∀ (v2' : Int) (z' : ZZ), p = .inr (v2', z') → okz z' → inR v2' → X mL_type 80 [none, some (rV (v1)), some (.int (iN (v2'))), none, none, none] [] (sD ln D z') c0 (6 * c0) Φ) : X mL_type 10 [some (.ref 0), some (rV (v1)), some (.int (iN (v2))), some (.int (iN (v3))), none, none] [] (sD ln D z) c0 (6 * c0) Φ := by
  unfold fL_type_s10 at h
  refine X_iload_n (pc' := 11) dL_type_10 rfl rfl ?_
  refine E_aload_n (pc' := 12) dL_type_11 rfl rfl ?_
  obtain ⟨r1, q1, h⟩ := bs h
  obtain ⟨g2, h⟩ := gs h
  refine E0_callV [] (pc' := 15) dL_type_12 rfl (xVc VL_34) (by decide) (str_recv hD g2) rfl c1_n (cs rfl) (c1_i c1_n) (cs rfl) rfl hD (ZJ0_length_8abf5 hD rv1 q1) (fun a1 b1 f1 => ?_)
  refine X_icmp_ge dL_type_15 (tgt := 80) rfl (pc' := 18) rfl ⟨rv3.1, rv3.2, f1.1, f1.2⟩ (fun c3 => ?_) (fun c3 => ?_)
  · have h := if_f (Int.not_lt.mpr c3) h
    cases h
    exact X_sub (sub_n (sub_s (sub_s (sub_n (sub_n (sub_n sub_0)))))) (k2 _ _ rfl hz rv2)
  have h := if_t c3 h
  refine X_iconst (pc' := 19) dL_type_18 rfl ?_
  refine X_istore (pc' := 21) dL_type_19 rfl (cl rfl) (Or.inr rfl) (L' := [some (.ref 0), some (rV (v1)), some (.int (iN (v2))), some (.int (iN (v3))), some (.int (iN (0))), none]) rfl ?_
  refine X_iconst (pc' := 22) dL_type_21 rfl ?_
  refine X_istore (pc' := 24) dL_type_22 rfl (cl rfl) (Or.inr rfl) (L' := [some (.ref 0), some (rV (v1)), some (.int (iN (v2))), some (.int (iN (v3))), some (.int (iN (0))), some (.int (iN (0)))]) rfl ?_
  obtain ⟨x4_v4, q4, h⟩ := bs h
  refine X_sub (sub_s (sub_s (sub_n (sub_s (sub_s (sub_s sub_0)))))) (LL_type_24 hD FU _ _ hz rv1 rv3 (inR_c (n := 0) rfl) (inR_c (n := 0) rfl) q4 (fun x4_v4₁ hh rx4_v4 => ?_))
  cases hh
  refine X_aload_n (pc' := 68) dL_type_67 rfl rfl ?_
  refine X_iload (pc' := 70) dL_type_68 rfl rfl ?_
  obtain ⟨⟨r5, z5, j5⟩, q5, h⟩ := bs h
  obtain ⟨g6, h⟩ := gs h
  rw [g6] at q5
  refine E0_callH (k := 0) (c7 := c0) [.ref 0, .int (iN (x4_v4))] (pc' := 73) dL_type_70 rfl SL_43 (by decide) rfl (c1_f rfl (c1_i c1_n)) (cs rfl) c1_n (cs rfl) rfl (CL_append hD hz rx4_v4 q5) (Nat.zero_add _).symm (fun f5 => ?_)
  refine X_istore_n (pc' := 74) dL_type_73 rfl (cl rfl) (Or.inr (xC1_R _)) (L' := [some (.ref 0), some (rV (v1)), some (.int (iN (r5))), some (.int (iN (v3))), some (.int (iN (x4_v4))), none]) rfl ?_
  refine X_iinc (pc' := 77) dL_type_74 rfl rfl (Or.inr rfl) (L' := [some (.ref 0), some (rV (v1)), some (.int (iN (r5))), some (.int (iN (v3 + 4))), some (.int (iN (x4_v4))), none]) rfl ?_
  refine X_goto dL_type_77 (tgt := 10) rfl ?_
  obtain ⟨g7, h⟩ := gs h
  cases h
  exact X_sub (sub_s (sub_s (sub_s (sub_s (sub_n (sub_n sub_0)))))) (k1 _ _ _ rfl f5.1 f5.2 g7)
theorem LL_type_10 {ln : Nat} {D : DD} {c0 : Nat} {v1 : Int} {Φ : xRes → xS → Prop} {r : Int × ZZ} (hD : okD D) : ∀ (n : Nat) (v2 : Int) (v3 : Int) (z : ZZ), okz z → gdV D v1 → inR v2 → inR v3 → zlp (fun q => fL_type_s10 v1 q.1 q.2.1 ln q.2.2 D) n (v2, v3, z) = some r → (∀ (v2' : Int) (z' : ZZ), r = (v2', z') → okz z' → inR v2' → X mL_type 80 [none, some (rV (v1)), some (.int (iN (v2'))), none, none, none] [] (sD ln D z') c0 (6 * c0) Φ) → X mL_type 10 [some (.ref 0), some (rV (v1)), some (.int (iN (v2))), some (.int (iN (v3))), none, none] [] (sD ln D z) c0 (6 * c0) Φ := by
  intro n
  induction n with
  | zero => intro v2 v3 z hz rv1 rv2 rv3 h k2; cases h
  | succ n ih =>
    intro v2 v3 z hz rv1 rv2 rv3 h k2
    rcases zlp_s h with ⟨⟨v2', v3', z'⟩, e, h'⟩ | e
    · exact SL_type_10 hD hz rv1 rv2 rv3 e (fun v2₁ v3₁ z₁ hh a f0 f1 => by cases hh; exact ih _ _ _ a rv1 f0 f1 h' k2) (fun x0 z9 hh => by cases hh)
    · exact SL_type_10 hD hz rv1 rv2 rv3 e (fun v2₁ v3₁ z₁ hh => by cases hh) (fun x0 z9 hh a y0 => by cases hh; exact k2 _ _ rfl a y0)
def fL_type (v1 : Int) (ln : Nat) (z : ZZ) (D : DD) : Option (Int × ZZ) := (Option.bind (fX5_truncate (0) z) fun q1 => match q1 with | (.inr _, _) => none | (.inl r1, z1) => (Option.bind (zlp (fun q => fL_type_s10 (v1) q.1 q.2.1 ln q.2.2 D) FU (0, 0, z1)) fun q2 => match q2 with | (x2_v2, z2) => (Option.bind (fJ0_length_8abf5 (v1) D) fun r3 => (if isStr (v1) ∨ dO D (v1) 18 then (if (x2_v2) = (r3) then some (1, z2) else none) else none))))
set_option maxRecDepth 100000 in
theorem CL_type {ln : Nat} {D : DD} {z : ZZ} {v1 : Int} (hD : okD D) (hz : okz z) (rv1 : gdV D v1) {p : Int × ZZ} (h : fL_type v1 ln z D = some p) : X mL_type 0 (xEnt [.ref 0, rV (v1)] (xL mL_type)) [] (sD ln D z) 0 (6 * 0) (Qd (okz p.2 ∧ (p.1 = 0 ∨ p.1 = 1)) (.inl (some (.int (iN p.1)))) (sD ln (djn 0 D) p.2)) := by
  have k : K_mb (Qd (okz p.2 ∧ (p.1 = 0 ∨ p.1 = 1)) (.inl (some (.int (iN p.1)))) (sD ln (djn 0 D) p.2)) ln (djn 0 D) p := fun a b => ⟨⟨a, b⟩, rfl, rfl⟩
  unfold fL_type at h
  refine E_ent (c1_f rfl (c1_r c1_n)) (M := [some (.ref 0), some (rV (v1)), none, none, none, none]) rfl ?_
  refine X_aload_n (pc' := 1) dL_type_0 rfl rfl ?_
  refine X_iconst (pc' := 2) dL_type_1 rfl ?_
  obtain ⟨⟨r1 | E1, z1⟩, q1, h⟩ := bs h
  rotate_left
  · cases h
  refine E0_callM [.int (iN (0))] (pc' := 5) dL_type_2 rfl VL_30 (by decide) rfl rfl (c1_i c1_n) (cs rfl) c1_n (cs rfl) rfl hD (show X mX5_truncate 0 (xEnt [.ref 0, .int (iN (0))] (xL mX5_truncate)) [] (zmk (ln, D) (dT D).toNat z) 0 0 (Qd (inR r1 ∧ okz z1) (.inl (some (.int (iN r1)))) (zmk (ln, D) (dT D).toNat z1)) from CX5_truncate (hNm (ln := ln) hD) hz (inR_c (n := 0) rfl) q1) (fun f1 => ?_)
  refine X_pop (pc' := 6) dL_type_5 rfl rfl ?_
  refine X_iconst (pc' := 7) dL_type_6 rfl ?_
  refine X_istore_n (pc' := 8) dL_type_7 rfl (cl rfl) (Or.inr (xC1_R _)) (L' := [some (.ref 0), some (rV (v1)), some (.int (iN (0))), none, none, none]) rfl ?_
  refine X_iconst (pc' := 9) dL_type_8 rfl ?_
  refine X_istore_n (pc' := 10) dL_type_9 rfl (cl rfl) (Or.inr rfl) (L' := [some (.ref 0), some (rV (v1)), some (.int (iN (0))), some (.int (iN (0))), none, none]) rfl ?_
  obtain ⟨⟨x2_v2, z2⟩, q2, h⟩ := bs h
  refine X_sub (sub_s (sub_s (sub_s (sub_s (sub_n (sub_n sub_0)))))) (LL_type_10 hD FU _ _ _ f1.2 rv1 (inR_c (n := 0) rfl) (inR_c (n := 0) rfl) q2 (fun x2_v2₁ z2₁ hh hz2 rx2_v2 => ?_))
  cases hh
  refine X_iload_n (pc' := 81) dL_type_80 rfl rfl ?_
  refine E_aload_n (pc' := 82) dL_type_81 rfl rfl ?_
  obtain ⟨r3, q3, h⟩ := bs h
  obtain ⟨g4, h⟩ := gs h
  refine E0_callV [] (pc' := 85) dL_type_82 rfl (xVc VL_34) (by decide) (str_recv hD g4) rfl c1_n (cs rfl) (c1_i c1_n) (cs rfl) rfl hD (ZJ0_length_8abf5 hD rv1 q3) (fun a3 b3 f3 => ?_)
  refine X_icmp_ne dL_type_85 (tgt := 92) rfl (pc' := 88) rfl ⟨rx2_v2.1, rx2_v2.2, f3.1, f3.2⟩ (fun c5 => ?_) (fun c5 => ?_)
  · have h := if_f c5 h
    cases h
  have h := if_t c5 h
  refine X_iconst (pc' := 89) dL_type_88 rfl ?_
  refine X_goto dL_type_89 (tgt := 93) rfl ?_
  cases h
  exact X_zret dL_type_93 rfl (Or.inr rfl) (k hz2 (Or.inr rfl))
def fL_isWrong (v1 : Int) (v2 : Int) (ln : Nat) (z : ZZ) (D : DD) : Option (Int × ZZ) := (Option.bind (fL_type (v1) ln z D) fun q1 => match q1 with | (r1, z1) => (if (r1) = (0) then none else (Option.bind (fX5_errorPosition z1) fun q3 => match q3 with | (r3, z3) => (if (r3) = (v2) then (Option.bind (fL_load z3) fun q5 => match q5 with | (r5, z5, j5) => (if j5 = 1 then (if (r5) = ((-1000000002)) then some (1, z5) else none) else none)) else none))))
set_option maxRecDepth 100000 in
theorem CL_isWrong {ln : Nat} {D : DD} {z : ZZ} {v1 : Int} {v2 : Int} (hD : okD D) (hz : okz z) (hJ : dT D + 1 ≤ 600000 ∧ dS D + 6 * 1 ≤ 7200000) (rv1 : gdV D v1) (rv2 : inR v2) {p : Int × ZZ} (h : fL_isWrong v1 v2 ln z D = some p) : X mL_isWrong 0 (xEnt [.ref 0, rV (v1), .int (iN (v2))] (xL mL_isWrong)) [] (sD ln D z) 1 (6 * 1) (Qd (okz p.2 ∧ (p.1 = 0 ∨ p.1 = 1)) (.inl (some (.int (iN p.1)))) (sD ln (djn 1 D) p.2)) := by
  have k : K_mb (Qd (okz p.2 ∧ (p.1 = 0 ∨ p.1 = 1)) (.inl (some (.int (iN p.1)))) (sD ln (djn 1 D) p.2)) ln (djn 1 D) p := fun a b => ⟨⟨a, b⟩, rfl, rfl⟩
  unfold fL_isWrong at h
  refine E_ent (c1_f rfl (c1_r (c1_i c1_n))) (M := [some (.ref 0), some (rV (v1)), some (.int (iN (v2)))]) rfl ?_
  refine X_aload_n (pc' := 1) dL_isWrong_0 rfl rfl ?_
  refine E_aload_n (pc' := 2) dL_isWrong_1 rfl rfl ?_
  obtain ⟨⟨r1, z1⟩, q1, h⟩ := bs h
  refine E0_callJ (k := 0) (c7 := 1) [.ref 0, rV (v1)] (pc' := 5) dL_isWrong_2 rfl SL_257 (by decide) rfl (c1_f rfl (c1_r c1_n)) (cs rfl) c1_n (cs rfl) rfl (CL_type hD hz rv1 q1) rfl (fun f1 => ?_)
  refine X_if_eq dL_isWrong_5 (tgt := 29) rfl (pc' := 8) rfl (inR_b f1.2) (fun c2 => ?_) (fun c2 => ?_)
  · have h := if_t c2 h
    cases h
  have h := if_f c2 h
  refine X_aload_n (pc' := 9) dL_isWrong_8 rfl rfl ?_
  obtain ⟨⟨r3, z3⟩, q3, h⟩ := bs h
  refine E0_callM [] (pc' := 12) dL_isWrong_9 rfl VL_261 (by decide) rfl rfl c1_n (cs rfl) c1_n (cs rfl) rfl hD (show X mX5_errorPosition 0 (xEnt [.ref 0] (xL mX5_errorPosition)) [] (zmk (ln, D) (dT D).toNat z1) 0 0 (Qd (inR r3 ∧ okz z3) (.inl (some (.int (iN r3)))) (zmk (ln, D) (dT D).toNat z3)) from CX5_errorPosition (hN1 (ln := (ln, D)) (hNm (ln := ln) hD)) f1.1  q3) (fun f3 => ?_)
  refine X_iload_n (pc' := 13) dL_isWrong_12 rfl rfl ?_
  refine X_icmp_ne dL_isWrong_13 (tgt := 29) rfl (pc' := 16) rfl ⟨f3.1.1, f3.1.2, rv2.1, rv2.2⟩ (fun c4 => ?_) (fun c4 => ?_)
  · have h := if_f c4 h
    cases h
  have h := if_t c4 h
  refine X_aload_n (pc' := 17) dL_isWrong_16 rfl rfl ?_
  obtain ⟨⟨r5, z5, j5⟩, q5, h⟩ := bs h
  obtain ⟨g6, h⟩ := gs h
  rw [g6] at q5
  refine E0_callH (k := 1) (c7 := 0) [.ref 0] (pc' := 20) dL_isWrong_17 rfl SL_239 (by decide) rfl (c1_f rfl c1_n) (cs rfl) c1_n (cs rfl) rfl (CL_load hD f3.2  q5) rfl (fun f5 => ?_)
  refine X_ldcI (pc' := 22) dL_isWrong_20 rfl tq1719 (n := (-1000000002)) rfl ?_
  refine X_icmp_ne dL_isWrong_22 (tgt := 29) rfl (pc' := 25) rfl ⟨f5.2.1, f5.2.2, (inR_c (n := (-1000000002)) rfl).1, (inR_c (n := (-1000000002)) rfl).2⟩ (fun c7 => ?_) (fun c7 => ?_)
  · have h := if_f c7 h
    cases h
  have h := if_t c7 h
  refine X_iconst (pc' := 26) dL_isWrong_25 rfl ?_
  refine X_goto dL_isWrong_26 (tgt := 30) rfl ?_
  cases h
  exact X_zret dL_isWrong_30 rfl (Or.inr rfl) (k f5.1 (Or.inr rfl))
def fL_texts (ln : Nat) (z : ZZ) (D : DD) : Option (Int × ZZ) := (Option.bind (fL_isWrong (1000129) (0) ln z D) fun q1 => match q1 with | (r1, z1) => (if (r1) = (0) then none else (Option.bind (fL_isWrong (1000130) (6) ln z1 (djn 1 D)) fun q3 => match q3 with | (r3, z3) => (if (r3) = (0) then none else (Option.bind (fL_isWrong (1000131) (8) ln z3 (djn 2 D)) fun q5 => match q5 with | (r5, z5) => (if (r5) = (0) then none else (Option.bind (fL_isWrong (1000132) (10) ln z5 (djn 3 D)) fun q7 => match q7 with | (r7, z7) => (if (r7) = (0) then none else (Option.bind (fL_isWrong (1000133) (12) ln z7 (djn 4 D)) fun q9 => match q9 with | (r9, z9) => (if (r9) = (0) then none else (if (1 : Int) = (0) then none else (Option.bind (fL_isWrong (1000134) (5) ln z9 (djn 5 D)) fun q12 => match q12 with | (r12, z12) => (if (r12) = (0) then none else (Option.bind (fL_isWrong (1000135) (7) ln z12 (djn 6 D)) fun q14 => match q14 with | (r14, z14) => (if (r14) = (0) then none else (Option.bind (fL_isWrong (1000136) (9) ln z14 (djn 7 D)) fun q16 => match q16 with | (r16, z16) => (if (r16) = (0) then none else (Option.bind (fL_isWrong (1000137) (8) ln z16 (djn 8 D)) fun q18 => match q18 with | (r18, z18) => (if (r18) = (0) then none else (Option.bind (fL_isWrong (1000138) (10) ln z18 (djn 9 D)) fun q20 => match q20 with | (r20, z20) => (if (r20) = (0) then none else (if (1 : Int) = (0) then none else (Option.bind (fL_isWrong (1000139) (9) ln z20 (djn 10 D)) fun q23 => match q23 with | (r23, z23) => (if (r23) = (0) then none else (Option.bind (fL_isWrong (1000140) (7) ln z23 (djn 11 D)) fun q25 => match q25 with | (r25, z25) => (if (r25) = (0) then none else (Option.bind (fL_isWrong (1000141) (9) ln z25 (djn 12 D)) fun q27 => match q27 with | (r27, z27) => (if (r27) = (0) then none else (Option.bind (fL_isWrong (1000142) (11) ln z27 (djn 13 D)) fun q29 => match q29 with | (r29, z29) => (if (r29) = (0) then none else (Option.bind (fL_isWrong (1000143) (13) ln z29 (djn 14 D)) fun q31 => match q31 with | (r31, z31) => (if (r31) = (0) then none else (if (1 : Int) = (0) then none else (Option.bind (fL_isWrong (1000144) (5) ln z31 (djn 15 D)) fun q34 => match q34 with | (r34, z34) => (if (r34) = (0) then none else (Option.bind (fL_isWrong (1000145) (0) ln z34 (djn 16 D)) fun q36 => match q36 with | (r36, z36) => (if (r36) = (0) then none else (Option.bind (fL_isWrong (1000146) (8) ln z36 (djn 17 D)) fun q38 => match q38 with | (r38, z38) => (if (r38) = (0) then none else (Option.bind (fL_isWrong (1000147) (11) ln z38 (djn 18 D)) fun q40 => match q40 with | (r40, z40) => (if (r40) = (0) then none else some (1, z40))))))))))))))))))))))))))))))))))))))))))
set_option maxRecDepth 100000 in
theorem CL_texts {ln : Nat} {D : DD} {z : ZZ} (hD : okD D) (hz : okz z) (hJ : dT D + 19 ≤ 600000 ∧ dS D + 6 * 19 ≤ 7200000) {p : Int × ZZ} (h : fL_texts ln z D = some p) : X mL_texts 0 (xEnt [.ref 0] (xL mL_texts)) [] (sD ln D z) 19 (6 * 19) (Qd (okz p.2 ∧ (p.1 = 0 ∨ p.1 = 1)) (.inl (some (.int (iN p.1)))) (sD ln (djn 19 D) p.2)) := by
  have k : K_mb (Qd (okz p.2 ∧ (p.1 = 0 ∨ p.1 = 1)) (.inl (some (.int (iN p.1)))) (sD ln (djn 19 D) p.2)) ln (djn 19 D) p := fun a b => ⟨⟨a, b⟩, rfl, rfl⟩
  unfold fL_texts at h
  refine E_ent (c1_f rfl c1_n) (M := [some (.ref 0), none]) rfl ?_
  refine X_aload_n (pc' := 1) dL_texts_0 rfl rfl ?_
  refine E_ldcSw (a := 1000129) (pc' := 4) dL_texts_1 rfl strL_303 (by decide) ?_
  refine X_iconst (pc' := 5) dL_texts_4 rfl ?_
  obtain ⟨⟨r1, z1⟩, q1, h⟩ := bs h
  refine E0_callJ (k := 1) (c7 := 18) [.ref 0, rV (1000129), .int (iN (0))] (pc' := 8) dL_texts_5 rfl SL_305 (by decide) rfl (c1_f rfl (c1_r (c1_i c1_n))) (cs rfl) c1_n (cs rfl) rfl (CL_isWrong hD hz (djnR hD hJ 0 (by decide)) (gdV_str (v := 1000129) (by decide)) (inR_c (n := 0) rfl) q1) rfl (fun f1 => ?_)
  refine X_if_eq dL_texts_8 (tgt := 63) rfl (pc' := 11) rfl (inR_b f1.2) (fun c2 => ?_) (fun c2 => ?_)
  · have h := if_t c2 h
    cases h
  have h := if_f c2 h
  refine X_aload_n (pc' := 12) dL_texts_11 rfl rfl ?_
  refine E_ldcSw (a := 1000130) (pc' := 15) dL_texts_12 rfl strL_309 (by decide) ?_
  refine X_bipush (pc' := 17) dL_texts_15 rfl (by decide) ?_
  obtain ⟨⟨r3, z3⟩, q3, h⟩ := bs h
  refine E0_callJ (k := 1) (c7 := 17) [.ref 0, rV (1000130), .int (iN (6))] (pc' := 20) dL_texts_17 rfl SL_305 (by decide) rfl (c1_f rfl (c1_r (c1_i c1_n))) (cs rfl) c1_n (cs rfl) rfl (CL_isWrong (okD_djn hD 1 (by omega) (by omega)).1 f1.1 (djnR hD hJ 1 (by decide)) (gdV_str (v := 1000130) (by decide)) (inR_c (n := 6) rfl) q3) rfl (fun f3 => ?_)
  refine X_if_eq dL_texts_20 (tgt := 63) rfl (pc' := 23) rfl (inR_b f3.2) (fun c4 => ?_) (fun c4 => ?_)
  · have h := if_t c4 h
    cases h
  have h := if_f c4 h
  refine X_aload_n (pc' := 24) dL_texts_23 rfl rfl ?_
  refine E_ldcSw (a := 1000131) (pc' := 27) dL_texts_24 rfl strL_311 (by decide) ?_
  refine X_bipush (pc' := 29) dL_texts_27 rfl (by decide) ?_
  obtain ⟨⟨r5, z5⟩, q5, h⟩ := bs h
  refine E0_callJ (k := 1) (c7 := 16) [.ref 0, rV (1000131), .int (iN (8))] (pc' := 32) dL_texts_29 rfl SL_305 (by decide) rfl (c1_f rfl (c1_r (c1_i c1_n))) (cs rfl) c1_n (cs rfl) rfl (CL_isWrong (okD_djn hD 2 (by omega) (by omega)).1 f3.1 (djnR hD hJ 2 (by decide)) (gdV_str (v := 1000131) (by decide)) (inR_c (n := 8) rfl) q5) rfl (fun f5 => ?_)
  refine X_if_eq dL_texts_32 (tgt := 63) rfl (pc' := 35) rfl (inR_b f5.2) (fun c6 => ?_) (fun c6 => ?_)
  · have h := if_t c6 h
    cases h
  have h := if_f c6 h
  refine X_aload_n (pc' := 36) dL_texts_35 rfl rfl ?_
  refine E_ldcSw (a := 1000132) (pc' := 39) dL_texts_36 rfl strL_313 (by decide) ?_
  refine X_bipush (pc' := 41) dL_texts_39 rfl (by decide) ?_
  obtain ⟨⟨r7, z7⟩, q7, h⟩ := bs h
  refine E0_callJ (k := 1) (c7 := 15) [.ref 0, rV (1000132), .int (iN (10))] (pc' := 44) dL_texts_41 rfl SL_305 (by decide) rfl (c1_f rfl (c1_r (c1_i c1_n))) (cs rfl) c1_n (cs rfl) rfl (CL_isWrong (okD_djn hD 3 (by omega) (by omega)).1 f5.1 (djnR hD hJ 3 (by decide)) (gdV_str (v := 1000132) (by decide)) (inR_c (n := 10) rfl) q7) rfl (fun f7 => ?_)
  refine X_if_eq dL_texts_44 (tgt := 63) rfl (pc' := 47) rfl (inR_b f7.2) (fun c8 => ?_) (fun c8 => ?_)
  · have h := if_t c8 h
    cases h
  have h := if_f c8 h
  refine X_aload_n (pc' := 48) dL_texts_47 rfl rfl ?_
  refine E_ldcSw (a := 1000133) (pc' := 51) dL_texts_48 rfl strL_315 (by decide) ?_
  refine X_bipush (pc' := 53) dL_texts_51 rfl (by decide) ?_
  obtain ⟨⟨r9, z9⟩, q9, h⟩ := bs h
  refine E0_callJ (k := 1) (c7 := 14) [.ref 0, rV (1000133), .int (iN (12))] (pc' := 56) dL_texts_53 rfl SL_305 (by decide) rfl (c1_f rfl (c1_r (c1_i c1_n))) (cs rfl) c1_n (cs rfl) rfl (CL_isWrong (okD_djn hD 4 (by omega) (by omega)).1 f7.1 (djnR hD hJ 4 (by decide)) (gdV_str (v := 1000133) (by decide)) (inR_c (n := 12) rfl) q9) rfl (fun f9 => ?_)
  refine X_if_eq dL_texts_56 (tgt := 63) rfl (pc' := 59) rfl (inR_b f9.2) (fun c10 => ?_) (fun c10 => ?_)
  · have h := if_t c10 h
    cases h
  have h := if_f c10 h
  refine X_iconst (pc' := 60) dL_texts_59 rfl ?_
  refine X_goto dL_texts_60 (tgt := 64) rfl ?_
  refine X_istore_n (pc' := 65) dL_texts_64 rfl (cl rfl) (Or.inr rfl) (L' := [some (.ref 0), some (.int (iN (1)))]) rfl ?_
  refine X_iload_n (pc' := 66) dL_texts_65 rfl rfl ?_
  refine X_if_eq dL_texts_66 (tgt := 132) rfl (pc' := 69) rfl (inR_c (n := 1) rfl) (fun c11 => ?_) (fun c11 => ?_)
  · have h := if_t c11 h
    cases h
  have h := if_f c11 h
  refine X_aload_n (pc' := 70) dL_texts_69 rfl rfl ?_
  refine E_ldcSw (a := 1000134) (pc' := 73) dL_texts_70 rfl strL_317 (by decide) ?_
  refine X_iconst (pc' := 74) dL_texts_73 rfl ?_
  obtain ⟨⟨r12, z12⟩, q12, h⟩ := bs h
  refine E0_callJ (k := 1) (c7 := 13) [.ref 0, rV (1000134), .int (iN (5))] (pc' := 77) dL_texts_74 rfl SL_305 (by decide) rfl (c1_f rfl (c1_r (c1_i c1_n))) (cs rfl) c1_n (cs rfl) rfl (CL_isWrong (okD_djn hD 5 (by omega) (by omega)).1 f9.1 (djnR hD hJ 5 (by decide)) (gdV_str (v := 1000134) (by decide)) (inR_c (n := 5) rfl) q12) rfl (fun f12 => ?_)
  refine X_if_eq dL_texts_77 (tgt := 132) rfl (pc' := 80) rfl (inR_b f12.2) (fun c13 => ?_) (fun c13 => ?_)
  · have h := if_t c13 h
    cases h
  have h := if_f c13 h
  refine X_aload_n (pc' := 81) dL_texts_80 rfl rfl ?_
  refine E_ldcSw (a := 1000135) (pc' := 84) dL_texts_81 rfl strL_319 (by decide) ?_
  refine X_bipush (pc' := 86) dL_texts_84 rfl (by decide) ?_
  obtain ⟨⟨r14, z14⟩, q14, h⟩ := bs h
  refine E0_callJ (k := 1) (c7 := 12) [.ref 0, rV (1000135), .int (iN (7))] (pc' := 89) dL_texts_86 rfl SL_305 (by decide) rfl (c1_f rfl (c1_r (c1_i c1_n))) (cs rfl) c1_n (cs rfl) rfl (CL_isWrong (okD_djn hD 6 (by omega) (by omega)).1 f12.1 (djnR hD hJ 6 (by decide)) (gdV_str (v := 1000135) (by decide)) (inR_c (n := 7) rfl) q14) rfl (fun f14 => ?_)
  refine X_if_eq dL_texts_89 (tgt := 132) rfl (pc' := 92) rfl (inR_b f14.2) (fun c15 => ?_) (fun c15 => ?_)
  · have h := if_t c15 h
    cases h
  have h := if_f c15 h
  refine X_aload_n (pc' := 93) dL_texts_92 rfl rfl ?_
  refine E_ldcSw (a := 1000136) (pc' := 96) dL_texts_93 rfl strL_321 (by decide) ?_
  refine X_bipush (pc' := 98) dL_texts_96 rfl (by decide) ?_
  obtain ⟨⟨r16, z16⟩, q16, h⟩ := bs h
  refine E0_callJ (k := 1) (c7 := 11) [.ref 0, rV (1000136), .int (iN (9))] (pc' := 101) dL_texts_98 rfl SL_305 (by decide) rfl (c1_f rfl (c1_r (c1_i c1_n))) (cs rfl) c1_n (cs rfl) rfl (CL_isWrong (okD_djn hD 7 (by omega) (by omega)).1 f14.1 (djnR hD hJ 7 (by decide)) (gdV_str (v := 1000136) (by decide)) (inR_c (n := 9) rfl) q16) rfl (fun f16 => ?_)
  refine X_if_eq dL_texts_101 (tgt := 132) rfl (pc' := 104) rfl (inR_b f16.2) (fun c17 => ?_) (fun c17 => ?_)
  · have h := if_t c17 h
    cases h
  have h := if_f c17 h
  refine X_aload_n (pc' := 105) dL_texts_104 rfl rfl ?_
  refine E_ldcSw (a := 1000137) (pc' := 108) dL_texts_105 rfl strL_323 (by decide) ?_
  refine X_bipush (pc' := 110) dL_texts_108 rfl (by decide) ?_
  obtain ⟨⟨r18, z18⟩, q18, h⟩ := bs h
  refine E0_callJ (k := 1) (c7 := 10) [.ref 0, rV (1000137), .int (iN (8))] (pc' := 113) dL_texts_110 rfl SL_305 (by decide) rfl (c1_f rfl (c1_r (c1_i c1_n))) (cs rfl) c1_n (cs rfl) rfl (CL_isWrong (okD_djn hD 8 (by omega) (by omega)).1 f16.1 (djnR hD hJ 8 (by decide)) (gdV_str (v := 1000137) (by decide)) (inR_c (n := 8) rfl) q18) rfl (fun f18 => ?_)
  refine X_if_eq dL_texts_113 (tgt := 132) rfl (pc' := 116) rfl (inR_b f18.2) (fun c19 => ?_) (fun c19 => ?_)
  · have h := if_t c19 h
    cases h
  have h := if_f c19 h
  refine X_aload_n (pc' := 117) dL_texts_116 rfl rfl ?_
  refine E_ldcSw (a := 1000138) (pc' := 120) dL_texts_117 rfl strL_325 (by decide) ?_
  refine X_bipush (pc' := 122) dL_texts_120 rfl (by decide) ?_
  obtain ⟨⟨r20, z20⟩, q20, h⟩ := bs h
  refine E0_callJ (k := 1) (c7 := 9) [.ref 0, rV (1000138), .int (iN (10))] (pc' := 125) dL_texts_122 rfl SL_305 (by decide) rfl (c1_f rfl (c1_r (c1_i c1_n))) (cs rfl) c1_n (cs rfl) rfl (CL_isWrong (okD_djn hD 9 (by omega) (by omega)).1 f18.1 (djnR hD hJ 9 (by decide)) (gdV_str (v := 1000138) (by decide)) (inR_c (n := 10) rfl) q20) rfl (fun f20 => ?_)
  refine X_if_eq dL_texts_125 (tgt := 132) rfl (pc' := 128) rfl (inR_b f20.2) (fun c21 => ?_) (fun c21 => ?_)
  · have h := if_t c21 h
    cases h
  have h := if_f c21 h
  refine X_iconst (pc' := 129) dL_texts_128 rfl ?_
  refine X_goto dL_texts_129 (tgt := 133) rfl ?_
  refine X_istore_n (pc' := 134) dL_texts_133 rfl (cl rfl) (Or.inr rfl) (L' := [some (.ref 0), some (.int (iN (1)))]) rfl ?_
  refine X_iload_n (pc' := 135) dL_texts_134 rfl rfl ?_
  refine X_if_eq dL_texts_135 (tgt := 202) rfl (pc' := 138) rfl (inR_c (n := 1) rfl) (fun c22 => ?_) (fun c22 => ?_)
  · have h := if_t c22 h
    cases h
  have h := if_f c22 h
  refine X_aload_n (pc' := 139) dL_texts_138 rfl rfl ?_
  refine E_ldcSw (a := 1000139) (pc' := 142) dL_texts_139 rfl strL_327 (by decide) ?_
  refine X_bipush (pc' := 144) dL_texts_142 rfl (by decide) ?_
  obtain ⟨⟨r23, z23⟩, q23, h⟩ := bs h
  refine E0_callJ (k := 1) (c7 := 8) [.ref 0, rV (1000139), .int (iN (9))] (pc' := 147) dL_texts_144 rfl SL_305 (by decide) rfl (c1_f rfl (c1_r (c1_i c1_n))) (cs rfl) c1_n (cs rfl) rfl (CL_isWrong (okD_djn hD 10 (by omega) (by omega)).1 f20.1 (djnR hD hJ 10 (by decide)) (gdV_str (v := 1000139) (by decide)) (inR_c (n := 9) rfl) q23) rfl (fun f23 => ?_)
  refine X_if_eq dL_texts_147 (tgt := 202) rfl (pc' := 150) rfl (inR_b f23.2) (fun c24 => ?_) (fun c24 => ?_)
  · have h := if_t c24 h
    cases h
  have h := if_f c24 h
  refine X_aload_n (pc' := 151) dL_texts_150 rfl rfl ?_
  refine E_ldcSw (a := 1000140) (pc' := 154) dL_texts_151 rfl strL_329 (by decide) ?_
  refine X_bipush (pc' := 156) dL_texts_154 rfl (by decide) ?_
  obtain ⟨⟨r25, z25⟩, q25, h⟩ := bs h
  refine E0_callJ (k := 1) (c7 := 7) [.ref 0, rV (1000140), .int (iN (7))] (pc' := 159) dL_texts_156 rfl SL_305 (by decide) rfl (c1_f rfl (c1_r (c1_i c1_n))) (cs rfl) c1_n (cs rfl) rfl (CL_isWrong (okD_djn hD 11 (by omega) (by omega)).1 f23.1 (djnR hD hJ 11 (by decide)) (gdV_str (v := 1000140) (by decide)) (inR_c (n := 7) rfl) q25) rfl (fun f25 => ?_)
  refine X_if_eq dL_texts_159 (tgt := 202) rfl (pc' := 162) rfl (inR_b f25.2) (fun c26 => ?_) (fun c26 => ?_)
  · have h := if_t c26 h
    cases h
  have h := if_f c26 h
  refine X_aload_n (pc' := 163) dL_texts_162 rfl rfl ?_
  refine E_ldcSw (a := 1000141) (pc' := 166) dL_texts_163 rfl strL_331 (by decide) ?_
  refine X_bipush (pc' := 168) dL_texts_166 rfl (by decide) ?_
  obtain ⟨⟨r27, z27⟩, q27, h⟩ := bs h
  refine E0_callJ (k := 1) (c7 := 6) [.ref 0, rV (1000141), .int (iN (9))] (pc' := 171) dL_texts_168 rfl SL_305 (by decide) rfl (c1_f rfl (c1_r (c1_i c1_n))) (cs rfl) c1_n (cs rfl) rfl (CL_isWrong (okD_djn hD 12 (by omega) (by omega)).1 f25.1 (djnR hD hJ 12 (by decide)) (gdV_str (v := 1000141) (by decide)) (inR_c (n := 9) rfl) q27) rfl (fun f27 => ?_)
  refine X_if_eq dL_texts_171 (tgt := 202) rfl (pc' := 174) rfl (inR_b f27.2) (fun c28 => ?_) (fun c28 => ?_)
  · have h := if_t c28 h
    cases h
  have h := if_f c28 h
  refine X_aload_n (pc' := 175) dL_texts_174 rfl rfl ?_
  refine E_ldcSw (a := 1000142) (pc' := 178) dL_texts_175 rfl strL_333 (by decide) ?_
  refine X_bipush (pc' := 180) dL_texts_178 rfl (by decide) ?_
  obtain ⟨⟨r29, z29⟩, q29, h⟩ := bs h
  refine E0_callJ (k := 1) (c7 := 5) [.ref 0, rV (1000142), .int (iN (11))] (pc' := 183) dL_texts_180 rfl SL_305 (by decide) rfl (c1_f rfl (c1_r (c1_i c1_n))) (cs rfl) c1_n (cs rfl) rfl (CL_isWrong (okD_djn hD 13 (by omega) (by omega)).1 f27.1 (djnR hD hJ 13 (by decide)) (gdV_str (v := 1000142) (by decide)) (inR_c (n := 11) rfl) q29) rfl (fun f29 => ?_)
  refine X_if_eq dL_texts_183 (tgt := 202) rfl (pc' := 186) rfl (inR_b f29.2) (fun c30 => ?_) (fun c30 => ?_)
  · have h := if_t c30 h
    cases h
  have h := if_f c30 h
  refine X_aload_n (pc' := 187) dL_texts_186 rfl rfl ?_
  refine E_ldcSw (a := 1000143) (pc' := 190) dL_texts_187 rfl strL_335 (by decide) ?_
  refine X_bipush (pc' := 192) dL_texts_190 rfl (by decide) ?_
  obtain ⟨⟨r31, z31⟩, q31, h⟩ := bs h
  refine E0_callJ (k := 1) (c7 := 4) [.ref 0, rV (1000143), .int (iN (13))] (pc' := 195) dL_texts_192 rfl SL_305 (by decide) rfl (c1_f rfl (c1_r (c1_i c1_n))) (cs rfl) c1_n (cs rfl) rfl (CL_isWrong (okD_djn hD 14 (by omega) (by omega)).1 f29.1 (djnR hD hJ 14 (by decide)) (gdV_str (v := 1000143) (by decide)) (inR_c (n := 13) rfl) q31) rfl (fun f31 => ?_)
  refine X_if_eq dL_texts_195 (tgt := 202) rfl (pc' := 198) rfl (inR_b f31.2) (fun c32 => ?_) (fun c32 => ?_)
  · have h := if_t c32 h
    cases h
  have h := if_f c32 h
  refine X_iconst (pc' := 199) dL_texts_198 rfl ?_
  refine X_goto dL_texts_199 (tgt := 203) rfl ?_
  refine X_istore_n (pc' := 204) dL_texts_203 rfl (cl rfl) (Or.inr rfl) (L' := [some (.ref 0), some (.int (iN (1)))]) rfl ?_
  refine X_iload_n (pc' := 205) dL_texts_204 rfl rfl ?_
  refine X_if_eq dL_texts_205 (tgt := 258) rfl (pc' := 208) rfl (inR_c (n := 1) rfl) (fun c33 => ?_) (fun c33 => ?_)
  · have h := if_t c33 h
    cases h
  have h := if_f c33 h
  refine X_aload_n (pc' := 209) dL_texts_208 rfl rfl ?_
  refine E_ldcSw (a := 1000144) (pc' := 212) dL_texts_209 rfl strL_337 (by decide) ?_
  refine X_iconst (pc' := 213) dL_texts_212 rfl ?_
  obtain ⟨⟨r34, z34⟩, q34, h⟩ := bs h
  refine E0_callJ (k := 1) (c7 := 3) [.ref 0, rV (1000144), .int (iN (5))] (pc' := 216) dL_texts_213 rfl SL_305 (by decide) rfl (c1_f rfl (c1_r (c1_i c1_n))) (cs rfl) c1_n (cs rfl) rfl (CL_isWrong (okD_djn hD 15 (by omega) (by omega)).1 f31.1 (djnR hD hJ 15 (by decide)) (gdV_str (v := 1000144) (by decide)) (inR_c (n := 5) rfl) q34) rfl (fun f34 => ?_)
  refine X_if_eq dL_texts_216 (tgt := 258) rfl (pc' := 219) rfl (inR_b f34.2) (fun c35 => ?_) (fun c35 => ?_)
  · have h := if_t c35 h
    cases h
  have h := if_f c35 h
  refine X_aload_n (pc' := 220) dL_texts_219 rfl rfl ?_
  refine E_ldcSw (a := 1000145) (pc' := 223) dL_texts_220 rfl strL_339 (by decide) ?_
  refine X_iconst (pc' := 224) dL_texts_223 rfl ?_
  obtain ⟨⟨r36, z36⟩, q36, h⟩ := bs h
  refine E0_callJ (k := 1) (c7 := 2) [.ref 0, rV (1000145), .int (iN (0))] (pc' := 227) dL_texts_224 rfl SL_305 (by decide) rfl (c1_f rfl (c1_r (c1_i c1_n))) (cs rfl) c1_n (cs rfl) rfl (CL_isWrong (okD_djn hD 16 (by omega) (by omega)).1 f34.1 (djnR hD hJ 16 (by decide)) (gdV_str (v := 1000145) (by decide)) (inR_c (n := 0) rfl) q36) rfl (fun f36 => ?_)
  refine X_if_eq dL_texts_227 (tgt := 258) rfl (pc' := 230) rfl (inR_b f36.2) (fun c37 => ?_) (fun c37 => ?_)
  · have h := if_t c37 h
    cases h
  have h := if_f c37 h
  refine X_aload_n (pc' := 231) dL_texts_230 rfl rfl ?_
  refine E_ldcSw (a := 1000146) (pc' := 234) dL_texts_231 rfl strL_341 (by decide) ?_
  refine X_bipush (pc' := 236) dL_texts_234 rfl (by decide) ?_
  obtain ⟨⟨r38, z38⟩, q38, h⟩ := bs h
  refine E0_callJ (k := 1) (c7 := 1) [.ref 0, rV (1000146), .int (iN (8))] (pc' := 239) dL_texts_236 rfl SL_305 (by decide) rfl (c1_f rfl (c1_r (c1_i c1_n))) (cs rfl) c1_n (cs rfl) rfl (CL_isWrong (okD_djn hD 17 (by omega) (by omega)).1 f36.1 (djnR hD hJ 17 (by decide)) (gdV_str (v := 1000146) (by decide)) (inR_c (n := 8) rfl) q38) rfl (fun f38 => ?_)
  refine X_if_eq dL_texts_239 (tgt := 258) rfl (pc' := 242) rfl (inR_b f38.2) (fun c39 => ?_) (fun c39 => ?_)
  · have h := if_t c39 h
    cases h
  have h := if_f c39 h
  refine X_aload_n (pc' := 243) dL_texts_242 rfl rfl ?_
  refine E_ldcSw (a := 1000147) (pc' := 246) dL_texts_243 rfl strL_343 (by decide) ?_
  refine X_bipush (pc' := 248) dL_texts_246 rfl (by decide) ?_
  obtain ⟨⟨r40, z40⟩, q40, h⟩ := bs h
  refine E0_callJ (k := 1) (c7 := 0) [.ref 0, rV (1000147), .int (iN (11))] (pc' := 251) dL_texts_248 rfl SL_305 (by decide) rfl (c1_f rfl (c1_r (c1_i c1_n))) (cs rfl) c1_n (cs rfl) rfl (CL_isWrong (okD_djn hD 18 (by omega) (by omega)).1 f38.1 (djnR hD hJ 18 (by decide)) (gdV_str (v := 1000147) (by decide)) (inR_c (n := 11) rfl) q40) rfl (fun f40 => ?_)
  refine X_if_eq dL_texts_251 (tgt := 258) rfl (pc' := 254) rfl (inR_b f40.2) (fun c41 => ?_) (fun c41 => ?_)
  · have h := if_t c41 h
    cases h
  have h := if_f c41 h
  refine X_iconst (pc' := 255) dL_texts_254 rfl ?_
  refine X_goto dL_texts_255 (tgt := 259) rfl ?_
  cases h
  exact X_zret dL_texts_259 rfl (Or.inr rfl) (k f40.1 (Or.inr rfl))
def fL_call_b312 (s1 : Int) (s2 : Int) (s3 : Int) (ln : Nat) (z : ZZ) (D : DD) : Option (Int × ZZ × Nat) := (Option.bind (fL_some (s1) (s2) (s3) D) fun r1 => (Option.bind (fL_endDays (r1) z) fun q2 => match q2 with | (r2, z2, j2) => some (r2, z2, j2)))
set_option maxRecDepth 100000 in
theorem BL_call_312 {ln : Nat} {D : DD} {z : ZZ} {s1 : Int} {s2 : Int} {s3 : Int} {Φ : xRes → xS → Prop} (hD : okD D) (hz : okz z) (rs1 : inR s1) (rs2 : inR s2) (rs3 : inR s3) {p : Int × ZZ × Nat} (h : fL_call_b312 s1 s2 s3 ln z D = some p) (k : K_mk Φ ln (djn p.2.2 D) p) : X mL_call 312 [none, none, none, none, none, none, none, none, none, none] [.int (iN (s3)), .int (iN (s2)), .int (iN (s1)), .ref 0] (sD ln D z) p.2.2 (6 * p.2.2) Φ := by
  unfold fL_call_b312 at h
  obtain ⟨r1, q1, h⟩ := bs h
  refine E0_callS [.int (iN (s1)), .int (iN (s2)), .int (iN (s3))] (pc' := 315) dL_call_312 rfl (xSn SL_121) (by decide) rfl (c1_i (c1_i (c1_i c1_n))) (cs rfl) (c1_f rfl c1_n) (cs rfl) rfl hD (ZL_some hD rs1 rs2 rs3 q1) (fun a1 b1 f1 => ?_)
  obtain ⟨⟨r2, z2, j2⟩, q2, h⟩ := bs h
  cases h
  refine E0_callH (k := j2) (c7 := 0) [.ref 0, .int (iN (r1))] (pc' := 318) dL_call_315 rfl SL_231 (by decide) rfl (c1_f rfl (c1_i c1_n)) (cs rfl) c1_n (cs rfl) rfl (CL_endDays hD hz f1 q2) rfl (fun f2 => ?_)
  exact X_iret dL_call_318 rfl (k f2.1 f2.2)
def fL_call (v1 : Int) (v2 : Int) (v3 : Int) (ln : Nat) (z : ZZ) (D : DD) : Option (Int × ZZ × Nat) := (if (0 : Int) ≤ (v3) ∧ (0 : Int) < (64) then (if dO D (v1) 7 then (Option.bind (fJx4a65c_size_8abf5 ((dW D (v1) 7)) D) fun r3 => (if dO D ((dW D (v1) 7)) 9 then (Option.bind (fL_one (v3) (r3) D) fun r5 => (Option.bind (fJx4a65c_size_8abf5 ((dW D (v1) 5)) D) fun r6 => (if dO D ((dW D (v1) 5)) 9 then (Option.bind (fL_one ((v3 / 64)) (r6) D) fun r8 => (Option.bind (fJx4a65c_size_8abf5 ((dW D (v1) 6)) D) fun r9 => (if dO D ((dW D (v1) 6)) 9 then (Option.bind (fL_one ((v3 / 64)) (r9) D) fun r11 => (Option.bind (fJx4a65c_size_8abf5 ((dW D (v1) 8)) D) fun r12 => (if dO D ((dW D (v1) 8)) 9 then (Option.bind (fL_one ((v3 / 64)) (r12) D) fun r14 => (Option.bind (fJx4a65c_size_8abf5 ((dW D (v1) 4)) D) fun r15 => (if dO D ((dW D (v1) 4)) 9 then (Option.bind (fL_one (v3) (r15) D) fun r17 => (if 0 ≤ (v2) ∧ (v2) ≤ 3 then (Option.bind (fL_some ((v3 / 64)) (0) (29) D) fun r19 => (Option.bind (fL_setRoute (r17) (r19) z) fun q20 => match q20 with | (r20, z20, j20) => some (r20, z20, j20))) else (if (v2) = 4 then (Option.bind (fL_removeRoute (r8) z) fun q22 => match q22 with | (r22, z22, j22) => some (r22, z22, j22)) else (if 5 ≤ (v2) ∧ (v2) ≤ 8 then (Option.bind (fL_climb (r5) (r8) z) fun q24 => match q24 with | (r24, z24, j24) => some (r24, z24, j24)) else (if 9 ≤ (v2) ∧ (v2) ≤ 10 then (if (0 : Int) ≤ ((v3 / 64)) ∧ (0 : Int) < (7) then (Option.bind (fL_some (((v3 / 64) / 7)) (0) (29) D) fun r27 => (Option.bind (fL_vote (r5) (r8) (r27) z) fun q28 => match q28 with | (r28, z28, j28) => some (r28, z28, j28))) else none) else (if 11 ≤ (v2) ∧ (v2) ≤ 13 then (Option.bind (fL_lend (r5) (r11) z) fun q30 => match q30 with | (r30, z30, j30) => some (r30, z30, j30)) else (if (v2) = 14 then (Option.bind (fL_giveBack (r5) z) fun q32 => match q32 with | (r32, z32, j32) => some (r32, z32, j32)) else (if (v2) = 15 then (if (0 : Int) ≤ (v3) ∧ (0 : Int) < (5) then (if (0) < ((v3 % 5)) then (Option.bind (fL_check (r11) (1) z) fun q37 => match q37 with | (r37, z37, j37) => some (r37, z37, j37)) else (Option.bind (fL_check (r11) (0) z) fun q36 => match q36 with | (r36, z36, j36) => some (r36, z36, j36))) else none) else (if 16 ≤ (v2) ∧ (v2) ≤ 17 then (Option.bind (fL_enroll (r5) (r14) z) fun q39 => match q39 with | (r39, z39, j39) => some (r39, z39, j39)) else (if (v2) = 18 then (Option.bind (fL_leaveCourse (r5) z) fun q41 => match q41 with | (r41, z41, j41) => some (r41, z41, j41)) else (if (v2) = 19 then (Option.bind (fL_finish (r14) (v3) z) fun q43 => match q43 with | (r43, z43, j43) => some (r43, z43, j43)) else (if (v2) = 20 then (Option.bind (fL_some ((v3 / 64)) (1) (14) D) fun r45 => (Option.bind (fL_postpone (r17) (r45) z) fun q46 => match q46 with | (r46, z46, j46) => some (r46, z46, j46))) else (if (0 : Int) ≤ (v3) ∧ (0 : Int) < (4) then (if ((v3 % 4)) = (0) then fL_call_b312 ((v3 / 64)) (1) (60) ln z D else fL_call_b312 ((v3 / 64)) (1) (5) ln z D) else none))))))))))))) else none))) else none))) else none))) else none))) else none)) else none) else none)
set_option maxRecDepth 100000 in
theorem CL_call {ln : Nat} {D : DD} {z : ZZ} {v1 : Int} {v2 : Int} {v3 : Int} (hD : okD D) (hz : okz z) (rv1 : gdV D v1) (rv2 : inR v2) (rv3 : inR v3) {p : Int × ZZ × Nat} (h : fL_call v1 v2 v3 ln z D = some p) : X mL_call 0 (xEnt [.ref 0, rV (v1), .int (iN (v2)), .int (iN (v3))] (xL mL_call)) [] (sD ln D z) p.2.2 (6 * p.2.2) (Qd (okz p.2.1 ∧ (inR p.1)) (.inl (some (.int (iN p.1)))) (sD ln (djn p.2.2 D) p.2.1)) := by
  have k : K_mk (Qd (okz p.2.1 ∧ (inR p.1)) (.inl (some (.int (iN p.1)))) (sD ln (djn p.2.2 D) p.2.1)) ln (djn p.2.2 D) p := fun a b => ⟨⟨a, b⟩, rfl, rfl⟩
  unfold fL_call at h
  refine E_ent (c1_f rfl (c1_r (c1_i (c1_i c1_n)))) (M := [some (.ref 0), some (rV (v1)), some (.int (iN (v2))), some (.int (iN (v3))), none, none, none, none, none, none]) rfl ?_
  refine X_iload_n (pc' := 1) dL_call_0 rfl rfl ?_
  refine X_bipush (pc' := 3) dL_call_1 rfl (by decide) ?_
  obtain ⟨g1, h⟩ := gs h
  refine X_idiv (pc' := 4) dL_call_3 rfl ⟨g1.1, rv3.2, g1.2, (inR_c (n := 64) rfl).2⟩ ?_
  refine X_istore (pc' := 6) dL_call_4 rfl (cl rfl) (Or.inr rfl) (L' := [some (.ref 0), some (rV (v1)), some (.int (iN (v2))), some (.int (iN (v3))), some (.int (iN ((v3 / 64)))), none, none, none, none, none]) rfl ?_
  refine X_iload_n (pc' := 7) dL_call_6 rfl rfl ?_
  refine E_aload_n (pc' := 8) dL_call_7 rfl rfl ?_
  obtain ⟨g2, h⟩ := gs h
  refine E_getR (pc' := 11) dL_call_8 rfl FL_95_6 hD g2 rfl (j := 7) rfl ?_
  obtain ⟨r3, q3, h⟩ := bs h
  obtain ⟨g4, h⟩ := gs h
  refine E0_callV [] (pc' := 14) dL_call_11 rfl (xVc VL_101) (by decide) ⟨dO_pos g4, dO_is hD g4 rfl⟩ rfl c1_n (cs rfl) (c1_i c1_n) (cs rfl) rfl hD (ZJx4a65c_size_8abf5 hD (gd_slot (k := 7) hD g2 rfl (by decide)) q3) (fun a3 b3 f3 => ?_)
  obtain ⟨r5, q5, h⟩ := bs h
  refine E0_callS [.int (iN (v3)), .int (iN (r3))] (pc' := 17) dL_call_14 rfl (xSn SL_106) (by decide) rfl (c1_i (c1_i c1_n)) (cs rfl) c1_n (cs rfl) rfl hD (ZL_one hD rv3 f3 q5) (fun a5 b5 f5 => ?_)
  refine X_istore (pc' := 19) dL_call_17 rfl (cl rfl) (Or.inr rfl) (L' := [some (.ref 0), some (rV (v1)), some (.int (iN (v2))), some (.int (iN (v3))), some (.int (iN ((v3 / 64)))), some (.int (iN (r5))), none, none, none, none]) rfl ?_
  refine X_iload (pc' := 21) dL_call_19 rfl rfl ?_
  refine E_aload_n (pc' := 22) dL_call_21 rfl rfl ?_
  refine E_getR (pc' := 25) dL_call_22 rfl FL_109_6 hD g2 rfl (j := 5) rfl ?_
  obtain ⟨r6, q6, h⟩ := bs h
  obtain ⟨g7, h⟩ := gs h
  refine E0_callV [] (pc' := 28) dL_call_25 rfl (xVc VL_101) (by decide) ⟨dO_pos g7, dO_is hD g7 rfl⟩ rfl c1_n (cs rfl) (c1_i c1_n) (cs rfl) rfl hD (ZJx4a65c_size_8abf5 hD (gd_slot (k := 5) hD g2 rfl (by decide)) q6) (fun a6 b6 f6 => ?_)
  obtain ⟨r8, q8, h⟩ := bs h
  refine E0_callS [.int (iN ((v3 / 64))), .int (iN (r6))] (pc' := 31) dL_call_28 rfl (xSn SL_106) (by decide) rfl (c1_i (c1_i c1_n)) (cs rfl) c1_n (cs rfl) rfl hD (ZL_one hD (inR_div g1 rv3) f6 q8) (fun a8 b8 f8 => ?_)
  refine X_istore (pc' := 33) dL_call_31 rfl (cl rfl) (Or.inr rfl) (L' := [some (.ref 0), some (rV (v1)), some (.int (iN (v2))), some (.int (iN (v3))), some (.int (iN ((v3 / 64)))), some (.int (iN (r5))), some (.int (iN (r8))), none, none, none]) rfl ?_
  refine X_iload (pc' := 35) dL_call_33 rfl rfl ?_
  refine E_aload_n (pc' := 36) dL_call_35 rfl rfl ?_
  refine E_getR (pc' := 39) dL_call_36 rfl FL_112_6 hD g2 rfl (j := 6) rfl ?_
  obtain ⟨r9, q9, h⟩ := bs h
  obtain ⟨g10, h⟩ := gs h
  refine E0_callV [] (pc' := 42) dL_call_39 rfl (xVc VL_101) (by decide) ⟨dO_pos g10, dO_is hD g10 rfl⟩ rfl c1_n (cs rfl) (c1_i c1_n) (cs rfl) rfl hD (ZJx4a65c_size_8abf5 hD (gd_slot (k := 6) hD g2 rfl (by decide)) q9) (fun a9 b9 f9 => ?_)
  obtain ⟨r11, q11, h⟩ := bs h
  refine E0_callS [.int (iN ((v3 / 64))), .int (iN (r9))] (pc' := 45) dL_call_42 rfl (xSn SL_106) (by decide) rfl (c1_i (c1_i c1_n)) (cs rfl) c1_n (cs rfl) rfl hD (ZL_one hD (inR_div g1 rv3) f9 q11) (fun a11 b11 f11 => ?_)
  refine X_istore (pc' := 47) dL_call_45 rfl (cl rfl) (Or.inr rfl) (L' := [some (.ref 0), some (rV (v1)), some (.int (iN (v2))), some (.int (iN (v3))), some (.int (iN ((v3 / 64)))), some (.int (iN (r5))), some (.int (iN (r8))), some (.int (iN (r11))), none, none]) rfl ?_
  refine X_iload (pc' := 49) dL_call_47 rfl rfl ?_
  refine E_aload_n (pc' := 50) dL_call_49 rfl rfl ?_
  refine E_getR (pc' := 53) dL_call_50 rfl FL_115_6 hD g2 rfl (j := 8) rfl ?_
  obtain ⟨r12, q12, h⟩ := bs h
  obtain ⟨g13, h⟩ := gs h
  refine E0_callV [] (pc' := 56) dL_call_53 rfl (xVc VL_101) (by decide) ⟨dO_pos g13, dO_is hD g13 rfl⟩ rfl c1_n (cs rfl) (c1_i c1_n) (cs rfl) rfl hD (ZJx4a65c_size_8abf5 hD (gd_slot (k := 8) hD g2 rfl (by decide)) q12) (fun a12 b12 f12 => ?_)
  obtain ⟨r14, q14, h⟩ := bs h
  refine E0_callS [.int (iN ((v3 / 64))), .int (iN (r12))] (pc' := 59) dL_call_56 rfl (xSn SL_106) (by decide) rfl (c1_i (c1_i c1_n)) (cs rfl) c1_n (cs rfl) rfl hD (ZL_one hD (inR_div g1 rv3) f12 q14) (fun a14 b14 f14 => ?_)
  refine X_istore (pc' := 61) dL_call_59 rfl (cl rfl) (Or.inr rfl) (L' := [some (.ref 0), some (rV (v1)), some (.int (iN (v2))), some (.int (iN (v3))), some (.int (iN ((v3 / 64)))), some (.int (iN (r5))), some (.int (iN (r8))), some (.int (iN (r11))), some (.int (iN (r14))), none]) rfl ?_
  refine X_iload_n (pc' := 62) dL_call_61 rfl rfl ?_
  refine E_aload_n (pc' := 63) dL_call_62 rfl rfl ?_
  refine E_getR (pc' := 66) dL_call_63 rfl FL_118_6 hD g2 rfl (j := 4) rfl ?_
  obtain ⟨r15, q15, h⟩ := bs h
  obtain ⟨g16, h⟩ := gs h
  refine E0_callV [] (pc' := 69) dL_call_66 rfl (xVc VL_101) (by decide) ⟨dO_pos g16, dO_is hD g16 rfl⟩ rfl c1_n (cs rfl) (c1_i c1_n) (cs rfl) rfl hD (ZJx4a65c_size_8abf5 hD (gd_slot (k := 4) hD g2 rfl (by decide)) q15) (fun a15 b15 f15 => ?_)
  obtain ⟨r17, q17, h⟩ := bs h
  refine E0_callS [.int (iN (v3)), .int (iN (r15))] (pc' := 72) dL_call_69 rfl (xSn SL_106) (by decide) rfl (c1_i (c1_i c1_n)) (cs rfl) c1_n (cs rfl) rfl hD (ZL_one hD rv3 f15 q17) (fun a17 b17 f17 => ?_)
  refine X_istore (pc' := 74) dL_call_72 rfl (cl rfl) (Or.inr rfl) (L' := [some (.ref 0), some (rV (v1)), some (.int (iN (v2))), some (.int (iN (v3))), some (.int (iN ((v3 / 64)))), some (.int (iN (r5))), some (.int (iN (r8))), some (.int (iN (r11))), some (.int (iN (r14))), some (.int (iN (r17)))]) rfl ?_
  refine X_iload_n (pc' := 75) dL_call_74 rfl rfl ?_
  by_cases c18 : 0 ≤ (v2) ∧ (v2) ≤ 3
  · refine X_tableIn dL_call_75 (off := 97) (tgt := 172) rv2 (by omega) (by omega) (by rcases (show (v2) = 0 ∨ (v2) = 1 ∨ (v2) = 2 ∨ (v2) = 3 by omega) with q9 | q9 | q9 | q9 <;> rw [q9] <;> rfl) rfl ?_
    have h := if_t c18 h
    refine X_aload_n (pc' := 173) dL_call_172 rfl rfl ?_
    refine X_iload (pc' := 175) dL_call_173 rfl rfl ?_
    refine X_iload (pc' := 177) dL_call_175 rfl rfl ?_
    refine X_iconst (pc' := 178) dL_call_177 rfl ?_
    refine X_bipush (pc' := 180) dL_call_178 rfl (by decide) ?_
    obtain ⟨r19, q19, h⟩ := bs h
    refine E0_callS [.int (iN ((v3 / 64))), .int (iN (0)), .int (iN (29))] (pc' := 183) dL_call_180 rfl (xSn SL_121) (by decide) rfl (c1_i (c1_i (c1_i c1_n))) (cs rfl) (c1_i (c1_f rfl c1_n)) (cs rfl) rfl hD (ZL_some hD (inR_div g1 rv3) (inR_c (n := 0) rfl) (inR_c (n := 29) rfl) q19) (fun a19 b19 f19 => ?_)
    obtain ⟨⟨r20, z20, j20⟩, q20, h⟩ := bs h
    cases h
    refine E0_callH (k := j20) (c7 := 0) [.ref 0, .int (iN (r17)), .int (iN (r19))] (pc' := 186) dL_call_183 rfl SL_206 (by decide) rfl (c1_f rfl (c1_i (c1_i c1_n))) (cs rfl) c1_n (cs rfl) rfl (CL_setRoute hD hz f17 f19 q20) rfl (fun f20 => ?_)
    exact X_iret dL_call_186 rfl (k f20.1 f20.2)
  have h := if_f c18 h
  by_cases c21 : (v2) = 4
  · refine X_tableIn dL_call_75 (off := 112) (tgt := 187) rv2 (by rw [c21]; decide) (by rw [c21]; decide) (by rw [c21]; rfl) rfl ?_
    have h := if_t c21 h
    refine X_aload_n (pc' := 188) dL_call_187 rfl rfl ?_
    refine X_iload (pc' := 190) dL_call_188 rfl rfl ?_
    obtain ⟨⟨r22, z22, j22⟩, q22, h⟩ := bs h
    cases h
    refine E0_callH (k := j22) (c7 := 0) [.ref 0, .int (iN (r8))] (pc' := 193) dL_call_190 rfl SL_209 (by decide) rfl (c1_f rfl (c1_i c1_n)) (cs rfl) c1_n (cs rfl) rfl (CL_removeRoute hD hz f8 q22) rfl (fun f22 => ?_)
    exact X_iret dL_call_193 rfl (k f22.1 f22.2)
  have h := if_f c21 h
  by_cases c23 : 5 ≤ (v2) ∧ (v2) ≤ 8
  · refine X_tableIn dL_call_75 (off := 119) (tgt := 194) rv2 (by omega) (by omega) (by rcases (show (v2) = 5 ∨ (v2) = 6 ∨ (v2) = 7 ∨ (v2) = 8 by omega) with q9 | q9 | q9 | q9 <;> rw [q9] <;> rfl) rfl ?_
    have h := if_t c23 h
    refine X_aload_n (pc' := 195) dL_call_194 rfl rfl ?_
    refine X_iload (pc' := 197) dL_call_195 rfl rfl ?_
    refine X_iload (pc' := 199) dL_call_197 rfl rfl ?_
    obtain ⟨⟨r24, z24, j24⟩, q24, h⟩ := bs h
    cases h
    refine E0_callH (k := j24) (c7 := 0) [.ref 0, .int (iN (r5)), .int (iN (r8))] (pc' := 202) dL_call_199 rfl SL_211 (by decide) rfl (c1_f rfl (c1_i (c1_i c1_n))) (cs rfl) c1_n (cs rfl) rfl (CL_climb hD hz f5 f8 q24) rfl (fun f24 => ?_)
    exact X_iret dL_call_202 rfl (k f24.1 f24.2)
  have h := if_f c23 h
  by_cases c25 : 9 ≤ (v2) ∧ (v2) ≤ 10
  · refine X_tableIn dL_call_75 (off := 128) (tgt := 203) rv2 (by omega) (by omega) (by rcases (show (v2) = 9 ∨ (v2) = 10 by omega) with q9 | q9 <;> rw [q9] <;> rfl) rfl ?_
    have h := if_t c25 h
    refine X_aload_n (pc' := 204) dL_call_203 rfl rfl ?_
    refine X_iload (pc' := 206) dL_call_204 rfl rfl ?_
    refine X_iload (pc' := 208) dL_call_206 rfl rfl ?_
    refine X_iload (pc' := 210) dL_call_208 rfl rfl ?_
    refine X_bipush (pc' := 212) dL_call_210 rfl (by decide) ?_
    obtain ⟨g26, h⟩ := gs h
    refine X_idiv (pc' := 213) dL_call_212 rfl ⟨g26.1, (inR_div g1 rv3).2, g26.2, (inR_c (n := 7) rfl).2⟩ ?_
    refine X_iconst (pc' := 214) dL_call_213 rfl ?_
    refine X_bipush (pc' := 216) dL_call_214 rfl (by decide) ?_
    obtain ⟨r27, q27, h⟩ := bs h
    refine E0_callS [.int (iN (((v3 / 64) / 7))), .int (iN (0)), .int (iN (29))] (pc' := 219) dL_call_216 rfl (xSn SL_121) (by decide) rfl (c1_i (c1_i (c1_i c1_n))) (cs rfl) (c1_i (c1_i (c1_f rfl c1_n))) (cs rfl) rfl hD (ZL_some hD (inR_div g26 (inR_div g1 rv3)) (inR_c (n := 0) rfl) (inR_c (n := 29) rfl) q27) (fun a27 b27 f27 => ?_)
    obtain ⟨⟨r28, z28, j28⟩, q28, h⟩ := bs h
    cases h
    refine E0_callH (k := j28) (c7 := 0) [.ref 0, .int (iN (r5)), .int (iN (r8)), .int (iN (r27))] (pc' := 222) dL_call_219 rfl SL_213 (by decide) rfl (c1_f rfl (c1_i (c1_i (c1_i c1_n)))) (cs rfl) c1_n (cs rfl) rfl (CL_vote hD hz f5 f8 f27 q28) rfl (fun f28 => ?_)
    exact X_iret dL_call_222 rfl (k f28.1 f28.2)
  have h := if_f c25 h
  by_cases c29 : 11 ≤ (v2) ∧ (v2) ≤ 13
  · refine X_tableIn dL_call_75 (off := 148) (tgt := 223) rv2 (by omega) (by omega) (by rcases (show (v2) = 11 ∨ (v2) = 12 ∨ (v2) = 13 by omega) with q9 | q9 | q9 <;> rw [q9] <;> rfl) rfl ?_
    have h := if_t c29 h
    refine X_aload_n (pc' := 224) dL_call_223 rfl rfl ?_
    refine X_iload (pc' := 226) dL_call_224 rfl rfl ?_
    refine X_iload (pc' := 228) dL_call_226 rfl rfl ?_
    obtain ⟨⟨r30, z30, j30⟩, q30, h⟩ := bs h
    cases h
    refine E0_callH (k := j30) (c7 := 0) [.ref 0, .int (iN (r5)), .int (iN (r11))] (pc' := 231) dL_call_228 rfl SL_216 (by decide) rfl (c1_f rfl (c1_i (c1_i c1_n))) (cs rfl) c1_n (cs rfl) rfl (CL_lend hD hz f5 f11 q30) rfl (fun f30 => ?_)
    exact X_iret dL_call_231 rfl (k f30.1 f30.2)
  have h := if_f c29 h
  by_cases c31 : (v2) = 14
  · refine X_tableIn dL_call_75 (off := 157) (tgt := 232) rv2 (by rw [c31]; decide) (by rw [c31]; decide) (by rw [c31]; rfl) rfl ?_
    have h := if_t c31 h
    refine X_aload_n (pc' := 233) dL_call_232 rfl rfl ?_
    refine X_iload (pc' := 235) dL_call_233 rfl rfl ?_
    obtain ⟨⟨r32, z32, j32⟩, q32, h⟩ := bs h
    cases h
    refine E0_callH (k := j32) (c7 := 0) [.ref 0, .int (iN (r5))] (pc' := 238) dL_call_235 rfl SL_218 (by decide) rfl (c1_f rfl (c1_i c1_n)) (cs rfl) c1_n (cs rfl) rfl (CL_giveBack hD hz f5 q32) rfl (fun f32 => ?_)
    exact X_iret dL_call_238 rfl (k f32.1 f32.2)
  have h := if_f c31 h
  by_cases c33 : (v2) = 15
  · refine X_tableIn dL_call_75 (off := 164) (tgt := 239) rv2 (by rw [c33]; decide) (by rw [c33]; decide) (by rw [c33]; rfl) rfl ?_
    have h := if_t c33 h
    refine X_aload_n (pc' := 240) dL_call_239 rfl rfl ?_
    refine X_iload (pc' := 242) dL_call_240 rfl rfl ?_
    refine X_iload_n (pc' := 243) dL_call_242 rfl rfl ?_
    refine X_iconst (pc' := 244) dL_call_243 rfl ?_
    obtain ⟨g34, h⟩ := gs h
    refine X_irem (pc' := 245) dL_call_244 rfl ⟨g34.1, rv3.2, g34.2, (inR_c (n := 5) rfl).2⟩ ?_
    refine X_if_le dL_call_245 (tgt := 252) rfl (pc' := 248) rfl (inR_mod g34 (inR_c (n := 5) rfl)) (fun c35 => ?_) (fun c35 => ?_)
    · have h := if_f (Int.not_lt.mpr c35) h
      refine X_iconst (pc' := 253) dL_call_252 rfl ?_
      obtain ⟨⟨r36, z36, j36⟩, q36, h⟩ := bs h
      cases h
      refine E0_callH (k := j36) (c7 := 0) [.ref 0, .int (iN (r11)), .int (iN (0))] (pc' := 256) dL_call_253 rfl SL_220 (by decide) rfl (c1_f rfl (c1_i (c1_i c1_n))) (cs rfl) c1_n (cs rfl) rfl (CL_check hD hz f11 (inR_c (n := 0) rfl) q36) rfl (fun f36 => ?_)
      exact X_iret dL_call_256 rfl (k f36.1 f36.2)
    have h := if_t c35 h
    refine X_iconst (pc' := 249) dL_call_248 rfl ?_
    refine X_goto dL_call_249 (tgt := 253) rfl ?_
    obtain ⟨⟨r37, z37, j37⟩, q37, h⟩ := bs h
    cases h
    refine E0_callH (k := j37) (c7 := 0) [.ref 0, .int (iN (r11)), .int (iN (1))] (pc' := 256) dL_call_253 rfl SL_220 (by decide) rfl (c1_f rfl (c1_i (c1_i c1_n))) (cs rfl) c1_n (cs rfl) rfl (CL_check hD hz f11 (inR_c (n := 1) rfl) q37) rfl (fun f37 => ?_)
    exact X_iret dL_call_256 rfl (k f37.1 f37.2)
  have h := if_f c33 h
  by_cases c38 : 16 ≤ (v2) ∧ (v2) ≤ 17
  · refine X_tableIn dL_call_75 (off := 182) (tgt := 257) rv2 (by omega) (by omega) (by rcases (show (v2) = 16 ∨ (v2) = 17 by omega) with q9 | q9 <;> rw [q9] <;> rfl) rfl ?_
    have h := if_t c38 h
    refine X_aload_n (pc' := 258) dL_call_257 rfl rfl ?_
    refine X_iload (pc' := 260) dL_call_258 rfl rfl ?_
    refine X_iload (pc' := 262) dL_call_260 rfl rfl ?_
    obtain ⟨⟨r39, z39, j39⟩, q39, h⟩ := bs h
    cases h
    refine E0_callH (k := j39) (c7 := 0) [.ref 0, .int (iN (r5)), .int (iN (r14))] (pc' := 265) dL_call_262 rfl SL_223 (by decide) rfl (c1_f rfl (c1_i (c1_i c1_n))) (cs rfl) c1_n (cs rfl) rfl (CL_enroll hD hz f5 f14 q39) rfl (fun f39 => ?_)
    exact X_iret dL_call_265 rfl (k f39.1 f39.2)
  have h := if_f c38 h
  by_cases c40 : (v2) = 18
  · refine X_tableIn dL_call_75 (off := 191) (tgt := 266) rv2 (by rw [c40]; decide) (by rw [c40]; decide) (by rw [c40]; rfl) rfl ?_
    have h := if_t c40 h
    refine X_aload_n (pc' := 267) dL_call_266 rfl rfl ?_
    refine X_iload (pc' := 269) dL_call_267 rfl rfl ?_
    obtain ⟨⟨r41, z41, j41⟩, q41, h⟩ := bs h
    cases h
    refine E0_callH (k := j41) (c7 := 0) [.ref 0, .int (iN (r5))] (pc' := 272) dL_call_269 rfl SL_225 (by decide) rfl (c1_f rfl (c1_i c1_n)) (cs rfl) c1_n (cs rfl) rfl (CL_leaveCourse hD hz f5 q41) rfl (fun f41 => ?_)
    exact X_iret dL_call_272 rfl (k f41.1 f41.2)
  have h := if_f c40 h
  by_cases c42 : (v2) = 19
  · refine X_tableIn dL_call_75 (off := 198) (tgt := 273) rv2 (by rw [c42]; decide) (by rw [c42]; decide) (by rw [c42]; rfl) rfl ?_
    have h := if_t c42 h
    refine X_aload_n (pc' := 274) dL_call_273 rfl rfl ?_
    refine X_iload (pc' := 276) dL_call_274 rfl rfl ?_
    refine X_iload_n (pc' := 277) dL_call_276 rfl rfl ?_
    obtain ⟨⟨r43, z43, j43⟩, q43, h⟩ := bs h
    cases h
    refine E0_callH (k := j43) (c7 := 0) [.ref 0, .int (iN (r14)), .int (iN (v3))] (pc' := 280) dL_call_277 rfl SL_227 (by decide) rfl (c1_f rfl (c1_i (c1_i c1_n))) (cs rfl) c1_n (cs rfl) rfl (CL_finish hD hz f14 rv3 q43) rfl (fun f43 => ?_)
    exact X_iret dL_call_280 rfl (k f43.1 f43.2)
  have h := if_f c42 h
  by_cases c44 : (v2) = 20
  · refine X_tableIn dL_call_75 (off := 206) (tgt := 281) rv2 (by rw [c44]; decide) (by rw [c44]; decide) (by rw [c44]; rfl) rfl ?_
    have h := if_t c44 h
    refine X_aload_n (pc' := 282) dL_call_281 rfl rfl ?_
    refine X_iload (pc' := 284) dL_call_282 rfl rfl ?_
    refine X_iload (pc' := 286) dL_call_284 rfl rfl ?_
    refine X_iconst (pc' := 287) dL_call_286 rfl ?_
    refine X_bipush (pc' := 289) dL_call_287 rfl (by decide) ?_
    obtain ⟨r45, q45, h⟩ := bs h
    refine E0_callS [.int (iN ((v3 / 64))), .int (iN (1)), .int (iN (14))] (pc' := 292) dL_call_289 rfl (xSn SL_121) (by decide) rfl (c1_i (c1_i (c1_i c1_n))) (cs rfl) (c1_i (c1_f rfl c1_n)) (cs rfl) rfl hD (ZL_some hD (inR_div g1 rv3) (inR_c (n := 1) rfl) (inR_c (n := 14) rfl) q45) (fun a45 b45 f45 => ?_)
    obtain ⟨⟨r46, z46, j46⟩, q46, h⟩ := bs h
    cases h
    refine E0_callH (k := j46) (c7 := 0) [.ref 0, .int (iN (r17)), .int (iN (r45))] (pc' := 295) dL_call_292 rfl SL_229 (by decide) rfl (c1_f rfl (c1_i (c1_i c1_n))) (cs rfl) c1_n (cs rfl) rfl (CL_postpone hD hz f17 f45 q46) rfl (fun f46 => ?_)
    exact X_iret dL_call_295 rfl (k f46.1 f46.2)
  have h := if_f c44 h
  refine X_tableOut dL_call_75 (tgt := 296) rv2 (by omega) rfl ?_
  refine X_aload_n (pc' := 297) dL_call_296 rfl rfl ?_
  refine X_iload (pc' := 299) dL_call_297 rfl rfl ?_
  refine X_iconst (pc' := 300) dL_call_299 rfl ?_
  refine X_iload_n (pc' := 301) dL_call_300 rfl rfl ?_
  refine X_iconst (pc' := 302) dL_call_301 rfl ?_
  obtain ⟨g47, h⟩ := gs h
  refine X_irem (pc' := 303) dL_call_302 rfl ⟨g47.1, rv3.2, g47.2, (inR_c (n := 4) rfl).2⟩ ?_
  refine X_if_ne dL_call_303 (tgt := 311) rfl (pc' := 306) rfl (inR_mod g47 (inR_c (n := 4) rfl)) (fun c48 => ?_) (fun c48 => ?_)
  · have h := if_f c48 h
    refine X_iconst (pc' := 312) dL_call_311 rfl ?_
    exact X_sub (sub_n (sub_n (sub_n (sub_n (sub_n (sub_n (sub_n (sub_n (sub_n (sub_n sub_0)))))))))) (BL_call_312 hD hz (inR_div g1 rv3) (inR_c (n := 1) rfl) (inR_c (n := 5) rfl) h k)
  have h := if_t c48 h
  refine X_bipush (pc' := 308) dL_call_306 rfl (by decide) ?_
  refine X_goto dL_call_308 (tgt := 312) rfl ?_
  exact X_sub (sub_n (sub_n (sub_n (sub_n (sub_n (sub_n (sub_n (sub_n (sub_n (sub_n sub_0)))))))))) (BL_call_312 hD hz (inR_div g1 rv3) (inR_c (n := 1) rfl) (inR_c (n := 60) rfl) h k)

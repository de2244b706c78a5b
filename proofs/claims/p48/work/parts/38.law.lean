/-! the law behind its constructor call -/
def fL_law_b394 (v2 : Int) (v3 : Int) (v4 : Int) (v5 : Int) (ln : Nat) (z : ZZ) (D : DD) : Option ((Int × Int × Int × ZZ × DD) ⊕ (Int × ZZ × DD)) := (Option.bind (fX6_isAs (v2) ln z D) fun q1 => match q1 with | (r1, z1, D1) => (if dO D (v2) 7 then (if (r1) = (0) then none else (Option.bind (fX5_undoCount z1) fun r4 => (Option.bind (fJx4a65c_size_8abf5 (v3) D1) fun r5 => (if dO D1 (v3) 9 then (if (r4) = (r5) then (if inR ((v5 + 1)) then some (.inl (v2, v4, (v5 + 1), z1, D1)) else none) else none) else none)))) else none))
set_option maxRecDepth 100000 in
theorem BL_law_394 {ln : Nat} {D : DD} {z : ZZ} {v2 : Int} {v3 : Int} {v4 : Int} {v5 : Int} {Φ : xRes → xS → Prop} (hD : okD D) (hln : ln < 2147483648) (hz : okz z) (rv2 : gdV D v2) (rv3 : gdV D v3) (rv4 : gdV D v4) (rv5 : inR v5) {p : (Int × Int × Int × ZZ × DD) ⊕ (Int × ZZ × DD)} (h : fL_law_b394 v2 v3 v4 v5 ln z D = some p) (k1 : ∀ (v2' : Int) (v4' : Int) (v5' : Int) (z' : ZZ) (D' : DD), p = .inl (v2', v4', v5', z', D') → okD D' → DLw D D' → okz z' → gdV D' v2' → gdV D' v4' → inR v5' → XD mL_law 120 [some (.ref 1000000), some (.ref 0), some (rV (v2')), some (rV (v3)), some (rV (v4')), some (.int (iN (v5'))), none, none, none, none] [] ln D' z' Φ) (k2 : ∀ (v2' : Int) (z' : ZZ) (D' : DD), p = .inr (v2', z', D') → okD D' → DLw D D' → okz z' → gdV D' v2' → XD mL_law 421 [none, some (.ref 0), some (rV (v2')), none, none, none, none, none, none, none] [] ln D' z' Φ) : XD mL_law 394 [some (.ref 1000000), some (.ref 0), some (rV (v2)), some (rV (v3)), some (rV (v4)), some (.int (iN (v5))), none, none, none, none] [] ln D z Φ := by
  unfold fL_law_b394 at h
  refine E_aload_n (pc' := 395) dL_law_394 rfl rfl ?_
  refine X_aload_n (pc' := 396) dL_law_395 rfl rfl ?_
  obtain ⟨⟨r1, z1, D1⟩, q1, h⟩ := bs h
  obtain ⟨g2, h⟩ := gs h
  refine E_callV [.ref 0] (pc' := 399) dL_law_396 rfl (xVc VL_245) (by decide) ⟨dO_pos g2, dO_is hD g2 rfl⟩ rfl (c1_f rfl c1_n) (cs rfl) c1_n (cs rfl) rfl hD (CX6_isAs hD hz rv2 q1) (fun a1 b1 f1 => ?_)
  refine X_if_eq dL_law_399 (tgt := 413) rfl (pc' := 402) rfl (inR_b f1.2) (fun c3 => ?_) (fun c3 => ?_)
  · have h := if_t c3 h
    cases h
  have h := if_f c3 h
  refine X_aload_n (pc' := 403) dL_law_402 rfl rfl ?_
  obtain ⟨r4, q4, h⟩ := bs h
  refine E0_callM [] (pc' := 406) dL_law_403 rfl VL_297 (by decide) rfl rfl c1_n (cs rfl) c1_n (cs rfl) rfl a1 (show X mX5_undoCount 0 (xEnt [.ref 0] (xL mX5_undoCount)) [] (zmk (ln, D1) (dT D1).toNat z1) 0 0 (Qd (inR r4) (.inl (some (.int (iN r4)))) (zmk (ln, D1) (dT D1).toNat z1)) from CX5_undoCount (hN1 (ln := (ln, D1)) (hNm (ln := ln) a1)) f1.1  q4) (fun f4 => ?_)
  refine E_aload_n (pc' := 407) dL_law_406 rfl rfl ?_
  obtain ⟨r5, q5, h⟩ := bs h
  obtain ⟨g6, h⟩ := gs h
  refine E_callV [] (pc' := 410) dL_law_407 rfl (xVc VL_101) (by decide) ⟨dO_pos g6, dO_is a1 g6 rfl⟩ rfl c1_n (cs rfl) (c1_i c1_n) (cs rfl) rfl a1 (CJx4a65c_size_8abf5 a1 (gdV_lw b1.w rv3) q5) (fun a5 b5 f5 => ?_)
  refine X_icmp_eq dL_law_410 (tgt := 415) rfl (pc' := 413) rfl ⟨f4.1, f4.2, f5.1, f5.2⟩ (fun c7 => ?_) (fun c7 => ?_)
  · have h := if_t c7 h
    refine X_iinc (pc' := 418) dL_law_415 rfl rfl (Or.inr (xC1_R _)) (L' := [some (.ref 1000000), some (.ref 0), some (rV (v2)), some (rV (v3)), some (rV (v4)), some (.int (iN (v5 + 1))), none, none, none, none]) rfl ?_
    refine X_goto dL_law_418 (tgt := 120) rfl ?_
    obtain ⟨g8, h⟩ := gs h
    cases h
    exact X_sub (sub_s (sub_s (sub_s (sub_s (sub_s (sub_s (sub_n (sub_n (sub_n (sub_n sub_0)))))))))) (k1 _ _ _ _ _ rfl a1 b1.w f1.1 (gdV_lw b1.w rv2) (gdV_lw b1.w rv4) g8)
  have h := if_f c7 h
  cases h
def fL_law_b387 (v2 : Int) (v3 : Int) (v4 : Int) (v5 : Int) (v7 : Int) (ln : Nat) (z : ZZ) (D : DD) : Option ((Int × Int × Int × ZZ × DD) ⊕ (Int × ZZ × DD)) := (Option.bind (fJx4a65c_add_9ea2d (v3) (v7) D) fun q1 => match q1 with | (r1, D1) => (if dO D (v3) 9 then fL_law_b394 (v2) (v3) (v4) (v5) ln z D1 else none))
set_option maxRecDepth 100000 in
theorem BL_law_387 {ln : Nat} {D : DD} {z : ZZ} {v2 : Int} {v3 : Int} {v4 : Int} {v5 : Int} {v7 : Int} {Φ : xRes → xS → Prop} (hD : okD D) (hln : ln < 2147483648) (hz : okz z) (rv2 : gdV D v2) (rv3 : gdV D v3) (rv4 : gdV D v4) (rv5 : inR v5) (rv7 : gdV D v7) {p : (Int × Int × Int × ZZ × DD) ⊕ (Int × ZZ × DD)} (h : fL_law_b387 v2 v3 v4 v5 v7 ln z D = some p) (k1 : ∀ (v2' : Int) (v4' : Int) (v5' : Int) (z' : ZZ) (D' : DD), p = .inl (v2', v4', v5', z', D') → okD D' → DLw D D' → okz z' → gdV D' v2' → gdV D' v4' → inR v5' → XD mL_law 120 [some (.ref 1000000), some (.ref 0), some (rV (v2')), some (rV (v3)), some (rV (v4')), some (.int (iN (v5'))), none, none, none, none] [] ln D' z' Φ) (k2 : ∀ (v2' : Int) (z' : ZZ) (D' : DD), p = .inr (v2', z', D') → okD D' → DLw D D' → okz z' → gdV D' v2' → XD mL_law 421 [none, some (.ref 0), some (rV (v2')), none, none, none, none, none, none, none] [] ln D' z' Φ) : XD mL_law 387 [some (.ref 1000000), some (.ref 0), some (rV (v2)), some (rV (v3)), some (rV (v4)), some (.int (iN (v5))), none, some (rV (v7)), none, none] [] ln D z Φ := by
  unfold fL_law_b387 at h
  refine E_aload_n (pc' := 388) dL_law_387 rfl rfl ?_
  refine E_aload (pc' := 390) dL_law_388 rfl rfl ?_
  obtain ⟨⟨r1, D1⟩, q1, h⟩ := bs h
  obtain ⟨g2, h⟩ := gs h
  refine E_callV [rV (v7)] (pc' := 393) dL_law_390 rfl (xVc VL_144) (by decide) ⟨dO_pos g2, dO_is hD g2 rfl⟩ rfl (c1_r c1_n) (cs rfl) c1_n (cs rfl) rfl hD (CJx4a65c_add_9ea2d hD rv3 rv7 q1) (fun a1 b1 f1 => ?_)
  refine X_pop (pc' := 394) dL_law_393 rfl rfl ?_
  exact X_sub (sub_s (sub_s (sub_s (sub_s (sub_s (sub_s (sub_n (sub_n (sub_n (sub_n sub_0)))))))))) (BL_law_394 a1 hln hz (gdV_lw b1.w rv2) (gdV_lw b1.w rv3) (gdV_lw b1.w rv4) rv5 h (fun x0 x1 x2 z9 D9 hh a b c f0 f1 f2 => k1 x0 x1 x2 z9 D9 hh a (DLw_trans b1.w b) c f0 f1 f2) (fun x0 z9 D9 hh a b c f0 => k2 x0 z9 D9 hh a (DLw_trans b1.w b) c f0))
def fL_law_b276 (v2 : Int) (v3 : Int) (v4 : Int) (v5 : Int) (s0 : Int) (s1 : Int) (ln : Nat) (z : ZZ) (D : DD) : Option ((Int × Int × Int × ZZ × DD) ⊕ (Int × ZZ × DD)) := (if (s0) = (s1) then (if (v4) = 0 then fL_law_b394 (v2) (v3) (v4) (v5) ln z D else (if dT D < 600000 ∧ dS D + 10 ≤ 7200000 then (zl (dnew D 7 10) fun D4 => (Option.bind (fX6_init_ ((dT D)) (v4) D4) fun D5 => (Option.bind (fJx4a65c_clear_da8c8 (v3) D5) fun D6 => (if dO D5 (v3) 9 then fL_law_b394 ((dT D)) (v3) (v4) (v5) ln z D6 else none)))) else none)) else none)
set_option maxRecDepth 100000 in
theorem BL_law_276 {ln : Nat} {D : DD} {z : ZZ} {v2 : Int} {v3 : Int} {v4 : Int} {v5 : Int} {s0 : Int} {s1 : Int} {Φ : xRes → xS → Prop} (hD : okD D) (hln : ln < 2147483648) (hz : okz z) (rv2 : gdV D v2) (rv3 : gdV D v3) (rv4 : gdV D v4) (rv5 : inR v5) (rs0 : inR s0) (rs1 : inR s1) {p : (Int × Int × Int × ZZ × DD) ⊕ (Int × ZZ × DD)} (h : fL_law_b276 v2 v3 v4 v5 s0 s1 ln z D = some p) (k1 : ∀ (v2' : Int) (v4' : Int) (v5' : Int) (z' : ZZ) (D' : DD), p = .inl (v2', v4', v5', z', D') → okD D' → DLw D D' → okz z' → gdV D' v2' → gdV D' v4' → inR v5' → XD mL_law 120 [some (.ref 1000000), some (.ref 0), some (rV (v2')), some (rV (v3)), some (rV (v4')), some (.int (iN (v5'))), none, none, none, none] [] ln D' z' Φ) (k2 : ∀ (v2' : Int) (z' : ZZ) (D' : DD), p = .inr (v2', z', D') → okD D' → DLw D D' → okz z' → gdV D' v2' → XD mL_law 421 [none, some (.ref 0), some (rV (v2')), none, none, none, none, none, none, none] [] ln D' z' Φ) : XD mL_law 276 [some (.ref 1000000), some (.ref 0), some (rV (v2)), some (rV (v3)), some (rV (v4)), some (.int (iN (v5))), none, none, none, none] [.int (iN (s1)), .int (iN (s0))] ln D z Φ := by
  unfold fL_law_b276 at h
  refine X_icmp_eq dL_law_276 (tgt := 281) rfl (pc' := 279) rfl ⟨rs0.1, rs0.2, rs1.1, rs1.2⟩ (fun c1 => ?_) (fun c1 => ?_)
  · have h := if_t c1 h
    refine E_aload (pc' := 283) dL_law_281 rfl rfl ?_
    refine E_ifnull dL_law_283 (tgt := 394) rfl (pc' := 286) rfl hD rv4 (fun c2 => ?_) (fun c2 => ?_)
    · have h := if_t c2 h
      exact X_sub (sub_s (sub_s (sub_s (sub_s (sub_s (sub_s (sub_n (sub_n (sub_n (sub_n sub_0)))))))))) (BL_law_394 hD hln hz rv2 rv3 rv4 rv5 h (fun x0 x1 x2 z9 D9 hh a b c f0 f1 f2 => k1 x0 x1 x2 z9 D9 hh a (DLw_trans (DLw_refl _) b) c f0 f1 f2) (fun x0 z9 D9 hh a b c f0 => k2 x0 z9 D9 hh a (DLw_trans (DLw_refl _) b) c f0))
    have h := if_f c2 h
    obtain ⟨g3, h⟩ := gs h
    refine E_new (c := 6) (n := 10) (pc' := 289) dL_law_286 rfl rfl rfl (by decide) tq410 tq411 tq20 hD g3 ?_
    obtain ⟨D4, e4, f4, h⟩ := zl_some (P := fun q => okD q ∧ DLe D q ∧ dO q (dT D) 7) h ⟨okD_dnew hD (by decide) (by decide) g3.1 g3.2, DLe_dnew _ (by decide), dO_dnew hD⟩
    rw [e4]
    refine X_dup (pc' := 290) dL_law_289 rfl (rV_cat _) ?_
    refine E_aload (pc' := 292) dL_law_290 rfl rfl ?_
    obtain ⟨D5, q5, h⟩ := bs h
    refine E_callI (μ := mL_law) (μ' := mX6_init_) [rV (v4)] (pc' := 295) dL_law_292 rfl tq412 IL_280 (by decide) ⟨f4.2.2.1, f4.2.2.2.1⟩ rfl (c1_r c1_n) (cs rfl) (c1_r c1_n) (cs rfl) rfl f4.1 (CX6_init_ f4.1 (dO_gd f4.2.2 (by decide)) (gdV_lw (f4.2.1).w rv4) q5) (fun a5 b5 f5 => ?_)
    refine E_astore_n (pc' := 296) dL_law_295 rfl (cl rfl) (Or.inr rfl) (L' := [some (.ref 1000000), some (.ref 0), some (rV ((dT D))), some (rV (v3)), some (rV (v4)), some (.int (iN (v5))), none, none, none, none]) rfl ?_
    refine E_aload_n (pc' := 297) dL_law_296 rfl rfl ?_
    obtain ⟨D6, q6, h⟩ := bs h
    obtain ⟨g7, h⟩ := gs h
    refine E_callV [] (pc' := 300) dL_law_297 rfl (xVc VL_283) (by decide) ⟨dO_pos g7, dO_is a5 g7 rfl⟩ rfl c1_n (cs rfl) c1_n (cs rfl) rfl a5 (CJx4a65c_clear_da8c8 a5 (gdV_lw b5.w (gdV_lw (f4.2.1).w rv3)) q6) (fun a6 b6 f6 => ?_)
    refine X_goto dL_law_300 (tgt := 394) rfl ?_
    exact X_sub (sub_s (sub_s (sub_s (sub_s (sub_s (sub_s (sub_n (sub_n (sub_n (sub_n sub_0)))))))))) (BL_law_394 a6 hln hz (gdV_lw b6.w (gdV_lw b5.w (dO_gd f4.2.2 (by decide)))) (gdV_lw b6.w (gdV_lw b5.w (gdV_lw (f4.2.1).w rv3))) (gdV_lw b6.w (gdV_lw b5.w (gdV_lw (f4.2.1).w rv4))) rv5 h (fun x0 x1 x2 z9 D9 hh a b c f0 f1 f2 => k1 x0 x1 x2 z9 D9 hh a (DLw_trans (DLw_trans (DLw_trans (f4.2.1).w b5.w) b6.w) b) c f0 f1 f2) (fun x0 z9 D9 hh a b c f0 => k2 x0 z9 D9 hh a (DLw_trans (DLw_trans (DLw_trans (f4.2.1).w b5.w) b6.w) b) c f0))
  have h := if_f c1 h
  cases h
def fL_law_b191 (v2 : Int) (v3 : Int) (v4 : Int) (v5 : Int) (s0 : Int) (s1 : Int) (ln : Nat) (z : ZZ) (D : DD) : Option ((Int × Int × Int × ZZ × DD) ⊕ (Int × ZZ × DD)) := (if (s0) = (s1) then (Option.bind (fJx4a65c_isEmpty_aae02 (v3) D) fun r2 => (if dO D (v3) 9 then (if (r2) = (0) then (Option.bind (fJx4a65c_size_8abf5 (v3) D) fun r5 => (if inR ((r5 - 1)) then (Option.bind (fJx4a65c_remove_915e3 (v3) ((r5 - 1)) D) fun q7 => match q7 with | (r7, D7) => (if dO D7 (r7) 7 then fL_law_b394 (r7) (v3) (v4) (v5) ln z D7 else none)) else none)) else fL_law_b394 (v2) (v3) (v4) (v5) ln z D) else none)) else none)
set_option maxRecDepth 100000 in
theorem BL_law_191 {ln : Nat} {D : DD} {z : ZZ} {v2 : Int} {v3 : Int} {v4 : Int} {v5 : Int} {s0 : Int} {s1 : Int} {Φ : xRes → xS → Prop} (hD : okD D) (hln : ln < 2147483648) (hz : okz z) (rv2 : gdV D v2) (rv3 : gdV D v3) (rv4 : gdV D v4) (rv5 : inR v5) (rs0 : inR s0) (rs1 : inR s1) {p : (Int × Int × Int × ZZ × DD) ⊕ (Int × ZZ × DD)} (h : fL_law_b191 v2 v3 v4 v5 s0 s1 ln z D = some p) (k1 : ∀ (v2' : Int) (v4' : Int) (v5' : Int) (z' : ZZ) (D' : DD), p = .inl (v2', v4', v5', z', D') → okD D' → DLw D D' → okz z' → gdV D' v2' → gdV D' v4' → inR v5' → XD mL_law 120 [some (.ref 1000000), some (.ref 0), some (rV (v2')), some (rV (v3)), some (rV (v4')), some (.int (iN (v5'))), none, none, none, none] [] ln D' z' Φ) (k2 : ∀ (v2' : Int) (z' : ZZ) (D' : DD), p = .inr (v2', z', D') → okD D' → DLw D D' → okz z' → gdV D' v2' → XD mL_law 421 [none, some (.ref 0), some (rV (v2')), none, none, none, none, none, none, none] [] ln D' z' Φ) : XD mL_law 191 [some (.ref 1000000), some (.ref 0), some (rV (v2)), some (rV (v3)), some (rV (v4)), some (.int (iN (v5))), none, none, none, none] [.int (iN (s1)), .int (iN (s0))] ln D z Φ := by
  unfold fL_law_b191 at h
  refine X_icmp_eq dL_law_191 (tgt := 196) rfl (pc' := 194) rfl ⟨rs0.1, rs0.2, rs1.1, rs1.2⟩ (fun c1 => ?_) (fun c1 => ?_)
  · have h := if_t c1 h
    refine E_aload_n (pc' := 197) dL_law_196 rfl rfl ?_
    obtain ⟨r2, q2, h⟩ := bs h
    obtain ⟨g3, h⟩ := gs h
    refine E_callV [] (pc' := 200) dL_law_197 rfl (xVc VL_270) (by decide) ⟨dO_pos g3, dO_is hD g3 rfl⟩ rfl c1_n (cs rfl) c1_n (cs rfl) rfl hD (CJx4a65c_isEmpty_aae02 hD rv3 q2) (fun a2 b2 f2 => ?_)
    refine X_if_ne dL_law_200 (tgt := 394) rfl (pc' := 203) rfl (inR_b f2) (fun c4 => ?_) (fun c4 => ?_)
    · have h := if_f c4 h
      exact X_sub (sub_s (sub_s (sub_s (sub_s (sub_s (sub_s (sub_n (sub_n (sub_n (sub_n sub_0)))))))))) (BL_law_394 hD hln hz rv2 rv3 rv4 rv5 h (fun x0 x1 x2 z9 D9 hh a b c f0 f1 f2 => k1 x0 x1 x2 z9 D9 hh a (DLw_trans (DLw_refl _) b) c f0 f1 f2) (fun x0 z9 D9 hh a b c f0 => k2 x0 z9 D9 hh a (DLw_trans (DLw_refl _) b) c f0))
    have h := if_t c4 h
    refine E_aload_n (pc' := 204) dL_law_203 rfl rfl ?_
    refine E_aload_n (pc' := 205) dL_law_204 rfl rfl ?_
    obtain ⟨r5, q5, h⟩ := bs h
    refine E_callV [] (pc' := 208) dL_law_205 rfl (xVc VL_101) (by decide) ⟨dO_pos g3, dO_is hD g3 rfl⟩ rfl c1_n (cs rfl) (c1_r c1_n) (cs rfl) rfl hD (CJx4a65c_size_8abf5 hD rv3 q5) (fun a5 b5 f5 => ?_)
    refine X_iconst (pc' := 209) dL_law_208 rfl ?_
    refine X_isub (pc' := 210) dL_law_209 rfl ?_
    obtain ⟨g6, h⟩ := gs h
    obtain ⟨⟨r7, D7⟩, q7, h⟩ := bs h
    refine E_callV [.int (iN ((r5 - 1)))] (pc' := 213) dL_law_210 rfl (xVc VL_274) (by decide) ⟨dO_pos g3, dO_is hD g3 rfl⟩ rfl (c1_i c1_n) (cs rfl) c1_n (cs rfl) rfl hD (CJx4a65c_remove_915e3 hD rv3 g6 q7) (fun a7 b7 f7 => ?_)
    obtain ⟨g8, h⟩ := gs h
    refine E_cast (pc' := 216) dL_law_213 rfl tq410 (dO_pos g8) (dO_is a7 g8 rfl) ?_
    refine E_astore_n (pc' := 217) dL_law_216 rfl (cl rfl) (Or.inr rfl) (L' := [some (.ref 1000000), some (.ref 0), some (rV (r7)), some (rV (v3)), some (rV (v4)), some (.int (iN (v5))), none, none, none, none]) rfl ?_
    refine X_goto dL_law_217 (tgt := 394) rfl ?_
    exact X_sub (sub_s (sub_s (sub_s (sub_s (sub_s (sub_s (sub_n (sub_n (sub_n (sub_n sub_0)))))))))) (BL_law_394 a7 hln hz f7 (gdV_lw b7.w rv3) (gdV_lw b7.w rv4) rv5 h (fun x0 x1 x2 z9 D9 hh a b c f0 f1 f2 => k1 x0 x1 x2 z9 D9 hh a (DLw_trans b7.w b) c f0 f1 f2) (fun x0 z9 D9 hh a b c f0 => k2 x0 z9 D9 hh a (DLw_trans b7.w b) c f0))
  have h := if_f c1 h
  cases h
def fL_law_s120 (v3 : Int) (v2 : Int) (v4 : Int) (v5 : Int) (ln : Nat) (z : ZZ) (D : DD) : Option ((Int × Int × Int × ZZ × DD) ⊕ (Int × ZZ × DD)) := (if (v5) < (70) then (if (0 : Int) ≤ (v5) ∧ (0 : Int) < (40) then (if inR ((3 + (v5 % 40))) then (Option.bind (fL_pick ((3 + (v5 % 40))) (1000000000) ln z D) fun r4 => (if inR ((r4 + (983 * v5))) then (if (0 : Int) ≤ ((r4 + (983 * v5))) ∧ (0 : Int) < (13) then (if (((r4 + (983 * v5)) % 13)) = (0) then (if (0 : Int) ≤ ((r4 + (983 * v5))) ∧ (0 : Int) < (13) then (if (0 : Int) ≤ (((r4 + (983 * v5)) / 13)) ∧ (0 : Int) < (4) then (if ((((r4 + (983 * v5)) / 13) % 4)) < (2) then (Option.bind (fL_undo z) fun q43 => match q43 with | (r43, z43, j43) => (if dT D + (j43 : Nat) ≤ 600000 ∧ dS D + 6 * (j43 : Nat) ≤ 7200000 then (zl (djn j43 D) fun D45 => (Option.bind (fJx4a65c_isEmpty_aae02 (v3) D45) fun r46 => (if dO D45 (v3) 9 then (if (r46) = (0) then (Option.bind (fJx4a65c_size_8abf5 (v3) D45) fun r49 => (if inR ((r49 - 1)) then fL_law_b191 (v2) (v3) (v4) (v5) (r43) ((r49 - 1)) ln z43 D45 else none)) else fL_law_b191 (v2) (v3) (v4) (v5) (r43) ((-1000000003)) ln z43 D45) else none))) else none)) else (if (0 : Int) ≤ ((r4 + (983 * v5))) ∧ (0 : Int) < (13) then (if (0 : Int) ≤ (((r4 + (983 * v5)) / 13)) ∧ (0 : Int) < (4) then (if ((((r4 + (983 * v5)) / 13) % 4)) = (2) then (Option.bind (fX5_save z) fun q37 => match q37 with | (r37, z37) => (if dO D (v2) 7 then (if (r37) = ((dW D (v2) 3)) then (if dT D < 600000 ∧ dS D + 10 ≤ 7200000 then (zl (dnew D 7 10) fun D41 => (Option.bind (fX6_init_ ((dT D)) (v2) D41) fun D42 => fL_law_b394 (v2) (v3) ((dT D)) (v5) ln z37 D42)) else none) else none) else none)) else (Option.bind (fL_restore z) fun q32 => match q32 with | (r32, z32, j32) => (if dT D + (j32 : Nat) ≤ 600000 ∧ dS D + 6 * (j32 : Nat) ≤ 7200000 then (zl (djn j32 D) fun D34 => (if (v4) = 0 then fL_law_b276 (v2) (v3) (v4) (v5) (r32) ((-1000000003)) ln z32 D34 else (if dO D34 (v4) 7 then fL_law_b276 (v2) (v3) (v4) (v5) (r32) ((dW D34 (v4) 3)) ln z32 D34 else none))) else none))) else none) else none)) else none) else none) else (if dT D < 600000 ∧ dS D + 10 ≤ 7200000 then (zl (dnew D 7 10) fun D9 => (Option.bind (fX6_init_ ((dT D)) (v2) D9) fun D10 => (if (0 : Int) ≤ ((r4 + (983 * v5))) ∧ (0 : Int) < (13) then (if (0 : Int) ≤ (((r4 + (983 * v5)) / 13)) ∧ (0 : Int) < (23) then (if (0 : Int) ≤ ((r4 + (983 * v5))) ∧ (0 : Int) < (299) then (Option.bind (fL_act (v2) ((((r4 + (983 * v5)) / 13) % 23)) (((r4 + (983 * v5)) / 299)) D10) fun q14 => match q14 with | (r14, D14) => (if (0 : Int) ≤ ((r4 + (983 * v5))) ∧ (0 : Int) < (299) then (Option.bind (fL_call ((dT D)) ((((r4 + (983 * v5)) / 13) % 23)) (((r4 + (983 * v5)) / 299)) ln z D14) fun q16 => match q16 with | (r16, z16, j16) => (if dT D14 + (j16 : Nat) ≤ 600000 ∧ dS D14 + 6 * (j16 : Nat) ≤ 7200000 then (zl (djn j16 D14) fun D18 => (if (r16) = (r14) then (Option.bind (fL_isError (r14) D18) fun r20 => (if (r20) = (0) then (Option.bind (fJx4a65c_size_8abf5 (v3) D18) fun r22 => (if dO D18 (v3) 9 then (if (r22) = (8) then (Option.bind (fJx4a65c_remove_915e3 (v3) (0) D18) fun q25 => match q25 with | (r25, D25) => fL_law_b387 (v2) (v3) (v4) (v5) ((dT D)) ln z16 D25) else fL_law_b387 (v2) (v3) (v4) (v5) ((dT D)) ln z16 D18) else none)) else fL_law_b394 ((dT D)) (v3) (v4) (v5) ln z16 D18)) else none)) else none)) else none)) else none) else none) else none))) else none)) else none) else none)) else none) else none) else some (.inr (v2, z, D)))
set_option maxRecDepth 100000 in
theorem SL_law_120 {ln : Nat} {D : DD} {z : ZZ} {v3 : Int} {v2 : Int} {v4 : Int} {v5 : Int} {Φ : xRes → xS → Prop} (hD : okD D) (hln : ln < 2147483648) (hz : okz z) (rv3 : gdV D v3) (rv2 : gdV D v2) (rv4 : gdV D v4) (rv5 : inR v5) {p : (Int × Int × Int × ZZ × DD) ⊕ (Int × ZZ × DD)} (h : fL_law_s120 v3 v2 v4 v5 ln z D = some p) (k1 : ∀ (v2' : Int) (v4' : Int) (v5' : Int) (z' : ZZ) (D' : DD), p = .inl (v2', v4', v5', z', D') → okD D' → DLw D D' → okz z' → gdV D' v2' → gdV D' v4' → inR v5' → XD mL_law 120 [some (.ref 1000000), some (.ref 0), some (rV (v2')), some (rV (v3)), some (rV (v4')), some (.int (iN (v5'))), none, none, none, none] [] ln D' z' Φ) (k2 : ∀ (v2' : Int) (z' : ZZ) (D' : DD), p = .inr (v2', z', D') → okD D' → DLw D D' → okz z' → gdV D' v2' → XD mL_law 421 [none, some (.ref 0), some (rV (v2')), none, none, none, none, none, none, none] [] ln D' z' Φ) : XD mL_law 120 [some (.ref 1000000), some (.ref 0), some (rV (v2)), some (rV (v3)), some (rV (v4)), some (.int (iN (v5))), none, none, none, none] [] ln D z Φ := by
  unfold fL_law_s120 at h
  refine X_iload (pc' := 122) dL_law_120 rfl rfl ?_
  refine X_bipush (pc' := 124) dL_law_122 rfl (by decide) ?_
  refine X_icmp_ge dL_law_124 (tgt := 421) rfl (pc' := 127) rfl ⟨rv5.1, rv5.2, (inR_c (n := 70) rfl).1, (inR_c (n := 70) rfl).2⟩ (fun c1 => ?_) (fun c1 => ?_)
  · have h := if_f (Int.not_lt.mpr c1) h
    cases h
    exact X_sub (sub_n (sub_s (sub_s (sub_n (sub_n (sub_n (sub_n (sub_n (sub_n (sub_n sub_0)))))))))) (k2 _ _ _ rfl hD (DLw_refl _) hz rv2)
  have h := if_t c1 h
  refine X_aload_n (pc' := 128) dL_law_127 rfl rfl ?_
  refine X_iconst (pc' := 129) dL_law_128 rfl ?_
  refine X_iload (pc' := 131) dL_law_129 rfl rfl ?_
  refine X_bipush (pc' := 133) dL_law_131 rfl (by decide) ?_
  obtain ⟨g2, h⟩ := gs h
  refine X_irem (pc' := 134) dL_law_133 rfl ⟨g2.1, rv5.2, g2.2, (inR_c (n := 40) rfl).2⟩ ?_
  refine X_iadd (pc' := 135) dL_law_134 rfl ?_
  refine X_ldcw (pc' := 138) dL_law_135 rfl tq2073 (n := 1000000000) rfl ?_
  obtain ⟨g3, h⟩ := gs h
  obtain ⟨r4, q4, h⟩ := bs h
  refine E_callS [.ref 1000000, .int (iN ((3 + (v5 % 40)))), .int (iN (1000000000))] (pc' := 141) dL_law_138 rfl (xSn SL_266) (by decide) rfl (c1_f rfl (c1_i (c1_i c1_n))) (cs rfl) c1_n (cs rfl) rfl hD (CL_pick hD hln hz g3 (inR_c (n := 1000000000) rfl) q4) (fun a4 b4 f4 => ?_)
  refine X_sipush (pc' := 144) dL_law_141 rfl (by decide) ?_
  refine X_iload (pc' := 146) dL_law_144 rfl rfl ?_
  refine X_imul (pc' := 147) dL_law_146 rfl ?_
  refine X_iadd (pc' := 148) dL_law_147 rfl ?_
  refine X_istore (pc' := 150) dL_law_148 rfl (cl rfl) (Or.inr rfl) (L' := [some (.ref 1000000), some (.ref 0), some (rV (v2)), some (rV (v3)), some (rV (v4)), some (.int (iN (v5))), some (.int (iN ((r4 + (983 * v5))))), none, none, none]) rfl ?_
  refine X_iload (pc' := 152) dL_law_150 rfl rfl ?_
  refine X_bipush (pc' := 154) dL_law_152 rfl (by decide) ?_
  obtain ⟨g5, h⟩ := gs h
  obtain ⟨g6, h⟩ := gs h
  refine X_irem (pc' := 155) dL_law_154 rfl ⟨g6.1, g5.2, g6.2, (inR_c (n := 13) rfl).2⟩ ?_
  refine X_if_ne dL_law_155 (tgt := 303) rfl (pc' := 158) rfl (inR_mod g6 (inR_c (n := 13) rfl)) (fun c7 => ?_) (fun c7 => ?_)
  · have h := if_f c7 h
    obtain ⟨g8, h⟩ := gs h
    refine E_new (c := 6) (n := 10) (pc' := 306) dL_law_303 rfl rfl rfl (by decide) tq410 tq411 tq20 hD g8 ?_
    obtain ⟨D9, e9, f9, h⟩ := zl_some (P := fun q => okD q ∧ DLe D q ∧ dO q (dT D) 7) h ⟨okD_dnew hD (by decide) (by decide) g8.1 g8.2, DLe_dnew _ (by decide), dO_dnew hD⟩
    rw [e9]
    refine X_dup (pc' := 307) dL_law_306 rfl (rV_cat _) ?_
    refine E_aload_n (pc' := 308) dL_law_307 rfl rfl ?_
    obtain ⟨D10, q10, h⟩ := bs h
    refine E_callI (μ := mL_law) (μ' := mX6_init_) [rV (v2)] (pc' := 311) dL_law_308 rfl tq412 IL_280 (by decide) ⟨f9.2.2.1, f9.2.2.2.1⟩ rfl (c1_r c1_n) (cs rfl) (c1_r c1_n) (cs rfl) rfl f9.1 (CX6_init_ f9.1 (dO_gd f9.2.2 (by decide)) (gdV_lw (f9.2.1).w rv2) q10) (fun a10 b10 f10 => ?_)
    refine E_astore (pc' := 313) dL_law_311 rfl (cl rfl) (Or.inr rfl) (L' := [some (.ref 1000000), some (.ref 0), some (rV (v2)), some (rV (v3)), some (rV (v4)), some (.int (iN (v5))), some (.int (iN ((r4 + (983 * v5))))), some (rV ((dT D))), none, none]) rfl ?_
    refine X_iload (pc' := 315) dL_law_313 rfl rfl ?_
    refine X_bipush (pc' := 317) dL_law_315 rfl (by decide) ?_
    obtain ⟨g11, h⟩ := gs h
    refine X_idiv (pc' := 318) dL_law_317 rfl ⟨g11.1, g5.2, g11.2, (inR_c (n := 13) rfl).2⟩ ?_
    refine X_bipush (pc' := 320) dL_law_318 rfl (by decide) ?_
    obtain ⟨g12, h⟩ := gs h
    refine X_irem (pc' := 321) dL_law_320 rfl ⟨g12.1, (inR_div g11 g5).2, g12.2, (inR_c (n := 23) rfl).2⟩ ?_
    refine X_istore (pc' := 323) dL_law_321 rfl (cl rfl) (Or.inr (xC1_R _)) (L' := [some (.ref 1000000), some (.ref 0), some (rV (v2)), some (rV (v3)), some (rV (v4)), some (.int (iN (v5))), some (.int (iN ((r4 + (983 * v5))))), some (rV ((dT D))), some (.int (iN ((((r4 + (983 * v5)) / 13) % 23)))), none]) rfl ?_
    refine E_aload_n (pc' := 324) dL_law_323 rfl rfl ?_
    refine X_iload (pc' := 326) dL_law_324 rfl rfl ?_
    refine X_iload (pc' := 328) dL_law_326 rfl rfl ?_
    refine X_sipush (pc' := 331) dL_law_328 rfl (by decide) ?_
    obtain ⟨g13, h⟩ := gs h
    refine X_idiv (pc' := 332) dL_law_331 rfl ⟨g13.1, g5.2, g13.2, (inR_c (n := 299) rfl).2⟩ ?_
    obtain ⟨⟨r14, D14⟩, q14, h⟩ := bs h
    refine E_callS [rV (v2), .int (iN ((((r4 + (983 * v5)) / 13) % 23))), .int (iN (((r4 + (983 * v5)) / 299)))] (pc' := 335) dL_law_332 rfl (xSn SL_286) (by decide) rfl (c1_r (c1_i (c1_i c1_n))) (cs rfl) c1_n (cs rfl) rfl a10 (CL_act a10 (gdV_lw b10.w (gdV_lw (f9.2.1).w rv2)) (inR_mod g12 (inR_c (n := 23) rfl)) (inR_div g13 g5) q14) (fun a14 b14 f14 => ?_)
    refine X_istore (pc' := 337) dL_law_335 rfl (cl rfl) (Or.inr rfl) (L' := [some (.ref 1000000), some (.ref 0), some (rV (v2)), some (rV (v3)), some (rV (v4)), some (.int (iN (v5))), some (.int (iN ((r4 + (983 * v5))))), some (rV ((dT D))), some (.int (iN ((((r4 + (983 * v5)) / 13) % 23)))), some (.int (iN (r14)))]) rfl ?_
    refine X_aload_n (pc' := 338) dL_law_337 rfl rfl ?_
    refine E_aload (pc' := 340) dL_law_338 rfl rfl ?_
    refine X_iload (pc' := 342) dL_law_340 rfl rfl ?_
    refine X_iload (pc' := 344) dL_law_342 rfl rfl ?_
    refine X_sipush (pc' := 347) dL_law_344 rfl (by decide) ?_
    obtain ⟨g15, h⟩ := gs h
    refine X_idiv (pc' := 348) dL_law_347 rfl ⟨g15.1, g5.2, g15.2, (inR_c (n := 299) rfl).2⟩ ?_
    obtain ⟨⟨r16, z16, j16⟩, q16, h⟩ := bs h
    obtain ⟨g17, h⟩ := gs h
    refine E_jS (k := j16) [.ref 0, rV ((dT D)), .int (iN ((((r4 + (983 * v5)) / 13) % 23))), .int (iN (((r4 + (983 * v5)) / 299)))] (pc' := 351) dL_law_348 rfl SL_290 (by decide) rfl (c1_f rfl (c1_r (c1_i (c1_i c1_n)))) (cs rfl) c1_n (cs rfl) rfl a14 g17 (CL_call a14 hz (gdV_lw b14.w (gdV_lw b10.w (dO_gd f9.2.2 (by decide)))) (inR_mod g12 (inR_c (n := 23) rfl)) (inR_div g15 g5) q16) (fun f16 => ?_)
    obtain ⟨D18, e18, f18, h⟩ := zl_some (P := fun q => okD q ∧ DLw D14 q) h ⟨(okD_djn a14 j16 g17.1 g17.2).1, DLw_djn a14 j16 g17.1 g17.2⟩
    rw [e18]
    refine X_iload (pc' := 353) dL_law_351 rfl rfl ?_
    refine X_icmp_eq dL_law_353 (tgt := 358) rfl (pc' := 356) rfl ⟨f16.2.1, f16.2.2, f14.1, f14.2⟩ (fun c19 => ?_) (fun c19 => ?_)
    · have h := if_t c19 h
      refine X_iload (pc' := 360) dL_law_358 rfl rfl ?_
      obtain ⟨r20, q20, h⟩ := bs h
      refine E_callS [.int (iN (r14))] (pc' := 363) dL_law_360 rfl (xSn SL_294) (by decide) rfl (c1_i c1_n) (cs rfl) c1_n (cs rfl) rfl f18.1 (CL_isError f18.1 f14 q20) (fun a20 b20 f20 => ?_)
      refine X_if_eq dL_law_363 (tgt := 372) rfl (pc' := 366) rfl (inR_b f20) (fun c21 => ?_) (fun c21 => ?_)
      · have h := if_t c21 h
        refine E_aload_n (pc' := 373) dL_law_372 rfl rfl ?_
        obtain ⟨r22, q22, h⟩ := bs h
        obtain ⟨g23, h⟩ := gs h
        refine E_callV [] (pc' := 376) dL_law_373 rfl (xVc VL_101) (by decide) ⟨dO_pos g23, dO_is f18.1 g23 rfl⟩ rfl c1_n (cs rfl) c1_n (cs rfl) rfl f18.1 (CJx4a65c_size_8abf5 f18.1 (gdV_lw f18.2 (gdV_lw b14.w (gdV_lw b10.w (gdV_lw (f9.2.1).w rv3)))) q22) (fun a22 b22 f22 => ?_)
        refine X_bipush (pc' := 378) dL_law_376 rfl (by decide) ?_
        refine X_icmp_ne dL_law_378 (tgt := 387) rfl (pc' := 381) rfl ⟨f22.1, f22.2, (inR_c (n := 8) rfl).1, (inR_c (n := 8) rfl).2⟩ (fun c24 => ?_) (fun c24 => ?_)
        · have h := if_f c24 h
          exact X_sub (sub_s (sub_s (sub_s (sub_s (sub_s (sub_s (sub_n (sub_s (sub_n (sub_n sub_0)))))))))) (BL_law_387 f18.1 hln f16.1 (gdV_lw f18.2 (gdV_lw b14.w (gdV_lw b10.w (gdV_lw (f9.2.1).w rv2)))) (gdV_lw f18.2 (gdV_lw b14.w (gdV_lw b10.w (gdV_lw (f9.2.1).w rv3)))) (gdV_lw f18.2 (gdV_lw b14.w (gdV_lw b10.w (gdV_lw (f9.2.1).w rv4)))) rv5 (gdV_lw f18.2 (gdV_lw b14.w (gdV_lw b10.w (dO_gd f9.2.2 (by decide))))) h (fun x0 x1 x2 z9 D9 hh a b c f0 f1 f2 => k1 x0 x1 x2 z9 D9 hh a (DLw_trans (DLw_trans (DLw_trans (DLw_trans (f9.2.1).w b10.w) b14.w) f18.2) b) c f0 f1 f2) (fun x0 z9 D9 hh a b c f0 => k2 x0 z9 D9 hh a (DLw_trans (DLw_trans (DLw_trans (DLw_trans (f9.2.1).w b10.w) b14.w) f18.2) b) c f0))
        have h := if_t c24 h
        refine E_aload_n (pc' := 382) dL_law_381 rfl rfl ?_
        refine X_iconst (pc' := 383) dL_law_382 rfl ?_
        obtain ⟨⟨r25, D25⟩, q25, h⟩ := bs h
        refine E_callV [.int (iN (0))] (pc' := 386) dL_law_383 rfl (xVc VL_274) (by decide) ⟨dO_pos g23, dO_is f18.1 g23 rfl⟩ rfl (c1_i c1_n) (cs rfl) c1_n (cs rfl) rfl f18.1 (CJx4a65c_remove_915e3 f18.1 (gdV_lw f18.2 (gdV_lw b14.w (gdV_lw b10.w (gdV_lw (f9.2.1).w rv3)))) (inR_c (n := 0) rfl) q25) (fun a25 b25 f25 => ?_)
        refine X_pop (pc' := 387) dL_law_386 rfl (rV_cat _) ?_
        exact X_sub (sub_s (sub_s (sub_s (sub_s (sub_s (sub_s (sub_n (sub_s (sub_n (sub_n sub_0)))))))))) (BL_law_387 a25 hln f16.1 (gdV_lw b25.w (gdV_lw f18.2 (gdV_lw b14.w (gdV_lw b10.w (gdV_lw (f9.2.1).w rv2))))) (gdV_lw b25.w (gdV_lw f18.2 (gdV_lw b14.w (gdV_lw b10.w (gdV_lw (f9.2.1).w rv3))))) (gdV_lw b25.w (gdV_lw f18.2 (gdV_lw b14.w (gdV_lw b10.w (gdV_lw (f9.2.1).w rv4))))) rv5 (gdV_lw b25.w (gdV_lw f18.2 (gdV_lw b14.w (gdV_lw b10.w (dO_gd f9.2.2 (by decide)))))) h (fun x0 x1 x2 z9 D9 hh a b c f0 f1 f2 => k1 x0 x1 x2 z9 D9 hh a (DLw_trans (DLw_trans (DLw_trans (DLw_trans (DLw_trans (f9.2.1).w b10.w) b14.w) f18.2) b25.w) b) c f0 f1 f2) (fun x0 z9 D9 hh a b c f0 => k2 x0 z9 D9 hh a (DLw_trans (DLw_trans (DLw_trans (DLw_trans (DLw_trans (f9.2.1).w b10.w) b14.w) f18.2) b25.w) b) c f0))
      have h := if_f c21 h
      refine E_aload (pc' := 368) dL_law_366 rfl rfl ?_
      refine E_astore_n (pc' := 369) dL_law_368 rfl (cl rfl) (Or.inr rfl) (L' := [some (.ref 1000000), some (.ref 0), some (rV ((dT D))), some (rV (v3)), some (rV (v4)), some (.int (iN (v5))), some (.int (iN ((r4 + (983 * v5))))), some (rV ((dT D))), some (.int (iN ((((r4 + (983 * v5)) / 13) % 23)))), some (.int (iN (r14)))]) rfl ?_
      refine X_goto dL_law_369 (tgt := 394) rfl ?_
      exact X_sub (sub_s (sub_s (sub_s (sub_s (sub_s (sub_s (sub_n (sub_n (sub_n (sub_n sub_0)))))))))) (BL_law_394 f18.1 hln f16.1 (gdV_lw f18.2 (gdV_lw b14.w (gdV_lw b10.w (dO_gd f9.2.2 (by decide))))) (gdV_lw f18.2 (gdV_lw b14.w (gdV_lw b10.w (gdV_lw (f9.2.1).w rv3)))) (gdV_lw f18.2 (gdV_lw b14.w (gdV_lw b10.w (gdV_lw (f9.2.1).w rv4)))) rv5 h (fun x0 x1 x2 z9 D9 hh a b c f0 f1 f2 => k1 x0 x1 x2 z9 D9 hh a (DLw_trans (DLw_trans (DLw_trans (DLw_trans (f9.2.1).w b10.w) b14.w) f18.2) b) c f0 f1 f2) (fun x0 z9 D9 hh a b c f0 => k2 x0 z9 D9 hh a (DLw_trans (DLw_trans (DLw_trans (DLw_trans (f9.2.1).w b10.w) b14.w) f18.2) b) c f0))
    have h := if_f c19 h
    cases h
  have h := if_t c7 h
  refine X_iload (pc' := 160) dL_law_158 rfl rfl ?_
  refine X_bipush (pc' := 162) dL_law_160 rfl (by decide) ?_
  obtain ⟨g26, h⟩ := gs h
  refine X_idiv (pc' := 163) dL_law_162 rfl ⟨g26.1, g5.2, g26.2, (inR_c (n := 13) rfl).2⟩ ?_
  refine X_iconst (pc' := 164) dL_law_163 rfl ?_
  obtain ⟨g27, h⟩ := gs h
  refine X_irem (pc' := 165) dL_law_164 rfl ⟨g27.1, (inR_div g26 g5).2, g27.2, (inR_c (n := 4) rfl).2⟩ ?_
  refine X_iconst (pc' := 166) dL_law_165 rfl ?_
  refine X_icmp_ge dL_law_166 (tgt := 220) rfl (pc' := 169) rfl ⟨(inR_mod g27 (inR_c (n := 4) rfl)).1, (inR_mod g27 (inR_c (n := 4) rfl)).2, (inR_c (n := 2) rfl).1, (inR_c (n := 2) rfl).2⟩ (fun c28 => ?_) (fun c28 => ?_)
  · have h := if_f (Int.not_lt.mpr c28) h
    refine X_iload (pc' := 222) dL_law_220 rfl rfl ?_
    refine X_bipush (pc' := 224) dL_law_222 rfl (by decide) ?_
    obtain ⟨g29, h⟩ := gs h
    refine X_idiv (pc' := 225) dL_law_224 rfl ⟨g29.1, g5.2, g29.2, (inR_c (n := 13) rfl).2⟩ ?_
    refine X_iconst (pc' := 226) dL_law_225 rfl ?_
    obtain ⟨g30, h⟩ := gs h
    refine X_irem (pc' := 227) dL_law_226 rfl ⟨g30.1, (inR_div g29 g5).2, g30.2, (inR_c (n := 4) rfl).2⟩ ?_
    refine X_iconst (pc' := 228) dL_law_227 rfl ?_
    refine X_icmp_ne dL_law_228 (tgt := 257) rfl (pc' := 231) rfl ⟨(inR_mod g30 (inR_c (n := 4) rfl)).1, (inR_mod g30 (inR_c (n := 4) rfl)).2, (inR_c (n := 2) rfl).1, (inR_c (n := 2) rfl).2⟩ (fun c31 => ?_) (fun c31 => ?_)
    · have h := if_f c31 h
      refine X_aload_n (pc' := 258) dL_law_257 rfl rfl ?_
      obtain ⟨⟨r32, z32, j32⟩, q32, h⟩ := bs h
      obtain ⟨g33, h⟩ := gs h
      refine E_jH (k := j32) [.ref 0] (pc' := 261) dL_law_258 rfl SL_237 (by decide) rfl (c1_f rfl c1_n) (cs rfl) c1_n (cs rfl) rfl hD g33 (CL_restore hD hz  q32) (fun f32 => ?_)
      obtain ⟨D34, e34, f34, h⟩ := zl_some (P := fun q => okD q ∧ DLw D q) h ⟨(okD_djn hD j32 g33.1 g33.2).1, DLw_djn hD j32 g33.1 g33.2⟩
      rw [e34]
      refine E_aload (pc' := 263) dL_law_261 rfl rfl ?_
      refine E_ifnonnull dL_law_263 (tgt := 271) rfl (pc' := 266) rfl f34.1 (gdV_lw f34.2 rv4) (fun c35 => ?_) (fun c35 => ?_)
      · have h := if_f c35 h
        refine E_aload (pc' := 273) dL_law_271 rfl rfl ?_
        obtain ⟨g36, h⟩ := gs h
        refine E_getI (pc' := 276) dL_law_273 rfl FL_137_6 f34.1 g36 rfl (j := 3) rfl ?_
        exact X_sub (sub_s (sub_s (sub_s (sub_s (sub_s (sub_s (sub_n (sub_n (sub_n (sub_n sub_0)))))))))) (BL_law_276 f34.1 hln f32.1 (gdV_lw f34.2 rv2) (gdV_lw f34.2 rv3) (gdV_lw f34.2 rv4) rv5 f32.2 (in_slot (k := 3) f34.1 g36 rfl (by decide)) h (fun x0 x1 x2 z9 D9 hh a b c f0 f1 f2 => k1 x0 x1 x2 z9 D9 hh a (DLw_trans f34.2 b) c f0 f1 f2) (fun x0 z9 D9 hh a b c f0 => k2 x0 z9 D9 hh a (DLw_trans f34.2 b) c f0))
      have h := if_t c35 h
      refine X_ldcI (pc' := 268) dL_law_266 rfl tq1760 (n := (-1000000003)) rfl ?_
      refine X_goto dL_law_268 (tgt := 276) rfl ?_
      exact X_sub (sub_s (sub_s (sub_s (sub_s (sub_s (sub_s (sub_n (sub_n (sub_n (sub_n sub_0)))))))))) (BL_law_276 f34.1 hln f32.1 (gdV_lw f34.2 rv2) (gdV_lw f34.2 rv3) (gdV_lw f34.2 rv4) rv5 f32.2 (inR_c (n := (-1000000003)) rfl) h (fun x0 x1 x2 z9 D9 hh a b c f0 f1 f2 => k1 x0 x1 x2 z9 D9 hh a (DLw_trans f34.2 b) c f0 f1 f2) (fun x0 z9 D9 hh a b c f0 => k2 x0 z9 D9 hh a (DLw_trans f34.2 b) c f0))
    have h := if_t c31 h
    refine X_aload_n (pc' := 232) dL_law_231 rfl rfl ?_
    obtain ⟨⟨r37, z37⟩, q37, h⟩ := bs h
    refine E0_callM [] (pc' := 235) dL_law_232 rfl VL_277 (by decide) rfl rfl c1_n (cs rfl) c1_n (cs rfl) rfl hD (show X mX5_save 0 (xEnt [.ref 0] (xL mX5_save)) [] (zmk (ln, D) (dT D).toNat z) 0 0 (Qd (inR r37 ∧ okz z37) (.inl (some (.int (iN r37)))) (zmk (ln, D) (dT D).toNat z37)) from CX5_save (hN1 (ln := (ln, D)) (hNm (ln := ln) hD)) hz  q37) (fun f37 => ?_)
    refine E_aload_n (pc' := 236) dL_law_235 rfl rfl ?_
    obtain ⟨g38, h⟩ := gs h
    refine E_getI (pc' := 239) dL_law_236 rfl FL_137_6 hD g38 rfl (j := 3) rfl ?_
    refine X_icmp_eq dL_law_239 (tgt := 244) rfl (pc' := 242) rfl ⟨f37.1.1, f37.1.2, (in_slot (k := 3) hD g38 rfl (by decide)).1, (in_slot (k := 3) hD g38 rfl (by decide)).2⟩ (fun c39 => ?_) (fun c39 => ?_)
    · have h := if_t c39 h
      obtain ⟨g40, h⟩ := gs h
      refine E_new (c := 6) (n := 10) (pc' := 247) dL_law_244 rfl rfl rfl (by decide) tq410 tq411 tq20 hD g40 ?_
      obtain ⟨D41, e41, f41, h⟩ := zl_some (P := fun q => okD q ∧ DLe D q ∧ dO q (dT D) 7) h ⟨okD_dnew hD (by decide) (by decide) g40.1 g40.2, DLe_dnew _ (by decide), dO_dnew hD⟩
      rw [e41]
      refine X_dup (pc' := 248) dL_law_247 rfl (rV_cat _) ?_
      refine E_aload_n (pc' := 249) dL_law_248 rfl rfl ?_
      obtain ⟨D42, q42, h⟩ := bs h
      refine E_callI (μ := mL_law) (μ' := mX6_init_) [rV (v2)] (pc' := 252) dL_law_249 rfl tq412 IL_280 (by decide) ⟨f41.2.2.1, f41.2.2.2.1⟩ rfl (c1_r c1_n) (cs rfl) (c1_r c1_n) (cs rfl) rfl f41.1 (CX6_init_ f41.1 (dO_gd f41.2.2 (by decide)) (gdV_lw (f41.2.1).w rv2) q42) (fun a42 b42 f42 => ?_)
      refine E_astore (pc' := 254) dL_law_252 rfl (cl rfl) (Or.inr (xC1_R _)) (L' := [some (.ref 1000000), some (.ref 0), some (rV (v2)), some (rV (v3)), some (rV ((dT D))), some (.int (iN (v5))), some (.int (iN ((r4 + (983 * v5))))), none, none, none]) rfl ?_
      refine X_goto dL_law_254 (tgt := 394) rfl ?_
      exact X_sub (sub_s (sub_s (sub_s (sub_s (sub_s (sub_s (sub_n (sub_n (sub_n (sub_n sub_0)))))))))) (BL_law_394 a42 hln f37.2 (gdV_lw b42.w (gdV_lw (f41.2.1).w rv2)) (gdV_lw b42.w (gdV_lw (f41.2.1).w rv3)) (gdV_lw b42.w (dO_gd f41.2.2 (by decide))) rv5 h (fun x0 x1 x2 z9 D9 hh a b c f0 f1 f2 => k1 x0 x1 x2 z9 D9 hh a (DLw_trans (DLw_trans (f41.2.1).w b42.w) b) c f0 f1 f2) (fun x0 z9 D9 hh a b c f0 => k2 x0 z9 D9 hh a (DLw_trans (DLw_trans (f41.2.1).w b42.w) b) c f0))
    have h := if_f c39 h
    cases h
  have h := if_t c28 h
  refine X_aload_n (pc' := 170) dL_law_169 rfl rfl ?_
  obtain ⟨⟨r43, z43, j43⟩, q43, h⟩ := bs h
  obtain ⟨g44, h⟩ := gs h
  refine E_jH (k := j43) [.ref 0] (pc' := 173) dL_law_170 rfl SL_234 (by decide) rfl (c1_f rfl c1_n) (cs rfl) c1_n (cs rfl) rfl hD g44 (CL_undo hD hz  q43) (fun f43 => ?_)
  obtain ⟨D45, e45, f45, h⟩ := zl_some (P := fun q => okD q ∧ DLw D q) h ⟨(okD_djn hD j43 g44.1 g44.2).1, DLw_djn hD j43 g44.1 g44.2⟩
  rw [e45]
  refine E_aload_n (pc' := 174) dL_law_173 rfl rfl ?_
  obtain ⟨r46, q46, h⟩ := bs h
  obtain ⟨g47, h⟩ := gs h
  refine E_callV [] (pc' := 177) dL_law_174 rfl (xVc VL_270) (by decide) ⟨dO_pos g47, dO_is f45.1 g47 rfl⟩ rfl c1_n (cs rfl) (c1_i c1_n) (cs rfl) rfl f45.1 (CJx4a65c_isEmpty_aae02 f45.1 (gdV_lw f45.2 rv3) q46) (fun a46 b46 f46 => ?_)
  refine X_if_eq dL_law_177 (tgt := 185) rfl (pc' := 180) rfl (inR_b f46) (fun c48 => ?_) (fun c48 => ?_)
  · have h := if_t c48 h
    refine E_aload_n (pc' := 186) dL_law_185 rfl rfl ?_
    obtain ⟨r49, q49, h⟩ := bs h
    refine E_callV [] (pc' := 189) dL_law_186 rfl (xVc VL_101) (by decide) ⟨dO_pos g47, dO_is f45.1 g47 rfl⟩ rfl c1_n (cs rfl) (c1_i c1_n) (cs rfl) rfl f45.1 (CJx4a65c_size_8abf5 f45.1 (gdV_lw f45.2 rv3) q49) (fun a49 b49 f49 => ?_)
    refine X_iconst (pc' := 190) dL_law_189 rfl ?_
    refine X_isub (pc' := 191) dL_law_190 rfl ?_
    obtain ⟨g50, h⟩ := gs h
    exact X_sub (sub_s (sub_s (sub_s (sub_s (sub_s (sub_s (sub_n (sub_n (sub_n (sub_n sub_0)))))))))) (BL_law_191 f45.1 hln f43.1 (gdV_lw f45.2 rv2) (gdV_lw f45.2 rv3) (gdV_lw f45.2 rv4) rv5 f43.2 g50 h (fun x0 x1 x2 z9 D9 hh a b c f0 f1 f2 => k1 x0 x1 x2 z9 D9 hh a (DLw_trans f45.2 b) c f0 f1 f2) (fun x0 z9 D9 hh a b c f0 => k2 x0 z9 D9 hh a (DLw_trans f45.2 b) c f0))
  have h := if_f c48 h
  refine X_ldcI (pc' := 182) dL_law_180 rfl tq1760 (n := (-1000000003)) rfl ?_
  refine X_goto dL_law_182 (tgt := 191) rfl ?_
  exact X_sub (sub_s (sub_s (sub_s (sub_s (sub_s (sub_s (sub_n (sub_n (sub_n (sub_n sub_0)))))))))) (BL_law_191 f45.1 hln f43.1 (gdV_lw f45.2 rv2) (gdV_lw f45.2 rv3) (gdV_lw f45.2 rv4) rv5 f43.2 (inR_c (n := (-1000000003)) rfl) h (fun x0 x1 x2 z9 D9 hh a b c f0 f1 f2 => k1 x0 x1 x2 z9 D9 hh a (DLw_trans f45.2 b) c f0 f1 f2) (fun x0 z9 D9 hh a b c f0 => k2 x0 z9 D9 hh a (DLw_trans f45.2 b) c f0))
theorem LL_law_120 {ln : Nat} {v3 : Int} {Φ : xRes → xS → Prop} (hln : ln < 2147483648) {r : Int × ZZ × DD} : ∀ (n : Nat) (v2 : Int) (v4 : Int) (v5 : Int) (z : ZZ) (D : DD), okD D → okz z → gdV D v3 → gdV D v2 → gdV D v4 → inR v5 → zlp (fun q => fL_law_s120 v3 q.1 q.2.1 q.2.2.1 ln q.2.2.2.1 q.2.2.2.2) n (v2, v4, v5, z, D) = some r → (∀ (v2' : Int) (z' : ZZ) (D' : DD), r = (v2', z', D') → okD D' → DLw D D' → okz z' → gdV D' v2' → XD mL_law 421 [none, some (.ref 0), some (rV (v2')), none, none, none, none, none, none, none] [] ln D' z' Φ) → XD mL_law 120 [some (.ref 1000000), some (.ref 0), some (rV (v2)), some (rV (v3)), some (rV (v4)), some (.int (iN (v5))), none, none, none, none] [] ln D z Φ := by
  intro n
  induction n with
  | zero => intro v2 v4 v5 z D hD hz rv3 rv2 rv4 rv5 h k2; cases h
  | succ n ih =>
    intro v2 v4 v5 z D hD hz rv3 rv2 rv4 rv5 h k2
    rcases zlp_s h with ⟨⟨v2', v4', v5', z', D'⟩, e, h'⟩ | e
    · exact SL_law_120 hD hln hz rv3 rv2 rv4 rv5 e (fun v2₁ v4₁ v5₁ z₁ D₁ hh a b c f0 f1 f2 => by cases hh; exact ih _ _ _ _ _ a c (gdV_lw b rv3) f0 f1 f2 h' (fun x0 z9 D9 hh a' b' c' y0 => k2 x0 z9 D9 hh a' (DLw_trans b b') c' y0)) (fun x0 z9 D9 hh => by cases hh)
    · exact SL_law_120 hD hln hz rv3 rv2 rv4 rv5 e (fun v2₁ v4₁ v5₁ z₁ D₁ hh => by cases hh) (fun x0 z9 D9 hh a b c y0 => by cases hh; exact k2 _ _ _ rfl a b c y0)
def fL_law_b8 (ln : Nat) (z : ZZ) (D : DD) : Option (Int × ZZ × DD) := (Option.bind (fL_undo z) fun q1 => match q1 with | (r1, z1, j1) => (if dT D + (j1 : Nat) ≤ 600000 ∧ dS D + 6 * (j1 : Nat) ≤ 7200000 then (zl (djn j1 D) fun D3 => (if (r1) = ((-1000000003)) then (Option.bind (fL_restore z1) fun q5 => match q5 with | (r5, z5, j5) => (if dT D3 + (j5 : Nat) ≤ 600000 ∧ dS D3 + 6 * (j5 : Nat) ≤ 7200000 then (zl (djn j5 D3) fun D7 => (if (r5) = ((-1000000003)) then (Option.bind (fL_load z5) fun q9 => match q9 with | (r9, z9, j9) => (if dT D7 + (j9 : Nat) ≤ 600000 ∧ dS D7 + 6 * (j9 : Nat) ≤ 7200000 then (zl (djn j9 D7) fun D11 => (if (r9) = ((-1000000002)) then (Option.bind (fL_climb (0) (0) z9) fun q13 => match q13 with | (r13, z13, j13) => (if dT D11 + (j13 : Nat) ≤ 600000 ∧ dS D11 + 6 * (j13 : Nat) ≤ 7200000 then (zl (djn j13 D11) fun D15 => (if (r13) = ((-1000000001)) then (Option.bind (fX6_plain D15) fun q17 => match q17 with | (r17, D17) => (Option.bind (fX6_isAs (r17) ln z13 D17) fun q18 => match q18 with | (r18, z18, D18) => (if dO D17 (r17) 7 then (if (r18) = (0) then none else (Option.bind (fX6_drawn ln z18 D18) fun q21 => match q21 with | (r21, D21) => (Option.bind (fX6_text (r21) D21) fun q22 => match q22 with | (r22, D22) => (if dO D21 (r21) 7 then (Option.bind (fL_type (r22) ln z18 D22) fun q24 => match q24 with | (r24, z24) => (if dT D22 + (0 : Nat) ≤ 600000 ∧ dS D22 + 6 * (0 : Nat) ≤ 7200000 then (zl (djn 0 D22) fun D26 => (if (r24) = (0) then none else (Option.bind (fX5_errorPosition z24) fun q28 => match q28 with | (r28, z28) => (if (r28) = ((-1)) then (Option.bind (fL_load z28) fun q30 => match q30 with | (r30, z30, j30) => (if dT D26 + (j30 : Nat) ≤ 600000 ∧ dS D26 + 6 * (j30 : Nat) ≤ 7200000 then (zl (djn j30 D26) fun D32 => (Option.bind (fJx4a65c_size_8abf5 ((dW D32 (r21) 4)) D32) fun r33 => (if dO D32 ((dW D32 (r21) 4)) 9 then (if (r30) = (r33) then (Option.bind (fX6_isAs (r21) ln z30 D32) fun q36 => match q36 with | (r36, z36, D36) => (if (r36) = (0) then none else (if dT D36 < 600000 ∧ dS D36 + 3 ≤ 7200000 then (zl (dnew D36 9 3) fun D39 => (Option.bind (fJx4a65c_init_da8c8 ((dT D36)) D39) fun D40 => (Option.bind (zlp (fun q => fL_law_s120 ((dT D36)) q.1 q.2.1 q.2.2.1 ln q.2.2.2.1 q.2.2.2.2) FU (r21, 0, 0, z36, D40)) fun q41 => match q41 with | (x41_v2, z41, D41) => (Option.bind (fL_texts ln z41 D41) fun q42 => match q42 with | (r42, z42) => (if dT D41 + (19 : Nat) ≤ 600000 ∧ dS D41 + 6 * (19 : Nat) ≤ 7200000 then (zl (djn 19 D41) fun D44 => (if (r42) = (0) then none else (Option.bind (fX6_isAs (x41_v2) ln z42 D44) fun q46 => match q46 with | (r46, z46, D46) => (if dO D44 (x41_v2) 7 then (if (r46) = (0) then none else some (1, z46, D46)) else none)))) else none))))) else none))) else none) else none))) else none)) else none)))) else none)) else none)))) else none))) else none)) else none)) else none)) else none)) else none)) else none)) else none)) else none))
set_option maxRecDepth 100000 in
theorem BL_law_8 {ln : Nat} {D : DD} {z : ZZ} {Φ : xRes → xS → Prop} (hD : okD D) (hln : ln < 2147483648) (hz : okz z) {p : Int × ZZ × DD} (h : fL_law_b8 ln z D = some p) (k : K_lb Φ ln D p) : XD mL_law 8 [some (.ref 1000000), some (.ref 0), none, none, none, none, none, none, none, none] [] ln D z Φ := by
  unfold fL_law_b8 at h
  refine X_aload_n (pc' := 9) dL_law_8 rfl rfl ?_
  obtain ⟨⟨r1, z1, j1⟩, q1, h⟩ := bs h
  obtain ⟨g2, h⟩ := gs h
  refine E_jH (k := j1) [.ref 0] (pc' := 12) dL_law_9 rfl SL_234 (by decide) rfl (c1_f rfl c1_n) (cs rfl) c1_n (cs rfl) rfl hD g2 (CL_undo hD hz  q1) (fun f1 => ?_)
  obtain ⟨D3, e3, f3, h⟩ := zl_some (P := fun q => okD q ∧ DLw D q) h ⟨(okD_djn hD j1 g2.1 g2.2).1, DLw_djn hD j1 g2.1 g2.2⟩
  rw [e3]
  refine X_ldcI (pc' := 14) dL_law_12 rfl tq1760 (n := (-1000000003)) rfl ?_
  refine X_icmp_ne dL_law_14 (tgt := 56) rfl (pc' := 17) rfl ⟨f1.2.1, f1.2.2, (inR_c (n := (-1000000003)) rfl).1, (inR_c (n := (-1000000003)) rfl).2⟩ (fun c4 => ?_) (fun c4 => ?_)
  · have h := if_f c4 h
    cases h
  have h := if_t c4 h
  refine X_aload_n (pc' := 18) dL_law_17 rfl rfl ?_
  obtain ⟨⟨r5, z5, j5⟩, q5, h⟩ := bs h
  obtain ⟨g6, h⟩ := gs h
  refine E_jH (k := j5) [.ref 0] (pc' := 21) dL_law_18 rfl SL_237 (by decide) rfl (c1_f rfl c1_n) (cs rfl) c1_n (cs rfl) rfl f3.1 g6 (CL_restore f3.1 f1.1  q5) (fun f5 => ?_)
  obtain ⟨D7, e7, f7, h⟩ := zl_some (P := fun q => okD q ∧ DLw D3 q) h ⟨(okD_djn f3.1 j5 g6.1 g6.2).1, DLw_djn f3.1 j5 g6.1 g6.2⟩
  rw [e7]
  refine X_ldcI (pc' := 23) dL_law_21 rfl tq1760 (n := (-1000000003)) rfl ?_
  refine X_icmp_ne dL_law_23 (tgt := 56) rfl (pc' := 26) rfl ⟨f5.2.1, f5.2.2, (inR_c (n := (-1000000003)) rfl).1, (inR_c (n := (-1000000003)) rfl).2⟩ (fun c8 => ?_) (fun c8 => ?_)
  · have h := if_f c8 h
    cases h
  have h := if_t c8 h
  refine X_aload_n (pc' := 27) dL_law_26 rfl rfl ?_
  obtain ⟨⟨r9, z9, j9⟩, q9, h⟩ := bs h
  obtain ⟨g10, h⟩ := gs h
  refine E_jH (k := j9) [.ref 0] (pc' := 30) dL_law_27 rfl SL_239 (by decide) rfl (c1_f rfl c1_n) (cs rfl) c1_n (cs rfl) rfl f7.1 g10 (CL_load f7.1 f5.1  q9) (fun f9 => ?_)
  obtain ⟨D11, e11, f11, h⟩ := zl_some (P := fun q => okD q ∧ DLw D7 q) h ⟨(okD_djn f7.1 j9 g10.1 g10.2).1, DLw_djn f7.1 j9 g10.1 g10.2⟩
  rw [e11]
  refine X_ldcI (pc' := 32) dL_law_30 rfl tq1719 (n := (-1000000002)) rfl ?_
  refine X_icmp_ne dL_law_32 (tgt := 56) rfl (pc' := 35) rfl ⟨f9.2.1, f9.2.2, (inR_c (n := (-1000000002)) rfl).1, (inR_c (n := (-1000000002)) rfl).2⟩ (fun c12 => ?_) (fun c12 => ?_)
  · have h := if_f c12 h
    cases h
  have h := if_t c12 h
  refine X_aload_n (pc' := 36) dL_law_35 rfl rfl ?_
  refine X_iconst (pc' := 37) dL_law_36 rfl ?_
  refine X_iconst (pc' := 38) dL_law_37 rfl ?_
  obtain ⟨⟨r13, z13, j13⟩, q13, h⟩ := bs h
  obtain ⟨g14, h⟩ := gs h
  refine E_jH (k := j13) [.ref 0, .int (iN (0)), .int (iN (0))] (pc' := 41) dL_law_38 rfl SL_211 (by decide) rfl (c1_f rfl (c1_i (c1_i c1_n))) (cs rfl) c1_n (cs rfl) rfl f11.1 g14 (CL_climb f11.1 f9.1 (inR_c (n := 0) rfl) (inR_c (n := 0) rfl) q13) (fun f13 => ?_)
  obtain ⟨D15, e15, f15, h⟩ := zl_some (P := fun q => okD q ∧ DLw D11 q) h ⟨(okD_djn f11.1 j13 g14.1 g14.2).1, DLw_djn f11.1 j13 g14.1 g14.2⟩
  rw [e15]
  refine X_ldcI (pc' := 43) dL_law_41 rfl tq1815 (n := (-1000000001)) rfl ?_
  refine X_icmp_ne dL_law_43 (tgt := 56) rfl (pc' := 46) rfl ⟨f13.2.1, f13.2.2, (inR_c (n := (-1000000001)) rfl).1, (inR_c (n := (-1000000001)) rfl).2⟩ (fun c16 => ?_) (fun c16 => ?_)
  · have h := if_f c16 h
    cases h
  have h := if_t c16 h
  obtain ⟨⟨r17, D17⟩, q17, h⟩ := bs h
  refine E_callS [] (pc' := 49) dL_law_46 rfl (xSn SL_241) (by decide) rfl c1_n (cs rfl) c1_n (cs rfl) rfl f15.1 (CX6_plain f15.1  q17) (fun a17 b17 f17 => ?_)
  refine X_aload_n (pc' := 50) dL_law_49 rfl rfl ?_
  obtain ⟨⟨r18, z18, D18⟩, q18, h⟩ := bs h
  obtain ⟨g19, h⟩ := gs h
  refine E_callV [.ref 0] (pc' := 53) dL_law_50 rfl (xVc VL_245) (by decide) ⟨dO_pos g19, dO_is a17 g19 rfl⟩ rfl (c1_f rfl c1_n) (cs rfl) c1_n (cs rfl) rfl a17 (CX6_isAs a17 f13.1 f17 q18) (fun a18 b18 f18 => ?_)
  refine X_if_ne dL_law_53 (tgt := 58) rfl (pc' := 56) rfl (inR_b f18.2) (fun c20 => ?_) (fun c20 => ?_)
  · have h := if_f c20 h
    refine X_aload_n (pc' := 59) dL_law_58 rfl rfl ?_
    obtain ⟨⟨r21, D21⟩, q21, h⟩ := bs h
    refine E_callS [.ref 1000000] (pc' := 62) dL_law_59 rfl (xSn SL_249) (by decide) rfl (c1_f rfl c1_n) (cs rfl) c1_n (cs rfl) rfl a18 (CX6_drawn a18 hln f18.1  q21) (fun a21 b21 f21 => ?_)
    refine E_astore_n (pc' := 63) dL_law_62 rfl (cl rfl) (Or.inr rfl) (L' := [some (.ref 1000000), some (.ref 0), some (rV (r21)), none, none, none, none, none, none, none]) rfl ?_
    refine X_aload_n (pc' := 64) dL_law_63 rfl rfl ?_
    refine E_aload_n (pc' := 65) dL_law_64 rfl rfl ?_
    obtain ⟨⟨r22, D22⟩, q22, h⟩ := bs h
    obtain ⟨g23, h⟩ := gs h
    refine E_callV [] (pc' := 68) dL_law_65 rfl (xVc VL_253) (by decide) ⟨dO_pos g23, dO_is a21 g23 rfl⟩ rfl c1_n (cs rfl) (c1_f rfl c1_n) (cs rfl) rfl a21 (CX6_text a21 f21 q22) (fun a22 b22 f22 => ?_)
    obtain ⟨⟨r24, z24⟩, q24, h⟩ := bs h
    obtain ⟨g25, h⟩ := gs h
    refine E_jS (k := 0) [.ref 0, rV (r22)] (pc' := 71) dL_law_68 rfl SL_257 (by decide) rfl (c1_f rfl (c1_r c1_n)) (cs rfl) c1_n (cs rfl) rfl a22 g25 (CL_type a22 f18.1 f22 q24) (fun f24 => ?_)
    obtain ⟨D26, e26, f26, h⟩ := zl_some (P := fun q => okD q ∧ DLw D22 q) h ⟨(okD_djn a22 0 g25.1 g25.2).1, DLw_djn a22 0 g25.1 g25.2⟩
    rw [e26]
    refine X_if_eq dL_law_71 (tgt := 104) rfl (pc' := 74) rfl (inR_b f24.2) (fun c27 => ?_) (fun c27 => ?_)
    · have h := if_t c27 h
      cases h
    have h := if_f c27 h
    refine X_aload_n (pc' := 75) dL_law_74 rfl rfl ?_
    obtain ⟨⟨r28, z28⟩, q28, h⟩ := bs h
    refine E0_callM [] (pc' := 78) dL_law_75 rfl VL_261 (by decide) rfl rfl c1_n (cs rfl) c1_n (cs rfl) rfl f26.1 (show X mX5_errorPosition 0 (xEnt [.ref 0] (xL mX5_errorPosition)) [] (zmk (ln, D26) (dT D26).toNat z24) 0 0 (Qd (inR r28 ∧ okz z28) (.inl (some (.int (iN r28)))) (zmk (ln, D26) (dT D26).toNat z28)) from CX5_errorPosition (hN1 (ln := (ln, D26)) (hNm (ln := ln) f26.1)) f24.1  q28) (fun f28 => ?_)
    refine X_iconst (pc' := 79) dL_law_78 rfl ?_
    refine X_icmp_ne dL_law_79 (tgt := 104) rfl (pc' := 82) rfl ⟨f28.1.1, f28.1.2, (inR_c (n := (-1)) rfl).1, (inR_c (n := (-1)) rfl).2⟩ (fun c29 => ?_) (fun c29 => ?_)
    · have h := if_f c29 h
      cases h
    have h := if_t c29 h
    refine X_aload_n (pc' := 83) dL_law_82 rfl rfl ?_
    obtain ⟨⟨r30, z30, j30⟩, q30, h⟩ := bs h
    obtain ⟨g31, h⟩ := gs h
    refine E_jH (k := j30) [.ref 0] (pc' := 86) dL_law_83 rfl SL_239 (by decide) rfl (c1_f rfl c1_n) (cs rfl) c1_n (cs rfl) rfl f26.1 g31 (CL_load f26.1 f28.2  q30) (fun f30 => ?_)
    obtain ⟨D32, e32, f32, h⟩ := zl_some (P := fun q => okD q ∧ DLw D26 q) h ⟨(okD_djn f26.1 j30 g31.1 g31.2).1, DLw_djn f26.1 j30 g31.1 g31.2⟩
    rw [e32]
    refine E_aload_n (pc' := 87) dL_law_86 rfl rfl ?_
    refine E_getR (pc' := 90) dL_law_87 rfl FL_118_6 f32.1 (dO_lw f32.2 (dO_lw f26.2 (dO_lw b22.w g23))) rfl (j := 4) rfl ?_
    obtain ⟨r33, q33, h⟩ := bs h
    obtain ⟨g34, h⟩ := gs h
    refine E_callV [] (pc' := 93) dL_law_90 rfl (xVc VL_101) (by decide) ⟨dO_pos g34, dO_is f32.1 g34 rfl⟩ rfl c1_n (cs rfl) (c1_i c1_n) (cs rfl) rfl f32.1 (CJx4a65c_size_8abf5 f32.1 (gd_slot (k := 4) f32.1 (dO_lw f32.2 (dO_lw f26.2 (dO_lw b22.w g23))) rfl (by decide)) q33) (fun a33 b33 f33 => ?_)
    refine X_icmp_ne dL_law_93 (tgt := 104) rfl (pc' := 96) rfl ⟨f30.2.1, f30.2.2, f33.1, f33.2⟩ (fun c35 => ?_) (fun c35 => ?_)
    · have h := if_f c35 h
      cases h
    have h := if_t c35 h
    refine E_aload_n (pc' := 97) dL_law_96 rfl rfl ?_
    refine X_aload_n (pc' := 98) dL_law_97 rfl rfl ?_
    obtain ⟨⟨r36, z36, D36⟩, q36, h⟩ := bs h
    refine E_callV [.ref 0] (pc' := 101) dL_law_98 rfl (xVc VL_245) (by decide) ⟨dO_pos (dO_lw f32.2 (dO_lw f26.2 (dO_lw b22.w g23))), dO_is f32.1 (dO_lw f32.2 (dO_lw f26.2 (dO_lw b22.w g23))) rfl⟩ rfl (c1_f rfl c1_n) (cs rfl) c1_n (cs rfl) rfl f32.1 (CX6_isAs f32.1 f30.1 (gdV_lw f32.2 (gdV_lw f26.2 (gdV_lw b22.w f21))) q36) (fun a36 b36 f36 => ?_)
    refine X_if_ne dL_law_101 (tgt := 106) rfl (pc' := 104) rfl (inR_b f36.2) (fun c37 => ?_) (fun c37 => ?_)
    · have h := if_f c37 h
      obtain ⟨g38, h⟩ := gs h
      refine E_new (c := 8) (n := 3) (pc' := 109) dL_law_106 rfl rfl rfl (by decide) tq2065 tq417 tq23 a36 g38 ?_
      obtain ⟨D39, e39, f39, h⟩ := zl_some (P := fun q => okD q ∧ DLe D36 q ∧ dO q (dT D36) 9) h ⟨okD_dnew a36 (by decide) (by decide) g38.1 g38.2, DLe_dnew _ (by decide), dO_dnew a36⟩
      rw [e39]
      refine X_dup (pc' := 110) dL_law_109 rfl (rV_cat _) ?_
      obtain ⟨D40, q40, h⟩ := bs h
      refine E_callI (μ := mL_law) (μ' := mJx4a65c_init_da8c8) [] (pc' := 113) dL_law_110 rfl tq2066 IL_264 (by decide) ⟨f39.2.2.1, f39.2.2.2.1⟩ rfl c1_n (cs rfl) (c1_r c1_n) (cs rfl) rfl f39.1 (CJx4a65c_init_da8c8 f39.1 (dO_gd f39.2.2 (by decide)) q40) (fun a40 b40 f40 => ?_)
      refine E_astore_n (pc' := 114) dL_law_113 rfl (cl rfl) (Or.inr (xC1_R _)) (L' := [some (.ref 1000000), some (.ref 0), some (rV (r21)), some (rV ((dT D36))), none, none, none, none, none, none]) rfl ?_
      refine E_null (pc' := 115) dL_law_114 rfl ?_
      refine E_astore (pc' := 117) dL_law_115 rfl (cl rfl) (Or.inr (xC1_R _)) (L' := [some (.ref 1000000), some (.ref 0), some (rV (r21)), some (rV ((dT D36))), some (rV (0)), none, none, none, none, none]) rfl ?_
      refine X_iconst (pc' := 118) dL_law_117 rfl ?_
      refine X_istore (pc' := 120) dL_law_118 rfl (cl rfl) (Or.inr (xC1_R _)) (L' := [some (.ref 1000000), some (.ref 0), some (rV (r21)), some (rV ((dT D36))), some (rV (0)), some (.int (iN (0))), none, none, none, none]) rfl ?_
      obtain ⟨⟨x41_v2, z41, D41⟩, q41, h⟩ := bs h
      refine X_sub (sub_s (sub_s (sub_s (sub_s (sub_s (sub_s (sub_n (sub_n (sub_n (sub_n sub_0)))))))))) (LL_law_120 hln FU _ _ _ _ _ a40 f36.1 (gdV_lw b40.w (dO_gd f39.2.2 (by decide))) (gdV_lw b40.w (gdV_lw (f39.2.1).w (gdV_lw b36.w (gdV_lw f32.2 (gdV_lw f26.2 (gdV_lw b22.w f21)))))) (Or.inl (Or.inl rfl)) (inR_c (n := 0) rfl) q41 (fun x41_v2₁ z41₁ D41₁ hh hD41 le41 hz41 rx41_v2 => ?_))
      cases hh
      refine X_aload_n (pc' := 422) dL_law_421 rfl rfl ?_
      obtain ⟨⟨r42, z42⟩, q42, h⟩ := bs h
      obtain ⟨g43, h⟩ := gs h
      refine E_jS (k := 19) [.ref 0] (pc' := 425) dL_law_422 rfl SL_300 (by decide) rfl (c1_f rfl c1_n) (cs rfl) c1_n (cs rfl) rfl hD41 g43 (CL_texts hD41 hz41 (by have := g43; omega)  q42) (fun f42 => ?_)
      obtain ⟨D44, e44, f44, h⟩ := zl_some (P := fun q => okD q ∧ DLw D41 q) h ⟨(okD_djn hD41 19 g43.1 g43.2).1, DLw_djn hD41 19 g43.1 g43.2⟩
      rw [e44]
      refine X_if_eq dL_law_425 (tgt := 440) rfl (pc' := 428) rfl (inR_b f42.2) (fun c45 => ?_) (fun c45 => ?_)
      · have h := if_t c45 h
        cases h
      have h := if_f c45 h
      refine E_aload_n (pc' := 429) dL_law_428 rfl rfl ?_
      refine X_aload_n (pc' := 430) dL_law_429 rfl rfl ?_
      obtain ⟨⟨r46, z46, D46⟩, q46, h⟩ := bs h
      obtain ⟨g47, h⟩ := gs h
      refine E_callV [.ref 0] (pc' := 433) dL_law_430 rfl (xVc VL_245) (by decide) ⟨dO_pos g47, dO_is f44.1 g47 rfl⟩ rfl (c1_f rfl c1_n) (cs rfl) c1_n (cs rfl) rfl f44.1 (CX6_isAs f44.1 f42.1 (gdV_lw f44.2 rx41_v2) q46) (fun a46 b46 f46 => ?_)
      refine X_if_eq dL_law_433 (tgt := 440) rfl (pc' := 436) rfl (inR_b f46.2) (fun c48 => ?_) (fun c48 => ?_)
      · have h := if_t c48 h
        cases h
      have h := if_f c48 h
      refine X_iconst (pc' := 437) dL_law_436 rfl ?_
      refine X_goto dL_law_437 (tgt := 441) rfl ?_
      cases h
      exact X_zret dL_law_441 rfl (Or.inr rfl) (k a46 (DLw_trans (DLw_trans (DLw_trans (DLw_trans (DLw_trans (DLw_trans (DLw_trans (DLw_trans (DLw_trans (DLw_trans (DLw_trans (DLw_trans (DLw_trans (DLw_trans (DLw_trans f3.2 f7.2) f11.2) f15.2) b17.w) b18.w) b21.w) b22.w) f26.2) f32.2) b36.w) (f39.2.1).w) b40.w) le41) f44.2) b46.w) f46.1 (Or.inr rfl))
    have h := if_t c37 h
    cases h
  have h := if_t c20 h
  cases h

abbrev isLn (ln : Nat) : Prop := ln < 2147483648
theorem inR_4 {a : Int} (h : 0 ≤ a ∧ a < 4) : inR a := by constructor <;> omega
theorem Y_wrap {μ μ' : xM} {pc pc' : Nat} {L : List (Option Value)} {st : List Value} {ln N : Nat} {z : ZZ} {c9 s9 Nm c0 s0 : Nat} {Φ : xRes → xS → Prop} {idx n : Nat} {r : Int} {z1 : ZZ} (As : List Value) {st0 : List Value} (hd : decode (xB μ) pc = .ok (.invokestatic idx, 3)) (hp : pc + 3 = pc') (hL : xLH (xY μ).cls idx μ' n) (hk : xK μ' < xK μ)
    (hn : As.length = n) (hA : (As.map fun v => v.category).sum ≤ xL μ') (hrest : (st.map fun v => v.category).sum ≤ 8) (hst : As.reverse ++ st = st0)
    (hX : X μ' 0 (xEnt As (xL μ')) [] (zmk ln N z) (cc_h (r, z1)) (6 * cc_h (r, z1)) (Qd (fa_h (r, z1)) (rs_h (r, z1)) (st_h ln N (r, z1)))) (hN : 161 ≤ N) (hR : N + 1 ≤ Nm ∧ c0 + 1 ≤ c9 ∧ s0 + 6 ≤ s9 ∧ Nm < 999999)
    (k9 : ∀ N1 c1 s1, (161 ≤ N1 ∧ N1 < 999999) → (N1 + 0 ≤ Nm ∧ c0 + 0 ≤ c1 ∧ s0 + 0 ≤ s1 ∧ Nm < 999999) → ((0 ≤ r ∧ r < 4) ∧ okz z1) → X μ pc' L (.int (iN r) :: st) (zmk ln N1 z1) c1 s1 Φ) : X μ pc L st0 (zmk ln N z) c9 s9 Φ := by
  have hcc : cc_h (r, z1) ≤ 1 := by unfold cc_h; split <;> decide
  exact Y_callSH As hd hp hL hk hn hA hrest hst hX (c7 := c9 - cc_h (r, z1)) (s7 := s9 - 6 * cc_h (r, z1)) (by omega) (by omega) (fun f => k9 (N + cc_h (r, z1)) _ _ ⟨by omega, by omega⟩ ⟨by omega, by omega, by omega, hR.2.2.2⟩ f)
def fL_c0 (ln : Nat) (v5 : Int) (z : ZZ) : Option (Int × ZZ) := (if (0 : Int) ≤ ((v5 + 1)) ∧ ((v5 + 1)) < (ln : Int) then (if (0 : Int) ≤ ((v5 + 2)) ∧ ((v5 + 2)) < (ln : Int) then (if (0 : Int) ≤ ((v5 + 3)) ∧ ((v5 + 3)) < (ln : Int) then (if (0 : Int) ≤ ((v5 + 4)) ∧ ((v5 + 4)) < (ln : Int) then (if (0 : Int) ≤ ((v5 + 5)) ∧ ((v5 + 5)) < (ln : Int) then (Option.bind (fL_append ((z 1000000 ((v5 + 1)))) ((z 1000000 ((v5 + 2)))) ((z 1000000 ((v5 + 3)))) ((z 1000000 ((v5 + 4)))) ((z 1000000 ((v5 + 5)))) z) fun q6 => match q6 with | (r6, z6) => (Option.bind (fX6_append ((z6 1000000 ((v5 + 1)))) ((z6 1000000 ((v5 + 2)))) ((z6 1000000 ((v5 + 3)))) ((z6 1000000 ((v5 + 4)))) ((z6 1000000 ((v5 + 5)))) z6) fun q7 => match q7 with | (r7, z7) => (Option.bind (fX6_thrown z7) fun r8 => (if (r8) = (r6) then (if (r6) = (0) then (if ((zcmp ((z7 159 (0))) (r7))) = (0) then some (1, z7) else some (0, z7)) else some (1, z7)) else some (0, z7))))) else none) else none) else none) else none) else none)
set_option maxRecDepth 100000 in
theorem TL_c0 {ln N : Nat} {z : ZZ} {v5 : Int} {Nm c0 s0 : Nat} {c9 s9 : Nat} {Φ : xRes → xS → Prop} (hN : 161 ≤ N ∧ N < 999999) (hz : okz z) (hln : isLn ln) (rv5 : inR v5) {p : Int × ZZ} (h : fL_c0 ln v5 z = some p) (hR : N + 1 ≤ Nm ∧ c0 + 1 ≤ c9 ∧ s0 + 6 ≤ s9 ∧ Nm < 999999) (k1 : ∀ (N' : Nat) (z' : ZZ), p = (1, z') → 161 ≤ N' → N' ≤ Nm → okz z' → X mL_law 2960 [some (.ref (1000000)), some (.ref (0)), some (.ref (151)), some (.ref (159)), some (.ref (160)), some (.int (iN (v5))), none, none, none] [] (zmk ln N' z') c0 s0 Φ) (k0 : ∀ (N' : Nat) (z' : ZZ), p = (0, z') → 161 ≤ N' → N' ≤ Nm → okz z' → Φ (.inl (some (.int (iN 0)))) (zmk ln N' z')) : X mL_law 240 [some (.ref (1000000)), some (.ref (0)), some (.ref (151)), some (.ref (159)), some (.ref (160)), some (.int (iN (v5))), none, none, none] [] (zmk ln N z) c9 s9 Φ := by
  unfold fL_c0 at h
  refine X_aload_n (pc' := 241) dL_law_240 rfl rfl ?_
  refine X_aload_n (pc' := 242) dL_law_241 rfl rfl ?_
  refine X_iload (pc' := 244) dL_law_242 rfl rfl ?_
  refine X_iconst (pc' := 245) dL_law_244 rfl ?_
  refine X_iadd (pc' := 246) dL_law_245 rfl ?_
  obtain ⟨g1, h⟩ := gs h
  refine Y_ialdS (pc' := 247) dL_law_246 rfl (shS ln) hln g1 ?_
  refine X_aload_n (pc' := 248) dL_law_247 rfl rfl ?_
  refine X_iload (pc' := 250) dL_law_248 rfl rfl ?_
  refine X_iconst (pc' := 251) dL_law_250 rfl ?_
  refine X_iadd (pc' := 252) dL_law_251 rfl ?_
  obtain ⟨g2, h⟩ := gs h
  refine Y_ialdS (pc' := 253) dL_law_252 rfl (shS ln) hln g2 ?_
  refine X_aload_n (pc' := 254) dL_law_253 rfl rfl ?_
  refine X_iload (pc' := 256) dL_law_254 rfl rfl ?_
  refine X_iconst (pc' := 257) dL_law_256 rfl ?_
  refine X_iadd (pc' := 258) dL_law_257 rfl ?_
  obtain ⟨g3, h⟩ := gs h
  refine Y_ialdS (pc' := 259) dL_law_258 rfl (shS ln) hln g3 ?_
  refine X_aload_n (pc' := 260) dL_law_259 rfl rfl ?_
  refine X_iload (pc' := 262) dL_law_260 rfl rfl ?_
  refine X_iconst (pc' := 263) dL_law_262 rfl ?_
  refine X_iadd (pc' := 264) dL_law_263 rfl ?_
  obtain ⟨g4, h⟩ := gs h
  refine Y_ialdS (pc' := 265) dL_law_264 rfl (shS ln) hln g4 ?_
  refine X_aload_n (pc' := 266) dL_law_265 rfl rfl ?_
  refine X_iload (pc' := 268) dL_law_266 rfl rfl ?_
  refine X_iconst (pc' := 269) dL_law_268 rfl ?_
  refine X_iadd (pc' := 270) dL_law_269 rfl ?_
  obtain ⟨g5, h⟩ := gs h
  refine Y_ialdS (pc' := 271) dL_law_270 rfl (shS ln) hln g5 ?_
  refine X_aload_n (pc' := 272) dL_law_271 rfl rfl ?_
  obtain ⟨⟨r6, z6⟩, q6, h⟩ := bs h
  refine Y_wrap [.ref (0), .int (iN ((z 1000000 ((v5 + 1))))), .int (iN ((z 1000000 ((v5 + 2))))), .int (iN ((z 1000000 ((v5 + 3))))), .int (iN ((z 1000000 ((v5 + 4))))), .int (iN ((z 1000000 ((v5 + 5))))), .ref (159)] (pc' := 275) dL_law_272 rfl SL_156 (by decide) rfl (cs rfl) (cs rfl) rfl (CL_append hN hz (hz 1000000 ((v5 + 1)) (by decide)) (hz 1000000 ((v5 + 2)) (by decide)) (hz 1000000 ((v5 + 3)) (by decide)) (hz 1000000 ((v5 + 4)) (by decide)) (hz 1000000 ((v5 + 5)) (by decide)) q6) hN.1 hR (fun N1 c1 s1 hN hR f6 => ?_)
  refine X_istore (pc' := 277) dL_law_275 rfl (cl rfl) (Or.inr rfl) (L' := [some (.ref (1000000)), some (.ref (0)), some (.ref (151)), some (.ref (159)), some (.ref (160)), some (.int (iN (v5))), some (.int (iN (r6))), none, none]) rfl ?_
  refine X_aload_n (pc' := 278) dL_law_277 rfl rfl ?_
  refine X_aload_n (pc' := 279) dL_law_278 rfl rfl ?_
  refine X_iload (pc' := 281) dL_law_279 rfl rfl ?_
  refine X_iconst (pc' := 282) dL_law_281 rfl ?_
  refine X_iadd (pc' := 283) dL_law_282 rfl ?_
  refine Y_ialdS (pc' := 284) dL_law_283 rfl (shS ln) hln g1 ?_
  refine X_aload_n (pc' := 285) dL_law_284 rfl rfl ?_
  refine X_iload (pc' := 287) dL_law_285 rfl rfl ?_
  refine X_iconst (pc' := 288) dL_law_287 rfl ?_
  refine X_iadd (pc' := 289) dL_law_288 rfl ?_
  refine Y_ialdS (pc' := 290) dL_law_289 rfl (shS ln) hln g2 ?_
  refine X_aload_n (pc' := 291) dL_law_290 rfl rfl ?_
  refine X_iload (pc' := 293) dL_law_291 rfl rfl ?_
  refine X_iconst (pc' := 294) dL_law_293 rfl ?_
  refine X_iadd (pc' := 295) dL_law_294 rfl ?_
  refine Y_ialdS (pc' := 296) dL_law_295 rfl (shS ln) hln g3 ?_
  refine X_aload_n (pc' := 297) dL_law_296 rfl rfl ?_
  refine X_iload (pc' := 299) dL_law_297 rfl rfl ?_
  refine X_iconst (pc' := 300) dL_law_299 rfl ?_
  refine X_iadd (pc' := 301) dL_law_300 rfl ?_
  refine Y_ialdS (pc' := 302) dL_law_301 rfl (shS ln) hln g4 ?_
  refine X_aload_n (pc' := 303) dL_law_302 rfl rfl ?_
  refine X_iload (pc' := 305) dL_law_303 rfl rfl ?_
  refine X_iconst (pc' := 306) dL_law_305 rfl ?_
  refine X_iadd (pc' := 307) dL_law_306 rfl ?_
  refine Y_ialdS (pc' := 308) dL_law_307 rfl (shS ln) hln g5 ?_
  obtain ⟨⟨r7, z7⟩, q7, h⟩ := bs h
  refine Y_callV [.int (iN ((z6 1000000 ((v5 + 1))))), .int (iN ((z6 1000000 ((v5 + 2))))), .int (iN ((z6 1000000 ((v5 + 3))))), .int (iN ((z6 1000000 ((v5 + 4))))), .int (iN ((z6 1000000 ((v5 + 5)))))] (pc' := 311) dL_law_308 rfl VL_161 (by decide) (zlN hN (by decide)) (congrArg Prod.fst (sh151 ln)) rfl rfl rfl (cs rfl) (cs rfl) rfl (CX6_append (hN2 hN) f6.2 (f6.2 1000000 ((v5 + 1)) (by decide)) (f6.2 1000000 ((v5 + 2)) (by decide)) (f6.2 1000000 ((v5 + 3)) (by decide)) (f6.2 1000000 ((v5 + 4)) (by decide)) (f6.2 1000000 ((v5 + 5)) (by decide)) q7) (Nat.zero_add _).symm (Nat.zero_add _).symm (fun f7 => ?_)
  refine X_istore (pc' := 313) dL_law_311 rfl (cl rfl) (Or.inr rfl) (L' := [some (.ref (1000000)), some (.ref (0)), some (.ref (151)), some (.ref (159)), some (.ref (160)), some (.int (iN (v5))), some (.int (iN (r6))), some (.int (iN (r7))), none]) rfl ?_
  refine X_aload_n (pc' := 314) dL_law_313 rfl rfl ?_
  obtain ⟨r8, q8, h⟩ := bs h
  refine Y_callV [] (pc' := 317) dL_law_314 rfl VL_162 (by decide) (zlN hN (by decide)) (congrArg Prod.fst (sh151 ln)) rfl rfl rfl (cs rfl) (cs rfl) rfl (CX6_thrown (hN2 hN) f7.2 q8) (Nat.zero_add _).symm (Nat.zero_add _).symm (fun f8 => ?_)
  refine X_iload (pc' := 319) dL_law_317 rfl rfl ?_
  refine X_icmp_eq dL_law_319 (tgt := 324) rfl (pc' := 322) rfl ⟨f8.1, f8.2, (inR_4 f6.1).1, (inR_4 f6.1).2⟩ (fun c9 => ?_) (fun c9 => ?_)
  · have h := if_t c9 h
    refine X_iload (pc' := 326) dL_law_324 rfl rfl ?_
    refine X_if_ne dL_law_326 (tgt := 341) rfl (pc' := 329) rfl (inR_4 f6.1) (fun c10 => ?_) (fun c10 => ?_)
    · have h := if_f c10 h
      refine X_goto dL_law_341 (tgt := 2960) rfl ?_
      cases h
      exact X_room (by omega) (by omega) (X_sub (sub_s (sub_s (sub_s (sub_s (sub_s (sub_s (sub_n (sub_n (sub_n sub_0))))))))) (k1 _ _ rfl (by omega) (by omega) f7.2))
    have h := if_t c10 h
    refine X_aload_n (pc' := 330) dL_law_329 rfl rfl ?_
    refine X_iconst (pc' := 331) dL_law_330 rfl ?_
    refine Y_lald (pc' := 332) dL_law_331 rfl (zlN hN (by decide)) (sh159 ln) (by decide) ⟨by decide, by decide⟩ ?_
    refine X_iload (pc' := 334) dL_law_332 rfl rfl ?_
    refine X_lI_i2l (pc' := 335) dL_law_334 rfl f7.1 ?_
    refine X_lcmp (pc' := 336) dL_law_335 rfl ⟨(inL_R (f7.2 159 (0) (by decide))).1, (inL_R (f7.2 159 (0) (by decide))).2, (inL_R f7.1).1, (inL_R f7.1).2⟩ ?_
    refine X_if_eq dL_law_336 (tgt := 341) rfl (pc' := 339) rfl (inR_cmp _ _) (fun c11 => ?_) (fun c11 => ?_)
    · have h := if_t c11 h
      refine X_goto dL_law_341 (tgt := 2960) rfl ?_
      cases h
      exact X_room (by omega) (by omega) (X_sub (sub_s (sub_s (sub_s (sub_s (sub_s (sub_s (sub_n (sub_n (sub_n sub_0))))))))) (k1 _ _ rfl (by omega) (by omega) f7.2))
    have h := if_f c11 h
    refine X_iconst (pc' := 340) dL_law_339 rfl ?_
    cases h
    exact X_zret dL_law_340 rfl (Or.inl rfl) (k0 _ _ rfl (by omega) (by omega) f7.2)
  have h := if_f c9 h
  refine X_iconst (pc' := 323) dL_law_322 rfl ?_
  cases h
  exact X_zret dL_law_323 rfl (Or.inl rfl) (k0 _ _ rfl (by omega) (by omega) f7.2)
def fL_c1 (ln : Nat) (v5 : Int) (z : ZZ) : Option (Int × ZZ) := (if (0 : Int) ≤ ((v5 + 1)) ∧ ((v5 + 1)) < (ln : Int) then (Option.bind (fL_truncate ((z 1000000 ((v5 + 1)))) z) fun q2 => match q2 with | (r2, z2) => (Option.bind (fX6_truncate ((z2 1000000 ((v5 + 1)))) z2) fun q3 => match q3 with | (r3, z3) => (Option.bind (fX6_thrown z3) fun r4 => (if (r4) = (r2) then (if (r2) = (0) then (if ((zcmp ((z3 159 (0))) (r3))) = (0) then some (1, z3) else some (0, z3)) else some (1, z3)) else some (0, z3))))) else none)
set_option maxRecDepth 100000 in
theorem TL_c1 {ln N : Nat} {z : ZZ} {v5 : Int} {Nm c0 s0 : Nat} {c9 s9 : Nat} {Φ : xRes → xS → Prop} (hN : 161 ≤ N ∧ N < 999999) (hz : okz z) (hln : isLn ln) (rv5 : inR v5) {p : Int × ZZ} (h : fL_c1 ln v5 z = some p) (hR : N + 1 ≤ Nm ∧ c0 + 1 ≤ c9 ∧ s0 + 6 ≤ s9 ∧ Nm < 999999) (k1 : ∀ (N' : Nat) (z' : ZZ), p = (1, z') → 161 ≤ N' → N' ≤ Nm → okz z' → X mL_law 2960 [some (.ref (1000000)), some (.ref (0)), some (.ref (151)), some (.ref (159)), some (.ref (160)), some (.int (iN (v5))), none, none, none] [] (zmk ln N' z') c0 s0 Φ) (k0 : ∀ (N' : Nat) (z' : ZZ), p = (0, z') → 161 ≤ N' → N' ≤ Nm → okz z' → Φ (.inl (some (.int (iN 0)))) (zmk ln N' z')) : X mL_law 344 [some (.ref (1000000)), some (.ref (0)), some (.ref (151)), some (.ref (159)), some (.ref (160)), some (.int (iN (v5))), none, none, none] [] (zmk ln N z) c9 s9 Φ := by
  unfold fL_c1 at h
  refine X_aload_n (pc' := 345) dL_law_344 rfl rfl ?_
  refine X_aload_n (pc' := 346) dL_law_345 rfl rfl ?_
  refine X_iload (pc' := 348) dL_law_346 rfl rfl ?_
  refine X_iconst (pc' := 349) dL_law_348 rfl ?_
  refine X_iadd (pc' := 350) dL_law_349 rfl ?_
  obtain ⟨g1, h⟩ := gs h
  refine Y_ialdS (pc' := 351) dL_law_350 rfl (shS ln) hln g1 ?_
  refine X_aload_n (pc' := 352) dL_law_351 rfl rfl ?_
  obtain ⟨⟨r2, z2⟩, q2, h⟩ := bs h
  refine Y_wrap [.ref (0), .int (iN ((z 1000000 ((v5 + 1))))), .ref (159)] (pc' := 355) dL_law_352 rfl SL_165 (by decide) rfl (cs rfl) (cs rfl) rfl (CL_truncate hN hz (hz 1000000 ((v5 + 1)) (by decide)) q2) hN.1 hR (fun N1 c1 s1 hN hR f2 => ?_)
  refine X_istore (pc' := 357) dL_law_355 rfl (cl rfl) (Or.inr rfl) (L' := [some (.ref (1000000)), some (.ref (0)), some (.ref (151)), some (.ref (159)), some (.ref (160)), some (.int (iN (v5))), some (.int (iN (r2))), none, none]) rfl ?_
  refine X_aload_n (pc' := 358) dL_law_357 rfl rfl ?_
  refine X_aload_n (pc' := 359) dL_law_358 rfl rfl ?_
  refine X_iload (pc' := 361) dL_law_359 rfl rfl ?_
  refine X_iconst (pc' := 362) dL_law_361 rfl ?_
  refine X_iadd (pc' := 363) dL_law_362 rfl ?_
  refine Y_ialdS (pc' := 364) dL_law_363 rfl (shS ln) hln g1 ?_
  obtain ⟨⟨r3, z3⟩, q3, h⟩ := bs h
  refine Y_callV [.int (iN ((z2 1000000 ((v5 + 1)))))] (pc' := 367) dL_law_364 rfl VL_168 (by decide) (zlN hN (by decide)) (congrArg Prod.fst (sh151 ln)) rfl rfl rfl (cs rfl) (cs rfl) rfl (CX6_truncate (hN2 hN) f2.2 (f2.2 1000000 ((v5 + 1)) (by decide)) q3) (Nat.zero_add _).symm (Nat.zero_add _).symm (fun f3 => ?_)
  refine X_istore (pc' := 369) dL_law_367 rfl (cl rfl) (Or.inr rfl) (L' := [some (.ref (1000000)), some (.ref (0)), some (.ref (151)), some (.ref (159)), some (.ref (160)), some (.int (iN (v5))), some (.int (iN (r2))), some (.int (iN (r3))), none]) rfl ?_
  refine X_aload_n (pc' := 370) dL_law_369 rfl rfl ?_
  obtain ⟨r4, q4, h⟩ := bs h
  refine Y_callV [] (pc' := 373) dL_law_370 rfl VL_162 (by decide) (zlN hN (by decide)) (congrArg Prod.fst (sh151 ln)) rfl rfl rfl (cs rfl) (cs rfl) rfl (CX6_thrown (hN2 hN) f3.2 q4) (Nat.zero_add _).symm (Nat.zero_add _).symm (fun f4 => ?_)
  refine X_iload (pc' := 375) dL_law_373 rfl rfl ?_
  refine X_icmp_eq dL_law_375 (tgt := 380) rfl (pc' := 378) rfl ⟨f4.1, f4.2, (inR_4 f2.1).1, (inR_4 f2.1).2⟩ (fun c5 => ?_) (fun c5 => ?_)
  · have h := if_t c5 h
    refine X_iload (pc' := 382) dL_law_380 rfl rfl ?_
    refine X_if_ne dL_law_382 (tgt := 397) rfl (pc' := 385) rfl (inR_4 f2.1) (fun c6 => ?_) (fun c6 => ?_)
    · have h := if_f c6 h
      refine X_goto dL_law_397 (tgt := 2960) rfl ?_
      cases h
      exact X_room (by omega) (by omega) (X_sub (sub_s (sub_s (sub_s (sub_s (sub_s (sub_s (sub_n (sub_n (sub_n sub_0))))))))) (k1 _ _ rfl (by omega) (by omega) f3.2))
    have h := if_t c6 h
    refine X_aload_n (pc' := 386) dL_law_385 rfl rfl ?_
    refine X_iconst (pc' := 387) dL_law_386 rfl ?_
    refine Y_lald (pc' := 388) dL_law_387 rfl (zlN hN (by decide)) (sh159 ln) (by decide) ⟨by decide, by decide⟩ ?_
    refine X_iload (pc' := 390) dL_law_388 rfl rfl ?_
    refine X_lI_i2l (pc' := 391) dL_law_390 rfl f3.1 ?_
    refine X_lcmp (pc' := 392) dL_law_391 rfl ⟨(inL_R (f3.2 159 (0) (by decide))).1, (inL_R (f3.2 159 (0) (by decide))).2, (inL_R f3.1).1, (inL_R f3.1).2⟩ ?_
    refine X_if_eq dL_law_392 (tgt := 397) rfl (pc' := 395) rfl (inR_cmp _ _) (fun c7 => ?_) (fun c7 => ?_)
    · have h := if_t c7 h
      refine X_goto dL_law_397 (tgt := 2960) rfl ?_
      cases h
      exact X_room (by omega) (by omega) (X_sub (sub_s (sub_s (sub_s (sub_s (sub_s (sub_s (sub_n (sub_n (sub_n sub_0))))))))) (k1 _ _ rfl (by omega) (by omega) f3.2))
    have h := if_f c7 h
    refine X_iconst (pc' := 396) dL_law_395 rfl ?_
    cases h
    exact X_zret dL_law_396 rfl (Or.inl rfl) (k0 _ _ rfl (by omega) (by omega) f3.2)
  have h := if_f c5 h
  refine X_iconst (pc' := 379) dL_law_378 rfl ?_
  cases h
  exact X_zret dL_law_379 rfl (Or.inl rfl) (k0 _ _ rfl (by omega) (by omega) f3.2)
def fL_c2 (ln : Nat) (v5 : Int) (z : ZZ) : Option (Int × ZZ) := (Option.bind (fX5_errorPosition z) fun q1 => match q1 with | (r1, z1) => (Option.bind (fX6_errorPosition z1) fun q2 => match q2 with | (r2, z2) => (if (r1) = (r2) then some (1, z2) else some (0, z2))))
set_option maxRecDepth 100000 in
theorem TL_c2 {ln N : Nat} {z : ZZ} {v5 : Int} {Nm c0 s0 : Nat} {c9 s9 : Nat} {Φ : xRes → xS → Prop} (hN : 161 ≤ N ∧ N < 999999) (hz : okz z) (hln : isLn ln) (rv5 : inR v5) {p : Int × ZZ} (h : fL_c2 ln v5 z = some p) (hR : N + 1 ≤ Nm ∧ c0 + 1 ≤ c9 ∧ s0 + 6 ≤ s9 ∧ Nm < 999999) (k1 : ∀ (N' : Nat) (z' : ZZ), p = (1, z') → 161 ≤ N' → N' ≤ Nm → okz z' → X mL_law 2960 [some (.ref (1000000)), some (.ref (0)), some (.ref (151)), some (.ref (159)), some (.ref (160)), some (.int (iN (v5))), none, none, none] [] (zmk ln N' z') c0 s0 Φ) (k0 : ∀ (N' : Nat) (z' : ZZ), p = (0, z') → 161 ≤ N' → N' ≤ Nm → okz z' → Φ (.inl (some (.int (iN 0)))) (zmk ln N' z')) : X mL_law 400 [some (.ref (1000000)), some (.ref (0)), some (.ref (151)), some (.ref (159)), some (.ref (160)), some (.int (iN (v5))), none, none, none] [] (zmk ln N z) c9 s9 Φ := by
  unfold fL_c2 at h
  refine X_aload_n (pc' := 401) dL_law_400 rfl rfl ?_
  obtain ⟨⟨r1, z1⟩, q1, h⟩ := bs h
  refine Y_callV [] (pc' := 404) dL_law_401 rfl VL_169 (by decide) (zlN hN (by decide)) (congrArg Prod.fst (sh0 ln)) rfl rfl rfl (cs rfl) (cs rfl) rfl (CX5_errorPosition (hN1 hN) hz q1) (Nat.zero_add _).symm (Nat.zero_add _).symm (fun f1 => ?_)
  refine X_aload_n (pc' := 405) dL_law_404 rfl rfl ?_
  obtain ⟨⟨r2, z2⟩, q2, h⟩ := bs h
  refine Y_callV [] (pc' := 408) dL_law_405 rfl VL_172 (by decide) (zlN hN (by decide)) (congrArg Prod.fst (sh151 ln)) rfl rfl rfl (cs rfl) (cs rfl) rfl (CX6_errorPosition (hN2 hN) f1.2 q2) (Nat.zero_add _).symm (Nat.zero_add _).symm (fun f2 => ?_)
  refine X_icmp_eq dL_law_408 (tgt := 2960) rfl (pc' := 411) rfl ⟨f1.1.1, f1.1.2, f2.1.1, f2.1.2⟩ (fun c3 => ?_) (fun c3 => ?_)
  · have h := if_t c3 h
    cases h
    exact X_room (by omega) (by omega) (X_sub (sub_s (sub_s (sub_s (sub_s (sub_s (sub_s (sub_n (sub_n (sub_n sub_0))))))))) (k1 _ _ rfl (by omega) (by omega) f2.2))
  have h := if_f c3 h
  refine X_iconst (pc' := 412) dL_law_411 rfl ?_
  cases h
  exact X_zret dL_law_412 rfl (Or.inl rfl) (k0 _ _ rfl (by omega) (by omega) f2.2)
def fL_c3 (ln : Nat) (v5 : Int) (z : ZZ) : Option (Int × ZZ) := (Option.bind (fL_load z) fun q1 => match q1 with | (r1, z1) => (Option.bind (fX6_load z1) fun q2 => match q2 with | (r2, z2) => (Option.bind (fX6_thrown z2) fun r3 => (if (r3) = (r1) then (if (r1) = (0) then (if ((zcmp ((z2 159 (0))) (r2))) = (0) then some (1, z2) else some (0, z2)) else some (1, z2)) else some (0, z2)))))
set_option maxRecDepth 100000 in
theorem TL_c3 {ln N : Nat} {z : ZZ} {v5 : Int} {Nm c0 s0 : Nat} {c9 s9 : Nat} {Φ : xRes → xS → Prop} (hN : 161 ≤ N ∧ N < 999999) (hz : okz z) (hln : isLn ln) (rv5 : inR v5) {p : Int × ZZ} (h : fL_c3 ln v5 z = some p) (hR : N + 1 ≤ Nm ∧ c0 + 1 ≤ c9 ∧ s0 + 6 ≤ s9 ∧ Nm < 999999) (k1 : ∀ (N' : Nat) (z' : ZZ), p = (1, z') → 161 ≤ N' → N' ≤ Nm → okz z' → X mL_law 2960 [some (.ref (1000000)), some (.ref (0)), some (.ref (151)), some (.ref (159)), some (.ref (160)), some (.int (iN (v5))), none, none, none] [] (zmk ln N' z') c0 s0 Φ) (k0 : ∀ (N' : Nat) (z' : ZZ), p = (0, z') → 161 ≤ N' → N' ≤ Nm → okz z' → Φ (.inl (some (.int (iN 0)))) (zmk ln N' z')) : X mL_law 413 [some (.ref (1000000)), some (.ref (0)), some (.ref (151)), some (.ref (159)), some (.ref (160)), some (.int (iN (v5))), none, none, none] [] (zmk ln N z) c9 s9 Φ := by
  unfold fL_c3 at h
  refine X_aload_n (pc' := 414) dL_law_413 rfl rfl ?_
  refine X_aload_n (pc' := 415) dL_law_414 rfl rfl ?_
  obtain ⟨⟨r1, z1⟩, q1, h⟩ := bs h
  refine Y_wrap [.ref (0), .ref (159)] (pc' := 418) dL_law_415 rfl SL_173 (by decide) rfl (cs rfl) (cs rfl) rfl (CL_load hN hz q1) hN.1 hR (fun N1 c1 s1 hN hR f1 => ?_)
  refine X_istore (pc' := 420) dL_law_418 rfl (cl rfl) (Or.inr rfl) (L' := [some (.ref (1000000)), some (.ref (0)), some (.ref (151)), some (.ref (159)), some (.ref (160)), some (.int (iN (v5))), some (.int (iN (r1))), none, none]) rfl ?_
  refine X_aload_n (pc' := 421) dL_law_420 rfl rfl ?_
  obtain ⟨⟨r2, z2⟩, q2, h⟩ := bs h
  refine Y_callV [] (pc' := 424) dL_law_421 rfl VL_176 (by decide) (zlN hN (by decide)) (congrArg Prod.fst (sh151 ln)) rfl rfl rfl (cs rfl) (cs rfl) rfl (CX6_load (hN2 hN) f1.2 q2) (Nat.zero_add _).symm (Nat.zero_add _).symm (fun f2 => ?_)
  refine X_istore (pc' := 426) dL_law_424 rfl (cl rfl) (Or.inr rfl) (L' := [some (.ref (1000000)), some (.ref (0)), some (.ref (151)), some (.ref (159)), some (.ref (160)), some (.int (iN (v5))), some (.int (iN (r1))), some (.int (iN (r2))), none]) rfl ?_
  refine X_aload_n (pc' := 427) dL_law_426 rfl rfl ?_
  obtain ⟨r3, q3, h⟩ := bs h
  refine Y_callV [] (pc' := 430) dL_law_427 rfl VL_162 (by decide) (zlN hN (by decide)) (congrArg Prod.fst (sh151 ln)) rfl rfl rfl (cs rfl) (cs rfl) rfl (CX6_thrown (hN2 hN) f2.2 q3) (Nat.zero_add _).symm (Nat.zero_add _).symm (fun f3 => ?_)
  refine X_iload (pc' := 432) dL_law_430 rfl rfl ?_
  refine X_icmp_eq dL_law_432 (tgt := 437) rfl (pc' := 435) rfl ⟨f3.1, f3.2, (inR_4 f1.1).1, (inR_4 f1.1).2⟩ (fun c4 => ?_) (fun c4 => ?_)
  · have h := if_t c4 h
    refine X_iload (pc' := 439) dL_law_437 rfl rfl ?_
    refine X_if_ne dL_law_439 (tgt := 454) rfl (pc' := 442) rfl (inR_4 f1.1) (fun c5 => ?_) (fun c5 => ?_)
    · have h := if_f c5 h
      refine X_goto dL_law_454 (tgt := 2960) rfl ?_
      cases h
      exact X_room (by omega) (by omega) (X_sub (sub_s (sub_s (sub_s (sub_s (sub_s (sub_s (sub_n (sub_n (sub_n sub_0))))))))) (k1 _ _ rfl (by omega) (by omega) f2.2))
    have h := if_t c5 h
    refine X_aload_n (pc' := 443) dL_law_442 rfl rfl ?_
    refine X_iconst (pc' := 444) dL_law_443 rfl ?_
    refine Y_lald (pc' := 445) dL_law_444 rfl (zlN hN (by decide)) (sh159 ln) (by decide) ⟨by decide, by decide⟩ ?_
    refine X_iload (pc' := 447) dL_law_445 rfl rfl ?_
    refine X_lI_i2l (pc' := 448) dL_law_447 rfl f2.1 ?_
    refine X_lcmp (pc' := 449) dL_law_448 rfl ⟨(inL_R (f2.2 159 (0) (by decide))).1, (inL_R (f2.2 159 (0) (by decide))).2, (inL_R f2.1).1, (inL_R f2.1).2⟩ ?_
    refine X_if_eq dL_law_449 (tgt := 454) rfl (pc' := 452) rfl (inR_cmp _ _) (fun c6 => ?_) (fun c6 => ?_)
    · have h := if_t c6 h
      refine X_goto dL_law_454 (tgt := 2960) rfl ?_
      cases h
      exact X_room (by omega) (by omega) (X_sub (sub_s (sub_s (sub_s (sub_s (sub_s (sub_s (sub_n (sub_n (sub_n sub_0))))))))) (k1 _ _ rfl (by omega) (by omega) f2.2))
    have h := if_f c6 h
    refine X_iconst (pc' := 453) dL_law_452 rfl ?_
    cases h
    exact X_zret dL_law_453 rfl (Or.inl rfl) (k0 _ _ rfl (by omega) (by omega) f2.2)
  have h := if_f c4 h
  refine X_iconst (pc' := 436) dL_law_435 rfl ?_
  cases h
  exact X_zret dL_law_436 rfl (Or.inl rfl) (k0 _ _ rfl (by omega) (by omega) f2.2)
def fL_c4 (ln : Nat) (v5 : Int) (z : ZZ) : Option (Int × ZZ) := (if (0 : Int) ≤ ((v5 + 1)) ∧ ((v5 + 1)) < (ln : Int) then (if (0 : Int) ≤ ((v5 + 2)) ∧ ((v5 + 2)) < (ln : Int) then (Option.bind (fL_setRoute ((z 1000000 ((v5 + 1)))) ((z 1000000 ((v5 + 2)))) z) fun q3 => match q3 with | (r3, z3) => (Option.bind (fX6_setRoute ((z3 1000000 ((v5 + 1)))) ((z3 1000000 ((v5 + 2)))) z3) fun q4 => match q4 with | (r4, z4) => (Option.bind (fX6_thrown z4) fun r5 => (if (r5) = (r3) then (if (r3) = (0) then (if ((zcmp ((z4 159 (0))) (r4))) = (0) then some (1, z4) else some (0, z4)) else some (1, z4)) else some (0, z4))))) else none) else none)
set_option maxRecDepth 100000 in
theorem TL_c4 {ln N : Nat} {z : ZZ} {v5 : Int} {Nm c0 s0 : Nat} {c9 s9 : Nat} {Φ : xRes → xS → Prop} (hN : 161 ≤ N ∧ N < 999999) (hz : okz z) (hln : isLn ln) (rv5 : inR v5) {p : Int × ZZ} (h : fL_c4 ln v5 z = some p) (hR : N + 1 ≤ Nm ∧ c0 + 1 ≤ c9 ∧ s0 + 6 ≤ s9 ∧ Nm < 999999) (k1 : ∀ (N' : Nat) (z' : ZZ), p = (1, z') → 161 ≤ N' → N' ≤ Nm → okz z' → X mL_law 2960 [some (.ref (1000000)), some (.ref (0)), some (.ref (151)), some (.ref (159)), some (.ref (160)), some (.int (iN (v5))), none, none, none] [] (zmk ln N' z') c0 s0 Φ) (k0 : ∀ (N' : Nat) (z' : ZZ), p = (0, z') → 161 ≤ N' → N' ≤ Nm → okz z' → Φ (.inl (some (.int (iN 0)))) (zmk ln N' z')) : X mL_law 457 [some (.ref (1000000)), some (.ref (0)), some (.ref (151)), some (.ref (159)), some (.ref (160)), some (.int (iN (v5))), none, none, none] [] (zmk ln N z) c9 s9 Φ := by
  unfold fL_c4 at h
  refine X_aload_n (pc' := 458) dL_law_457 rfl rfl ?_
  refine X_aload_n (pc' := 459) dL_law_458 rfl rfl ?_
  refine X_iload (pc' := 461) dL_law_459 rfl rfl ?_
  refine X_iconst (pc' := 462) dL_law_461 rfl ?_
  refine X_iadd (pc' := 463) dL_law_462 rfl ?_
  obtain ⟨g1, h⟩ := gs h
  refine Y_ialdS (pc' := 464) dL_law_463 rfl (shS ln) hln g1 ?_
  refine X_aload_n (pc' := 465) dL_law_464 rfl rfl ?_
  refine X_iload (pc' := 467) dL_law_465 rfl rfl ?_
  refine X_iconst (pc' := 468) dL_law_467 rfl ?_
  refine X_iadd (pc' := 469) dL_law_468 rfl ?_
  obtain ⟨g2, h⟩ := gs h
  refine Y_ialdS (pc' := 470) dL_law_469 rfl (shS ln) hln g2 ?_
  refine X_aload_n (pc' := 471) dL_law_470 rfl rfl ?_
  obtain ⟨⟨r3, z3⟩, q3, h⟩ := bs h
  refine Y_wrap [.ref (0), .int (iN ((z 1000000 ((v5 + 1))))), .int (iN ((z 1000000 ((v5 + 2))))), .ref (159)] (pc' := 474) dL_law_471 rfl SL_177 (by decide) rfl (cs rfl) (cs rfl) rfl (CL_setRoute hN hz (hz 1000000 ((v5 + 1)) (by decide)) (hz 1000000 ((v5 + 2)) (by decide)) q3) hN.1 hR (fun N1 c1 s1 hN hR f3 => ?_)
  refine X_istore (pc' := 476) dL_law_474 rfl (cl rfl) (Or.inr rfl) (L' := [some (.ref (1000000)), some (.ref (0)), some (.ref (151)), some (.ref (159)), some (.ref (160)), some (.int (iN (v5))), some (.int (iN (r3))), none, none]) rfl ?_
  refine X_aload_n (pc' := 477) dL_law_476 rfl rfl ?_
  refine X_aload_n (pc' := 478) dL_law_477 rfl rfl ?_
  refine X_iload (pc' := 480) dL_law_478 rfl rfl ?_
  refine X_iconst (pc' := 481) dL_law_480 rfl ?_
  refine X_iadd (pc' := 482) dL_law_481 rfl ?_
  refine Y_ialdS (pc' := 483) dL_law_482 rfl (shS ln) hln g1 ?_
  refine X_aload_n (pc' := 484) dL_law_483 rfl rfl ?_
  refine X_iload (pc' := 486) dL_law_484 rfl rfl ?_
  refine X_iconst (pc' := 487) dL_law_486 rfl ?_
  refine X_iadd (pc' := 488) dL_law_487 rfl ?_
  refine Y_ialdS (pc' := 489) dL_law_488 rfl (shS ln) hln g2 ?_
  obtain ⟨⟨r4, z4⟩, q4, h⟩ := bs h
  refine Y_callV [.int (iN ((z3 1000000 ((v5 + 1))))), .int (iN ((z3 1000000 ((v5 + 2)))))] (pc' := 492) dL_law_489 rfl VL_180 (by decide) (zlN hN (by decide)) (congrArg Prod.fst (sh151 ln)) rfl rfl rfl (cs rfl) (cs rfl) rfl (CX6_setRoute (hN2 hN) f3.2 (f3.2 1000000 ((v5 + 1)) (by decide)) (f3.2 1000000 ((v5 + 2)) (by decide)) q4) (Nat.zero_add _).symm (Nat.zero_add _).symm (fun f4 => ?_)
  refine X_istore (pc' := 494) dL_law_492 rfl (cl rfl) (Or.inr rfl) (L' := [some (.ref (1000000)), some (.ref (0)), some (.ref (151)), some (.ref (159)), some (.ref (160)), some (.int (iN (v5))), some (.int (iN (r3))), some (.int (iN (r4))), none]) rfl ?_
  refine X_aload_n (pc' := 495) dL_law_494 rfl rfl ?_
  obtain ⟨r5, q5, h⟩ := bs h
  refine Y_callV [] (pc' := 498) dL_law_495 rfl VL_162 (by decide) (zlN hN (by decide)) (congrArg Prod.fst (sh151 ln)) rfl rfl rfl (cs rfl) (cs rfl) rfl (CX6_thrown (hN2 hN) f4.2 q5) (Nat.zero_add _).symm (Nat.zero_add _).symm (fun f5 => ?_)
  refine X_iload (pc' := 500) dL_law_498 rfl rfl ?_
  refine X_icmp_eq dL_law_500 (tgt := 505) rfl (pc' := 503) rfl ⟨f5.1, f5.2, (inR_4 f3.1).1, (inR_4 f3.1).2⟩ (fun c6 => ?_) (fun c6 => ?_)
  · have h := if_t c6 h
    refine X_iload (pc' := 507) dL_law_505 rfl rfl ?_
    refine X_if_ne dL_law_507 (tgt := 522) rfl (pc' := 510) rfl (inR_4 f3.1) (fun c7 => ?_) (fun c7 => ?_)
    · have h := if_f c7 h
      refine X_goto dL_law_522 (tgt := 2960) rfl ?_
      cases h
      exact X_room (by omega) (by omega) (X_sub (sub_s (sub_s (sub_s (sub_s (sub_s (sub_s (sub_n (sub_n (sub_n sub_0))))))))) (k1 _ _ rfl (by omega) (by omega) f4.2))
    have h := if_t c7 h
    refine X_aload_n (pc' := 511) dL_law_510 rfl rfl ?_
    refine X_iconst (pc' := 512) dL_law_511 rfl ?_
    refine Y_lald (pc' := 513) dL_law_512 rfl (zlN hN (by decide)) (sh159 ln) (by decide) ⟨by decide, by decide⟩ ?_
    refine X_iload (pc' := 515) dL_law_513 rfl rfl ?_
    refine X_lI_i2l (pc' := 516) dL_law_515 rfl f4.1 ?_
    refine X_lcmp (pc' := 517) dL_law_516 rfl ⟨(inL_R (f4.2 159 (0) (by decide))).1, (inL_R (f4.2 159 (0) (by decide))).2, (inL_R f4.1).1, (inL_R f4.1).2⟩ ?_
    refine X_if_eq dL_law_517 (tgt := 522) rfl (pc' := 520) rfl (inR_cmp _ _) (fun c8 => ?_) (fun c8 => ?_)
    · have h := if_t c8 h
      refine X_goto dL_law_522 (tgt := 2960) rfl ?_
      cases h
      exact X_room (by omega) (by omega) (X_sub (sub_s (sub_s (sub_s (sub_s (sub_s (sub_s (sub_n (sub_n (sub_n sub_0))))))))) (k1 _ _ rfl (by omega) (by omega) f4.2))
    have h := if_f c8 h
    refine X_iconst (pc' := 521) dL_law_520 rfl ?_
    cases h
    exact X_zret dL_law_521 rfl (Or.inl rfl) (k0 _ _ rfl (by omega) (by omega) f4.2)
  have h := if_f c6 h
  refine X_iconst (pc' := 504) dL_law_503 rfl ?_
  cases h
  exact X_zret dL_law_504 rfl (Or.inl rfl) (k0 _ _ rfl (by omega) (by omega) f4.2)
def fL_c5 (ln : Nat) (v5 : Int) (z : ZZ) : Option (Int × ZZ) := (if (0 : Int) ≤ ((v5 + 1)) ∧ ((v5 + 1)) < (ln : Int) then (Option.bind (fL_removeRoute ((z 1000000 ((v5 + 1)))) z) fun q2 => match q2 with | (r2, z2) => (Option.bind (fX6_removeRoute ((z2 1000000 ((v5 + 1)))) z2) fun q3 => match q3 with | (r3, z3) => (Option.bind (fX6_thrown z3) fun r4 => (if (r4) = (r2) then (if (r2) = (0) then (if ((zcmp ((z3 159 (0))) (r3))) = (0) then some (1, z3) else some (0, z3)) else some (1, z3)) else some (0, z3))))) else none)
set_option maxRecDepth 100000 in
theorem TL_c5 {ln N : Nat} {z : ZZ} {v5 : Int} {Nm c0 s0 : Nat} {c9 s9 : Nat} {Φ : xRes → xS → Prop} (hN : 161 ≤ N ∧ N < 999999) (hz : okz z) (hln : isLn ln) (rv5 : inR v5) {p : Int × ZZ} (h : fL_c5 ln v5 z = some p) (hR : N + 1 ≤ Nm ∧ c0 + 1 ≤ c9 ∧ s0 + 6 ≤ s9 ∧ Nm < 999999) (k1 : ∀ (N' : Nat) (z' : ZZ), p = (1, z') → 161 ≤ N' → N' ≤ Nm → okz z' → X mL_law 2960 [some (.ref (1000000)), some (.ref (0)), some (.ref (151)), some (.ref (159)), some (.ref (160)), some (.int (iN (v5))), none, none, none] [] (zmk ln N' z') c0 s0 Φ) (k0 : ∀ (N' : Nat) (z' : ZZ), p = (0, z') → 161 ≤ N' → N' ≤ Nm → okz z' → Φ (.inl (some (.int (iN 0)))) (zmk ln N' z')) : X mL_law 525 [some (.ref (1000000)), some (.ref (0)), some (.ref (151)), some (.ref (159)), some (.ref (160)), some (.int (iN (v5))), none, none, none] [] (zmk ln N z) c9 s9 Φ := by
  unfold fL_c5 at h
  refine X_aload_n (pc' := 526) dL_law_525 rfl rfl ?_
  refine X_aload_n (pc' := 527) dL_law_526 rfl rfl ?_
  refine X_iload (pc' := 529) dL_law_527 rfl rfl ?_
  refine X_iconst (pc' := 530) dL_law_529 rfl ?_
  refine X_iadd (pc' := 531) dL_law_530 rfl ?_
  obtain ⟨g1, h⟩ := gs h
  refine Y_ialdS (pc' := 532) dL_law_531 rfl (shS ln) hln g1 ?_
  refine X_aload_n (pc' := 533) dL_law_532 rfl rfl ?_
  obtain ⟨⟨r2, z2⟩, q2, h⟩ := bs h
  refine Y_wrap [.ref (0), .int (iN ((z 1000000 ((v5 + 1))))), .ref (159)] (pc' := 536) dL_law_533 rfl SL_181 (by decide) rfl (cs rfl) (cs rfl) rfl (CL_removeRoute hN hz (hz 1000000 ((v5 + 1)) (by decide)) q2) hN.1 hR (fun N1 c1 s1 hN hR f2 => ?_)
  refine X_istore (pc' := 538) dL_law_536 rfl (cl rfl) (Or.inr rfl) (L' := [some (.ref (1000000)), some (.ref (0)), some (.ref (151)), some (.ref (159)), some (.ref (160)), some (.int (iN (v5))), some (.int (iN (r2))), none, none]) rfl ?_
  refine X_aload_n (pc' := 539) dL_law_538 rfl rfl ?_
  refine X_aload_n (pc' := 540) dL_law_539 rfl rfl ?_
  refine X_iload (pc' := 542) dL_law_540 rfl rfl ?_
  refine X_iconst (pc' := 543) dL_law_542 rfl ?_
  refine X_iadd (pc' := 544) dL_law_543 rfl ?_
  refine Y_ialdS (pc' := 545) dL_law_544 rfl (shS ln) hln g1 ?_
  obtain ⟨⟨r3, z3⟩, q3, h⟩ := bs h
  refine Y_callV [.int (iN ((z2 1000000 ((v5 + 1)))))] (pc' := 548) dL_law_545 rfl VL_183 (by decide) (zlN hN (by decide)) (congrArg Prod.fst (sh151 ln)) rfl rfl rfl (cs rfl) (cs rfl) rfl (CX6_removeRoute (hN2 hN) f2.2 (f2.2 1000000 ((v5 + 1)) (by decide)) q3) (Nat.zero_add _).symm (Nat.zero_add _).symm (fun f3 => ?_)
  refine X_istore (pc' := 550) dL_law_548 rfl (cl rfl) (Or.inr rfl) (L' := [some (.ref (1000000)), some (.ref (0)), some (.ref (151)), some (.ref (159)), some (.ref (160)), some (.int (iN (v5))), some (.int (iN (r2))), some (.int (iN (r3))), none]) rfl ?_
  refine X_aload_n (pc' := 551) dL_law_550 rfl rfl ?_
  obtain ⟨r4, q4, h⟩ := bs h
  refine Y_callV [] (pc' := 554) dL_law_551 rfl VL_162 (by decide) (zlN hN (by decide)) (congrArg Prod.fst (sh151 ln)) rfl rfl rfl (cs rfl) (cs rfl) rfl (CX6_thrown (hN2 hN) f3.2 q4) (Nat.zero_add _).symm (Nat.zero_add _).symm (fun f4 => ?_)
  refine X_iload (pc' := 556) dL_law_554 rfl rfl ?_
  refine X_icmp_eq dL_law_556 (tgt := 561) rfl (pc' := 559) rfl ⟨f4.1, f4.2, (inR_4 f2.1).1, (inR_4 f2.1).2⟩ (fun c5 => ?_) (fun c5 => ?_)
  · have h := if_t c5 h
    refine X_iload (pc' := 563) dL_law_561 rfl rfl ?_
    refine X_if_ne dL_law_563 (tgt := 578) rfl (pc' := 566) rfl (inR_4 f2.1) (fun c6 => ?_) (fun c6 => ?_)
    · have h := if_f c6 h
      refine X_goto dL_law_578 (tgt := 2960) rfl ?_
      cases h
      exact X_room (by omega) (by omega) (X_sub (sub_s (sub_s (sub_s (sub_s (sub_s (sub_s (sub_n (sub_n (sub_n sub_0))))))))) (k1 _ _ rfl (by omega) (by omega) f3.2))
    have h := if_t c6 h
    refine X_aload_n (pc' := 567) dL_law_566 rfl rfl ?_
    refine X_iconst (pc' := 568) dL_law_567 rfl ?_
    refine Y_lald (pc' := 569) dL_law_568 rfl (zlN hN (by decide)) (sh159 ln) (by decide) ⟨by decide, by decide⟩ ?_
    refine X_iload (pc' := 571) dL_law_569 rfl rfl ?_
    refine X_lI_i2l (pc' := 572) dL_law_571 rfl f3.1 ?_
    refine X_lcmp (pc' := 573) dL_law_572 rfl ⟨(inL_R (f3.2 159 (0) (by decide))).1, (inL_R (f3.2 159 (0) (by decide))).2, (inL_R f3.1).1, (inL_R f3.1).2⟩ ?_
    refine X_if_eq dL_law_573 (tgt := 578) rfl (pc' := 576) rfl (inR_cmp _ _) (fun c7 => ?_) (fun c7 => ?_)
    · have h := if_t c7 h
      refine X_goto dL_law_578 (tgt := 2960) rfl ?_
      cases h
      exact X_room (by omega) (by omega) (X_sub (sub_s (sub_s (sub_s (sub_s (sub_s (sub_s (sub_n (sub_n (sub_n sub_0))))))))) (k1 _ _ rfl (by omega) (by omega) f3.2))
    have h := if_f c7 h
    refine X_iconst (pc' := 577) dL_law_576 rfl ?_
    cases h
    exact X_zret dL_law_577 rfl (Or.inl rfl) (k0 _ _ rfl (by omega) (by omega) f3.2)
  have h := if_f c5 h
  refine X_iconst (pc' := 560) dL_law_559 rfl ?_
  cases h
  exact X_zret dL_law_560 rfl (Or.inl rfl) (k0 _ _ rfl (by omega) (by omega) f3.2)
def fL_c6 (ln : Nat) (v5 : Int) (z : ZZ) : Option (Int × ZZ) := (if (0 : Int) ≤ ((v5 + 1)) ∧ ((v5 + 1)) < (ln : Int) then (if (0 : Int) ≤ ((v5 + 2)) ∧ ((v5 + 2)) < (ln : Int) then (Option.bind (fL_climb ((z 1000000 ((v5 + 1)))) ((z 1000000 ((v5 + 2)))) z) fun q3 => match q3 with | (r3, z3) => (Option.bind (fX6_climb ((z3 1000000 ((v5 + 1)))) ((z3 1000000 ((v5 + 2)))) z3) fun q4 => match q4 with | (r4, z4) => (Option.bind (fX6_thrown z4) fun r5 => (if (r5) = (r3) then (if (r3) = (0) then (if ((zcmp ((z4 159 (0))) (r4))) = (0) then some (1, z4) else some (0, z4)) else some (1, z4)) else some (0, z4))))) else none) else none)
set_option maxRecDepth 100000 in
theorem TL_c6 {ln N : Nat} {z : ZZ} {v5 : Int} {Nm c0 s0 : Nat} {c9 s9 : Nat} {Φ : xRes → xS → Prop} (hN : 161 ≤ N ∧ N < 999999) (hz : okz z) (hln : isLn ln) (rv5 : inR v5) {p : Int × ZZ} (h : fL_c6 ln v5 z = some p) (hR : N + 1 ≤ Nm ∧ c0 + 1 ≤ c9 ∧ s0 + 6 ≤ s9 ∧ Nm < 999999) (k1 : ∀ (N' : Nat) (z' : ZZ), p = (1, z') → 161 ≤ N' → N' ≤ Nm → okz z' → X mL_law 2960 [some (.ref (1000000)), some (.ref (0)), some (.ref (151)), some (.ref (159)), some (.ref (160)), some (.int (iN (v5))), none, none, none] [] (zmk ln N' z') c0 s0 Φ) (k0 : ∀ (N' : Nat) (z' : ZZ), p = (0, z') → 161 ≤ N' → N' ≤ Nm → okz z' → Φ (.inl (some (.int (iN 0)))) (zmk ln N' z')) : X mL_law 581 [some (.ref (1000000)), some (.ref (0)), some (.ref (151)), some (.ref (159)), some (.ref (160)), some (.int (iN (v5))), none, none, none] [] (zmk ln N z) c9 s9 Φ := by
  unfold fL_c6 at h
  refine X_aload_n (pc' := 582) dL_law_581 rfl rfl ?_
  refine X_aload_n (pc' := 583) dL_law_582 rfl rfl ?_
  refine X_iload (pc' := 585) dL_law_583 rfl rfl ?_
  refine X_iconst (pc' := 586) dL_law_585 rfl ?_
  refine X_iadd (pc' := 587) dL_law_586 rfl ?_
  obtain ⟨g1, h⟩ := gs h
  refine Y_ialdS (pc' := 588) dL_law_587 rfl (shS ln) hln g1 ?_
  refine X_aload_n (pc' := 589) dL_law_588 rfl rfl ?_
  refine X_iload (pc' := 591) dL_law_589 rfl rfl ?_
  refine X_iconst (pc' := 592) dL_law_591 rfl ?_
  refine X_iadd (pc' := 593) dL_law_592 rfl ?_
  obtain ⟨g2, h⟩ := gs h
  refine Y_ialdS (pc' := 594) dL_law_593 rfl (shS ln) hln g2 ?_
  refine X_aload_n (pc' := 595) dL_law_594 rfl rfl ?_
  obtain ⟨⟨r3, z3⟩, q3, h⟩ := bs h
  refine Y_wrap [.ref (0), .int (iN ((z 1000000 ((v5 + 1))))), .int (iN ((z 1000000 ((v5 + 2))))), .ref (159)] (pc' := 598) dL_law_595 rfl SL_184 (by decide) rfl (cs rfl) (cs rfl) rfl (CL_climb hN hz (hz 1000000 ((v5 + 1)) (by decide)) (hz 1000000 ((v5 + 2)) (by decide)) q3) hN.1 hR (fun N1 c1 s1 hN hR f3 => ?_)
  refine X_istore (pc' := 600) dL_law_598 rfl (cl rfl) (Or.inr rfl) (L' := [some (.ref (1000000)), some (.ref (0)), some (.ref (151)), some (.ref (159)), some (.ref (160)), some (.int (iN (v5))), some (.int (iN (r3))), none, none]) rfl ?_
  refine X_aload_n (pc' := 601) dL_law_600 rfl rfl ?_
  refine X_aload_n (pc' := 602) dL_law_601 rfl rfl ?_
  refine X_iload (pc' := 604) dL_law_602 rfl rfl ?_
  refine X_iconst (pc' := 605) dL_law_604 rfl ?_
  refine X_iadd (pc' := 606) dL_law_605 rfl ?_
  refine Y_ialdS (pc' := 607) dL_law_606 rfl (shS ln) hln g1 ?_
  refine X_aload_n (pc' := 608) dL_law_607 rfl rfl ?_
  refine X_iload (pc' := 610) dL_law_608 rfl rfl ?_
  refine X_iconst (pc' := 611) dL_law_610 rfl ?_
  refine X_iadd (pc' := 612) dL_law_611 rfl ?_
  refine Y_ialdS (pc' := 613) dL_law_612 rfl (shS ln) hln g2 ?_
  obtain ⟨⟨r4, z4⟩, q4, h⟩ := bs h
  refine Y_callV [.int (iN ((z3 1000000 ((v5 + 1))))), .int (iN ((z3 1000000 ((v5 + 2)))))] (pc' := 616) dL_law_613 rfl VL_186 (by decide) (zlN hN (by decide)) (congrArg Prod.fst (sh151 ln)) rfl rfl rfl (cs rfl) (cs rfl) rfl (CX6_climb (hN2 hN) f3.2 (f3.2 1000000 ((v5 + 1)) (by decide)) (f3.2 1000000 ((v5 + 2)) (by decide)) q4) (Nat.zero_add _).symm (Nat.zero_add _).symm (fun f4 => ?_)
  refine X_istore (pc' := 618) dL_law_616 rfl (cl rfl) (Or.inr rfl) (L' := [some (.ref (1000000)), some (.ref (0)), some (.ref (151)), some (.ref (159)), some (.ref (160)), some (.int (iN (v5))), some (.int (iN (r3))), some (.int (iN (r4))), none]) rfl ?_
  refine X_aload_n (pc' := 619) dL_law_618 rfl rfl ?_
  obtain ⟨r5, q5, h⟩ := bs h
  refine Y_callV [] (pc' := 622) dL_law_619 rfl VL_162 (by decide) (zlN hN (by decide)) (congrArg Prod.fst (sh151 ln)) rfl rfl rfl (cs rfl) (cs rfl) rfl (CX6_thrown (hN2 hN) f4.2 q5) (Nat.zero_add _).symm (Nat.zero_add _).symm (fun f5 => ?_)
  refine X_iload (pc' := 624) dL_law_622 rfl rfl ?_
  refine X_icmp_eq dL_law_624 (tgt := 629) rfl (pc' := 627) rfl ⟨f5.1, f5.2, (inR_4 f3.1).1, (inR_4 f3.1).2⟩ (fun c6 => ?_) (fun c6 => ?_)
  · have h := if_t c6 h
    refine X_iload (pc' := 631) dL_law_629 rfl rfl ?_
    refine X_if_ne dL_law_631 (tgt := 646) rfl (pc' := 634) rfl (inR_4 f3.1) (fun c7 => ?_) (fun c7 => ?_)
    · have h := if_f c7 h
      refine X_goto dL_law_646 (tgt := 2960) rfl ?_
      cases h
      exact X_room (by omega) (by omega) (X_sub (sub_s (sub_s (sub_s (sub_s (sub_s (sub_s (sub_n (sub_n (sub_n sub_0))))))))) (k1 _ _ rfl (by omega) (by omega) f4.2))
    have h := if_t c7 h
    refine X_aload_n (pc' := 635) dL_law_634 rfl rfl ?_
    refine X_iconst (pc' := 636) dL_law_635 rfl ?_
    refine Y_lald (pc' := 637) dL_law_636 rfl (zlN hN (by decide)) (sh159 ln) (by decide) ⟨by decide, by decide⟩ ?_
    refine X_iload (pc' := 639) dL_law_637 rfl rfl ?_
    refine X_lI_i2l (pc' := 640) dL_law_639 rfl f4.1 ?_
    refine X_lcmp (pc' := 641) dL_law_640 rfl ⟨(inL_R (f4.2 159 (0) (by decide))).1, (inL_R (f4.2 159 (0) (by decide))).2, (inL_R f4.1).1, (inL_R f4.1).2⟩ ?_
    refine X_if_eq dL_law_641 (tgt := 646) rfl (pc' := 644) rfl (inR_cmp _ _) (fun c8 => ?_) (fun c8 => ?_)
    · have h := if_t c8 h
      refine X_goto dL_law_646 (tgt := 2960) rfl ?_
      cases h
      exact X_room (by omega) (by omega) (X_sub (sub_s (sub_s (sub_s (sub_s (sub_s (sub_s (sub_n (sub_n (sub_n sub_0))))))))) (k1 _ _ rfl (by omega) (by omega) f4.2))
    have h := if_f c8 h
    refine X_iconst (pc' := 645) dL_law_644 rfl ?_
    cases h
    exact X_zret dL_law_645 rfl (Or.inl rfl) (k0 _ _ rfl (by omega) (by omega) f4.2)
  have h := if_f c6 h
  refine X_iconst (pc' := 628) dL_law_627 rfl ?_
  cases h
  exact X_zret dL_law_628 rfl (Or.inl rfl) (k0 _ _ rfl (by omega) (by omega) f4.2)
def fL_c7 (ln : Nat) (v5 : Int) (z : ZZ) : Option (Int × ZZ) := (if (0 : Int) ≤ ((v5 + 1)) ∧ ((v5 + 1)) < (ln : Int) then (if (0 : Int) ≤ ((v5 + 2)) ∧ ((v5 + 2)) < (ln : Int) then (if (0 : Int) ≤ ((v5 + 3)) ∧ ((v5 + 3)) < (ln : Int) then (Option.bind (fL_vote ((z 1000000 ((v5 + 1)))) ((z 1000000 ((v5 + 2)))) ((z 1000000 ((v5 + 3)))) z) fun q4 => match q4 with | (r4, z4) => (Option.bind (fX6_vote ((z4 1000000 ((v5 + 1)))) ((z4 1000000 ((v5 + 2)))) ((z4 1000000 ((v5 + 3)))) z4) fun q5 => match q5 with | (r5, z5) => (Option.bind (fX6_thrown z5) fun r6 => (if (r6) = (r4) then (if (r4) = (0) then (if ((zcmp ((z5 159 (0))) (r5))) = (0) then some (1, z5) else some (0, z5)) else some (1, z5)) else some (0, z5))))) else none) else none) else none)
set_option maxRecDepth 100000 in
theorem TL_c7 {ln N : Nat} {z : ZZ} {v5 : Int} {Nm c0 s0 : Nat} {c9 s9 : Nat} {Φ : xRes → xS → Prop} (hN : 161 ≤ N ∧ N < 999999) (hz : okz z) (hln : isLn ln) (rv5 : inR v5) {p : Int × ZZ} (h : fL_c7 ln v5 z = some p) (hR : N + 1 ≤ Nm ∧ c0 + 1 ≤ c9 ∧ s0 + 6 ≤ s9 ∧ Nm < 999999) (k1 : ∀ (N' : Nat) (z' : ZZ), p = (1, z') → 161 ≤ N' → N' ≤ Nm → okz z' → X mL_law 2960 [some (.ref (1000000)), some (.ref (0)), some (.ref (151)), some (.ref (159)), some (.ref (160)), some (.int (iN (v5))), none, none, none] [] (zmk ln N' z') c0 s0 Φ) (k0 : ∀ (N' : Nat) (z' : ZZ), p = (0, z') → 161 ≤ N' → N' ≤ Nm → okz z' → Φ (.inl (some (.int (iN 0)))) (zmk ln N' z')) : X mL_law 649 [some (.ref (1000000)), some (.ref (0)), some (.ref (151)), some (.ref (159)), some (.ref (160)), some (.int (iN (v5))), none, none, none] [] (zmk ln N z) c9 s9 Φ := by
  unfold fL_c7 at h
  refine X_aload_n (pc' := 650) dL_law_649 rfl rfl ?_
  refine X_aload_n (pc' := 651) dL_law_650 rfl rfl ?_
  refine X_iload (pc' := 653) dL_law_651 rfl rfl ?_
  refine X_iconst (pc' := 654) dL_law_653 rfl ?_
  refine X_iadd (pc' := 655) dL_law_654 rfl ?_
  obtain ⟨g1, h⟩ := gs h
  refine Y_ialdS (pc' := 656) dL_law_655 rfl (shS ln) hln g1 ?_
  refine X_aload_n (pc' := 657) dL_law_656 rfl rfl ?_
  refine X_iload (pc' := 659) dL_law_657 rfl rfl ?_
  refine X_iconst (pc' := 660) dL_law_659 rfl ?_
  refine X_iadd (pc' := 661) dL_law_660 rfl ?_
  obtain ⟨g2, h⟩ := gs h
  refine Y_ialdS (pc' := 662) dL_law_661 rfl (shS ln) hln g2 ?_
  refine X_aload_n (pc' := 663) dL_law_662 rfl rfl ?_
  refine X_iload (pc' := 665) dL_law_663 rfl rfl ?_
  refine X_iconst (pc' := 666) dL_law_665 rfl ?_
  refine X_iadd (pc' := 667) dL_law_666 rfl ?_
  obtain ⟨g3, h⟩ := gs h
  refine Y_ialdS (pc' := 668) dL_law_667 rfl (shS ln) hln g3 ?_
  refine X_aload_n (pc' := 669) dL_law_668 rfl rfl ?_
  obtain ⟨⟨r4, z4⟩, q4, h⟩ := bs h
  refine Y_wrap [.ref (0), .int (iN ((z 1000000 ((v5 + 1))))), .int (iN ((z 1000000 ((v5 + 2))))), .int (iN ((z 1000000 ((v5 + 3))))), .ref (159)] (pc' := 672) dL_law_669 rfl SL_187 (by decide) rfl (cs rfl) (cs rfl) rfl (CL_vote hN hz (hz 1000000 ((v5 + 1)) (by decide)) (hz 1000000 ((v5 + 2)) (by decide)) (hz 1000000 ((v5 + 3)) (by decide)) q4) hN.1 hR (fun N1 c1 s1 hN hR f4 => ?_)
  refine X_istore (pc' := 674) dL_law_672 rfl (cl rfl) (Or.inr rfl) (L' := [some (.ref (1000000)), some (.ref (0)), some (.ref (151)), some (.ref (159)), some (.ref (160)), some (.int (iN (v5))), some (.int (iN (r4))), none, none]) rfl ?_
  refine X_aload_n (pc' := 675) dL_law_674 rfl rfl ?_
  refine X_aload_n (pc' := 676) dL_law_675 rfl rfl ?_
  refine X_iload (pc' := 678) dL_law_676 rfl rfl ?_
  refine X_iconst (pc' := 679) dL_law_678 rfl ?_
  refine X_iadd (pc' := 680) dL_law_679 rfl ?_
  refine Y_ialdS (pc' := 681) dL_law_680 rfl (shS ln) hln g1 ?_
  refine X_aload_n (pc' := 682) dL_law_681 rfl rfl ?_
  refine X_iload (pc' := 684) dL_law_682 rfl rfl ?_
  refine X_iconst (pc' := 685) dL_law_684 rfl ?_
  refine X_iadd (pc' := 686) dL_law_685 rfl ?_
  refine Y_ialdS (pc' := 687) dL_law_686 rfl (shS ln) hln g2 ?_
  refine X_aload_n (pc' := 688) dL_law_687 rfl rfl ?_
  refine X_iload (pc' := 690) dL_law_688 rfl rfl ?_
  refine X_iconst (pc' := 691) dL_law_690 rfl ?_
  refine X_iadd (pc' := 692) dL_law_691 rfl ?_
  refine Y_ialdS (pc' := 693) dL_law_692 rfl (shS ln) hln g3 ?_
  obtain ⟨⟨r5, z5⟩, q5, h⟩ := bs h
  refine Y_callV [.int (iN ((z4 1000000 ((v5 + 1))))), .int (iN ((z4 1000000 ((v5 + 2))))), .int (iN ((z4 1000000 ((v5 + 3)))))] (pc' := 696) dL_law_693 rfl VL_190 (by decide) (zlN hN (by decide)) (congrArg Prod.fst (sh151 ln)) rfl rfl rfl (cs rfl) (cs rfl) rfl (CX6_vote (hN2 hN) f4.2 (f4.2 1000000 ((v5 + 1)) (by decide)) (f4.2 1000000 ((v5 + 2)) (by decide)) (f4.2 1000000 ((v5 + 3)) (by decide)) q5) (Nat.zero_add _).symm (Nat.zero_add _).symm (fun f5 => ?_)
  refine X_istore (pc' := 698) dL_law_696 rfl (cl rfl) (Or.inr rfl) (L' := [some (.ref (1000000)), some (.ref (0)), some (.ref (151)), some (.ref (159)), some (.ref (160)), some (.int (iN (v5))), some (.int (iN (r4))), some (.int (iN (r5))), none]) rfl ?_
  refine X_aload_n (pc' := 699) dL_law_698 rfl rfl ?_
  obtain ⟨r6, q6, h⟩ := bs h
  refine Y_callV [] (pc' := 702) dL_law_699 rfl VL_162 (by decide) (zlN hN (by decide)) (congrArg Prod.fst (sh151 ln)) rfl rfl rfl (cs rfl) (cs rfl) rfl (CX6_thrown (hN2 hN) f5.2 q6) (Nat.zero_add _).symm (Nat.zero_add _).symm (fun f6 => ?_)
  refine X_iload (pc' := 704) dL_law_702 rfl rfl ?_
  refine X_icmp_eq dL_law_704 (tgt := 709) rfl (pc' := 707) rfl ⟨f6.1, f6.2, (inR_4 f4.1).1, (inR_4 f4.1).2⟩ (fun c7 => ?_) (fun c7 => ?_)
  · have h := if_t c7 h
    refine X_iload (pc' := 711) dL_law_709 rfl rfl ?_
    refine X_if_ne dL_law_711 (tgt := 726) rfl (pc' := 714) rfl (inR_4 f4.1) (fun c8 => ?_) (fun c8 => ?_)
    · have h := if_f c8 h
      refine X_goto dL_law_726 (tgt := 2960) rfl ?_
      cases h
      exact X_room (by omega) (by omega) (X_sub (sub_s (sub_s (sub_s (sub_s (sub_s (sub_s (sub_n (sub_n (sub_n sub_0))))))))) (k1 _ _ rfl (by omega) (by omega) f5.2))
    have h := if_t c8 h
    refine X_aload_n (pc' := 715) dL_law_714 rfl rfl ?_
    refine X_iconst (pc' := 716) dL_law_715 rfl ?_
    refine Y_lald (pc' := 717) dL_law_716 rfl (zlN hN (by decide)) (sh159 ln) (by decide) ⟨by decide, by decide⟩ ?_
    refine X_iload (pc' := 719) dL_law_717 rfl rfl ?_
    refine X_lI_i2l (pc' := 720) dL_law_719 rfl f5.1 ?_
    refine X_lcmp (pc' := 721) dL_law_720 rfl ⟨(inL_R (f5.2 159 (0) (by decide))).1, (inL_R (f5.2 159 (0) (by decide))).2, (inL_R f5.1).1, (inL_R f5.1).2⟩ ?_
    refine X_if_eq dL_law_721 (tgt := 726) rfl (pc' := 724) rfl (inR_cmp _ _) (fun c9 => ?_) (fun c9 => ?_)
    · have h := if_t c9 h
      refine X_goto dL_law_726 (tgt := 2960) rfl ?_
      cases h
      exact X_room (by omega) (by omega) (X_sub (sub_s (sub_s (sub_s (sub_s (sub_s (sub_s (sub_n (sub_n (sub_n sub_0))))))))) (k1 _ _ rfl (by omega) (by omega) f5.2))
    have h := if_f c9 h
    refine X_iconst (pc' := 725) dL_law_724 rfl ?_
    cases h
    exact X_zret dL_law_725 rfl (Or.inl rfl) (k0 _ _ rfl (by omega) (by omega) f5.2)
  have h := if_f c7 h
  refine X_iconst (pc' := 708) dL_law_707 rfl ?_
  cases h
  exact X_zret dL_law_708 rfl (Or.inl rfl) (k0 _ _ rfl (by omega) (by omega) f5.2)
def fL_c8 (ln : Nat) (v5 : Int) (z : ZZ) : Option (Int × ZZ) := (if (0 : Int) ≤ ((v5 + 1)) ∧ ((v5 + 1)) < (ln : Int) then (if (0 : Int) ≤ ((v5 + 2)) ∧ ((v5 + 2)) < (ln : Int) then (Option.bind (fL_lend ((z 1000000 ((v5 + 1)))) ((z 1000000 ((v5 + 2)))) z) fun q3 => match q3 with | (r3, z3) => (Option.bind (fX6_lend ((z3 1000000 ((v5 + 1)))) ((z3 1000000 ((v5 + 2)))) z3) fun q4 => match q4 with | (r4, z4) => (Option.bind (fX6_thrown z4) fun r5 => (if (r5) = (r3) then (if (r3) = (0) then (if ((zcmp ((z4 159 (0))) (r4))) = (0) then some (1, z4) else some (0, z4)) else some (1, z4)) else some (0, z4))))) else none) else none)
set_option maxRecDepth 100000 in
theorem TL_c8 {ln N : Nat} {z : ZZ} {v5 : Int} {Nm c0 s0 : Nat} {c9 s9 : Nat} {Φ : xRes → xS → Prop} (hN : 161 ≤ N ∧ N < 999999) (hz : okz z) (hln : isLn ln) (rv5 : inR v5) {p : Int × ZZ} (h : fL_c8 ln v5 z = some p) (hR : N + 1 ≤ Nm ∧ c0 + 1 ≤ c9 ∧ s0 + 6 ≤ s9 ∧ Nm < 999999) (k1 : ∀ (N' : Nat) (z' : ZZ), p = (1, z') → 161 ≤ N' → N' ≤ Nm → okz z' → X mL_law 2960 [some (.ref (1000000)), some (.ref (0)), some (.ref (151)), some (.ref (159)), some (.ref (160)), some (.int (iN (v5))), none, none, none] [] (zmk ln N' z') c0 s0 Φ) (k0 : ∀ (N' : Nat) (z' : ZZ), p = (0, z') → 161 ≤ N' → N' ≤ Nm → okz z' → Φ (.inl (some (.int (iN 0)))) (zmk ln N' z')) : X mL_law 729 [some (.ref (1000000)), some (.ref (0)), some (.ref (151)), some (.ref (159)), some (.ref (160)), some (.int (iN (v5))), none, none, none] [] (zmk ln N z) c9 s9 Φ := by
  unfold fL_c8 at h
  refine X_aload_n (pc' := 730) dL_law_729 rfl rfl ?_
  refine X_aload_n (pc' := 731) dL_law_730 rfl rfl ?_
  refine X_iload (pc' := 733) dL_law_731 rfl rfl ?_
  refine X_iconst (pc' := 734) dL_law_733 rfl ?_
  refine X_iadd (pc' := 735) dL_law_734 rfl ?_
  obtain ⟨g1, h⟩ := gs h
  refine Y_ialdS (pc' := 736) dL_law_735 rfl (shS ln) hln g1 ?_
  refine X_aload_n (pc' := 737) dL_law_736 rfl rfl ?_
  refine X_iload (pc' := 739) dL_law_737 rfl rfl ?_
  refine X_iconst (pc' := 740) dL_law_739 rfl ?_
  refine X_iadd (pc' := 741) dL_law_740 rfl ?_
  obtain ⟨g2, h⟩ := gs h
  refine Y_ialdS (pc' := 742) dL_law_741 rfl (shS ln) hln g2 ?_
  refine X_aload_n (pc' := 743) dL_law_742 rfl rfl ?_
  obtain ⟨⟨r3, z3⟩, q3, h⟩ := bs h
  refine Y_wrap [.ref (0), .int (iN ((z 1000000 ((v5 + 1))))), .int (iN ((z 1000000 ((v5 + 2))))), .ref (159)] (pc' := 746) dL_law_743 rfl SL_191 (by decide) rfl (cs rfl) (cs rfl) rfl (CL_lend hN hz (hz 1000000 ((v5 + 1)) (by decide)) (hz 1000000 ((v5 + 2)) (by decide)) q3) hN.1 hR (fun N1 c1 s1 hN hR f3 => ?_)
  refine X_istore (pc' := 748) dL_law_746 rfl (cl rfl) (Or.inr rfl) (L' := [some (.ref (1000000)), some (.ref (0)), some (.ref (151)), some (.ref (159)), some (.ref (160)), some (.int (iN (v5))), some (.int (iN (r3))), none, none]) rfl ?_
  refine X_aload_n (pc' := 749) dL_law_748 rfl rfl ?_
  refine X_aload_n (pc' := 750) dL_law_749 rfl rfl ?_
  refine X_iload (pc' := 752) dL_law_750 rfl rfl ?_
  refine X_iconst (pc' := 753) dL_law_752 rfl ?_
  refine X_iadd (pc' := 754) dL_law_753 rfl ?_
  refine Y_ialdS (pc' := 755) dL_law_754 rfl (shS ln) hln g1 ?_
  refine X_aload_n (pc' := 756) dL_law_755 rfl rfl ?_
  refine X_iload (pc' := 758) dL_law_756 rfl rfl ?_
  refine X_iconst (pc' := 759) dL_law_758 rfl ?_
  refine X_iadd (pc' := 760) dL_law_759 rfl ?_
  refine Y_ialdS (pc' := 761) dL_law_760 rfl (shS ln) hln g2 ?_
  obtain ⟨⟨r4, z4⟩, q4, h⟩ := bs h
  refine Y_callV [.int (iN ((z3 1000000 ((v5 + 1))))), .int (iN ((z3 1000000 ((v5 + 2)))))] (pc' := 764) dL_law_761 rfl VL_193 (by decide) (zlN hN (by decide)) (congrArg Prod.fst (sh151 ln)) rfl rfl rfl (cs rfl) (cs rfl) rfl (CX6_lend (hN2 hN) f3.2 (f3.2 1000000 ((v5 + 1)) (by decide)) (f3.2 1000000 ((v5 + 2)) (by decide)) q4) (Nat.zero_add _).symm (Nat.zero_add _).symm (fun f4 => ?_)
  refine X_istore (pc' := 766) dL_law_764 rfl (cl rfl) (Or.inr rfl) (L' := [some (.ref (1000000)), some (.ref (0)), some (.ref (151)), some (.ref (159)), some (.ref (160)), some (.int (iN (v5))), some (.int (iN (r3))), some (.int (iN (r4))), none]) rfl ?_
  refine X_aload_n (pc' := 767) dL_law_766 rfl rfl ?_
  obtain ⟨r5, q5, h⟩ := bs h
  refine Y_callV [] (pc' := 770) dL_law_767 rfl VL_162 (by decide) (zlN hN (by decide)) (congrArg Prod.fst (sh151 ln)) rfl rfl rfl (cs rfl) (cs rfl) rfl (CX6_thrown (hN2 hN) f4.2 q5) (Nat.zero_add _).symm (Nat.zero_add _).symm (fun f5 => ?_)
  refine X_iload (pc' := 772) dL_law_770 rfl rfl ?_
  refine X_icmp_eq dL_law_772 (tgt := 777) rfl (pc' := 775) rfl ⟨f5.1, f5.2, (inR_4 f3.1).1, (inR_4 f3.1).2⟩ (fun c6 => ?_) (fun c6 => ?_)
  · have h := if_t c6 h
    refine X_iload (pc' := 779) dL_law_777 rfl rfl ?_
    refine X_if_ne dL_law_779 (tgt := 794) rfl (pc' := 782) rfl (inR_4 f3.1) (fun c7 => ?_) (fun c7 => ?_)
    · have h := if_f c7 h
      refine X_goto dL_law_794 (tgt := 2960) rfl ?_
      cases h
      exact X_room (by omega) (by omega) (X_sub (sub_s (sub_s (sub_s (sub_s (sub_s (sub_s (sub_n (sub_n (sub_n sub_0))))))))) (k1 _ _ rfl (by omega) (by omega) f4.2))
    have h := if_t c7 h
    refine X_aload_n (pc' := 783) dL_law_782 rfl rfl ?_
    refine X_iconst (pc' := 784) dL_law_783 rfl ?_
    refine Y_lald (pc' := 785) dL_law_784 rfl (zlN hN (by decide)) (sh159 ln) (by decide) ⟨by decide, by decide⟩ ?_
    refine X_iload (pc' := 787) dL_law_785 rfl rfl ?_
    refine X_lI_i2l (pc' := 788) dL_law_787 rfl f4.1 ?_
    refine X_lcmp (pc' := 789) dL_law_788 rfl ⟨(inL_R (f4.2 159 (0) (by decide))).1, (inL_R (f4.2 159 (0) (by decide))).2, (inL_R f4.1).1, (inL_R f4.1).2⟩ ?_
    refine X_if_eq dL_law_789 (tgt := 794) rfl (pc' := 792) rfl (inR_cmp _ _) (fun c8 => ?_) (fun c8 => ?_)
    · have h := if_t c8 h
      refine X_goto dL_law_794 (tgt := 2960) rfl ?_
      cases h
      exact X_room (by omega) (by omega) (X_sub (sub_s (sub_s (sub_s (sub_s (sub_s (sub_s (sub_n (sub_n (sub_n sub_0))))))))) (k1 _ _ rfl (by omega) (by omega) f4.2))
    have h := if_f c8 h
    refine X_iconst (pc' := 793) dL_law_792 rfl ?_
    cases h
    exact X_zret dL_law_793 rfl (Or.inl rfl) (k0 _ _ rfl (by omega) (by omega) f4.2)
  have h := if_f c6 h
  refine X_iconst (pc' := 776) dL_law_775 rfl ?_
  cases h
  exact X_zret dL_law_776 rfl (Or.inl rfl) (k0 _ _ rfl (by omega) (by omega) f4.2)
def fL_c9 (ln : Nat) (v5 : Int) (z : ZZ) : Option (Int × ZZ) := (if (0 : Int) ≤ ((v5 + 1)) ∧ ((v5 + 1)) < (ln : Int) then (Option.bind (fL_giveBack ((z 1000000 ((v5 + 1)))) z) fun q2 => match q2 with | (r2, z2) => (Option.bind (fX6_giveBack ((z2 1000000 ((v5 + 1)))) z2) fun q3 => match q3 with | (r3, z3) => (Option.bind (fX6_thrown z3) fun r4 => (if (r4) = (r2) then (if (r2) = (0) then (if ((zcmp ((z3 159 (0))) (r3))) = (0) then some (1, z3) else some (0, z3)) else some (1, z3)) else some (0, z3))))) else none)
set_option maxRecDepth 100000 in
theorem TL_c9 {ln N : Nat} {z : ZZ} {v5 : Int} {Nm c0 s0 : Nat} {c9 s9 : Nat} {Φ : xRes → xS → Prop} (hN : 161 ≤ N ∧ N < 999999) (hz : okz z) (hln : isLn ln) (rv5 : inR v5) {p : Int × ZZ} (h : fL_c9 ln v5 z = some p) (hR : N + 1 ≤ Nm ∧ c0 + 1 ≤ c9 ∧ s0 + 6 ≤ s9 ∧ Nm < 999999) (k1 : ∀ (N' : Nat) (z' : ZZ), p = (1, z') → 161 ≤ N' → N' ≤ Nm → okz z' → X mL_law 2960 [some (.ref (1000000)), some (.ref (0)), some (.ref (151)), some (.ref (159)), some (.ref (160)), some (.int (iN (v5))), none, none, none] [] (zmk ln N' z') c0 s0 Φ) (k0 : ∀ (N' : Nat) (z' : ZZ), p = (0, z') → 161 ≤ N' → N' ≤ Nm → okz z' → Φ (.inl (some (.int (iN 0)))) (zmk ln N' z')) : X mL_law 797 [some (.ref (1000000)), some (.ref (0)), some (.ref (151)), some (.ref (159)), some (.ref (160)), some (.int (iN (v5))), none, none, none] [] (zmk ln N z) c9 s9 Φ := by
  unfold fL_c9 at h
  refine X_aload_n (pc' := 798) dL_law_797 rfl rfl ?_
  refine X_aload_n (pc' := 799) dL_law_798 rfl rfl ?_
  refine X_iload (pc' := 801) dL_law_799 rfl rfl ?_
  refine X_iconst (pc' := 802) dL_law_801 rfl ?_
  refine X_iadd (pc' := 803) dL_law_802 rfl ?_
  obtain ⟨g1, h⟩ := gs h
  refine Y_ialdS (pc' := 804) dL_law_803 rfl (shS ln) hln g1 ?_
  refine X_aload_n (pc' := 805) dL_law_804 rfl rfl ?_
  obtain ⟨⟨r2, z2⟩, q2, h⟩ := bs h
  refine Y_wrap [.ref (0), .int (iN ((z 1000000 ((v5 + 1))))), .ref (159)] (pc' := 808) dL_law_805 rfl SL_194 (by decide) rfl (cs rfl) (cs rfl) rfl (CL_giveBack hN hz (hz 1000000 ((v5 + 1)) (by decide)) q2) hN.1 hR (fun N1 c1 s1 hN hR f2 => ?_)
  refine X_istore (pc' := 810) dL_law_808 rfl (cl rfl) (Or.inr rfl) (L' := [some (.ref (1000000)), some (.ref (0)), some (.ref (151)), some (.ref (159)), some (.ref (160)), some (.int (iN (v5))), some (.int (iN (r2))), none, none]) rfl ?_
  refine X_aload_n (pc' := 811) dL_law_810 rfl rfl ?_
  refine X_aload_n (pc' := 812) dL_law_811 rfl rfl ?_
  refine X_iload (pc' := 814) dL_law_812 rfl rfl ?_
  refine X_iconst (pc' := 815) dL_law_814 rfl ?_
  refine X_iadd (pc' := 816) dL_law_815 rfl ?_
  refine Y_ialdS (pc' := 817) dL_law_816 rfl (shS ln) hln g1 ?_
  obtain ⟨⟨r3, z3⟩, q3, h⟩ := bs h
  refine Y_callV [.int (iN ((z2 1000000 ((v5 + 1)))))] (pc' := 820) dL_law_817 rfl VL_196 (by decide) (zlN hN (by decide)) (congrArg Prod.fst (sh151 ln)) rfl rfl rfl (cs rfl) (cs rfl) rfl (CX6_giveBack (hN2 hN) f2.2 (f2.2 1000000 ((v5 + 1)) (by decide)) q3) (Nat.zero_add _).symm (Nat.zero_add _).symm (fun f3 => ?_)
  refine X_istore (pc' := 822) dL_law_820 rfl (cl rfl) (Or.inr rfl) (L' := [some (.ref (1000000)), some (.ref (0)), some (.ref (151)), some (.ref (159)), some (.ref (160)), some (.int (iN (v5))), some (.int (iN (r2))), some (.int (iN (r3))), none]) rfl ?_
  refine X_aload_n (pc' := 823) dL_law_822 rfl rfl ?_
  obtain ⟨r4, q4, h⟩ := bs h
  refine Y_callV [] (pc' := 826) dL_law_823 rfl VL_162 (by decide) (zlN hN (by decide)) (congrArg Prod.fst (sh151 ln)) rfl rfl rfl (cs rfl) (cs rfl) rfl (CX6_thrown (hN2 hN) f3.2 q4) (Nat.zero_add _).symm (Nat.zero_add _).symm (fun f4 => ?_)
  refine X_iload (pc' := 828) dL_law_826 rfl rfl ?_
  refine X_icmp_eq dL_law_828 (tgt := 833) rfl (pc' := 831) rfl ⟨f4.1, f4.2, (inR_4 f2.1).1, (inR_4 f2.1).2⟩ (fun c5 => ?_) (fun c5 => ?_)
  · have h := if_t c5 h
    refine X_iload (pc' := 835) dL_law_833 rfl rfl ?_
    refine X_if_ne dL_law_835 (tgt := 850) rfl (pc' := 838) rfl (inR_4 f2.1) (fun c6 => ?_) (fun c6 => ?_)
    · have h := if_f c6 h
      refine X_goto dL_law_850 (tgt := 2960) rfl ?_
      cases h
      exact X_room (by omega) (by omega) (X_sub (sub_s (sub_s (sub_s (sub_s (sub_s (sub_s (sub_n (sub_n (sub_n sub_0))))))))) (k1 _ _ rfl (by omega) (by omega) f3.2))
    have h := if_t c6 h
    refine X_aload_n (pc' := 839) dL_law_838 rfl rfl ?_
    refine X_iconst (pc' := 840) dL_law_839 rfl ?_
    refine Y_lald (pc' := 841) dL_law_840 rfl (zlN hN (by decide)) (sh159 ln) (by decide) ⟨by decide, by decide⟩ ?_
    refine X_iload (pc' := 843) dL_law_841 rfl rfl ?_
    refine X_lI_i2l (pc' := 844) dL_law_843 rfl f3.1 ?_
    refine X_lcmp (pc' := 845) dL_law_844 rfl ⟨(inL_R (f3.2 159 (0) (by decide))).1, (inL_R (f3.2 159 (0) (by decide))).2, (inL_R f3.1).1, (inL_R f3.1).2⟩ ?_
    refine X_if_eq dL_law_845 (tgt := 850) rfl (pc' := 848) rfl (inR_cmp _ _) (fun c7 => ?_) (fun c7 => ?_)
    · have h := if_t c7 h
      refine X_goto dL_law_850 (tgt := 2960) rfl ?_
      cases h
      exact X_room (by omega) (by omega) (X_sub (sub_s (sub_s (sub_s (sub_s (sub_s (sub_s (sub_n (sub_n (sub_n sub_0))))))))) (k1 _ _ rfl (by omega) (by omega) f3.2))
    have h := if_f c7 h
    refine X_iconst (pc' := 849) dL_law_848 rfl ?_
    cases h
    exact X_zret dL_law_849 rfl (Or.inl rfl) (k0 _ _ rfl (by omega) (by omega) f3.2)
  have h := if_f c5 h
  refine X_iconst (pc' := 832) dL_law_831 rfl ?_
  cases h
  exact X_zret dL_law_832 rfl (Or.inl rfl) (k0 _ _ rfl (by omega) (by omega) f3.2)
def fL_law_b901 (ln : Nat) (v5 : Int) (v6 : Int) (s1 : Int) (s2 : Int) (z : ZZ) : Option (Int × ZZ) := (Option.bind (fX6_check (s1) (s2) z) fun q1 => match q1 with | (r1, z1) => (Option.bind (fX6_thrown z1) fun r2 => (if (r2) = (v6) then (if (v6) = (0) then (if ((zcmp ((z1 159 (0))) (r1))) = (0) then some (1, z1) else some (0, z1)) else some (1, z1)) else some (0, z1))))
set_option maxRecDepth 100000 in
theorem BL_law_901 {ln N : Nat} {z : ZZ} {v5 : Int} {v6 : Int} {s1 : Int} {s2 : Int} {Nm c0 s0 : Nat} {c9 s9 : Nat} {Φ : xRes → xS → Prop} (hN : 161 ≤ N ∧ N < 999999) (hz : okz z) (hln : isLn ln) (rv5 : inR v5) (rv6 : inR v6) (rs1 : inR s1) (rs2 : inR s2) {p : Int × ZZ} (h : fL_law_b901 ln v5 v6 s1 s2 z = some p) (hR : N + 0 ≤ Nm ∧ c0 + 0 ≤ c9 ∧ s0 + 0 ≤ s9 ∧ Nm < 999999) (k1 : ∀ (N' : Nat) (z' : ZZ), p = (1, z') → 161 ≤ N' → N' ≤ Nm → okz z' → X mL_law 2960 [some (.ref (1000000)), some (.ref (0)), some (.ref (151)), some (.ref (159)), some (.ref (160)), some (.int (iN (v5))), none, none, none] [] (zmk ln N' z') c0 s0 Φ) (k0 : ∀ (N' : Nat) (z' : ZZ), p = (0, z') → 161 ≤ N' → N' ≤ Nm → okz z' → Φ (.inl (some (.int (iN 0)))) (zmk ln N' z')) : X mL_law 901 [some (.ref (1000000)), some (.ref (0)), some (.ref (151)), some (.ref (159)), some (.ref (160)), some (.int (iN (v5))), some (.int (iN (v6))), none, none] [.int (iN (s2)), .int (iN (s1)), .ref (151)] (zmk ln N z) c9 s9 Φ := by
  unfold fL_law_b901 at h
  obtain ⟨⟨r1, z1⟩, q1, h⟩ := bs h
  refine Y_callV [.int (iN (s1)), .int (iN (s2))] (pc' := 904) dL_law_901 rfl VL_200 (by decide) (zlN hN (by decide)) (congrArg Prod.fst (sh151 ln)) rfl rfl rfl (cs rfl) (cs rfl) rfl (CX6_check (hN2 hN) hz rs1 rs2 q1) (Nat.zero_add _).symm (Nat.zero_add _).symm (fun f1 => ?_)
  refine X_istore (pc' := 906) dL_law_904 rfl (cl rfl) (Or.inr rfl) (L' := [some (.ref (1000000)), some (.ref (0)), some (.ref (151)), some (.ref (159)), some (.ref (160)), some (.int (iN (v5))), some (.int (iN (v6))), some (.int (iN (r1))), none]) rfl ?_
  refine X_aload_n (pc' := 907) dL_law_906 rfl rfl ?_
  obtain ⟨r2, q2, h⟩ := bs h
  refine Y_callV [] (pc' := 910) dL_law_907 rfl VL_162 (by decide) (zlN hN (by decide)) (congrArg Prod.fst (sh151 ln)) rfl rfl rfl (cs rfl) (cs rfl) rfl (CX6_thrown (hN2 hN) f1.2 q2) (Nat.zero_add _).symm (Nat.zero_add _).symm (fun f2 => ?_)
  refine X_iload (pc' := 912) dL_law_910 rfl rfl ?_
  refine X_icmp_eq dL_law_912 (tgt := 917) rfl (pc' := 915) rfl ⟨f2.1, f2.2, rv6.1, rv6.2⟩ (fun c3 => ?_) (fun c3 => ?_)
  · have h := if_t c3 h
    refine X_iload (pc' := 919) dL_law_917 rfl rfl ?_
    refine X_if_ne dL_law_919 (tgt := 934) rfl (pc' := 922) rfl rv6 (fun c4 => ?_) (fun c4 => ?_)
    · have h := if_f c4 h
      refine X_goto dL_law_934 (tgt := 2960) rfl ?_
      cases h
      exact X_room (by omega) (by omega) (X_sub (sub_s (sub_s (sub_s (sub_s (sub_s (sub_s (sub_n (sub_n (sub_n sub_0))))))))) (k1 _ _ rfl (by omega) (by omega) f1.2))
    have h := if_t c4 h
    refine X_aload_n (pc' := 923) dL_law_922 rfl rfl ?_
    refine X_iconst (pc' := 924) dL_law_923 rfl ?_
    refine Y_lald (pc' := 925) dL_law_924 rfl (zlN hN (by decide)) (sh159 ln) (by decide) ⟨by decide, by decide⟩ ?_
    refine X_iload (pc' := 927) dL_law_925 rfl rfl ?_
    refine X_lI_i2l (pc' := 928) dL_law_927 rfl f1.1 ?_
    refine X_lcmp (pc' := 929) dL_law_928 rfl ⟨(inL_R (f1.2 159 (0) (by decide))).1, (inL_R (f1.2 159 (0) (by decide))).2, (inL_R f1.1).1, (inL_R f1.1).2⟩ ?_
    refine X_if_eq dL_law_929 (tgt := 934) rfl (pc' := 932) rfl (inR_cmp _ _) (fun c5 => ?_) (fun c5 => ?_)
    · have h := if_t c5 h
      refine X_goto dL_law_934 (tgt := 2960) rfl ?_
      cases h
      exact X_room (by omega) (by omega) (X_sub (sub_s (sub_s (sub_s (sub_s (sub_s (sub_s (sub_n (sub_n (sub_n sub_0))))))))) (k1 _ _ rfl (by omega) (by omega) f1.2))
    have h := if_f c5 h
    refine X_iconst (pc' := 933) dL_law_932 rfl ?_
    cases h
    exact X_zret dL_law_933 rfl (Or.inl rfl) (k0 _ _ rfl (by omega) (by omega) f1.2)
  have h := if_f c3 h
  refine X_iconst (pc' := 916) dL_law_915 rfl ?_
  cases h
  exact X_zret dL_law_916 rfl (Or.inl rfl) (k0 _ _ rfl (by omega) (by omega) f1.2)
def fL_law_b874 (ln : Nat) (v5 : Int) (s1 : Int) (s2 : Int) (z : ZZ) : Option (Int × ZZ) := (Option.bind (fL_check (s1) (s2) z) fun q1 => match q1 with | (r1, z1) => (if (0 : Int) ≤ ((v5 + 1)) ∧ ((v5 + 1)) < (ln : Int) then (if (0 : Int) ≤ ((v5 + 2)) ∧ ((v5 + 2)) < (ln : Int) then (if ((z1 1000000 ((v5 + 2)))) = (0) then fL_law_b901 ln (v5) (r1) ((z1 1000000 ((v5 + 1)))) (0) z1 else fL_law_b901 ln (v5) (r1) ((z1 1000000 ((v5 + 1)))) (1) z1) else none) else none))
set_option maxRecDepth 100000 in
theorem BL_law_874 {ln N : Nat} {z : ZZ} {v5 : Int} {s1 : Int} {s2 : Int} {Nm c0 s0 : Nat} {c9 s9 : Nat} {Φ : xRes → xS → Prop} (hN : 161 ≤ N ∧ N < 999999) (hz : okz z) (hln : isLn ln) (rv5 : inR v5) (rs1 : inR s1) (rs2 : inR s2) {p : Int × ZZ} (h : fL_law_b874 ln v5 s1 s2 z = some p) (hR : N + 1 ≤ Nm ∧ c0 + 1 ≤ c9 ∧ s0 + 6 ≤ s9 ∧ Nm < 999999) (k1 : ∀ (N' : Nat) (z' : ZZ), p = (1, z') → 161 ≤ N' → N' ≤ Nm → okz z' → X mL_law 2960 [some (.ref (1000000)), some (.ref (0)), some (.ref (151)), some (.ref (159)), some (.ref (160)), some (.int (iN (v5))), none, none, none] [] (zmk ln N' z') c0 s0 Φ) (k0 : ∀ (N' : Nat) (z' : ZZ), p = (0, z') → 161 ≤ N' → N' ≤ Nm → okz z' → Φ (.inl (some (.int (iN 0)))) (zmk ln N' z')) : X mL_law 874 [some (.ref (1000000)), some (.ref (0)), some (.ref (151)), some (.ref (159)), some (.ref (160)), some (.int (iN (v5))), none, none, none] [.int (iN (s2)), .int (iN (s1)), .ref (0)] (zmk ln N z) c9 s9 Φ := by
  unfold fL_law_b874 at h
  refine X_aload_n (pc' := 875) dL_law_874 rfl rfl ?_
  obtain ⟨⟨r1, z1⟩, q1, h⟩ := bs h
  refine Y_wrap [.ref (0), .int (iN (s1)), .int (iN (s2)), .ref (159)] (pc' := 878) dL_law_875 rfl SL_197 (by decide) rfl (cs rfl) (cs rfl) rfl (CL_check hN hz rs1 rs2 q1) hN.1 hR (fun N1 c1 s1 hN hR f1 => ?_)
  refine X_istore (pc' := 880) dL_law_878 rfl (cl rfl) (Or.inr rfl) (L' := [some (.ref (1000000)), some (.ref (0)), some (.ref (151)), some (.ref (159)), some (.ref (160)), some (.int (iN (v5))), some (.int (iN (r1))), none, none]) rfl ?_
  refine X_aload_n (pc' := 881) dL_law_880 rfl rfl ?_
  refine X_aload_n (pc' := 882) dL_law_881 rfl rfl ?_
  refine X_iload (pc' := 884) dL_law_882 rfl rfl ?_
  refine X_iconst (pc' := 885) dL_law_884 rfl ?_
  refine X_iadd (pc' := 886) dL_law_885 rfl ?_
  obtain ⟨g2, h⟩ := gs h
  refine Y_ialdS (pc' := 887) dL_law_886 rfl (shS ln) hln g2 ?_
  refine X_aload_n (pc' := 888) dL_law_887 rfl rfl ?_
  refine X_iload (pc' := 890) dL_law_888 rfl rfl ?_
  refine X_iconst (pc' := 891) dL_law_890 rfl ?_
  refine X_iadd (pc' := 892) dL_law_891 rfl ?_
  obtain ⟨g3, h⟩ := gs h
  refine Y_ialdS (pc' := 893) dL_law_892 rfl (shS ln) hln g3 ?_
  refine X_if_eq dL_law_893 (tgt := 900) rfl (pc' := 896) rfl (f1.2 1000000 ((v5 + 2)) (by decide)) (fun c4 => ?_) (fun c4 => ?_)
  · have h := if_t c4 h
    refine X_iconst (pc' := 901) dL_law_900 rfl ?_
    exact X_sub (sub_s (sub_s (sub_s (sub_s (sub_s (sub_s (sub_s (sub_n (sub_n sub_0))))))))) (BL_law_901 hN f1.2 hln rv5 (inR_4 f1.1) (f1.2 1000000 ((v5 + 1)) (by decide)) (inR_c (n := 0) rfl) h (by omega) k1 k0)
  have h := if_f c4 h
  refine X_iconst (pc' := 897) dL_law_896 rfl ?_
  refine X_goto dL_law_897 (tgt := 901) rfl ?_
  exact X_sub (sub_s (sub_s (sub_s (sub_s (sub_s (sub_s (sub_s (sub_n (sub_n sub_0))))))))) (BL_law_901 hN f1.2 hln rv5 (inR_4 f1.1) (f1.2 1000000 ((v5 + 1)) (by decide)) (inR_c (n := 1) rfl) h (by omega) k1 k0)
def fL_c10 (ln : Nat) (v5 : Int) (z : ZZ) : Option (Int × ZZ) := (if (0 : Int) ≤ ((v5 + 1)) ∧ ((v5 + 1)) < (ln : Int) then (if (0 : Int) ≤ ((v5 + 2)) ∧ ((v5 + 2)) < (ln : Int) then (if ((z 1000000 ((v5 + 2)))) = (0) then fL_law_b874 ln (v5) ((z 1000000 ((v5 + 1)))) (0) z else fL_law_b874 ln (v5) ((z 1000000 ((v5 + 1)))) (1) z) else none) else none)
set_option maxRecDepth 100000 in
theorem TL_c10 {ln N : Nat} {z : ZZ} {v5 : Int} {Nm c0 s0 : Nat} {c9 s9 : Nat} {Φ : xRes → xS → Prop} (hN : 161 ≤ N ∧ N < 999999) (hz : okz z) (hln : isLn ln) (rv5 : inR v5) {p : Int × ZZ} (h : fL_c10 ln v5 z = some p) (hR : N + 1 ≤ Nm ∧ c0 + 1 ≤ c9 ∧ s0 + 6 ≤ s9 ∧ Nm < 999999) (k1 : ∀ (N' : Nat) (z' : ZZ), p = (1, z') → 161 ≤ N' → N' ≤ Nm → okz z' → X mL_law 2960 [some (.ref (1000000)), some (.ref (0)), some (.ref (151)), some (.ref (159)), some (.ref (160)), some (.int (iN (v5))), none, none, none] [] (zmk ln N' z') c0 s0 Φ) (k0 : ∀ (N' : Nat) (z' : ZZ), p = (0, z') → 161 ≤ N' → N' ≤ Nm → okz z' → Φ (.inl (some (.int (iN 0)))) (zmk ln N' z')) : X mL_law 853 [some (.ref (1000000)), some (.ref (0)), some (.ref (151)), some (.ref (159)), some (.ref (160)), some (.int (iN (v5))), none, none, none] [] (zmk ln N z) c9 s9 Φ := by
  unfold fL_c10 at h
  refine X_aload_n (pc' := 854) dL_law_853 rfl rfl ?_
  refine X_aload_n (pc' := 855) dL_law_854 rfl rfl ?_
  refine X_iload (pc' := 857) dL_law_855 rfl rfl ?_
  refine X_iconst (pc' := 858) dL_law_857 rfl ?_
  refine X_iadd (pc' := 859) dL_law_858 rfl ?_
  obtain ⟨g1, h⟩ := gs h
  refine Y_ialdS (pc' := 860) dL_law_859 rfl (shS ln) hln g1 ?_
  refine X_aload_n (pc' := 861) dL_law_860 rfl rfl ?_
  refine X_iload (pc' := 863) dL_law_861 rfl rfl ?_
  refine X_iconst (pc' := 864) dL_law_863 rfl ?_
  refine X_iadd (pc' := 865) dL_law_864 rfl ?_
  obtain ⟨g2, h⟩ := gs h
  refine Y_ialdS (pc' := 866) dL_law_865 rfl (shS ln) hln g2 ?_
  refine X_if_eq dL_law_866 (tgt := 873) rfl (pc' := 869) rfl (hz 1000000 ((v5 + 2)) (by decide)) (fun c3 => ?_) (fun c3 => ?_)
  · have h := if_t c3 h
    refine X_iconst (pc' := 874) dL_law_873 rfl ?_
    exact X_sub (sub_s (sub_s (sub_s (sub_s (sub_s (sub_s (sub_n (sub_n (sub_n sub_0))))))))) (BL_law_874 hN hz hln rv5 (hz 1000000 ((v5 + 1)) (by decide)) (inR_c (n := 0) rfl) h (by omega) k1 k0)
  have h := if_f c3 h
  refine X_iconst (pc' := 870) dL_law_869 rfl ?_
  refine X_goto dL_law_870 (tgt := 874) rfl ?_
  exact X_sub (sub_s (sub_s (sub_s (sub_s (sub_s (sub_s (sub_n (sub_n (sub_n sub_0))))))))) (BL_law_874 hN hz hln rv5 (hz 1000000 ((v5 + 1)) (by decide)) (inR_c (n := 1) rfl) h (by omega) k1 k0)
def fL_c11 (ln : Nat) (v5 : Int) (z : ZZ) : Option (Int × ZZ) := (if (0 : Int) ≤ ((v5 + 1)) ∧ ((v5 + 1)) < (ln : Int) then (if (0 : Int) ≤ ((v5 + 2)) ∧ ((v5 + 2)) < (ln : Int) then (Option.bind (fL_enroll ((z 1000000 ((v5 + 1)))) ((z 1000000 ((v5 + 2)))) z) fun q3 => match q3 with | (r3, z3) => (Option.bind (fX6_enroll ((z3 1000000 ((v5 + 1)))) ((z3 1000000 ((v5 + 2)))) z3) fun q4 => match q4 with | (r4, z4) => (Option.bind (fX6_thrown z4) fun r5 => (if (r5) = (r3) then (if (r3) = (0) then (if ((zcmp ((z4 159 (0))) (r4))) = (0) then some (1, z4) else some (0, z4)) else some (1, z4)) else some (0, z4))))) else none) else none)
set_option maxRecDepth 100000 in
theorem TL_c11 {ln N : Nat} {z : ZZ} {v5 : Int} {Nm c0 s0 : Nat} {c9 s9 : Nat} {Φ : xRes → xS → Prop} (hN : 161 ≤ N ∧ N < 999999) (hz : okz z) (hln : isLn ln) (rv5 : inR v5) {p : Int × ZZ} (h : fL_c11 ln v5 z = some p) (hR : N + 1 ≤ Nm ∧ c0 + 1 ≤ c9 ∧ s0 + 6 ≤ s9 ∧ Nm < 999999) (k1 : ∀ (N' : Nat) (z' : ZZ), p = (1, z') → 161 ≤ N' → N' ≤ Nm → okz z' → X mL_law 2960 [some (.ref (1000000)), some (.ref (0)), some (.ref (151)), some (.ref (159)), some (.ref (160)), some (.int (iN (v5))), none, none, none] [] (zmk ln N' z') c0 s0 Φ) (k0 : ∀ (N' : Nat) (z' : ZZ), p = (0, z') → 161 ≤ N' → N' ≤ Nm → okz z' → Φ (.inl (some (.int (iN 0)))) (zmk ln N' z')) : X mL_law 937 [some (.ref (1000000)), some (.ref (0)), some (.ref (151)), some (.ref (159)), some (.ref (160)), some (.int (iN (v5))), none, none, none] [] (zmk ln N z) c9 s9 Φ := by
  unfold fL_c11 at h
  refine X_aload_n (pc' := 938) dL_law_937 rfl rfl ?_
  refine X_aload_n (pc' := 939) dL_law_938 rfl rfl ?_
  refine X_iload (pc' := 941) dL_law_939 rfl rfl ?_
  refine X_iconst (pc' := 942) dL_law_941 rfl ?_
  refine X_iadd (pc' := 943) dL_law_942 rfl ?_
  obtain ⟨g1, h⟩ := gs h
  refine Y_ialdS (pc' := 944) dL_law_943 rfl (shS ln) hln g1 ?_
  refine X_aload_n (pc' := 945) dL_law_944 rfl rfl ?_
  refine X_iload (pc' := 947) dL_law_945 rfl rfl ?_
  refine X_iconst (pc' := 948) dL_law_947 rfl ?_
  refine X_iadd (pc' := 949) dL_law_948 rfl ?_
  obtain ⟨g2, h⟩ := gs h
  refine Y_ialdS (pc' := 950) dL_law_949 rfl (shS ln) hln g2 ?_
  refine X_aload_n (pc' := 951) dL_law_950 rfl rfl ?_
  obtain ⟨⟨r3, z3⟩, q3, h⟩ := bs h
  refine Y_wrap [.ref (0), .int (iN ((z 1000000 ((v5 + 1))))), .int (iN ((z 1000000 ((v5 + 2))))), .ref (159)] (pc' := 954) dL_law_951 rfl SL_201 (by decide) rfl (cs rfl) (cs rfl) rfl (CL_enroll hN hz (hz 1000000 ((v5 + 1)) (by decide)) (hz 1000000 ((v5 + 2)) (by decide)) q3) hN.1 hR (fun N1 c1 s1 hN hR f3 => ?_)
  refine X_istore (pc' := 956) dL_law_954 rfl (cl rfl) (Or.inr rfl) (L' := [some (.ref (1000000)), some (.ref (0)), some (.ref (151)), some (.ref (159)), some (.ref (160)), some (.int (iN (v5))), some (.int (iN (r3))), none, none]) rfl ?_
  refine X_aload_n (pc' := 957) dL_law_956 rfl rfl ?_
  refine X_aload_n (pc' := 958) dL_law_957 rfl rfl ?_
  refine X_iload (pc' := 960) dL_law_958 rfl rfl ?_
  refine X_iconst (pc' := 961) dL_law_960 rfl ?_
  refine X_iadd (pc' := 962) dL_law_961 rfl ?_
  refine Y_ialdS (pc' := 963) dL_law_962 rfl (shS ln) hln g1 ?_
  refine X_aload_n (pc' := 964) dL_law_963 rfl rfl ?_
  refine X_iload (pc' := 966) dL_law_964 rfl rfl ?_
  refine X_iconst (pc' := 967) dL_law_966 rfl ?_
  refine X_iadd (pc' := 968) dL_law_967 rfl ?_
  refine Y_ialdS (pc' := 969) dL_law_968 rfl (shS ln) hln g2 ?_
  obtain ⟨⟨r4, z4⟩, q4, h⟩ := bs h
  refine Y_callV [.int (iN ((z3 1000000 ((v5 + 1))))), .int (iN ((z3 1000000 ((v5 + 2)))))] (pc' := 972) dL_law_969 rfl VL_203 (by decide) (zlN hN (by decide)) (congrArg Prod.fst (sh151 ln)) rfl rfl rfl (cs rfl) (cs rfl) rfl (CX6_enroll (hN2 hN) f3.2 (f3.2 1000000 ((v5 + 1)) (by decide)) (f3.2 1000000 ((v5 + 2)) (by decide)) q4) (Nat.zero_add _).symm (Nat.zero_add _).symm (fun f4 => ?_)
  refine X_istore (pc' := 974) dL_law_972 rfl (cl rfl) (Or.inr rfl) (L' := [some (.ref (1000000)), some (.ref (0)), some (.ref (151)), some (.ref (159)), some (.ref (160)), some (.int (iN (v5))), some (.int (iN (r3))), some (.int (iN (r4))), none]) rfl ?_
  refine X_aload_n (pc' := 975) dL_law_974 rfl rfl ?_
  obtain ⟨r5, q5, h⟩ := bs h
  refine Y_callV [] (pc' := 978) dL_law_975 rfl VL_162 (by decide) (zlN hN (by decide)) (congrArg Prod.fst (sh151 ln)) rfl rfl rfl (cs rfl) (cs rfl) rfl (CX6_thrown (hN2 hN) f4.2 q5) (Nat.zero_add _).symm (Nat.zero_add _).symm (fun f5 => ?_)
  refine X_iload (pc' := 980) dL_law_978 rfl rfl ?_
  refine X_icmp_eq dL_law_980 (tgt := 985) rfl (pc' := 983) rfl ⟨f5.1, f5.2, (inR_4 f3.1).1, (inR_4 f3.1).2⟩ (fun c6 => ?_) (fun c6 => ?_)
  · have h := if_t c6 h
    refine X_iload (pc' := 987) dL_law_985 rfl rfl ?_
    refine X_if_ne dL_law_987 (tgt := 1002) rfl (pc' := 990) rfl (inR_4 f3.1) (fun c7 => ?_) (fun c7 => ?_)
    · have h := if_f c7 h
      refine X_goto dL_law_1002 (tgt := 2960) rfl ?_
      cases h
      exact X_room (by omega) (by omega) (X_sub (sub_s (sub_s (sub_s (sub_s (sub_s (sub_s (sub_n (sub_n (sub_n sub_0))))))))) (k1 _ _ rfl (by omega) (by omega) f4.2))
    have h := if_t c7 h
    refine X_aload_n (pc' := 991) dL_law_990 rfl rfl ?_
    refine X_iconst (pc' := 992) dL_law_991 rfl ?_
    refine Y_lald (pc' := 993) dL_law_992 rfl (zlN hN (by decide)) (sh159 ln) (by decide) ⟨by decide, by decide⟩ ?_
    refine X_iload (pc' := 995) dL_law_993 rfl rfl ?_
    refine X_lI_i2l (pc' := 996) dL_law_995 rfl f4.1 ?_
    refine X_lcmp (pc' := 997) dL_law_996 rfl ⟨(inL_R (f4.2 159 (0) (by decide))).1, (inL_R (f4.2 159 (0) (by decide))).2, (inL_R f4.1).1, (inL_R f4.1).2⟩ ?_
    refine X_if_eq dL_law_997 (tgt := 1002) rfl (pc' := 1000) rfl (inR_cmp _ _) (fun c8 => ?_) (fun c8 => ?_)
    · have h := if_t c8 h
      refine X_goto dL_law_1002 (tgt := 2960) rfl ?_
      cases h
      exact X_room (by omega) (by omega) (X_sub (sub_s (sub_s (sub_s (sub_s (sub_s (sub_s (sub_n (sub_n (sub_n sub_0))))))))) (k1 _ _ rfl (by omega) (by omega) f4.2))
    have h := if_f c8 h
    refine X_iconst (pc' := 1001) dL_law_1000 rfl ?_
    cases h
    exact X_zret dL_law_1001 rfl (Or.inl rfl) (k0 _ _ rfl (by omega) (by omega) f4.2)
  have h := if_f c6 h
  refine X_iconst (pc' := 984) dL_law_983 rfl ?_
  cases h
  exact X_zret dL_law_984 rfl (Or.inl rfl) (k0 _ _ rfl (by omega) (by omega) f4.2)
def fL_c12 (ln : Nat) (v5 : Int) (z : ZZ) : Option (Int × ZZ) := (if (0 : Int) ≤ ((v5 + 1)) ∧ ((v5 + 1)) < (ln : Int) then (Option.bind (fL_leaveCourse ((z 1000000 ((v5 + 1)))) z) fun q2 => match q2 with | (r2, z2) => (Option.bind (fX6_leaveCourse ((z2 1000000 ((v5 + 1)))) z2) fun q3 => match q3 with | (r3, z3) => (Option.bind (fX6_thrown z3) fun r4 => (if (r4) = (r2) then (if (r2) = (0) then (if ((zcmp ((z3 159 (0))) (r3))) = (0) then some (1, z3) else some (0, z3)) else some (1, z3)) else some (0, z3))))) else none)
set_option maxRecDepth 100000 in
theorem TL_c12 {ln N : Nat} {z : ZZ} {v5 : Int} {Nm c0 s0 : Nat} {c9 s9 : Nat} {Φ : xRes → xS → Prop} (hN : 161 ≤ N ∧ N < 999999) (hz : okz z) (hln : isLn ln) (rv5 : inR v5) {p : Int × ZZ} (h : fL_c12 ln v5 z = some p) (hR : N + 1 ≤ Nm ∧ c0 + 1 ≤ c9 ∧ s0 + 6 ≤ s9 ∧ Nm < 999999) (k1 : ∀ (N' : Nat) (z' : ZZ), p = (1, z') → 161 ≤ N' → N' ≤ Nm → okz z' → X mL_law 2960 [some (.ref (1000000)), some (.ref (0)), some (.ref (151)), some (.ref (159)), some (.ref (160)), some (.int (iN (v5))), none, none, none] [] (zmk ln N' z') c0 s0 Φ) (k0 : ∀ (N' : Nat) (z' : ZZ), p = (0, z') → 161 ≤ N' → N' ≤ Nm → okz z' → Φ (.inl (some (.int (iN 0)))) (zmk ln N' z')) : X mL_law 1005 [some (.ref (1000000)), some (.ref (0)), some (.ref (151)), some (.ref (159)), some (.ref (160)), some (.int (iN (v5))), none, none, none] [] (zmk ln N z) c9 s9 Φ := by
  unfold fL_c12 at h
  refine X_aload_n (pc' := 1006) dL_law_1005 rfl rfl ?_
  refine X_aload_n (pc' := 1007) dL_law_1006 rfl rfl ?_
  refine X_iload (pc' := 1009) dL_law_1007 rfl rfl ?_
  refine X_iconst (pc' := 1010) dL_law_1009 rfl ?_
  refine X_iadd (pc' := 1011) dL_law_1010 rfl ?_
  obtain ⟨g1, h⟩ := gs h
  refine Y_ialdS (pc' := 1012) dL_law_1011 rfl (shS ln) hln g1 ?_
  refine X_aload_n (pc' := 1013) dL_law_1012 rfl rfl ?_
  obtain ⟨⟨r2, z2⟩, q2, h⟩ := bs h
  refine Y_wrap [.ref (0), .int (iN ((z 1000000 ((v5 + 1))))), .ref (159)] (pc' := 1016) dL_law_1013 rfl SL_204 (by decide) rfl (cs rfl) (cs rfl) rfl (CL_leaveCourse hN hz (hz 1000000 ((v5 + 1)) (by decide)) q2) hN.1 hR (fun N1 c1 s1 hN hR f2 => ?_)
  refine X_istore (pc' := 1018) dL_law_1016 rfl (cl rfl) (Or.inr rfl) (L' := [some (.ref (1000000)), some (.ref (0)), some (.ref (151)), some (.ref (159)), some (.ref (160)), some (.int (iN (v5))), some (.int (iN (r2))), none, none]) rfl ?_
  refine X_aload_n (pc' := 1019) dL_law_1018 rfl rfl ?_
  refine X_aload_n (pc' := 1020) dL_law_1019 rfl rfl ?_
  refine X_iload (pc' := 1022) dL_law_1020 rfl rfl ?_
  refine X_iconst (pc' := 1023) dL_law_1022 rfl ?_
  refine X_iadd (pc' := 1024) dL_law_1023 rfl ?_
  refine Y_ialdS (pc' := 1025) dL_law_1024 rfl (shS ln) hln g1 ?_
  obtain ⟨⟨r3, z3⟩, q3, h⟩ := bs h
  refine Y_callV [.int (iN ((z2 1000000 ((v5 + 1)))))] (pc' := 1028) dL_law_1025 rfl VL_206 (by decide) (zlN hN (by decide)) (congrArg Prod.fst (sh151 ln)) rfl rfl rfl (cs rfl) (cs rfl) rfl (CX6_leaveCourse (hN2 hN) f2.2 (f2.2 1000000 ((v5 + 1)) (by decide)) q3) (Nat.zero_add _).symm (Nat.zero_add _).symm (fun f3 => ?_)
  refine X_istore (pc' := 1030) dL_law_1028 rfl (cl rfl) (Or.inr rfl) (L' := [some (.ref (1000000)), some (.ref (0)), some (.ref (151)), some (.ref (159)), some (.ref (160)), some (.int (iN (v5))), some (.int (iN (r2))), some (.int (iN (r3))), none]) rfl ?_
  refine X_aload_n (pc' := 1031) dL_law_1030 rfl rfl ?_
  obtain ⟨r4, q4, h⟩ := bs h
  refine Y_callV [] (pc' := 1034) dL_law_1031 rfl VL_162 (by decide) (zlN hN (by decide)) (congrArg Prod.fst (sh151 ln)) rfl rfl rfl (cs rfl) (cs rfl) rfl (CX6_thrown (hN2 hN) f3.2 q4) (Nat.zero_add _).symm (Nat.zero_add _).symm (fun f4 => ?_)
  refine X_iload (pc' := 1036) dL_law_1034 rfl rfl ?_
  refine X_icmp_eq dL_law_1036 (tgt := 1041) rfl (pc' := 1039) rfl ⟨f4.1, f4.2, (inR_4 f2.1).1, (inR_4 f2.1).2⟩ (fun c5 => ?_) (fun c5 => ?_)
  · have h := if_t c5 h
    refine X_iload (pc' := 1043) dL_law_1041 rfl rfl ?_
    refine X_if_ne dL_law_1043 (tgt := 1058) rfl (pc' := 1046) rfl (inR_4 f2.1) (fun c6 => ?_) (fun c6 => ?_)
    · have h := if_f c6 h
      refine X_goto dL_law_1058 (tgt := 2960) rfl ?_
      cases h
      exact X_room (by omega) (by omega) (X_sub (sub_s (sub_s (sub_s (sub_s (sub_s (sub_s (sub_n (sub_n (sub_n sub_0))))))))) (k1 _ _ rfl (by omega) (by omega) f3.2))
    have h := if_t c6 h
    refine X_aload_n (pc' := 1047) dL_law_1046 rfl rfl ?_
    refine X_iconst (pc' := 1048) dL_law_1047 rfl ?_
    refine Y_lald (pc' := 1049) dL_law_1048 rfl (zlN hN (by decide)) (sh159 ln) (by decide) ⟨by decide, by decide⟩ ?_
    refine X_iload (pc' := 1051) dL_law_1049 rfl rfl ?_
    refine X_lI_i2l (pc' := 1052) dL_law_1051 rfl f3.1 ?_
    refine X_lcmp (pc' := 1053) dL_law_1052 rfl ⟨(inL_R (f3.2 159 (0) (by decide))).1, (inL_R (f3.2 159 (0) (by decide))).2, (inL_R f3.1).1, (inL_R f3.1).2⟩ ?_
    refine X_if_eq dL_law_1053 (tgt := 1058) rfl (pc' := 1056) rfl (inR_cmp _ _) (fun c7 => ?_) (fun c7 => ?_)
    · have h := if_t c7 h
      refine X_goto dL_law_1058 (tgt := 2960) rfl ?_
      cases h
      exact X_room (by omega) (by omega) (X_sub (sub_s (sub_s (sub_s (sub_s (sub_s (sub_s (sub_n (sub_n (sub_n sub_0))))))))) (k1 _ _ rfl (by omega) (by omega) f3.2))
    have h := if_f c7 h
    refine X_iconst (pc' := 1057) dL_law_1056 rfl ?_
    cases h
    exact X_zret dL_law_1057 rfl (Or.inl rfl) (k0 _ _ rfl (by omega) (by omega) f3.2)
  have h := if_f c5 h
  refine X_iconst (pc' := 1040) dL_law_1039 rfl ?_
  cases h
  exact X_zret dL_law_1040 rfl (Or.inl rfl) (k0 _ _ rfl (by omega) (by omega) f3.2)
def fL_c13 (ln : Nat) (v5 : Int) (z : ZZ) : Option (Int × ZZ) := (if (0 : Int) ≤ ((v5 + 1)) ∧ ((v5 + 1)) < (ln : Int) then (if (0 : Int) ≤ ((v5 + 2)) ∧ ((v5 + 2)) < (ln : Int) then (Option.bind (fL_finish ((z 1000000 ((v5 + 1)))) ((z 1000000 ((v5 + 2)))) z) fun q3 => match q3 with | (r3, z3) => (Option.bind (fX6_finish ((z3 1000000 ((v5 + 1)))) ((z3 1000000 ((v5 + 2)))) z3) fun q4 => match q4 with | (r4, z4) => (Option.bind (fX6_thrown z4) fun r5 => (if (r5) = (r3) then (if (r3) = (0) then (if ((zcmp ((z4 159 (0))) (r4))) = (0) then some (1, z4) else some (0, z4)) else some (1, z4)) else some (0, z4))))) else none) else none)
set_option maxRecDepth 100000 in
theorem TL_c13 {ln N : Nat} {z : ZZ} {v5 : Int} {Nm c0 s0 : Nat} {c9 s9 : Nat} {Φ : xRes → xS → Prop} (hN : 161 ≤ N ∧ N < 999999) (hz : okz z) (hln : isLn ln) (rv5 : inR v5) {p : Int × ZZ} (h : fL_c13 ln v5 z = some p) (hR : N + 1 ≤ Nm ∧ c0 + 1 ≤ c9 ∧ s0 + 6 ≤ s9 ∧ Nm < 999999) (k1 : ∀ (N' : Nat) (z' : ZZ), p = (1, z') → 161 ≤ N' → N' ≤ Nm → okz z' → X mL_law 2960 [some (.ref (1000000)), some (.ref (0)), some (.ref (151)), some (.ref (159)), some (.ref (160)), some (.int (iN (v5))), none, none, none] [] (zmk ln N' z') c0 s0 Φ) (k0 : ∀ (N' : Nat) (z' : ZZ), p = (0, z') → 161 ≤ N' → N' ≤ Nm → okz z' → Φ (.inl (some (.int (iN 0)))) (zmk ln N' z')) : X mL_law 1061 [some (.ref (1000000)), some (.ref (0)), some (.ref (151)), some (.ref (159)), some (.ref (160)), some (.int (iN (v5))), none, none, none] [] (zmk ln N z) c9 s9 Φ := by
  unfold fL_c13 at h
  refine X_aload_n (pc' := 1062) dL_law_1061 rfl rfl ?_
  refine X_aload_n (pc' := 1063) dL_law_1062 rfl rfl ?_
  refine X_iload (pc' := 1065) dL_law_1063 rfl rfl ?_
  refine X_iconst (pc' := 1066) dL_law_1065 rfl ?_
  refine X_iadd (pc' := 1067) dL_law_1066 rfl ?_
  obtain ⟨g1, h⟩ := gs h
  refine Y_ialdS (pc' := 1068) dL_law_1067 rfl (shS ln) hln g1 ?_
  refine X_aload_n (pc' := 1069) dL_law_1068 rfl rfl ?_
  refine X_iload (pc' := 1071) dL_law_1069 rfl rfl ?_
  refine X_iconst (pc' := 1072) dL_law_1071 rfl ?_
  refine X_iadd (pc' := 1073) dL_law_1072 rfl ?_
  obtain ⟨g2, h⟩ := gs h
  refine Y_ialdS (pc' := 1074) dL_law_1073 rfl (shS ln) hln g2 ?_
  refine X_aload_n (pc' := 1075) dL_law_1074 rfl rfl ?_
  obtain ⟨⟨r3, z3⟩, q3, h⟩ := bs h
  refine Y_wrap [.ref (0), .int (iN ((z 1000000 ((v5 + 1))))), .int (iN ((z 1000000 ((v5 + 2))))), .ref (159)] (pc' := 1078) dL_law_1075 rfl SL_207 (by decide) rfl (cs rfl) (cs rfl) rfl (CL_finish hN hz (hz 1000000 ((v5 + 1)) (by decide)) (hz 1000000 ((v5 + 2)) (by decide)) q3) hN.1 hR (fun N1 c1 s1 hN hR f3 => ?_)
  refine X_istore (pc' := 1080) dL_law_1078 rfl (cl rfl) (Or.inr rfl) (L' := [some (.ref (1000000)), some (.ref (0)), some (.ref (151)), some (.ref (159)), some (.ref (160)), some (.int (iN (v5))), some (.int (iN (r3))), none, none]) rfl ?_
  refine X_aload_n (pc' := 1081) dL_law_1080 rfl rfl ?_
  refine X_aload_n (pc' := 1082) dL_law_1081 rfl rfl ?_
  refine X_iload (pc' := 1084) dL_law_1082 rfl rfl ?_
  refine X_iconst (pc' := 1085) dL_law_1084 rfl ?_
  refine X_iadd (pc' := 1086) dL_law_1085 rfl ?_
  refine Y_ialdS (pc' := 1087) dL_law_1086 rfl (shS ln) hln g1 ?_
  refine X_aload_n (pc' := 1088) dL_law_1087 rfl rfl ?_
  refine X_iload (pc' := 1090) dL_law_1088 rfl rfl ?_
  refine X_iconst (pc' := 1091) dL_law_1090 rfl ?_
  refine X_iadd (pc' := 1092) dL_law_1091 rfl ?_
  refine Y_ialdS (pc' := 1093) dL_law_1092 rfl (shS ln) hln g2 ?_
  obtain ⟨⟨r4, z4⟩, q4, h⟩ := bs h
  refine Y_callV [.int (iN ((z3 1000000 ((v5 + 1))))), .int (iN ((z3 1000000 ((v5 + 2)))))] (pc' := 1096) dL_law_1093 rfl VL_209 (by decide) (zlN hN (by decide)) (congrArg Prod.fst (sh151 ln)) rfl rfl rfl (cs rfl) (cs rfl) rfl (CX6_finish (hN2 hN) f3.2 (f3.2 1000000 ((v5 + 1)) (by decide)) (f3.2 1000000 ((v5 + 2)) (by decide)) q4) (Nat.zero_add _).symm (Nat.zero_add _).symm (fun f4 => ?_)
  refine X_istore (pc' := 1098) dL_law_1096 rfl (cl rfl) (Or.inr rfl) (L' := [some (.ref (1000000)), some (.ref (0)), some (.ref (151)), some (.ref (159)), some (.ref (160)), some (.int (iN (v5))), some (.int (iN (r3))), some (.int (iN (r4))), none]) rfl ?_
  refine X_aload_n (pc' := 1099) dL_law_1098 rfl rfl ?_
  obtain ⟨r5, q5, h⟩ := bs h
  refine Y_callV [] (pc' := 1102) dL_law_1099 rfl VL_162 (by decide) (zlN hN (by decide)) (congrArg Prod.fst (sh151 ln)) rfl rfl rfl (cs rfl) (cs rfl) rfl (CX6_thrown (hN2 hN) f4.2 q5) (Nat.zero_add _).symm (Nat.zero_add _).symm (fun f5 => ?_)
  refine X_iload (pc' := 1104) dL_law_1102 rfl rfl ?_
  refine X_icmp_eq dL_law_1104 (tgt := 1109) rfl (pc' := 1107) rfl ⟨f5.1, f5.2, (inR_4 f3.1).1, (inR_4 f3.1).2⟩ (fun c6 => ?_) (fun c6 => ?_)
  · have h := if_t c6 h
    refine X_iload (pc' := 1111) dL_law_1109 rfl rfl ?_
    refine X_if_ne dL_law_1111 (tgt := 1126) rfl (pc' := 1114) rfl (inR_4 f3.1) (fun c7 => ?_) (fun c7 => ?_)
    · have h := if_f c7 h
      refine X_goto dL_law_1126 (tgt := 2960) rfl ?_
      cases h
      exact X_room (by omega) (by omega) (X_sub (sub_s (sub_s (sub_s (sub_s (sub_s (sub_s (sub_n (sub_n (sub_n sub_0))))))))) (k1 _ _ rfl (by omega) (by omega) f4.2))
    have h := if_t c7 h
    refine X_aload_n (pc' := 1115) dL_law_1114 rfl rfl ?_
    refine X_iconst (pc' := 1116) dL_law_1115 rfl ?_
    refine Y_lald (pc' := 1117) dL_law_1116 rfl (zlN hN (by decide)) (sh159 ln) (by decide) ⟨by decide, by decide⟩ ?_
    refine X_iload (pc' := 1119) dL_law_1117 rfl rfl ?_
    refine X_lI_i2l (pc' := 1120) dL_law_1119 rfl f4.1 ?_
    refine X_lcmp (pc' := 1121) dL_law_1120 rfl ⟨(inL_R (f4.2 159 (0) (by decide))).1, (inL_R (f4.2 159 (0) (by decide))).2, (inL_R f4.1).1, (inL_R f4.1).2⟩ ?_
    refine X_if_eq dL_law_1121 (tgt := 1126) rfl (pc' := 1124) rfl (inR_cmp _ _) (fun c8 => ?_) (fun c8 => ?_)
    · have h := if_t c8 h
      refine X_goto dL_law_1126 (tgt := 2960) rfl ?_
      cases h
      exact X_room (by omega) (by omega) (X_sub (sub_s (sub_s (sub_s (sub_s (sub_s (sub_s (sub_n (sub_n (sub_n sub_0))))))))) (k1 _ _ rfl (by omega) (by omega) f4.2))
    have h := if_f c8 h
    refine X_iconst (pc' := 1125) dL_law_1124 rfl ?_
    cases h
    exact X_zret dL_law_1125 rfl (Or.inl rfl) (k0 _ _ rfl (by omega) (by omega) f4.2)
  have h := if_f c6 h
  refine X_iconst (pc' := 1108) dL_law_1107 rfl ?_
  cases h
  exact X_zret dL_law_1108 rfl (Or.inl rfl) (k0 _ _ rfl (by omega) (by omega) f4.2)
def fL_c14 (ln : Nat) (v5 : Int) (z : ZZ) : Option (Int × ZZ) := (if (0 : Int) ≤ ((v5 + 1)) ∧ ((v5 + 1)) < (ln : Int) then (if (0 : Int) ≤ ((v5 + 2)) ∧ ((v5 + 2)) < (ln : Int) then (Option.bind (fL_postpone ((z 1000000 ((v5 + 1)))) ((z 1000000 ((v5 + 2)))) z) fun q3 => match q3 with | (r3, z3) => (Option.bind (fX6_postpone ((z3 1000000 ((v5 + 1)))) ((z3 1000000 ((v5 + 2)))) z3) fun q4 => match q4 with | (r4, z4) => (Option.bind (fX6_thrown z4) fun r5 => (if (r5) = (r3) then (if (r3) = (0) then (if ((zcmp ((z4 159 (0))) (r4))) = (0) then some (1, z4) else some (0, z4)) else some (1, z4)) else some (0, z4))))) else none) else none)
set_option maxRecDepth 100000 in
theorem TL_c14 {ln N : Nat} {z : ZZ} {v5 : Int} {Nm c0 s0 : Nat} {c9 s9 : Nat} {Φ : xRes → xS → Prop} (hN : 161 ≤ N ∧ N < 999999) (hz : okz z) (hln : isLn ln) (rv5 : inR v5) {p : Int × ZZ} (h : fL_c14 ln v5 z = some p) (hR : N + 1 ≤ Nm ∧ c0 + 1 ≤ c9 ∧ s0 + 6 ≤ s9 ∧ Nm < 999999) (k1 : ∀ (N' : Nat) (z' : ZZ), p = (1, z') → 161 ≤ N' → N' ≤ Nm → okz z' → X mL_law 2960 [some (.ref (1000000)), some (.ref (0)), some (.ref (151)), some (.ref (159)), some (.ref (160)), some (.int (iN (v5))), none, none, none] [] (zmk ln N' z') c0 s0 Φ) (k0 : ∀ (N' : Nat) (z' : ZZ), p = (0, z') → 161 ≤ N' → N' ≤ Nm → okz z' → Φ (.inl (some (.int (iN 0)))) (zmk ln N' z')) : X mL_law 1129 [some (.ref (1000000)), some (.ref (0)), some (.ref (151)), some (.ref (159)), some (.ref (160)), some (.int (iN (v5))), none, none, none] [] (zmk ln N z) c9 s9 Φ := by
  unfold fL_c14 at h
  refine X_aload_n (pc' := 1130) dL_law_1129 rfl rfl ?_
  refine X_aload_n (pc' := 1131) dL_law_1130 rfl rfl ?_
  refine X_iload (pc' := 1133) dL_law_1131 rfl rfl ?_
  refine X_iconst (pc' := 1134) dL_law_1133 rfl ?_
  refine X_iadd (pc' := 1135) dL_law_1134 rfl ?_
  obtain ⟨g1, h⟩ := gs h
  refine Y_ialdS (pc' := 1136) dL_law_1135 rfl (shS ln) hln g1 ?_
  refine X_aload_n (pc' := 1137) dL_law_1136 rfl rfl ?_
  refine X_iload (pc' := 1139) dL_law_1137 rfl rfl ?_
  refine X_iconst (pc' := 1140) dL_law_1139 rfl ?_
  refine X_iadd (pc' := 1141) dL_law_1140 rfl ?_
  obtain ⟨g2, h⟩ := gs h
  refine Y_ialdS (pc' := 1142) dL_law_1141 rfl (shS ln) hln g2 ?_
  refine X_aload_n (pc' := 1143) dL_law_1142 rfl rfl ?_
  obtain ⟨⟨r3, z3⟩, q3, h⟩ := bs h
  refine Y_wrap [.ref (0), .int (iN ((z 1000000 ((v5 + 1))))), .int (iN ((z 1000000 ((v5 + 2))))), .ref (159)] (pc' := 1146) dL_law_1143 rfl SL_210 (by decide) rfl (cs rfl) (cs rfl) rfl (CL_postpone hN hz (hz 1000000 ((v5 + 1)) (by decide)) (hz 1000000 ((v5 + 2)) (by decide)) q3) hN.1 hR (fun N1 c1 s1 hN hR f3 => ?_)
  refine X_istore (pc' := 1148) dL_law_1146 rfl (cl rfl) (Or.inr rfl) (L' := [some (.ref (1000000)), some (.ref (0)), some (.ref (151)), some (.ref (159)), some (.ref (160)), some (.int (iN (v5))), some (.int (iN (r3))), none, none]) rfl ?_
  refine X_aload_n (pc' := 1149) dL_law_1148 rfl rfl ?_
  refine X_aload_n (pc' := 1150) dL_law_1149 rfl rfl ?_
  refine X_iload (pc' := 1152) dL_law_1150 rfl rfl ?_
  refine X_iconst (pc' := 1153) dL_law_1152 rfl ?_
  refine X_iadd (pc' := 1154) dL_law_1153 rfl ?_
  refine Y_ialdS (pc' := 1155) dL_law_1154 rfl (shS ln) hln g1 ?_
  refine X_aload_n (pc' := 1156) dL_law_1155 rfl rfl ?_
  refine X_iload (pc' := 1158) dL_law_1156 rfl rfl ?_
  refine X_iconst (pc' := 1159) dL_law_1158 rfl ?_
  refine X_iadd (pc' := 1160) dL_law_1159 rfl ?_
  refine Y_ialdS (pc' := 1161) dL_law_1160 rfl (shS ln) hln g2 ?_
  obtain ⟨⟨r4, z4⟩, q4, h⟩ := bs h
  refine Y_callV [.int (iN ((z3 1000000 ((v5 + 1))))), .int (iN ((z3 1000000 ((v5 + 2)))))] (pc' := 1164) dL_law_1161 rfl VL_212 (by decide) (zlN hN (by decide)) (congrArg Prod.fst (sh151 ln)) rfl rfl rfl (cs rfl) (cs rfl) rfl (CX6_postpone (hN2 hN) f3.2 (f3.2 1000000 ((v5 + 1)) (by decide)) (f3.2 1000000 ((v5 + 2)) (by decide)) q4) (Nat.zero_add _).symm (Nat.zero_add _).symm (fun f4 => ?_)
  refine X_istore (pc' := 1166) dL_law_1164 rfl (cl rfl) (Or.inr rfl) (L' := [some (.ref (1000000)), some (.ref (0)), some (.ref (151)), some (.ref (159)), some (.ref (160)), some (.int (iN (v5))), some (.int (iN (r3))), some (.int (iN (r4))), none]) rfl ?_
  refine X_aload_n (pc' := 1167) dL_law_1166 rfl rfl ?_
  obtain ⟨r5, q5, h⟩ := bs h
  refine Y_callV [] (pc' := 1170) dL_law_1167 rfl VL_162 (by decide) (zlN hN (by decide)) (congrArg Prod.fst (sh151 ln)) rfl rfl rfl (cs rfl) (cs rfl) rfl (CX6_thrown (hN2 hN) f4.2 q5) (Nat.zero_add _).symm (Nat.zero_add _).symm (fun f5 => ?_)
  refine X_iload (pc' := 1172) dL_law_1170 rfl rfl ?_
  refine X_icmp_eq dL_law_1172 (tgt := 1177) rfl (pc' := 1175) rfl ⟨f5.1, f5.2, (inR_4 f3.1).1, (inR_4 f3.1).2⟩ (fun c6 => ?_) (fun c6 => ?_)
  · have h := if_t c6 h
    refine X_iload (pc' := 1179) dL_law_1177 rfl rfl ?_
    refine X_if_ne dL_law_1179 (tgt := 1194) rfl (pc' := 1182) rfl (inR_4 f3.1) (fun c7 => ?_) (fun c7 => ?_)
    · have h := if_f c7 h
      refine X_goto dL_law_1194 (tgt := 2960) rfl ?_
      cases h
      exact X_room (by omega) (by omega) (X_sub (sub_s (sub_s (sub_s (sub_s (sub_s (sub_s (sub_n (sub_n (sub_n sub_0))))))))) (k1 _ _ rfl (by omega) (by omega) f4.2))
    have h := if_t c7 h
    refine X_aload_n (pc' := 1183) dL_law_1182 rfl rfl ?_
    refine X_iconst (pc' := 1184) dL_law_1183 rfl ?_
    refine Y_lald (pc' := 1185) dL_law_1184 rfl (zlN hN (by decide)) (sh159 ln) (by decide) ⟨by decide, by decide⟩ ?_
    refine X_iload (pc' := 1187) dL_law_1185 rfl rfl ?_
    refine X_lI_i2l (pc' := 1188) dL_law_1187 rfl f4.1 ?_
    refine X_lcmp (pc' := 1189) dL_law_1188 rfl ⟨(inL_R (f4.2 159 (0) (by decide))).1, (inL_R (f4.2 159 (0) (by decide))).2, (inL_R f4.1).1, (inL_R f4.1).2⟩ ?_
    refine X_if_eq dL_law_1189 (tgt := 1194) rfl (pc' := 1192) rfl (inR_cmp _ _) (fun c8 => ?_) (fun c8 => ?_)
    · have h := if_t c8 h
      refine X_goto dL_law_1194 (tgt := 2960) rfl ?_
      cases h
      exact X_room (by omega) (by omega) (X_sub (sub_s (sub_s (sub_s (sub_s (sub_s (sub_s (sub_n (sub_n (sub_n sub_0))))))))) (k1 _ _ rfl (by omega) (by omega) f4.2))
    have h := if_f c8 h
    refine X_iconst (pc' := 1193) dL_law_1192 rfl ?_
    cases h
    exact X_zret dL_law_1193 rfl (Or.inl rfl) (k0 _ _ rfl (by omega) (by omega) f4.2)
  have h := if_f c6 h
  refine X_iconst (pc' := 1176) dL_law_1175 rfl ?_
  cases h
  exact X_zret dL_law_1176 rfl (Or.inl rfl) (k0 _ _ rfl (by omega) (by omega) f4.2)
def fL_c15 (ln : Nat) (v5 : Int) (z : ZZ) : Option (Int × ZZ) := (if (0 : Int) ≤ ((v5 + 1)) ∧ ((v5 + 1)) < (ln : Int) then (Option.bind (fL_endDays ((z 1000000 ((v5 + 1)))) z) fun q2 => match q2 with | (r2, z2) => (Option.bind (fX6_endDays ((z2 1000000 ((v5 + 1)))) z2) fun q3 => match q3 with | (r3, z3) => (Option.bind (fX6_thrown z3) fun r4 => (if (r4) = (r2) then (if (r2) = (0) then (if ((zcmp ((z3 159 (0))) (r3))) = (0) then some (1, z3) else some (0, z3)) else some (1, z3)) else some (0, z3))))) else none)
set_option maxRecDepth 100000 in
theorem TL_c15 {ln N : Nat} {z : ZZ} {v5 : Int} {Nm c0 s0 : Nat} {c9 s9 : Nat} {Φ : xRes → xS → Prop} (hN : 161 ≤ N ∧ N < 999999) (hz : okz z) (hln : isLn ln) (rv5 : inR v5) {p : Int × ZZ} (h : fL_c15 ln v5 z = some p) (hR : N + 1 ≤ Nm ∧ c0 + 1 ≤ c9 ∧ s0 + 6 ≤ s9 ∧ Nm < 999999) (k1 : ∀ (N' : Nat) (z' : ZZ), p = (1, z') → 161 ≤ N' → N' ≤ Nm → okz z' → X mL_law 2960 [some (.ref (1000000)), some (.ref (0)), some (.ref (151)), some (.ref (159)), some (.ref (160)), some (.int (iN (v5))), none, none, none] [] (zmk ln N' z') c0 s0 Φ) (k0 : ∀ (N' : Nat) (z' : ZZ), p = (0, z') → 161 ≤ N' → N' ≤ Nm → okz z' → Φ (.inl (some (.int (iN 0)))) (zmk ln N' z')) : X mL_law 1197 [some (.ref (1000000)), some (.ref (0)), some (.ref (151)), some (.ref (159)), some (.ref (160)), some (.int (iN (v5))), none, none, none] [] (zmk ln N z) c9 s9 Φ := by
  unfold fL_c15 at h
  refine X_aload_n (pc' := 1198) dL_law_1197 rfl rfl ?_
  refine X_aload_n (pc' := 1199) dL_law_1198 rfl rfl ?_
  refine X_iload (pc' := 1201) dL_law_1199 rfl rfl ?_
  refine X_iconst (pc' := 1202) dL_law_1201 rfl ?_
  refine X_iadd (pc' := 1203) dL_law_1202 rfl ?_
  obtain ⟨g1, h⟩ := gs h
  refine Y_ialdS (pc' := 1204) dL_law_1203 rfl (shS ln) hln g1 ?_
  refine X_aload_n (pc' := 1205) dL_law_1204 rfl rfl ?_
  obtain ⟨⟨r2, z2⟩, q2, h⟩ := bs h
  refine Y_wrap [.ref (0), .int (iN ((z 1000000 ((v5 + 1))))), .ref (159)] (pc' := 1208) dL_law_1205 rfl SL_213 (by decide) rfl (cs rfl) (cs rfl) rfl (CL_endDays hN hz (hz 1000000 ((v5 + 1)) (by decide)) q2) hN.1 hR (fun N1 c1 s1 hN hR f2 => ?_)
  refine X_istore (pc' := 1210) dL_law_1208 rfl (cl rfl) (Or.inr rfl) (L' := [some (.ref (1000000)), some (.ref (0)), some (.ref (151)), some (.ref (159)), some (.ref (160)), some (.int (iN (v5))), some (.int (iN (r2))), none, none]) rfl ?_
  refine X_aload_n (pc' := 1211) dL_law_1210 rfl rfl ?_
  refine X_aload_n (pc' := 1212) dL_law_1211 rfl rfl ?_
  refine X_iload (pc' := 1214) dL_law_1212 rfl rfl ?_
  refine X_iconst (pc' := 1215) dL_law_1214 rfl ?_
  refine X_iadd (pc' := 1216) dL_law_1215 rfl ?_
  refine Y_ialdS (pc' := 1217) dL_law_1216 rfl (shS ln) hln g1 ?_
  obtain ⟨⟨r3, z3⟩, q3, h⟩ := bs h
  refine Y_callV [.int (iN ((z2 1000000 ((v5 + 1)))))] (pc' := 1220) dL_law_1217 rfl VL_215 (by decide) (zlN hN (by decide)) (congrArg Prod.fst (sh151 ln)) rfl rfl rfl (cs rfl) (cs rfl) rfl (CX6_endDays (hN2 hN) f2.2 (f2.2 1000000 ((v5 + 1)) (by decide)) q3) (Nat.zero_add _).symm (Nat.zero_add _).symm (fun f3 => ?_)
  refine X_istore (pc' := 1222) dL_law_1220 rfl (cl rfl) (Or.inr rfl) (L' := [some (.ref (1000000)), some (.ref (0)), some (.ref (151)), some (.ref (159)), some (.ref (160)), some (.int (iN (v5))), some (.int (iN (r2))), some (.int (iN (r3))), none]) rfl ?_
  refine X_aload_n (pc' := 1223) dL_law_1222 rfl rfl ?_
  obtain ⟨r4, q4, h⟩ := bs h
  refine Y_callV [] (pc' := 1226) dL_law_1223 rfl VL_162 (by decide) (zlN hN (by decide)) (congrArg Prod.fst (sh151 ln)) rfl rfl rfl (cs rfl) (cs rfl) rfl (CX6_thrown (hN2 hN) f3.2 q4) (Nat.zero_add _).symm (Nat.zero_add _).symm (fun f4 => ?_)
  refine X_iload (pc' := 1228) dL_law_1226 rfl rfl ?_
  refine X_icmp_eq dL_law_1228 (tgt := 1233) rfl (pc' := 1231) rfl ⟨f4.1, f4.2, (inR_4 f2.1).1, (inR_4 f2.1).2⟩ (fun c5 => ?_) (fun c5 => ?_)
  · have h := if_t c5 h
    refine X_iload (pc' := 1235) dL_law_1233 rfl rfl ?_
    refine X_if_ne dL_law_1235 (tgt := 1250) rfl (pc' := 1238) rfl (inR_4 f2.1) (fun c6 => ?_) (fun c6 => ?_)
    · have h := if_f c6 h
      refine X_goto dL_law_1250 (tgt := 2960) rfl ?_
      cases h
      exact X_room (by omega) (by omega) (X_sub (sub_s (sub_s (sub_s (sub_s (sub_s (sub_s (sub_n (sub_n (sub_n sub_0))))))))) (k1 _ _ rfl (by omega) (by omega) f3.2))
    have h := if_t c6 h
    refine X_aload_n (pc' := 1239) dL_law_1238 rfl rfl ?_
    refine X_iconst (pc' := 1240) dL_law_1239 rfl ?_
    refine Y_lald (pc' := 1241) dL_law_1240 rfl (zlN hN (by decide)) (sh159 ln) (by decide) ⟨by decide, by decide⟩ ?_
    refine X_iload (pc' := 1243) dL_law_1241 rfl rfl ?_
    refine X_lI_i2l (pc' := 1244) dL_law_1243 rfl f3.1 ?_
    refine X_lcmp (pc' := 1245) dL_law_1244 rfl ⟨(inL_R (f3.2 159 (0) (by decide))).1, (inL_R (f3.2 159 (0) (by decide))).2, (inL_R f3.1).1, (inL_R f3.1).2⟩ ?_
    refine X_if_eq dL_law_1245 (tgt := 1250) rfl (pc' := 1248) rfl (inR_cmp _ _) (fun c7 => ?_) (fun c7 => ?_)
    · have h := if_t c7 h
      refine X_goto dL_law_1250 (tgt := 2960) rfl ?_
      cases h
      exact X_room (by omega) (by omega) (X_sub (sub_s (sub_s (sub_s (sub_s (sub_s (sub_s (sub_n (sub_n (sub_n sub_0))))))))) (k1 _ _ rfl (by omega) (by omega) f3.2))
    have h := if_f c7 h
    refine X_iconst (pc' := 1249) dL_law_1248 rfl ?_
    cases h
    exact X_zret dL_law_1249 rfl (Or.inl rfl) (k0 _ _ rfl (by omega) (by omega) f3.2)
  have h := if_f c5 h
  refine X_iconst (pc' := 1232) dL_law_1231 rfl ?_
  cases h
  exact X_zret dL_law_1232 rfl (Or.inl rfl) (k0 _ _ rfl (by omega) (by omega) f3.2)
def fL_c16 (ln : Nat) (v5 : Int) (z : ZZ) : Option (Int × ZZ) := (Option.bind (fL_undo z) fun q1 => match q1 with | (r1, z1) => (Option.bind (fX6_undo z1) fun q2 => match q2 with | (r2, z2) => (Option.bind (fX6_thrown z2) fun r3 => (if (r3) = (r1) then (if (r1) = (0) then (if ((zcmp ((z2 159 (0))) (r2))) = (0) then some (1, z2) else some (0, z2)) else some (1, z2)) else some (0, z2)))))
set_option maxRecDepth 100000 in
theorem TL_c16 {ln N : Nat} {z : ZZ} {v5 : Int} {Nm c0 s0 : Nat} {c9 s9 : Nat} {Φ : xRes → xS → Prop} (hN : 161 ≤ N ∧ N < 999999) (hz : okz z) (hln : isLn ln) (rv5 : inR v5) {p : Int × ZZ} (h : fL_c16 ln v5 z = some p) (hR : N + 1 ≤ Nm ∧ c0 + 1 ≤ c9 ∧ s0 + 6 ≤ s9 ∧ Nm < 999999) (k1 : ∀ (N' : Nat) (z' : ZZ), p = (1, z') → 161 ≤ N' → N' ≤ Nm → okz z' → X mL_law 2960 [some (.ref (1000000)), some (.ref (0)), some (.ref (151)), some (.ref (159)), some (.ref (160)), some (.int (iN (v5))), none, none, none] [] (zmk ln N' z') c0 s0 Φ) (k0 : ∀ (N' : Nat) (z' : ZZ), p = (0, z') → 161 ≤ N' → N' ≤ Nm → okz z' → Φ (.inl (some (.int (iN 0)))) (zmk ln N' z')) : X mL_law 1253 [some (.ref (1000000)), some (.ref (0)), some (.ref (151)), some (.ref (159)), some (.ref (160)), some (.int (iN (v5))), none, none, none] [] (zmk ln N z) c9 s9 Φ := by
  unfold fL_c16 at h
  refine X_aload_n (pc' := 1254) dL_law_1253 rfl rfl ?_
  refine X_aload_n (pc' := 1255) dL_law_1254 rfl rfl ?_
  obtain ⟨⟨r1, z1⟩, q1, h⟩ := bs h
  refine Y_wrap [.ref (0), .ref (159)] (pc' := 1258) dL_law_1255 rfl SL_216 (by decide) rfl (cs rfl) (cs rfl) rfl (CL_undo hN hz q1) hN.1 hR (fun N1 c1 s1 hN hR f1 => ?_)
  refine X_istore (pc' := 1260) dL_law_1258 rfl (cl rfl) (Or.inr rfl) (L' := [some (.ref (1000000)), some (.ref (0)), some (.ref (151)), some (.ref (159)), some (.ref (160)), some (.int (iN (v5))), some (.int (iN (r1))), none, none]) rfl ?_
  refine X_aload_n (pc' := 1261) dL_law_1260 rfl rfl ?_
  obtain ⟨⟨r2, z2⟩, q2, h⟩ := bs h
  refine Y_callV [] (pc' := 1264) dL_law_1261 rfl VL_218 (by decide) (zlN hN (by decide)) (congrArg Prod.fst (sh151 ln)) rfl rfl rfl (cs rfl) (cs rfl) rfl (CX6_undo (hN2 hN) f1.2 q2) (Nat.zero_add _).symm (Nat.zero_add _).symm (fun f2 => ?_)
  refine X_istore (pc' := 1266) dL_law_1264 rfl (cl rfl) (Or.inr rfl) (L' := [some (.ref (1000000)), some (.ref (0)), some (.ref (151)), some (.ref (159)), some (.ref (160)), some (.int (iN (v5))), some (.int (iN (r1))), some (.int (iN (r2))), none]) rfl ?_
  refine X_aload_n (pc' := 1267) dL_law_1266 rfl rfl ?_
  obtain ⟨r3, q3, h⟩ := bs h
  refine Y_callV [] (pc' := 1270) dL_law_1267 rfl VL_162 (by decide) (zlN hN (by decide)) (congrArg Prod.fst (sh151 ln)) rfl rfl rfl (cs rfl) (cs rfl) rfl (CX6_thrown (hN2 hN) f2.2 q3) (Nat.zero_add _).symm (Nat.zero_add _).symm (fun f3 => ?_)
  refine X_iload (pc' := 1272) dL_law_1270 rfl rfl ?_
  refine X_icmp_eq dL_law_1272 (tgt := 1277) rfl (pc' := 1275) rfl ⟨f3.1, f3.2, (inR_4 f1.1).1, (inR_4 f1.1).2⟩ (fun c4 => ?_) (fun c4 => ?_)
  · have h := if_t c4 h
    refine X_iload (pc' := 1279) dL_law_1277 rfl rfl ?_
    refine X_if_ne dL_law_1279 (tgt := 1294) rfl (pc' := 1282) rfl (inR_4 f1.1) (fun c5 => ?_) (fun c5 => ?_)
    · have h := if_f c5 h
      refine X_goto dL_law_1294 (tgt := 2960) rfl ?_
      cases h
      exact X_room (by omega) (by omega) (X_sub (sub_s (sub_s (sub_s (sub_s (sub_s (sub_s (sub_n (sub_n (sub_n sub_0))))))))) (k1 _ _ rfl (by omega) (by omega) f2.2))
    have h := if_t c5 h
    refine X_aload_n (pc' := 1283) dL_law_1282 rfl rfl ?_
    refine X_iconst (pc' := 1284) dL_law_1283 rfl ?_
    refine Y_lald (pc' := 1285) dL_law_1284 rfl (zlN hN (by decide)) (sh159 ln) (by decide) ⟨by decide, by decide⟩ ?_
    refine X_iload (pc' := 1287) dL_law_1285 rfl rfl ?_
    refine X_lI_i2l (pc' := 1288) dL_law_1287 rfl f2.1 ?_
    refine X_lcmp (pc' := 1289) dL_law_1288 rfl ⟨(inL_R (f2.2 159 (0) (by decide))).1, (inL_R (f2.2 159 (0) (by decide))).2, (inL_R f2.1).1, (inL_R f2.1).2⟩ ?_
    refine X_if_eq dL_law_1289 (tgt := 1294) rfl (pc' := 1292) rfl (inR_cmp _ _) (fun c6 => ?_) (fun c6 => ?_)
    · have h := if_t c6 h
      refine X_goto dL_law_1294 (tgt := 2960) rfl ?_
      cases h
      exact X_room (by omega) (by omega) (X_sub (sub_s (sub_s (sub_s (sub_s (sub_s (sub_s (sub_n (sub_n (sub_n sub_0))))))))) (k1 _ _ rfl (by omega) (by omega) f2.2))
    have h := if_f c6 h
    refine X_iconst (pc' := 1293) dL_law_1292 rfl ?_
    cases h
    exact X_zret dL_law_1293 rfl (Or.inl rfl) (k0 _ _ rfl (by omega) (by omega) f2.2)
  have h := if_f c4 h
  refine X_iconst (pc' := 1276) dL_law_1275 rfl ?_
  cases h
  exact X_zret dL_law_1276 rfl (Or.inl rfl) (k0 _ _ rfl (by omega) (by omega) f2.2)
def fL_c17 (ln : Nat) (v5 : Int) (z : ZZ) : Option (Int × ZZ) := (Option.bind (fX5_undoCount z) fun r1 => (Option.bind (fX6_undoCount z) fun q2 => match q2 with | (r2, z2) => (if (r1) = (r2) then some (1, z2) else some (0, z2))))
set_option maxRecDepth 100000 in
theorem TL_c17 {ln N : Nat} {z : ZZ} {v5 : Int} {Nm c0 s0 : Nat} {c9 s9 : Nat} {Φ : xRes → xS → Prop} (hN : 161 ≤ N ∧ N < 999999) (hz : okz z) (hln : isLn ln) (rv5 : inR v5) {p : Int × ZZ} (h : fL_c17 ln v5 z = some p) (hR : N + 1 ≤ Nm ∧ c0 + 1 ≤ c9 ∧ s0 + 6 ≤ s9 ∧ Nm < 999999) (k1 : ∀ (N' : Nat) (z' : ZZ), p = (1, z') → 161 ≤ N' → N' ≤ Nm → okz z' → X mL_law 2960 [some (.ref (1000000)), some (.ref (0)), some (.ref (151)), some (.ref (159)), some (.ref (160)), some (.int (iN (v5))), none, none, none] [] (zmk ln N' z') c0 s0 Φ) (k0 : ∀ (N' : Nat) (z' : ZZ), p = (0, z') → 161 ≤ N' → N' ≤ Nm → okz z' → Φ (.inl (some (.int (iN 0)))) (zmk ln N' z')) : X mL_law 1297 [some (.ref (1000000)), some (.ref (0)), some (.ref (151)), some (.ref (159)), some (.ref (160)), some (.int (iN (v5))), none, none, none] [] (zmk ln N z) c9 s9 Φ := by
  unfold fL_c17 at h
  refine X_aload_n (pc' := 1298) dL_law_1297 rfl rfl ?_
  obtain ⟨r1, q1, h⟩ := bs h
  refine Y_callV [] (pc' := 1301) dL_law_1298 rfl VL_219 (by decide) (zlN hN (by decide)) (congrArg Prod.fst (sh0 ln)) rfl rfl rfl (cs rfl) (cs rfl) rfl (CX5_undoCount (hN1 hN) hz q1) (Nat.zero_add _).symm (Nat.zero_add _).symm (fun f1 => ?_)
  refine X_aload_n (pc' := 1302) dL_law_1301 rfl rfl ?_
  obtain ⟨⟨r2, z2⟩, q2, h⟩ := bs h
  refine Y_callV [] (pc' := 1305) dL_law_1302 rfl VL_222 (by decide) (zlN hN (by decide)) (congrArg Prod.fst (sh151 ln)) rfl rfl rfl (cs rfl) (cs rfl) rfl (CX6_undoCount (hN2 hN) hz q2) (Nat.zero_add _).symm (Nat.zero_add _).symm (fun f2 => ?_)
  refine X_icmp_eq dL_law_1305 (tgt := 2960) rfl (pc' := 1308) rfl ⟨f1.1, f1.2, f2.1.1, f2.1.2⟩ (fun c3 => ?_) (fun c3 => ?_)
  · have h := if_t c3 h
    cases h
    exact X_room (by omega) (by omega) (X_sub (sub_s (sub_s (sub_s (sub_s (sub_s (sub_s (sub_n (sub_n (sub_n sub_0))))))))) (k1 _ _ rfl (by omega) (by omega) f2.2))
  have h := if_f c3 h
  refine X_iconst (pc' := 1309) dL_law_1308 rfl ?_
  cases h
  exact X_zret dL_law_1309 rfl (Or.inl rfl) (k0 _ _ rfl (by omega) (by omega) f2.2)
def fL_c18 (ln : Nat) (v5 : Int) (z : ZZ) : Option (Int × ZZ) := (Option.bind (fX5_save z) fun q1 => match q1 with | (r1, z1) => (Option.bind (fX6_save z1) fun q2 => match q2 with | (r2, z2) => (if (r1) = (r2) then some (1, z2) else some (0, z2))))
set_option maxRecDepth 100000 in
theorem TL_c18 {ln N : Nat} {z : ZZ} {v5 : Int} {Nm c0 s0 : Nat} {c9 s9 : Nat} {Φ : xRes → xS → Prop} (hN : 161 ≤ N ∧ N < 999999) (hz : okz z) (hln : isLn ln) (rv5 : inR v5) {p : Int × ZZ} (h : fL_c18 ln v5 z = some p) (hR : N + 1 ≤ Nm ∧ c0 + 1 ≤ c9 ∧ s0 + 6 ≤ s9 ∧ Nm < 999999) (k1 : ∀ (N' : Nat) (z' : ZZ), p = (1, z') → 161 ≤ N' → N' ≤ Nm → okz z' → X mL_law 2960 [some (.ref (1000000)), some (.ref (0)), some (.ref (151)), some (.ref (159)), some (.ref (160)), some (.int (iN (v5))), none, none, none] [] (zmk ln N' z') c0 s0 Φ) (k0 : ∀ (N' : Nat) (z' : ZZ), p = (0, z') → 161 ≤ N' → N' ≤ Nm → okz z' → Φ (.inl (some (.int (iN 0)))) (zmk ln N' z')) : X mL_law 1310 [some (.ref (1000000)), some (.ref (0)), some (.ref (151)), some (.ref (159)), some (.ref (160)), some (.int (iN (v5))), none, none, none] [] (zmk ln N z) c9 s9 Φ := by
  unfold fL_c18 at h
  refine X_aload_n (pc' := 1311) dL_law_1310 rfl rfl ?_
  obtain ⟨⟨r1, z1⟩, q1, h⟩ := bs h
  refine Y_callV [] (pc' := 1314) dL_law_1311 rfl VL_223 (by decide) (zlN hN (by decide)) (congrArg Prod.fst (sh0 ln)) rfl rfl rfl (cs rfl) (cs rfl) rfl (CX5_save (hN1 hN) hz q1) (Nat.zero_add _).symm (Nat.zero_add _).symm (fun f1 => ?_)
  refine X_aload_n (pc' := 1315) dL_law_1314 rfl rfl ?_
  obtain ⟨⟨r2, z2⟩, q2, h⟩ := bs h
  refine Y_callV [] (pc' := 1318) dL_law_1315 rfl VL_226 (by decide) (zlN hN (by decide)) (congrArg Prod.fst (sh151 ln)) rfl rfl rfl (cs rfl) (cs rfl) rfl (CX6_save (hN2 hN) f1.2 q2) (Nat.zero_add _).symm (Nat.zero_add _).symm (fun f2 => ?_)
  refine X_icmp_eq dL_law_1318 (tgt := 2960) rfl (pc' := 1321) rfl ⟨f1.1.1, f1.1.2, f2.1.1, f2.1.2⟩ (fun c3 => ?_) (fun c3 => ?_)
  · have h := if_t c3 h
    cases h
    exact X_room (by omega) (by omega) (X_sub (sub_s (sub_s (sub_s (sub_s (sub_s (sub_s (sub_n (sub_n (sub_n sub_0))))))))) (k1 _ _ rfl (by omega) (by omega) f2.2))
  have h := if_f c3 h
  refine X_iconst (pc' := 1322) dL_law_1321 rfl ?_
  cases h
  exact X_zret dL_law_1322 rfl (Or.inl rfl) (k0 _ _ rfl (by omega) (by omega) f2.2)
def fL_c19 (ln : Nat) (v5 : Int) (z : ZZ) : Option (Int × ZZ) := (Option.bind (fL_restore z) fun q1 => match q1 with | (r1, z1) => (Option.bind (fX6_restore z1) fun q2 => match q2 with | (r2, z2) => (Option.bind (fX6_thrown z2) fun r3 => (if (r3) = (r1) then (if (r1) = (0) then (if ((zcmp ((z2 159 (0))) (r2))) = (0) then some (1, z2) else some (0, z2)) else some (1, z2)) else some (0, z2)))))
set_option maxRecDepth 100000 in
theorem TL_c19 {ln N : Nat} {z : ZZ} {v5 : Int} {Nm c0 s0 : Nat} {c9 s9 : Nat} {Φ : xRes → xS → Prop} (hN : 161 ≤ N ∧ N < 999999) (hz : okz z) (hln : isLn ln) (rv5 : inR v5) {p : Int × ZZ} (h : fL_c19 ln v5 z = some p) (hR : N + 1 ≤ Nm ∧ c0 + 1 ≤ c9 ∧ s0 + 6 ≤ s9 ∧ Nm < 999999) (k1 : ∀ (N' : Nat) (z' : ZZ), p = (1, z') → 161 ≤ N' → N' ≤ Nm → okz z' → X mL_law 2960 [some (.ref (1000000)), some (.ref (0)), some (.ref (151)), some (.ref (159)), some (.ref (160)), some (.int (iN (v5))), none, none, none] [] (zmk ln N' z') c0 s0 Φ) (k0 : ∀ (N' : Nat) (z' : ZZ), p = (0, z') → 161 ≤ N' → N' ≤ Nm → okz z' → Φ (.inl (some (.int (iN 0)))) (zmk ln N' z')) : X mL_law 1323 [some (.ref (1000000)), some (.ref (0)), some (.ref (151)), some (.ref (159)), some (.ref (160)), some (.int (iN (v5))), none, none, none] [] (zmk ln N z) c9 s9 Φ := by
  unfold fL_c19 at h
  refine X_aload_n (pc' := 1324) dL_law_1323 rfl rfl ?_
  refine X_aload_n (pc' := 1325) dL_law_1324 rfl rfl ?_
  obtain ⟨⟨r1, z1⟩, q1, h⟩ := bs h
  refine Y_wrap [.ref (0), .ref (159)] (pc' := 1328) dL_law_1325 rfl SL_227 (by decide) rfl (cs rfl) (cs rfl) rfl (CL_restore hN hz q1) hN.1 hR (fun N1 c1 s1 hN hR f1 => ?_)
  refine X_istore (pc' := 1330) dL_law_1328 rfl (cl rfl) (Or.inr rfl) (L' := [some (.ref (1000000)), some (.ref (0)), some (.ref (151)), some (.ref (159)), some (.ref (160)), some (.int (iN (v5))), some (.int (iN (r1))), none, none]) rfl ?_
  refine X_aload_n (pc' := 1331) dL_law_1330 rfl rfl ?_
  obtain ⟨⟨r2, z2⟩, q2, h⟩ := bs h
  refine Y_callV [] (pc' := 1334) dL_law_1331 rfl VL_229 (by decide) (zlN hN (by decide)) (congrArg Prod.fst (sh151 ln)) rfl rfl rfl (cs rfl) (cs rfl) rfl (CX6_restore (hN2 hN) f1.2 q2) (Nat.zero_add _).symm (Nat.zero_add _).symm (fun f2 => ?_)
  refine X_istore (pc' := 1336) dL_law_1334 rfl (cl rfl) (Or.inr rfl) (L' := [some (.ref (1000000)), some (.ref (0)), some (.ref (151)), some (.ref (159)), some (.ref (160)), some (.int (iN (v5))), some (.int (iN (r1))), some (.int (iN (r2))), none]) rfl ?_
  refine X_aload_n (pc' := 1337) dL_law_1336 rfl rfl ?_
  obtain ⟨r3, q3, h⟩ := bs h
  refine Y_callV [] (pc' := 1340) dL_law_1337 rfl VL_162 (by decide) (zlN hN (by decide)) (congrArg Prod.fst (sh151 ln)) rfl rfl rfl (cs rfl) (cs rfl) rfl (CX6_thrown (hN2 hN) f2.2 q3) (Nat.zero_add _).symm (Nat.zero_add _).symm (fun f3 => ?_)
  refine X_iload (pc' := 1342) dL_law_1340 rfl rfl ?_
  refine X_icmp_eq dL_law_1342 (tgt := 1347) rfl (pc' := 1345) rfl ⟨f3.1, f3.2, (inR_4 f1.1).1, (inR_4 f1.1).2⟩ (fun c4 => ?_) (fun c4 => ?_)
  · have h := if_t c4 h
    refine X_iload (pc' := 1349) dL_law_1347 rfl rfl ?_
    refine X_if_ne dL_law_1349 (tgt := 1364) rfl (pc' := 1352) rfl (inR_4 f1.1) (fun c5 => ?_) (fun c5 => ?_)
    · have h := if_f c5 h
      refine X_goto dL_law_1364 (tgt := 2960) rfl ?_
      cases h
      exact X_room (by omega) (by omega) (X_sub (sub_s (sub_s (sub_s (sub_s (sub_s (sub_s (sub_n (sub_n (sub_n sub_0))))))))) (k1 _ _ rfl (by omega) (by omega) f2.2))
    have h := if_t c5 h
    refine X_aload_n (pc' := 1353) dL_law_1352 rfl rfl ?_
    refine X_iconst (pc' := 1354) dL_law_1353 rfl ?_
    refine Y_lald (pc' := 1355) dL_law_1354 rfl (zlN hN (by decide)) (sh159 ln) (by decide) ⟨by decide, by decide⟩ ?_
    refine X_iload (pc' := 1357) dL_law_1355 rfl rfl ?_
    refine X_lI_i2l (pc' := 1358) dL_law_1357 rfl f2.1 ?_
    refine X_lcmp (pc' := 1359) dL_law_1358 rfl ⟨(inL_R (f2.2 159 (0) (by decide))).1, (inL_R (f2.2 159 (0) (by decide))).2, (inL_R f2.1).1, (inL_R f2.1).2⟩ ?_
    refine X_if_eq dL_law_1359 (tgt := 1364) rfl (pc' := 1362) rfl (inR_cmp _ _) (fun c6 => ?_) (fun c6 => ?_)
    · have h := if_t c6 h
      refine X_goto dL_law_1364 (tgt := 2960) rfl ?_
      cases h
      exact X_room (by omega) (by omega) (X_sub (sub_s (sub_s (sub_s (sub_s (sub_s (sub_s (sub_n (sub_n (sub_n sub_0))))))))) (k1 _ _ rfl (by omega) (by omega) f2.2))
    have h := if_f c6 h
    refine X_iconst (pc' := 1363) dL_law_1362 rfl ?_
    cases h
    exact X_zret dL_law_1363 rfl (Or.inl rfl) (k0 _ _ rfl (by omega) (by omega) f2.2)
  have h := if_f c4 h
  refine X_iconst (pc' := 1346) dL_law_1345 rfl ?_
  cases h
  exact X_zret dL_law_1346 rfl (Or.inl rfl) (k0 _ _ rfl (by omega) (by omega) f2.2)
def fL_c20 (ln : Nat) (v5 : Int) (z : ZZ) : Option (Int × ZZ) := (if (0 : Int) ≤ ((v5 + 1)) ∧ ((v5 + 1)) < (ln : Int) then (Option.bind (fL_count ((z 1000000 ((v5 + 1)))) z) fun q2 => match q2 with | (r2, z2) => (Option.bind (fX6_count ((z2 1000000 ((v5 + 1)))) z2) fun q3 => match q3 with | (r3, z3) => (Option.bind (fX6_thrown z3) fun r4 => (if (r4) = (r2) then (if (r2) = (0) then (if ((zcmp ((z3 159 (0))) (r3))) = (0) then some (1, z3) else some (0, z3)) else some (1, z3)) else some (0, z3))))) else none)
set_option maxRecDepth 100000 in
theorem TL_c20 {ln N : Nat} {z : ZZ} {v5 : Int} {Nm c0 s0 : Nat} {c9 s9 : Nat} {Φ : xRes → xS → Prop} (hN : 161 ≤ N ∧ N < 999999) (hz : okz z) (hln : isLn ln) (rv5 : inR v5) {p : Int × ZZ} (h : fL_c20 ln v5 z = some p) (hR : N + 1 ≤ Nm ∧ c0 + 1 ≤ c9 ∧ s0 + 6 ≤ s9 ∧ Nm < 999999) (k1 : ∀ (N' : Nat) (z' : ZZ), p = (1, z') → 161 ≤ N' → N' ≤ Nm → okz z' → X mL_law 2960 [some (.ref (1000000)), some (.ref (0)), some (.ref (151)), some (.ref (159)), some (.ref (160)), some (.int (iN (v5))), none, none, none] [] (zmk ln N' z') c0 s0 Φ) (k0 : ∀ (N' : Nat) (z' : ZZ), p = (0, z') → 161 ≤ N' → N' ≤ Nm → okz z' → Φ (.inl (some (.int (iN 0)))) (zmk ln N' z')) : X mL_law 1367 [some (.ref (1000000)), some (.ref (0)), some (.ref (151)), some (.ref (159)), some (.ref (160)), some (.int (iN (v5))), none, none, none] [] (zmk ln N z) c9 s9 Φ := by
  unfold fL_c20 at h
  refine X_aload_n (pc' := 1368) dL_law_1367 rfl rfl ?_
  refine X_aload_n (pc' := 1369) dL_law_1368 rfl rfl ?_
  refine X_iload (pc' := 1371) dL_law_1369 rfl rfl ?_
  refine X_iconst (pc' := 1372) dL_law_1371 rfl ?_
  refine X_iadd (pc' := 1373) dL_law_1372 rfl ?_
  obtain ⟨g1, h⟩ := gs h
  refine Y_ialdS (pc' := 1374) dL_law_1373 rfl (shS ln) hln g1 ?_
  refine X_aload_n (pc' := 1375) dL_law_1374 rfl rfl ?_
  obtain ⟨⟨r2, z2⟩, q2, h⟩ := bs h
  refine Y_wrap [.ref (0), .int (iN ((z 1000000 ((v5 + 1))))), .ref (159)] (pc' := 1378) dL_law_1375 rfl SL_230 (by decide) rfl (cs rfl) (cs rfl) rfl (CL_count hN hz (hz 1000000 ((v5 + 1)) (by decide)) q2) hN.1 hR (fun N1 c1 s1 hN hR f2 => ?_)
  refine X_istore (pc' := 1380) dL_law_1378 rfl (cl rfl) (Or.inr rfl) (L' := [some (.ref (1000000)), some (.ref (0)), some (.ref (151)), some (.ref (159)), some (.ref (160)), some (.int (iN (v5))), some (.int (iN (r2))), none, none]) rfl ?_
  refine X_aload_n (pc' := 1381) dL_law_1380 rfl rfl ?_
  refine X_aload_n (pc' := 1382) dL_law_1381 rfl rfl ?_
  refine X_iload (pc' := 1384) dL_law_1382 rfl rfl ?_
  refine X_iconst (pc' := 1385) dL_law_1384 rfl ?_
  refine X_iadd (pc' := 1386) dL_law_1385 rfl ?_
  refine Y_ialdS (pc' := 1387) dL_law_1386 rfl (shS ln) hln g1 ?_
  obtain ⟨⟨r3, z3⟩, q3, h⟩ := bs h
  refine Y_callV [.int (iN ((z2 1000000 ((v5 + 1)))))] (pc' := 1390) dL_law_1387 rfl VL_232 (by decide) (zlN hN (by decide)) (congrArg Prod.fst (sh151 ln)) rfl rfl rfl (cs rfl) (cs rfl) rfl (CX6_count (hN2 hN) f2.2 (f2.2 1000000 ((v5 + 1)) (by decide)) q3) (Nat.zero_add _).symm (Nat.zero_add _).symm (fun f3 => ?_)
  refine X_istore (pc' := 1392) dL_law_1390 rfl (cl rfl) (Or.inr rfl) (L' := [some (.ref (1000000)), some (.ref (0)), some (.ref (151)), some (.ref (159)), some (.ref (160)), some (.int (iN (v5))), some (.int (iN (r2))), some (.int (iN (r3))), none]) rfl ?_
  refine X_aload_n (pc' := 1393) dL_law_1392 rfl rfl ?_
  obtain ⟨r4, q4, h⟩ := bs h
  refine Y_callV [] (pc' := 1396) dL_law_1393 rfl VL_162 (by decide) (zlN hN (by decide)) (congrArg Prod.fst (sh151 ln)) rfl rfl rfl (cs rfl) (cs rfl) rfl (CX6_thrown (hN2 hN) f3.2 q4) (Nat.zero_add _).symm (Nat.zero_add _).symm (fun f4 => ?_)
  refine X_iload (pc' := 1398) dL_law_1396 rfl rfl ?_
  refine X_icmp_eq dL_law_1398 (tgt := 1403) rfl (pc' := 1401) rfl ⟨f4.1, f4.2, (inR_4 f2.1).1, (inR_4 f2.1).2⟩ (fun c5 => ?_) (fun c5 => ?_)
  · have h := if_t c5 h
    refine X_iload (pc' := 1405) dL_law_1403 rfl rfl ?_
    refine X_if_ne dL_law_1405 (tgt := 1420) rfl (pc' := 1408) rfl (inR_4 f2.1) (fun c6 => ?_) (fun c6 => ?_)
    · have h := if_f c6 h
      refine X_goto dL_law_1420 (tgt := 2960) rfl ?_
      cases h
      exact X_room (by omega) (by omega) (X_sub (sub_s (sub_s (sub_s (sub_s (sub_s (sub_s (sub_n (sub_n (sub_n sub_0))))))))) (k1 _ _ rfl (by omega) (by omega) f3.2))
    have h := if_t c6 h
    refine X_aload_n (pc' := 1409) dL_law_1408 rfl rfl ?_
    refine X_iconst (pc' := 1410) dL_law_1409 rfl ?_
    refine Y_lald (pc' := 1411) dL_law_1410 rfl (zlN hN (by decide)) (sh159 ln) (by decide) ⟨by decide, by decide⟩ ?_
    refine X_iload (pc' := 1413) dL_law_1411 rfl rfl ?_
    refine X_lI_i2l (pc' := 1414) dL_law_1413 rfl f3.1 ?_
    refine X_lcmp (pc' := 1415) dL_law_1414 rfl ⟨(inL_R (f3.2 159 (0) (by decide))).1, (inL_R (f3.2 159 (0) (by decide))).2, (inL_R f3.1).1, (inL_R f3.1).2⟩ ?_
    refine X_if_eq dL_law_1415 (tgt := 1420) rfl (pc' := 1418) rfl (inR_cmp _ _) (fun c7 => ?_) (fun c7 => ?_)
    · have h := if_t c7 h
      refine X_goto dL_law_1420 (tgt := 2960) rfl ?_
      cases h
      exact X_room (by omega) (by omega) (X_sub (sub_s (sub_s (sub_s (sub_s (sub_s (sub_s (sub_n (sub_n (sub_n sub_0))))))))) (k1 _ _ rfl (by omega) (by omega) f3.2))
    have h := if_f c7 h
    refine X_iconst (pc' := 1419) dL_law_1418 rfl ?_
    cases h
    exact X_zret dL_law_1419 rfl (Or.inl rfl) (k0 _ _ rfl (by omega) (by omega) f3.2)
  have h := if_f c5 h
  refine X_iconst (pc' := 1402) dL_law_1401 rfl ?_
  cases h
  exact X_zret dL_law_1402 rfl (Or.inl rfl) (k0 _ _ rfl (by omega) (by omega) f3.2)
def fL_c21 (ln : Nat) (v5 : Int) (z : ZZ) : Option (Int × ZZ) := (if (0 : Int) ≤ ((v5 + 1)) ∧ ((v5 + 1)) < (ln : Int) then (if (0 : Int) ≤ ((v5 + 2)) ∧ ((v5 + 2)) < (ln : Int) then (Option.bind (fL_wall ((z 1000000 ((v5 + 1)))) ((z 1000000 ((v5 + 2)))) z) fun q3 => match q3 with | (r3, z3) => (Option.bind (fX6_wall ((z3 1000000 ((v5 + 1)))) ((z3 1000000 ((v5 + 2)))) z3) fun q4 => match q4 with | (r4, z4) => (Option.bind (fX6_thrown z4) fun r5 => (if (r5) = (r3) then (if (r3) = (0) then (if ((zcmp ((z4 159 (0))) (r4))) = (0) then some (1, z4) else some (0, z4)) else some (1, z4)) else some (0, z4))))) else none) else none)
set_option maxRecDepth 100000 in
theorem TL_c21 {ln N : Nat} {z : ZZ} {v5 : Int} {Nm c0 s0 : Nat} {c9 s9 : Nat} {Φ : xRes → xS → Prop} (hN : 161 ≤ N ∧ N < 999999) (hz : okz z) (hln : isLn ln) (rv5 : inR v5) {p : Int × ZZ} (h : fL_c21 ln v5 z = some p) (hR : N + 1 ≤ Nm ∧ c0 + 1 ≤ c9 ∧ s0 + 6 ≤ s9 ∧ Nm < 999999) (k1 : ∀ (N' : Nat) (z' : ZZ), p = (1, z') → 161 ≤ N' → N' ≤ Nm → okz z' → X mL_law 2960 [some (.ref (1000000)), some (.ref (0)), some (.ref (151)), some (.ref (159)), some (.ref (160)), some (.int (iN (v5))), none, none, none] [] (zmk ln N' z') c0 s0 Φ) (k0 : ∀ (N' : Nat) (z' : ZZ), p = (0, z') → 161 ≤ N' → N' ≤ Nm → okz z' → Φ (.inl (some (.int (iN 0)))) (zmk ln N' z')) : X mL_law 1423 [some (.ref (1000000)), some (.ref (0)), some (.ref (151)), some (.ref (159)), some (.ref (160)), some (.int (iN (v5))), none, none, none] [] (zmk ln N z) c9 s9 Φ := by
  unfold fL_c21 at h
  refine X_aload_n (pc' := 1424) dL_law_1423 rfl rfl ?_
  refine X_aload_n (pc' := 1425) dL_law_1424 rfl rfl ?_
  refine X_iload (pc' := 1427) dL_law_1425 rfl rfl ?_
  refine X_iconst (pc' := 1428) dL_law_1427 rfl ?_
  refine X_iadd (pc' := 1429) dL_law_1428 rfl ?_
  obtain ⟨g1, h⟩ := gs h
  refine Y_ialdS (pc' := 1430) dL_law_1429 rfl (shS ln) hln g1 ?_
  refine X_aload_n (pc' := 1431) dL_law_1430 rfl rfl ?_
  refine X_iload (pc' := 1433) dL_law_1431 rfl rfl ?_
  refine X_iconst (pc' := 1434) dL_law_1433 rfl ?_
  refine X_iadd (pc' := 1435) dL_law_1434 rfl ?_
  obtain ⟨g2, h⟩ := gs h
  refine Y_ialdS (pc' := 1436) dL_law_1435 rfl (shS ln) hln g2 ?_
  refine X_aload_n (pc' := 1437) dL_law_1436 rfl rfl ?_
  obtain ⟨⟨r3, z3⟩, q3, h⟩ := bs h
  refine Y_wrap [.ref (0), .int (iN ((z 1000000 ((v5 + 1))))), .int (iN ((z 1000000 ((v5 + 2))))), .ref (159)] (pc' := 1440) dL_law_1437 rfl SL_233 (by decide) rfl (cs rfl) (cs rfl) rfl (CL_wall hN hz (hz 1000000 ((v5 + 1)) (by decide)) (hz 1000000 ((v5 + 2)) (by decide)) q3) hN.1 hR (fun N1 c1 s1 hN hR f3 => ?_)
  refine X_istore (pc' := 1442) dL_law_1440 rfl (cl rfl) (Or.inr rfl) (L' := [some (.ref (1000000)), some (.ref (0)), some (.ref (151)), some (.ref (159)), some (.ref (160)), some (.int (iN (v5))), some (.int (iN (r3))), none, none]) rfl ?_
  refine X_aload_n (pc' := 1443) dL_law_1442 rfl rfl ?_
  refine X_aload_n (pc' := 1444) dL_law_1443 rfl rfl ?_
  refine X_iload (pc' := 1446) dL_law_1444 rfl rfl ?_
  refine X_iconst (pc' := 1447) dL_law_1446 rfl ?_
  refine X_iadd (pc' := 1448) dL_law_1447 rfl ?_
  refine Y_ialdS (pc' := 1449) dL_law_1448 rfl (shS ln) hln g1 ?_
  refine X_aload_n (pc' := 1450) dL_law_1449 rfl rfl ?_
  refine X_iload (pc' := 1452) dL_law_1450 rfl rfl ?_
  refine X_iconst (pc' := 1453) dL_law_1452 rfl ?_
  refine X_iadd (pc' := 1454) dL_law_1453 rfl ?_
  refine Y_ialdS (pc' := 1455) dL_law_1454 rfl (shS ln) hln g2 ?_
  obtain ⟨⟨r4, z4⟩, q4, h⟩ := bs h
  refine Y_callV [.int (iN ((z3 1000000 ((v5 + 1))))), .int (iN ((z3 1000000 ((v5 + 2)))))] (pc' := 1458) dL_law_1455 rfl VL_235 (by decide) (zlN hN (by decide)) (congrArg Prod.fst (sh151 ln)) rfl rfl rfl (cs rfl) (cs rfl) rfl (CX6_wall (hN2 hN) f3.2 (f3.2 1000000 ((v5 + 1)) (by decide)) (f3.2 1000000 ((v5 + 2)) (by decide)) q4) (Nat.zero_add _).symm (Nat.zero_add _).symm (fun f4 => ?_)
  refine X_istore (pc' := 1460) dL_law_1458 rfl (cl rfl) (Or.inr rfl) (L' := [some (.ref (1000000)), some (.ref (0)), some (.ref (151)), some (.ref (159)), some (.ref (160)), some (.int (iN (v5))), some (.int (iN (r3))), some (.int (iN (r4))), none]) rfl ?_
  refine X_aload_n (pc' := 1461) dL_law_1460 rfl rfl ?_
  obtain ⟨r5, q5, h⟩ := bs h
  refine Y_callV [] (pc' := 1464) dL_law_1461 rfl VL_162 (by decide) (zlN hN (by decide)) (congrArg Prod.fst (sh151 ln)) rfl rfl rfl (cs rfl) (cs rfl) rfl (CX6_thrown (hN2 hN) f4.2 q5) (Nat.zero_add _).symm (Nat.zero_add _).symm (fun f5 => ?_)
  refine X_iload (pc' := 1466) dL_law_1464 rfl rfl ?_
  refine X_icmp_eq dL_law_1466 (tgt := 1471) rfl (pc' := 1469) rfl ⟨f5.1, f5.2, (inR_4 f3.1).1, (inR_4 f3.1).2⟩ (fun c6 => ?_) (fun c6 => ?_)
  · have h := if_t c6 h
    refine X_iload (pc' := 1473) dL_law_1471 rfl rfl ?_
    refine X_if_ne dL_law_1473 (tgt := 1488) rfl (pc' := 1476) rfl (inR_4 f3.1) (fun c7 => ?_) (fun c7 => ?_)
    · have h := if_f c7 h
      refine X_goto dL_law_1488 (tgt := 2960) rfl ?_
      cases h
      exact X_room (by omega) (by omega) (X_sub (sub_s (sub_s (sub_s (sub_s (sub_s (sub_s (sub_n (sub_n (sub_n sub_0))))))))) (k1 _ _ rfl (by omega) (by omega) f4.2))
    have h := if_t c7 h
    refine X_aload_n (pc' := 1477) dL_law_1476 rfl rfl ?_
    refine X_iconst (pc' := 1478) dL_law_1477 rfl ?_
    refine Y_lald (pc' := 1479) dL_law_1478 rfl (zlN hN (by decide)) (sh159 ln) (by decide) ⟨by decide, by decide⟩ ?_
    refine X_iload (pc' := 1481) dL_law_1479 rfl rfl ?_
    refine X_lI_i2l (pc' := 1482) dL_law_1481 rfl f4.1 ?_
    refine X_lcmp (pc' := 1483) dL_law_1482 rfl ⟨(inL_R (f4.2 159 (0) (by decide))).1, (inL_R (f4.2 159 (0) (by decide))).2, (inL_R f4.1).1, (inL_R f4.1).2⟩ ?_
    refine X_if_eq dL_law_1483 (tgt := 1488) rfl (pc' := 1486) rfl (inR_cmp _ _) (fun c8 => ?_) (fun c8 => ?_)
    · have h := if_t c8 h
      refine X_goto dL_law_1488 (tgt := 2960) rfl ?_
      cases h
      exact X_room (by omega) (by omega) (X_sub (sub_s (sub_s (sub_s (sub_s (sub_s (sub_s (sub_n (sub_n (sub_n sub_0))))))))) (k1 _ _ rfl (by omega) (by omega) f4.2))
    have h := if_f c8 h
    refine X_iconst (pc' := 1487) dL_law_1486 rfl ?_
    cases h
    exact X_zret dL_law_1487 rfl (Or.inl rfl) (k0 _ _ rfl (by omega) (by omega) f4.2)
  have h := if_f c6 h
  refine X_iconst (pc' := 1470) dL_law_1469 rfl ?_
  cases h
  exact X_zret dL_law_1470 rfl (Or.inl rfl) (k0 _ _ rfl (by omega) (by omega) f4.2)
def fL_c22 (ln : Nat) (v5 : Int) (z : ZZ) : Option (Int × ZZ) := (if (0 : Int) ≤ ((v5 + 1)) ∧ ((v5 + 1)) < (ln : Int) then (if (0 : Int) ≤ ((v5 + 2)) ∧ ((v5 + 2)) < (ln : Int) then (Option.bind (fL_route ((z 1000000 ((v5 + 1)))) ((z 1000000 ((v5 + 2)))) z) fun q3 => match q3 with | (r3, z3) => (Option.bind (fX6_route ((z3 1000000 ((v5 + 1)))) ((z3 1000000 ((v5 + 2)))) z3) fun q4 => match q4 with | (r4, z4) => (Option.bind (fX6_thrown z4) fun r5 => (if (r5) = (r3) then (if (r3) = (0) then (if ((zcmp ((z4 159 (0))) (r4))) = (0) then some (1, z4) else some (0, z4)) else some (1, z4)) else some (0, z4))))) else none) else none)
set_option maxRecDepth 100000 in
theorem TL_c22 {ln N : Nat} {z : ZZ} {v5 : Int} {Nm c0 s0 : Nat} {c9 s9 : Nat} {Φ : xRes → xS → Prop} (hN : 161 ≤ N ∧ N < 999999) (hz : okz z) (hln : isLn ln) (rv5 : inR v5) {p : Int × ZZ} (h : fL_c22 ln v5 z = some p) (hR : N + 1 ≤ Nm ∧ c0 + 1 ≤ c9 ∧ s0 + 6 ≤ s9 ∧ Nm < 999999) (k1 : ∀ (N' : Nat) (z' : ZZ), p = (1, z') → 161 ≤ N' → N' ≤ Nm → okz z' → X mL_law 2960 [some (.ref (1000000)), some (.ref (0)), some (.ref (151)), some (.ref (159)), some (.ref (160)), some (.int (iN (v5))), none, none, none] [] (zmk ln N' z') c0 s0 Φ) (k0 : ∀ (N' : Nat) (z' : ZZ), p = (0, z') → 161 ≤ N' → N' ≤ Nm → okz z' → Φ (.inl (some (.int (iN 0)))) (zmk ln N' z')) : X mL_law 1491 [some (.ref (1000000)), some (.ref (0)), some (.ref (151)), some (.ref (159)), some (.ref (160)), some (.int (iN (v5))), none, none, none] [] (zmk ln N z) c9 s9 Φ := by
  unfold fL_c22 at h
  refine X_aload_n (pc' := 1492) dL_law_1491 rfl rfl ?_
  refine X_aload_n (pc' := 1493) dL_law_1492 rfl rfl ?_
  refine X_iload (pc' := 1495) dL_law_1493 rfl rfl ?_
  refine X_iconst (pc' := 1496) dL_law_1495 rfl ?_
  refine X_iadd (pc' := 1497) dL_law_1496 rfl ?_
  obtain ⟨g1, h⟩ := gs h
  refine Y_ialdS (pc' := 1498) dL_law_1497 rfl (shS ln) hln g1 ?_
  refine X_aload_n (pc' := 1499) dL_law_1498 rfl rfl ?_
  refine X_iload (pc' := 1501) dL_law_1499 rfl rfl ?_
  refine X_iconst (pc' := 1502) dL_law_1501 rfl ?_
  refine X_iadd (pc' := 1503) dL_law_1502 rfl ?_
  obtain ⟨g2, h⟩ := gs h
  refine Y_ialdS (pc' := 1504) dL_law_1503 rfl (shS ln) hln g2 ?_
  refine X_aload_n (pc' := 1505) dL_law_1504 rfl rfl ?_
  obtain ⟨⟨r3, z3⟩, q3, h⟩ := bs h
  refine Y_wrap [.ref (0), .int (iN ((z 1000000 ((v5 + 1))))), .int (iN ((z 1000000 ((v5 + 2))))), .ref (159)] (pc' := 1508) dL_law_1505 rfl SL_236 (by decide) rfl (cs rfl) (cs rfl) rfl (CL_route hN hz (hz 1000000 ((v5 + 1)) (by decide)) (hz 1000000 ((v5 + 2)) (by decide)) q3) hN.1 hR (fun N1 c1 s1 hN hR f3 => ?_)
  refine X_istore (pc' := 1510) dL_law_1508 rfl (cl rfl) (Or.inr rfl) (L' := [some (.ref (1000000)), some (.ref (0)), some (.ref (151)), some (.ref (159)), some (.ref (160)), some (.int (iN (v5))), some (.int (iN (r3))), none, none]) rfl ?_
  refine X_aload_n (pc' := 1511) dL_law_1510 rfl rfl ?_
  refine X_aload_n (pc' := 1512) dL_law_1511 rfl rfl ?_
  refine X_iload (pc' := 1514) dL_law_1512 rfl rfl ?_
  refine X_iconst (pc' := 1515) dL_law_1514 rfl ?_
  refine X_iadd (pc' := 1516) dL_law_1515 rfl ?_
  refine Y_ialdS (pc' := 1517) dL_law_1516 rfl (shS ln) hln g1 ?_
  refine X_aload_n (pc' := 1518) dL_law_1517 rfl rfl ?_
  refine X_iload (pc' := 1520) dL_law_1518 rfl rfl ?_
  refine X_iconst (pc' := 1521) dL_law_1520 rfl ?_
  refine X_iadd (pc' := 1522) dL_law_1521 rfl ?_
  refine Y_ialdS (pc' := 1523) dL_law_1522 rfl (shS ln) hln g2 ?_
  obtain ⟨⟨r4, z4⟩, q4, h⟩ := bs h
  refine Y_callV [.int (iN ((z3 1000000 ((v5 + 1))))), .int (iN ((z3 1000000 ((v5 + 2)))))] (pc' := 1526) dL_law_1523 rfl VL_238 (by decide) (zlN hN (by decide)) (congrArg Prod.fst (sh151 ln)) rfl rfl rfl (cs rfl) (cs rfl) rfl (CX6_route (hN2 hN) f3.2 (f3.2 1000000 ((v5 + 1)) (by decide)) (f3.2 1000000 ((v5 + 2)) (by decide)) q4) (Nat.zero_add _).symm (Nat.zero_add _).symm (fun f4 => ?_)
  refine X_istore (pc' := 1528) dL_law_1526 rfl (cl rfl) (Or.inr rfl) (L' := [some (.ref (1000000)), some (.ref (0)), some (.ref (151)), some (.ref (159)), some (.ref (160)), some (.int (iN (v5))), some (.int (iN (r3))), some (.int (iN (r4))), none]) rfl ?_
  refine X_aload_n (pc' := 1529) dL_law_1528 rfl rfl ?_
  obtain ⟨r5, q5, h⟩ := bs h
  refine Y_callV [] (pc' := 1532) dL_law_1529 rfl VL_162 (by decide) (zlN hN (by decide)) (congrArg Prod.fst (sh151 ln)) rfl rfl rfl (cs rfl) (cs rfl) rfl (CX6_thrown (hN2 hN) f4.2 q5) (Nat.zero_add _).symm (Nat.zero_add _).symm (fun f5 => ?_)
  refine X_iload (pc' := 1534) dL_law_1532 rfl rfl ?_
  refine X_icmp_eq dL_law_1534 (tgt := 1539) rfl (pc' := 1537) rfl ⟨f5.1, f5.2, (inR_4 f3.1).1, (inR_4 f3.1).2⟩ (fun c6 => ?_) (fun c6 => ?_)
  · have h := if_t c6 h
    refine X_iload (pc' := 1541) dL_law_1539 rfl rfl ?_
    refine X_if_ne dL_law_1541 (tgt := 1556) rfl (pc' := 1544) rfl (inR_4 f3.1) (fun c7 => ?_) (fun c7 => ?_)
    · have h := if_f c7 h
      refine X_goto dL_law_1556 (tgt := 2960) rfl ?_
      cases h
      exact X_room (by omega) (by omega) (X_sub (sub_s (sub_s (sub_s (sub_s (sub_s (sub_s (sub_n (sub_n (sub_n sub_0))))))))) (k1 _ _ rfl (by omega) (by omega) f4.2))
    have h := if_t c7 h
    refine X_aload_n (pc' := 1545) dL_law_1544 rfl rfl ?_
    refine X_iconst (pc' := 1546) dL_law_1545 rfl ?_
    refine Y_lald (pc' := 1547) dL_law_1546 rfl (zlN hN (by decide)) (sh159 ln) (by decide) ⟨by decide, by decide⟩ ?_
    refine X_iload (pc' := 1549) dL_law_1547 rfl rfl ?_
    refine X_lI_i2l (pc' := 1550) dL_law_1549 rfl f4.1 ?_
    refine X_lcmp (pc' := 1551) dL_law_1550 rfl ⟨(inL_R (f4.2 159 (0) (by decide))).1, (inL_R (f4.2 159 (0) (by decide))).2, (inL_R f4.1).1, (inL_R f4.1).2⟩ ?_
    refine X_if_eq dL_law_1551 (tgt := 1556) rfl (pc' := 1554) rfl (inR_cmp _ _) (fun c8 => ?_) (fun c8 => ?_)
    · have h := if_t c8 h
      refine X_goto dL_law_1556 (tgt := 2960) rfl ?_
      cases h
      exact X_room (by omega) (by omega) (X_sub (sub_s (sub_s (sub_s (sub_s (sub_s (sub_s (sub_n (sub_n (sub_n sub_0))))))))) (k1 _ _ rfl (by omega) (by omega) f4.2))
    have h := if_f c8 h
    refine X_iconst (pc' := 1555) dL_law_1554 rfl ?_
    cases h
    exact X_zret dL_law_1555 rfl (Or.inl rfl) (k0 _ _ rfl (by omega) (by omega) f4.2)
  have h := if_f c6 h
  refine X_iconst (pc' := 1538) dL_law_1537 rfl ?_
  cases h
  exact X_zret dL_law_1538 rfl (Or.inl rfl) (k0 _ _ rfl (by omega) (by omega) f4.2)
def fL_c23 (ln : Nat) (v5 : Int) (z : ZZ) : Option (Int × ZZ) := (if (0 : Int) ≤ ((v5 + 1)) ∧ ((v5 + 1)) < (ln : Int) then (if (0 : Int) ≤ ((v5 + 2)) ∧ ((v5 + 2)) < (ln : Int) then (Option.bind (fL_archived ((z 1000000 ((v5 + 1)))) ((z 1000000 ((v5 + 2)))) z) fun q3 => match q3 with | (r3, z3) => (Option.bind (fX6_archived ((z3 1000000 ((v5 + 1)))) ((z3 1000000 ((v5 + 2)))) z3) fun q4 => match q4 with | (r4, z4) => (Option.bind (fX6_thrown z4) fun r5 => (if (r5) = (r3) then (if (r3) = (0) then (if ((zcmp ((z4 159 (0))) (r4))) = (0) then some (1, z4) else some (0, z4)) else some (1, z4)) else some (0, z4))))) else none) else none)
set_option maxRecDepth 100000 in
theorem TL_c23 {ln N : Nat} {z : ZZ} {v5 : Int} {Nm c0 s0 : Nat} {c9 s9 : Nat} {Φ : xRes → xS → Prop} (hN : 161 ≤ N ∧ N < 999999) (hz : okz z) (hln : isLn ln) (rv5 : inR v5) {p : Int × ZZ} (h : fL_c23 ln v5 z = some p) (hR : N + 1 ≤ Nm ∧ c0 + 1 ≤ c9 ∧ s0 + 6 ≤ s9 ∧ Nm < 999999) (k1 : ∀ (N' : Nat) (z' : ZZ), p = (1, z') → 161 ≤ N' → N' ≤ Nm → okz z' → X mL_law 2960 [some (.ref (1000000)), some (.ref (0)), some (.ref (151)), some (.ref (159)), some (.ref (160)), some (.int (iN (v5))), none, none, none] [] (zmk ln N' z') c0 s0 Φ) (k0 : ∀ (N' : Nat) (z' : ZZ), p = (0, z') → 161 ≤ N' → N' ≤ Nm → okz z' → Φ (.inl (some (.int (iN 0)))) (zmk ln N' z')) : X mL_law 1559 [some (.ref (1000000)), some (.ref (0)), some (.ref (151)), some (.ref (159)), some (.ref (160)), some (.int (iN (v5))), none, none, none] [] (zmk ln N z) c9 s9 Φ := by
  unfold fL_c23 at h
  refine X_aload_n (pc' := 1560) dL_law_1559 rfl rfl ?_
  refine X_aload_n (pc' := 1561) dL_law_1560 rfl rfl ?_
  refine X_iload (pc' := 1563) dL_law_1561 rfl rfl ?_
  refine X_iconst (pc' := 1564) dL_law_1563 rfl ?_
  refine X_iadd (pc' := 1565) dL_law_1564 rfl ?_
  obtain ⟨g1, h⟩ := gs h
  refine Y_ialdS (pc' := 1566) dL_law_1565 rfl (shS ln) hln g1 ?_
  refine X_aload_n (pc' := 1567) dL_law_1566 rfl rfl ?_
  refine X_iload (pc' := 1569) dL_law_1567 rfl rfl ?_
  refine X_iconst (pc' := 1570) dL_law_1569 rfl ?_
  refine X_iadd (pc' := 1571) dL_law_1570 rfl ?_
  obtain ⟨g2, h⟩ := gs h
  refine Y_ialdS (pc' := 1572) dL_law_1571 rfl (shS ln) hln g2 ?_
  refine X_aload_n (pc' := 1573) dL_law_1572 rfl rfl ?_
  obtain ⟨⟨r3, z3⟩, q3, h⟩ := bs h
  refine Y_wrap [.ref (0), .int (iN ((z 1000000 ((v5 + 1))))), .int (iN ((z 1000000 ((v5 + 2))))), .ref (159)] (pc' := 1576) dL_law_1573 rfl SL_239 (by decide) rfl (cs rfl) (cs rfl) rfl (CL_archived hN hz (hz 1000000 ((v5 + 1)) (by decide)) (hz 1000000 ((v5 + 2)) (by decide)) q3) hN.1 hR (fun N1 c1 s1 hN hR f3 => ?_)
  refine X_istore (pc' := 1578) dL_law_1576 rfl (cl rfl) (Or.inr rfl) (L' := [some (.ref (1000000)), some (.ref (0)), some (.ref (151)), some (.ref (159)), some (.ref (160)), some (.int (iN (v5))), some (.int (iN (r3))), none, none]) rfl ?_
  refine X_aload_n (pc' := 1579) dL_law_1578 rfl rfl ?_
  refine X_aload_n (pc' := 1580) dL_law_1579 rfl rfl ?_
  refine X_iload (pc' := 1582) dL_law_1580 rfl rfl ?_
  refine X_iconst (pc' := 1583) dL_law_1582 rfl ?_
  refine X_iadd (pc' := 1584) dL_law_1583 rfl ?_
  refine Y_ialdS (pc' := 1585) dL_law_1584 rfl (shS ln) hln g1 ?_
  refine X_aload_n (pc' := 1586) dL_law_1585 rfl rfl ?_
  refine X_iload (pc' := 1588) dL_law_1586 rfl rfl ?_
  refine X_iconst (pc' := 1589) dL_law_1588 rfl ?_
  refine X_iadd (pc' := 1590) dL_law_1589 rfl ?_
  refine Y_ialdS (pc' := 1591) dL_law_1590 rfl (shS ln) hln g2 ?_
  obtain ⟨⟨r4, z4⟩, q4, h⟩ := bs h
  refine Y_callV [.int (iN ((z3 1000000 ((v5 + 1))))), .int (iN ((z3 1000000 ((v5 + 2)))))] (pc' := 1594) dL_law_1591 rfl VL_241 (by decide) (zlN hN (by decide)) (congrArg Prod.fst (sh151 ln)) rfl rfl rfl (cs rfl) (cs rfl) rfl (CX6_archived (hN2 hN) f3.2 (f3.2 1000000 ((v5 + 1)) (by decide)) (f3.2 1000000 ((v5 + 2)) (by decide)) q4) (Nat.zero_add _).symm (Nat.zero_add _).symm (fun f4 => ?_)
  refine X_istore (pc' := 1596) dL_law_1594 rfl (cl rfl) (Or.inr rfl) (L' := [some (.ref (1000000)), some (.ref (0)), some (.ref (151)), some (.ref (159)), some (.ref (160)), some (.int (iN (v5))), some (.int (iN (r3))), some (.int (iN (r4))), none]) rfl ?_
  refine X_aload_n (pc' := 1597) dL_law_1596 rfl rfl ?_
  obtain ⟨r5, q5, h⟩ := bs h
  refine Y_callV [] (pc' := 1600) dL_law_1597 rfl VL_162 (by decide) (zlN hN (by decide)) (congrArg Prod.fst (sh151 ln)) rfl rfl rfl (cs rfl) (cs rfl) rfl (CX6_thrown (hN2 hN) f4.2 q5) (Nat.zero_add _).symm (Nat.zero_add _).symm (fun f5 => ?_)
  refine X_iload (pc' := 1602) dL_law_1600 rfl rfl ?_
  refine X_icmp_eq dL_law_1602 (tgt := 1607) rfl (pc' := 1605) rfl ⟨f5.1, f5.2, (inR_4 f3.1).1, (inR_4 f3.1).2⟩ (fun c6 => ?_) (fun c6 => ?_)
  · have h := if_t c6 h
    refine X_iload (pc' := 1609) dL_law_1607 rfl rfl ?_
    refine X_if_ne dL_law_1609 (tgt := 1624) rfl (pc' := 1612) rfl (inR_4 f3.1) (fun c7 => ?_) (fun c7 => ?_)
    · have h := if_f c7 h
      refine X_goto dL_law_1624 (tgt := 2960) rfl ?_
      cases h
      exact X_room (by omega) (by omega) (X_sub (sub_s (sub_s (sub_s (sub_s (sub_s (sub_s (sub_n (sub_n (sub_n sub_0))))))))) (k1 _ _ rfl (by omega) (by omega) f4.2))
    have h := if_t c7 h
    refine X_aload_n (pc' := 1613) dL_law_1612 rfl rfl ?_
    refine X_iconst (pc' := 1614) dL_law_1613 rfl ?_
    refine Y_lald (pc' := 1615) dL_law_1614 rfl (zlN hN (by decide)) (sh159 ln) (by decide) ⟨by decide, by decide⟩ ?_
    refine X_iload (pc' := 1617) dL_law_1615 rfl rfl ?_
    refine X_lI_i2l (pc' := 1618) dL_law_1617 rfl f4.1 ?_
    refine X_lcmp (pc' := 1619) dL_law_1618 rfl ⟨(inL_R (f4.2 159 (0) (by decide))).1, (inL_R (f4.2 159 (0) (by decide))).2, (inL_R f4.1).1, (inL_R f4.1).2⟩ ?_
    refine X_if_eq dL_law_1619 (tgt := 1624) rfl (pc' := 1622) rfl (inR_cmp _ _) (fun c8 => ?_) (fun c8 => ?_)
    · have h := if_t c8 h
      refine X_goto dL_law_1624 (tgt := 2960) rfl ?_
      cases h
      exact X_room (by omega) (by omega) (X_sub (sub_s (sub_s (sub_s (sub_s (sub_s (sub_s (sub_n (sub_n (sub_n sub_0))))))))) (k1 _ _ rfl (by omega) (by omega) f4.2))
    have h := if_f c8 h
    refine X_iconst (pc' := 1623) dL_law_1622 rfl ?_
    cases h
    exact X_zret dL_law_1623 rfl (Or.inl rfl) (k0 _ _ rfl (by omega) (by omega) f4.2)
  have h := if_f c6 h
  refine X_iconst (pc' := 1606) dL_law_1605 rfl ?_
  cases h
  exact X_zret dL_law_1606 rfl (Or.inl rfl) (k0 _ _ rfl (by omega) (by omega) f4.2)
def fL_c24 (ln : Nat) (v5 : Int) (z : ZZ) : Option (Int × ZZ) := (if (0 : Int) ≤ ((v5 + 1)) ∧ ((v5 + 1)) < (ln : Int) then (if (0 : Int) ≤ ((v5 + 2)) ∧ ((v5 + 2)) < (ln : Int) then (Option.bind (fL_member ((z 1000000 ((v5 + 1)))) ((z 1000000 ((v5 + 2)))) z) fun q3 => match q3 with | (r3, z3) => (Option.bind (fX6_member ((z3 1000000 ((v5 + 1)))) ((z3 1000000 ((v5 + 2)))) z3) fun q4 => match q4 with | (r4, z4) => (Option.bind (fX6_thrown z4) fun r5 => (if (r5) = (r3) then (if (r3) = (0) then (if ((zcmp ((z4 159 (0))) (r4))) = (0) then some (1, z4) else some (0, z4)) else some (1, z4)) else some (0, z4))))) else none) else none)
set_option maxRecDepth 100000 in
theorem TL_c24 {ln N : Nat} {z : ZZ} {v5 : Int} {Nm c0 s0 : Nat} {c9 s9 : Nat} {Φ : xRes → xS → Prop} (hN : 161 ≤ N ∧ N < 999999) (hz : okz z) (hln : isLn ln) (rv5 : inR v5) {p : Int × ZZ} (h : fL_c24 ln v5 z = some p) (hR : N + 1 ≤ Nm ∧ c0 + 1 ≤ c9 ∧ s0 + 6 ≤ s9 ∧ Nm < 999999) (k1 : ∀ (N' : Nat) (z' : ZZ), p = (1, z') → 161 ≤ N' → N' ≤ Nm → okz z' → X mL_law 2960 [some (.ref (1000000)), some (.ref (0)), some (.ref (151)), some (.ref (159)), some (.ref (160)), some (.int (iN (v5))), none, none, none] [] (zmk ln N' z') c0 s0 Φ) (k0 : ∀ (N' : Nat) (z' : ZZ), p = (0, z') → 161 ≤ N' → N' ≤ Nm → okz z' → Φ (.inl (some (.int (iN 0)))) (zmk ln N' z')) : X mL_law 1627 [some (.ref (1000000)), some (.ref (0)), some (.ref (151)), some (.ref (159)), some (.ref (160)), some (.int (iN (v5))), none, none, none] [] (zmk ln N z) c9 s9 Φ := by
  unfold fL_c24 at h
  refine X_aload_n (pc' := 1628) dL_law_1627 rfl rfl ?_
  refine X_aload_n (pc' := 1629) dL_law_1628 rfl rfl ?_
  refine X_iload (pc' := 1631) dL_law_1629 rfl rfl ?_
  refine X_iconst (pc' := 1632) dL_law_1631 rfl ?_
  refine X_iadd (pc' := 1633) dL_law_1632 rfl ?_
  obtain ⟨g1, h⟩ := gs h
  refine Y_ialdS (pc' := 1634) dL_law_1633 rfl (shS ln) hln g1 ?_
  refine X_aload_n (pc' := 1635) dL_law_1634 rfl rfl ?_
  refine X_iload (pc' := 1637) dL_law_1635 rfl rfl ?_
  refine X_iconst (pc' := 1638) dL_law_1637 rfl ?_
  refine X_iadd (pc' := 1639) dL_law_1638 rfl ?_
  obtain ⟨g2, h⟩ := gs h
  refine Y_ialdS (pc' := 1640) dL_law_1639 rfl (shS ln) hln g2 ?_
  refine X_aload_n (pc' := 1641) dL_law_1640 rfl rfl ?_
  obtain ⟨⟨r3, z3⟩, q3, h⟩ := bs h
  refine Y_wrap [.ref (0), .int (iN ((z 1000000 ((v5 + 1))))), .int (iN ((z 1000000 ((v5 + 2))))), .ref (159)] (pc' := 1644) dL_law_1641 rfl SL_242 (by decide) rfl (cs rfl) (cs rfl) rfl (CL_member hN hz (hz 1000000 ((v5 + 1)) (by decide)) (hz 1000000 ((v5 + 2)) (by decide)) q3) hN.1 hR (fun N1 c1 s1 hN hR f3 => ?_)
  refine X_istore (pc' := 1646) dL_law_1644 rfl (cl rfl) (Or.inr rfl) (L' := [some (.ref (1000000)), some (.ref (0)), some (.ref (151)), some (.ref (159)), some (.ref (160)), some (.int (iN (v5))), some (.int (iN (r3))), none, none]) rfl ?_
  refine X_aload_n (pc' := 1647) dL_law_1646 rfl rfl ?_
  refine X_aload_n (pc' := 1648) dL_law_1647 rfl rfl ?_
  refine X_iload (pc' := 1650) dL_law_1648 rfl rfl ?_
  refine X_iconst (pc' := 1651) dL_law_1650 rfl ?_
  refine X_iadd (pc' := 1652) dL_law_1651 rfl ?_
  refine Y_ialdS (pc' := 1653) dL_law_1652 rfl (shS ln) hln g1 ?_
  refine X_aload_n (pc' := 1654) dL_law_1653 rfl rfl ?_
  refine X_iload (pc' := 1656) dL_law_1654 rfl rfl ?_
  refine X_iconst (pc' := 1657) dL_law_1656 rfl ?_
  refine X_iadd (pc' := 1658) dL_law_1657 rfl ?_
  refine Y_ialdS (pc' := 1659) dL_law_1658 rfl (shS ln) hln g2 ?_
  obtain ⟨⟨r4, z4⟩, q4, h⟩ := bs h
  refine Y_callV [.int (iN ((z3 1000000 ((v5 + 1))))), .int (iN ((z3 1000000 ((v5 + 2)))))] (pc' := 1662) dL_law_1659 rfl VL_244 (by decide) (zlN hN (by decide)) (congrArg Prod.fst (sh151 ln)) rfl rfl rfl (cs rfl) (cs rfl) rfl (CX6_member (hN2 hN) f3.2 (f3.2 1000000 ((v5 + 1)) (by decide)) (f3.2 1000000 ((v5 + 2)) (by decide)) q4) (Nat.zero_add _).symm (Nat.zero_add _).symm (fun f4 => ?_)
  refine X_istore (pc' := 1664) dL_law_1662 rfl (cl rfl) (Or.inr rfl) (L' := [some (.ref (1000000)), some (.ref (0)), some (.ref (151)), some (.ref (159)), some (.ref (160)), some (.int (iN (v5))), some (.int (iN (r3))), some (.int (iN (r4))), none]) rfl ?_
  refine X_aload_n (pc' := 1665) dL_law_1664 rfl rfl ?_
  obtain ⟨r5, q5, h⟩ := bs h
  refine Y_callV [] (pc' := 1668) dL_law_1665 rfl VL_162 (by decide) (zlN hN (by decide)) (congrArg Prod.fst (sh151 ln)) rfl rfl rfl (cs rfl) (cs rfl) rfl (CX6_thrown (hN2 hN) f4.2 q5) (Nat.zero_add _).symm (Nat.zero_add _).symm (fun f5 => ?_)
  refine X_iload (pc' := 1670) dL_law_1668 rfl rfl ?_
  refine X_icmp_eq dL_law_1670 (tgt := 1675) rfl (pc' := 1673) rfl ⟨f5.1, f5.2, (inR_4 f3.1).1, (inR_4 f3.1).2⟩ (fun c6 => ?_) (fun c6 => ?_)
  · have h := if_t c6 h
    refine X_iload (pc' := 1677) dL_law_1675 rfl rfl ?_
    refine X_if_ne dL_law_1677 (tgt := 1692) rfl (pc' := 1680) rfl (inR_4 f3.1) (fun c7 => ?_) (fun c7 => ?_)
    · have h := if_f c7 h
      refine X_goto dL_law_1692 (tgt := 2960) rfl ?_
      cases h
      exact X_room (by omega) (by omega) (X_sub (sub_s (sub_s (sub_s (sub_s (sub_s (sub_s (sub_n (sub_n (sub_n sub_0))))))))) (k1 _ _ rfl (by omega) (by omega) f4.2))
    have h := if_t c7 h
    refine X_aload_n (pc' := 1681) dL_law_1680 rfl rfl ?_
    refine X_iconst (pc' := 1682) dL_law_1681 rfl ?_
    refine Y_lald (pc' := 1683) dL_law_1682 rfl (zlN hN (by decide)) (sh159 ln) (by decide) ⟨by decide, by decide⟩ ?_
    refine X_iload (pc' := 1685) dL_law_1683 rfl rfl ?_
    refine X_lI_i2l (pc' := 1686) dL_law_1685 rfl f4.1 ?_
    refine X_lcmp (pc' := 1687) dL_law_1686 rfl ⟨(inL_R (f4.2 159 (0) (by decide))).1, (inL_R (f4.2 159 (0) (by decide))).2, (inL_R f4.1).1, (inL_R f4.1).2⟩ ?_
    refine X_if_eq dL_law_1687 (tgt := 1692) rfl (pc' := 1690) rfl (inR_cmp _ _) (fun c8 => ?_) (fun c8 => ?_)
    · have h := if_t c8 h
      refine X_goto dL_law_1692 (tgt := 2960) rfl ?_
      cases h
      exact X_room (by omega) (by omega) (X_sub (sub_s (sub_s (sub_s (sub_s (sub_s (sub_s (sub_n (sub_n (sub_n sub_0))))))))) (k1 _ _ rfl (by omega) (by omega) f4.2))
    have h := if_f c8 h
    refine X_iconst (pc' := 1691) dL_law_1690 rfl ?_
    cases h
    exact X_zret dL_law_1691 rfl (Or.inl rfl) (k0 _ _ rfl (by omega) (by omega) f4.2)
  have h := if_f c6 h
  refine X_iconst (pc' := 1674) dL_law_1673 rfl ?_
  cases h
  exact X_zret dL_law_1674 rfl (Or.inl rfl) (k0 _ _ rfl (by omega) (by omega) f4.2)
def fL_c25 (ln : Nat) (v5 : Int) (z : ZZ) : Option (Int × ZZ) := (if (0 : Int) ≤ ((v5 + 1)) ∧ ((v5 + 1)) < (ln : Int) then (if (0 : Int) ≤ ((v5 + 2)) ∧ ((v5 + 2)) < (ln : Int) then (Option.bind (fL_harness ((z 1000000 ((v5 + 1)))) ((z 1000000 ((v5 + 2)))) z) fun q3 => match q3 with | (r3, z3) => (Option.bind (fX6_harness ((z3 1000000 ((v5 + 1)))) ((z3 1000000 ((v5 + 2)))) z3) fun q4 => match q4 with | (r4, z4) => (Option.bind (fX6_thrown z4) fun r5 => (if (r5) = (r3) then (if (r3) = (0) then (if ((zcmp ((z4 159 (0))) (r4))) = (0) then some (1, z4) else some (0, z4)) else some (1, z4)) else some (0, z4))))) else none) else none)
set_option maxRecDepth 100000 in
theorem TL_c25 {ln N : Nat} {z : ZZ} {v5 : Int} {Nm c0 s0 : Nat} {c9 s9 : Nat} {Φ : xRes → xS → Prop} (hN : 161 ≤ N ∧ N < 999999) (hz : okz z) (hln : isLn ln) (rv5 : inR v5) {p : Int × ZZ} (h : fL_c25 ln v5 z = some p) (hR : N + 1 ≤ Nm ∧ c0 + 1 ≤ c9 ∧ s0 + 6 ≤ s9 ∧ Nm < 999999) (k1 : ∀ (N' : Nat) (z' : ZZ), p = (1, z') → 161 ≤ N' → N' ≤ Nm → okz z' → X mL_law 2960 [some (.ref (1000000)), some (.ref (0)), some (.ref (151)), some (.ref (159)), some (.ref (160)), some (.int (iN (v5))), none, none, none] [] (zmk ln N' z') c0 s0 Φ) (k0 : ∀ (N' : Nat) (z' : ZZ), p = (0, z') → 161 ≤ N' → N' ≤ Nm → okz z' → Φ (.inl (some (.int (iN 0)))) (zmk ln N' z')) : X mL_law 1695 [some (.ref (1000000)), some (.ref (0)), some (.ref (151)), some (.ref (159)), some (.ref (160)), some (.int (iN (v5))), none, none, none] [] (zmk ln N z) c9 s9 Φ := by
  unfold fL_c25 at h
  refine X_aload_n (pc' := 1696) dL_law_1695 rfl rfl ?_
  refine X_aload_n (pc' := 1697) dL_law_1696 rfl rfl ?_
  refine X_iload (pc' := 1699) dL_law_1697 rfl rfl ?_
  refine X_iconst (pc' := 1700) dL_law_1699 rfl ?_
  refine X_iadd (pc' := 1701) dL_law_1700 rfl ?_
  obtain ⟨g1, h⟩ := gs h
  refine Y_ialdS (pc' := 1702) dL_law_1701 rfl (shS ln) hln g1 ?_
  refine X_aload_n (pc' := 1703) dL_law_1702 rfl rfl ?_
  refine X_iload (pc' := 1705) dL_law_1703 rfl rfl ?_
  refine X_iconst (pc' := 1706) dL_law_1705 rfl ?_
  refine X_iadd (pc' := 1707) dL_law_1706 rfl ?_
  obtain ⟨g2, h⟩ := gs h
  refine Y_ialdS (pc' := 1708) dL_law_1707 rfl (shS ln) hln g2 ?_
  refine X_aload_n (pc' := 1709) dL_law_1708 rfl rfl ?_
  obtain ⟨⟨r3, z3⟩, q3, h⟩ := bs h
  refine Y_wrap [.ref (0), .int (iN ((z 1000000 ((v5 + 1))))), .int (iN ((z 1000000 ((v5 + 2))))), .ref (159)] (pc' := 1712) dL_law_1709 rfl SL_245 (by decide) rfl (cs rfl) (cs rfl) rfl (CL_harness hN hz (hz 1000000 ((v5 + 1)) (by decide)) (hz 1000000 ((v5 + 2)) (by decide)) q3) hN.1 hR (fun N1 c1 s1 hN hR f3 => ?_)
  refine X_istore (pc' := 1714) dL_law_1712 rfl (cl rfl) (Or.inr rfl) (L' := [some (.ref (1000000)), some (.ref (0)), some (.ref (151)), some (.ref (159)), some (.ref (160)), some (.int (iN (v5))), some (.int (iN (r3))), none, none]) rfl ?_
  refine X_aload_n (pc' := 1715) dL_law_1714 rfl rfl ?_
  refine X_aload_n (pc' := 1716) dL_law_1715 rfl rfl ?_
  refine X_iload (pc' := 1718) dL_law_1716 rfl rfl ?_
  refine X_iconst (pc' := 1719) dL_law_1718 rfl ?_
  refine X_iadd (pc' := 1720) dL_law_1719 rfl ?_
  refine Y_ialdS (pc' := 1721) dL_law_1720 rfl (shS ln) hln g1 ?_
  refine X_aload_n (pc' := 1722) dL_law_1721 rfl rfl ?_
  refine X_iload (pc' := 1724) dL_law_1722 rfl rfl ?_
  refine X_iconst (pc' := 1725) dL_law_1724 rfl ?_
  refine X_iadd (pc' := 1726) dL_law_1725 rfl ?_
  refine Y_ialdS (pc' := 1727) dL_law_1726 rfl (shS ln) hln g2 ?_
  obtain ⟨⟨r4, z4⟩, q4, h⟩ := bs h
  refine Y_callV [.int (iN ((z3 1000000 ((v5 + 1))))), .int (iN ((z3 1000000 ((v5 + 2)))))] (pc' := 1730) dL_law_1727 rfl VL_247 (by decide) (zlN hN (by decide)) (congrArg Prod.fst (sh151 ln)) rfl rfl rfl (cs rfl) (cs rfl) rfl (CX6_harness (hN2 hN) f3.2 (f3.2 1000000 ((v5 + 1)) (by decide)) (f3.2 1000000 ((v5 + 2)) (by decide)) q4) (Nat.zero_add _).symm (Nat.zero_add _).symm (fun f4 => ?_)
  refine X_istore (pc' := 1732) dL_law_1730 rfl (cl rfl) (Or.inr rfl) (L' := [some (.ref (1000000)), some (.ref (0)), some (.ref (151)), some (.ref (159)), some (.ref (160)), some (.int (iN (v5))), some (.int (iN (r3))), some (.int (iN (r4))), none]) rfl ?_
  refine X_aload_n (pc' := 1733) dL_law_1732 rfl rfl ?_
  obtain ⟨r5, q5, h⟩ := bs h
  refine Y_callV [] (pc' := 1736) dL_law_1733 rfl VL_162 (by decide) (zlN hN (by decide)) (congrArg Prod.fst (sh151 ln)) rfl rfl rfl (cs rfl) (cs rfl) rfl (CX6_thrown (hN2 hN) f4.2 q5) (Nat.zero_add _).symm (Nat.zero_add _).symm (fun f5 => ?_)
  refine X_iload (pc' := 1738) dL_law_1736 rfl rfl ?_
  refine X_icmp_eq dL_law_1738 (tgt := 1743) rfl (pc' := 1741) rfl ⟨f5.1, f5.2, (inR_4 f3.1).1, (inR_4 f3.1).2⟩ (fun c6 => ?_) (fun c6 => ?_)
  · have h := if_t c6 h
    refine X_iload (pc' := 1745) dL_law_1743 rfl rfl ?_
    refine X_if_ne dL_law_1745 (tgt := 1760) rfl (pc' := 1748) rfl (inR_4 f3.1) (fun c7 => ?_) (fun c7 => ?_)
    · have h := if_f c7 h
      refine X_goto dL_law_1760 (tgt := 2960) rfl ?_
      cases h
      exact X_room (by omega) (by omega) (X_sub (sub_s (sub_s (sub_s (sub_s (sub_s (sub_s (sub_n (sub_n (sub_n sub_0))))))))) (k1 _ _ rfl (by omega) (by omega) f4.2))
    have h := if_t c7 h
    refine X_aload_n (pc' := 1749) dL_law_1748 rfl rfl ?_
    refine X_iconst (pc' := 1750) dL_law_1749 rfl ?_
    refine Y_lald (pc' := 1751) dL_law_1750 rfl (zlN hN (by decide)) (sh159 ln) (by decide) ⟨by decide, by decide⟩ ?_
    refine X_iload (pc' := 1753) dL_law_1751 rfl rfl ?_
    refine X_lI_i2l (pc' := 1754) dL_law_1753 rfl f4.1 ?_
    refine X_lcmp (pc' := 1755) dL_law_1754 rfl ⟨(inL_R (f4.2 159 (0) (by decide))).1, (inL_R (f4.2 159 (0) (by decide))).2, (inL_R f4.1).1, (inL_R f4.1).2⟩ ?_
    refine X_if_eq dL_law_1755 (tgt := 1760) rfl (pc' := 1758) rfl (inR_cmp _ _) (fun c8 => ?_) (fun c8 => ?_)
    · have h := if_t c8 h
      refine X_goto dL_law_1760 (tgt := 2960) rfl ?_
      cases h
      exact X_room (by omega) (by omega) (X_sub (sub_s (sub_s (sub_s (sub_s (sub_s (sub_s (sub_n (sub_n (sub_n sub_0))))))))) (k1 _ _ rfl (by omega) (by omega) f4.2))
    have h := if_f c8 h
    refine X_iconst (pc' := 1759) dL_law_1758 rfl ?_
    cases h
    exact X_zret dL_law_1759 rfl (Or.inl rfl) (k0 _ _ rfl (by omega) (by omega) f4.2)
  have h := if_f c6 h
  refine X_iconst (pc' := 1742) dL_law_1741 rfl ?_
  cases h
  exact X_zret dL_law_1742 rfl (Or.inl rfl) (k0 _ _ rfl (by omega) (by omega) f4.2)
def fL_c26 (ln : Nat) (v5 : Int) (z : ZZ) : Option (Int × ZZ) := (if (0 : Int) ≤ ((v5 + 1)) ∧ ((v5 + 1)) < (ln : Int) then (if (0 : Int) ≤ ((v5 + 2)) ∧ ((v5 + 2)) < (ln : Int) then (Option.bind (fL_course ((z 1000000 ((v5 + 1)))) ((z 1000000 ((v5 + 2)))) z) fun q3 => match q3 with | (r3, z3) => (Option.bind (fX6_course ((z3 1000000 ((v5 + 1)))) ((z3 1000000 ((v5 + 2)))) z3) fun q4 => match q4 with | (r4, z4) => (Option.bind (fX6_thrown z4) fun r5 => (if (r5) = (r3) then (if (r3) = (0) then (if ((zcmp ((z4 159 (0))) (r4))) = (0) then some (1, z4) else some (0, z4)) else some (1, z4)) else some (0, z4))))) else none) else none)
set_option maxRecDepth 100000 in
theorem TL_c26 {ln N : Nat} {z : ZZ} {v5 : Int} {Nm c0 s0 : Nat} {c9 s9 : Nat} {Φ : xRes → xS → Prop} (hN : 161 ≤ N ∧ N < 999999) (hz : okz z) (hln : isLn ln) (rv5 : inR v5) {p : Int × ZZ} (h : fL_c26 ln v5 z = some p) (hR : N + 1 ≤ Nm ∧ c0 + 1 ≤ c9 ∧ s0 + 6 ≤ s9 ∧ Nm < 999999) (k1 : ∀ (N' : Nat) (z' : ZZ), p = (1, z') → 161 ≤ N' → N' ≤ Nm → okz z' → X mL_law 2960 [some (.ref (1000000)), some (.ref (0)), some (.ref (151)), some (.ref (159)), some (.ref (160)), some (.int (iN (v5))), none, none, none] [] (zmk ln N' z') c0 s0 Φ) (k0 : ∀ (N' : Nat) (z' : ZZ), p = (0, z') → 161 ≤ N' → N' ≤ Nm → okz z' → Φ (.inl (some (.int (iN 0)))) (zmk ln N' z')) : X mL_law 1763 [some (.ref (1000000)), some (.ref (0)), some (.ref (151)), some (.ref (159)), some (.ref (160)), some (.int (iN (v5))), none, none, none] [] (zmk ln N z) c9 s9 Φ := by
  unfold fL_c26 at h
  refine X_aload_n (pc' := 1764) dL_law_1763 rfl rfl ?_
  refine X_aload_n (pc' := 1765) dL_law_1764 rfl rfl ?_
  refine X_iload (pc' := 1767) dL_law_1765 rfl rfl ?_
  refine X_iconst (pc' := 1768) dL_law_1767 rfl ?_
  refine X_iadd (pc' := 1769) dL_law_1768 rfl ?_
  obtain ⟨g1, h⟩ := gs h
  refine Y_ialdS (pc' := 1770) dL_law_1769 rfl (shS ln) hln g1 ?_
  refine X_aload_n (pc' := 1771) dL_law_1770 rfl rfl ?_
  refine X_iload (pc' := 1773) dL_law_1771 rfl rfl ?_
  refine X_iconst (pc' := 1774) dL_law_1773 rfl ?_
  refine X_iadd (pc' := 1775) dL_law_1774 rfl ?_
  obtain ⟨g2, h⟩ := gs h
  refine Y_ialdS (pc' := 1776) dL_law_1775 rfl (shS ln) hln g2 ?_
  refine X_aload_n (pc' := 1777) dL_law_1776 rfl rfl ?_
  obtain ⟨⟨r3, z3⟩, q3, h⟩ := bs h
  refine Y_wrap [.ref (0), .int (iN ((z 1000000 ((v5 + 1))))), .int (iN ((z 1000000 ((v5 + 2))))), .ref (159)] (pc' := 1780) dL_law_1777 rfl SL_248 (by decide) rfl (cs rfl) (cs rfl) rfl (CL_course hN hz (hz 1000000 ((v5 + 1)) (by decide)) (hz 1000000 ((v5 + 2)) (by decide)) q3) hN.1 hR (fun N1 c1 s1 hN hR f3 => ?_)
  refine X_istore (pc' := 1782) dL_law_1780 rfl (cl rfl) (Or.inr rfl) (L' := [some (.ref (1000000)), some (.ref (0)), some (.ref (151)), some (.ref (159)), some (.ref (160)), some (.int (iN (v5))), some (.int (iN (r3))), none, none]) rfl ?_
  refine X_aload_n (pc' := 1783) dL_law_1782 rfl rfl ?_
  refine X_aload_n (pc' := 1784) dL_law_1783 rfl rfl ?_
  refine X_iload (pc' := 1786) dL_law_1784 rfl rfl ?_
  refine X_iconst (pc' := 1787) dL_law_1786 rfl ?_
  refine X_iadd (pc' := 1788) dL_law_1787 rfl ?_
  refine Y_ialdS (pc' := 1789) dL_law_1788 rfl (shS ln) hln g1 ?_
  refine X_aload_n (pc' := 1790) dL_law_1789 rfl rfl ?_
  refine X_iload (pc' := 1792) dL_law_1790 rfl rfl ?_
  refine X_iconst (pc' := 1793) dL_law_1792 rfl ?_
  refine X_iadd (pc' := 1794) dL_law_1793 rfl ?_
  refine Y_ialdS (pc' := 1795) dL_law_1794 rfl (shS ln) hln g2 ?_
  obtain ⟨⟨r4, z4⟩, q4, h⟩ := bs h
  refine Y_callV [.int (iN ((z3 1000000 ((v5 + 1))))), .int (iN ((z3 1000000 ((v5 + 2)))))] (pc' := 1798) dL_law_1795 rfl VL_250 (by decide) (zlN hN (by decide)) (congrArg Prod.fst (sh151 ln)) rfl rfl rfl (cs rfl) (cs rfl) rfl (CX6_course (hN2 hN) f3.2 (f3.2 1000000 ((v5 + 1)) (by decide)) (f3.2 1000000 ((v5 + 2)) (by decide)) q4) (Nat.zero_add _).symm (Nat.zero_add _).symm (fun f4 => ?_)
  refine X_istore (pc' := 1800) dL_law_1798 rfl (cl rfl) (Or.inr rfl) (L' := [some (.ref (1000000)), some (.ref (0)), some (.ref (151)), some (.ref (159)), some (.ref (160)), some (.int (iN (v5))), some (.int (iN (r3))), some (.int (iN (r4))), none]) rfl ?_
  refine X_aload_n (pc' := 1801) dL_law_1800 rfl rfl ?_
  obtain ⟨r5, q5, h⟩ := bs h
  refine Y_callV [] (pc' := 1804) dL_law_1801 rfl VL_162 (by decide) (zlN hN (by decide)) (congrArg Prod.fst (sh151 ln)) rfl rfl rfl (cs rfl) (cs rfl) rfl (CX6_thrown (hN2 hN) f4.2 q5) (Nat.zero_add _).symm (Nat.zero_add _).symm (fun f5 => ?_)
  refine X_iload (pc' := 1806) dL_law_1804 rfl rfl ?_
  refine X_icmp_eq dL_law_1806 (tgt := 1811) rfl (pc' := 1809) rfl ⟨f5.1, f5.2, (inR_4 f3.1).1, (inR_4 f3.1).2⟩ (fun c6 => ?_) (fun c6 => ?_)
  · have h := if_t c6 h
    refine X_iload (pc' := 1813) dL_law_1811 rfl rfl ?_
    refine X_if_ne dL_law_1813 (tgt := 1828) rfl (pc' := 1816) rfl (inR_4 f3.1) (fun c7 => ?_) (fun c7 => ?_)
    · have h := if_f c7 h
      refine X_goto dL_law_1828 (tgt := 2960) rfl ?_
      cases h
      exact X_room (by omega) (by omega) (X_sub (sub_s (sub_s (sub_s (sub_s (sub_s (sub_s (sub_n (sub_n (sub_n sub_0))))))))) (k1 _ _ rfl (by omega) (by omega) f4.2))
    have h := if_t c7 h
    refine X_aload_n (pc' := 1817) dL_law_1816 rfl rfl ?_
    refine X_iconst (pc' := 1818) dL_law_1817 rfl ?_
    refine Y_lald (pc' := 1819) dL_law_1818 rfl (zlN hN (by decide)) (sh159 ln) (by decide) ⟨by decide, by decide⟩ ?_
    refine X_iload (pc' := 1821) dL_law_1819 rfl rfl ?_
    refine X_lI_i2l (pc' := 1822) dL_law_1821 rfl f4.1 ?_
    refine X_lcmp (pc' := 1823) dL_law_1822 rfl ⟨(inL_R (f4.2 159 (0) (by decide))).1, (inL_R (f4.2 159 (0) (by decide))).2, (inL_R f4.1).1, (inL_R f4.1).2⟩ ?_
    refine X_if_eq dL_law_1823 (tgt := 1828) rfl (pc' := 1826) rfl (inR_cmp _ _) (fun c8 => ?_) (fun c8 => ?_)
    · have h := if_t c8 h
      refine X_goto dL_law_1828 (tgt := 2960) rfl ?_
      cases h
      exact X_room (by omega) (by omega) (X_sub (sub_s (sub_s (sub_s (sub_s (sub_s (sub_s (sub_n (sub_n (sub_n sub_0))))))))) (k1 _ _ rfl (by omega) (by omega) f4.2))
    have h := if_f c8 h
    refine X_iconst (pc' := 1827) dL_law_1826 rfl ?_
    cases h
    exact X_zret dL_law_1827 rfl (Or.inl rfl) (k0 _ _ rfl (by omega) (by omega) f4.2)
  have h := if_f c6 h
  refine X_iconst (pc' := 1810) dL_law_1809 rfl ?_
  cases h
  exact X_zret dL_law_1810 rfl (Or.inl rfl) (k0 _ _ rfl (by omega) (by omega) f4.2)
def fL_c27 (ln : Nat) (v5 : Int) (z : ZZ) : Option (Int × ZZ) := (if (0 : Int) ≤ ((v5 + 1)) ∧ ((v5 + 1)) < (ln : Int) then (if (0 : Int) ≤ ((v5 + 2)) ∧ ((v5 + 2)) < (ln : Int) then (if (0 : Int) ≤ ((v5 + 3)) ∧ ((v5 + 3)) < (ln : Int) then (Option.bind (fL_bill ((z 1000000 ((v5 + 1)))) ((z 1000000 ((v5 + 2)))) ((z 1000000 ((v5 + 3)))) z) fun q4 => match q4 with | (r4, z4) => (Option.bind (fX6_bill ((z4 1000000 ((v5 + 1)))) ((z4 1000000 ((v5 + 2)))) ((z4 1000000 ((v5 + 3)))) z4) fun q5 => match q5 with | (r5, z5) => (Option.bind (fX6_thrown z5) fun r6 => (if (r6) = (r4) then (if (r4) = (0) then (if ((zcmp ((z5 159 (0))) (r5))) = (0) then some (1, z5) else some (0, z5)) else some (1, z5)) else some (0, z5))))) else none) else none) else none)
set_option maxRecDepth 100000 in
theorem TL_c27 {ln N : Nat} {z : ZZ} {v5 : Int} {Nm c0 s0 : Nat} {c9 s9 : Nat} {Φ : xRes → xS → Prop} (hN : 161 ≤ N ∧ N < 999999) (hz : okz z) (hln : isLn ln) (rv5 : inR v5) {p : Int × ZZ} (h : fL_c27 ln v5 z = some p) (hR : N + 1 ≤ Nm ∧ c0 + 1 ≤ c9 ∧ s0 + 6 ≤ s9 ∧ Nm < 999999) (k1 : ∀ (N' : Nat) (z' : ZZ), p = (1, z') → 161 ≤ N' → N' ≤ Nm → okz z' → X mL_law 2960 [some (.ref (1000000)), some (.ref (0)), some (.ref (151)), some (.ref (159)), some (.ref (160)), some (.int (iN (v5))), none, none, none] [] (zmk ln N' z') c0 s0 Φ) (k0 : ∀ (N' : Nat) (z' : ZZ), p = (0, z') → 161 ≤ N' → N' ≤ Nm → okz z' → Φ (.inl (some (.int (iN 0)))) (zmk ln N' z')) : X mL_law 1831 [some (.ref (1000000)), some (.ref (0)), some (.ref (151)), some (.ref (159)), some (.ref (160)), some (.int (iN (v5))), none, none, none] [] (zmk ln N z) c9 s9 Φ := by
  unfold fL_c27 at h
  refine X_aload_n (pc' := 1832) dL_law_1831 rfl rfl ?_
  refine X_aload_n (pc' := 1833) dL_law_1832 rfl rfl ?_
  refine X_iload (pc' := 1835) dL_law_1833 rfl rfl ?_
  refine X_iconst (pc' := 1836) dL_law_1835 rfl ?_
  refine X_iadd (pc' := 1837) dL_law_1836 rfl ?_
  obtain ⟨g1, h⟩ := gs h
  refine Y_ialdS (pc' := 1838) dL_law_1837 rfl (shS ln) hln g1 ?_
  refine X_aload_n (pc' := 1839) dL_law_1838 rfl rfl ?_
  refine X_iload (pc' := 1841) dL_law_1839 rfl rfl ?_
  refine X_iconst (pc' := 1842) dL_law_1841 rfl ?_
  refine X_iadd (pc' := 1843) dL_law_1842 rfl ?_
  obtain ⟨g2, h⟩ := gs h
  refine Y_ialdS (pc' := 1844) dL_law_1843 rfl (shS ln) hln g2 ?_
  refine X_aload_n (pc' := 1845) dL_law_1844 rfl rfl ?_
  refine X_iload (pc' := 1847) dL_law_1845 rfl rfl ?_
  refine X_iconst (pc' := 1848) dL_law_1847 rfl ?_
  refine X_iadd (pc' := 1849) dL_law_1848 rfl ?_
  obtain ⟨g3, h⟩ := gs h
  refine Y_ialdS (pc' := 1850) dL_law_1849 rfl (shS ln) hln g3 ?_
  refine X_aload_n (pc' := 1851) dL_law_1850 rfl rfl ?_
  obtain ⟨⟨r4, z4⟩, q4, h⟩ := bs h
  refine Y_wrap [.ref (0), .int (iN ((z 1000000 ((v5 + 1))))), .int (iN ((z 1000000 ((v5 + 2))))), .int (iN ((z 1000000 ((v5 + 3))))), .ref (159)] (pc' := 1854) dL_law_1851 rfl SL_251 (by decide) rfl (cs rfl) (cs rfl) rfl (CL_bill hN hz (hz 1000000 ((v5 + 1)) (by decide)) (hz 1000000 ((v5 + 2)) (by decide)) (hz 1000000 ((v5 + 3)) (by decide)) q4) hN.1 hR (fun N1 c1 s1 hN hR f4 => ?_)
  refine X_istore (pc' := 1856) dL_law_1854 rfl (cl rfl) (Or.inr rfl) (L' := [some (.ref (1000000)), some (.ref (0)), some (.ref (151)), some (.ref (159)), some (.ref (160)), some (.int (iN (v5))), some (.int (iN (r4))), none, none]) rfl ?_
  refine X_aload_n (pc' := 1857) dL_law_1856 rfl rfl ?_
  refine X_aload_n (pc' := 1858) dL_law_1857 rfl rfl ?_
  refine X_iload (pc' := 1860) dL_law_1858 rfl rfl ?_
  refine X_iconst (pc' := 1861) dL_law_1860 rfl ?_
  refine X_iadd (pc' := 1862) dL_law_1861 rfl ?_
  refine Y_ialdS (pc' := 1863) dL_law_1862 rfl (shS ln) hln g1 ?_
  refine X_aload_n (pc' := 1864) dL_law_1863 rfl rfl ?_
  refine X_iload (pc' := 1866) dL_law_1864 rfl rfl ?_
  refine X_iconst (pc' := 1867) dL_law_1866 rfl ?_
  refine X_iadd (pc' := 1868) dL_law_1867 rfl ?_
  refine Y_ialdS (pc' := 1869) dL_law_1868 rfl (shS ln) hln g2 ?_
  refine X_aload_n (pc' := 1870) dL_law_1869 rfl rfl ?_
  refine X_iload (pc' := 1872) dL_law_1870 rfl rfl ?_
  refine X_iconst (pc' := 1873) dL_law_1872 rfl ?_
  refine X_iadd (pc' := 1874) dL_law_1873 rfl ?_
  refine Y_ialdS (pc' := 1875) dL_law_1874 rfl (shS ln) hln g3 ?_
  obtain ⟨⟨r5, z5⟩, q5, h⟩ := bs h
  refine Y_callV [.int (iN ((z4 1000000 ((v5 + 1))))), .int (iN ((z4 1000000 ((v5 + 2))))), .int (iN ((z4 1000000 ((v5 + 3)))))] (pc' := 1878) dL_law_1875 rfl VL_253 (by decide) (zlN hN (by decide)) (congrArg Prod.fst (sh151 ln)) rfl rfl rfl (cs rfl) (cs rfl) rfl (CX6_bill (hN2 hN) f4.2 (f4.2 1000000 ((v5 + 1)) (by decide)) (f4.2 1000000 ((v5 + 2)) (by decide)) (f4.2 1000000 ((v5 + 3)) (by decide)) q5) (Nat.zero_add _).symm (Nat.zero_add _).symm (fun f5 => ?_)
  refine X_istore (pc' := 1880) dL_law_1878 rfl (cl rfl) (Or.inr rfl) (L' := [some (.ref (1000000)), some (.ref (0)), some (.ref (151)), some (.ref (159)), some (.ref (160)), some (.int (iN (v5))), some (.int (iN (r4))), some (.int (iN (r5))), none]) rfl ?_
  refine X_aload_n (pc' := 1881) dL_law_1880 rfl rfl ?_
  obtain ⟨r6, q6, h⟩ := bs h
  refine Y_callV [] (pc' := 1884) dL_law_1881 rfl VL_162 (by decide) (zlN hN (by decide)) (congrArg Prod.fst (sh151 ln)) rfl rfl rfl (cs rfl) (cs rfl) rfl (CX6_thrown (hN2 hN) f5.2 q6) (Nat.zero_add _).symm (Nat.zero_add _).symm (fun f6 => ?_)
  refine X_iload (pc' := 1886) dL_law_1884 rfl rfl ?_
  refine X_icmp_eq dL_law_1886 (tgt := 1891) rfl (pc' := 1889) rfl ⟨f6.1, f6.2, (inR_4 f4.1).1, (inR_4 f4.1).2⟩ (fun c7 => ?_) (fun c7 => ?_)
  · have h := if_t c7 h
    refine X_iload (pc' := 1893) dL_law_1891 rfl rfl ?_
    refine X_if_ne dL_law_1893 (tgt := 1908) rfl (pc' := 1896) rfl (inR_4 f4.1) (fun c8 => ?_) (fun c8 => ?_)
    · have h := if_f c8 h
      refine X_goto dL_law_1908 (tgt := 2960) rfl ?_
      cases h
      exact X_room (by omega) (by omega) (X_sub (sub_s (sub_s (sub_s (sub_s (sub_s (sub_s (sub_n (sub_n (sub_n sub_0))))))))) (k1 _ _ rfl (by omega) (by omega) f5.2))
    have h := if_t c8 h
    refine X_aload_n (pc' := 1897) dL_law_1896 rfl rfl ?_
    refine X_iconst (pc' := 1898) dL_law_1897 rfl ?_
    refine Y_lald (pc' := 1899) dL_law_1898 rfl (zlN hN (by decide)) (sh159 ln) (by decide) ⟨by decide, by decide⟩ ?_
    refine X_iload (pc' := 1901) dL_law_1899 rfl rfl ?_
    refine X_lI_i2l (pc' := 1902) dL_law_1901 rfl f5.1 ?_
    refine X_lcmp (pc' := 1903) dL_law_1902 rfl ⟨(inL_R (f5.2 159 (0) (by decide))).1, (inL_R (f5.2 159 (0) (by decide))).2, (inL_R f5.1).1, (inL_R f5.1).2⟩ ?_
    refine X_if_eq dL_law_1903 (tgt := 1908) rfl (pc' := 1906) rfl (inR_cmp _ _) (fun c9 => ?_) (fun c9 => ?_)
    · have h := if_t c9 h
      refine X_goto dL_law_1908 (tgt := 2960) rfl ?_
      cases h
      exact X_room (by omega) (by omega) (X_sub (sub_s (sub_s (sub_s (sub_s (sub_s (sub_s (sub_n (sub_n (sub_n sub_0))))))))) (k1 _ _ rfl (by omega) (by omega) f5.2))
    have h := if_f c9 h
    refine X_iconst (pc' := 1907) dL_law_1906 rfl ?_
    cases h
    exact X_zret dL_law_1907 rfl (Or.inl rfl) (k0 _ _ rfl (by omega) (by omega) f5.2)
  have h := if_f c7 h
  refine X_iconst (pc' := 1890) dL_law_1889 rfl ?_
  cases h
  exact X_zret dL_law_1890 rfl (Or.inl rfl) (k0 _ _ rfl (by omega) (by omega) f5.2)
def fL_c28 (ln : Nat) (v5 : Int) (z : ZZ) : Option (Int × ZZ) := (if (0 : Int) ≤ ((v5 + 1)) ∧ ((v5 + 1)) < (ln : Int) then (Option.bind (fL_grade ((z 1000000 ((v5 + 1)))) z) fun q2 => match q2 with | (r2, z2) => (Option.bind (fX6_grade ((z2 1000000 ((v5 + 1)))) z2) fun q3 => match q3 with | (r3, z3) => (Option.bind (fX6_thrown z3) fun r4 => (if (r4) = (r2) then (if (r2) = (0) then (if ((zcmp ((z3 159 (0))) (r3))) = (0) then some (1, z3) else some (0, z3)) else some (1, z3)) else some (0, z3))))) else none)
set_option maxRecDepth 100000 in
theorem TL_c28 {ln N : Nat} {z : ZZ} {v5 : Int} {Nm c0 s0 : Nat} {c9 s9 : Nat} {Φ : xRes → xS → Prop} (hN : 161 ≤ N ∧ N < 999999) (hz : okz z) (hln : isLn ln) (rv5 : inR v5) {p : Int × ZZ} (h : fL_c28 ln v5 z = some p) (hR : N + 1 ≤ Nm ∧ c0 + 1 ≤ c9 ∧ s0 + 6 ≤ s9 ∧ Nm < 999999) (k1 : ∀ (N' : Nat) (z' : ZZ), p = (1, z') → 161 ≤ N' → N' ≤ Nm → okz z' → X mL_law 2960 [some (.ref (1000000)), some (.ref (0)), some (.ref (151)), some (.ref (159)), some (.ref (160)), some (.int (iN (v5))), none, none, none] [] (zmk ln N' z') c0 s0 Φ) (k0 : ∀ (N' : Nat) (z' : ZZ), p = (0, z') → 161 ≤ N' → N' ≤ Nm → okz z' → Φ (.inl (some (.int (iN 0)))) (zmk ln N' z')) : X mL_law 1911 [some (.ref (1000000)), some (.ref (0)), some (.ref (151)), some (.ref (159)), some (.ref (160)), some (.int (iN (v5))), none, none, none] [] (zmk ln N z) c9 s9 Φ := by
  unfold fL_c28 at h
  refine X_aload_n (pc' := 1912) dL_law_1911 rfl rfl ?_
  refine X_aload_n (pc' := 1913) dL_law_1912 rfl rfl ?_
  refine X_iload (pc' := 1915) dL_law_1913 rfl rfl ?_
  refine X_iconst (pc' := 1916) dL_law_1915 rfl ?_
  refine X_iadd (pc' := 1917) dL_law_1916 rfl ?_
  obtain ⟨g1, h⟩ := gs h
  refine Y_ialdS (pc' := 1918) dL_law_1917 rfl (shS ln) hln g1 ?_
  refine X_aload_n (pc' := 1919) dL_law_1918 rfl rfl ?_
  obtain ⟨⟨r2, z2⟩, q2, h⟩ := bs h
  refine Y_wrap [.ref (0), .int (iN ((z 1000000 ((v5 + 1))))), .ref (159)] (pc' := 1922) dL_law_1919 rfl SL_254 (by decide) rfl (cs rfl) (cs rfl) rfl (CL_grade hN hz (hz 1000000 ((v5 + 1)) (by decide)) q2) hN.1 hR (fun N1 c1 s1 hN hR f2 => ?_)
  refine X_istore (pc' := 1924) dL_law_1922 rfl (cl rfl) (Or.inr rfl) (L' := [some (.ref (1000000)), some (.ref (0)), some (.ref (151)), some (.ref (159)), some (.ref (160)), some (.int (iN (v5))), some (.int (iN (r2))), none, none]) rfl ?_
  refine X_aload_n (pc' := 1925) dL_law_1924 rfl rfl ?_
  refine X_aload_n (pc' := 1926) dL_law_1925 rfl rfl ?_
  refine X_iload (pc' := 1928) dL_law_1926 rfl rfl ?_
  refine X_iconst (pc' := 1929) dL_law_1928 rfl ?_
  refine X_iadd (pc' := 1930) dL_law_1929 rfl ?_
  refine Y_ialdS (pc' := 1931) dL_law_1930 rfl (shS ln) hln g1 ?_
  obtain ⟨⟨r3, z3⟩, q3, h⟩ := bs h
  refine Y_callV [.int (iN ((z2 1000000 ((v5 + 1)))))] (pc' := 1934) dL_law_1931 rfl VL_256 (by decide) (zlN hN (by decide)) (congrArg Prod.fst (sh151 ln)) rfl rfl rfl (cs rfl) (cs rfl) rfl (CX6_grade (hN2 hN) f2.2 (f2.2 1000000 ((v5 + 1)) (by decide)) q3) (Nat.zero_add _).symm (Nat.zero_add _).symm (fun f3 => ?_)
  refine X_istore (pc' := 1936) dL_law_1934 rfl (cl rfl) (Or.inr rfl) (L' := [some (.ref (1000000)), some (.ref (0)), some (.ref (151)), some (.ref (159)), some (.ref (160)), some (.int (iN (v5))), some (.int (iN (r2))), some (.int (iN (r3))), none]) rfl ?_
  refine X_aload_n (pc' := 1937) dL_law_1936 rfl rfl ?_
  obtain ⟨r4, q4, h⟩ := bs h
  refine Y_callV [] (pc' := 1940) dL_law_1937 rfl VL_162 (by decide) (zlN hN (by decide)) (congrArg Prod.fst (sh151 ln)) rfl rfl rfl (cs rfl) (cs rfl) rfl (CX6_thrown (hN2 hN) f3.2 q4) (Nat.zero_add _).symm (Nat.zero_add _).symm (fun f4 => ?_)
  refine X_iload (pc' := 1942) dL_law_1940 rfl rfl ?_
  refine X_icmp_eq dL_law_1942 (tgt := 1947) rfl (pc' := 1945) rfl ⟨f4.1, f4.2, (inR_4 f2.1).1, (inR_4 f2.1).2⟩ (fun c5 => ?_) (fun c5 => ?_)
  · have h := if_t c5 h
    refine X_iload (pc' := 1949) dL_law_1947 rfl rfl ?_
    refine X_if_ne dL_law_1949 (tgt := 1964) rfl (pc' := 1952) rfl (inR_4 f2.1) (fun c6 => ?_) (fun c6 => ?_)
    · have h := if_f c6 h
      refine X_goto dL_law_1964 (tgt := 2960) rfl ?_
      cases h
      exact X_room (by omega) (by omega) (X_sub (sub_s (sub_s (sub_s (sub_s (sub_s (sub_s (sub_n (sub_n (sub_n sub_0))))))))) (k1 _ _ rfl (by omega) (by omega) f3.2))
    have h := if_t c6 h
    refine X_aload_n (pc' := 1953) dL_law_1952 rfl rfl ?_
    refine X_iconst (pc' := 1954) dL_law_1953 rfl ?_
    refine Y_lald (pc' := 1955) dL_law_1954 rfl (zlN hN (by decide)) (sh159 ln) (by decide) ⟨by decide, by decide⟩ ?_
    refine X_iload (pc' := 1957) dL_law_1955 rfl rfl ?_
    refine X_lI_i2l (pc' := 1958) dL_law_1957 rfl f3.1 ?_
    refine X_lcmp (pc' := 1959) dL_law_1958 rfl ⟨(inL_R (f3.2 159 (0) (by decide))).1, (inL_R (f3.2 159 (0) (by decide))).2, (inL_R f3.1).1, (inL_R f3.1).2⟩ ?_
    refine X_if_eq dL_law_1959 (tgt := 1964) rfl (pc' := 1962) rfl (inR_cmp _ _) (fun c7 => ?_) (fun c7 => ?_)
    · have h := if_t c7 h
      refine X_goto dL_law_1964 (tgt := 2960) rfl ?_
      cases h
      exact X_room (by omega) (by omega) (X_sub (sub_s (sub_s (sub_s (sub_s (sub_s (sub_s (sub_n (sub_n (sub_n sub_0))))))))) (k1 _ _ rfl (by omega) (by omega) f3.2))
    have h := if_f c7 h
    refine X_iconst (pc' := 1963) dL_law_1962 rfl ?_
    cases h
    exact X_zret dL_law_1963 rfl (Or.inl rfl) (k0 _ _ rfl (by omega) (by omega) f3.2)
  have h := if_f c5 h
  refine X_iconst (pc' := 1946) dL_law_1945 rfl ?_
  cases h
  exact X_zret dL_law_1946 rfl (Or.inl rfl) (k0 _ _ rfl (by omega) (by omega) f3.2)
def fL_law_b2015 (ln : Nat) (v5 : Int) (v6 : Int) (s1 : Int) (s2 : Int) (z : ZZ) : Option (Int × ZZ) := (Option.bind (fX6_meanGrade (s1) (s2) z) fun q1 => match q1 with | (r1, z1) => (Option.bind (fX6_thrown z1) fun r2 => (if (r2) = (v6) then (if (v6) = (0) then (if ((zcmp ((z1 159 (0))) (r1))) = (0) then some (1, z1) else some (0, z1)) else some (1, z1)) else some (0, z1))))
set_option maxRecDepth 100000 in
theorem BL_law_2015 {ln N : Nat} {z : ZZ} {v5 : Int} {v6 : Int} {s1 : Int} {s2 : Int} {Nm c0 s0 : Nat} {c9 s9 : Nat} {Φ : xRes → xS → Prop} (hN : 161 ≤ N ∧ N < 999999) (hz : okz z) (hln : isLn ln) (rv5 : inR v5) (rv6 : inR v6) (rs1 : inR s1) (rs2 : inR s2) {p : Int × ZZ} (h : fL_law_b2015 ln v5 v6 s1 s2 z = some p) (hR : N + 0 ≤ Nm ∧ c0 + 0 ≤ c9 ∧ s0 + 0 ≤ s9 ∧ Nm < 999999) (k1 : ∀ (N' : Nat) (z' : ZZ), p = (1, z') → 161 ≤ N' → N' ≤ Nm → okz z' → X mL_law 2960 [some (.ref (1000000)), some (.ref (0)), some (.ref (151)), some (.ref (159)), some (.ref (160)), some (.int (iN (v5))), none, none, none] [] (zmk ln N' z') c0 s0 Φ) (k0 : ∀ (N' : Nat) (z' : ZZ), p = (0, z') → 161 ≤ N' → N' ≤ Nm → okz z' → Φ (.inl (some (.int (iN 0)))) (zmk ln N' z')) : X mL_law 2015 [some (.ref (1000000)), some (.ref (0)), some (.ref (151)), some (.ref (159)), some (.ref (160)), some (.int (iN (v5))), some (.int (iN (v6))), none, none] [.int (iN (s2)), .int (iN (s1)), .ref (151)] (zmk ln N z) c9 s9 Φ := by
  unfold fL_law_b2015 at h
  obtain ⟨⟨r1, z1⟩, q1, h⟩ := bs h
  refine Y_callV [.int (iN (s1)), .int (iN (s2))] (pc' := 2018) dL_law_2015 rfl VL_259 (by decide) (zlN hN (by decide)) (congrArg Prod.fst (sh151 ln)) rfl rfl rfl (cs rfl) (cs rfl) rfl (CX6_meanGrade (hN2 hN) hz rs1 rs2 q1) (Nat.zero_add _).symm (Nat.zero_add _).symm (fun f1 => ?_)
  refine X_istore (pc' := 2020) dL_law_2018 rfl (cl rfl) (Or.inr rfl) (L' := [some (.ref (1000000)), some (.ref (0)), some (.ref (151)), some (.ref (159)), some (.ref (160)), some (.int (iN (v5))), some (.int (iN (v6))), some (.int (iN (r1))), none]) rfl ?_
  refine X_aload_n (pc' := 2021) dL_law_2020 rfl rfl ?_
  obtain ⟨r2, q2, h⟩ := bs h
  refine Y_callV [] (pc' := 2024) dL_law_2021 rfl VL_162 (by decide) (zlN hN (by decide)) (congrArg Prod.fst (sh151 ln)) rfl rfl rfl (cs rfl) (cs rfl) rfl (CX6_thrown (hN2 hN) f1.2 q2) (Nat.zero_add _).symm (Nat.zero_add _).symm (fun f2 => ?_)
  refine X_iload (pc' := 2026) dL_law_2024 rfl rfl ?_
  refine X_icmp_eq dL_law_2026 (tgt := 2031) rfl (pc' := 2029) rfl ⟨f2.1, f2.2, rv6.1, rv6.2⟩ (fun c3 => ?_) (fun c3 => ?_)
  · have h := if_t c3 h
    refine X_iload (pc' := 2033) dL_law_2031 rfl rfl ?_
    refine X_if_ne dL_law_2033 (tgt := 2048) rfl (pc' := 2036) rfl rv6 (fun c4 => ?_) (fun c4 => ?_)
    · have h := if_f c4 h
      refine X_goto dL_law_2048 (tgt := 2960) rfl ?_
      cases h
      exact X_room (by omega) (by omega) (X_sub (sub_s (sub_s (sub_s (sub_s (sub_s (sub_s (sub_n (sub_n (sub_n sub_0))))))))) (k1 _ _ rfl (by omega) (by omega) f1.2))
    have h := if_t c4 h
    refine X_aload_n (pc' := 2037) dL_law_2036 rfl rfl ?_
    refine X_iconst (pc' := 2038) dL_law_2037 rfl ?_
    refine Y_lald (pc' := 2039) dL_law_2038 rfl (zlN hN (by decide)) (sh159 ln) (by decide) ⟨by decide, by decide⟩ ?_
    refine X_iload (pc' := 2041) dL_law_2039 rfl rfl ?_
    refine X_lI_i2l (pc' := 2042) dL_law_2041 rfl f1.1 ?_
    refine X_lcmp (pc' := 2043) dL_law_2042 rfl ⟨(inL_R (f1.2 159 (0) (by decide))).1, (inL_R (f1.2 159 (0) (by decide))).2, (inL_R f1.1).1, (inL_R f1.1).2⟩ ?_
    refine X_if_eq dL_law_2043 (tgt := 2048) rfl (pc' := 2046) rfl (inR_cmp _ _) (fun c5 => ?_) (fun c5 => ?_)
    · have h := if_t c5 h
      refine X_goto dL_law_2048 (tgt := 2960) rfl ?_
      cases h
      exact X_room (by omega) (by omega) (X_sub (sub_s (sub_s (sub_s (sub_s (sub_s (sub_s (sub_n (sub_n (sub_n sub_0))))))))) (k1 _ _ rfl (by omega) (by omega) f1.2))
    have h := if_f c5 h
    refine X_iconst (pc' := 2047) dL_law_2046 rfl ?_
    cases h
    exact X_zret dL_law_2047 rfl (Or.inl rfl) (k0 _ _ rfl (by omega) (by omega) f1.2)
  have h := if_f c3 h
  refine X_iconst (pc' := 2030) dL_law_2029 rfl ?_
  cases h
  exact X_zret dL_law_2030 rfl (Or.inl rfl) (k0 _ _ rfl (by omega) (by omega) f1.2)
def fL_law_b1988 (ln : Nat) (v5 : Int) (s1 : Int) (s2 : Int) (z : ZZ) : Option (Int × ZZ) := (Option.bind (fL_meanGrade (s1) (s2) z) fun q1 => match q1 with | (r1, z1) => (if (0 : Int) ≤ ((v5 + 1)) ∧ ((v5 + 1)) < (ln : Int) then (if (0 : Int) ≤ ((v5 + 2)) ∧ ((v5 + 2)) < (ln : Int) then (if ((z1 1000000 ((v5 + 2)))) = (0) then fL_law_b2015 ln (v5) (r1) ((z1 1000000 ((v5 + 1)))) (0) z1 else fL_law_b2015 ln (v5) (r1) ((z1 1000000 ((v5 + 1)))) (1) z1) else none) else none))
set_option maxRecDepth 100000 in
theorem BL_law_1988 {ln N : Nat} {z : ZZ} {v5 : Int} {s1 : Int} {s2 : Int} {Nm c0 s0 : Nat} {c9 s9 : Nat} {Φ : xRes → xS → Prop} (hN : 161 ≤ N ∧ N < 999999) (hz : okz z) (hln : isLn ln) (rv5 : inR v5) (rs1 : inR s1) (rs2 : inR s2) {p : Int × ZZ} (h : fL_law_b1988 ln v5 s1 s2 z = some p) (hR : N + 1 ≤ Nm ∧ c0 + 1 ≤ c9 ∧ s0 + 6 ≤ s9 ∧ Nm < 999999) (k1 : ∀ (N' : Nat) (z' : ZZ), p = (1, z') → 161 ≤ N' → N' ≤ Nm → okz z' → X mL_law 2960 [some (.ref (1000000)), some (.ref (0)), some (.ref (151)), some (.ref (159)), some (.ref (160)), some (.int (iN (v5))), none, none, none] [] (zmk ln N' z') c0 s0 Φ) (k0 : ∀ (N' : Nat) (z' : ZZ), p = (0, z') → 161 ≤ N' → N' ≤ Nm → okz z' → Φ (.inl (some (.int (iN 0)))) (zmk ln N' z')) : X mL_law 1988 [some (.ref (1000000)), some (.ref (0)), some (.ref (151)), some (.ref (159)), some (.ref (160)), some (.int (iN (v5))), none, none, none] [.int (iN (s2)), .int (iN (s1)), .ref (0)] (zmk ln N z) c9 s9 Φ := by
  unfold fL_law_b1988 at h
  refine X_aload_n (pc' := 1989) dL_law_1988 rfl rfl ?_
  obtain ⟨⟨r1, z1⟩, q1, h⟩ := bs h
  refine Y_wrap [.ref (0), .int (iN (s1)), .int (iN (s2)), .ref (159)] (pc' := 1992) dL_law_1989 rfl SL_257 (by decide) rfl (cs rfl) (cs rfl) rfl (CL_meanGrade hN hz rs1 rs2 q1) hN.1 hR (fun N1 c1 s1 hN hR f1 => ?_)
  refine X_istore (pc' := 1994) dL_law_1992 rfl (cl rfl) (Or.inr rfl) (L' := [some (.ref (1000000)), some (.ref (0)), some (.ref (151)), some (.ref (159)), some (.ref (160)), some (.int (iN (v5))), some (.int (iN (r1))), none, none]) rfl ?_
  refine X_aload_n (pc' := 1995) dL_law_1994 rfl rfl ?_
  refine X_aload_n (pc' := 1996) dL_law_1995 rfl rfl ?_
  refine X_iload (pc' := 1998) dL_law_1996 rfl rfl ?_
  refine X_iconst (pc' := 1999) dL_law_1998 rfl ?_
  refine X_iadd (pc' := 2000) dL_law_1999 rfl ?_
  obtain ⟨g2, h⟩ := gs h
  refine Y_ialdS (pc' := 2001) dL_law_2000 rfl (shS ln) hln g2 ?_
  refine X_aload_n (pc' := 2002) dL_law_2001 rfl rfl ?_
  refine X_iload (pc' := 2004) dL_law_2002 rfl rfl ?_
  refine X_iconst (pc' := 2005) dL_law_2004 rfl ?_
  refine X_iadd (pc' := 2006) dL_law_2005 rfl ?_
  obtain ⟨g3, h⟩ := gs h
  refine Y_ialdS (pc' := 2007) dL_law_2006 rfl (shS ln) hln g3 ?_
  refine X_if_eq dL_law_2007 (tgt := 2014) rfl (pc' := 2010) rfl (f1.2 1000000 ((v5 + 2)) (by decide)) (fun c4 => ?_) (fun c4 => ?_)
  · have h := if_t c4 h
    refine X_iconst (pc' := 2015) dL_law_2014 rfl ?_
    exact X_sub (sub_s (sub_s (sub_s (sub_s (sub_s (sub_s (sub_s (sub_n (sub_n sub_0))))))))) (BL_law_2015 hN f1.2 hln rv5 (inR_4 f1.1) (f1.2 1000000 ((v5 + 1)) (by decide)) (inR_c (n := 0) rfl) h (by omega) k1 k0)
  have h := if_f c4 h
  refine X_iconst (pc' := 2011) dL_law_2010 rfl ?_
  refine X_goto dL_law_2011 (tgt := 2015) rfl ?_
  exact X_sub (sub_s (sub_s (sub_s (sub_s (sub_s (sub_s (sub_s (sub_n (sub_n sub_0))))))))) (BL_law_2015 hN f1.2 hln rv5 (inR_4 f1.1) (f1.2 1000000 ((v5 + 1)) (by decide)) (inR_c (n := 1) rfl) h (by omega) k1 k0)
def fL_c29 (ln : Nat) (v5 : Int) (z : ZZ) : Option (Int × ZZ) := (if (0 : Int) ≤ ((v5 + 1)) ∧ ((v5 + 1)) < (ln : Int) then (if (0 : Int) ≤ ((v5 + 2)) ∧ ((v5 + 2)) < (ln : Int) then (if ((z 1000000 ((v5 + 2)))) = (0) then fL_law_b1988 ln (v5) ((z 1000000 ((v5 + 1)))) (0) z else fL_law_b1988 ln (v5) ((z 1000000 ((v5 + 1)))) (1) z) else none) else none)
set_option maxRecDepth 100000 in
theorem TL_c29 {ln N : Nat} {z : ZZ} {v5 : Int} {Nm c0 s0 : Nat} {c9 s9 : Nat} {Φ : xRes → xS → Prop} (hN : 161 ≤ N ∧ N < 999999) (hz : okz z) (hln : isLn ln) (rv5 : inR v5) {p : Int × ZZ} (h : fL_c29 ln v5 z = some p) (hR : N + 1 ≤ Nm ∧ c0 + 1 ≤ c9 ∧ s0 + 6 ≤ s9 ∧ Nm < 999999) (k1 : ∀ (N' : Nat) (z' : ZZ), p = (1, z') → 161 ≤ N' → N' ≤ Nm → okz z' → X mL_law 2960 [some (.ref (1000000)), some (.ref (0)), some (.ref (151)), some (.ref (159)), some (.ref (160)), some (.int (iN (v5))), none, none, none] [] (zmk ln N' z') c0 s0 Φ) (k0 : ∀ (N' : Nat) (z' : ZZ), p = (0, z') → 161 ≤ N' → N' ≤ Nm → okz z' → Φ (.inl (some (.int (iN 0)))) (zmk ln N' z')) : X mL_law 1967 [some (.ref (1000000)), some (.ref (0)), some (.ref (151)), some (.ref (159)), some (.ref (160)), some (.int (iN (v5))), none, none, none] [] (zmk ln N z) c9 s9 Φ := by
  unfold fL_c29 at h
  refine X_aload_n (pc' := 1968) dL_law_1967 rfl rfl ?_
  refine X_aload_n (pc' := 1969) dL_law_1968 rfl rfl ?_
  refine X_iload (pc' := 1971) dL_law_1969 rfl rfl ?_
  refine X_iconst (pc' := 1972) dL_law_1971 rfl ?_
  refine X_iadd (pc' := 1973) dL_law_1972 rfl ?_
  obtain ⟨g1, h⟩ := gs h
  refine Y_ialdS (pc' := 1974) dL_law_1973 rfl (shS ln) hln g1 ?_
  refine X_aload_n (pc' := 1975) dL_law_1974 rfl rfl ?_
  refine X_iload (pc' := 1977) dL_law_1975 rfl rfl ?_
  refine X_iconst (pc' := 1978) dL_law_1977 rfl ?_
  refine X_iadd (pc' := 1979) dL_law_1978 rfl ?_
  obtain ⟨g2, h⟩ := gs h
  refine Y_ialdS (pc' := 1980) dL_law_1979 rfl (shS ln) hln g2 ?_
  refine X_if_eq dL_law_1980 (tgt := 1987) rfl (pc' := 1983) rfl (hz 1000000 ((v5 + 2)) (by decide)) (fun c3 => ?_) (fun c3 => ?_)
  · have h := if_t c3 h
    refine X_iconst (pc' := 1988) dL_law_1987 rfl ?_
    exact X_sub (sub_s (sub_s (sub_s (sub_s (sub_s (sub_s (sub_n (sub_n (sub_n sub_0))))))))) (BL_law_1988 hN hz hln rv5 (hz 1000000 ((v5 + 1)) (by decide)) (inR_c (n := 0) rfl) h (by omega) k1 k0)
  have h := if_f c3 h
  refine X_iconst (pc' := 1984) dL_law_1983 rfl ?_
  refine X_goto dL_law_1984 (tgt := 1988) rfl ?_
  exact X_sub (sub_s (sub_s (sub_s (sub_s (sub_s (sub_s (sub_n (sub_n (sub_n sub_0))))))))) (BL_law_1988 hN hz hln rv5 (hz 1000000 ((v5 + 1)) (by decide)) (inR_c (n := 1) rfl) h (by omega) k1 k0)
def fL_c30 (ln : Nat) (v5 : Int) (z : ZZ) : Option (Int × ZZ) := (if (0 : Int) ≤ ((v5 + 1)) ∧ ((v5 + 1)) < (ln : Int) then (if (0 : Int) ≤ ((v5 + 2)) ∧ ((v5 + 2)) < (ln : Int) then (Option.bind (fL_voteOf ((z 1000000 ((v5 + 1)))) ((z 1000000 ((v5 + 2)))) z) fun q3 => match q3 with | (r3, z3) => (Option.bind (fX6_voteOf ((z3 1000000 ((v5 + 1)))) ((z3 1000000 ((v5 + 2)))) z3) fun q4 => match q4 with | (r4, z4) => (Option.bind (fX6_thrown z4) fun r5 => (if (r5) = (r3) then (if (r3) = (0) then (if ((zcmp ((z4 159 (0))) (r4))) = (0) then some (1, z4) else some (0, z4)) else some (1, z4)) else some (0, z4))))) else none) else none)
set_option maxRecDepth 100000 in
theorem TL_c30 {ln N : Nat} {z : ZZ} {v5 : Int} {Nm c0 s0 : Nat} {c9 s9 : Nat} {Φ : xRes → xS → Prop} (hN : 161 ≤ N ∧ N < 999999) (hz : okz z) (hln : isLn ln) (rv5 : inR v5) {p : Int × ZZ} (h : fL_c30 ln v5 z = some p) (hR : N + 1 ≤ Nm ∧ c0 + 1 ≤ c9 ∧ s0 + 6 ≤ s9 ∧ Nm < 999999) (k1 : ∀ (N' : Nat) (z' : ZZ), p = (1, z') → 161 ≤ N' → N' ≤ Nm → okz z' → X mL_law 2960 [some (.ref (1000000)), some (.ref (0)), some (.ref (151)), some (.ref (159)), some (.ref (160)), some (.int (iN (v5))), none, none, none] [] (zmk ln N' z') c0 s0 Φ) (k0 : ∀ (N' : Nat) (z' : ZZ), p = (0, z') → 161 ≤ N' → N' ≤ Nm → okz z' → Φ (.inl (some (.int (iN 0)))) (zmk ln N' z')) : X mL_law 2051 [some (.ref (1000000)), some (.ref (0)), some (.ref (151)), some (.ref (159)), some (.ref (160)), some (.int (iN (v5))), none, none, none] [] (zmk ln N z) c9 s9 Φ := by
  unfold fL_c30 at h
  refine X_aload_n (pc' := 2052) dL_law_2051 rfl rfl ?_
  refine X_aload_n (pc' := 2053) dL_law_2052 rfl rfl ?_
  refine X_iload (pc' := 2055) dL_law_2053 rfl rfl ?_
  refine X_iconst (pc' := 2056) dL_law_2055 rfl ?_
  refine X_iadd (pc' := 2057) dL_law_2056 rfl ?_
  obtain ⟨g1, h⟩ := gs h
  refine Y_ialdS (pc' := 2058) dL_law_2057 rfl (shS ln) hln g1 ?_
  refine X_aload_n (pc' := 2059) dL_law_2058 rfl rfl ?_
  refine X_iload (pc' := 2061) dL_law_2059 rfl rfl ?_
  refine X_iconst (pc' := 2062) dL_law_2061 rfl ?_
  refine X_iadd (pc' := 2063) dL_law_2062 rfl ?_
  obtain ⟨g2, h⟩ := gs h
  refine Y_ialdS (pc' := 2064) dL_law_2063 rfl (shS ln) hln g2 ?_
  refine X_aload_n (pc' := 2065) dL_law_2064 rfl rfl ?_
  obtain ⟨⟨r3, z3⟩, q3, h⟩ := bs h
  refine Y_wrap [.ref (0), .int (iN ((z 1000000 ((v5 + 1))))), .int (iN ((z 1000000 ((v5 + 2))))), .ref (159)] (pc' := 2068) dL_law_2065 rfl SL_260 (by decide) rfl (cs rfl) (cs rfl) rfl (CL_voteOf hN hz (hz 1000000 ((v5 + 1)) (by decide)) (hz 1000000 ((v5 + 2)) (by decide)) q3) hN.1 hR (fun N1 c1 s1 hN hR f3 => ?_)
  refine X_istore (pc' := 2070) dL_law_2068 rfl (cl rfl) (Or.inr rfl) (L' := [some (.ref (1000000)), some (.ref (0)), some (.ref (151)), some (.ref (159)), some (.ref (160)), some (.int (iN (v5))), some (.int (iN (r3))), none, none]) rfl ?_
  refine X_aload_n (pc' := 2071) dL_law_2070 rfl rfl ?_
  refine X_aload_n (pc' := 2072) dL_law_2071 rfl rfl ?_
  refine X_iload (pc' := 2074) dL_law_2072 rfl rfl ?_
  refine X_iconst (pc' := 2075) dL_law_2074 rfl ?_
  refine X_iadd (pc' := 2076) dL_law_2075 rfl ?_
  refine Y_ialdS (pc' := 2077) dL_law_2076 rfl (shS ln) hln g1 ?_
  refine X_aload_n (pc' := 2078) dL_law_2077 rfl rfl ?_
  refine X_iload (pc' := 2080) dL_law_2078 rfl rfl ?_
  refine X_iconst (pc' := 2081) dL_law_2080 rfl ?_
  refine X_iadd (pc' := 2082) dL_law_2081 rfl ?_
  refine Y_ialdS (pc' := 2083) dL_law_2082 rfl (shS ln) hln g2 ?_
  obtain ⟨⟨r4, z4⟩, q4, h⟩ := bs h
  refine Y_callV [.int (iN ((z3 1000000 ((v5 + 1))))), .int (iN ((z3 1000000 ((v5 + 2)))))] (pc' := 2086) dL_law_2083 rfl VL_262 (by decide) (zlN hN (by decide)) (congrArg Prod.fst (sh151 ln)) rfl rfl rfl (cs rfl) (cs rfl) rfl (CX6_voteOf (hN2 hN) f3.2 (f3.2 1000000 ((v5 + 1)) (by decide)) (f3.2 1000000 ((v5 + 2)) (by decide)) q4) (Nat.zero_add _).symm (Nat.zero_add _).symm (fun f4 => ?_)
  refine X_istore (pc' := 2088) dL_law_2086 rfl (cl rfl) (Or.inr rfl) (L' := [some (.ref (1000000)), some (.ref (0)), some (.ref (151)), some (.ref (159)), some (.ref (160)), some (.int (iN (v5))), some (.int (iN (r3))), some (.int (iN (r4))), none]) rfl ?_
  refine X_aload_n (pc' := 2089) dL_law_2088 rfl rfl ?_
  obtain ⟨r5, q5, h⟩ := bs h
  refine Y_callV [] (pc' := 2092) dL_law_2089 rfl VL_162 (by decide) (zlN hN (by decide)) (congrArg Prod.fst (sh151 ln)) rfl rfl rfl (cs rfl) (cs rfl) rfl (CX6_thrown (hN2 hN) f4.2 q5) (Nat.zero_add _).symm (Nat.zero_add _).symm (fun f5 => ?_)
  refine X_iload (pc' := 2094) dL_law_2092 rfl rfl ?_
  refine X_icmp_eq dL_law_2094 (tgt := 2099) rfl (pc' := 2097) rfl ⟨f5.1, f5.2, (inR_4 f3.1).1, (inR_4 f3.1).2⟩ (fun c6 => ?_) (fun c6 => ?_)
  · have h := if_t c6 h
    refine X_iload (pc' := 2101) dL_law_2099 rfl rfl ?_
    refine X_if_ne dL_law_2101 (tgt := 2116) rfl (pc' := 2104) rfl (inR_4 f3.1) (fun c7 => ?_) (fun c7 => ?_)
    · have h := if_f c7 h
      refine X_goto dL_law_2116 (tgt := 2960) rfl ?_
      cases h
      exact X_room (by omega) (by omega) (X_sub (sub_s (sub_s (sub_s (sub_s (sub_s (sub_s (sub_n (sub_n (sub_n sub_0))))))))) (k1 _ _ rfl (by omega) (by omega) f4.2))
    have h := if_t c7 h
    refine X_aload_n (pc' := 2105) dL_law_2104 rfl rfl ?_
    refine X_iconst (pc' := 2106) dL_law_2105 rfl ?_
    refine Y_lald (pc' := 2107) dL_law_2106 rfl (zlN hN (by decide)) (sh159 ln) (by decide) ⟨by decide, by decide⟩ ?_
    refine X_iload (pc' := 2109) dL_law_2107 rfl rfl ?_
    refine X_lI_i2l (pc' := 2110) dL_law_2109 rfl f4.1 ?_
    refine X_lcmp (pc' := 2111) dL_law_2110 rfl ⟨(inL_R (f4.2 159 (0) (by decide))).1, (inL_R (f4.2 159 (0) (by decide))).2, (inL_R f4.1).1, (inL_R f4.1).2⟩ ?_
    refine X_if_eq dL_law_2111 (tgt := 2116) rfl (pc' := 2114) rfl (inR_cmp _ _) (fun c8 => ?_) (fun c8 => ?_)
    · have h := if_t c8 h
      refine X_goto dL_law_2116 (tgt := 2960) rfl ?_
      cases h
      exact X_room (by omega) (by omega) (X_sub (sub_s (sub_s (sub_s (sub_s (sub_s (sub_s (sub_n (sub_n (sub_n sub_0))))))))) (k1 _ _ rfl (by omega) (by omega) f4.2))
    have h := if_f c8 h
    refine X_iconst (pc' := 2115) dL_law_2114 rfl ?_
    cases h
    exact X_zret dL_law_2115 rfl (Or.inl rfl) (k0 _ _ rfl (by omega) (by omega) f4.2)
  have h := if_f c6 h
  refine X_iconst (pc' := 2098) dL_law_2097 rfl ?_
  cases h
  exact X_zret dL_law_2098 rfl (Or.inl rfl) (k0 _ _ rfl (by omega) (by omega) f4.2)
def fL_c31 (ln : Nat) (v5 : Int) (z : ZZ) : Option (Int × ZZ) := (if (0 : Int) ≤ ((v5 + 1)) ∧ ((v5 + 1)) < (ln : Int) then (if (0 : Int) ≤ ((v5 + 2)) ∧ ((v5 + 2)) < (ln : Int) then (if (0 : Int) ≤ ((v5 + 3)) ∧ ((v5 + 3)) < (ln : Int) then (Option.bind (fL_gradeWith ((z 1000000 ((v5 + 1)))) ((z 1000000 ((v5 + 2)))) ((z 1000000 ((v5 + 3)))) z) fun q4 => match q4 with | (r4, z4) => (Option.bind (fX6_gradeWith ((z4 1000000 ((v5 + 1)))) ((z4 1000000 ((v5 + 2)))) ((z4 1000000 ((v5 + 3)))) z4) fun q5 => match q5 with | (r5, z5) => (Option.bind (fX6_thrown z5) fun r6 => (if (r6) = (r4) then (if (r4) = (0) then (if ((zcmp ((z5 159 (0))) (r5))) = (0) then some (1, z5) else some (0, z5)) else some (1, z5)) else some (0, z5))))) else none) else none) else none)
set_option maxRecDepth 100000 in
theorem TL_c31 {ln N : Nat} {z : ZZ} {v5 : Int} {Nm c0 s0 : Nat} {c9 s9 : Nat} {Φ : xRes → xS → Prop} (hN : 161 ≤ N ∧ N < 999999) (hz : okz z) (hln : isLn ln) (rv5 : inR v5) {p : Int × ZZ} (h : fL_c31 ln v5 z = some p) (hR : N + 1 ≤ Nm ∧ c0 + 1 ≤ c9 ∧ s0 + 6 ≤ s9 ∧ Nm < 999999) (k1 : ∀ (N' : Nat) (z' : ZZ), p = (1, z') → 161 ≤ N' → N' ≤ Nm → okz z' → X mL_law 2960 [some (.ref (1000000)), some (.ref (0)), some (.ref (151)), some (.ref (159)), some (.ref (160)), some (.int (iN (v5))), none, none, none] [] (zmk ln N' z') c0 s0 Φ) (k0 : ∀ (N' : Nat) (z' : ZZ), p = (0, z') → 161 ≤ N' → N' ≤ Nm → okz z' → Φ (.inl (some (.int (iN 0)))) (zmk ln N' z')) : X mL_law 2119 [some (.ref (1000000)), some (.ref (0)), some (.ref (151)), some (.ref (159)), some (.ref (160)), some (.int (iN (v5))), none, none, none] [] (zmk ln N z) c9 s9 Φ := by
  unfold fL_c31 at h
  refine X_aload_n (pc' := 2120) dL_law_2119 rfl rfl ?_
  refine X_aload_n (pc' := 2121) dL_law_2120 rfl rfl ?_
  refine X_iload (pc' := 2123) dL_law_2121 rfl rfl ?_
  refine X_iconst (pc' := 2124) dL_law_2123 rfl ?_
  refine X_iadd (pc' := 2125) dL_law_2124 rfl ?_
  obtain ⟨g1, h⟩ := gs h
  refine Y_ialdS (pc' := 2126) dL_law_2125 rfl (shS ln) hln g1 ?_
  refine X_aload_n (pc' := 2127) dL_law_2126 rfl rfl ?_
  refine X_iload (pc' := 2129) dL_law_2127 rfl rfl ?_
  refine X_iconst (pc' := 2130) dL_law_2129 rfl ?_
  refine X_iadd (pc' := 2131) dL_law_2130 rfl ?_
  obtain ⟨g2, h⟩ := gs h
  refine Y_ialdS (pc' := 2132) dL_law_2131 rfl (shS ln) hln g2 ?_
  refine X_aload_n (pc' := 2133) dL_law_2132 rfl rfl ?_
  refine X_iload (pc' := 2135) dL_law_2133 rfl rfl ?_
  refine X_iconst (pc' := 2136) dL_law_2135 rfl ?_
  refine X_iadd (pc' := 2137) dL_law_2136 rfl ?_
  obtain ⟨g3, h⟩ := gs h
  refine Y_ialdS (pc' := 2138) dL_law_2137 rfl (shS ln) hln g3 ?_
  refine X_aload_n (pc' := 2139) dL_law_2138 rfl rfl ?_
  obtain ⟨⟨r4, z4⟩, q4, h⟩ := bs h
  refine Y_wrap [.ref (0), .int (iN ((z 1000000 ((v5 + 1))))), .int (iN ((z 1000000 ((v5 + 2))))), .int (iN ((z 1000000 ((v5 + 3))))), .ref (159)] (pc' := 2142) dL_law_2139 rfl SL_263 (by decide) rfl (cs rfl) (cs rfl) rfl (CL_gradeWith hN hz (hz 1000000 ((v5 + 1)) (by decide)) (hz 1000000 ((v5 + 2)) (by decide)) (hz 1000000 ((v5 + 3)) (by decide)) q4) hN.1 hR (fun N1 c1 s1 hN hR f4 => ?_)
  refine X_istore (pc' := 2144) dL_law_2142 rfl (cl rfl) (Or.inr rfl) (L' := [some (.ref (1000000)), some (.ref (0)), some (.ref (151)), some (.ref (159)), some (.ref (160)), some (.int (iN (v5))), some (.int (iN (r4))), none, none]) rfl ?_
  refine X_aload_n (pc' := 2145) dL_law_2144 rfl rfl ?_
  refine X_aload_n (pc' := 2146) dL_law_2145 rfl rfl ?_
  refine X_iload (pc' := 2148) dL_law_2146 rfl rfl ?_
  refine X_iconst (pc' := 2149) dL_law_2148 rfl ?_
  refine X_iadd (pc' := 2150) dL_law_2149 rfl ?_
  refine Y_ialdS (pc' := 2151) dL_law_2150 rfl (shS ln) hln g1 ?_
  refine X_aload_n (pc' := 2152) dL_law_2151 rfl rfl ?_
  refine X_iload (pc' := 2154) dL_law_2152 rfl rfl ?_
  refine X_iconst (pc' := 2155) dL_law_2154 rfl ?_
  refine X_iadd (pc' := 2156) dL_law_2155 rfl ?_
  refine Y_ialdS (pc' := 2157) dL_law_2156 rfl (shS ln) hln g2 ?_
  refine X_aload_n (pc' := 2158) dL_law_2157 rfl rfl ?_
  refine X_iload (pc' := 2160) dL_law_2158 rfl rfl ?_
  refine X_iconst (pc' := 2161) dL_law_2160 rfl ?_
  refine X_iadd (pc' := 2162) dL_law_2161 rfl ?_
  refine Y_ialdS (pc' := 2163) dL_law_2162 rfl (shS ln) hln g3 ?_
  obtain ⟨⟨r5, z5⟩, q5, h⟩ := bs h
  refine Y_callV [.int (iN ((z4 1000000 ((v5 + 1))))), .int (iN ((z4 1000000 ((v5 + 2))))), .int (iN ((z4 1000000 ((v5 + 3)))))] (pc' := 2166) dL_law_2163 rfl VL_265 (by decide) (zlN hN (by decide)) (congrArg Prod.fst (sh151 ln)) rfl rfl rfl (cs rfl) (cs rfl) rfl (CX6_gradeWith (hN2 hN) f4.2 (f4.2 1000000 ((v5 + 1)) (by decide)) (f4.2 1000000 ((v5 + 2)) (by decide)) (f4.2 1000000 ((v5 + 3)) (by decide)) q5) (Nat.zero_add _).symm (Nat.zero_add _).symm (fun f5 => ?_)
  refine X_istore (pc' := 2168) dL_law_2166 rfl (cl rfl) (Or.inr rfl) (L' := [some (.ref (1000000)), some (.ref (0)), some (.ref (151)), some (.ref (159)), some (.ref (160)), some (.int (iN (v5))), some (.int (iN (r4))), some (.int (iN (r5))), none]) rfl ?_
  refine X_aload_n (pc' := 2169) dL_law_2168 rfl rfl ?_
  obtain ⟨r6, q6, h⟩ := bs h
  refine Y_callV [] (pc' := 2172) dL_law_2169 rfl VL_162 (by decide) (zlN hN (by decide)) (congrArg Prod.fst (sh151 ln)) rfl rfl rfl (cs rfl) (cs rfl) rfl (CX6_thrown (hN2 hN) f5.2 q6) (Nat.zero_add _).symm (Nat.zero_add _).symm (fun f6 => ?_)
  refine X_iload (pc' := 2174) dL_law_2172 rfl rfl ?_
  refine X_icmp_eq dL_law_2174 (tgt := 2179) rfl (pc' := 2177) rfl ⟨f6.1, f6.2, (inR_4 f4.1).1, (inR_4 f4.1).2⟩ (fun c7 => ?_) (fun c7 => ?_)
  · have h := if_t c7 h
    refine X_iload (pc' := 2181) dL_law_2179 rfl rfl ?_
    refine X_if_ne dL_law_2181 (tgt := 2196) rfl (pc' := 2184) rfl (inR_4 f4.1) (fun c8 => ?_) (fun c8 => ?_)
    · have h := if_f c8 h
      refine X_goto dL_law_2196 (tgt := 2960) rfl ?_
      cases h
      exact X_room (by omega) (by omega) (X_sub (sub_s (sub_s (sub_s (sub_s (sub_s (sub_s (sub_n (sub_n (sub_n sub_0))))))))) (k1 _ _ rfl (by omega) (by omega) f5.2))
    have h := if_t c8 h
    refine X_aload_n (pc' := 2185) dL_law_2184 rfl rfl ?_
    refine X_iconst (pc' := 2186) dL_law_2185 rfl ?_
    refine Y_lald (pc' := 2187) dL_law_2186 rfl (zlN hN (by decide)) (sh159 ln) (by decide) ⟨by decide, by decide⟩ ?_
    refine X_iload (pc' := 2189) dL_law_2187 rfl rfl ?_
    refine X_lI_i2l (pc' := 2190) dL_law_2189 rfl f5.1 ?_
    refine X_lcmp (pc' := 2191) dL_law_2190 rfl ⟨(inL_R (f5.2 159 (0) (by decide))).1, (inL_R (f5.2 159 (0) (by decide))).2, (inL_R f5.1).1, (inL_R f5.1).2⟩ ?_
    refine X_if_eq dL_law_2191 (tgt := 2196) rfl (pc' := 2194) rfl (inR_cmp _ _) (fun c9 => ?_) (fun c9 => ?_)
    · have h := if_t c9 h
      refine X_goto dL_law_2196 (tgt := 2960) rfl ?_
      cases h
      exact X_room (by omega) (by omega) (X_sub (sub_s (sub_s (sub_s (sub_s (sub_s (sub_s (sub_n (sub_n (sub_n sub_0))))))))) (k1 _ _ rfl (by omega) (by omega) f5.2))
    have h := if_f c9 h
    refine X_iconst (pc' := 2195) dL_law_2194 rfl ?_
    cases h
    exact X_zret dL_law_2195 rfl (Or.inl rfl) (k0 _ _ rfl (by omega) (by omega) f5.2)
  have h := if_f c7 h
  refine X_iconst (pc' := 2178) dL_law_2177 rfl ?_
  cases h
  exact X_zret dL_law_2178 rfl (Or.inl rfl) (k0 _ _ rfl (by omega) (by omega) f5.2)
def fL_c32 (ln : Nat) (v5 : Int) (z : ZZ) : Option (Int × ZZ) := (if (0 : Int) ≤ ((v5 + 1)) ∧ ((v5 + 1)) < (ln : Int) then (if (0 : Int) ≤ ((v5 + 2)) ∧ ((v5 + 2)) < (ln : Int) then (Option.bind (fL_votesTo ((z 1000000 ((v5 + 1)))) ((z 1000000 ((v5 + 2)))) z) fun q3 => match q3 with | (r3, z3) => (Option.bind (fX6_votesTo ((z3 1000000 ((v5 + 1)))) ((z3 1000000 ((v5 + 2)))) z3) fun q4 => match q4 with | (r4, z4) => (Option.bind (fX6_thrown z4) fun r5 => (if (r5) = (r3) then (if (r3) = (0) then (if ((zcmp ((z4 159 (0))) (r4))) = (0) then some (1, z4) else some (0, z4)) else some (1, z4)) else some (0, z4))))) else none) else none)
set_option maxRecDepth 100000 in
theorem TL_c32 {ln N : Nat} {z : ZZ} {v5 : Int} {Nm c0 s0 : Nat} {c9 s9 : Nat} {Φ : xRes → xS → Prop} (hN : 161 ≤ N ∧ N < 999999) (hz : okz z) (hln : isLn ln) (rv5 : inR v5) {p : Int × ZZ} (h : fL_c32 ln v5 z = some p) (hR : N + 1 ≤ Nm ∧ c0 + 1 ≤ c9 ∧ s0 + 6 ≤ s9 ∧ Nm < 999999) (k1 : ∀ (N' : Nat) (z' : ZZ), p = (1, z') → 161 ≤ N' → N' ≤ Nm → okz z' → X mL_law 2960 [some (.ref (1000000)), some (.ref (0)), some (.ref (151)), some (.ref (159)), some (.ref (160)), some (.int (iN (v5))), none, none, none] [] (zmk ln N' z') c0 s0 Φ) (k0 : ∀ (N' : Nat) (z' : ZZ), p = (0, z') → 161 ≤ N' → N' ≤ Nm → okz z' → Φ (.inl (some (.int (iN 0)))) (zmk ln N' z')) : X mL_law 2199 [some (.ref (1000000)), some (.ref (0)), some (.ref (151)), some (.ref (159)), some (.ref (160)), some (.int (iN (v5))), none, none, none] [] (zmk ln N z) c9 s9 Φ := by
  unfold fL_c32 at h
  refine X_aload_n (pc' := 2200) dL_law_2199 rfl rfl ?_
  refine X_aload_n (pc' := 2201) dL_law_2200 rfl rfl ?_
  refine X_iload (pc' := 2203) dL_law_2201 rfl rfl ?_
  refine X_iconst (pc' := 2204) dL_law_2203 rfl ?_
  refine X_iadd (pc' := 2205) dL_law_2204 rfl ?_
  obtain ⟨g1, h⟩ := gs h
  refine Y_ialdS (pc' := 2206) dL_law_2205 rfl (shS ln) hln g1 ?_
  refine X_aload_n (pc' := 2207) dL_law_2206 rfl rfl ?_
  refine X_iload (pc' := 2209) dL_law_2207 rfl rfl ?_
  refine X_iconst (pc' := 2210) dL_law_2209 rfl ?_
  refine X_iadd (pc' := 2211) dL_law_2210 rfl ?_
  obtain ⟨g2, h⟩ := gs h
  refine Y_ialdS (pc' := 2212) dL_law_2211 rfl (shS ln) hln g2 ?_
  refine X_aload_n (pc' := 2213) dL_law_2212 rfl rfl ?_
  obtain ⟨⟨r3, z3⟩, q3, h⟩ := bs h
  refine Y_wrap [.ref (0), .int (iN ((z 1000000 ((v5 + 1))))), .int (iN ((z 1000000 ((v5 + 2))))), .ref (159)] (pc' := 2216) dL_law_2213 rfl SL_266 (by decide) rfl (cs rfl) (cs rfl) rfl (CL_votesTo hN hz (hz 1000000 ((v5 + 1)) (by decide)) (hz 1000000 ((v5 + 2)) (by decide)) q3) hN.1 hR (fun N1 c1 s1 hN hR f3 => ?_)
  refine X_istore (pc' := 2218) dL_law_2216 rfl (cl rfl) (Or.inr rfl) (L' := [some (.ref (1000000)), some (.ref (0)), some (.ref (151)), some (.ref (159)), some (.ref (160)), some (.int (iN (v5))), some (.int (iN (r3))), none, none]) rfl ?_
  refine X_aload_n (pc' := 2219) dL_law_2218 rfl rfl ?_
  refine X_aload_n (pc' := 2220) dL_law_2219 rfl rfl ?_
  refine X_iload (pc' := 2222) dL_law_2220 rfl rfl ?_
  refine X_iconst (pc' := 2223) dL_law_2222 rfl ?_
  refine X_iadd (pc' := 2224) dL_law_2223 rfl ?_
  refine Y_ialdS (pc' := 2225) dL_law_2224 rfl (shS ln) hln g1 ?_
  refine X_aload_n (pc' := 2226) dL_law_2225 rfl rfl ?_
  refine X_iload (pc' := 2228) dL_law_2226 rfl rfl ?_
  refine X_iconst (pc' := 2229) dL_law_2228 rfl ?_
  refine X_iadd (pc' := 2230) dL_law_2229 rfl ?_
  refine Y_ialdS (pc' := 2231) dL_law_2230 rfl (shS ln) hln g2 ?_
  obtain ⟨⟨r4, z4⟩, q4, h⟩ := bs h
  refine Y_callV [.int (iN ((z3 1000000 ((v5 + 1))))), .int (iN ((z3 1000000 ((v5 + 2)))))] (pc' := 2234) dL_law_2231 rfl VL_268 (by decide) (zlN hN (by decide)) (congrArg Prod.fst (sh151 ln)) rfl rfl rfl (cs rfl) (cs rfl) rfl (CX6_votesTo (hN2 hN) f3.2 (f3.2 1000000 ((v5 + 1)) (by decide)) (f3.2 1000000 ((v5 + 2)) (by decide)) q4) (Nat.zero_add _).symm (Nat.zero_add _).symm (fun f4 => ?_)
  refine X_istore (pc' := 2236) dL_law_2234 rfl (cl rfl) (Or.inr rfl) (L' := [some (.ref (1000000)), some (.ref (0)), some (.ref (151)), some (.ref (159)), some (.ref (160)), some (.int (iN (v5))), some (.int (iN (r3))), some (.int (iN (r4))), none]) rfl ?_
  refine X_aload_n (pc' := 2237) dL_law_2236 rfl rfl ?_
  obtain ⟨r5, q5, h⟩ := bs h
  refine Y_callV [] (pc' := 2240) dL_law_2237 rfl VL_162 (by decide) (zlN hN (by decide)) (congrArg Prod.fst (sh151 ln)) rfl rfl rfl (cs rfl) (cs rfl) rfl (CX6_thrown (hN2 hN) f4.2 q5) (Nat.zero_add _).symm (Nat.zero_add _).symm (fun f5 => ?_)
  refine X_iload (pc' := 2242) dL_law_2240 rfl rfl ?_
  refine X_icmp_eq dL_law_2242 (tgt := 2247) rfl (pc' := 2245) rfl ⟨f5.1, f5.2, (inR_4 f3.1).1, (inR_4 f3.1).2⟩ (fun c6 => ?_) (fun c6 => ?_)
  · have h := if_t c6 h
    refine X_iload (pc' := 2249) dL_law_2247 rfl rfl ?_
    refine X_if_ne dL_law_2249 (tgt := 2264) rfl (pc' := 2252) rfl (inR_4 f3.1) (fun c7 => ?_) (fun c7 => ?_)
    · have h := if_f c7 h
      refine X_goto dL_law_2264 (tgt := 2960) rfl ?_
      cases h
      exact X_room (by omega) (by omega) (X_sub (sub_s (sub_s (sub_s (sub_s (sub_s (sub_s (sub_n (sub_n (sub_n sub_0))))))))) (k1 _ _ rfl (by omega) (by omega) f4.2))
    have h := if_t c7 h
    refine X_aload_n (pc' := 2253) dL_law_2252 rfl rfl ?_
    refine X_iconst (pc' := 2254) dL_law_2253 rfl ?_
    refine Y_lald (pc' := 2255) dL_law_2254 rfl (zlN hN (by decide)) (sh159 ln) (by decide) ⟨by decide, by decide⟩ ?_
    refine X_iload (pc' := 2257) dL_law_2255 rfl rfl ?_
    refine X_lI_i2l (pc' := 2258) dL_law_2257 rfl f4.1 ?_
    refine X_lcmp (pc' := 2259) dL_law_2258 rfl ⟨(inL_R (f4.2 159 (0) (by decide))).1, (inL_R (f4.2 159 (0) (by decide))).2, (inL_R f4.1).1, (inL_R f4.1).2⟩ ?_
    refine X_if_eq dL_law_2259 (tgt := 2264) rfl (pc' := 2262) rfl (inR_cmp _ _) (fun c8 => ?_) (fun c8 => ?_)
    · have h := if_t c8 h
      refine X_goto dL_law_2264 (tgt := 2960) rfl ?_
      cases h
      exact X_room (by omega) (by omega) (X_sub (sub_s (sub_s (sub_s (sub_s (sub_s (sub_s (sub_n (sub_n (sub_n sub_0))))))))) (k1 _ _ rfl (by omega) (by omega) f4.2))
    have h := if_f c8 h
    refine X_iconst (pc' := 2263) dL_law_2262 rfl ?_
    cases h
    exact X_zret dL_law_2263 rfl (Or.inl rfl) (k0 _ _ rfl (by omega) (by omega) f4.2)
  have h := if_f c6 h
  refine X_iconst (pc' := 2246) dL_law_2245 rfl ?_
  cases h
  exact X_zret dL_law_2246 rfl (Or.inl rfl) (k0 _ _ rfl (by omega) (by omega) f4.2)
def fL_c33 (ln : Nat) (v5 : Int) (z : ZZ) : Option (Int × ZZ) := (Option.bind (fL_disputed z) fun q1 => match q1 with | (r1, z1) => (Option.bind (fX6_disputed z1) fun q2 => match q2 with | (r2, z2) => (Option.bind (fX6_thrown z2) fun r3 => (if (r3) = (r1) then (if (r1) = (0) then (if ((zcmp ((z2 159 (0))) (r2))) = (0) then some (1, z2) else some (0, z2)) else some (1, z2)) else some (0, z2)))))
set_option maxRecDepth 100000 in
theorem TL_c33 {ln N : Nat} {z : ZZ} {v5 : Int} {Nm c0 s0 : Nat} {c9 s9 : Nat} {Φ : xRes → xS → Prop} (hN : 161 ≤ N ∧ N < 999999) (hz : okz z) (hln : isLn ln) (rv5 : inR v5) {p : Int × ZZ} (h : fL_c33 ln v5 z = some p) (hR : N + 1 ≤ Nm ∧ c0 + 1 ≤ c9 ∧ s0 + 6 ≤ s9 ∧ Nm < 999999) (k1 : ∀ (N' : Nat) (z' : ZZ), p = (1, z') → 161 ≤ N' → N' ≤ Nm → okz z' → X mL_law 2960 [some (.ref (1000000)), some (.ref (0)), some (.ref (151)), some (.ref (159)), some (.ref (160)), some (.int (iN (v5))), none, none, none] [] (zmk ln N' z') c0 s0 Φ) (k0 : ∀ (N' : Nat) (z' : ZZ), p = (0, z') → 161 ≤ N' → N' ≤ Nm → okz z' → Φ (.inl (some (.int (iN 0)))) (zmk ln N' z')) : X mL_law 2267 [some (.ref (1000000)), some (.ref (0)), some (.ref (151)), some (.ref (159)), some (.ref (160)), some (.int (iN (v5))), none, none, none] [] (zmk ln N z) c9 s9 Φ := by
  unfold fL_c33 at h
  refine X_aload_n (pc' := 2268) dL_law_2267 rfl rfl ?_
  refine X_aload_n (pc' := 2269) dL_law_2268 rfl rfl ?_
  obtain ⟨⟨r1, z1⟩, q1, h⟩ := bs h
  refine Y_wrap [.ref (0), .ref (159)] (pc' := 2272) dL_law_2269 rfl SL_269 (by decide) rfl (cs rfl) (cs rfl) rfl (CL_disputed hN hz q1) hN.1 hR (fun N1 c1 s1 hN hR f1 => ?_)
  refine X_istore (pc' := 2274) dL_law_2272 rfl (cl rfl) (Or.inr rfl) (L' := [some (.ref (1000000)), some (.ref (0)), some (.ref (151)), some (.ref (159)), some (.ref (160)), some (.int (iN (v5))), some (.int (iN (r1))), none, none]) rfl ?_
  refine X_aload_n (pc' := 2275) dL_law_2274 rfl rfl ?_
  obtain ⟨⟨r2, z2⟩, q2, h⟩ := bs h
  refine Y_callV [] (pc' := 2278) dL_law_2275 rfl VL_271 (by decide) (zlN hN (by decide)) (congrArg Prod.fst (sh151 ln)) rfl rfl rfl (cs rfl) (cs rfl) rfl (CX6_disputed (hN2 hN) f1.2 q2) (Nat.zero_add _).symm (Nat.zero_add _).symm (fun f2 => ?_)
  refine X_istore (pc' := 2280) dL_law_2278 rfl (cl rfl) (Or.inr rfl) (L' := [some (.ref (1000000)), some (.ref (0)), some (.ref (151)), some (.ref (159)), some (.ref (160)), some (.int (iN (v5))), some (.int (iN (r1))), some (.int (iN (r2))), none]) rfl ?_
  refine X_aload_n (pc' := 2281) dL_law_2280 rfl rfl ?_
  obtain ⟨r3, q3, h⟩ := bs h
  refine Y_callV [] (pc' := 2284) dL_law_2281 rfl VL_162 (by decide) (zlN hN (by decide)) (congrArg Prod.fst (sh151 ln)) rfl rfl rfl (cs rfl) (cs rfl) rfl (CX6_thrown (hN2 hN) f2.2 q3) (Nat.zero_add _).symm (Nat.zero_add _).symm (fun f3 => ?_)
  refine X_iload (pc' := 2286) dL_law_2284 rfl rfl ?_
  refine X_icmp_eq dL_law_2286 (tgt := 2291) rfl (pc' := 2289) rfl ⟨f3.1, f3.2, (inR_4 f1.1).1, (inR_4 f1.1).2⟩ (fun c4 => ?_) (fun c4 => ?_)
  · have h := if_t c4 h
    refine X_iload (pc' := 2293) dL_law_2291 rfl rfl ?_
    refine X_if_ne dL_law_2293 (tgt := 2308) rfl (pc' := 2296) rfl (inR_4 f1.1) (fun c5 => ?_) (fun c5 => ?_)
    · have h := if_f c5 h
      refine X_goto dL_law_2308 (tgt := 2960) rfl ?_
      cases h
      exact X_room (by omega) (by omega) (X_sub (sub_s (sub_s (sub_s (sub_s (sub_s (sub_s (sub_n (sub_n (sub_n sub_0))))))))) (k1 _ _ rfl (by omega) (by omega) f2.2))
    have h := if_t c5 h
    refine X_aload_n (pc' := 2297) dL_law_2296 rfl rfl ?_
    refine X_iconst (pc' := 2298) dL_law_2297 rfl ?_
    refine Y_lald (pc' := 2299) dL_law_2298 rfl (zlN hN (by decide)) (sh159 ln) (by decide) ⟨by decide, by decide⟩ ?_
    refine X_iload (pc' := 2301) dL_law_2299 rfl rfl ?_
    refine X_lI_i2l (pc' := 2302) dL_law_2301 rfl f2.1 ?_
    refine X_lcmp (pc' := 2303) dL_law_2302 rfl ⟨(inL_R (f2.2 159 (0) (by decide))).1, (inL_R (f2.2 159 (0) (by decide))).2, (inL_R f2.1).1, (inL_R f2.1).2⟩ ?_
    refine X_if_eq dL_law_2303 (tgt := 2308) rfl (pc' := 2306) rfl (inR_cmp _ _) (fun c6 => ?_) (fun c6 => ?_)
    · have h := if_t c6 h
      refine X_goto dL_law_2308 (tgt := 2960) rfl ?_
      cases h
      exact X_room (by omega) (by omega) (X_sub (sub_s (sub_s (sub_s (sub_s (sub_s (sub_s (sub_n (sub_n (sub_n sub_0))))))))) (k1 _ _ rfl (by omega) (by omega) f2.2))
    have h := if_f c6 h
    refine X_iconst (pc' := 2307) dL_law_2306 rfl ?_
    cases h
    exact X_zret dL_law_2307 rfl (Or.inl rfl) (k0 _ _ rfl (by omega) (by omega) f2.2)
  have h := if_f c4 h
  refine X_iconst (pc' := 2290) dL_law_2289 rfl ?_
  cases h
  exact X_zret dL_law_2290 rfl (Or.inl rfl) (k0 _ _ rfl (by omega) (by omega) f2.2)
def fL_c34 (ln : Nat) (v5 : Int) (z : ZZ) : Option (Int × ZZ) := (if (0 : Int) ≤ ((v5 + 1)) ∧ ((v5 + 1)) < (ln : Int) then (Option.bind (fL_hardest ((z 1000000 ((v5 + 1)))) z) fun q2 => match q2 with | (r2, z2) => (Option.bind (fX6_hardest ((z2 1000000 ((v5 + 1)))) z2) fun q3 => match q3 with | (r3, z3) => (Option.bind (fX6_thrown z3) fun r4 => (if (r4) = (r2) then (if (r2) = (0) then (if ((zcmp ((z3 159 (0))) (r3))) = (0) then some (1, z3) else some (0, z3)) else some (1, z3)) else some (0, z3))))) else none)
set_option maxRecDepth 100000 in
theorem TL_c34 {ln N : Nat} {z : ZZ} {v5 : Int} {Nm c0 s0 : Nat} {c9 s9 : Nat} {Φ : xRes → xS → Prop} (hN : 161 ≤ N ∧ N < 999999) (hz : okz z) (hln : isLn ln) (rv5 : inR v5) {p : Int × ZZ} (h : fL_c34 ln v5 z = some p) (hR : N + 1 ≤ Nm ∧ c0 + 1 ≤ c9 ∧ s0 + 6 ≤ s9 ∧ Nm < 999999) (k1 : ∀ (N' : Nat) (z' : ZZ), p = (1, z') → 161 ≤ N' → N' ≤ Nm → okz z' → X mL_law 2960 [some (.ref (1000000)), some (.ref (0)), some (.ref (151)), some (.ref (159)), some (.ref (160)), some (.int (iN (v5))), none, none, none] [] (zmk ln N' z') c0 s0 Φ) (k0 : ∀ (N' : Nat) (z' : ZZ), p = (0, z') → 161 ≤ N' → N' ≤ Nm → okz z' → Φ (.inl (some (.int (iN 0)))) (zmk ln N' z')) : X mL_law 2311 [some (.ref (1000000)), some (.ref (0)), some (.ref (151)), some (.ref (159)), some (.ref (160)), some (.int (iN (v5))), none, none, none] [] (zmk ln N z) c9 s9 Φ := by
  unfold fL_c34 at h
  refine X_aload_n (pc' := 2312) dL_law_2311 rfl rfl ?_
  refine X_aload_n (pc' := 2313) dL_law_2312 rfl rfl ?_
  refine X_iload (pc' := 2315) dL_law_2313 rfl rfl ?_
  refine X_iconst (pc' := 2316) dL_law_2315 rfl ?_
  refine X_iadd (pc' := 2317) dL_law_2316 rfl ?_
  obtain ⟨g1, h⟩ := gs h
  refine Y_ialdS (pc' := 2318) dL_law_2317 rfl (shS ln) hln g1 ?_
  refine X_aload_n (pc' := 2319) dL_law_2318 rfl rfl ?_
  obtain ⟨⟨r2, z2⟩, q2, h⟩ := bs h
  refine Y_wrap [.ref (0), .int (iN ((z 1000000 ((v5 + 1))))), .ref (159)] (pc' := 2322) dL_law_2319 rfl SL_272 (by decide) rfl (cs rfl) (cs rfl) rfl (CL_hardest hN hz (hz 1000000 ((v5 + 1)) (by decide)) q2) hN.1 hR (fun N1 c1 s1 hN hR f2 => ?_)
  refine X_istore (pc' := 2324) dL_law_2322 rfl (cl rfl) (Or.inr rfl) (L' := [some (.ref (1000000)), some (.ref (0)), some (.ref (151)), some (.ref (159)), some (.ref (160)), some (.int (iN (v5))), some (.int (iN (r2))), none, none]) rfl ?_
  refine X_aload_n (pc' := 2325) dL_law_2324 rfl rfl ?_
  refine X_aload_n (pc' := 2326) dL_law_2325 rfl rfl ?_
  refine X_iload (pc' := 2328) dL_law_2326 rfl rfl ?_
  refine X_iconst (pc' := 2329) dL_law_2328 rfl ?_
  refine X_iadd (pc' := 2330) dL_law_2329 rfl ?_
  refine Y_ialdS (pc' := 2331) dL_law_2330 rfl (shS ln) hln g1 ?_
  obtain ⟨⟨r3, z3⟩, q3, h⟩ := bs h
  refine Y_callV [.int (iN ((z2 1000000 ((v5 + 1)))))] (pc' := 2334) dL_law_2331 rfl VL_274 (by decide) (zlN hN (by decide)) (congrArg Prod.fst (sh151 ln)) rfl rfl rfl (cs rfl) (cs rfl) rfl (CX6_hardest (hN2 hN) f2.2 (f2.2 1000000 ((v5 + 1)) (by decide)) q3) (Nat.zero_add _).symm (Nat.zero_add _).symm (fun f3 => ?_)
  refine X_istore (pc' := 2336) dL_law_2334 rfl (cl rfl) (Or.inr rfl) (L' := [some (.ref (1000000)), some (.ref (0)), some (.ref (151)), some (.ref (159)), some (.ref (160)), some (.int (iN (v5))), some (.int (iN (r2))), some (.int (iN (r3))), none]) rfl ?_
  refine X_aload_n (pc' := 2337) dL_law_2336 rfl rfl ?_
  obtain ⟨r4, q4, h⟩ := bs h
  refine Y_callV [] (pc' := 2340) dL_law_2337 rfl VL_162 (by decide) (zlN hN (by decide)) (congrArg Prod.fst (sh151 ln)) rfl rfl rfl (cs rfl) (cs rfl) rfl (CX6_thrown (hN2 hN) f3.2 q4) (Nat.zero_add _).symm (Nat.zero_add _).symm (fun f4 => ?_)
  refine X_iload (pc' := 2342) dL_law_2340 rfl rfl ?_
  refine X_icmp_eq dL_law_2342 (tgt := 2347) rfl (pc' := 2345) rfl ⟨f4.1, f4.2, (inR_4 f2.1).1, (inR_4 f2.1).2⟩ (fun c5 => ?_) (fun c5 => ?_)
  · have h := if_t c5 h
    refine X_iload (pc' := 2349) dL_law_2347 rfl rfl ?_
    refine X_if_ne dL_law_2349 (tgt := 2364) rfl (pc' := 2352) rfl (inR_4 f2.1) (fun c6 => ?_) (fun c6 => ?_)
    · have h := if_f c6 h
      refine X_goto dL_law_2364 (tgt := 2960) rfl ?_
      cases h
      exact X_room (by omega) (by omega) (X_sub (sub_s (sub_s (sub_s (sub_s (sub_s (sub_s (sub_n (sub_n (sub_n sub_0))))))))) (k1 _ _ rfl (by omega) (by omega) f3.2))
    have h := if_t c6 h
    refine X_aload_n (pc' := 2353) dL_law_2352 rfl rfl ?_
    refine X_iconst (pc' := 2354) dL_law_2353 rfl ?_
    refine Y_lald (pc' := 2355) dL_law_2354 rfl (zlN hN (by decide)) (sh159 ln) (by decide) ⟨by decide, by decide⟩ ?_
    refine X_iload (pc' := 2357) dL_law_2355 rfl rfl ?_
    refine X_lI_i2l (pc' := 2358) dL_law_2357 rfl f3.1 ?_
    refine X_lcmp (pc' := 2359) dL_law_2358 rfl ⟨(inL_R (f3.2 159 (0) (by decide))).1, (inL_R (f3.2 159 (0) (by decide))).2, (inL_R f3.1).1, (inL_R f3.1).2⟩ ?_
    refine X_if_eq dL_law_2359 (tgt := 2364) rfl (pc' := 2362) rfl (inR_cmp _ _) (fun c7 => ?_) (fun c7 => ?_)
    · have h := if_t c7 h
      refine X_goto dL_law_2364 (tgt := 2960) rfl ?_
      cases h
      exact X_room (by omega) (by omega) (X_sub (sub_s (sub_s (sub_s (sub_s (sub_s (sub_s (sub_n (sub_n (sub_n sub_0))))))))) (k1 _ _ rfl (by omega) (by omega) f3.2))
    have h := if_f c7 h
    refine X_iconst (pc' := 2363) dL_law_2362 rfl ?_
    cases h
    exact X_zret dL_law_2363 rfl (Or.inl rfl) (k0 _ _ rfl (by omega) (by omega) f3.2)
  have h := if_f c5 h
  refine X_iconst (pc' := 2346) dL_law_2345 rfl ?_
  cases h
  exact X_zret dL_law_2346 rfl (Or.inl rfl) (k0 _ _ rfl (by omega) (by omega) f3.2)
def fL_c35 (ln : Nat) (v5 : Int) (z : ZZ) : Option (Int × ZZ) := (if (0 : Int) ≤ ((v5 + 1)) ∧ ((v5 + 1)) < (ln : Int) then (Option.bind (fL_climbsLeft ((z 1000000 ((v5 + 1)))) z) fun q2 => match q2 with | (r2, z2) => (Option.bind (fX6_climbsLeft ((z2 1000000 ((v5 + 1)))) z2) fun q3 => match q3 with | (r3, z3) => (Option.bind (fX6_thrown z3) fun r4 => (if (r4) = (r2) then (if (r2) = (0) then (if ((zcmp ((z3 159 (0))) (r3))) = (0) then some (1, z3) else some (0, z3)) else some (1, z3)) else some (0, z3))))) else none)
set_option maxRecDepth 100000 in
theorem TL_c35 {ln N : Nat} {z : ZZ} {v5 : Int} {Nm c0 s0 : Nat} {c9 s9 : Nat} {Φ : xRes → xS → Prop} (hN : 161 ≤ N ∧ N < 999999) (hz : okz z) (hln : isLn ln) (rv5 : inR v5) {p : Int × ZZ} (h : fL_c35 ln v5 z = some p) (hR : N + 1 ≤ Nm ∧ c0 + 1 ≤ c9 ∧ s0 + 6 ≤ s9 ∧ Nm < 999999) (k1 : ∀ (N' : Nat) (z' : ZZ), p = (1, z') → 161 ≤ N' → N' ≤ Nm → okz z' → X mL_law 2960 [some (.ref (1000000)), some (.ref (0)), some (.ref (151)), some (.ref (159)), some (.ref (160)), some (.int (iN (v5))), none, none, none] [] (zmk ln N' z') c0 s0 Φ) (k0 : ∀ (N' : Nat) (z' : ZZ), p = (0, z') → 161 ≤ N' → N' ≤ Nm → okz z' → Φ (.inl (some (.int (iN 0)))) (zmk ln N' z')) : X mL_law 2367 [some (.ref (1000000)), some (.ref (0)), some (.ref (151)), some (.ref (159)), some (.ref (160)), some (.int (iN (v5))), none, none, none] [] (zmk ln N z) c9 s9 Φ := by
  unfold fL_c35 at h
  refine X_aload_n (pc' := 2368) dL_law_2367 rfl rfl ?_
  refine X_aload_n (pc' := 2369) dL_law_2368 rfl rfl ?_
  refine X_iload (pc' := 2371) dL_law_2369 rfl rfl ?_
  refine X_iconst (pc' := 2372) dL_law_2371 rfl ?_
  refine X_iadd (pc' := 2373) dL_law_2372 rfl ?_
  obtain ⟨g1, h⟩ := gs h
  refine Y_ialdS (pc' := 2374) dL_law_2373 rfl (shS ln) hln g1 ?_
  refine X_aload_n (pc' := 2375) dL_law_2374 rfl rfl ?_
  obtain ⟨⟨r2, z2⟩, q2, h⟩ := bs h
  refine Y_wrap [.ref (0), .int (iN ((z 1000000 ((v5 + 1))))), .ref (159)] (pc' := 2378) dL_law_2375 rfl SL_275 (by decide) rfl (cs rfl) (cs rfl) rfl (CL_climbsLeft hN hz (hz 1000000 ((v5 + 1)) (by decide)) q2) hN.1 hR (fun N1 c1 s1 hN hR f2 => ?_)
  refine X_istore (pc' := 2380) dL_law_2378 rfl (cl rfl) (Or.inr rfl) (L' := [some (.ref (1000000)), some (.ref (0)), some (.ref (151)), some (.ref (159)), some (.ref (160)), some (.int (iN (v5))), some (.int (iN (r2))), none, none]) rfl ?_
  refine X_aload_n (pc' := 2381) dL_law_2380 rfl rfl ?_
  refine X_aload_n (pc' := 2382) dL_law_2381 rfl rfl ?_
  refine X_iload (pc' := 2384) dL_law_2382 rfl rfl ?_
  refine X_iconst (pc' := 2385) dL_law_2384 rfl ?_
  refine X_iadd (pc' := 2386) dL_law_2385 rfl ?_
  refine Y_ialdS (pc' := 2387) dL_law_2386 rfl (shS ln) hln g1 ?_
  obtain ⟨⟨r3, z3⟩, q3, h⟩ := bs h
  refine Y_callV [.int (iN ((z2 1000000 ((v5 + 1)))))] (pc' := 2390) dL_law_2387 rfl VL_277 (by decide) (zlN hN (by decide)) (congrArg Prod.fst (sh151 ln)) rfl rfl rfl (cs rfl) (cs rfl) rfl (CX6_climbsLeft (hN2 hN) f2.2 (f2.2 1000000 ((v5 + 1)) (by decide)) q3) (Nat.zero_add _).symm (Nat.zero_add _).symm (fun f3 => ?_)
  refine X_istore (pc' := 2392) dL_law_2390 rfl (cl rfl) (Or.inr rfl) (L' := [some (.ref (1000000)), some (.ref (0)), some (.ref (151)), some (.ref (159)), some (.ref (160)), some (.int (iN (v5))), some (.int (iN (r2))), some (.int (iN (r3))), none]) rfl ?_
  refine X_aload_n (pc' := 2393) dL_law_2392 rfl rfl ?_
  obtain ⟨r4, q4, h⟩ := bs h
  refine Y_callV [] (pc' := 2396) dL_law_2393 rfl VL_162 (by decide) (zlN hN (by decide)) (congrArg Prod.fst (sh151 ln)) rfl rfl rfl (cs rfl) (cs rfl) rfl (CX6_thrown (hN2 hN) f3.2 q4) (Nat.zero_add _).symm (Nat.zero_add _).symm (fun f4 => ?_)
  refine X_iload (pc' := 2398) dL_law_2396 rfl rfl ?_
  refine X_icmp_eq dL_law_2398 (tgt := 2403) rfl (pc' := 2401) rfl ⟨f4.1, f4.2, (inR_4 f2.1).1, (inR_4 f2.1).2⟩ (fun c5 => ?_) (fun c5 => ?_)
  · have h := if_t c5 h
    refine X_iload (pc' := 2405) dL_law_2403 rfl rfl ?_
    refine X_if_ne dL_law_2405 (tgt := 2420) rfl (pc' := 2408) rfl (inR_4 f2.1) (fun c6 => ?_) (fun c6 => ?_)
    · have h := if_f c6 h
      refine X_goto dL_law_2420 (tgt := 2960) rfl ?_
      cases h
      exact X_room (by omega) (by omega) (X_sub (sub_s (sub_s (sub_s (sub_s (sub_s (sub_s (sub_n (sub_n (sub_n sub_0))))))))) (k1 _ _ rfl (by omega) (by omega) f3.2))
    have h := if_t c6 h
    refine X_aload_n (pc' := 2409) dL_law_2408 rfl rfl ?_
    refine X_iconst (pc' := 2410) dL_law_2409 rfl ?_
    refine Y_lald (pc' := 2411) dL_law_2410 rfl (zlN hN (by decide)) (sh159 ln) (by decide) ⟨by decide, by decide⟩ ?_
    refine X_iload (pc' := 2413) dL_law_2411 rfl rfl ?_
    refine X_lI_i2l (pc' := 2414) dL_law_2413 rfl f3.1 ?_
    refine X_lcmp (pc' := 2415) dL_law_2414 rfl ⟨(inL_R (f3.2 159 (0) (by decide))).1, (inL_R (f3.2 159 (0) (by decide))).2, (inL_R f3.1).1, (inL_R f3.1).2⟩ ?_
    refine X_if_eq dL_law_2415 (tgt := 2420) rfl (pc' := 2418) rfl (inR_cmp _ _) (fun c7 => ?_) (fun c7 => ?_)
    · have h := if_t c7 h
      refine X_goto dL_law_2420 (tgt := 2960) rfl ?_
      cases h
      exact X_room (by omega) (by omega) (X_sub (sub_s (sub_s (sub_s (sub_s (sub_s (sub_s (sub_n (sub_n (sub_n sub_0))))))))) (k1 _ _ rfl (by omega) (by omega) f3.2))
    have h := if_f c7 h
    refine X_iconst (pc' := 2419) dL_law_2418 rfl ?_
    cases h
    exact X_zret dL_law_2419 rfl (Or.inl rfl) (k0 _ _ rfl (by omega) (by omega) f3.2)
  have h := if_f c5 h
  refine X_iconst (pc' := 2402) dL_law_2401 rfl ?_
  cases h
  exact X_zret dL_law_2402 rfl (Or.inl rfl) (k0 _ _ rfl (by omega) (by omega) f3.2)
def fL_c36 (ln : Nat) (v5 : Int) (z : ZZ) : Option (Int × ZZ) := (Option.bind (fL_averageGrade z) fun q1 => match q1 with | (r1, z1) => (Option.bind (fX6_averageGrade z1) fun q2 => match q2 with | (r2, z2) => (Option.bind (fX6_thrown z2) fun r3 => (if (r3) = (r1) then (if (r1) = (0) then (if ((zdcmp (UInt64.ofNat (z2 160 (0)).toNat) r2)) = (0) then some (1, z2) else (if ((zdcmp (UInt64.ofNat (z2 160 (0)).toNat) (UInt64.ofNat (z2 160 (0)).toNat))) = (0) then some (0, z2) else (if ((zdcmp r2 r2)) = (0) then some (0, z2) else some (1, z2)))) else some (1, z2)) else some (0, z2)))))
set_option maxRecDepth 100000 in
theorem TL_c36 {ln N : Nat} {z : ZZ} {v5 : Int} {Nm c0 s0 : Nat} {c9 s9 : Nat} {Φ : xRes → xS → Prop} (hN : 161 ≤ N ∧ N < 999999) (hz : okz z) (hln : isLn ln) (rv5 : inR v5) {p : Int × ZZ} (h : fL_c36 ln v5 z = some p) (hR : N + 1 ≤ Nm ∧ c0 + 1 ≤ c9 ∧ s0 + 6 ≤ s9 ∧ Nm < 999999) (k1 : ∀ (N' : Nat) (z' : ZZ), p = (1, z') → 161 ≤ N' → N' ≤ Nm → okz z' → X mL_law 2960 [some (.ref (1000000)), some (.ref (0)), some (.ref (151)), some (.ref (159)), some (.ref (160)), some (.int (iN (v5))), none, none, none] [] (zmk ln N' z') c0 s0 Φ) (k0 : ∀ (N' : Nat) (z' : ZZ), p = (0, z') → 161 ≤ N' → N' ≤ Nm → okz z' → Φ (.inl (some (.int (iN 0)))) (zmk ln N' z')) : X mL_law 2423 [some (.ref (1000000)), some (.ref (0)), some (.ref (151)), some (.ref (159)), some (.ref (160)), some (.int (iN (v5))), none, none, none] [] (zmk ln N z) c9 s9 Φ := by
  unfold fL_c36 at h
  refine X_aload_n (pc' := 2424) dL_law_2423 rfl rfl ?_
  refine X_aload (pc' := 2426) dL_law_2424 rfl rfl ?_
  obtain ⟨⟨r1, z1⟩, q1, h⟩ := bs h
  refine Y_wrap [.ref (0), .ref (160)] (pc' := 2429) dL_law_2426 rfl SL_278 (by decide) rfl (cs rfl) (cs rfl) rfl (CL_averageGrade hN hz q1) hN.1 hR (fun N1 c1 s1 hN hR f1 => ?_)
  refine X_istore (pc' := 2431) dL_law_2429 rfl (cl rfl) (Or.inr rfl) (L' := [some (.ref (1000000)), some (.ref (0)), some (.ref (151)), some (.ref (159)), some (.ref (160)), some (.int (iN (v5))), some (.int (iN (r1))), none, none]) rfl ?_
  refine X_aload_n (pc' := 2432) dL_law_2431 rfl rfl ?_
  obtain ⟨⟨r2, z2⟩, q2, h⟩ := bs h
  refine Y_callV [] (pc' := 2435) dL_law_2432 rfl VL_281 (by decide) (zlN hN (by decide)) (congrArg Prod.fst (sh151 ln)) rfl rfl rfl (cs rfl) (cs rfl) rfl (CX6_averageGrade (hN2 hN) f1.2 q2) (Nat.zero_add _).symm (Nat.zero_add _).symm (fun f2 => ?_)
  refine X_dstore (pc' := 2437) dL_law_2435 rfl (cl rfl) (Or.inr rfl) (L' := [some (.ref (1000000)), some (.ref (0)), some (.ref (151)), some (.ref (159)), some (.ref (160)), some (.int (iN (v5))), some (.int (iN (r1))), some (.double (r2)), none]) rfl ?_
  refine X_aload_n (pc' := 2438) dL_law_2437 rfl rfl ?_
  obtain ⟨r3, q3, h⟩ := bs h
  refine Y_callV [] (pc' := 2441) dL_law_2438 rfl VL_162 (by decide) (zlN hN (by decide)) (congrArg Prod.fst (sh151 ln)) rfl rfl rfl (cs rfl) (cs rfl) rfl (CX6_thrown (hN2 hN) f2 q3) (Nat.zero_add _).symm (Nat.zero_add _).symm (fun f3 => ?_)
  refine X_iload (pc' := 2443) dL_law_2441 rfl rfl ?_
  refine X_icmp_eq dL_law_2443 (tgt := 2448) rfl (pc' := 2446) rfl ⟨f3.1, f3.2, (inR_4 f1.1).1, (inR_4 f1.1).2⟩ (fun c4 => ?_) (fun c4 => ?_)
  · have h := if_t c4 h
    refine X_iload (pc' := 2450) dL_law_2448 rfl rfl ?_
    refine X_if_ne dL_law_2450 (tgt := 2485) rfl (pc' := 2453) rfl (inR_4 f1.1) (fun c5 => ?_) (fun c5 => ?_)
    · have h := if_f c5 h
      refine X_goto dL_law_2485 (tgt := 2960) rfl ?_
      cases h
      exact X_room (by omega) (by omega) (X_sub (sub_s (sub_s (sub_s (sub_s (sub_s (sub_s (sub_n (sub_n (sub_n sub_0))))))))) (k1 _ _ rfl (by omega) (by omega) f2))
    have h := if_t c5 h
    refine X_aload (pc' := 2455) dL_law_2453 rfl rfl ?_
    refine X_iconst (pc' := 2456) dL_law_2455 rfl ?_
    refine Y_dald (pc' := 2457) dL_law_2456 rfl (zlN hN (by decide)) (sh160 ln) (by decide) ⟨by decide, by decide⟩ ?_
    refine X_dload (pc' := 2459) dL_law_2457 rfl rfl ?_
    refine Y_dcmp (pc' := 2460) dL_law_2459 rfl ?_
    refine X_if_eq dL_law_2460 (tgt := 2485) rfl (pc' := 2463) rfl (inR_dcmp _ _) (fun c6 => ?_) (fun c6 => ?_)
    · have h := if_t c6 h
      refine X_goto dL_law_2485 (tgt := 2960) rfl ?_
      cases h
      exact X_room (by omega) (by omega) (X_sub (sub_s (sub_s (sub_s (sub_s (sub_s (sub_s (sub_n (sub_n (sub_n sub_0))))))))) (k1 _ _ rfl (by omega) (by omega) f2))
    have h := if_f c6 h
    refine X_aload (pc' := 2465) dL_law_2463 rfl rfl ?_
    refine X_iconst (pc' := 2466) dL_law_2465 rfl ?_
    refine Y_dald (pc' := 2467) dL_law_2466 rfl (zlN hN (by decide)) (sh160 ln) (by decide) ⟨by decide, by decide⟩ ?_
    refine X_aload (pc' := 2469) dL_law_2467 rfl rfl ?_
    refine X_iconst (pc' := 2470) dL_law_2469 rfl ?_
    refine Y_dald (pc' := 2471) dL_law_2470 rfl (zlN hN (by decide)) (sh160 ln) (by decide) ⟨by decide, by decide⟩ ?_
    refine Y_dcmp (pc' := 2472) dL_law_2471 rfl ?_
    refine X_if_eq dL_law_2472 (tgt := 2483) rfl (pc' := 2475) rfl (inR_dcmp _ _) (fun c7 => ?_) (fun c7 => ?_)
    · have h := if_t c7 h
      refine X_iconst (pc' := 2484) dL_law_2483 rfl ?_
      cases h
      exact X_zret dL_law_2484 rfl (Or.inl rfl) (k0 _ _ rfl (by omega) (by omega) f2)
    have h := if_f c7 h
    refine X_dload (pc' := 2477) dL_law_2475 rfl rfl ?_
    refine X_dload (pc' := 2479) dL_law_2477 rfl rfl ?_
    refine Y_dcmp (pc' := 2480) dL_law_2479 rfl ?_
    refine X_if_ne dL_law_2480 (tgt := 2485) rfl (pc' := 2483) rfl (inR_dcmp _ _) (fun c8 => ?_) (fun c8 => ?_)
    · have h := if_f c8 h
      refine X_goto dL_law_2485 (tgt := 2960) rfl ?_
      cases h
      exact X_room (by omega) (by omega) (X_sub (sub_s (sub_s (sub_s (sub_s (sub_s (sub_s (sub_n (sub_n (sub_n sub_0))))))))) (k1 _ _ rfl (by omega) (by omega) f2))
    have h := if_t c8 h
    refine X_iconst (pc' := 2484) dL_law_2483 rfl ?_
    cases h
    exact X_zret dL_law_2484 rfl (Or.inl rfl) (k0 _ _ rfl (by omega) (by omega) f2)
  have h := if_f c4 h
  refine X_iconst (pc' := 2447) dL_law_2446 rfl ?_
  cases h
  exact X_zret dL_law_2447 rfl (Or.inl rfl) (k0 _ _ rfl (by omega) (by omega) f2)
def fL_c37 (ln : Nat) (v5 : Int) (z : ZZ) : Option (Int × ZZ) := (if (0 : Int) ≤ ((v5 + 1)) ∧ ((v5 + 1)) < (ln : Int) then (Option.bind (fL_openWalls ((z 1000000 ((v5 + 1)))) z) fun q2 => match q2 with | (r2, z2) => (Option.bind (fX6_openWalls ((z2 1000000 ((v5 + 1)))) z2) fun q3 => match q3 with | (r3, z3) => (Option.bind (fX6_thrown z3) fun r4 => (if (r4) = (r2) then (if (r2) = (0) then (if ((zcmp ((z3 159 (0))) (r3))) = (0) then some (1, z3) else some (0, z3)) else some (1, z3)) else some (0, z3))))) else none)
set_option maxRecDepth 100000 in
theorem TL_c37 {ln N : Nat} {z : ZZ} {v5 : Int} {Nm c0 s0 : Nat} {c9 s9 : Nat} {Φ : xRes → xS → Prop} (hN : 161 ≤ N ∧ N < 999999) (hz : okz z) (hln : isLn ln) (rv5 : inR v5) {p : Int × ZZ} (h : fL_c37 ln v5 z = some p) (hR : N + 1 ≤ Nm ∧ c0 + 1 ≤ c9 ∧ s0 + 6 ≤ s9 ∧ Nm < 999999) (k1 : ∀ (N' : Nat) (z' : ZZ), p = (1, z') → 161 ≤ N' → N' ≤ Nm → okz z' → X mL_law 2960 [some (.ref (1000000)), some (.ref (0)), some (.ref (151)), some (.ref (159)), some (.ref (160)), some (.int (iN (v5))), none, none, none] [] (zmk ln N' z') c0 s0 Φ) (k0 : ∀ (N' : Nat) (z' : ZZ), p = (0, z') → 161 ≤ N' → N' ≤ Nm → okz z' → Φ (.inl (some (.int (iN 0)))) (zmk ln N' z')) : X mL_law 2488 [some (.ref (1000000)), some (.ref (0)), some (.ref (151)), some (.ref (159)), some (.ref (160)), some (.int (iN (v5))), none, none, none] [] (zmk ln N z) c9 s9 Φ := by
  unfold fL_c37 at h
  refine X_aload_n (pc' := 2489) dL_law_2488 rfl rfl ?_
  refine X_aload_n (pc' := 2490) dL_law_2489 rfl rfl ?_
  refine X_iload (pc' := 2492) dL_law_2490 rfl rfl ?_
  refine X_iconst (pc' := 2493) dL_law_2492 rfl ?_
  refine X_iadd (pc' := 2494) dL_law_2493 rfl ?_
  obtain ⟨g1, h⟩ := gs h
  refine Y_ialdS (pc' := 2495) dL_law_2494 rfl (shS ln) hln g1 ?_
  refine X_aload_n (pc' := 2496) dL_law_2495 rfl rfl ?_
  obtain ⟨⟨r2, z2⟩, q2, h⟩ := bs h
  refine Y_wrap [.ref (0), .int (iN ((z 1000000 ((v5 + 1))))), .ref (159)] (pc' := 2499) dL_law_2496 rfl SL_282 (by decide) rfl (cs rfl) (cs rfl) rfl (CL_openWalls hN hz (hz 1000000 ((v5 + 1)) (by decide)) q2) hN.1 hR (fun N1 c1 s1 hN hR f2 => ?_)
  refine X_istore (pc' := 2501) dL_law_2499 rfl (cl rfl) (Or.inr rfl) (L' := [some (.ref (1000000)), some (.ref (0)), some (.ref (151)), some (.ref (159)), some (.ref (160)), some (.int (iN (v5))), some (.int (iN (r2))), none, none]) rfl ?_
  refine X_aload_n (pc' := 2502) dL_law_2501 rfl rfl ?_
  refine X_aload_n (pc' := 2503) dL_law_2502 rfl rfl ?_
  refine X_iload (pc' := 2505) dL_law_2503 rfl rfl ?_
  refine X_iconst (pc' := 2506) dL_law_2505 rfl ?_
  refine X_iadd (pc' := 2507) dL_law_2506 rfl ?_
  refine Y_ialdS (pc' := 2508) dL_law_2507 rfl (shS ln) hln g1 ?_
  obtain ⟨⟨r3, z3⟩, q3, h⟩ := bs h
  refine Y_callV [.int (iN ((z2 1000000 ((v5 + 1)))))] (pc' := 2511) dL_law_2508 rfl VL_284 (by decide) (zlN hN (by decide)) (congrArg Prod.fst (sh151 ln)) rfl rfl rfl (cs rfl) (cs rfl) rfl (CX6_openWalls (hN2 hN) f2.2 (f2.2 1000000 ((v5 + 1)) (by decide)) q3) (Nat.zero_add _).symm (Nat.zero_add _).symm (fun f3 => ?_)
  refine X_istore (pc' := 2513) dL_law_2511 rfl (cl rfl) (Or.inr rfl) (L' := [some (.ref (1000000)), some (.ref (0)), some (.ref (151)), some (.ref (159)), some (.ref (160)), some (.int (iN (v5))), some (.int (iN (r2))), some (.int (iN (r3))), none]) rfl ?_
  refine X_aload_n (pc' := 2514) dL_law_2513 rfl rfl ?_
  obtain ⟨r4, q4, h⟩ := bs h
  refine Y_callV [] (pc' := 2517) dL_law_2514 rfl VL_162 (by decide) (zlN hN (by decide)) (congrArg Prod.fst (sh151 ln)) rfl rfl rfl (cs rfl) (cs rfl) rfl (CX6_thrown (hN2 hN) f3.2 q4) (Nat.zero_add _).symm (Nat.zero_add _).symm (fun f4 => ?_)
  refine X_iload (pc' := 2519) dL_law_2517 rfl rfl ?_
  refine X_icmp_eq dL_law_2519 (tgt := 2524) rfl (pc' := 2522) rfl ⟨f4.1, f4.2, (inR_4 f2.1).1, (inR_4 f2.1).2⟩ (fun c5 => ?_) (fun c5 => ?_)
  · have h := if_t c5 h
    refine X_iload (pc' := 2526) dL_law_2524 rfl rfl ?_
    refine X_if_ne dL_law_2526 (tgt := 2541) rfl (pc' := 2529) rfl (inR_4 f2.1) (fun c6 => ?_) (fun c6 => ?_)
    · have h := if_f c6 h
      refine X_goto dL_law_2541 (tgt := 2960) rfl ?_
      cases h
      exact X_room (by omega) (by omega) (X_sub (sub_s (sub_s (sub_s (sub_s (sub_s (sub_s (sub_n (sub_n (sub_n sub_0))))))))) (k1 _ _ rfl (by omega) (by omega) f3.2))
    have h := if_t c6 h
    refine X_aload_n (pc' := 2530) dL_law_2529 rfl rfl ?_
    refine X_iconst (pc' := 2531) dL_law_2530 rfl ?_
    refine Y_lald (pc' := 2532) dL_law_2531 rfl (zlN hN (by decide)) (sh159 ln) (by decide) ⟨by decide, by decide⟩ ?_
    refine X_iload (pc' := 2534) dL_law_2532 rfl rfl ?_
    refine X_lI_i2l (pc' := 2535) dL_law_2534 rfl f3.1 ?_
    refine X_lcmp (pc' := 2536) dL_law_2535 rfl ⟨(inL_R (f3.2 159 (0) (by decide))).1, (inL_R (f3.2 159 (0) (by decide))).2, (inL_R f3.1).1, (inL_R f3.1).2⟩ ?_
    refine X_if_eq dL_law_2536 (tgt := 2541) rfl (pc' := 2539) rfl (inR_cmp _ _) (fun c7 => ?_) (fun c7 => ?_)
    · have h := if_t c7 h
      refine X_goto dL_law_2541 (tgt := 2960) rfl ?_
      cases h
      exact X_room (by omega) (by omega) (X_sub (sub_s (sub_s (sub_s (sub_s (sub_s (sub_s (sub_n (sub_n (sub_n sub_0))))))))) (k1 _ _ rfl (by omega) (by omega) f3.2))
    have h := if_f c7 h
    refine X_iconst (pc' := 2540) dL_law_2539 rfl ?_
    cases h
    exact X_zret dL_law_2540 rfl (Or.inl rfl) (k0 _ _ rfl (by omega) (by omega) f3.2)
  have h := if_f c5 h
  refine X_iconst (pc' := 2523) dL_law_2522 rfl ?_
  cases h
  exact X_zret dL_law_2523 rfl (Or.inl rfl) (k0 _ _ rfl (by omega) (by omega) f3.2)
def fL_c38 (ln : Nat) (v5 : Int) (z : ZZ) : Option (Int × ZZ) := (if (0 : Int) ≤ ((v5 + 1)) ∧ ((v5 + 1)) < (ln : Int) then (Option.bind (fL_worstDay ((z 1000000 ((v5 + 1)))) z) fun q2 => match q2 with | (r2, z2) => (Option.bind (fX6_worstDay ((z2 1000000 ((v5 + 1)))) z2) fun q3 => match q3 with | (r3, z3) => (Option.bind (fX6_thrown z3) fun r4 => (if (r4) = (r2) then (if (r2) = (0) then (if ((zcmp ((z3 159 (0))) (r3))) = (0) then some (1, z3) else some (0, z3)) else some (1, z3)) else some (0, z3))))) else none)
set_option maxRecDepth 100000 in
theorem TL_c38 {ln N : Nat} {z : ZZ} {v5 : Int} {Nm c0 s0 : Nat} {c9 s9 : Nat} {Φ : xRes → xS → Prop} (hN : 161 ≤ N ∧ N < 999999) (hz : okz z) (hln : isLn ln) (rv5 : inR v5) {p : Int × ZZ} (h : fL_c38 ln v5 z = some p) (hR : N + 1 ≤ Nm ∧ c0 + 1 ≤ c9 ∧ s0 + 6 ≤ s9 ∧ Nm < 999999) (k1 : ∀ (N' : Nat) (z' : ZZ), p = (1, z') → 161 ≤ N' → N' ≤ Nm → okz z' → X mL_law 2960 [some (.ref (1000000)), some (.ref (0)), some (.ref (151)), some (.ref (159)), some (.ref (160)), some (.int (iN (v5))), none, none, none] [] (zmk ln N' z') c0 s0 Φ) (k0 : ∀ (N' : Nat) (z' : ZZ), p = (0, z') → 161 ≤ N' → N' ≤ Nm → okz z' → Φ (.inl (some (.int (iN 0)))) (zmk ln N' z')) : X mL_law 2544 [some (.ref (1000000)), some (.ref (0)), some (.ref (151)), some (.ref (159)), some (.ref (160)), some (.int (iN (v5))), none, none, none] [] (zmk ln N z) c9 s9 Φ := by
  unfold fL_c38 at h
  refine X_aload_n (pc' := 2545) dL_law_2544 rfl rfl ?_
  refine X_aload_n (pc' := 2546) dL_law_2545 rfl rfl ?_
  refine X_iload (pc' := 2548) dL_law_2546 rfl rfl ?_
  refine X_iconst (pc' := 2549) dL_law_2548 rfl ?_
  refine X_iadd (pc' := 2550) dL_law_2549 rfl ?_
  obtain ⟨g1, h⟩ := gs h
  refine Y_ialdS (pc' := 2551) dL_law_2550 rfl (shS ln) hln g1 ?_
  refine X_aload_n (pc' := 2552) dL_law_2551 rfl rfl ?_
  obtain ⟨⟨r2, z2⟩, q2, h⟩ := bs h
  refine Y_wrap [.ref (0), .int (iN ((z 1000000 ((v5 + 1))))), .ref (159)] (pc' := 2555) dL_law_2552 rfl SL_285 (by decide) rfl (cs rfl) (cs rfl) rfl (CL_worstDay hN hz (hz 1000000 ((v5 + 1)) (by decide)) q2) hN.1 hR (fun N1 c1 s1 hN hR f2 => ?_)
  refine X_istore (pc' := 2557) dL_law_2555 rfl (cl rfl) (Or.inr rfl) (L' := [some (.ref (1000000)), some (.ref (0)), some (.ref (151)), some (.ref (159)), some (.ref (160)), some (.int (iN (v5))), some (.int (iN (r2))), none, none]) rfl ?_
  refine X_aload_n (pc' := 2558) dL_law_2557 rfl rfl ?_
  refine X_aload_n (pc' := 2559) dL_law_2558 rfl rfl ?_
  refine X_iload (pc' := 2561) dL_law_2559 rfl rfl ?_
  refine X_iconst (pc' := 2562) dL_law_2561 rfl ?_
  refine X_iadd (pc' := 2563) dL_law_2562 rfl ?_
  refine Y_ialdS (pc' := 2564) dL_law_2563 rfl (shS ln) hln g1 ?_
  obtain ⟨⟨r3, z3⟩, q3, h⟩ := bs h
  refine Y_callV [.int (iN ((z2 1000000 ((v5 + 1)))))] (pc' := 2567) dL_law_2564 rfl VL_287 (by decide) (zlN hN (by decide)) (congrArg Prod.fst (sh151 ln)) rfl rfl rfl (cs rfl) (cs rfl) rfl (CX6_worstDay (hN2 hN) f2.2 (f2.2 1000000 ((v5 + 1)) (by decide)) q3) (Nat.zero_add _).symm (Nat.zero_add _).symm (fun f3 => ?_)
  refine X_istore (pc' := 2569) dL_law_2567 rfl (cl rfl) (Or.inr rfl) (L' := [some (.ref (1000000)), some (.ref (0)), some (.ref (151)), some (.ref (159)), some (.ref (160)), some (.int (iN (v5))), some (.int (iN (r2))), some (.int (iN (r3))), none]) rfl ?_
  refine X_aload_n (pc' := 2570) dL_law_2569 rfl rfl ?_
  obtain ⟨r4, q4, h⟩ := bs h
  refine Y_callV [] (pc' := 2573) dL_law_2570 rfl VL_162 (by decide) (zlN hN (by decide)) (congrArg Prod.fst (sh151 ln)) rfl rfl rfl (cs rfl) (cs rfl) rfl (CX6_thrown (hN2 hN) f3.2 q4) (Nat.zero_add _).symm (Nat.zero_add _).symm (fun f4 => ?_)
  refine X_iload (pc' := 2575) dL_law_2573 rfl rfl ?_
  refine X_icmp_eq dL_law_2575 (tgt := 2580) rfl (pc' := 2578) rfl ⟨f4.1, f4.2, (inR_4 f2.1).1, (inR_4 f2.1).2⟩ (fun c5 => ?_) (fun c5 => ?_)
  · have h := if_t c5 h
    refine X_iload (pc' := 2582) dL_law_2580 rfl rfl ?_
    refine X_if_ne dL_law_2582 (tgt := 2597) rfl (pc' := 2585) rfl (inR_4 f2.1) (fun c6 => ?_) (fun c6 => ?_)
    · have h := if_f c6 h
      refine X_goto dL_law_2597 (tgt := 2960) rfl ?_
      cases h
      exact X_room (by omega) (by omega) (X_sub (sub_s (sub_s (sub_s (sub_s (sub_s (sub_s (sub_n (sub_n (sub_n sub_0))))))))) (k1 _ _ rfl (by omega) (by omega) f3.2))
    have h := if_t c6 h
    refine X_aload_n (pc' := 2586) dL_law_2585 rfl rfl ?_
    refine X_iconst (pc' := 2587) dL_law_2586 rfl ?_
    refine Y_lald (pc' := 2588) dL_law_2587 rfl (zlN hN (by decide)) (sh159 ln) (by decide) ⟨by decide, by decide⟩ ?_
    refine X_iload (pc' := 2590) dL_law_2588 rfl rfl ?_
    refine X_lI_i2l (pc' := 2591) dL_law_2590 rfl f3.1 ?_
    refine X_lcmp (pc' := 2592) dL_law_2591 rfl ⟨(inL_R (f3.2 159 (0) (by decide))).1, (inL_R (f3.2 159 (0) (by decide))).2, (inL_R f3.1).1, (inL_R f3.1).2⟩ ?_
    refine X_if_eq dL_law_2592 (tgt := 2597) rfl (pc' := 2595) rfl (inR_cmp _ _) (fun c7 => ?_) (fun c7 => ?_)
    · have h := if_t c7 h
      refine X_goto dL_law_2597 (tgt := 2960) rfl ?_
      cases h
      exact X_room (by omega) (by omega) (X_sub (sub_s (sub_s (sub_s (sub_s (sub_s (sub_s (sub_n (sub_n (sub_n sub_0))))))))) (k1 _ _ rfl (by omega) (by omega) f3.2))
    have h := if_f c7 h
    refine X_iconst (pc' := 2596) dL_law_2595 rfl ?_
    cases h
    exact X_zret dL_law_2596 rfl (Or.inl rfl) (k0 _ _ rfl (by omega) (by omega) f3.2)
  have h := if_f c5 h
  refine X_iconst (pc' := 2579) dL_law_2578 rfl ?_
  cases h
  exact X_zret dL_law_2579 rfl (Or.inl rfl) (k0 _ _ rfl (by omega) (by omega) f3.2)
def fL_c39 (ln : Nat) (v5 : Int) (z : ZZ) : Option (Int × ZZ) := (if (0 : Int) ≤ ((v5 + 1)) ∧ ((v5 + 1)) < (ln : Int) then (Option.bind (fL_shiftFor ((z 1000000 ((v5 + 1)))) z) fun q2 => match q2 with | (r2, z2) => (Option.bind (fX6_shiftFor ((z2 1000000 ((v5 + 1)))) z2) fun q3 => match q3 with | (r3, z3) => (Option.bind (fX6_thrown z3) fun r4 => (if (r4) = (r2) then (if (r2) = (0) then (if ((zcmp ((z3 159 (0))) (r3))) = (0) then some (1, z3) else some (0, z3)) else some (1, z3)) else some (0, z3))))) else none)
set_option maxRecDepth 100000 in
theorem TL_c39 {ln N : Nat} {z : ZZ} {v5 : Int} {Nm c0 s0 : Nat} {c9 s9 : Nat} {Φ : xRes → xS → Prop} (hN : 161 ≤ N ∧ N < 999999) (hz : okz z) (hln : isLn ln) (rv5 : inR v5) {p : Int × ZZ} (h : fL_c39 ln v5 z = some p) (hR : N + 1 ≤ Nm ∧ c0 + 1 ≤ c9 ∧ s0 + 6 ≤ s9 ∧ Nm < 999999) (k1 : ∀ (N' : Nat) (z' : ZZ), p = (1, z') → 161 ≤ N' → N' ≤ Nm → okz z' → X mL_law 2960 [some (.ref (1000000)), some (.ref (0)), some (.ref (151)), some (.ref (159)), some (.ref (160)), some (.int (iN (v5))), none, none, none] [] (zmk ln N' z') c0 s0 Φ) (k0 : ∀ (N' : Nat) (z' : ZZ), p = (0, z') → 161 ≤ N' → N' ≤ Nm → okz z' → Φ (.inl (some (.int (iN 0)))) (zmk ln N' z')) : X mL_law 2600 [some (.ref (1000000)), some (.ref (0)), some (.ref (151)), some (.ref (159)), some (.ref (160)), some (.int (iN (v5))), none, none, none] [] (zmk ln N z) c9 s9 Φ := by
  unfold fL_c39 at h
  refine X_aload_n (pc' := 2601) dL_law_2600 rfl rfl ?_
  refine X_aload_n (pc' := 2602) dL_law_2601 rfl rfl ?_
  refine X_iload (pc' := 2604) dL_law_2602 rfl rfl ?_
  refine X_iconst (pc' := 2605) dL_law_2604 rfl ?_
  refine X_iadd (pc' := 2606) dL_law_2605 rfl ?_
  obtain ⟨g1, h⟩ := gs h
  refine Y_ialdS (pc' := 2607) dL_law_2606 rfl (shS ln) hln g1 ?_
  refine X_aload_n (pc' := 2608) dL_law_2607 rfl rfl ?_
  obtain ⟨⟨r2, z2⟩, q2, h⟩ := bs h
  refine Y_wrap [.ref (0), .int (iN ((z 1000000 ((v5 + 1))))), .ref (159)] (pc' := 2611) dL_law_2608 rfl SL_288 (by decide) rfl (cs rfl) (cs rfl) rfl (CL_shiftFor hN hz (hz 1000000 ((v5 + 1)) (by decide)) q2) hN.1 hR (fun N1 c1 s1 hN hR f2 => ?_)
  refine X_istore (pc' := 2613) dL_law_2611 rfl (cl rfl) (Or.inr rfl) (L' := [some (.ref (1000000)), some (.ref (0)), some (.ref (151)), some (.ref (159)), some (.ref (160)), some (.int (iN (v5))), some (.int (iN (r2))), none, none]) rfl ?_
  refine X_aload_n (pc' := 2614) dL_law_2613 rfl rfl ?_
  refine X_aload_n (pc' := 2615) dL_law_2614 rfl rfl ?_
  refine X_iload (pc' := 2617) dL_law_2615 rfl rfl ?_
  refine X_iconst (pc' := 2618) dL_law_2617 rfl ?_
  refine X_iadd (pc' := 2619) dL_law_2618 rfl ?_
  refine Y_ialdS (pc' := 2620) dL_law_2619 rfl (shS ln) hln g1 ?_
  obtain ⟨⟨r3, z3⟩, q3, h⟩ := bs h
  refine Y_callV [.int (iN ((z2 1000000 ((v5 + 1)))))] (pc' := 2623) dL_law_2620 rfl VL_290 (by decide) (zlN hN (by decide)) (congrArg Prod.fst (sh151 ln)) rfl rfl rfl (cs rfl) (cs rfl) rfl (CX6_shiftFor (hN2 hN) f2.2 (f2.2 1000000 ((v5 + 1)) (by decide)) q3) (Nat.zero_add _).symm (Nat.zero_add _).symm (fun f3 => ?_)
  refine X_istore (pc' := 2625) dL_law_2623 rfl (cl rfl) (Or.inr rfl) (L' := [some (.ref (1000000)), some (.ref (0)), some (.ref (151)), some (.ref (159)), some (.ref (160)), some (.int (iN (v5))), some (.int (iN (r2))), some (.int (iN (r3))), none]) rfl ?_
  refine X_aload_n (pc' := 2626) dL_law_2625 rfl rfl ?_
  obtain ⟨r4, q4, h⟩ := bs h
  refine Y_callV [] (pc' := 2629) dL_law_2626 rfl VL_162 (by decide) (zlN hN (by decide)) (congrArg Prod.fst (sh151 ln)) rfl rfl rfl (cs rfl) (cs rfl) rfl (CX6_thrown (hN2 hN) f3.2 q4) (Nat.zero_add _).symm (Nat.zero_add _).symm (fun f4 => ?_)
  refine X_iload (pc' := 2631) dL_law_2629 rfl rfl ?_
  refine X_icmp_eq dL_law_2631 (tgt := 2636) rfl (pc' := 2634) rfl ⟨f4.1, f4.2, (inR_4 f2.1).1, (inR_4 f2.1).2⟩ (fun c5 => ?_) (fun c5 => ?_)
  · have h := if_t c5 h
    refine X_iload (pc' := 2638) dL_law_2636 rfl rfl ?_
    refine X_if_ne dL_law_2638 (tgt := 2653) rfl (pc' := 2641) rfl (inR_4 f2.1) (fun c6 => ?_) (fun c6 => ?_)
    · have h := if_f c6 h
      refine X_goto dL_law_2653 (tgt := 2960) rfl ?_
      cases h
      exact X_room (by omega) (by omega) (X_sub (sub_s (sub_s (sub_s (sub_s (sub_s (sub_s (sub_n (sub_n (sub_n sub_0))))))))) (k1 _ _ rfl (by omega) (by omega) f3.2))
    have h := if_t c6 h
    refine X_aload_n (pc' := 2642) dL_law_2641 rfl rfl ?_
    refine X_iconst (pc' := 2643) dL_law_2642 rfl ?_
    refine Y_lald (pc' := 2644) dL_law_2643 rfl (zlN hN (by decide)) (sh159 ln) (by decide) ⟨by decide, by decide⟩ ?_
    refine X_iload (pc' := 2646) dL_law_2644 rfl rfl ?_
    refine X_lI_i2l (pc' := 2647) dL_law_2646 rfl f3.1 ?_
    refine X_lcmp (pc' := 2648) dL_law_2647 rfl ⟨(inL_R (f3.2 159 (0) (by decide))).1, (inL_R (f3.2 159 (0) (by decide))).2, (inL_R f3.1).1, (inL_R f3.1).2⟩ ?_
    refine X_if_eq dL_law_2648 (tgt := 2653) rfl (pc' := 2651) rfl (inR_cmp _ _) (fun c7 => ?_) (fun c7 => ?_)
    · have h := if_t c7 h
      refine X_goto dL_law_2653 (tgt := 2960) rfl ?_
      cases h
      exact X_room (by omega) (by omega) (X_sub (sub_s (sub_s (sub_s (sub_s (sub_s (sub_s (sub_n (sub_n (sub_n sub_0))))))))) (k1 _ _ rfl (by omega) (by omega) f3.2))
    have h := if_f c7 h
    refine X_iconst (pc' := 2652) dL_law_2651 rfl ?_
    cases h
    exact X_zret dL_law_2652 rfl (Or.inl rfl) (k0 _ _ rfl (by omega) (by omega) f3.2)
  have h := if_f c5 h
  refine X_iconst (pc' := 2635) dL_law_2634 rfl ?_
  cases h
  exact X_zret dL_law_2635 rfl (Or.inl rfl) (k0 _ _ rfl (by omega) (by omega) f3.2)
def fL_c40 (ln : Nat) (v5 : Int) (z : ZZ) : Option (Int × ZZ) := (if (0 : Int) ≤ ((v5 + 1)) ∧ ((v5 + 1)) < (ln : Int) then (Option.bind (fL_lendable ((z 1000000 ((v5 + 1)))) z) fun q2 => match q2 with | (r2, z2) => (Option.bind (fX6_lendable ((z2 1000000 ((v5 + 1)))) z2) fun q3 => match q3 with | (r3, z3) => (Option.bind (fX6_thrown z3) fun r4 => (if (r4) = (r2) then (if (r2) = (0) then (if ((zcmp ((z3 159 (0))) (r3))) = (0) then some (1, z3) else some (0, z3)) else some (1, z3)) else some (0, z3))))) else none)
set_option maxRecDepth 100000 in
theorem TL_c40 {ln N : Nat} {z : ZZ} {v5 : Int} {Nm c0 s0 : Nat} {c9 s9 : Nat} {Φ : xRes → xS → Prop} (hN : 161 ≤ N ∧ N < 999999) (hz : okz z) (hln : isLn ln) (rv5 : inR v5) {p : Int × ZZ} (h : fL_c40 ln v5 z = some p) (hR : N + 1 ≤ Nm ∧ c0 + 1 ≤ c9 ∧ s0 + 6 ≤ s9 ∧ Nm < 999999) (k1 : ∀ (N' : Nat) (z' : ZZ), p = (1, z') → 161 ≤ N' → N' ≤ Nm → okz z' → X mL_law 2960 [some (.ref (1000000)), some (.ref (0)), some (.ref (151)), some (.ref (159)), some (.ref (160)), some (.int (iN (v5))), none, none, none] [] (zmk ln N' z') c0 s0 Φ) (k0 : ∀ (N' : Nat) (z' : ZZ), p = (0, z') → 161 ≤ N' → N' ≤ Nm → okz z' → Φ (.inl (some (.int (iN 0)))) (zmk ln N' z')) : X mL_law 2656 [some (.ref (1000000)), some (.ref (0)), some (.ref (151)), some (.ref (159)), some (.ref (160)), some (.int (iN (v5))), none, none, none] [] (zmk ln N z) c9 s9 Φ := by
  unfold fL_c40 at h
  refine X_aload_n (pc' := 2657) dL_law_2656 rfl rfl ?_
  refine X_aload_n (pc' := 2658) dL_law_2657 rfl rfl ?_
  refine X_iload (pc' := 2660) dL_law_2658 rfl rfl ?_
  refine X_iconst (pc' := 2661) dL_law_2660 rfl ?_
  refine X_iadd (pc' := 2662) dL_law_2661 rfl ?_
  obtain ⟨g1, h⟩ := gs h
  refine Y_ialdS (pc' := 2663) dL_law_2662 rfl (shS ln) hln g1 ?_
  refine X_aload_n (pc' := 2664) dL_law_2663 rfl rfl ?_
  obtain ⟨⟨r2, z2⟩, q2, h⟩ := bs h
  refine Y_wrap [.ref (0), .int (iN ((z 1000000 ((v5 + 1))))), .ref (159)] (pc' := 2667) dL_law_2664 rfl SL_291 (by decide) rfl (cs rfl) (cs rfl) rfl (CL_lendable hN hz (hz 1000000 ((v5 + 1)) (by decide)) q2) hN.1 hR (fun N1 c1 s1 hN hR f2 => ?_)
  refine X_istore (pc' := 2669) dL_law_2667 rfl (cl rfl) (Or.inr rfl) (L' := [some (.ref (1000000)), some (.ref (0)), some (.ref (151)), some (.ref (159)), some (.ref (160)), some (.int (iN (v5))), some (.int (iN (r2))), none, none]) rfl ?_
  refine X_aload_n (pc' := 2670) dL_law_2669 rfl rfl ?_
  refine X_aload_n (pc' := 2671) dL_law_2670 rfl rfl ?_
  refine X_iload (pc' := 2673) dL_law_2671 rfl rfl ?_
  refine X_iconst (pc' := 2674) dL_law_2673 rfl ?_
  refine X_iadd (pc' := 2675) dL_law_2674 rfl ?_
  refine Y_ialdS (pc' := 2676) dL_law_2675 rfl (shS ln) hln g1 ?_
  obtain ⟨⟨r3, z3⟩, q3, h⟩ := bs h
  refine Y_callV [.int (iN ((z2 1000000 ((v5 + 1)))))] (pc' := 2679) dL_law_2676 rfl VL_293 (by decide) (zlN hN (by decide)) (congrArg Prod.fst (sh151 ln)) rfl rfl rfl (cs rfl) (cs rfl) rfl (CX6_lendable (hN2 hN) f2.2 (f2.2 1000000 ((v5 + 1)) (by decide)) q3) (Nat.zero_add _).symm (Nat.zero_add _).symm (fun f3 => ?_)
  refine X_istore (pc' := 2681) dL_law_2679 rfl (cl rfl) (Or.inr rfl) (L' := [some (.ref (1000000)), some (.ref (0)), some (.ref (151)), some (.ref (159)), some (.ref (160)), some (.int (iN (v5))), some (.int (iN (r2))), some (.int (iN (r3))), none]) rfl ?_
  refine X_aload_n (pc' := 2682) dL_law_2681 rfl rfl ?_
  obtain ⟨r4, q4, h⟩ := bs h
  refine Y_callV [] (pc' := 2685) dL_law_2682 rfl VL_162 (by decide) (zlN hN (by decide)) (congrArg Prod.fst (sh151 ln)) rfl rfl rfl (cs rfl) (cs rfl) rfl (CX6_thrown (hN2 hN) f3.2 q4) (Nat.zero_add _).symm (Nat.zero_add _).symm (fun f4 => ?_)
  refine X_iload (pc' := 2687) dL_law_2685 rfl rfl ?_
  refine X_icmp_eq dL_law_2687 (tgt := 2692) rfl (pc' := 2690) rfl ⟨f4.1, f4.2, (inR_4 f2.1).1, (inR_4 f2.1).2⟩ (fun c5 => ?_) (fun c5 => ?_)
  · have h := if_t c5 h
    refine X_iload (pc' := 2694) dL_law_2692 rfl rfl ?_
    refine X_if_ne dL_law_2694 (tgt := 2709) rfl (pc' := 2697) rfl (inR_4 f2.1) (fun c6 => ?_) (fun c6 => ?_)
    · have h := if_f c6 h
      refine X_goto dL_law_2709 (tgt := 2960) rfl ?_
      cases h
      exact X_room (by omega) (by omega) (X_sub (sub_s (sub_s (sub_s (sub_s (sub_s (sub_s (sub_n (sub_n (sub_n sub_0))))))))) (k1 _ _ rfl (by omega) (by omega) f3.2))
    have h := if_t c6 h
    refine X_aload_n (pc' := 2698) dL_law_2697 rfl rfl ?_
    refine X_iconst (pc' := 2699) dL_law_2698 rfl ?_
    refine Y_lald (pc' := 2700) dL_law_2699 rfl (zlN hN (by decide)) (sh159 ln) (by decide) ⟨by decide, by decide⟩ ?_
    refine X_iload (pc' := 2702) dL_law_2700 rfl rfl ?_
    refine X_lI_i2l (pc' := 2703) dL_law_2702 rfl f3.1 ?_
    refine X_lcmp (pc' := 2704) dL_law_2703 rfl ⟨(inL_R (f3.2 159 (0) (by decide))).1, (inL_R (f3.2 159 (0) (by decide))).2, (inL_R f3.1).1, (inL_R f3.1).2⟩ ?_
    refine X_if_eq dL_law_2704 (tgt := 2709) rfl (pc' := 2707) rfl (inR_cmp _ _) (fun c7 => ?_) (fun c7 => ?_)
    · have h := if_t c7 h
      refine X_goto dL_law_2709 (tgt := 2960) rfl ?_
      cases h
      exact X_room (by omega) (by omega) (X_sub (sub_s (sub_s (sub_s (sub_s (sub_s (sub_s (sub_n (sub_n (sub_n sub_0))))))))) (k1 _ _ rfl (by omega) (by omega) f3.2))
    have h := if_f c7 h
    refine X_iconst (pc' := 2708) dL_law_2707 rfl ?_
    cases h
    exact X_zret dL_law_2708 rfl (Or.inl rfl) (k0 _ _ rfl (by omega) (by omega) f3.2)
  have h := if_f c5 h
  refine X_iconst (pc' := 2691) dL_law_2690 rfl ?_
  cases h
  exact X_zret dL_law_2691 rfl (Or.inl rfl) (k0 _ _ rfl (by omega) (by omega) f3.2)
def fL_c41 (ln : Nat) (v5 : Int) (z : ZZ) : Option (Int × ZZ) := (if (0 : Int) ≤ ((v5 + 1)) ∧ ((v5 + 1)) < (ln : Int) then (Option.bind (fL_lapsing ((z 1000000 ((v5 + 1)))) z) fun q2 => match q2 with | (r2, z2) => (Option.bind (fX6_lapsing ((z2 1000000 ((v5 + 1)))) z2) fun q3 => match q3 with | (r3, z3) => (Option.bind (fX6_thrown z3) fun r4 => (if (r4) = (r2) then (if (r2) = (0) then (if ((zcmp ((z3 159 (0))) (r3))) = (0) then some (1, z3) else some (0, z3)) else some (1, z3)) else some (0, z3))))) else none)
set_option maxRecDepth 100000 in
theorem TL_c41 {ln N : Nat} {z : ZZ} {v5 : Int} {Nm c0 s0 : Nat} {c9 s9 : Nat} {Φ : xRes → xS → Prop} (hN : 161 ≤ N ∧ N < 999999) (hz : okz z) (hln : isLn ln) (rv5 : inR v5) {p : Int × ZZ} (h : fL_c41 ln v5 z = some p) (hR : N + 1 ≤ Nm ∧ c0 + 1 ≤ c9 ∧ s0 + 6 ≤ s9 ∧ Nm < 999999) (k1 : ∀ (N' : Nat) (z' : ZZ), p = (1, z') → 161 ≤ N' → N' ≤ Nm → okz z' → X mL_law 2960 [some (.ref (1000000)), some (.ref (0)), some (.ref (151)), some (.ref (159)), some (.ref (160)), some (.int (iN (v5))), none, none, none] [] (zmk ln N' z') c0 s0 Φ) (k0 : ∀ (N' : Nat) (z' : ZZ), p = (0, z') → 161 ≤ N' → N' ≤ Nm → okz z' → Φ (.inl (some (.int (iN 0)))) (zmk ln N' z')) : X mL_law 2712 [some (.ref (1000000)), some (.ref (0)), some (.ref (151)), some (.ref (159)), some (.ref (160)), some (.int (iN (v5))), none, none, none] [] (zmk ln N z) c9 s9 Φ := by
  unfold fL_c41 at h
  refine X_aload_n (pc' := 2713) dL_law_2712 rfl rfl ?_
  refine X_aload_n (pc' := 2714) dL_law_2713 rfl rfl ?_
  refine X_iload (pc' := 2716) dL_law_2714 rfl rfl ?_
  refine X_iconst (pc' := 2717) dL_law_2716 rfl ?_
  refine X_iadd (pc' := 2718) dL_law_2717 rfl ?_
  obtain ⟨g1, h⟩ := gs h
  refine Y_ialdS (pc' := 2719) dL_law_2718 rfl (shS ln) hln g1 ?_
  refine X_aload_n (pc' := 2720) dL_law_2719 rfl rfl ?_
  obtain ⟨⟨r2, z2⟩, q2, h⟩ := bs h
  refine Y_wrap [.ref (0), .int (iN ((z 1000000 ((v5 + 1))))), .ref (159)] (pc' := 2723) dL_law_2720 rfl SL_294 (by decide) rfl (cs rfl) (cs rfl) rfl (CL_lapsing hN hz (hz 1000000 ((v5 + 1)) (by decide)) q2) hN.1 hR (fun N1 c1 s1 hN hR f2 => ?_)
  refine X_istore (pc' := 2725) dL_law_2723 rfl (cl rfl) (Or.inr rfl) (L' := [some (.ref (1000000)), some (.ref (0)), some (.ref (151)), some (.ref (159)), some (.ref (160)), some (.int (iN (v5))), some (.int (iN (r2))), none, none]) rfl ?_
  refine X_aload_n (pc' := 2726) dL_law_2725 rfl rfl ?_
  refine X_aload_n (pc' := 2727) dL_law_2726 rfl rfl ?_
  refine X_iload (pc' := 2729) dL_law_2727 rfl rfl ?_
  refine X_iconst (pc' := 2730) dL_law_2729 rfl ?_
  refine X_iadd (pc' := 2731) dL_law_2730 rfl ?_
  refine Y_ialdS (pc' := 2732) dL_law_2731 rfl (shS ln) hln g1 ?_
  obtain ⟨⟨r3, z3⟩, q3, h⟩ := bs h
  refine Y_callV [.int (iN ((z2 1000000 ((v5 + 1)))))] (pc' := 2735) dL_law_2732 rfl VL_296 (by decide) (zlN hN (by decide)) (congrArg Prod.fst (sh151 ln)) rfl rfl rfl (cs rfl) (cs rfl) rfl (CX6_lapsing (hN2 hN) f2.2 (f2.2 1000000 ((v5 + 1)) (by decide)) q3) (Nat.zero_add _).symm (Nat.zero_add _).symm (fun f3 => ?_)
  refine X_istore (pc' := 2737) dL_law_2735 rfl (cl rfl) (Or.inr rfl) (L' := [some (.ref (1000000)), some (.ref (0)), some (.ref (151)), some (.ref (159)), some (.ref (160)), some (.int (iN (v5))), some (.int (iN (r2))), some (.int (iN (r3))), none]) rfl ?_
  refine X_aload_n (pc' := 2738) dL_law_2737 rfl rfl ?_
  obtain ⟨r4, q4, h⟩ := bs h
  refine Y_callV [] (pc' := 2741) dL_law_2738 rfl VL_162 (by decide) (zlN hN (by decide)) (congrArg Prod.fst (sh151 ln)) rfl rfl rfl (cs rfl) (cs rfl) rfl (CX6_thrown (hN2 hN) f3.2 q4) (Nat.zero_add _).symm (Nat.zero_add _).symm (fun f4 => ?_)
  refine X_iload (pc' := 2743) dL_law_2741 rfl rfl ?_
  refine X_icmp_eq dL_law_2743 (tgt := 2748) rfl (pc' := 2746) rfl ⟨f4.1, f4.2, (inR_4 f2.1).1, (inR_4 f2.1).2⟩ (fun c5 => ?_) (fun c5 => ?_)
  · have h := if_t c5 h
    refine X_iload (pc' := 2750) dL_law_2748 rfl rfl ?_
    refine X_if_ne dL_law_2750 (tgt := 2765) rfl (pc' := 2753) rfl (inR_4 f2.1) (fun c6 => ?_) (fun c6 => ?_)
    · have h := if_f c6 h
      refine X_goto dL_law_2765 (tgt := 2960) rfl ?_
      cases h
      exact X_room (by omega) (by omega) (X_sub (sub_s (sub_s (sub_s (sub_s (sub_s (sub_s (sub_n (sub_n (sub_n sub_0))))))))) (k1 _ _ rfl (by omega) (by omega) f3.2))
    have h := if_t c6 h
    refine X_aload_n (pc' := 2754) dL_law_2753 rfl rfl ?_
    refine X_iconst (pc' := 2755) dL_law_2754 rfl ?_
    refine Y_lald (pc' := 2756) dL_law_2755 rfl (zlN hN (by decide)) (sh159 ln) (by decide) ⟨by decide, by decide⟩ ?_
    refine X_iload (pc' := 2758) dL_law_2756 rfl rfl ?_
    refine X_lI_i2l (pc' := 2759) dL_law_2758 rfl f3.1 ?_
    refine X_lcmp (pc' := 2760) dL_law_2759 rfl ⟨(inL_R (f3.2 159 (0) (by decide))).1, (inL_R (f3.2 159 (0) (by decide))).2, (inL_R f3.1).1, (inL_R f3.1).2⟩ ?_
    refine X_if_eq dL_law_2760 (tgt := 2765) rfl (pc' := 2763) rfl (inR_cmp _ _) (fun c7 => ?_) (fun c7 => ?_)
    · have h := if_t c7 h
      refine X_goto dL_law_2765 (tgt := 2960) rfl ?_
      cases h
      exact X_room (by omega) (by omega) (X_sub (sub_s (sub_s (sub_s (sub_s (sub_s (sub_s (sub_n (sub_n (sub_n sub_0))))))))) (k1 _ _ rfl (by omega) (by omega) f3.2))
    have h := if_f c7 h
    refine X_iconst (pc' := 2764) dL_law_2763 rfl ?_
    cases h
    exact X_zret dL_law_2764 rfl (Or.inl rfl) (k0 _ _ rfl (by omega) (by omega) f3.2)
  have h := if_f c5 h
  refine X_iconst (pc' := 2747) dL_law_2746 rfl ?_
  cases h
  exact X_zret dL_law_2747 rfl (Or.inl rfl) (k0 _ _ rfl (by omega) (by omega) f3.2)
def fL_c42 (ln : Nat) (v5 : Int) (z : ZZ) : Option (Int × ZZ) := (if (0 : Int) ≤ ((v5 + 1)) ∧ ((v5 + 1)) < (ln : Int) then (if (0 : Int) ≤ ((v5 + 2)) ∧ ((v5 + 2)) < (ln : Int) then (Option.bind (fL_checksNeeded ((z 1000000 ((v5 + 1)))) ((z 1000000 ((v5 + 2)))) z) fun q3 => match q3 with | (r3, z3) => (Option.bind (fX6_checksNeeded ((z3 1000000 ((v5 + 1)))) ((z3 1000000 ((v5 + 2)))) z3) fun q4 => match q4 with | (r4, z4) => (Option.bind (fX6_thrown z4) fun r5 => (if (r5) = (r3) then (if (r3) = (0) then (if ((zcmp ((z4 159 (0))) (r4))) = (0) then some (1, z4) else some (0, z4)) else some (1, z4)) else some (0, z4))))) else none) else none)
set_option maxRecDepth 100000 in
theorem TL_c42 {ln N : Nat} {z : ZZ} {v5 : Int} {Nm c0 s0 : Nat} {c9 s9 : Nat} {Φ : xRes → xS → Prop} (hN : 161 ≤ N ∧ N < 999999) (hz : okz z) (hln : isLn ln) (rv5 : inR v5) {p : Int × ZZ} (h : fL_c42 ln v5 z = some p) (hR : N + 1 ≤ Nm ∧ c0 + 1 ≤ c9 ∧ s0 + 6 ≤ s9 ∧ Nm < 999999) (k1 : ∀ (N' : Nat) (z' : ZZ), p = (1, z') → 161 ≤ N' → N' ≤ Nm → okz z' → X mL_law 2960 [some (.ref (1000000)), some (.ref (0)), some (.ref (151)), some (.ref (159)), some (.ref (160)), some (.int (iN (v5))), none, none, none] [] (zmk ln N' z') c0 s0 Φ) (k0 : ∀ (N' : Nat) (z' : ZZ), p = (0, z') → 161 ≤ N' → N' ≤ Nm → okz z' → Φ (.inl (some (.int (iN 0)))) (zmk ln N' z')) : X mL_law 2768 [some (.ref (1000000)), some (.ref (0)), some (.ref (151)), some (.ref (159)), some (.ref (160)), some (.int (iN (v5))), none, none, none] [] (zmk ln N z) c9 s9 Φ := by
  unfold fL_c42 at h
  refine X_aload_n (pc' := 2769) dL_law_2768 rfl rfl ?_
  refine X_aload_n (pc' := 2770) dL_law_2769 rfl rfl ?_
  refine X_iload (pc' := 2772) dL_law_2770 rfl rfl ?_
  refine X_iconst (pc' := 2773) dL_law_2772 rfl ?_
  refine X_iadd (pc' := 2774) dL_law_2773 rfl ?_
  obtain ⟨g1, h⟩ := gs h
  refine Y_ialdS (pc' := 2775) dL_law_2774 rfl (shS ln) hln g1 ?_
  refine X_aload_n (pc' := 2776) dL_law_2775 rfl rfl ?_
  refine X_iload (pc' := 2778) dL_law_2776 rfl rfl ?_
  refine X_iconst (pc' := 2779) dL_law_2778 rfl ?_
  refine X_iadd (pc' := 2780) dL_law_2779 rfl ?_
  obtain ⟨g2, h⟩ := gs h
  refine Y_ialdS (pc' := 2781) dL_law_2780 rfl (shS ln) hln g2 ?_
  refine X_aload_n (pc' := 2782) dL_law_2781 rfl rfl ?_
  obtain ⟨⟨r3, z3⟩, q3, h⟩ := bs h
  refine Y_wrap [.ref (0), .int (iN ((z 1000000 ((v5 + 1))))), .int (iN ((z 1000000 ((v5 + 2))))), .ref (159)] (pc' := 2785) dL_law_2782 rfl SL_297 (by decide) rfl (cs rfl) (cs rfl) rfl (CL_checksNeeded hN hz (hz 1000000 ((v5 + 1)) (by decide)) (hz 1000000 ((v5 + 2)) (by decide)) q3) hN.1 hR (fun N1 c1 s1 hN hR f3 => ?_)
  refine X_istore (pc' := 2787) dL_law_2785 rfl (cl rfl) (Or.inr rfl) (L' := [some (.ref (1000000)), some (.ref (0)), some (.ref (151)), some (.ref (159)), some (.ref (160)), some (.int (iN (v5))), some (.int (iN (r3))), none, none]) rfl ?_
  refine X_aload_n (pc' := 2788) dL_law_2787 rfl rfl ?_
  refine X_aload_n (pc' := 2789) dL_law_2788 rfl rfl ?_
  refine X_iload (pc' := 2791) dL_law_2789 rfl rfl ?_
  refine X_iconst (pc' := 2792) dL_law_2791 rfl ?_
  refine X_iadd (pc' := 2793) dL_law_2792 rfl ?_
  refine Y_ialdS (pc' := 2794) dL_law_2793 rfl (shS ln) hln g1 ?_
  refine X_aload_n (pc' := 2795) dL_law_2794 rfl rfl ?_
  refine X_iload (pc' := 2797) dL_law_2795 rfl rfl ?_
  refine X_iconst (pc' := 2798) dL_law_2797 rfl ?_
  refine X_iadd (pc' := 2799) dL_law_2798 rfl ?_
  refine Y_ialdS (pc' := 2800) dL_law_2799 rfl (shS ln) hln g2 ?_
  obtain ⟨⟨r4, z4⟩, q4, h⟩ := bs h
  refine Y_callV [.int (iN ((z3 1000000 ((v5 + 1))))), .int (iN ((z3 1000000 ((v5 + 2)))))] (pc' := 2803) dL_law_2800 rfl VL_299 (by decide) (zlN hN (by decide)) (congrArg Prod.fst (sh151 ln)) rfl rfl rfl (cs rfl) (cs rfl) rfl (CX6_checksNeeded (hN2 hN) f3.2 (f3.2 1000000 ((v5 + 1)) (by decide)) (f3.2 1000000 ((v5 + 2)) (by decide)) q4) (Nat.zero_add _).symm (Nat.zero_add _).symm (fun f4 => ?_)
  refine X_istore (pc' := 2805) dL_law_2803 rfl (cl rfl) (Or.inr rfl) (L' := [some (.ref (1000000)), some (.ref (0)), some (.ref (151)), some (.ref (159)), some (.ref (160)), some (.int (iN (v5))), some (.int (iN (r3))), some (.int (iN (r4))), none]) rfl ?_
  refine X_aload_n (pc' := 2806) dL_law_2805 rfl rfl ?_
  obtain ⟨r5, q5, h⟩ := bs h
  refine Y_callV [] (pc' := 2809) dL_law_2806 rfl VL_162 (by decide) (zlN hN (by decide)) (congrArg Prod.fst (sh151 ln)) rfl rfl rfl (cs rfl) (cs rfl) rfl (CX6_thrown (hN2 hN) f4.2 q5) (Nat.zero_add _).symm (Nat.zero_add _).symm (fun f5 => ?_)
  refine X_iload (pc' := 2811) dL_law_2809 rfl rfl ?_
  refine X_icmp_eq dL_law_2811 (tgt := 2816) rfl (pc' := 2814) rfl ⟨f5.1, f5.2, (inR_4 f3.1).1, (inR_4 f3.1).2⟩ (fun c6 => ?_) (fun c6 => ?_)
  · have h := if_t c6 h
    refine X_iload (pc' := 2818) dL_law_2816 rfl rfl ?_
    refine X_if_ne dL_law_2818 (tgt := 2833) rfl (pc' := 2821) rfl (inR_4 f3.1) (fun c7 => ?_) (fun c7 => ?_)
    · have h := if_f c7 h
      refine X_goto dL_law_2833 (tgt := 2960) rfl ?_
      cases h
      exact X_room (by omega) (by omega) (X_sub (sub_s (sub_s (sub_s (sub_s (sub_s (sub_s (sub_n (sub_n (sub_n sub_0))))))))) (k1 _ _ rfl (by omega) (by omega) f4.2))
    have h := if_t c7 h
    refine X_aload_n (pc' := 2822) dL_law_2821 rfl rfl ?_
    refine X_iconst (pc' := 2823) dL_law_2822 rfl ?_
    refine Y_lald (pc' := 2824) dL_law_2823 rfl (zlN hN (by decide)) (sh159 ln) (by decide) ⟨by decide, by decide⟩ ?_
    refine X_iload (pc' := 2826) dL_law_2824 rfl rfl ?_
    refine X_lI_i2l (pc' := 2827) dL_law_2826 rfl f4.1 ?_
    refine X_lcmp (pc' := 2828) dL_law_2827 rfl ⟨(inL_R (f4.2 159 (0) (by decide))).1, (inL_R (f4.2 159 (0) (by decide))).2, (inL_R f4.1).1, (inL_R f4.1).2⟩ ?_
    refine X_if_eq dL_law_2828 (tgt := 2833) rfl (pc' := 2831) rfl (inR_cmp _ _) (fun c8 => ?_) (fun c8 => ?_)
    · have h := if_t c8 h
      refine X_goto dL_law_2833 (tgt := 2960) rfl ?_
      cases h
      exact X_room (by omega) (by omega) (X_sub (sub_s (sub_s (sub_s (sub_s (sub_s (sub_s (sub_n (sub_n (sub_n sub_0))))))))) (k1 _ _ rfl (by omega) (by omega) f4.2))
    have h := if_f c8 h
    refine X_iconst (pc' := 2832) dL_law_2831 rfl ?_
    cases h
    exact X_zret dL_law_2832 rfl (Or.inl rfl) (k0 _ _ rfl (by omega) (by omega) f4.2)
  have h := if_f c6 h
  refine X_iconst (pc' := 2815) dL_law_2814 rfl ?_
  cases h
  exact X_zret dL_law_2815 rfl (Or.inl rfl) (k0 _ _ rfl (by omega) (by omega) f4.2)
def fL_c43 (ln : Nat) (v5 : Int) (z : ZZ) : Option (Int × ZZ) := (if (0 : Int) ≤ ((v5 + 1)) ∧ ((v5 + 1)) < (ln : Int) then (Option.bind (fL_allowedRoutes ((z 1000000 ((v5 + 1)))) z) fun q2 => match q2 with | (r2, z2) => (Option.bind (fX6_allowedRoutes ((z2 1000000 ((v5 + 1)))) z2) fun q3 => match q3 with | (r3, z3) => (Option.bind (fX6_thrown z3) fun r4 => (if (r4) = (r2) then (if (r2) = (0) then (if ((zcmp ((z3 159 (0))) (r3))) = (0) then some (1, z3) else some (0, z3)) else some (1, z3)) else some (0, z3))))) else none)
set_option maxRecDepth 100000 in
theorem TL_c43 {ln N : Nat} {z : ZZ} {v5 : Int} {Nm c0 s0 : Nat} {c9 s9 : Nat} {Φ : xRes → xS → Prop} (hN : 161 ≤ N ∧ N < 999999) (hz : okz z) (hln : isLn ln) (rv5 : inR v5) {p : Int × ZZ} (h : fL_c43 ln v5 z = some p) (hR : N + 1 ≤ Nm ∧ c0 + 1 ≤ c9 ∧ s0 + 6 ≤ s9 ∧ Nm < 999999) (k1 : ∀ (N' : Nat) (z' : ZZ), p = (1, z') → 161 ≤ N' → N' ≤ Nm → okz z' → X mL_law 2960 [some (.ref (1000000)), some (.ref (0)), some (.ref (151)), some (.ref (159)), some (.ref (160)), some (.int (iN (v5))), none, none, none] [] (zmk ln N' z') c0 s0 Φ) (k0 : ∀ (N' : Nat) (z' : ZZ), p = (0, z') → 161 ≤ N' → N' ≤ Nm → okz z' → Φ (.inl (some (.int (iN 0)))) (zmk ln N' z')) : X mL_law 2836 [some (.ref (1000000)), some (.ref (0)), some (.ref (151)), some (.ref (159)), some (.ref (160)), some (.int (iN (v5))), none, none, none] [] (zmk ln N z) c9 s9 Φ := by
  unfold fL_c43 at h
  refine X_aload_n (pc' := 2837) dL_law_2836 rfl rfl ?_
  refine X_aload_n (pc' := 2838) dL_law_2837 rfl rfl ?_
  refine X_iload (pc' := 2840) dL_law_2838 rfl rfl ?_
  refine X_iconst (pc' := 2841) dL_law_2840 rfl ?_
  refine X_iadd (pc' := 2842) dL_law_2841 rfl ?_
  obtain ⟨g1, h⟩ := gs h
  refine Y_ialdS (pc' := 2843) dL_law_2842 rfl (shS ln) hln g1 ?_
  refine X_aload_n (pc' := 2844) dL_law_2843 rfl rfl ?_
  obtain ⟨⟨r2, z2⟩, q2, h⟩ := bs h
  refine Y_wrap [.ref (0), .int (iN ((z 1000000 ((v5 + 1))))), .ref (159)] (pc' := 2847) dL_law_2844 rfl SL_300 (by decide) rfl (cs rfl) (cs rfl) rfl (CL_allowedRoutes hN hz (hz 1000000 ((v5 + 1)) (by decide)) q2) hN.1 hR (fun N1 c1 s1 hN hR f2 => ?_)
  refine X_istore (pc' := 2849) dL_law_2847 rfl (cl rfl) (Or.inr rfl) (L' := [some (.ref (1000000)), some (.ref (0)), some (.ref (151)), some (.ref (159)), some (.ref (160)), some (.int (iN (v5))), some (.int (iN (r2))), none, none]) rfl ?_
  refine X_aload_n (pc' := 2850) dL_law_2849 rfl rfl ?_
  refine X_aload_n (pc' := 2851) dL_law_2850 rfl rfl ?_
  refine X_iload (pc' := 2853) dL_law_2851 rfl rfl ?_
  refine X_iconst (pc' := 2854) dL_law_2853 rfl ?_
  refine X_iadd (pc' := 2855) dL_law_2854 rfl ?_
  refine Y_ialdS (pc' := 2856) dL_law_2855 rfl (shS ln) hln g1 ?_
  obtain ⟨⟨r3, z3⟩, q3, h⟩ := bs h
  refine Y_callV [.int (iN ((z2 1000000 ((v5 + 1)))))] (pc' := 2859) dL_law_2856 rfl VL_302 (by decide) (zlN hN (by decide)) (congrArg Prod.fst (sh151 ln)) rfl rfl rfl (cs rfl) (cs rfl) rfl (CX6_allowedRoutes (hN2 hN) f2.2 (f2.2 1000000 ((v5 + 1)) (by decide)) q3) (Nat.zero_add _).symm (Nat.zero_add _).symm (fun f3 => ?_)
  refine X_istore (pc' := 2861) dL_law_2859 rfl (cl rfl) (Or.inr rfl) (L' := [some (.ref (1000000)), some (.ref (0)), some (.ref (151)), some (.ref (159)), some (.ref (160)), some (.int (iN (v5))), some (.int (iN (r2))), some (.int (iN (r3))), none]) rfl ?_
  refine X_aload_n (pc' := 2862) dL_law_2861 rfl rfl ?_
  obtain ⟨r4, q4, h⟩ := bs h
  refine Y_callV [] (pc' := 2865) dL_law_2862 rfl VL_162 (by decide) (zlN hN (by decide)) (congrArg Prod.fst (sh151 ln)) rfl rfl rfl (cs rfl) (cs rfl) rfl (CX6_thrown (hN2 hN) f3.2 q4) (Nat.zero_add _).symm (Nat.zero_add _).symm (fun f4 => ?_)
  refine X_iload (pc' := 2867) dL_law_2865 rfl rfl ?_
  refine X_icmp_eq dL_law_2867 (tgt := 2872) rfl (pc' := 2870) rfl ⟨f4.1, f4.2, (inR_4 f2.1).1, (inR_4 f2.1).2⟩ (fun c5 => ?_) (fun c5 => ?_)
  · have h := if_t c5 h
    refine X_iload (pc' := 2874) dL_law_2872 rfl rfl ?_
    refine X_if_ne dL_law_2874 (tgt := 2889) rfl (pc' := 2877) rfl (inR_4 f2.1) (fun c6 => ?_) (fun c6 => ?_)
    · have h := if_f c6 h
      refine X_goto dL_law_2889 (tgt := 2960) rfl ?_
      cases h
      exact X_room (by omega) (by omega) (X_sub (sub_s (sub_s (sub_s (sub_s (sub_s (sub_s (sub_n (sub_n (sub_n sub_0))))))))) (k1 _ _ rfl (by omega) (by omega) f3.2))
    have h := if_t c6 h
    refine X_aload_n (pc' := 2878) dL_law_2877 rfl rfl ?_
    refine X_iconst (pc' := 2879) dL_law_2878 rfl ?_
    refine Y_lald (pc' := 2880) dL_law_2879 rfl (zlN hN (by decide)) (sh159 ln) (by decide) ⟨by decide, by decide⟩ ?_
    refine X_iload (pc' := 2882) dL_law_2880 rfl rfl ?_
    refine X_lI_i2l (pc' := 2883) dL_law_2882 rfl f3.1 ?_
    refine X_lcmp (pc' := 2884) dL_law_2883 rfl ⟨(inL_R (f3.2 159 (0) (by decide))).1, (inL_R (f3.2 159 (0) (by decide))).2, (inL_R f3.1).1, (inL_R f3.1).2⟩ ?_
    refine X_if_eq dL_law_2884 (tgt := 2889) rfl (pc' := 2887) rfl (inR_cmp _ _) (fun c7 => ?_) (fun c7 => ?_)
    · have h := if_t c7 h
      refine X_goto dL_law_2889 (tgt := 2960) rfl ?_
      cases h
      exact X_room (by omega) (by omega) (X_sub (sub_s (sub_s (sub_s (sub_s (sub_s (sub_s (sub_n (sub_n (sub_n sub_0))))))))) (k1 _ _ rfl (by omega) (by omega) f3.2))
    have h := if_f c7 h
    refine X_iconst (pc' := 2888) dL_law_2887 rfl ?_
    cases h
    exact X_zret dL_law_2888 rfl (Or.inl rfl) (k0 _ _ rfl (by omega) (by omega) f3.2)
  have h := if_f c5 h
  refine X_iconst (pc' := 2871) dL_law_2870 rfl ?_
  cases h
  exact X_zret dL_law_2871 rfl (Or.inl rfl) (k0 _ _ rfl (by omega) (by omega) f3.2)
def fL_c44 (ln : Nat) (v5 : Int) (z : ZZ) : Option (Int × ZZ) := (if (0 : Int) ≤ ((v5 + 1)) ∧ ((v5 + 1)) < (ln : Int) then (if (0 : Int) ≤ ((v5 + 2)) ∧ ((v5 + 2)) < (ln : Int) then (Option.bind (fL_ladder ((z 1000000 ((v5 + 1)))) ((z 1000000 ((v5 + 2)))) z) fun q3 => match q3 with | (r3, z3) => (Option.bind (fX6_ladder ((z3 1000000 ((v5 + 1)))) ((z3 1000000 ((v5 + 2)))) z3) fun q4 => match q4 with | (r4, z4) => (Option.bind (fX6_thrown z4) fun r5 => (if (r5) = (r3) then (if (r3) = (0) then (if ((zcmp ((z4 159 (0))) (r4))) = (0) then some (1, z4) else some (0, z4)) else some (1, z4)) else some (0, z4))))) else none) else none)
set_option maxRecDepth 100000 in
theorem TL_c44 {ln N : Nat} {z : ZZ} {v5 : Int} {Nm c0 s0 : Nat} {c9 s9 : Nat} {Φ : xRes → xS → Prop} (hN : 161 ≤ N ∧ N < 999999) (hz : okz z) (hln : isLn ln) (rv5 : inR v5) {p : Int × ZZ} (h : fL_c44 ln v5 z = some p) (hR : N + 1 ≤ Nm ∧ c0 + 1 ≤ c9 ∧ s0 + 6 ≤ s9 ∧ Nm < 999999) (k1 : ∀ (N' : Nat) (z' : ZZ), p = (1, z') → 161 ≤ N' → N' ≤ Nm → okz z' → X mL_law 2960 [some (.ref (1000000)), some (.ref (0)), some (.ref (151)), some (.ref (159)), some (.ref (160)), some (.int (iN (v5))), none, none, none] [] (zmk ln N' z') c0 s0 Φ) (k0 : ∀ (N' : Nat) (z' : ZZ), p = (0, z') → 161 ≤ N' → N' ≤ Nm → okz z' → Φ (.inl (some (.int (iN 0)))) (zmk ln N' z')) : X mL_law 2892 [some (.ref (1000000)), some (.ref (0)), some (.ref (151)), some (.ref (159)), some (.ref (160)), some (.int (iN (v5))), none, none, none] [] (zmk ln N z) c9 s9 Φ := by
  unfold fL_c44 at h
  refine X_aload_n (pc' := 2893) dL_law_2892 rfl rfl ?_
  refine X_aload_n (pc' := 2894) dL_law_2893 rfl rfl ?_
  refine X_iload (pc' := 2896) dL_law_2894 rfl rfl ?_
  refine X_iconst (pc' := 2897) dL_law_2896 rfl ?_
  refine X_iadd (pc' := 2898) dL_law_2897 rfl ?_
  obtain ⟨g1, h⟩ := gs h
  refine Y_ialdS (pc' := 2899) dL_law_2898 rfl (shS ln) hln g1 ?_
  refine X_aload_n (pc' := 2900) dL_law_2899 rfl rfl ?_
  refine X_iload (pc' := 2902) dL_law_2900 rfl rfl ?_
  refine X_iconst (pc' := 2903) dL_law_2902 rfl ?_
  refine X_iadd (pc' := 2904) dL_law_2903 rfl ?_
  obtain ⟨g2, h⟩ := gs h
  refine Y_ialdS (pc' := 2905) dL_law_2904 rfl (shS ln) hln g2 ?_
  refine X_aload_n (pc' := 2906) dL_law_2905 rfl rfl ?_
  obtain ⟨⟨r3, z3⟩, q3, h⟩ := bs h
  refine Y_wrap [.ref (0), .int (iN ((z 1000000 ((v5 + 1))))), .int (iN ((z 1000000 ((v5 + 2))))), .ref (159)] (pc' := 2909) dL_law_2906 rfl SL_303 (by decide) rfl (cs rfl) (cs rfl) rfl (CL_ladder hN hz (hz 1000000 ((v5 + 1)) (by decide)) (hz 1000000 ((v5 + 2)) (by decide)) q3) hN.1 hR (fun N1 c1 s1 hN hR f3 => ?_)
  refine X_istore (pc' := 2911) dL_law_2909 rfl (cl rfl) (Or.inr rfl) (L' := [some (.ref (1000000)), some (.ref (0)), some (.ref (151)), some (.ref (159)), some (.ref (160)), some (.int (iN (v5))), some (.int (iN (r3))), none, none]) rfl ?_
  refine X_aload_n (pc' := 2912) dL_law_2911 rfl rfl ?_
  refine X_aload_n (pc' := 2913) dL_law_2912 rfl rfl ?_
  refine X_iload (pc' := 2915) dL_law_2913 rfl rfl ?_
  refine X_iconst (pc' := 2916) dL_law_2915 rfl ?_
  refine X_iadd (pc' := 2917) dL_law_2916 rfl ?_
  refine Y_ialdS (pc' := 2918) dL_law_2917 rfl (shS ln) hln g1 ?_
  refine X_aload_n (pc' := 2919) dL_law_2918 rfl rfl ?_
  refine X_iload (pc' := 2921) dL_law_2919 rfl rfl ?_
  refine X_iconst (pc' := 2922) dL_law_2921 rfl ?_
  refine X_iadd (pc' := 2923) dL_law_2922 rfl ?_
  refine Y_ialdS (pc' := 2924) dL_law_2923 rfl (shS ln) hln g2 ?_
  obtain ⟨⟨r4, z4⟩, q4, h⟩ := bs h
  refine Y_callV [.int (iN ((z3 1000000 ((v5 + 1))))), .int (iN ((z3 1000000 ((v5 + 2)))))] (pc' := 2927) dL_law_2924 rfl VL_305 (by decide) (zlN hN (by decide)) (congrArg Prod.fst (sh151 ln)) rfl rfl rfl (cs rfl) (cs rfl) rfl (CX6_ladder (hN2 hN) f3.2 (f3.2 1000000 ((v5 + 1)) (by decide)) (f3.2 1000000 ((v5 + 2)) (by decide)) q4) (Nat.zero_add _).symm (Nat.zero_add _).symm (fun f4 => ?_)
  refine X_istore (pc' := 2929) dL_law_2927 rfl (cl rfl) (Or.inr rfl) (L' := [some (.ref (1000000)), some (.ref (0)), some (.ref (151)), some (.ref (159)), some (.ref (160)), some (.int (iN (v5))), some (.int (iN (r3))), some (.int (iN (r4))), none]) rfl ?_
  refine X_aload_n (pc' := 2930) dL_law_2929 rfl rfl ?_
  obtain ⟨r5, q5, h⟩ := bs h
  refine Y_callV [] (pc' := 2933) dL_law_2930 rfl VL_162 (by decide) (zlN hN (by decide)) (congrArg Prod.fst (sh151 ln)) rfl rfl rfl (cs rfl) (cs rfl) rfl (CX6_thrown (hN2 hN) f4.2 q5) (Nat.zero_add _).symm (Nat.zero_add _).symm (fun f5 => ?_)
  refine X_iload (pc' := 2935) dL_law_2933 rfl rfl ?_
  refine X_icmp_eq dL_law_2935 (tgt := 2940) rfl (pc' := 2938) rfl ⟨f5.1, f5.2, (inR_4 f3.1).1, (inR_4 f3.1).2⟩ (fun c6 => ?_) (fun c6 => ?_)
  · have h := if_t c6 h
    refine X_iload (pc' := 2942) dL_law_2940 rfl rfl ?_
    refine X_if_ne dL_law_2942 (tgt := 2957) rfl (pc' := 2945) rfl (inR_4 f3.1) (fun c7 => ?_) (fun c7 => ?_)
    · have h := if_f c7 h
      refine X_goto dL_law_2957 (tgt := 2960) rfl ?_
      cases h
      exact X_room (by omega) (by omega) (X_sub (sub_s (sub_s (sub_s (sub_s (sub_s (sub_s (sub_n (sub_n (sub_n sub_0))))))))) (k1 _ _ rfl (by omega) (by omega) f4.2))
    have h := if_t c7 h
    refine X_aload_n (pc' := 2946) dL_law_2945 rfl rfl ?_
    refine X_iconst (pc' := 2947) dL_law_2946 rfl ?_
    refine Y_lald (pc' := 2948) dL_law_2947 rfl (zlN hN (by decide)) (sh159 ln) (by decide) ⟨by decide, by decide⟩ ?_
    refine X_iload (pc' := 2950) dL_law_2948 rfl rfl ?_
    refine X_lI_i2l (pc' := 2951) dL_law_2950 rfl f4.1 ?_
    refine X_lcmp (pc' := 2952) dL_law_2951 rfl ⟨(inL_R (f4.2 159 (0) (by decide))).1, (inL_R (f4.2 159 (0) (by decide))).2, (inL_R f4.1).1, (inL_R f4.1).2⟩ ?_
    refine X_if_eq dL_law_2952 (tgt := 2957) rfl (pc' := 2955) rfl (inR_cmp _ _) (fun c8 => ?_) (fun c8 => ?_)
    · have h := if_t c8 h
      refine X_goto dL_law_2957 (tgt := 2960) rfl ?_
      cases h
      exact X_room (by omega) (by omega) (X_sub (sub_s (sub_s (sub_s (sub_s (sub_s (sub_s (sub_n (sub_n (sub_n sub_0))))))))) (k1 _ _ rfl (by omega) (by omega) f4.2))
    have h := if_f c8 h
    refine X_iconst (pc' := 2956) dL_law_2955 rfl ?_
    cases h
    exact X_zret dL_law_2956 rfl (Or.inl rfl) (k0 _ _ rfl (by omega) (by omega) f4.2)
  have h := if_f c6 h
  refine X_iconst (pc' := 2939) dL_law_2938 rfl ?_
  cases h
  exact X_zret dL_law_2939 rfl (Or.inl rfl) (k0 _ _ rfl (by omega) (by omega) f4.2)

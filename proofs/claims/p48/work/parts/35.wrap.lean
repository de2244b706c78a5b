/-! the law's little methods: a call with its handlers -/
def fL_append (v1 : Int) (z : ZZ) : Option (Int × ZZ × Nat) := Option.bind (fX5_append v1 0 0 0 0 z) fun q => match q with | (.inl r, z1) => some (r, z1, 0) | (.inr E, z1) => (if E = 2 then some ((-1000000003), z1, 1) else none)
set_option maxRecDepth 100000 in
theorem CL_append {ln : Nat} {D : DD} {z : ZZ} {v1 : Int} (hD : okD D) (hz : okz z) (rv1 : inR v1) {p : Int × ZZ × Nat} (h : fL_append v1 z = some p) : X mL_append 0 (xEnt [.ref 0, .int (iN (v1))] (xL mL_append)) [] (sD ln D z) p.2.2 (6 * p.2.2) (Qd (okz p.2.1 ∧ inR p.1) (.inl (some (.int (iN p.1)))) (sD ln (djn p.2.2 D) p.2.1)) := by
  unfold fL_append at h
  obtain ⟨⟨r | E, z1⟩, e, h⟩ := bs h
  · cases h
    show X mL_append 0 _ [] (sD ln D z) 0 0 (Qd (okz z1 ∧ inR r) (.inl (some (.int (iN r)))) (sD ln D z1))
    refine E_ent (c1_f rfl (c1_i c1_n)) (M := [some (.ref 0), some (.int (iN (v1))), none]) rfl ?_
    refine X_aload_n (pc' := 1) dL_append_0 rfl rfl ?_
    refine X_iload_n (pc' := 2) dL_append_1 rfl rfl ?_
    refine X_iconst (pc' := 3) dL_append_2 rfl ?_
    refine X_iconst (pc' := 4) dL_append_3 rfl ?_
    refine X_iconst (pc' := 5) dL_append_4 rfl ?_
    refine X_iconst (pc' := 6) dL_append_5 rfl ?_
    refine E0_callMH [.int (iN (v1)), .int (iN (0)), .int (iN (0)), .int (iN (0)), .int (iN (0))] (pc' := 9) dL_append_6 rfl VL_14 (by decide) rfl rfl (c1_i (c1_i (c1_i (c1_i (c1_i c1_n))))) (cs rfl) c1_n (cs rfl) rfl hD (show X mX5_append 0 (xEnt [.ref 0, .int (iN (v1)), .int (iN (0)), .int (iN (0)), .int (iN (0)), .int (iN (0))] (xL mX5_append)) [] (zmk (ln, D) (dT D).toNat z) 0 0 (Qd (inR r ∧ okz z1) (.inl (some (.int (iN r)))) (zmk (ln, D) (dT D).toNat z1)) from CX5_append (hNm hD) hz rv1 (inR_c (n := 0) rfl) (inR_c (n := 0) rfl) (inR_c (n := 0) rfl) (inR_c (n := 0) rfl) e) (fun f => ?_)
    exact X_iret dL_append_9 rfl ⟨⟨f.2, f.1⟩, rfl, rfl⟩
  · by_cases c0 : E = 2
    · have h := if_t c0 h
      cases h
      subst c0
      show X mL_append 0 _ [] (sD ln D z) 1 6 (Qd (okz z1 ∧ inR ((-1000000003))) (.inl (some (.int (iN ((-1000000003)))))) (sD ln (djk D) z1))
      refine E_ent (c1_f rfl (c1_i c1_n)) (M := [some (.ref 0), some (.int (iN (v1))), none]) rfl ?_
      refine X_aload_n (pc' := 1) dL_append_0 rfl rfl ?_
      refine X_iload_n (pc' := 2) dL_append_1 rfl rfl ?_
      refine X_iconst (pc' := 3) dL_append_2 rfl ?_
      refine X_iconst (pc' := 4) dL_append_3 rfl ?_
      refine X_iconst (pc' := 5) dL_append_4 rfl ?_
      refine X_iconst (pc' := 6) dL_append_5 rfl ?_
      refine E0_callMx (i := 2) (to := 11) [.int (iN (v1)), .int (iN (0)), .int (iN (0)), .int (iN (0)), .int (iN (0))] (pc' := 9) dL_append_6 rfl VL_14 (by decide) rfl rfl (c1_i (c1_i (c1_i (c1_i (c1_i c1_n))))) (cs rfl) c1_n (cs rfl) rfl hD (show X mX5_append 0 (xEnt [.ref 0, .int (iN (v1)), .int (iN (0)), .int (iN (0)), .int (iN (0)), .int (iN (0))] (xL mX5_append)) [] (zmk (ln, D) (dT D).toNat z) 1 6 (Qd (okz z1) (.inr 2) (zmk (ln, D) ((dT D).toNat + 1) z1)) from CX5_append (hNm hD) hz rv1 (inR_c (n := 0) rfl) (inR_c (n := 0) rfl) (inR_c (n := 0) rfl) (inR_c (n := 0) rfl) e) ⟨[], ⟨0, 9, 10, 20⟩, [], rfl, (fun _ h => nomatch h), by decide, by decide, ⟨"java/lang/IllegalStateException", tq1732, tq1742⟩, by decide, Or.inl ⟨2, rfl, dL_append_10, rfl⟩⟩ (Or.inr rfl) (fun f => ?_)
      refine X_ldcI (pc' := 13) dL_append_11 rfl tq1760 (n := (-1000000003)) rfl ?_
      exact X_iret dL_append_13 rfl ⟨⟨f, inR_c (n := (-1000000003)) rfl⟩, rfl, rfl⟩
    have h := if_f c0 h
    cases h
def fL_load (z : ZZ) : Option (Int × ZZ × Nat) := Option.bind (fX5_load z) fun q => match q with | (.inl r, z1) => some (r, z1, 0) | (.inr E, z1) => (if E = 1 then some ((-1000000002), z1, 1) else none)
set_option maxRecDepth 100000 in
theorem CL_load {ln : Nat} {D : DD} {z : ZZ} (hD : okD D) (hz : okz z) {p : Int × ZZ × Nat} (h : fL_load z = some p) : X mL_load 0 (xEnt [.ref 0] (xL mL_load)) [] (sD ln D z) p.2.2 (6 * p.2.2) (Qd (okz p.2.1 ∧ inR p.1) (.inl (some (.int (iN p.1)))) (sD ln (djn p.2.2 D) p.2.1)) := by
  unfold fL_load at h
  obtain ⟨⟨r | E, z1⟩, e, h⟩ := bs h
  · cases h
    show X mL_load 0 _ [] (sD ln D z) 0 0 (Qd (okz z1 ∧ inR r) (.inl (some (.int (iN r)))) (sD ln D z1))
    refine E_ent (c1_f rfl c1_n) (M := [some (.ref 0), none]) rfl ?_
    refine X_aload_n (pc' := 1) dL_load_0 rfl rfl ?_
    refine E0_callMH [] (pc' := 4) dL_load_1 rfl VL_23 (by decide) rfl rfl c1_n (cs rfl) c1_n (cs rfl) rfl hD (show X mX5_load 0 (xEnt [.ref 0] (xL mX5_load)) [] (zmk (ln, D) (dT D).toNat z) 0 0 (Qd (inR r ∧ okz z1) (.inl (some (.int (iN r)))) (zmk (ln, D) (dT D).toNat z1)) from CX5_load (hNm hD) hz  e) (fun f => ?_)
    exact X_iret dL_load_4 rfl ⟨⟨f.2, f.1⟩, rfl, rfl⟩
  · by_cases c0 : E = 1
    · have h := if_t c0 h
      cases h
      subst c0
      show X mL_load 0 _ [] (sD ln D z) 1 6 (Qd (okz z1 ∧ inR ((-1000000002))) (.inl (some (.int (iN ((-1000000002)))))) (sD ln (djk D) z1))
      refine E_ent (c1_f rfl c1_n) (M := [some (.ref 0), none]) rfl ?_
      refine X_aload_n (pc' := 1) dL_load_0 rfl rfl ?_
      refine E0_callMx (i := 1) (to := 6) [] (pc' := 4) dL_load_1 rfl VL_23 (by decide) rfl rfl c1_n (cs rfl) c1_n (cs rfl) rfl hD (show X mX5_load 0 (xEnt [.ref 0] (xL mX5_load)) [] (zmk (ln, D) (dT D).toNat z) 1 6 (Qd (okz z1) (.inr 1) (zmk (ln, D) ((dT D).toNat + 1) z1)) from CX5_load (hNm hD) hz  e) ⟨[], ⟨0, 4, 5, 27⟩, [], rfl, (fun _ h => nomatch h), by decide, by decide, ⟨"java/lang/IllegalArgumentException", tq1708, tq1287⟩, by decide, Or.inl ⟨1, rfl, dL_load_5, rfl⟩⟩ (Or.inr rfl) (fun f => ?_)
      refine X_ldcI (pc' := 8) dL_load_6 rfl tq1719 (n := (-1000000002)) rfl ?_
      exact X_iret dL_load_8 rfl ⟨⟨f, inR_c (n := (-1000000002)) rfl⟩, rfl, rfl⟩
    have h := if_f c0 h
    cases h
def fL_setRoute (v1 : Int) (v2 : Int) (z : ZZ) : Option (Int × ZZ × Nat) := Option.bind (fX5_setRoute v1 v2 z) fun q => match q with | (.inl r, z1) => some (r, z1, 0) | (.inr E, z1) => (if E = 0 then some ((-1000000001), z1, 1) else (if E = 1 then some ((-1000000002), z1, 1) else (if E = 2 then some ((-1000000003), z1, 1) else none)))
set_option maxRecDepth 100000 in
theorem CL_setRoute {ln : Nat} {D : DD} {z : ZZ} {v1 : Int} {v2 : Int} (hD : okD D) (hz : okz z) (rv1 : inR v1) (rv2 : inR v2) {p : Int × ZZ × Nat} (h : fL_setRoute v1 v2 z = some p) : X mL_setRoute 0 (xEnt [.ref 0, .int (iN (v1)), .int (iN (v2))] (xL mL_setRoute)) [] (sD ln D z) p.2.2 (6 * p.2.2) (Qd (okz p.2.1 ∧ inR p.1) (.inl (some (.int (iN p.1)))) (sD ln (djn p.2.2 D) p.2.1)) := by
  unfold fL_setRoute at h
  obtain ⟨⟨r | E, z1⟩, e, h⟩ := bs h
  · cases h
    show X mL_setRoute 0 _ [] (sD ln D z) 0 0 (Qd (okz z1 ∧ inR r) (.inl (some (.int (iN r)))) (sD ln D z1))
    refine E_ent (c1_f rfl (c1_i (c1_i c1_n))) (M := [some (.ref 0), some (.int (iN (v1))), some (.int (iN (v2))), none]) rfl ?_
    refine X_aload_n (pc' := 1) dL_setRoute_0 rfl rfl ?_
    refine X_iload_n (pc' := 2) dL_setRoute_1 rfl rfl ?_
    refine X_iload_n (pc' := 3) dL_setRoute_2 rfl rfl ?_
    refine E0_callMH [.int (iN (v1)), .int (iN (v2))] (pc' := 6) dL_setRoute_3 rfl VL_46 (by decide) rfl rfl (c1_i (c1_i c1_n)) (cs rfl) c1_n (cs rfl) rfl hD (show X mX5_setRoute 0 (xEnt [.ref 0, .int (iN (v1)), .int (iN (v2))] (xL mX5_setRoute)) [] (zmk (ln, D) (dT D).toNat z) 0 0 (Qd (inR r ∧ okz z1) (.inl (some (.int (iN r)))) (zmk (ln, D) (dT D).toNat z1)) from CX5_setRoute (hNm hD) hz rv1 rv2 e) (fun f => ?_)
    exact X_iret dL_setRoute_6 rfl ⟨⟨f.2, f.1⟩, rfl, rfl⟩
  · by_cases c0 : E = 0
    · have h := if_t c0 h
      cases h
      subst c0
      show X mL_setRoute 0 _ [] (sD ln D z) 1 6 (Qd (okz z1 ∧ inR ((-1000000001))) (.inl (some (.int (iN ((-1000000001)))))) (sD ln (djk D) z1))
      refine E_ent (c1_f rfl (c1_i (c1_i c1_n))) (M := [some (.ref 0), some (.int (iN (v1))), some (.int (iN (v2))), none]) rfl ?_
      refine X_aload_n (pc' := 1) dL_setRoute_0 rfl rfl ?_
      refine X_iload_n (pc' := 2) dL_setRoute_1 rfl rfl ?_
      refine X_iload_n (pc' := 3) dL_setRoute_2 rfl rfl ?_
      refine E0_callMx (i := 3) (to := 8) [.int (iN (v1)), .int (iN (v2))] (pc' := 6) dL_setRoute_3 rfl VL_46 (by decide) rfl rfl (c1_i (c1_i c1_n)) (cs rfl) c1_n (cs rfl) rfl hD (show X mX5_setRoute 0 (xEnt [.ref 0, .int (iN (v1)), .int (iN (v2))] (xL mX5_setRoute)) [] (zmk (ln, D) (dT D).toNat z) 1 6 (Qd (okz z1) (.inr 0) (zmk (ln, D) ((dT D).toNat + 1) z1)) from CX5_setRoute (hNm hD) hz rv1 rv2 e) ⟨[], ⟨0, 6, 7, 50⟩, [⟨0, 6, 11, 27⟩, ⟨0, 6, 15, 20⟩], rfl, (fun _ h => nomatch h), by decide, by decide, ⟨"java/lang/IndexOutOfBoundsException", tq1764, tq1438⟩, by decide, Or.inl ⟨3, rfl, dL_setRoute_7, rfl⟩⟩ (Or.inr rfl) (fun f => ?_)
      refine X_ldcI (pc' := 10) dL_setRoute_8 rfl tq1815 (n := (-1000000001)) rfl ?_
      exact X_iret dL_setRoute_10 rfl ⟨⟨f, inR_c (n := (-1000000001)) rfl⟩, rfl, rfl⟩
    have h := if_f c0 h
    by_cases c1 : E = 1
    · have h := if_t c1 h
      cases h
      subst c1
      show X mL_setRoute 0 _ [] (sD ln D z) 1 6 (Qd (okz z1 ∧ inR ((-1000000002))) (.inl (some (.int (iN ((-1000000002)))))) (sD ln (djk D) z1))
      refine E_ent (c1_f rfl (c1_i (c1_i c1_n))) (M := [some (.ref 0), some (.int (iN (v1))), some (.int (iN (v2))), none]) rfl ?_
      refine X_aload_n (pc' := 1) dL_setRoute_0 rfl rfl ?_
      refine X_iload_n (pc' := 2) dL_setRoute_1 rfl rfl ?_
      refine X_iload_n (pc' := 3) dL_setRoute_2 rfl rfl ?_
      refine E0_callMx (i := 3) (to := 12) [.int (iN (v1)), .int (iN (v2))] (pc' := 6) dL_setRoute_3 rfl VL_46 (by decide) rfl rfl (c1_i (c1_i c1_n)) (cs rfl) c1_n (cs rfl) rfl hD (show X mX5_setRoute 0 (xEnt [.ref 0, .int (iN (v1)), .int (iN (v2))] (xL mX5_setRoute)) [] (zmk (ln, D) (dT D).toNat z) 1 6 (Qd (okz z1) (.inr 1) (zmk (ln, D) ((dT D).toNat + 1) z1)) from CX5_setRoute (hNm hD) hz rv1 rv2 e) ⟨[⟨0, 6, 7, 50⟩], ⟨0, 6, 11, 27⟩, [⟨0, 6, 15, 20⟩], rfl, (List.forall_mem_cons.mpr ⟨Or.inr ⟨by decide, "java/lang/IndexOutOfBoundsException", tq1764, List.mem_of_getElem? (i := 53) rfl⟩, (fun _ h => nomatch h)⟩), by decide, by decide, ⟨"java/lang/IllegalArgumentException", tq1708, tq1287⟩, by decide, Or.inl ⟨3, rfl, dL_setRoute_11, rfl⟩⟩ (Or.inr rfl) (fun f => ?_)
      refine X_ldcI (pc' := 14) dL_setRoute_12 rfl tq1719 (n := (-1000000002)) rfl ?_
      exact X_iret dL_setRoute_14 rfl ⟨⟨f, inR_c (n := (-1000000002)) rfl⟩, rfl, rfl⟩
    have h := if_f c1 h
    by_cases c2 : E = 2
    · have h := if_t c2 h
      cases h
      subst c2
      show X mL_setRoute 0 _ [] (sD ln D z) 1 6 (Qd (okz z1 ∧ inR ((-1000000003))) (.inl (some (.int (iN ((-1000000003)))))) (sD ln (djk D) z1))
      refine E_ent (c1_f rfl (c1_i (c1_i c1_n))) (M := [some (.ref 0), some (.int (iN (v1))), some (.int (iN (v2))), none]) rfl ?_
      refine X_aload_n (pc' := 1) dL_setRoute_0 rfl rfl ?_
      refine X_iload_n (pc' := 2) dL_setRoute_1 rfl rfl ?_
      refine X_iload_n (pc' := 3) dL_setRoute_2 rfl rfl ?_
      refine E0_callMx (i := 3) (to := 16) [.int (iN (v1)), .int (iN (v2))] (pc' := 6) dL_setRoute_3 rfl VL_46 (by decide) rfl rfl (c1_i (c1_i c1_n)) (cs rfl) c1_n (cs rfl) rfl hD (show X mX5_setRoute 0 (xEnt [.ref 0, .int (iN (v1)), .int (iN (v2))] (xL mX5_setRoute)) [] (zmk (ln, D) (dT D).toNat z) 1 6 (Qd (okz z1) (.inr 2) (zmk (ln, D) ((dT D).toNat + 1) z1)) from CX5_setRoute (hNm hD) hz rv1 rv2 e) ⟨[⟨0, 6, 7, 50⟩, ⟨0, 6, 11, 27⟩], ⟨0, 6, 15, 20⟩, [], rfl, (List.forall_mem_cons.mpr ⟨Or.inr ⟨by decide, "java/lang/IndexOutOfBoundsException", tq1764, List.mem_of_getElem? (i := 52) rfl⟩, (List.forall_mem_cons.mpr ⟨Or.inr ⟨by decide, "java/lang/IllegalArgumentException", tq1708, List.mem_of_getElem? (i := 6) rfl⟩, (fun _ h => nomatch h)⟩)⟩), by decide, by decide, ⟨"java/lang/IllegalStateException", tq1732, tq1742⟩, by decide, Or.inl ⟨3, rfl, dL_setRoute_15, rfl⟩⟩ (Or.inr rfl) (fun f => ?_)
      refine X_ldcI (pc' := 18) dL_setRoute_16 rfl tq1760 (n := (-1000000003)) rfl ?_
      exact X_iret dL_setRoute_18 rfl ⟨⟨f, inR_c (n := (-1000000003)) rfl⟩, rfl, rfl⟩
    have h := if_f c2 h
    cases h
def fL_climb (v1 : Int) (v2 : Int) (z : ZZ) : Option (Int × ZZ × Nat) := Option.bind (fX5_climb v1 v2 z) fun q => match q with | (.inl r, z1) => some (r, z1, 0) | (.inr E, z1) => (if E = 0 then some ((-1000000001), z1, 1) else (if E = 2 then some ((-1000000003), z1, 1) else none))
set_option maxRecDepth 100000 in
theorem CL_climb {ln : Nat} {D : DD} {z : ZZ} {v1 : Int} {v2 : Int} (hD : okD D) (hz : okz z) (rv1 : inR v1) (rv2 : inR v2) {p : Int × ZZ × Nat} (h : fL_climb v1 v2 z = some p) : X mL_climb 0 (xEnt [.ref 0, .int (iN (v1)), .int (iN (v2))] (xL mL_climb)) [] (sD ln D z) p.2.2 (6 * p.2.2) (Qd (okz p.2.1 ∧ inR p.1) (.inl (some (.int (iN p.1)))) (sD ln (djn p.2.2 D) p.2.1)) := by
  unfold fL_climb at h
  obtain ⟨⟨r | E, z1⟩, e, h⟩ := bs h
  · cases h
    show X mL_climb 0 _ [] (sD ln D z) 0 0 (Qd (okz z1 ∧ inR r) (.inl (some (.int (iN r)))) (sD ln D z1))
    refine E_ent (c1_f rfl (c1_i (c1_i c1_n))) (M := [some (.ref 0), some (.int (iN (v1))), some (.int (iN (v2))), none]) rfl ?_
    refine X_aload_n (pc' := 1) dL_climb_0 rfl rfl ?_
    refine X_iload_n (pc' := 2) dL_climb_1 rfl rfl ?_
    refine X_iload_n (pc' := 3) dL_climb_2 rfl rfl ?_
    refine E0_callMH [.int (iN (v1)), .int (iN (v2))] (pc' := 6) dL_climb_3 rfl VL_53 (by decide) rfl rfl (c1_i (c1_i c1_n)) (cs rfl) c1_n (cs rfl) rfl hD (show X mX5_climb 0 (xEnt [.ref 0, .int (iN (v1)), .int (iN (v2))] (xL mX5_climb)) [] (zmk (ln, D) (dT D).toNat z) 0 0 (Qd (inR r ∧ okz z1) (.inl (some (.int (iN r)))) (zmk (ln, D) (dT D).toNat z1)) from CX5_climb (hNm hD) hz rv1 rv2 e) (fun f => ?_)
    exact X_iret dL_climb_6 rfl ⟨⟨f.2, f.1⟩, rfl, rfl⟩
  · by_cases c0 : E = 0
    · have h := if_t c0 h
      cases h
      subst c0
      show X mL_climb 0 _ [] (sD ln D z) 1 6 (Qd (okz z1 ∧ inR ((-1000000001))) (.inl (some (.int (iN ((-1000000001)))))) (sD ln (djk D) z1))
      refine E_ent (c1_f rfl (c1_i (c1_i c1_n))) (M := [some (.ref 0), some (.int (iN (v1))), some (.int (iN (v2))), none]) rfl ?_
      refine X_aload_n (pc' := 1) dL_climb_0 rfl rfl ?_
      refine X_iload_n (pc' := 2) dL_climb_1 rfl rfl ?_
      refine X_iload_n (pc' := 3) dL_climb_2 rfl rfl ?_
      refine E0_callMx (i := 3) (to := 8) [.int (iN (v1)), .int (iN (v2))] (pc' := 6) dL_climb_3 rfl VL_53 (by decide) rfl rfl (c1_i (c1_i c1_n)) (cs rfl) c1_n (cs rfl) rfl hD (show X mX5_climb 0 (xEnt [.ref 0, .int (iN (v1)), .int (iN (v2))] (xL mX5_climb)) [] (zmk (ln, D) (dT D).toNat z) 1 6 (Qd (okz z1) (.inr 0) (zmk (ln, D) ((dT D).toNat + 1) z1)) from CX5_climb (hNm hD) hz rv1 rv2 e) ⟨[], ⟨0, 6, 7, 50⟩, [⟨0, 6, 11, 20⟩], rfl, (fun _ h => nomatch h), by decide, by decide, ⟨"java/lang/IndexOutOfBoundsException", tq1764, tq1438⟩, by decide, Or.inl ⟨3, rfl, dL_climb_7, rfl⟩⟩ (Or.inr rfl) (fun f => ?_)
      refine X_ldcI (pc' := 10) dL_climb_8 rfl tq1815 (n := (-1000000001)) rfl ?_
      exact X_iret dL_climb_10 rfl ⟨⟨f, inR_c (n := (-1000000001)) rfl⟩, rfl, rfl⟩
    have h := if_f c0 h
    by_cases c1 : E = 2
    · have h := if_t c1 h
      cases h
      subst c1
      show X mL_climb 0 _ [] (sD ln D z) 1 6 (Qd (okz z1 ∧ inR ((-1000000003))) (.inl (some (.int (iN ((-1000000003)))))) (sD ln (djk D) z1))
      refine E_ent (c1_f rfl (c1_i (c1_i c1_n))) (M := [some (.ref 0), some (.int (iN (v1))), some (.int (iN (v2))), none]) rfl ?_
      refine X_aload_n (pc' := 1) dL_climb_0 rfl rfl ?_
      refine X_iload_n (pc' := 2) dL_climb_1 rfl rfl ?_
      refine X_iload_n (pc' := 3) dL_climb_2 rfl rfl ?_
      refine E0_callMx (i := 3) (to := 12) [.int (iN (v1)), .int (iN (v2))] (pc' := 6) dL_climb_3 rfl VL_53 (by decide) rfl rfl (c1_i (c1_i c1_n)) (cs rfl) c1_n (cs rfl) rfl hD (show X mX5_climb 0 (xEnt [.ref 0, .int (iN (v1)), .int (iN (v2))] (xL mX5_climb)) [] (zmk (ln, D) (dT D).toNat z) 1 6 (Qd (okz z1) (.inr 2) (zmk (ln, D) ((dT D).toNat + 1) z1)) from CX5_climb (hNm hD) hz rv1 rv2 e) ⟨[⟨0, 6, 7, 50⟩], ⟨0, 6, 11, 20⟩, [], rfl, (List.forall_mem_cons.mpr ⟨Or.inr ⟨by decide, "java/lang/IndexOutOfBoundsException", tq1764, List.mem_of_getElem? (i := 52) rfl⟩, (fun _ h => nomatch h)⟩), by decide, by decide, ⟨"java/lang/IllegalStateException", tq1732, tq1742⟩, by decide, Or.inl ⟨3, rfl, dL_climb_11, rfl⟩⟩ (Or.inr rfl) (fun f => ?_)
      refine X_ldcI (pc' := 14) dL_climb_12 rfl tq1760 (n := (-1000000003)) rfl ?_
      exact X_iret dL_climb_14 rfl ⟨⟨f, inR_c (n := (-1000000003)) rfl⟩, rfl, rfl⟩
    have h := if_f c1 h
    cases h
def fL_vote (v1 : Int) (v2 : Int) (v3 : Int) (z : ZZ) : Option (Int × ZZ × Nat) := Option.bind (fX5_vote v1 v2 v3 z) fun q => match q with | (.inl r, z1) => some (r, z1, 0) | (.inr E, z1) => (if E = 0 then some ((-1000000001), z1, 1) else (if E = 1 then some ((-1000000002), z1, 1) else (if E = 2 then some ((-1000000003), z1, 1) else none)))
set_option maxRecDepth 100000 in
theorem CL_vote {ln : Nat} {D : DD} {z : ZZ} {v1 : Int} {v2 : Int} {v3 : Int} (hD : okD D) (hz : okz z) (rv1 : inR v1) (rv2 : inR v2) (rv3 : inR v3) {p : Int × ZZ × Nat} (h : fL_vote v1 v2 v3 z = some p) : X mL_vote 0 (xEnt [.ref 0, .int (iN (v1)), .int (iN (v2)), .int (iN (v3))] (xL mL_vote)) [] (sD ln D z) p.2.2 (6 * p.2.2) (Qd (okz p.2.1 ∧ inR p.1) (.inl (some (.int (iN p.1)))) (sD ln (djn p.2.2 D) p.2.1)) := by
  unfold fL_vote at h
  obtain ⟨⟨r | E, z1⟩, e, h⟩ := bs h
  · cases h
    show X mL_vote 0 _ [] (sD ln D z) 0 0 (Qd (okz z1 ∧ inR r) (.inl (some (.int (iN r)))) (sD ln D z1))
    refine E_ent (c1_f rfl (c1_i (c1_i (c1_i c1_n)))) (M := [some (.ref 0), some (.int (iN (v1))), some (.int (iN (v2))), some (.int (iN (v3))), none]) rfl ?_
    refine X_aload_n (pc' := 1) dL_vote_0 rfl rfl ?_
    refine X_iload_n (pc' := 2) dL_vote_1 rfl rfl ?_
    refine X_iload_n (pc' := 3) dL_vote_2 rfl rfl ?_
    refine X_iload_n (pc' := 4) dL_vote_3 rfl rfl ?_
    refine E0_callMH [.int (iN (v1)), .int (iN (v2)), .int (iN (v3))] (pc' := 7) dL_vote_4 rfl VL_56 (by decide) rfl rfl (c1_i (c1_i (c1_i c1_n))) (cs rfl) c1_n (cs rfl) rfl hD (show X mX5_vote 0 (xEnt [.ref 0, .int (iN (v1)), .int (iN (v2)), .int (iN (v3))] (xL mX5_vote)) [] (zmk (ln, D) (dT D).toNat z) 0 0 (Qd (inR r ∧ okz z1) (.inl (some (.int (iN r)))) (zmk (ln, D) (dT D).toNat z1)) from CX5_vote (hNm hD) hz rv1 rv2 rv3 e) (fun f => ?_)
    exact X_iret dL_vote_7 rfl ⟨⟨f.2, f.1⟩, rfl, rfl⟩
  · by_cases c0 : E = 0
    · have h := if_t c0 h
      cases h
      subst c0
      show X mL_vote 0 _ [] (sD ln D z) 1 6 (Qd (okz z1 ∧ inR ((-1000000001))) (.inl (some (.int (iN ((-1000000001)))))) (sD ln (djk D) z1))
      refine E_ent (c1_f rfl (c1_i (c1_i (c1_i c1_n)))) (M := [some (.ref 0), some (.int (iN (v1))), some (.int (iN (v2))), some (.int (iN (v3))), none]) rfl ?_
      refine X_aload_n (pc' := 1) dL_vote_0 rfl rfl ?_
      refine X_iload_n (pc' := 2) dL_vote_1 rfl rfl ?_
      refine X_iload_n (pc' := 3) dL_vote_2 rfl rfl ?_
      refine X_iload_n (pc' := 4) dL_vote_3 rfl rfl ?_
      refine E0_callMx (i := 4) (to := 10) [.int (iN (v1)), .int (iN (v2)), .int (iN (v3))] (pc' := 7) dL_vote_4 rfl VL_56 (by decide) rfl rfl (c1_i (c1_i (c1_i c1_n))) (cs rfl) c1_n (cs rfl) rfl hD (show X mX5_vote 0 (xEnt [.ref 0, .int (iN (v1)), .int (iN (v2)), .int (iN (v3))] (xL mX5_vote)) [] (zmk (ln, D) (dT D).toNat z) 1 6 (Qd (okz z1) (.inr 0) (zmk (ln, D) ((dT D).toNat + 1) z1)) from CX5_vote (hNm hD) hz rv1 rv2 rv3 e) ⟨[], ⟨0, 7, 8, 50⟩, [⟨0, 7, 13, 27⟩, ⟨0, 7, 18, 20⟩], rfl, (fun _ h => nomatch h), by decide, by decide, ⟨"java/lang/IndexOutOfBoundsException", tq1764, tq1438⟩, by decide, Or.inr ⟨dL_vote_8, rfl⟩⟩ (Or.inr rfl) (fun f => ?_)
      refine X_ldcI (pc' := 12) dL_vote_10 rfl tq1815 (n := (-1000000001)) rfl ?_
      exact X_iret dL_vote_12 rfl ⟨⟨f, inR_c (n := (-1000000001)) rfl⟩, rfl, rfl⟩
    have h := if_f c0 h
    by_cases c1 : E = 1
    · have h := if_t c1 h
      cases h
      subst c1
      show X mL_vote 0 _ [] (sD ln D z) 1 6 (Qd (okz z1 ∧ inR ((-1000000002))) (.inl (some (.int (iN ((-1000000002)))))) (sD ln (djk D) z1))
      refine E_ent (c1_f rfl (c1_i (c1_i (c1_i c1_n)))) (M := [some (.ref 0), some (.int (iN (v1))), some (.int (iN (v2))), some (.int (iN (v3))), none]) rfl ?_
      refine X_aload_n (pc' := 1) dL_vote_0 rfl rfl ?_
      refine X_iload_n (pc' := 2) dL_vote_1 rfl rfl ?_
      refine X_iload_n (pc' := 3) dL_vote_2 rfl rfl ?_
      refine X_iload_n (pc' := 4) dL_vote_3 rfl rfl ?_
      refine E0_callMx (i := 4) (to := 15) [.int (iN (v1)), .int (iN (v2)), .int (iN (v3))] (pc' := 7) dL_vote_4 rfl VL_56 (by decide) rfl rfl (c1_i (c1_i (c1_i c1_n))) (cs rfl) c1_n (cs rfl) rfl hD (show X mX5_vote 0 (xEnt [.ref 0, .int (iN (v1)), .int (iN (v2)), .int (iN (v3))] (xL mX5_vote)) [] (zmk (ln, D) (dT D).toNat z) 1 6 (Qd (okz z1) (.inr 1) (zmk (ln, D) ((dT D).toNat + 1) z1)) from CX5_vote (hNm hD) hz rv1 rv2 rv3 e) ⟨[⟨0, 7, 8, 50⟩], ⟨0, 7, 13, 27⟩, [⟨0, 7, 18, 20⟩], rfl, (List.forall_mem_cons.mpr ⟨Or.inr ⟨by decide, "java/lang/IndexOutOfBoundsException", tq1764, List.mem_of_getElem? (i := 53) rfl⟩, (fun _ h => nomatch h)⟩), by decide, by decide, ⟨"java/lang/IllegalArgumentException", tq1708, tq1287⟩, by decide, Or.inr ⟨dL_vote_13, rfl⟩⟩ (Or.inr rfl) (fun f => ?_)
      refine X_ldcI (pc' := 17) dL_vote_15 rfl tq1719 (n := (-1000000002)) rfl ?_
      exact X_iret dL_vote_17 rfl ⟨⟨f, inR_c (n := (-1000000002)) rfl⟩, rfl, rfl⟩
    have h := if_f c1 h
    by_cases c2 : E = 2
    · have h := if_t c2 h
      cases h
      subst c2
      show X mL_vote 0 _ [] (sD ln D z) 1 6 (Qd (okz z1 ∧ inR ((-1000000003))) (.inl (some (.int (iN ((-1000000003)))))) (sD ln (djk D) z1))
      refine E_ent (c1_f rfl (c1_i (c1_i (c1_i c1_n)))) (M := [some (.ref 0), some (.int (iN (v1))), some (.int (iN (v2))), some (.int (iN (v3))), none]) rfl ?_
      refine X_aload_n (pc' := 1) dL_vote_0 rfl rfl ?_
      refine X_iload_n (pc' := 2) dL_vote_1 rfl rfl ?_
      refine X_iload_n (pc' := 3) dL_vote_2 rfl rfl ?_
      refine X_iload_n (pc' := 4) dL_vote_3 rfl rfl ?_
      refine E0_callMx (i := 4) (to := 20) [.int (iN (v1)), .int (iN (v2)), .int (iN (v3))] (pc' := 7) dL_vote_4 rfl VL_56 (by decide) rfl rfl (c1_i (c1_i (c1_i c1_n))) (cs rfl) c1_n (cs rfl) rfl hD (show X mX5_vote 0 (xEnt [.ref 0, .int (iN (v1)), .int (iN (v2)), .int (iN (v3))] (xL mX5_vote)) [] (zmk (ln, D) (dT D).toNat z) 1 6 (Qd (okz z1) (.inr 2) (zmk (ln, D) ((dT D).toNat + 1) z1)) from CX5_vote (hNm hD) hz rv1 rv2 rv3 e) ⟨[⟨0, 7, 8, 50⟩, ⟨0, 7, 13, 27⟩], ⟨0, 7, 18, 20⟩, [], rfl, (List.forall_mem_cons.mpr ⟨Or.inr ⟨by decide, "java/lang/IndexOutOfBoundsException", tq1764, List.mem_of_getElem? (i := 52) rfl⟩, (List.forall_mem_cons.mpr ⟨Or.inr ⟨by decide, "java/lang/IllegalArgumentException", tq1708, List.mem_of_getElem? (i := 6) rfl⟩, (fun _ h => nomatch h)⟩)⟩), by decide, by decide, ⟨"java/lang/IllegalStateException", tq1732, tq1742⟩, by decide, Or.inr ⟨dL_vote_18, rfl⟩⟩ (Or.inr rfl) (fun f => ?_)
      refine X_ldcI (pc' := 22) dL_vote_20 rfl tq1760 (n := (-1000000003)) rfl ?_
      exact X_iret dL_vote_22 rfl ⟨⟨f, inR_c (n := (-1000000003)) rfl⟩, rfl, rfl⟩
    have h := if_f c2 h
    cases h
def fL_lend (v1 : Int) (v2 : Int) (z : ZZ) : Option (Int × ZZ × Nat) := Option.bind (fX5_lend v1 v2 z) fun q => match q with | (.inl r, z1) => some (r, z1, 0) | (.inr E, z1) => (if E = 0 then some ((-1000000001), z1, 1) else (if E = 2 then some ((-1000000003), z1, 1) else none))
set_option maxRecDepth 100000 in
theorem CL_lend {ln : Nat} {D : DD} {z : ZZ} {v1 : Int} {v2 : Int} (hD : okD D) (hz : okz z) (rv1 : inR v1) (rv2 : inR v2) {p : Int × ZZ × Nat} (h : fL_lend v1 v2 z = some p) : X mL_lend 0 (xEnt [.ref 0, .int (iN (v1)), .int (iN (v2))] (xL mL_lend)) [] (sD ln D z) p.2.2 (6 * p.2.2) (Qd (okz p.2.1 ∧ inR p.1) (.inl (some (.int (iN p.1)))) (sD ln (djn p.2.2 D) p.2.1)) := by
  unfold fL_lend at h
  obtain ⟨⟨r | E, z1⟩, e, h⟩ := bs h
  · cases h
    show X mL_lend 0 _ [] (sD ln D z) 0 0 (Qd (okz z1 ∧ inR r) (.inl (some (.int (iN r)))) (sD ln D z1))
    refine E_ent (c1_f rfl (c1_i (c1_i c1_n))) (M := [some (.ref 0), some (.int (iN (v1))), some (.int (iN (v2))), none]) rfl ?_
    refine X_aload_n (pc' := 1) dL_lend_0 rfl rfl ?_
    refine X_iload_n (pc' := 2) dL_lend_1 rfl rfl ?_
    refine X_iload_n (pc' := 3) dL_lend_2 rfl rfl ?_
    refine E0_callMH [.int (iN (v1)), .int (iN (v2))] (pc' := 6) dL_lend_3 rfl VL_60 (by decide) rfl rfl (c1_i (c1_i c1_n)) (cs rfl) c1_n (cs rfl) rfl hD (show X mX5_lend 0 (xEnt [.ref 0, .int (iN (v1)), .int (iN (v2))] (xL mX5_lend)) [] (zmk (ln, D) (dT D).toNat z) 0 0 (Qd (inR r ∧ okz z1) (.inl (some (.int (iN r)))) (zmk (ln, D) (dT D).toNat z1)) from CX5_lend (hNm hD) hz rv1 rv2 e) (fun f => ?_)
    exact X_iret dL_lend_6 rfl ⟨⟨f.2, f.1⟩, rfl, rfl⟩
  · by_cases c0 : E = 0
    · have h := if_t c0 h
      cases h
      subst c0
      show X mL_lend 0 _ [] (sD ln D z) 1 6 (Qd (okz z1 ∧ inR ((-1000000001))) (.inl (some (.int (iN ((-1000000001)))))) (sD ln (djk D) z1))
      refine E_ent (c1_f rfl (c1_i (c1_i c1_n))) (M := [some (.ref 0), some (.int (iN (v1))), some (.int (iN (v2))), none]) rfl ?_
      refine X_aload_n (pc' := 1) dL_lend_0 rfl rfl ?_
      refine X_iload_n (pc' := 2) dL_lend_1 rfl rfl ?_
      refine X_iload_n (pc' := 3) dL_lend_2 rfl rfl ?_
      refine E0_callMx (i := 3) (to := 8) [.int (iN (v1)), .int (iN (v2))] (pc' := 6) dL_lend_3 rfl VL_60 (by decide) rfl rfl (c1_i (c1_i c1_n)) (cs rfl) c1_n (cs rfl) rfl hD (show X mX5_lend 0 (xEnt [.ref 0, .int (iN (v1)), .int (iN (v2))] (xL mX5_lend)) [] (zmk (ln, D) (dT D).toNat z) 1 6 (Qd (okz z1) (.inr 0) (zmk (ln, D) ((dT D).toNat + 1) z1)) from CX5_lend (hNm hD) hz rv1 rv2 e) ⟨[], ⟨0, 6, 7, 50⟩, [⟨0, 6, 11, 20⟩], rfl, (fun _ h => nomatch h), by decide, by decide, ⟨"java/lang/IndexOutOfBoundsException", tq1764, tq1438⟩, by decide, Or.inl ⟨3, rfl, dL_lend_7, rfl⟩⟩ (Or.inr rfl) (fun f => ?_)
      refine X_ldcI (pc' := 10) dL_lend_8 rfl tq1815 (n := (-1000000001)) rfl ?_
      exact X_iret dL_lend_10 rfl ⟨⟨f, inR_c (n := (-1000000001)) rfl⟩, rfl, rfl⟩
    have h := if_f c0 h
    by_cases c1 : E = 2
    · have h := if_t c1 h
      cases h
      subst c1
      show X mL_lend 0 _ [] (sD ln D z) 1 6 (Qd (okz z1 ∧ inR ((-1000000003))) (.inl (some (.int (iN ((-1000000003)))))) (sD ln (djk D) z1))
      refine E_ent (c1_f rfl (c1_i (c1_i c1_n))) (M := [some (.ref 0), some (.int (iN (v1))), some (.int (iN (v2))), none]) rfl ?_
      refine X_aload_n (pc' := 1) dL_lend_0 rfl rfl ?_
      refine X_iload_n (pc' := 2) dL_lend_1 rfl rfl ?_
      refine X_iload_n (pc' := 3) dL_lend_2 rfl rfl ?_
      refine E0_callMx (i := 3) (to := 12) [.int (iN (v1)), .int (iN (v2))] (pc' := 6) dL_lend_3 rfl VL_60 (by decide) rfl rfl (c1_i (c1_i c1_n)) (cs rfl) c1_n (cs rfl) rfl hD (show X mX5_lend 0 (xEnt [.ref 0, .int (iN (v1)), .int (iN (v2))] (xL mX5_lend)) [] (zmk (ln, D) (dT D).toNat z) 1 6 (Qd (okz z1) (.inr 2) (zmk (ln, D) ((dT D).toNat + 1) z1)) from CX5_lend (hNm hD) hz rv1 rv2 e) ⟨[⟨0, 6, 7, 50⟩], ⟨0, 6, 11, 20⟩, [], rfl, (List.forall_mem_cons.mpr ⟨Or.inr ⟨by decide, "java/lang/IndexOutOfBoundsException", tq1764, List.mem_of_getElem? (i := 52) rfl⟩, (fun _ h => nomatch h)⟩), by decide, by decide, ⟨"java/lang/IllegalStateException", tq1732, tq1742⟩, by decide, Or.inl ⟨3, rfl, dL_lend_11, rfl⟩⟩ (Or.inr rfl) (fun f => ?_)
      refine X_ldcI (pc' := 14) dL_lend_12 rfl tq1760 (n := (-1000000003)) rfl ?_
      exact X_iret dL_lend_14 rfl ⟨⟨f, inR_c (n := (-1000000003)) rfl⟩, rfl, rfl⟩
    have h := if_f c1 h
    cases h
def fL_endDays (v1 : Int) (z : ZZ) : Option (Int × ZZ × Nat) := Option.bind (fX5_endDays v1 z) fun q => match q with | (.inl r, z1) => some (r, z1, 0) | (.inr E, z1) => (if E = 1 then some ((-1000000002), z1, 1) else none)
set_option maxRecDepth 100000 in
theorem CL_endDays {ln : Nat} {D : DD} {z : ZZ} {v1 : Int} (hD : okD D) (hz : okz z) (rv1 : inR v1) {p : Int × ZZ × Nat} (h : fL_endDays v1 z = some p) : X mL_endDays 0 (xEnt [.ref 0, .int (iN (v1))] (xL mL_endDays)) [] (sD ln D z) p.2.2 (6 * p.2.2) (Qd (okz p.2.1 ∧ inR p.1) (.inl (some (.int (iN p.1)))) (sD ln (djn p.2.2 D) p.2.1)) := by
  unfold fL_endDays at h
  obtain ⟨⟨r | E, z1⟩, e, h⟩ := bs h
  · cases h
    show X mL_endDays 0 _ [] (sD ln D z) 0 0 (Qd (okz z1 ∧ inR r) (.inl (some (.int (iN r)))) (sD ln D z1))
    refine E_ent (c1_f rfl (c1_i c1_n)) (M := [some (.ref 0), some (.int (iN (v1))), none]) rfl ?_
    refine X_aload_n (pc' := 1) dL_endDays_0 rfl rfl ?_
    refine X_iload_n (pc' := 2) dL_endDays_1 rfl rfl ?_
    refine E0_callMH [.int (iN (v1))] (pc' := 5) dL_endDays_2 rfl VL_63 (by decide) rfl rfl (c1_i c1_n) (cs rfl) c1_n (cs rfl) rfl hD (show X mX5_endDays 0 (xEnt [.ref 0, .int (iN (v1))] (xL mX5_endDays)) [] (zmk (ln, D) (dT D).toNat z) 0 0 (Qd (inR r ∧ okz z1) (.inl (some (.int (iN r)))) (zmk (ln, D) (dT D).toNat z1)) from CX5_endDays (hNm hD) hz rv1 e) (fun f => ?_)
    exact X_iret dL_endDays_5 rfl ⟨⟨f.2, f.1⟩, rfl, rfl⟩
  · by_cases c0 : E = 1
    · have h := if_t c0 h
      cases h
      subst c0
      show X mL_endDays 0 _ [] (sD ln D z) 1 6 (Qd (okz z1 ∧ inR ((-1000000002))) (.inl (some (.int (iN ((-1000000002)))))) (sD ln (djk D) z1))
      refine E_ent (c1_f rfl (c1_i c1_n)) (M := [some (.ref 0), some (.int (iN (v1))), none]) rfl ?_
      refine X_aload_n (pc' := 1) dL_endDays_0 rfl rfl ?_
      refine X_iload_n (pc' := 2) dL_endDays_1 rfl rfl ?_
      refine E0_callMx (i := 2) (to := 7) [.int (iN (v1))] (pc' := 5) dL_endDays_2 rfl VL_63 (by decide) rfl rfl (c1_i c1_n) (cs rfl) c1_n (cs rfl) rfl hD (show X mX5_endDays 0 (xEnt [.ref 0, .int (iN (v1))] (xL mX5_endDays)) [] (zmk (ln, D) (dT D).toNat z) 1 6 (Qd (okz z1) (.inr 1) (zmk (ln, D) ((dT D).toNat + 1) z1)) from CX5_endDays (hNm hD) hz rv1 e) ⟨[], ⟨0, 5, 6, 27⟩, [], rfl, (fun _ h => nomatch h), by decide, by decide, ⟨"java/lang/IllegalArgumentException", tq1708, tq1287⟩, by decide, Or.inl ⟨2, rfl, dL_endDays_6, rfl⟩⟩ (Or.inr rfl) (fun f => ?_)
      refine X_ldcI (pc' := 9) dL_endDays_7 rfl tq1719 (n := (-1000000002)) rfl ?_
      exact X_iret dL_endDays_9 rfl ⟨⟨f, inR_c (n := (-1000000002)) rfl⟩, rfl, rfl⟩
    have h := if_f c0 h
    cases h
def fL_removeRoute (v1 : Int) (z : ZZ) : Option (Int × ZZ × Nat) := Option.bind (fX5_removeRoute v1 z) fun q => match q with | (.inl r, z1) => some (r, z1, 0) | (.inr E, z1) => (if E = 0 then some ((-1000000001), z1, 1) else none)
set_option maxRecDepth 100000 in
theorem CL_removeRoute {ln : Nat} {D : DD} {z : ZZ} {v1 : Int} (hD : okD D) (hz : okz z) (rv1 : inR v1) {p : Int × ZZ × Nat} (h : fL_removeRoute v1 z = some p) : X mL_removeRoute 0 (xEnt [.ref 0, .int (iN (v1))] (xL mL_removeRoute)) [] (sD ln D z) p.2.2 (6 * p.2.2) (Qd (okz p.2.1 ∧ inR p.1) (.inl (some (.int (iN p.1)))) (sD ln (djn p.2.2 D) p.2.1)) := by
  unfold fL_removeRoute at h
  obtain ⟨⟨r | E, z1⟩, e, h⟩ := bs h
  · cases h
    show X mL_removeRoute 0 _ [] (sD ln D z) 0 0 (Qd (okz z1 ∧ inR r) (.inl (some (.int (iN r)))) (sD ln D z1))
    refine E_ent (c1_f rfl (c1_i c1_n)) (M := [some (.ref 0), some (.int (iN (v1))), none]) rfl ?_
    refine X_aload_n (pc' := 1) dL_removeRoute_0 rfl rfl ?_
    refine X_iload_n (pc' := 2) dL_removeRoute_1 rfl rfl ?_
    refine E0_callMH [.int (iN (v1))] (pc' := 5) dL_removeRoute_2 rfl VL_66 (by decide) rfl rfl (c1_i c1_n) (cs rfl) c1_n (cs rfl) rfl hD (show X mX5_removeRoute 0 (xEnt [.ref 0, .int (iN (v1))] (xL mX5_removeRoute)) [] (zmk (ln, D) (dT D).toNat z) 0 0 (Qd (inR r ∧ okz z1) (.inl (some (.int (iN r)))) (zmk (ln, D) (dT D).toNat z1)) from CX5_removeRoute (hNm hD) hz rv1 e) (fun f => ?_)
    exact X_iret dL_removeRoute_5 rfl ⟨⟨f.2, f.1⟩, rfl, rfl⟩
  · by_cases c0 : E = 0
    · have h := if_t c0 h
      cases h
      subst c0
      show X mL_removeRoute 0 _ [] (sD ln D z) 1 6 (Qd (okz z1 ∧ inR ((-1000000001))) (.inl (some (.int (iN ((-1000000001)))))) (sD ln (djk D) z1))
      refine E_ent (c1_f rfl (c1_i c1_n)) (M := [some (.ref 0), some (.int (iN (v1))), none]) rfl ?_
      refine X_aload_n (pc' := 1) dL_removeRoute_0 rfl rfl ?_
      refine X_iload_n (pc' := 2) dL_removeRoute_1 rfl rfl ?_
      refine E0_callMx (i := 2) (to := 7) [.int (iN (v1))] (pc' := 5) dL_removeRoute_2 rfl VL_66 (by decide) rfl rfl (c1_i c1_n) (cs rfl) c1_n (cs rfl) rfl hD (show X mX5_removeRoute 0 (xEnt [.ref 0, .int (iN (v1))] (xL mX5_removeRoute)) [] (zmk (ln, D) (dT D).toNat z) 1 6 (Qd (okz z1) (.inr 0) (zmk (ln, D) ((dT D).toNat + 1) z1)) from CX5_removeRoute (hNm hD) hz rv1 e) ⟨[], ⟨0, 5, 6, 50⟩, [], rfl, (fun _ h => nomatch h), by decide, by decide, ⟨"java/lang/IndexOutOfBoundsException", tq1764, tq1438⟩, by decide, Or.inl ⟨2, rfl, dL_removeRoute_6, rfl⟩⟩ (Or.inr rfl) (fun f => ?_)
      refine X_ldcI (pc' := 9) dL_removeRoute_7 rfl tq1815 (n := (-1000000001)) rfl ?_
      exact X_iret dL_removeRoute_9 rfl ⟨⟨f, inR_c (n := (-1000000001)) rfl⟩, rfl, rfl⟩
    have h := if_f c0 h
    cases h
def fL_giveBack (v1 : Int) (z : ZZ) : Option (Int × ZZ × Nat) := Option.bind (fX5_giveBack v1 z) fun q => match q with | (.inl r, z1) => some (r, z1, 0) | (.inr E, z1) => (if E = 0 then some ((-1000000001), z1, 1) else (if E = 2 then some ((-1000000003), z1, 1) else none))
set_option maxRecDepth 100000 in
theorem CL_giveBack {ln : Nat} {D : DD} {z : ZZ} {v1 : Int} (hD : okD D) (hz : okz z) (rv1 : inR v1) {p : Int × ZZ × Nat} (h : fL_giveBack v1 z = some p) : X mL_giveBack 0 (xEnt [.ref 0, .int (iN (v1))] (xL mL_giveBack)) [] (sD ln D z) p.2.2 (6 * p.2.2) (Qd (okz p.2.1 ∧ inR p.1) (.inl (some (.int (iN p.1)))) (sD ln (djn p.2.2 D) p.2.1)) := by
  unfold fL_giveBack at h
  obtain ⟨⟨r | E, z1⟩, e, h⟩ := bs h
  · cases h
    show X mL_giveBack 0 _ [] (sD ln D z) 0 0 (Qd (okz z1 ∧ inR r) (.inl (some (.int (iN r)))) (sD ln D z1))
    refine E_ent (c1_f rfl (c1_i c1_n)) (M := [some (.ref 0), some (.int (iN (v1))), none]) rfl ?_
    refine X_aload_n (pc' := 1) dL_giveBack_0 rfl rfl ?_
    refine X_iload_n (pc' := 2) dL_giveBack_1 rfl rfl ?_
    refine E0_callMH [.int (iN (v1))] (pc' := 5) dL_giveBack_2 rfl VL_69 (by decide) rfl rfl (c1_i c1_n) (cs rfl) c1_n (cs rfl) rfl hD (show X mX5_giveBack 0 (xEnt [.ref 0, .int (iN (v1))] (xL mX5_giveBack)) [] (zmk (ln, D) (dT D).toNat z) 0 0 (Qd (inR r ∧ okz z1) (.inl (some (.int (iN r)))) (zmk (ln, D) (dT D).toNat z1)) from CX5_giveBack (hNm hD) hz rv1 e) (fun f => ?_)
    exact X_iret dL_giveBack_5 rfl ⟨⟨f.2, f.1⟩, rfl, rfl⟩
  · by_cases c0 : E = 0
    · have h := if_t c0 h
      cases h
      subst c0
      show X mL_giveBack 0 _ [] (sD ln D z) 1 6 (Qd (okz z1 ∧ inR ((-1000000001))) (.inl (some (.int (iN ((-1000000001)))))) (sD ln (djk D) z1))
      refine E_ent (c1_f rfl (c1_i c1_n)) (M := [some (.ref 0), some (.int (iN (v1))), none]) rfl ?_
      refine X_aload_n (pc' := 1) dL_giveBack_0 rfl rfl ?_
      refine X_iload_n (pc' := 2) dL_giveBack_1 rfl rfl ?_
      refine E0_callMx (i := 2) (to := 7) [.int (iN (v1))] (pc' := 5) dL_giveBack_2 rfl VL_69 (by decide) rfl rfl (c1_i c1_n) (cs rfl) c1_n (cs rfl) rfl hD (show X mX5_giveBack 0 (xEnt [.ref 0, .int (iN (v1))] (xL mX5_giveBack)) [] (zmk (ln, D) (dT D).toNat z) 1 6 (Qd (okz z1) (.inr 0) (zmk (ln, D) ((dT D).toNat + 1) z1)) from CX5_giveBack (hNm hD) hz rv1 e) ⟨[], ⟨0, 5, 6, 50⟩, [⟨0, 5, 10, 20⟩], rfl, (fun _ h => nomatch h), by decide, by decide, ⟨"java/lang/IndexOutOfBoundsException", tq1764, tq1438⟩, by decide, Or.inl ⟨2, rfl, dL_giveBack_6, rfl⟩⟩ (Or.inr rfl) (fun f => ?_)
      refine X_ldcI (pc' := 9) dL_giveBack_7 rfl tq1815 (n := (-1000000001)) rfl ?_
      exact X_iret dL_giveBack_9 rfl ⟨⟨f, inR_c (n := (-1000000001)) rfl⟩, rfl, rfl⟩
    have h := if_f c0 h
    by_cases c1 : E = 2
    · have h := if_t c1 h
      cases h
      subst c1
      show X mL_giveBack 0 _ [] (sD ln D z) 1 6 (Qd (okz z1 ∧ inR ((-1000000003))) (.inl (some (.int (iN ((-1000000003)))))) (sD ln (djk D) z1))
      refine E_ent (c1_f rfl (c1_i c1_n)) (M := [some (.ref 0), some (.int (iN (v1))), none]) rfl ?_
      refine X_aload_n (pc' := 1) dL_giveBack_0 rfl rfl ?_
      refine X_iload_n (pc' := 2) dL_giveBack_1 rfl rfl ?_
      refine E0_callMx (i := 2) (to := 11) [.int (iN (v1))] (pc' := 5) dL_giveBack_2 rfl VL_69 (by decide) rfl rfl (c1_i c1_n) (cs rfl) c1_n (cs rfl) rfl hD (show X mX5_giveBack 0 (xEnt [.ref 0, .int (iN (v1))] (xL mX5_giveBack)) [] (zmk (ln, D) (dT D).toNat z) 1 6 (Qd (okz z1) (.inr 2) (zmk (ln, D) ((dT D).toNat + 1) z1)) from CX5_giveBack (hNm hD) hz rv1 e) ⟨[⟨0, 5, 6, 50⟩], ⟨0, 5, 10, 20⟩, [], rfl, (List.forall_mem_cons.mpr ⟨Or.inr ⟨by decide, "java/lang/IndexOutOfBoundsException", tq1764, List.mem_of_getElem? (i := 52) rfl⟩, (fun _ h => nomatch h)⟩), by decide, by decide, ⟨"java/lang/IllegalStateException", tq1732, tq1742⟩, by decide, Or.inl ⟨2, rfl, dL_giveBack_10, rfl⟩⟩ (Or.inr rfl) (fun f => ?_)
      refine X_ldcI (pc' := 13) dL_giveBack_11 rfl tq1760 (n := (-1000000003)) rfl ?_
      exact X_iret dL_giveBack_13 rfl ⟨⟨f, inR_c (n := (-1000000003)) rfl⟩, rfl, rfl⟩
    have h := if_f c1 h
    cases h
def fL_check (v1 : Int) (v2 : Int) (z : ZZ) : Option (Int × ZZ × Nat) := Option.bind (fX5_check v1 v2 z) fun q => match q with | (.inl r, z1) => some (r, z1, 0) | (.inr E, z1) => (if E = 0 then some ((-1000000001), z1, 1) else (if E = 2 then some ((-1000000003), z1, 1) else none))
set_option maxRecDepth 100000 in
theorem CL_check {ln : Nat} {D : DD} {z : ZZ} {v1 : Int} {v2 : Int} (hD : okD D) (hz : okz z) (rv1 : inR v1) (rv2 : inR v2) {p : Int × ZZ × Nat} (h : fL_check v1 v2 z = some p) : X mL_check 0 (xEnt [.ref 0, .int (iN (v1)), .int (iN (v2))] (xL mL_check)) [] (sD ln D z) p.2.2 (6 * p.2.2) (Qd (okz p.2.1 ∧ inR p.1) (.inl (some (.int (iN p.1)))) (sD ln (djn p.2.2 D) p.2.1)) := by
  unfold fL_check at h
  obtain ⟨⟨r | E, z1⟩, e, h⟩ := bs h
  · cases h
    show X mL_check 0 _ [] (sD ln D z) 0 0 (Qd (okz z1 ∧ inR r) (.inl (some (.int (iN r)))) (sD ln D z1))
    refine E_ent (c1_f rfl (c1_i (c1_i c1_n))) (M := [some (.ref 0), some (.int (iN (v1))), some (.int (iN (v2))), none]) rfl ?_
    refine X_aload_n (pc' := 1) dL_check_0 rfl rfl ?_
    refine X_iload_n (pc' := 2) dL_check_1 rfl rfl ?_
    refine X_iload_n (pc' := 3) dL_check_2 rfl rfl ?_
    refine E0_callMH [.int (iN (v1)), .int (iN (v2))] (pc' := 6) dL_check_3 rfl VL_72 (by decide) rfl rfl (c1_i (c1_i c1_n)) (cs rfl) c1_n (cs rfl) rfl hD (show X mX5_check 0 (xEnt [.ref 0, .int (iN (v1)), .int (iN (v2))] (xL mX5_check)) [] (zmk (ln, D) (dT D).toNat z) 0 0 (Qd (inR r ∧ okz z1) (.inl (some (.int (iN r)))) (zmk (ln, D) (dT D).toNat z1)) from CX5_check (hNm hD) hz rv1 rv2 e) (fun f => ?_)
    exact X_iret dL_check_6 rfl ⟨⟨f.2, f.1⟩, rfl, rfl⟩
  · by_cases c0 : E = 0
    · have h := if_t c0 h
      cases h
      subst c0
      show X mL_check 0 _ [] (sD ln D z) 1 6 (Qd (okz z1 ∧ inR ((-1000000001))) (.inl (some (.int (iN ((-1000000001)))))) (sD ln (djk D) z1))
      refine E_ent (c1_f rfl (c1_i (c1_i c1_n))) (M := [some (.ref 0), some (.int (iN (v1))), some (.int (iN (v2))), none]) rfl ?_
      refine X_aload_n (pc' := 1) dL_check_0 rfl rfl ?_
      refine X_iload_n (pc' := 2) dL_check_1 rfl rfl ?_
      refine X_iload_n (pc' := 3) dL_check_2 rfl rfl ?_
      refine E0_callMx (i := 3) (to := 8) [.int (iN (v1)), .int (iN (v2))] (pc' := 6) dL_check_3 rfl VL_72 (by decide) rfl rfl (c1_i (c1_i c1_n)) (cs rfl) c1_n (cs rfl) rfl hD (show X mX5_check 0 (xEnt [.ref 0, .int (iN (v1)), .int (iN (v2))] (xL mX5_check)) [] (zmk (ln, D) (dT D).toNat z) 1 6 (Qd (okz z1) (.inr 0) (zmk (ln, D) ((dT D).toNat + 1) z1)) from CX5_check (hNm hD) hz rv1 rv2 e) ⟨[], ⟨0, 6, 7, 50⟩, [⟨0, 6, 11, 20⟩], rfl, (fun _ h => nomatch h), by decide, by decide, ⟨"java/lang/IndexOutOfBoundsException", tq1764, tq1438⟩, by decide, Or.inl ⟨3, rfl, dL_check_7, rfl⟩⟩ (Or.inr rfl) (fun f => ?_)
      refine X_ldcI (pc' := 10) dL_check_8 rfl tq1815 (n := (-1000000001)) rfl ?_
      exact X_iret dL_check_10 rfl ⟨⟨f, inR_c (n := (-1000000001)) rfl⟩, rfl, rfl⟩
    have h := if_f c0 h
    by_cases c1 : E = 2
    · have h := if_t c1 h
      cases h
      subst c1
      show X mL_check 0 _ [] (sD ln D z) 1 6 (Qd (okz z1 ∧ inR ((-1000000003))) (.inl (some (.int (iN ((-1000000003)))))) (sD ln (djk D) z1))
      refine E_ent (c1_f rfl (c1_i (c1_i c1_n))) (M := [some (.ref 0), some (.int (iN (v1))), some (.int (iN (v2))), none]) rfl ?_
      refine X_aload_n (pc' := 1) dL_check_0 rfl rfl ?_
      refine X_iload_n (pc' := 2) dL_check_1 rfl rfl ?_
      refine X_iload_n (pc' := 3) dL_check_2 rfl rfl ?_
      refine E0_callMx (i := 3) (to := 12) [.int (iN (v1)), .int (iN (v2))] (pc' := 6) dL_check_3 rfl VL_72 (by decide) rfl rfl (c1_i (c1_i c1_n)) (cs rfl) c1_n (cs rfl) rfl hD (show X mX5_check 0 (xEnt [.ref 0, .int (iN (v1)), .int (iN (v2))] (xL mX5_check)) [] (zmk (ln, D) (dT D).toNat z) 1 6 (Qd (okz z1) (.inr 2) (zmk (ln, D) ((dT D).toNat + 1) z1)) from CX5_check (hNm hD) hz rv1 rv2 e) ⟨[⟨0, 6, 7, 50⟩], ⟨0, 6, 11, 20⟩, [], rfl, (List.forall_mem_cons.mpr ⟨Or.inr ⟨by decide, "java/lang/IndexOutOfBoundsException", tq1764, List.mem_of_getElem? (i := 52) rfl⟩, (fun _ h => nomatch h)⟩), by decide, by decide, ⟨"java/lang/IllegalStateException", tq1732, tq1742⟩, by decide, Or.inl ⟨3, rfl, dL_check_11, rfl⟩⟩ (Or.inr rfl) (fun f => ?_)
      refine X_ldcI (pc' := 14) dL_check_12 rfl tq1760 (n := (-1000000003)) rfl ?_
      exact X_iret dL_check_14 rfl ⟨⟨f, inR_c (n := (-1000000003)) rfl⟩, rfl, rfl⟩
    have h := if_f c1 h
    cases h
def fL_enroll (v1 : Int) (v2 : Int) (z : ZZ) : Option (Int × ZZ × Nat) := Option.bind (fX5_enroll v1 v2 z) fun q => match q with | (.inl r, z1) => some (r, z1, 0) | (.inr E, z1) => (if E = 0 then some ((-1000000001), z1, 1) else (if E = 2 then some ((-1000000003), z1, 1) else none))
set_option maxRecDepth 100000 in
theorem CL_enroll {ln : Nat} {D : DD} {z : ZZ} {v1 : Int} {v2 : Int} (hD : okD D) (hz : okz z) (rv1 : inR v1) (rv2 : inR v2) {p : Int × ZZ × Nat} (h : fL_enroll v1 v2 z = some p) : X mL_enroll 0 (xEnt [.ref 0, .int (iN (v1)), .int (iN (v2))] (xL mL_enroll)) [] (sD ln D z) p.2.2 (6 * p.2.2) (Qd (okz p.2.1 ∧ inR p.1) (.inl (some (.int (iN p.1)))) (sD ln (djn p.2.2 D) p.2.1)) := by
  unfold fL_enroll at h
  obtain ⟨⟨r | E, z1⟩, e, h⟩ := bs h
  · cases h
    show X mL_enroll 0 _ [] (sD ln D z) 0 0 (Qd (okz z1 ∧ inR r) (.inl (some (.int (iN r)))) (sD ln D z1))
    refine E_ent (c1_f rfl (c1_i (c1_i c1_n))) (M := [some (.ref 0), some (.int (iN (v1))), some (.int (iN (v2))), none]) rfl ?_
    refine X_aload_n (pc' := 1) dL_enroll_0 rfl rfl ?_
    refine X_iload_n (pc' := 2) dL_enroll_1 rfl rfl ?_
    refine X_iload_n (pc' := 3) dL_enroll_2 rfl rfl ?_
    refine E0_callMH [.int (iN (v1)), .int (iN (v2))] (pc' := 6) dL_enroll_3 rfl VL_76 (by decide) rfl rfl (c1_i (c1_i c1_n)) (cs rfl) c1_n (cs rfl) rfl hD (show X mX5_enroll 0 (xEnt [.ref 0, .int (iN (v1)), .int (iN (v2))] (xL mX5_enroll)) [] (zmk (ln, D) (dT D).toNat z) 0 0 (Qd (inR r ∧ okz z1) (.inl (some (.int (iN r)))) (zmk (ln, D) (dT D).toNat z1)) from CX5_enroll (hNm hD) hz rv1 rv2 e) (fun f => ?_)
    exact X_iret dL_enroll_6 rfl ⟨⟨f.2, f.1⟩, rfl, rfl⟩
  · by_cases c0 : E = 0
    · have h := if_t c0 h
      cases h
      subst c0
      show X mL_enroll 0 _ [] (sD ln D z) 1 6 (Qd (okz z1 ∧ inR ((-1000000001))) (.inl (some (.int (iN ((-1000000001)))))) (sD ln (djk D) z1))
      refine E_ent (c1_f rfl (c1_i (c1_i c1_n))) (M := [some (.ref 0), some (.int (iN (v1))), some (.int (iN (v2))), none]) rfl ?_
      refine X_aload_n (pc' := 1) dL_enroll_0 rfl rfl ?_
      refine X_iload_n (pc' := 2) dL_enroll_1 rfl rfl ?_
      refine X_iload_n (pc' := 3) dL_enroll_2 rfl rfl ?_
      refine E0_callMx (i := 3) (to := 8) [.int (iN (v1)), .int (iN (v2))] (pc' := 6) dL_enroll_3 rfl VL_76 (by decide) rfl rfl (c1_i (c1_i c1_n)) (cs rfl) c1_n (cs rfl) rfl hD (show X mX5_enroll 0 (xEnt [.ref 0, .int (iN (v1)), .int (iN (v2))] (xL mX5_enroll)) [] (zmk (ln, D) (dT D).toNat z) 1 6 (Qd (okz z1) (.inr 0) (zmk (ln, D) ((dT D).toNat + 1) z1)) from CX5_enroll (hNm hD) hz rv1 rv2 e) ⟨[], ⟨0, 6, 7, 50⟩, [⟨0, 6, 11, 20⟩], rfl, (fun _ h => nomatch h), by decide, by decide, ⟨"java/lang/IndexOutOfBoundsException", tq1764, tq1438⟩, by decide, Or.inl ⟨3, rfl, dL_enroll_7, rfl⟩⟩ (Or.inr rfl) (fun f => ?_)
      refine X_ldcI (pc' := 10) dL_enroll_8 rfl tq1815 (n := (-1000000001)) rfl ?_
      exact X_iret dL_enroll_10 rfl ⟨⟨f, inR_c (n := (-1000000001)) rfl⟩, rfl, rfl⟩
    have h := if_f c0 h
    by_cases c1 : E = 2
    · have h := if_t c1 h
      cases h
      subst c1
      show X mL_enroll 0 _ [] (sD ln D z) 1 6 (Qd (okz z1 ∧ inR ((-1000000003))) (.inl (some (.int (iN ((-1000000003)))))) (sD ln (djk D) z1))
      refine E_ent (c1_f rfl (c1_i (c1_i c1_n))) (M := [some (.ref 0), some (.int (iN (v1))), some (.int (iN (v2))), none]) rfl ?_
      refine X_aload_n (pc' := 1) dL_enroll_0 rfl rfl ?_
      refine X_iload_n (pc' := 2) dL_enroll_1 rfl rfl ?_
      refine X_iload_n (pc' := 3) dL_enroll_2 rfl rfl ?_
      refine E0_callMx (i := 3) (to := 12) [.int (iN (v1)), .int (iN (v2))] (pc' := 6) dL_enroll_3 rfl VL_76 (by decide) rfl rfl (c1_i (c1_i c1_n)) (cs rfl) c1_n (cs rfl) rfl hD (show X mX5_enroll 0 (xEnt [.ref 0, .int (iN (v1)), .int (iN (v2))] (xL mX5_enroll)) [] (zmk (ln, D) (dT D).toNat z) 1 6 (Qd (okz z1) (.inr 2) (zmk (ln, D) ((dT D).toNat + 1) z1)) from CX5_enroll (hNm hD) hz rv1 rv2 e) ⟨[⟨0, 6, 7, 50⟩], ⟨0, 6, 11, 20⟩, [], rfl, (List.forall_mem_cons.mpr ⟨Or.inr ⟨by decide, "java/lang/IndexOutOfBoundsException", tq1764, List.mem_of_getElem? (i := 52) rfl⟩, (fun _ h => nomatch h)⟩), by decide, by decide, ⟨"java/lang/IllegalStateException", tq1732, tq1742⟩, by decide, Or.inl ⟨3, rfl, dL_enroll_11, rfl⟩⟩ (Or.inr rfl) (fun f => ?_)
      refine X_ldcI (pc' := 14) dL_enroll_12 rfl tq1760 (n := (-1000000003)) rfl ?_
      exact X_iret dL_enroll_14 rfl ⟨⟨f, inR_c (n := (-1000000003)) rfl⟩, rfl, rfl⟩
    have h := if_f c1 h
    cases h
def fL_leaveCourse (v1 : Int) (z : ZZ) : Option (Int × ZZ × Nat) := Option.bind (fX5_leaveCourse v1 z) fun q => match q with | (.inl r, z1) => some (r, z1, 0) | (.inr E, z1) => (if E = 0 then some ((-1000000001), z1, 1) else (if E = 2 then some ((-1000000003), z1, 1) else none))
set_option maxRecDepth 100000 in
theorem CL_leaveCourse {ln : Nat} {D : DD} {z : ZZ} {v1 : Int} (hD : okD D) (hz : okz z) (rv1 : inR v1) {p : Int × ZZ × Nat} (h : fL_leaveCourse v1 z = some p) : X mL_leaveCourse 0 (xEnt [.ref 0, .int (iN (v1))] (xL mL_leaveCourse)) [] (sD ln D z) p.2.2 (6 * p.2.2) (Qd (okz p.2.1 ∧ inR p.1) (.inl (some (.int (iN p.1)))) (sD ln (djn p.2.2 D) p.2.1)) := by
  unfold fL_leaveCourse at h
  obtain ⟨⟨r | E, z1⟩, e, h⟩ := bs h
  · cases h
    show X mL_leaveCourse 0 _ [] (sD ln D z) 0 0 (Qd (okz z1 ∧ inR r) (.inl (some (.int (iN r)))) (sD ln D z1))
    refine E_ent (c1_f rfl (c1_i c1_n)) (M := [some (.ref 0), some (.int (iN (v1))), none]) rfl ?_
    refine X_aload_n (pc' := 1) dL_leaveCourse_0 rfl rfl ?_
    refine X_iload_n (pc' := 2) dL_leaveCourse_1 rfl rfl ?_
    refine E0_callMH [.int (iN (v1))] (pc' := 5) dL_leaveCourse_2 rfl VL_79 (by decide) rfl rfl (c1_i c1_n) (cs rfl) c1_n (cs rfl) rfl hD (show X mX5_leaveCourse 0 (xEnt [.ref 0, .int (iN (v1))] (xL mX5_leaveCourse)) [] (zmk (ln, D) (dT D).toNat z) 0 0 (Qd (inR r ∧ okz z1) (.inl (some (.int (iN r)))) (zmk (ln, D) (dT D).toNat z1)) from CX5_leaveCourse (hNm hD) hz rv1 e) (fun f => ?_)
    exact X_iret dL_leaveCourse_5 rfl ⟨⟨f.2, f.1⟩, rfl, rfl⟩
  · by_cases c0 : E = 0
    · have h := if_t c0 h
      cases h
      subst c0
      show X mL_leaveCourse 0 _ [] (sD ln D z) 1 6 (Qd (okz z1 ∧ inR ((-1000000001))) (.inl (some (.int (iN ((-1000000001)))))) (sD ln (djk D) z1))
      refine E_ent (c1_f rfl (c1_i c1_n)) (M := [some (.ref 0), some (.int (iN (v1))), none]) rfl ?_
      refine X_aload_n (pc' := 1) dL_leaveCourse_0 rfl rfl ?_
      refine X_iload_n (pc' := 2) dL_leaveCourse_1 rfl rfl ?_
      refine E0_callMx (i := 2) (to := 7) [.int (iN (v1))] (pc' := 5) dL_leaveCourse_2 rfl VL_79 (by decide) rfl rfl (c1_i c1_n) (cs rfl) c1_n (cs rfl) rfl hD (show X mX5_leaveCourse 0 (xEnt [.ref 0, .int (iN (v1))] (xL mX5_leaveCourse)) [] (zmk (ln, D) (dT D).toNat z) 1 6 (Qd (okz z1) (.inr 0) (zmk (ln, D) ((dT D).toNat + 1) z1)) from CX5_leaveCourse (hNm hD) hz rv1 e) ⟨[], ⟨0, 5, 6, 50⟩, [⟨0, 5, 10, 20⟩], rfl, (fun _ h => nomatch h), by decide, by decide, ⟨"java/lang/IndexOutOfBoundsException", tq1764, tq1438⟩, by decide, Or.inl ⟨2, rfl, dL_leaveCourse_6, rfl⟩⟩ (Or.inr rfl) (fun f => ?_)
      refine X_ldcI (pc' := 9) dL_leaveCourse_7 rfl tq1815 (n := (-1000000001)) rfl ?_
      exact X_iret dL_leaveCourse_9 rfl ⟨⟨f, inR_c (n := (-1000000001)) rfl⟩, rfl, rfl⟩
    have h := if_f c0 h
    by_cases c1 : E = 2
    · have h := if_t c1 h
      cases h
      subst c1
      show X mL_leaveCourse 0 _ [] (sD ln D z) 1 6 (Qd (okz z1 ∧ inR ((-1000000003))) (.inl (some (.int (iN ((-1000000003)))))) (sD ln (djk D) z1))
      refine E_ent (c1_f rfl (c1_i c1_n)) (M := [some (.ref 0), some (.int (iN (v1))), none]) rfl ?_
      refine X_aload_n (pc' := 1) dL_leaveCourse_0 rfl rfl ?_
      refine X_iload_n (pc' := 2) dL_leaveCourse_1 rfl rfl ?_
      refine E0_callMx (i := 2) (to := 11) [.int (iN (v1))] (pc' := 5) dL_leaveCourse_2 rfl VL_79 (by decide) rfl rfl (c1_i c1_n) (cs rfl) c1_n (cs rfl) rfl hD (show X mX5_leaveCourse 0 (xEnt [.ref 0, .int (iN (v1))] (xL mX5_leaveCourse)) [] (zmk (ln, D) (dT D).toNat z) 1 6 (Qd (okz z1) (.inr 2) (zmk (ln, D) ((dT D).toNat + 1) z1)) from CX5_leaveCourse (hNm hD) hz rv1 e) ⟨[⟨0, 5, 6, 50⟩], ⟨0, 5, 10, 20⟩, [], rfl, (List.forall_mem_cons.mpr ⟨Or.inr ⟨by decide, "java/lang/IndexOutOfBoundsException", tq1764, List.mem_of_getElem? (i := 52) rfl⟩, (fun _ h => nomatch h)⟩), by decide, by decide, ⟨"java/lang/IllegalStateException", tq1732, tq1742⟩, by decide, Or.inl ⟨2, rfl, dL_leaveCourse_10, rfl⟩⟩ (Or.inr rfl) (fun f => ?_)
      refine X_ldcI (pc' := 13) dL_leaveCourse_11 rfl tq1760 (n := (-1000000003)) rfl ?_
      exact X_iret dL_leaveCourse_13 rfl ⟨⟨f, inR_c (n := (-1000000003)) rfl⟩, rfl, rfl⟩
    have h := if_f c1 h
    cases h
def fL_finish (v1 : Int) (v2 : Int) (z : ZZ) : Option (Int × ZZ × Nat) := Option.bind (fX5_finish v1 v2 z) fun q => match q with | (.inl r, z1) => some (r, z1, 0) | (.inr E, z1) => (if E = 0 then some ((-1000000001), z1, 1) else none)
set_option maxRecDepth 100000 in
theorem CL_finish {ln : Nat} {D : DD} {z : ZZ} {v1 : Int} {v2 : Int} (hD : okD D) (hz : okz z) (rv1 : inR v1) (rv2 : inR v2) {p : Int × ZZ × Nat} (h : fL_finish v1 v2 z = some p) : X mL_finish 0 (xEnt [.ref 0, .int (iN (v1)), .int (iN (v2))] (xL mL_finish)) [] (sD ln D z) p.2.2 (6 * p.2.2) (Qd (okz p.2.1 ∧ inR p.1) (.inl (some (.int (iN p.1)))) (sD ln (djn p.2.2 D) p.2.1)) := by
  unfold fL_finish at h
  obtain ⟨⟨r | E, z1⟩, e, h⟩ := bs h
  · cases h
    show X mL_finish 0 _ [] (sD ln D z) 0 0 (Qd (okz z1 ∧ inR r) (.inl (some (.int (iN r)))) (sD ln D z1))
    refine E_ent (c1_f rfl (c1_i (c1_i c1_n))) (M := [some (.ref 0), some (.int (iN (v1))), some (.int (iN (v2))), none]) rfl ?_
    refine X_aload_n (pc' := 1) dL_finish_0 rfl rfl ?_
    refine X_iload_n (pc' := 2) dL_finish_1 rfl rfl ?_
    refine X_iload_n (pc' := 3) dL_finish_2 rfl rfl ?_
    refine E0_callMH [.int (iN (v1)), .int (iN (v2))] (pc' := 6) dL_finish_3 rfl VL_82 (by decide) rfl rfl (c1_i (c1_i c1_n)) (cs rfl) c1_n (cs rfl) rfl hD (show X mX5_finish 0 (xEnt [.ref 0, .int (iN (v1)), .int (iN (v2))] (xL mX5_finish)) [] (zmk (ln, D) (dT D).toNat z) 0 0 (Qd (inR r ∧ okz z1) (.inl (some (.int (iN r)))) (zmk (ln, D) (dT D).toNat z1)) from CX5_finish (hNm hD) hz rv1 rv2 e) (fun f => ?_)
    exact X_iret dL_finish_6 rfl ⟨⟨f.2, f.1⟩, rfl, rfl⟩
  · by_cases c0 : E = 0
    · have h := if_t c0 h
      cases h
      subst c0
      show X mL_finish 0 _ [] (sD ln D z) 1 6 (Qd (okz z1 ∧ inR ((-1000000001))) (.inl (some (.int (iN ((-1000000001)))))) (sD ln (djk D) z1))
      refine E_ent (c1_f rfl (c1_i (c1_i c1_n))) (M := [some (.ref 0), some (.int (iN (v1))), some (.int (iN (v2))), none]) rfl ?_
      refine X_aload_n (pc' := 1) dL_finish_0 rfl rfl ?_
      refine X_iload_n (pc' := 2) dL_finish_1 rfl rfl ?_
      refine X_iload_n (pc' := 3) dL_finish_2 rfl rfl ?_
      refine E0_callMx (i := 3) (to := 8) [.int (iN (v1)), .int (iN (v2))] (pc' := 6) dL_finish_3 rfl VL_82 (by decide) rfl rfl (c1_i (c1_i c1_n)) (cs rfl) c1_n (cs rfl) rfl hD (show X mX5_finish 0 (xEnt [.ref 0, .int (iN (v1)), .int (iN (v2))] (xL mX5_finish)) [] (zmk (ln, D) (dT D).toNat z) 1 6 (Qd (okz z1) (.inr 0) (zmk (ln, D) ((dT D).toNat + 1) z1)) from CX5_finish (hNm hD) hz rv1 rv2 e) ⟨[], ⟨0, 6, 7, 50⟩, [], rfl, (fun _ h => nomatch h), by decide, by decide, ⟨"java/lang/IndexOutOfBoundsException", tq1764, tq1438⟩, by decide, Or.inl ⟨3, rfl, dL_finish_7, rfl⟩⟩ (Or.inr rfl) (fun f => ?_)
      refine X_ldcI (pc' := 10) dL_finish_8 rfl tq1815 (n := (-1000000001)) rfl ?_
      exact X_iret dL_finish_10 rfl ⟨⟨f, inR_c (n := (-1000000001)) rfl⟩, rfl, rfl⟩
    have h := if_f c0 h
    cases h
def fL_postpone (v1 : Int) (v2 : Int) (z : ZZ) : Option (Int × ZZ × Nat) := Option.bind (fX5_postpone v1 v2 z) fun q => match q with | (.inl r, z1) => some (r, z1, 0) | (.inr E, z1) => (if E = 0 then some ((-1000000001), z1, 1) else (if E = 1 then some ((-1000000002), z1, 1) else none))
set_option maxRecDepth 100000 in
theorem CL_postpone {ln : Nat} {D : DD} {z : ZZ} {v1 : Int} {v2 : Int} (hD : okD D) (hz : okz z) (rv1 : inR v1) (rv2 : inR v2) {p : Int × ZZ × Nat} (h : fL_postpone v1 v2 z = some p) : X mL_postpone 0 (xEnt [.ref 0, .int (iN (v1)), .int (iN (v2))] (xL mL_postpone)) [] (sD ln D z) p.2.2 (6 * p.2.2) (Qd (okz p.2.1 ∧ inR p.1) (.inl (some (.int (iN p.1)))) (sD ln (djn p.2.2 D) p.2.1)) := by
  unfold fL_postpone at h
  obtain ⟨⟨r | E, z1⟩, e, h⟩ := bs h
  · cases h
    show X mL_postpone 0 _ [] (sD ln D z) 0 0 (Qd (okz z1 ∧ inR r) (.inl (some (.int (iN r)))) (sD ln D z1))
    refine E_ent (c1_f rfl (c1_i (c1_i c1_n))) (M := [some (.ref 0), some (.int (iN (v1))), some (.int (iN (v2))), none]) rfl ?_
    refine X_aload_n (pc' := 1) dL_postpone_0 rfl rfl ?_
    refine X_iload_n (pc' := 2) dL_postpone_1 rfl rfl ?_
    refine X_iload_n (pc' := 3) dL_postpone_2 rfl rfl ?_
    refine E0_callMH [.int (iN (v1)), .int (iN (v2))] (pc' := 6) dL_postpone_3 rfl VL_85 (by decide) rfl rfl (c1_i (c1_i c1_n)) (cs rfl) c1_n (cs rfl) rfl hD (show X mX5_postpone 0 (xEnt [.ref 0, .int (iN (v1)), .int (iN (v2))] (xL mX5_postpone)) [] (zmk (ln, D) (dT D).toNat z) 0 0 (Qd (inR r ∧ okz z1) (.inl (some (.int (iN r)))) (zmk (ln, D) (dT D).toNat z1)) from CX5_postpone (hNm hD) hz rv1 rv2 e) (fun f => ?_)
    exact X_iret dL_postpone_6 rfl ⟨⟨f.2, f.1⟩, rfl, rfl⟩
  · by_cases c0 : E = 0
    · have h := if_t c0 h
      cases h
      subst c0
      show X mL_postpone 0 _ [] (sD ln D z) 1 6 (Qd (okz z1 ∧ inR ((-1000000001))) (.inl (some (.int (iN ((-1000000001)))))) (sD ln (djk D) z1))
      refine E_ent (c1_f rfl (c1_i (c1_i c1_n))) (M := [some (.ref 0), some (.int (iN (v1))), some (.int (iN (v2))), none]) rfl ?_
      refine X_aload_n (pc' := 1) dL_postpone_0 rfl rfl ?_
      refine X_iload_n (pc' := 2) dL_postpone_1 rfl rfl ?_
      refine X_iload_n (pc' := 3) dL_postpone_2 rfl rfl ?_
      refine E0_callMx (i := 3) (to := 8) [.int (iN (v1)), .int (iN (v2))] (pc' := 6) dL_postpone_3 rfl VL_85 (by decide) rfl rfl (c1_i (c1_i c1_n)) (cs rfl) c1_n (cs rfl) rfl hD (show X mX5_postpone 0 (xEnt [.ref 0, .int (iN (v1)), .int (iN (v2))] (xL mX5_postpone)) [] (zmk (ln, D) (dT D).toNat z) 1 6 (Qd (okz z1) (.inr 0) (zmk (ln, D) ((dT D).toNat + 1) z1)) from CX5_postpone (hNm hD) hz rv1 rv2 e) ⟨[], ⟨0, 6, 7, 50⟩, [⟨0, 6, 11, 27⟩], rfl, (fun _ h => nomatch h), by decide, by decide, ⟨"java/lang/IndexOutOfBoundsException", tq1764, tq1438⟩, by decide, Or.inl ⟨3, rfl, dL_postpone_7, rfl⟩⟩ (Or.inr rfl) (fun f => ?_)
      refine X_ldcI (pc' := 10) dL_postpone_8 rfl tq1815 (n := (-1000000001)) rfl ?_
      exact X_iret dL_postpone_10 rfl ⟨⟨f, inR_c (n := (-1000000001)) rfl⟩, rfl, rfl⟩
    have h := if_f c0 h
    by_cases c1 : E = 1
    · have h := if_t c1 h
      cases h
      subst c1
      show X mL_postpone 0 _ [] (sD ln D z) 1 6 (Qd (okz z1 ∧ inR ((-1000000002))) (.inl (some (.int (iN ((-1000000002)))))) (sD ln (djk D) z1))
      refine E_ent (c1_f rfl (c1_i (c1_i c1_n))) (M := [some (.ref 0), some (.int (iN (v1))), some (.int (iN (v2))), none]) rfl ?_
      refine X_aload_n (pc' := 1) dL_postpone_0 rfl rfl ?_
      refine X_iload_n (pc' := 2) dL_postpone_1 rfl rfl ?_
      refine X_iload_n (pc' := 3) dL_postpone_2 rfl rfl ?_
      refine E0_callMx (i := 3) (to := 12) [.int (iN (v1)), .int (iN (v2))] (pc' := 6) dL_postpone_3 rfl VL_85 (by decide) rfl rfl (c1_i (c1_i c1_n)) (cs rfl) c1_n (cs rfl) rfl hD (show X mX5_postpone 0 (xEnt [.ref 0, .int (iN (v1)), .int (iN (v2))] (xL mX5_postpone)) [] (zmk (ln, D) (dT D).toNat z) 1 6 (Qd (okz z1) (.inr 1) (zmk (ln, D) ((dT D).toNat + 1) z1)) from CX5_postpone (hNm hD) hz rv1 rv2 e) ⟨[⟨0, 6, 7, 50⟩], ⟨0, 6, 11, 27⟩, [], rfl, (List.forall_mem_cons.mpr ⟨Or.inr ⟨by decide, "java/lang/IndexOutOfBoundsException", tq1764, List.mem_of_getElem? (i := 53) rfl⟩, (fun _ h => nomatch h)⟩), by decide, by decide, ⟨"java/lang/IllegalArgumentException", tq1708, tq1287⟩, by decide, Or.inl ⟨3, rfl, dL_postpone_11, rfl⟩⟩ (Or.inr rfl) (fun f => ?_)
      refine X_ldcI (pc' := 14) dL_postpone_12 rfl tq1719 (n := (-1000000002)) rfl ?_
      exact X_iret dL_postpone_14 rfl ⟨⟨f, inR_c (n := (-1000000002)) rfl⟩, rfl, rfl⟩
    have h := if_f c1 h
    cases h
def fL_undo (z : ZZ) : Option (Int × ZZ × Nat) := Option.bind (fX5_undo z) fun q => match q with | (.inl r, z1) => some (r, z1, 0) | (.inr E, z1) => (if E = 2 then some ((-1000000003), z1, 1) else none)
set_option maxRecDepth 100000 in
theorem CL_undo {ln : Nat} {D : DD} {z : ZZ} (hD : okD D) (hz : okz z) {p : Int × ZZ × Nat} (h : fL_undo z = some p) : X mL_undo 0 (xEnt [.ref 0] (xL mL_undo)) [] (sD ln D z) p.2.2 (6 * p.2.2) (Qd (okz p.2.1 ∧ inR p.1) (.inl (some (.int (iN p.1)))) (sD ln (djn p.2.2 D) p.2.1)) := by
  unfold fL_undo at h
  obtain ⟨⟨r | E, z1⟩, e, h⟩ := bs h
  · cases h
    show X mL_undo 0 _ [] (sD ln D z) 0 0 (Qd (okz z1 ∧ inR r) (.inl (some (.int (iN r)))) (sD ln D z1))
    refine E_ent (c1_f rfl c1_n) (M := [some (.ref 0), none]) rfl ?_
    refine X_aload_n (pc' := 1) dL_undo_0 rfl rfl ?_
    refine E0_callMH [] (pc' := 4) dL_undo_1 rfl VL_88 (by decide) rfl rfl c1_n (cs rfl) c1_n (cs rfl) rfl hD (show X mX5_undo 0 (xEnt [.ref 0] (xL mX5_undo)) [] (zmk (ln, D) (dT D).toNat z) 0 0 (Qd (inR r ∧ okz z1) (.inl (some (.int (iN r)))) (zmk (ln, D) (dT D).toNat z1)) from CX5_undo (hNm hD) hz  e) (fun f => ?_)
    exact X_iret dL_undo_4 rfl ⟨⟨f.2, f.1⟩, rfl, rfl⟩
  · by_cases c0 : E = 2
    · have h := if_t c0 h
      cases h
      subst c0
      show X mL_undo 0 _ [] (sD ln D z) 1 6 (Qd (okz z1 ∧ inR ((-1000000003))) (.inl (some (.int (iN ((-1000000003)))))) (sD ln (djk D) z1))
      refine E_ent (c1_f rfl c1_n) (M := [some (.ref 0), none]) rfl ?_
      refine X_aload_n (pc' := 1) dL_undo_0 rfl rfl ?_
      refine E0_callMx (i := 1) (to := 6) [] (pc' := 4) dL_undo_1 rfl VL_88 (by decide) rfl rfl c1_n (cs rfl) c1_n (cs rfl) rfl hD (show X mX5_undo 0 (xEnt [.ref 0] (xL mX5_undo)) [] (zmk (ln, D) (dT D).toNat z) 1 6 (Qd (okz z1) (.inr 2) (zmk (ln, D) ((dT D).toNat + 1) z1)) from CX5_undo (hNm hD) hz  e) ⟨[], ⟨0, 4, 5, 20⟩, [], rfl, (fun _ h => nomatch h), by decide, by decide, ⟨"java/lang/IllegalStateException", tq1732, tq1742⟩, by decide, Or.inl ⟨1, rfl, dL_undo_5, rfl⟩⟩ (Or.inr rfl) (fun f => ?_)
      refine X_ldcI (pc' := 8) dL_undo_6 rfl tq1760 (n := (-1000000003)) rfl ?_
      exact X_iret dL_undo_8 rfl ⟨⟨f, inR_c (n := (-1000000003)) rfl⟩, rfl, rfl⟩
    have h := if_f c0 h
    cases h
def fL_restore (z : ZZ) : Option (Int × ZZ × Nat) := Option.bind (fX5_restore z) fun q => match q with | (.inl r, z1) => some (r, z1, 0) | (.inr E, z1) => (if E = 2 then some ((-1000000003), z1, 1) else none)
set_option maxRecDepth 100000 in
theorem CL_restore {ln : Nat} {D : DD} {z : ZZ} (hD : okD D) (hz : okz z) {p : Int × ZZ × Nat} (h : fL_restore z = some p) : X mL_restore 0 (xEnt [.ref 0] (xL mL_restore)) [] (sD ln D z) p.2.2 (6 * p.2.2) (Qd (okz p.2.1 ∧ inR p.1) (.inl (some (.int (iN p.1)))) (sD ln (djn p.2.2 D) p.2.1)) := by
  unfold fL_restore at h
  obtain ⟨⟨r | E, z1⟩, e, h⟩ := bs h
  · cases h
    show X mL_restore 0 _ [] (sD ln D z) 0 0 (Qd (okz z1 ∧ inR r) (.inl (some (.int (iN r)))) (sD ln D z1))
    refine E_ent (c1_f rfl c1_n) (M := [some (.ref 0), none]) rfl ?_
    refine X_aload_n (pc' := 1) dL_restore_0 rfl rfl ?_
    refine E0_callMH [] (pc' := 4) dL_restore_1 rfl VL_91 (by decide) rfl rfl c1_n (cs rfl) c1_n (cs rfl) rfl hD (show X mX5_restore 0 (xEnt [.ref 0] (xL mX5_restore)) [] (zmk (ln, D) (dT D).toNat z) 0 0 (Qd (inR r ∧ okz z1) (.inl (some (.int (iN r)))) (zmk (ln, D) (dT D).toNat z1)) from CX5_restore (hNm hD) hz  e) (fun f => ?_)
    exact X_iret dL_restore_4 rfl ⟨⟨f.2, f.1⟩, rfl, rfl⟩
  · by_cases c0 : E = 2
    · have h := if_t c0 h
      cases h
      subst c0
      show X mL_restore 0 _ [] (sD ln D z) 1 6 (Qd (okz z1 ∧ inR ((-1000000003))) (.inl (some (.int (iN ((-1000000003)))))) (sD ln (djk D) z1))
      refine E_ent (c1_f rfl c1_n) (M := [some (.ref 0), none]) rfl ?_
      refine X_aload_n (pc' := 1) dL_restore_0 rfl rfl ?_
      refine E0_callMx (i := 1) (to := 6) [] (pc' := 4) dL_restore_1 rfl VL_91 (by decide) rfl rfl c1_n (cs rfl) c1_n (cs rfl) rfl hD (show X mX5_restore 0 (xEnt [.ref 0] (xL mX5_restore)) [] (zmk (ln, D) (dT D).toNat z) 1 6 (Qd (okz z1) (.inr 2) (zmk (ln, D) ((dT D).toNat + 1) z1)) from CX5_restore (hNm hD) hz  e) ⟨[], ⟨0, 4, 5, 20⟩, [], rfl, (fun _ h => nomatch h), by decide, by decide, ⟨"java/lang/IllegalStateException", tq1732, tq1742⟩, by decide, Or.inl ⟨1, rfl, dL_restore_5, rfl⟩⟩ (Or.inr rfl) (fun f => ?_)
      refine X_ldcI (pc' := 8) dL_restore_6 rfl tq1760 (n := (-1000000003)) rfl ?_
      exact X_iret dL_restore_8 rfl ⟨⟨f, inR_c (n := (-1000000003)) rfl⟩, rfl, rfl⟩
    have h := if_f c0 h
    cases h

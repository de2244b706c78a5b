/-! the law's own little methods: a call with its handlers -/
def cc_h (p : Int × ZZ) : Nat := if p.1 = 0 then 0 else 1
def fa_h (p : Int × ZZ) : Prop := (0 ≤ p.1 ∧ p.1 < 4) ∧ okz p.2
def rs_h (p : Int × ZZ) : xRes := .inl (some (.int (iN p.1)))
def st_h (ln N : Nat) (p : Int × ZZ) : xS := zmk ln (N + cc_h p) p.2
theorem h4 {n : Int} (h : decide (0 ≤ n ∧ n < 4) = true) : 0 ≤ n ∧ n < 4 := of_decide_eq_true h
section HW
variable {μ μ' : xM} {pc pc' : Nat} {L : List (Option Value)} {st : List Value} {ln N : Nat} {z : ZZ} {c9 s9 : Nat} {Φ : xRes → xS → Prop}
theorem Y_callH {idx a c n c8 s8 c7 s7 : Nat} {r : vw_C} {F : Prop} {w : Value} {τ : xS} (As : List Value) {st0 : List Value} (hd : decode (xB μ) pc = .ok (.invokevirtual idx, 3)) (hp : pc + 3 = pc') (hL : xLV (xY μ).cls idx μ' n) (hk : xK μ' < xK μ)
    (ha : a < N) (hsh : (zSH ln a).1 = c + 1) (hr : xcl[c]? = some r) (hcl : r.1 = (xY μ').cls) (hn : As.length = n) (hA : ((.ref a :: As).map fun v => v.category).sum ≤ xL μ') (hrest : (st.map fun v => v.category).sum ≤ 8) (hst : As.reverse ++ .ref a :: st = st0)
    (hX : X μ' 0 (xEnt (.ref a :: As) (xL μ')) [] (zmk ln N z) c8 s8 (Qd F (.inl (some w)) τ)) (hc9 : c9 = c8 + c7) (hs9 : s9 = s8 + s7)
    (k9 : F → X μ pc' L (w :: st) τ c7 s7 Φ) : X μ pc L st0 (zmk ln N z) c9 s9 Φ :=
  X_callVH As hd hp hL.1 hL.2.1 hL.2.2.1 hL.2.2.2.1 hL.2.2.2.2 hk ha hsh hr hcl hn hA hrest hst hX hc9 hs9 (fun v τ' h => by obtain ⟨hF, h1, rfl⟩ := h; cases h1; exact k9 hF) (fun E τ h => by cases h.2.1)
theorem Y_callHx {idx a c n E i to : Nat} {r : vw_C} {F : Prop} {τ : xS} (As : List Value) {st0 : List Value} (hd : decode (xB μ) pc = .ok (.invokevirtual idx, 3)) (hp : pc + 3 = pc') (hL : xLV (xY μ).cls idx μ' n) (hk : xK μ' < xK μ)
    (ha : a < N) (hsh : (zSH ln a).1 = c + 1) (hr : xcl[c]? = some r) (hcl : r.1 = (xY μ').cls) (hn : As.length = n) (hA : ((.ref a :: As).map fun v => v.category).sum ≤ xL μ') (hrest : (st.map fun v => v.category).sum ≤ 8) (hst : As.reverse ++ .ref a :: st = st0)
    (hX : X μ' 0 (xEnt (.ref a :: As) (xL μ')) [] (zmk ln N z) 1 6 (Qd F (.inr E) τ)) (hh : xHan μ E pc i to) (hi : i = 0 ∨ xC1 L[i - 1]? = true)
    (k9 : F → X μ to (L.set i none) [] τ 0 0 Φ) : X μ pc L st0 (zmk ln N z) 1 6 Φ :=
  X_callVH As hd hp hL.1 hL.2.1 hL.2.2.1 hL.2.2.2.1 hL.2.2.2.2 hk ha hsh hr hcl hn hA hrest hst hX (c7 := 0) (s7 := 0) rfl rfl (fun v τ' h => by cases h.2.1) (fun E' τ' h => by obtain ⟨hF, h1, rfl⟩ := h; cases h1; exact ⟨i, to, hh, hi, k9 hF⟩)
end HW
def fL_append (v1 : Int) (v2 : Int) (v3 : Int) (v4 : Int) (v5 : Int) (z : ZZ) : Option (Int × ZZ) := Option.bind (fX5_append v1 v2 v3 v4 v5 z) fun q => match q with | (.inl r, z1) => some (0, zup z1 159 0 r) | (.inr E, z1) => (if E = 2 then some (1, z1) else none)
set_option maxRecDepth 100000 in
theorem CL_append {ln N : Nat} {z : ZZ} {v1 : Int} {v2 : Int} {v3 : Int} {v4 : Int} {v5 : Int} (hN : 161 ≤ N ∧ N < 999999) (hz : okz z) (rv1 : inR v1) (rv2 : inR v2) (rv3 : inR v3) (rv4 : inR v4) (rv5 : inR v5) {p : Int × ZZ} (h : fL_append v1 v2 v3 v4 v5 z = some p) : X mL_append 0 (xEnt [.ref 0, .int (iN v1), .int (iN v2), .int (iN v3), .int (iN v4), .int (iN v5), .ref 159] (xL mL_append)) [] (zmk ln N z) (cc_h p) (6 * cc_h p) (Qd (fa_h p) (rs_h p) (st_h ln N p)) := by
  unfold fL_append at h
  obtain ⟨⟨r | E, z1⟩, e, h⟩ := bs h
  · cases h
    refine X_to (M := [some (.ref 0), some (.int (iN v1)), some (.int (iN v2)), some (.int (iN v3)), some (.int (iN v4)), some (.int (iN v5)), some (.ref 159), none]) (su := []) rfl rfl ?_
    refine X_aload (pc' := 2) dL_append_0 rfl rfl ?_
    refine X_iconst (pc' := 3) dL_append_2 rfl ?_
    refine X_aload_n (pc' := 4) dL_append_3 rfl rfl ?_
    refine X_iload_n (pc' := 5) dL_append_4 rfl rfl ?_
    refine X_iload_n (pc' := 6) dL_append_5 rfl rfl ?_
    refine X_iload_n (pc' := 7) dL_append_6 rfl rfl ?_
    refine X_iload (pc' := 9) dL_append_7 rfl rfl ?_
    refine X_iload (pc' := 11) dL_append_9 rfl rfl ?_
    refine Y_callH [.int (iN v1), .int (iN v2), .int (iN v3), .int (iN v4), .int (iN v5)] (pc' := 14) dL_append_11 rfl VL_7 (by decide) (zlN hN (by decide)) (congrArg Prod.fst (sh0 ln)) rfl rfl rfl (cs rfl) (cs rfl) rfl (CX5_append hN hz rv1 rv2 rv3 rv4 rv5 e) (c7 := 0) (s7 := 0) rfl rfl (fun f => ?_)
    refine X_lI_i2l (pc' := 15) dL_append_14 rfl f.1 ?_
    refine Y_last (pc' := 16) dL_append_15 rfl (zlN hN (by decide)) (sh159 ln) (by decide) ⟨by decide, by decide⟩ ?_
    refine X_goto dL_append_16 (tgt := 23) rfl ?_
    refine X_iconst (pc' := 24) dL_append_23 rfl ?_
    exact X_iret dL_append_24 rfl ⟨⟨h4 (n := 0) rfl, okz_up f.2 f.1⟩, rfl, rfl⟩
  · by_cases c0 : E = 2
    · have h := if_t c0 h
      cases h
      subst c0
      refine X_to (M := [some (.ref 0), some (.int (iN v1)), some (.int (iN v2)), some (.int (iN v3)), some (.int (iN v4)), some (.int (iN v5)), some (.ref 159), none]) (su := []) rfl rfl ?_
      refine X_aload (pc' := 2) dL_append_0 rfl rfl ?_
      refine X_iconst (pc' := 3) dL_append_2 rfl ?_
      refine X_aload_n (pc' := 4) dL_append_3 rfl rfl ?_
      refine X_iload_n (pc' := 5) dL_append_4 rfl rfl ?_
      refine X_iload_n (pc' := 6) dL_append_5 rfl rfl ?_
      refine X_iload_n (pc' := 7) dL_append_6 rfl rfl ?_
      refine X_iload (pc' := 9) dL_append_7 rfl rfl ?_
      refine X_iload (pc' := 11) dL_append_9 rfl rfl ?_
      refine Y_callHx (i := 7) (to := 21) [.int (iN v1), .int (iN v2), .int (iN v3), .int (iN v4), .int (iN v5)] (pc' := 14) dL_append_11 rfl VL_7 (by decide) (zlN hN (by decide)) (congrArg Prod.fst (sh0 ln)) rfl rfl rfl (cs rfl) (cs rfl) rfl (CX5_append hN hz rv1 rv2 rv3 rv4 rv5 e) ⟨[], ⟨0, 16, 19, 13⟩, [], rfl, (fun _ h => nomatch h), by decide, by decide, ⟨"java/lang/IllegalStateException", tq392, tq402⟩, by decide, Or.inr ⟨dL_append_19, rfl⟩⟩ (Or.inr rfl) (fun f => ?_)
      refine X_iconst (pc' := 22) dL_append_21 rfl ?_
      exact X_iret dL_append_22 rfl ⟨⟨h4 (n := 1) rfl, f⟩, rfl, rfl⟩
    have h := if_f c0 h
    cases h
def fL_truncate (v1 : Int) (z : ZZ) : Option (Int × ZZ) := Option.bind (fX5_truncate v1 z) fun q => match q with | (.inl r, z1) => some (0, zup z1 159 0 r) | (.inr E, z1) => (if E = 1 then some (1, z1) else none)
set_option maxRecDepth 100000 in
theorem CL_truncate {ln N : Nat} {z : ZZ} {v1 : Int} (hN : 161 ≤ N ∧ N < 999999) (hz : okz z) (rv1 : inR v1) {p : Int × ZZ} (h : fL_truncate v1 z = some p) : X mL_truncate 0 (xEnt [.ref 0, .int (iN v1), .ref 159] (xL mL_truncate)) [] (zmk ln N z) (cc_h p) (6 * cc_h p) (Qd (fa_h p) (rs_h p) (st_h ln N p)) := by
  unfold fL_truncate at h
  obtain ⟨⟨r | E, z1⟩, e, h⟩ := bs h
  · cases h
    refine X_to (M := [some (.ref 0), some (.int (iN v1)), some (.ref 159), none]) (su := []) rfl rfl ?_
    refine X_aload_n (pc' := 1) dL_truncate_0 rfl rfl ?_
    refine X_iconst (pc' := 2) dL_truncate_1 rfl ?_
    refine X_aload_n (pc' := 3) dL_truncate_2 rfl rfl ?_
    refine X_iload_n (pc' := 4) dL_truncate_3 rfl rfl ?_
    refine Y_callH [.int (iN v1)] (pc' := 7) dL_truncate_4 rfl VL_15 (by decide) (zlN hN (by decide)) (congrArg Prod.fst (sh0 ln)) rfl rfl rfl (cs rfl) (cs rfl) rfl (CX5_truncate hN hz rv1 e) (c7 := 0) (s7 := 0) rfl rfl (fun f => ?_)
    refine X_lI_i2l (pc' := 8) dL_truncate_7 rfl f.1 ?_
    refine Y_last (pc' := 9) dL_truncate_8 rfl (zlN hN (by decide)) (sh159 ln) (by decide) ⟨by decide, by decide⟩ ?_
    refine X_goto dL_truncate_9 (tgt := 15) rfl ?_
    refine X_iconst (pc' := 16) dL_truncate_15 rfl ?_
    exact X_iret dL_truncate_16 rfl ⟨⟨h4 (n := 0) rfl, okz_up f.2 f.1⟩, rfl, rfl⟩
  · by_cases c0 : E = 1
    · have h := if_t c0 h
      cases h
      subst c0
      refine X_to (M := [some (.ref 0), some (.int (iN v1)), some (.ref 159), none]) (su := []) rfl rfl ?_
      refine X_aload_n (pc' := 1) dL_truncate_0 rfl rfl ?_
      refine X_iconst (pc' := 2) dL_truncate_1 rfl ?_
      refine X_aload_n (pc' := 3) dL_truncate_2 rfl rfl ?_
      refine X_iload_n (pc' := 4) dL_truncate_3 rfl rfl ?_
      refine Y_callHx (i := 3) (to := 13) [.int (iN v1)] (pc' := 7) dL_truncate_4 rfl VL_15 (by decide) (zlN hN (by decide)) (congrArg Prod.fst (sh0 ln)) rfl rfl rfl (cs rfl) (cs rfl) rfl (CX5_truncate hN hz rv1 e) ⟨[], ⟨0, 9, 12, 19⟩, [], rfl, (fun _ h => nomatch h), by decide, by decide, ⟨"java/lang/IllegalArgumentException", tq477, tq487⟩, by decide, Or.inl ⟨3, rfl, dL_truncate_12, rfl⟩⟩ (Or.inr rfl) (fun f => ?_)
      refine X_iconst (pc' := 14) dL_truncate_13 rfl ?_
      exact X_iret dL_truncate_14 rfl ⟨⟨h4 (n := 1) rfl, f⟩, rfl, rfl⟩
    have h := if_f c0 h
    cases h
def fL_load (z : ZZ) : Option (Int × ZZ) := Option.bind (fX5_load z) fun q => match q with | (.inl r, z1) => some (0, zup z1 159 0 r) | (.inr E, z1) => (if E = 1 then some (1, z1) else none)
set_option maxRecDepth 100000 in
theorem CL_load {ln N : Nat} {z : ZZ} (hN : 161 ≤ N ∧ N < 999999) (hz : okz z) {p : Int × ZZ} (h : fL_load z = some p) : X mL_load 0 (xEnt [.ref 0, .ref 159] (xL mL_load)) [] (zmk ln N z) (cc_h p) (6 * cc_h p) (Qd (fa_h p) (rs_h p) (st_h ln N p)) := by
  unfold fL_load at h
  obtain ⟨⟨r | E, z1⟩, e, h⟩ := bs h
  · cases h
    refine X_to (M := [some (.ref 0), some (.ref 159), none]) (su := []) rfl rfl ?_
    refine X_aload_n (pc' := 1) dL_load_0 rfl rfl ?_
    refine X_iconst (pc' := 2) dL_load_1 rfl ?_
    refine X_aload_n (pc' := 3) dL_load_2 rfl rfl ?_
    refine Y_callH [] (pc' := 6) dL_load_3 rfl VL_21 (by decide) (zlN hN (by decide)) (congrArg Prod.fst (sh0 ln)) rfl rfl rfl (cs rfl) (cs rfl) rfl (CX5_load hN hz  e) (c7 := 0) (s7 := 0) rfl rfl (fun f => ?_)
    refine X_lI_i2l (pc' := 7) dL_load_6 rfl f.1 ?_
    refine Y_last (pc' := 8) dL_load_7 rfl (zlN hN (by decide)) (sh159 ln) (by decide) ⟨by decide, by decide⟩ ?_
    refine X_goto dL_load_8 (tgt := 14) rfl ?_
    refine X_iconst (pc' := 15) dL_load_14 rfl ?_
    exact X_iret dL_load_15 rfl ⟨⟨h4 (n := 0) rfl, okz_up f.2 f.1⟩, rfl, rfl⟩
  · by_cases c0 : E = 1
    · have h := if_t c0 h
      cases h
      subst c0
      refine X_to (M := [some (.ref 0), some (.ref 159), none]) (su := []) rfl rfl ?_
      refine X_aload_n (pc' := 1) dL_load_0 rfl rfl ?_
      refine X_iconst (pc' := 2) dL_load_1 rfl ?_
      refine X_aload_n (pc' := 3) dL_load_2 rfl rfl ?_
      refine Y_callHx (i := 2) (to := 12) [] (pc' := 6) dL_load_3 rfl VL_21 (by decide) (zlN hN (by decide)) (congrArg Prod.fst (sh0 ln)) rfl rfl rfl (cs rfl) (cs rfl) rfl (CX5_load hN hz  e) ⟨[], ⟨0, 8, 11, 19⟩, [], rfl, (fun _ h => nomatch h), by decide, by decide, ⟨"java/lang/IllegalArgumentException", tq477, tq487⟩, by decide, Or.inl ⟨2, rfl, dL_load_11, rfl⟩⟩ (Or.inr rfl) (fun f => ?_)
      refine X_iconst (pc' := 13) dL_load_12 rfl ?_
      exact X_iret dL_load_13 rfl ⟨⟨h4 (n := 1) rfl, f⟩, rfl, rfl⟩
    have h := if_f c0 h
    cases h
def fL_setRoute (v1 : Int) (v2 : Int) (z : ZZ) : Option (Int × ZZ) := Option.bind (fX5_setRoute v1 v2 z) fun q => match q with | (.inl r, z1) => some (0, zup z1 159 0 r) | (.inr E, z1) => (if E = 0 then some (1, z1) else (if E = 1 then some (2, z1) else (if E = 2 then some (3, z1) else none)))
set_option maxRecDepth 100000 in
theorem CL_setRoute {ln N : Nat} {z : ZZ} {v1 : Int} {v2 : Int} (hN : 161 ≤ N ∧ N < 999999) (hz : okz z) (rv1 : inR v1) (rv2 : inR v2) {p : Int × ZZ} (h : fL_setRoute v1 v2 z = some p) : X mL_setRoute 0 (xEnt [.ref 0, .int (iN v1), .int (iN v2), .ref 159] (xL mL_setRoute)) [] (zmk ln N z) (cc_h p) (6 * cc_h p) (Qd (fa_h p) (rs_h p) (st_h ln N p)) := by
  unfold fL_setRoute at h
  obtain ⟨⟨r | E, z1⟩, e, h⟩ := bs h
  · cases h
    refine X_to (M := [some (.ref 0), some (.int (iN v1)), some (.int (iN v2)), some (.ref 159), none]) (su := []) rfl rfl ?_
    refine X_aload_n (pc' := 1) dL_setRoute_0 rfl rfl ?_
    refine X_iconst (pc' := 2) dL_setRoute_1 rfl ?_
    refine X_aload_n (pc' := 3) dL_setRoute_2 rfl rfl ?_
    refine X_iload_n (pc' := 4) dL_setRoute_3 rfl rfl ?_
    refine X_iload_n (pc' := 5) dL_setRoute_4 rfl rfl ?_
    refine Y_callH [.int (iN v1), .int (iN v2)] (pc' := 8) dL_setRoute_5 rfl VL_25 (by decide) (zlN hN (by decide)) (congrArg Prod.fst (sh0 ln)) rfl rfl rfl (cs rfl) (cs rfl) rfl (CX5_setRoute hN hz rv1 rv2 e) (c7 := 0) (s7 := 0) rfl rfl (fun f => ?_)
    refine X_lI_i2l (pc' := 9) dL_setRoute_8 rfl f.1 ?_
    refine Y_last (pc' := 10) dL_setRoute_9 rfl (zlN hN (by decide)) (sh159 ln) (by decide) ⟨by decide, by decide⟩ ?_
    refine X_goto dL_setRoute_10 (tgt := 25) rfl ?_
    refine X_iconst (pc' := 26) dL_setRoute_25 rfl ?_
    exact X_iret dL_setRoute_26 rfl ⟨⟨h4 (n := 0) rfl, okz_up f.2 f.1⟩, rfl, rfl⟩
  · by_cases c0 : E = 0
    · have h := if_t c0 h
      cases h
      subst c0
      refine X_to (M := [some (.ref 0), some (.int (iN v1)), some (.int (iN v2)), some (.ref 159), none]) (su := []) rfl rfl ?_
      refine X_aload_n (pc' := 1) dL_setRoute_0 rfl rfl ?_
      refine X_iconst (pc' := 2) dL_setRoute_1 rfl ?_
      refine X_aload_n (pc' := 3) dL_setRoute_2 rfl rfl ?_
      refine X_iload_n (pc' := 4) dL_setRoute_3 rfl rfl ?_
      refine X_iload_n (pc' := 5) dL_setRoute_4 rfl rfl ?_
      refine Y_callHx (i := 4) (to := 15) [.int (iN v1), .int (iN v2)] (pc' := 8) dL_setRoute_5 rfl VL_25 (by decide) (zlN hN (by decide)) (congrArg Prod.fst (sh0 ln)) rfl rfl rfl (cs rfl) (cs rfl) rfl (CX5_setRoute hN hz rv1 rv2 e) ⟨[], ⟨0, 10, 13, 29⟩, [⟨0, 10, 17, 19⟩, ⟨0, 10, 21, 13⟩], rfl, (fun _ h => nomatch h), by decide, by decide, ⟨"java/lang/IndexOutOfBoundsException", tq517, tq554⟩, by decide, Or.inr ⟨dL_setRoute_13, rfl⟩⟩ (Or.inr rfl) (fun f => ?_)
      refine X_iconst (pc' := 16) dL_setRoute_15 rfl ?_
      exact X_iret dL_setRoute_16 rfl ⟨⟨h4 (n := 1) rfl, f⟩, rfl, rfl⟩
    have h := if_f c0 h
    by_cases c1 : E = 1
    · have h := if_t c1 h
      cases h
      subst c1
      refine X_to (M := [some (.ref 0), some (.int (iN v1)), some (.int (iN v2)), some (.ref 159), none]) (su := []) rfl rfl ?_
      refine X_aload_n (pc' := 1) dL_setRoute_0 rfl rfl ?_
      refine X_iconst (pc' := 2) dL_setRoute_1 rfl ?_
      refine X_aload_n (pc' := 3) dL_setRoute_2 rfl rfl ?_
      refine X_iload_n (pc' := 4) dL_setRoute_3 rfl rfl ?_
      refine X_iload_n (pc' := 5) dL_setRoute_4 rfl rfl ?_
      refine Y_callHx (i := 4) (to := 19) [.int (iN v1), .int (iN v2)] (pc' := 8) dL_setRoute_5 rfl VL_25 (by decide) (zlN hN (by decide)) (congrArg Prod.fst (sh0 ln)) rfl rfl rfl (cs rfl) (cs rfl) rfl (CX5_setRoute hN hz rv1 rv2 e) ⟨[⟨0, 10, 13, 29⟩], ⟨0, 10, 17, 19⟩, [⟨0, 10, 21, 13⟩], rfl, (List.forall_mem_cons.mpr ⟨Or.inr ⟨by decide, "java/lang/IndexOutOfBoundsException", tq517, List.mem_of_getElem? (i := 32) rfl⟩, (fun _ h => nomatch h)⟩), by decide, by decide, ⟨"java/lang/IllegalArgumentException", tq477, tq487⟩, by decide, Or.inr ⟨dL_setRoute_17, rfl⟩⟩ (Or.inr rfl) (fun f => ?_)
      refine X_iconst (pc' := 20) dL_setRoute_19 rfl ?_
      exact X_iret dL_setRoute_20 rfl ⟨⟨h4 (n := 2) rfl, f⟩, rfl, rfl⟩
    have h := if_f c1 h
    by_cases c2 : E = 2
    · have h := if_t c2 h
      cases h
      subst c2
      refine X_to (M := [some (.ref 0), some (.int (iN v1)), some (.int (iN v2)), some (.ref 159), none]) (su := []) rfl rfl ?_
      refine X_aload_n (pc' := 1) dL_setRoute_0 rfl rfl ?_
      refine X_iconst (pc' := 2) dL_setRoute_1 rfl ?_
      refine X_aload_n (pc' := 3) dL_setRoute_2 rfl rfl ?_
      refine X_iload_n (pc' := 4) dL_setRoute_3 rfl rfl ?_
      refine X_iload_n (pc' := 5) dL_setRoute_4 rfl rfl ?_
      refine Y_callHx (i := 4) (to := 23) [.int (iN v1), .int (iN v2)] (pc' := 8) dL_setRoute_5 rfl VL_25 (by decide) (zlN hN (by decide)) (congrArg Prod.fst (sh0 ln)) rfl rfl rfl (cs rfl) (cs rfl) rfl (CX5_setRoute hN hz rv1 rv2 e) ⟨[⟨0, 10, 13, 29⟩, ⟨0, 10, 17, 19⟩], ⟨0, 10, 21, 13⟩, [], rfl, (List.forall_mem_cons.mpr ⟨Or.inr ⟨by decide, "java/lang/IndexOutOfBoundsException", tq517, List.mem_of_getElem? (i := 31) rfl⟩, (List.forall_mem_cons.mpr ⟨Or.inr ⟨by decide, "java/lang/IllegalArgumentException", tq477, List.mem_of_getElem? (i := 19) rfl⟩, (fun _ h => nomatch h)⟩)⟩), by decide, by decide, ⟨"java/lang/IllegalStateException", tq392, tq402⟩, by decide, Or.inr ⟨dL_setRoute_21, rfl⟩⟩ (Or.inr rfl) (fun f => ?_)
      refine X_iconst (pc' := 24) dL_setRoute_23 rfl ?_
      exact X_iret dL_setRoute_24 rfl ⟨⟨h4 (n := 3) rfl, f⟩, rfl, rfl⟩
    have h := if_f c2 h
    cases h
def fL_removeRoute (v1 : Int) (z : ZZ) : Option (Int × ZZ) := Option.bind (fX5_removeRoute v1 z) fun q => match q with | (.inl r, z1) => some (0, zup z1 159 0 r) | (.inr E, z1) => (if E = 0 then some (1, z1) else none)
set_option maxRecDepth 100000 in
theorem CL_removeRoute {ln N : Nat} {z : ZZ} {v1 : Int} (hN : 161 ≤ N ∧ N < 999999) (hz : okz z) (rv1 : inR v1) {p : Int × ZZ} (h : fL_removeRoute v1 z = some p) : X mL_removeRoute 0 (xEnt [.ref 0, .int (iN v1), .ref 159] (xL mL_removeRoute)) [] (zmk ln N z) (cc_h p) (6 * cc_h p) (Qd (fa_h p) (rs_h p) (st_h ln N p)) := by
  unfold fL_removeRoute at h
  obtain ⟨⟨r | E, z1⟩, e, h⟩ := bs h
  · cases h
    refine X_to (M := [some (.ref 0), some (.int (iN v1)), some (.ref 159), none]) (su := []) rfl rfl ?_
    refine X_aload_n (pc' := 1) dL_removeRoute_0 rfl rfl ?_
    refine X_iconst (pc' := 2) dL_removeRoute_1 rfl ?_
    refine X_aload_n (pc' := 3) dL_removeRoute_2 rfl rfl ?_
    refine X_iload_n (pc' := 4) dL_removeRoute_3 rfl rfl ?_
    refine Y_callH [.int (iN v1)] (pc' := 7) dL_removeRoute_4 rfl VL_31 (by decide) (zlN hN (by decide)) (congrArg Prod.fst (sh0 ln)) rfl rfl rfl (cs rfl) (cs rfl) rfl (CX5_removeRoute hN hz rv1 e) (c7 := 0) (s7 := 0) rfl rfl (fun f => ?_)
    refine X_lI_i2l (pc' := 8) dL_removeRoute_7 rfl f.1 ?_
    refine Y_last (pc' := 9) dL_removeRoute_8 rfl (zlN hN (by decide)) (sh159 ln) (by decide) ⟨by decide, by decide⟩ ?_
    refine X_goto dL_removeRoute_9 (tgt := 15) rfl ?_
    refine X_iconst (pc' := 16) dL_removeRoute_15 rfl ?_
    exact X_iret dL_removeRoute_16 rfl ⟨⟨h4 (n := 0) rfl, okz_up f.2 f.1⟩, rfl, rfl⟩
  · by_cases c0 : E = 0
    · have h := if_t c0 h
      cases h
      subst c0
      refine X_to (M := [some (.ref 0), some (.int (iN v1)), some (.ref 159), none]) (su := []) rfl rfl ?_
      refine X_aload_n (pc' := 1) dL_removeRoute_0 rfl rfl ?_
      refine X_iconst (pc' := 2) dL_removeRoute_1 rfl ?_
      refine X_aload_n (pc' := 3) dL_removeRoute_2 rfl rfl ?_
      refine X_iload_n (pc' := 4) dL_removeRoute_3 rfl rfl ?_
      refine Y_callHx (i := 3) (to := 13) [.int (iN v1)] (pc' := 7) dL_removeRoute_4 rfl VL_31 (by decide) (zlN hN (by decide)) (congrArg Prod.fst (sh0 ln)) rfl rfl rfl (cs rfl) (cs rfl) rfl (CX5_removeRoute hN hz rv1 e) ⟨[], ⟨0, 9, 12, 29⟩, [], rfl, (fun _ h => nomatch h), by decide, by decide, ⟨"java/lang/IndexOutOfBoundsException", tq517, tq554⟩, by decide, Or.inl ⟨3, rfl, dL_removeRoute_12, rfl⟩⟩ (Or.inr rfl) (fun f => ?_)
      refine X_iconst (pc' := 14) dL_removeRoute_13 rfl ?_
      exact X_iret dL_removeRoute_14 rfl ⟨⟨h4 (n := 1) rfl, f⟩, rfl, rfl⟩
    have h := if_f c0 h
    cases h
def fL_climb (v1 : Int) (v2 : Int) (z : ZZ) : Option (Int × ZZ) := Option.bind (fX5_climb v1 v2 z) fun q => match q with | (.inl r, z1) => some (0, zup z1 159 0 r) | (.inr E, z1) => (if E = 0 then some (1, z1) else (if E = 2 then some (2, z1) else none))
set_option maxRecDepth 100000 in
theorem CL_climb {ln N : Nat} {z : ZZ} {v1 : Int} {v2 : Int} (hN : 161 ≤ N ∧ N < 999999) (hz : okz z) (rv1 : inR v1) (rv2 : inR v2) {p : Int × ZZ} (h : fL_climb v1 v2 z = some p) : X mL_climb 0 (xEnt [.ref 0, .int (iN v1), .int (iN v2), .ref 159] (xL mL_climb)) [] (zmk ln N z) (cc_h p) (6 * cc_h p) (Qd (fa_h p) (rs_h p) (st_h ln N p)) := by
  unfold fL_climb at h
  obtain ⟨⟨r | E, z1⟩, e, h⟩ := bs h
  · cases h
    refine X_to (M := [some (.ref 0), some (.int (iN v1)), some (.int (iN v2)), some (.ref 159), none]) (su := []) rfl rfl ?_
    refine X_aload_n (pc' := 1) dL_climb_0 rfl rfl ?_
    refine X_iconst (pc' := 2) dL_climb_1 rfl ?_
    refine X_aload_n (pc' := 3) dL_climb_2 rfl rfl ?_
    refine X_iload_n (pc' := 4) dL_climb_3 rfl rfl ?_
    refine X_iload_n (pc' := 5) dL_climb_4 rfl rfl ?_
    refine Y_callH [.int (iN v1), .int (iN v2)] (pc' := 8) dL_climb_5 rfl VL_34 (by decide) (zlN hN (by decide)) (congrArg Prod.fst (sh0 ln)) rfl rfl rfl (cs rfl) (cs rfl) rfl (CX5_climb hN hz rv1 rv2 e) (c7 := 0) (s7 := 0) rfl rfl (fun f => ?_)
    refine X_lI_i2l (pc' := 9) dL_climb_8 rfl f.1 ?_
    refine Y_last (pc' := 10) dL_climb_9 rfl (zlN hN (by decide)) (sh159 ln) (by decide) ⟨by decide, by decide⟩ ?_
    refine X_goto dL_climb_10 (tgt := 21) rfl ?_
    refine X_iconst (pc' := 22) dL_climb_21 rfl ?_
    exact X_iret dL_climb_22 rfl ⟨⟨h4 (n := 0) rfl, okz_up f.2 f.1⟩, rfl, rfl⟩
  · by_cases c0 : E = 0
    · have h := if_t c0 h
      cases h
      subst c0
      refine X_to (M := [some (.ref 0), some (.int (iN v1)), some (.int (iN v2)), some (.ref 159), none]) (su := []) rfl rfl ?_
      refine X_aload_n (pc' := 1) dL_climb_0 rfl rfl ?_
      refine X_iconst (pc' := 2) dL_climb_1 rfl ?_
      refine X_aload_n (pc' := 3) dL_climb_2 rfl rfl ?_
      refine X_iload_n (pc' := 4) dL_climb_3 rfl rfl ?_
      refine X_iload_n (pc' := 5) dL_climb_4 rfl rfl ?_
      refine Y_callHx (i := 4) (to := 15) [.int (iN v1), .int (iN v2)] (pc' := 8) dL_climb_5 rfl VL_34 (by decide) (zlN hN (by decide)) (congrArg Prod.fst (sh0 ln)) rfl rfl rfl (cs rfl) (cs rfl) rfl (CX5_climb hN hz rv1 rv2 e) ⟨[], ⟨0, 10, 13, 29⟩, [⟨0, 10, 17, 13⟩], rfl, (fun _ h => nomatch h), by decide, by decide, ⟨"java/lang/IndexOutOfBoundsException", tq517, tq554⟩, by decide, Or.inr ⟨dL_climb_13, rfl⟩⟩ (Or.inr rfl) (fun f => ?_)
      refine X_iconst (pc' := 16) dL_climb_15 rfl ?_
      exact X_iret dL_climb_16 rfl ⟨⟨h4 (n := 1) rfl, f⟩, rfl, rfl⟩
    have h := if_f c0 h
    by_cases c1 : E = 2
    · have h := if_t c1 h
      cases h
      subst c1
      refine X_to (M := [some (.ref 0), some (.int (iN v1)), some (.int (iN v2)), some (.ref 159), none]) (su := []) rfl rfl ?_
      refine X_aload_n (pc' := 1) dL_climb_0 rfl rfl ?_
      refine X_iconst (pc' := 2) dL_climb_1 rfl ?_
      refine X_aload_n (pc' := 3) dL_climb_2 rfl rfl ?_
      refine X_iload_n (pc' := 4) dL_climb_3 rfl rfl ?_
      refine X_iload_n (pc' := 5) dL_climb_4 rfl rfl ?_
      refine Y_callHx (i := 4) (to := 19) [.int (iN v1), .int (iN v2)] (pc' := 8) dL_climb_5 rfl VL_34 (by decide) (zlN hN (by decide)) (congrArg Prod.fst (sh0 ln)) rfl rfl rfl (cs rfl) (cs rfl) rfl (CX5_climb hN hz rv1 rv2 e) ⟨[⟨0, 10, 13, 29⟩], ⟨0, 10, 17, 13⟩, [], rfl, (List.forall_mem_cons.mpr ⟨Or.inr ⟨by decide, "java/lang/IndexOutOfBoundsException", tq517, List.mem_of_getElem? (i := 31) rfl⟩, (fun _ h => nomatch h)⟩), by decide, by decide, ⟨"java/lang/IllegalStateException", tq392, tq402⟩, by decide, Or.inr ⟨dL_climb_17, rfl⟩⟩ (Or.inr rfl) (fun f => ?_)
      refine X_iconst (pc' := 20) dL_climb_19 rfl ?_
      exact X_iret dL_climb_20 rfl ⟨⟨h4 (n := 2) rfl, f⟩, rfl, rfl⟩
    have h := if_f c1 h
    cases h
def fL_vote (v1 : Int) (v2 : Int) (v3 : Int) (z : ZZ) : Option (Int × ZZ) := Option.bind (fX5_vote v1 v2 v3 z) fun q => match q with | (.inl r, z1) => some (0, zup z1 159 0 r) | (.inr E, z1) => (if E = 0 then some (1, z1) else (if E = 1 then some (2, z1) else (if E = 2 then some (3, z1) else none)))
set_option maxRecDepth 100000 in
theorem CL_vote {ln N : Nat} {z : ZZ} {v1 : Int} {v2 : Int} {v3 : Int} (hN : 161 ≤ N ∧ N < 999999) (hz : okz z) (rv1 : inR v1) (rv2 : inR v2) (rv3 : inR v3) {p : Int × ZZ} (h : fL_vote v1 v2 v3 z = some p) : X mL_vote 0 (xEnt [.ref 0, .int (iN v1), .int (iN v2), .int (iN v3), .ref 159] (xL mL_vote)) [] (zmk ln N z) (cc_h p) (6 * cc_h p) (Qd (fa_h p) (rs_h p) (st_h ln N p)) := by
  unfold fL_vote at h
  obtain ⟨⟨r | E, z1⟩, e, h⟩ := bs h
  · cases h
    refine X_to (M := [some (.ref 0), some (.int (iN v1)), some (.int (iN v2)), some (.int (iN v3)), some (.ref 159), none]) (su := []) rfl rfl ?_
    refine X_aload (pc' := 2) dL_vote_0 rfl rfl ?_
    refine X_iconst (pc' := 3) dL_vote_2 rfl ?_
    refine X_aload_n (pc' := 4) dL_vote_3 rfl rfl ?_
    refine X_iload_n (pc' := 5) dL_vote_4 rfl rfl ?_
    refine X_iload_n (pc' := 6) dL_vote_5 rfl rfl ?_
    refine X_iload_n (pc' := 7) dL_vote_6 rfl rfl ?_
    refine Y_callH [.int (iN v1), .int (iN v2), .int (iN v3)] (pc' := 10) dL_vote_7 rfl VL_37 (by decide) (zlN hN (by decide)) (congrArg Prod.fst (sh0 ln)) rfl rfl rfl (cs rfl) (cs rfl) rfl (CX5_vote hN hz rv1 rv2 rv3 e) (c7 := 0) (s7 := 0) rfl rfl (fun f => ?_)
    refine X_lI_i2l (pc' := 11) dL_vote_10 rfl f.1 ?_
    refine Y_last (pc' := 12) dL_vote_11 rfl (zlN hN (by decide)) (sh159 ln) (by decide) ⟨by decide, by decide⟩ ?_
    refine X_goto dL_vote_12 (tgt := 27) rfl ?_
    refine X_iconst (pc' := 28) dL_vote_27 rfl ?_
    exact X_iret dL_vote_28 rfl ⟨⟨h4 (n := 0) rfl, okz_up f.2 f.1⟩, rfl, rfl⟩
  · by_cases c0 : E = 0
    · have h := if_t c0 h
      cases h
      subst c0
      refine X_to (M := [some (.ref 0), some (.int (iN v1)), some (.int (iN v2)), some (.int (iN v3)), some (.ref 159), none]) (su := []) rfl rfl ?_
      refine X_aload (pc' := 2) dL_vote_0 rfl rfl ?_
      refine X_iconst (pc' := 3) dL_vote_2 rfl ?_
      refine X_aload_n (pc' := 4) dL_vote_3 rfl rfl ?_
      refine X_iload_n (pc' := 5) dL_vote_4 rfl rfl ?_
      refine X_iload_n (pc' := 6) dL_vote_5 rfl rfl ?_
      refine X_iload_n (pc' := 7) dL_vote_6 rfl rfl ?_
      refine Y_callHx (i := 5) (to := 17) [.int (iN v1), .int (iN v2), .int (iN v3)] (pc' := 10) dL_vote_7 rfl VL_37 (by decide) (zlN hN (by decide)) (congrArg Prod.fst (sh0 ln)) rfl rfl rfl (cs rfl) (cs rfl) rfl (CX5_vote hN hz rv1 rv2 rv3 e) ⟨[], ⟨0, 12, 15, 29⟩, [⟨0, 12, 19, 19⟩, ⟨0, 12, 23, 13⟩], rfl, (fun _ h => nomatch h), by decide, by decide, ⟨"java/lang/IndexOutOfBoundsException", tq517, tq554⟩, by decide, Or.inr ⟨dL_vote_15, rfl⟩⟩ (Or.inr rfl) (fun f => ?_)
      refine X_iconst (pc' := 18) dL_vote_17 rfl ?_
      exact X_iret dL_vote_18 rfl ⟨⟨h4 (n := 1) rfl, f⟩, rfl, rfl⟩
    have h := if_f c0 h
    by_cases c1 : E = 1
    · have h := if_t c1 h
      cases h
      subst c1
      refine X_to (M := [some (.ref 0), some (.int (iN v1)), some (.int (iN v2)), some (.int (iN v3)), some (.ref 159), none]) (su := []) rfl rfl ?_
      refine X_aload (pc' := 2) dL_vote_0 rfl rfl ?_
      refine X_iconst (pc' := 3) dL_vote_2 rfl ?_
      refine X_aload_n (pc' := 4) dL_vote_3 rfl rfl ?_
      refine X_iload_n (pc' := 5) dL_vote_4 rfl rfl ?_
      refine X_iload_n (pc' := 6) dL_vote_5 rfl rfl ?_
      refine X_iload_n (pc' := 7) dL_vote_6 rfl rfl ?_
      refine Y_callHx (i := 5) (to := 21) [.int (iN v1), .int (iN v2), .int (iN v3)] (pc' := 10) dL_vote_7 rfl VL_37 (by decide) (zlN hN (by decide)) (congrArg Prod.fst (sh0 ln)) rfl rfl rfl (cs rfl) (cs rfl) rfl (CX5_vote hN hz rv1 rv2 rv3 e) ⟨[⟨0, 12, 15, 29⟩], ⟨0, 12, 19, 19⟩, [⟨0, 12, 23, 13⟩], rfl, (List.forall_mem_cons.mpr ⟨Or.inr ⟨by decide, "java/lang/IndexOutOfBoundsException", tq517, List.mem_of_getElem? (i := 32) rfl⟩, (fun _ h => nomatch h)⟩), by decide, by decide, ⟨"java/lang/IllegalArgumentException", tq477, tq487⟩, by decide, Or.inr ⟨dL_vote_19, rfl⟩⟩ (Or.inr rfl) (fun f => ?_)
      refine X_iconst (pc' := 22) dL_vote_21 rfl ?_
      exact X_iret dL_vote_22 rfl ⟨⟨h4 (n := 2) rfl, f⟩, rfl, rfl⟩
    have h := if_f c1 h
    by_cases c2 : E = 2
    · have h := if_t c2 h
      cases h
      subst c2
      refine X_to (M := [some (.ref 0), some (.int (iN v1)), some (.int (iN v2)), some (.int (iN v3)), some (.ref 159), none]) (su := []) rfl rfl ?_
      refine X_aload (pc' := 2) dL_vote_0 rfl rfl ?_
      refine X_iconst (pc' := 3) dL_vote_2 rfl ?_
      refine X_aload_n (pc' := 4) dL_vote_3 rfl rfl ?_
      refine X_iload_n (pc' := 5) dL_vote_4 rfl rfl ?_
      refine X_iload_n (pc' := 6) dL_vote_5 rfl rfl ?_
      refine X_iload_n (pc' := 7) dL_vote_6 rfl rfl ?_
      refine Y_callHx (i := 5) (to := 25) [.int (iN v1), .int (iN v2), .int (iN v3)] (pc' := 10) dL_vote_7 rfl VL_37 (by decide) (zlN hN (by decide)) (congrArg Prod.fst (sh0 ln)) rfl rfl rfl (cs rfl) (cs rfl) rfl (CX5_vote hN hz rv1 rv2 rv3 e) ⟨[⟨0, 12, 15, 29⟩, ⟨0, 12, 19, 19⟩], ⟨0, 12, 23, 13⟩, [], rfl, (List.forall_mem_cons.mpr ⟨Or.inr ⟨by decide, "java/lang/IndexOutOfBoundsException", tq517, List.mem_of_getElem? (i := 31) rfl⟩, (List.forall_mem_cons.mpr ⟨Or.inr ⟨by decide, "java/lang/IllegalArgumentException", tq477, List.mem_of_getElem? (i := 19) rfl⟩, (fun _ h => nomatch h)⟩)⟩), by decide, by decide, ⟨"java/lang/IllegalStateException", tq392, tq402⟩, by decide, Or.inr ⟨dL_vote_23, rfl⟩⟩ (Or.inr rfl) (fun f => ?_)
      refine X_iconst (pc' := 26) dL_vote_25 rfl ?_
      exact X_iret dL_vote_26 rfl ⟨⟨h4 (n := 3) rfl, f⟩, rfl, rfl⟩
    have h := if_f c2 h
    cases h
def fL_lend (v1 : Int) (v2 : Int) (z : ZZ) : Option (Int × ZZ) := Option.bind (fX5_lend v1 v2 z) fun q => match q with | (.inl r, z1) => some (0, zup z1 159 0 r) | (.inr E, z1) => (if E = 0 then some (1, z1) else (if E = 2 then some (2, z1) else none))
set_option maxRecDepth 100000 in
theorem CL_lend {ln N : Nat} {z : ZZ} {v1 : Int} {v2 : Int} (hN : 161 ≤ N ∧ N < 999999) (hz : okz z) (rv1 : inR v1) (rv2 : inR v2) {p : Int × ZZ} (h : fL_lend v1 v2 z = some p) : X mL_lend 0 (xEnt [.ref 0, .int (iN v1), .int (iN v2), .ref 159] (xL mL_lend)) [] (zmk ln N z) (cc_h p) (6 * cc_h p) (Qd (fa_h p) (rs_h p) (st_h ln N p)) := by
  unfold fL_lend at h
  obtain ⟨⟨r | E, z1⟩, e, h⟩ := bs h
  · cases h
    refine X_to (M := [some (.ref 0), some (.int (iN v1)), some (.int (iN v2)), some (.ref 159), none]) (su := []) rfl rfl ?_
    refine X_aload_n (pc' := 1) dL_lend_0 rfl rfl ?_
    refine X_iconst (pc' := 2) dL_lend_1 rfl ?_
    refine X_aload_n (pc' := 3) dL_lend_2 rfl rfl ?_
    refine X_iload_n (pc' := 4) dL_lend_3 rfl rfl ?_
    refine X_iload_n (pc' := 5) dL_lend_4 rfl rfl ?_
    refine Y_callH [.int (iN v1), .int (iN v2)] (pc' := 8) dL_lend_5 rfl VL_41 (by decide) (zlN hN (by decide)) (congrArg Prod.fst (sh0 ln)) rfl rfl rfl (cs rfl) (cs rfl) rfl (CX5_lend hN hz rv1 rv2 e) (c7 := 0) (s7 := 0) rfl rfl (fun f => ?_)
    refine X_lI_i2l (pc' := 9) dL_lend_8 rfl f.1 ?_
    refine Y_last (pc' := 10) dL_lend_9 rfl (zlN hN (by decide)) (sh159 ln) (by decide) ⟨by decide, by decide⟩ ?_
    refine X_goto dL_lend_10 (tgt := 21) rfl ?_
    refine X_iconst (pc' := 22) dL_lend_21 rfl ?_
    exact X_iret dL_lend_22 rfl ⟨⟨h4 (n := 0) rfl, okz_up f.2 f.1⟩, rfl, rfl⟩
  · by_cases c0 : E = 0
    · have h := if_t c0 h
      cases h
      subst c0
      refine X_to (M := [some (.ref 0), some (.int (iN v1)), some (.int (iN v2)), some (.ref 159), none]) (su := []) rfl rfl ?_
      refine X_aload_n (pc' := 1) dL_lend_0 rfl rfl ?_
      refine X_iconst (pc' := 2) dL_lend_1 rfl ?_
      refine X_aload_n (pc' := 3) dL_lend_2 rfl rfl ?_
      refine X_iload_n (pc' := 4) dL_lend_3 rfl rfl ?_
      refine X_iload_n (pc' := 5) dL_lend_4 rfl rfl ?_
      refine Y_callHx (i := 4) (to := 15) [.int (iN v1), .int (iN v2)] (pc' := 8) dL_lend_5 rfl VL_41 (by decide) (zlN hN (by decide)) (congrArg Prod.fst (sh0 ln)) rfl rfl rfl (cs rfl) (cs rfl) rfl (CX5_lend hN hz rv1 rv2 e) ⟨[], ⟨0, 10, 13, 29⟩, [⟨0, 10, 17, 13⟩], rfl, (fun _ h => nomatch h), by decide, by decide, ⟨"java/lang/IndexOutOfBoundsException", tq517, tq554⟩, by decide, Or.inr ⟨dL_lend_13, rfl⟩⟩ (Or.inr rfl) (fun f => ?_)
      refine X_iconst (pc' := 16) dL_lend_15 rfl ?_
      exact X_iret dL_lend_16 rfl ⟨⟨h4 (n := 1) rfl, f⟩, rfl, rfl⟩
    have h := if_f c0 h
    by_cases c1 : E = 2
    · have h := if_t c1 h
      cases h
      subst c1
      refine X_to (M := [some (.ref 0), some (.int (iN v1)), some (.int (iN v2)), some (.ref 159), none]) (su := []) rfl rfl ?_
      refine X_aload_n (pc' := 1) dL_lend_0 rfl rfl ?_
      refine X_iconst (pc' := 2) dL_lend_1 rfl ?_
      refine X_aload_n (pc' := 3) dL_lend_2 rfl rfl ?_
      refine X_iload_n (pc' := 4) dL_lend_3 rfl rfl ?_
      refine X_iload_n (pc' := 5) dL_lend_4 rfl rfl ?_
      refine Y_callHx (i := 4) (to := 19) [.int (iN v1), .int (iN v2)] (pc' := 8) dL_lend_5 rfl VL_41 (by decide) (zlN hN (by decide)) (congrArg Prod.fst (sh0 ln)) rfl rfl rfl (cs rfl) (cs rfl) rfl (CX5_lend hN hz rv1 rv2 e) ⟨[⟨0, 10, 13, 29⟩], ⟨0, 10, 17, 13⟩, [], rfl, (List.forall_mem_cons.mpr ⟨Or.inr ⟨by decide, "java/lang/IndexOutOfBoundsException", tq517, List.mem_of_getElem? (i := 31) rfl⟩, (fun _ h => nomatch h)⟩), by decide, by decide, ⟨"java/lang/IllegalStateException", tq392, tq402⟩, by decide, Or.inr ⟨dL_lend_17, rfl⟩⟩ (Or.inr rfl) (fun f => ?_)
      refine X_iconst (pc' := 20) dL_lend_19 rfl ?_
      exact X_iret dL_lend_20 rfl ⟨⟨h4 (n := 2) rfl, f⟩, rfl, rfl⟩
    have h := if_f c1 h
    cases h
def fL_giveBack (v1 : Int) (z : ZZ) : Option (Int × ZZ) := Option.bind (fX5_giveBack v1 z) fun q => match q with | (.inl r, z1) => some (0, zup z1 159 0 r) | (.inr E, z1) => (if E = 0 then some (1, z1) else (if E = 2 then some (2, z1) else none))
set_option maxRecDepth 100000 in
theorem CL_giveBack {ln N : Nat} {z : ZZ} {v1 : Int} (hN : 161 ≤ N ∧ N < 999999) (hz : okz z) (rv1 : inR v1) {p : Int × ZZ} (h : fL_giveBack v1 z = some p) : X mL_giveBack 0 (xEnt [.ref 0, .int (iN v1), .ref 159] (xL mL_giveBack)) [] (zmk ln N z) (cc_h p) (6 * cc_h p) (Qd (fa_h p) (rs_h p) (st_h ln N p)) := by
  unfold fL_giveBack at h
  obtain ⟨⟨r | E, z1⟩, e, h⟩ := bs h
  · cases h
    refine X_to (M := [some (.ref 0), some (.int (iN v1)), some (.ref 159), none]) (su := []) rfl rfl ?_
    refine X_aload_n (pc' := 1) dL_giveBack_0 rfl rfl ?_
    refine X_iconst (pc' := 2) dL_giveBack_1 rfl ?_
    refine X_aload_n (pc' := 3) dL_giveBack_2 rfl rfl ?_
    refine X_iload_n (pc' := 4) dL_giveBack_3 rfl rfl ?_
    refine Y_callH [.int (iN v1)] (pc' := 7) dL_giveBack_4 rfl VL_44 (by decide) (zlN hN (by decide)) (congrArg Prod.fst (sh0 ln)) rfl rfl rfl (cs rfl) (cs rfl) rfl (CX5_giveBack hN hz rv1 e) (c7 := 0) (s7 := 0) rfl rfl (fun f => ?_)
    refine X_lI_i2l (pc' := 8) dL_giveBack_7 rfl f.1 ?_
    refine Y_last (pc' := 9) dL_giveBack_8 rfl (zlN hN (by decide)) (sh159 ln) (by decide) ⟨by decide, by decide⟩ ?_
    refine X_goto dL_giveBack_9 (tgt := 18) rfl ?_
    refine X_iconst (pc' := 19) dL_giveBack_18 rfl ?_
    exact X_iret dL_giveBack_19 rfl ⟨⟨h4 (n := 0) rfl, okz_up f.2 f.1⟩, rfl, rfl⟩
  · by_cases c0 : E = 0
    · have h := if_t c0 h
      cases h
      subst c0
      refine X_to (M := [some (.ref 0), some (.int (iN v1)), some (.ref 159), none]) (su := []) rfl rfl ?_
      refine X_aload_n (pc' := 1) dL_giveBack_0 rfl rfl ?_
      refine X_iconst (pc' := 2) dL_giveBack_1 rfl ?_
      refine X_aload_n (pc' := 3) dL_giveBack_2 rfl rfl ?_
      refine X_iload_n (pc' := 4) dL_giveBack_3 rfl rfl ?_
      refine Y_callHx (i := 3) (to := 13) [.int (iN v1)] (pc' := 7) dL_giveBack_4 rfl VL_44 (by decide) (zlN hN (by decide)) (congrArg Prod.fst (sh0 ln)) rfl rfl rfl (cs rfl) (cs rfl) rfl (CX5_giveBack hN hz rv1 e) ⟨[], ⟨0, 9, 12, 29⟩, [⟨0, 9, 15, 13⟩], rfl, (fun _ h => nomatch h), by decide, by decide, ⟨"java/lang/IndexOutOfBoundsException", tq517, tq554⟩, by decide, Or.inl ⟨3, rfl, dL_giveBack_12, rfl⟩⟩ (Or.inr rfl) (fun f => ?_)
      refine X_iconst (pc' := 14) dL_giveBack_13 rfl ?_
      exact X_iret dL_giveBack_14 rfl ⟨⟨h4 (n := 1) rfl, f⟩, rfl, rfl⟩
    have h := if_f c0 h
    by_cases c1 : E = 2
    · have h := if_t c1 h
      cases h
      subst c1
      refine X_to (M := [some (.ref 0), some (.int (iN v1)), some (.ref 159), none]) (su := []) rfl rfl ?_
      refine X_aload_n (pc' := 1) dL_giveBack_0 rfl rfl ?_
      refine X_iconst (pc' := 2) dL_giveBack_1 rfl ?_
      refine X_aload_n (pc' := 3) dL_giveBack_2 rfl rfl ?_
      refine X_iload_n (pc' := 4) dL_giveBack_3 rfl rfl ?_
      refine Y_callHx (i := 3) (to := 16) [.int (iN v1)] (pc' := 7) dL_giveBack_4 rfl VL_44 (by decide) (zlN hN (by decide)) (congrArg Prod.fst (sh0 ln)) rfl rfl rfl (cs rfl) (cs rfl) rfl (CX5_giveBack hN hz rv1 e) ⟨[⟨0, 9, 12, 29⟩], ⟨0, 9, 15, 13⟩, [], rfl, (List.forall_mem_cons.mpr ⟨Or.inr ⟨by decide, "java/lang/IndexOutOfBoundsException", tq517, List.mem_of_getElem? (i := 31) rfl⟩, (fun _ h => nomatch h)⟩), by decide, by decide, ⟨"java/lang/IllegalStateException", tq392, tq402⟩, by decide, Or.inl ⟨3, rfl, dL_giveBack_15, rfl⟩⟩ (Or.inr rfl) (fun f => ?_)
      refine X_iconst (pc' := 17) dL_giveBack_16 rfl ?_
      exact X_iret dL_giveBack_17 rfl ⟨⟨h4 (n := 2) rfl, f⟩, rfl, rfl⟩
    have h := if_f c1 h
    cases h
def fL_check (v1 : Int) (v2 : Int) (z : ZZ) : Option (Int × ZZ) := Option.bind (fX5_check v1 v2 z) fun q => match q with | (.inl r, z1) => some (0, zup z1 159 0 r) | (.inr E, z1) => (if E = 0 then some (1, z1) else (if E = 2 then some (2, z1) else none))
set_option maxRecDepth 100000 in
theorem CL_check {ln N : Nat} {z : ZZ} {v1 : Int} {v2 : Int} (hN : 161 ≤ N ∧ N < 999999) (hz : okz z) (rv1 : inR v1) (rv2 : inR v2) {p : Int × ZZ} (h : fL_check v1 v2 z = some p) : X mL_check 0 (xEnt [.ref 0, .int (iN v1), .int (iN v2), .ref 159] (xL mL_check)) [] (zmk ln N z) (cc_h p) (6 * cc_h p) (Qd (fa_h p) (rs_h p) (st_h ln N p)) := by
  unfold fL_check at h
  obtain ⟨⟨r | E, z1⟩, e, h⟩ := bs h
  · cases h
    refine X_to (M := [some (.ref 0), some (.int (iN v1)), some (.int (iN v2)), some (.ref 159), none]) (su := []) rfl rfl ?_
    refine X_aload_n (pc' := 1) dL_check_0 rfl rfl ?_
    refine X_iconst (pc' := 2) dL_check_1 rfl ?_
    refine X_aload_n (pc' := 3) dL_check_2 rfl rfl ?_
    refine X_iload_n (pc' := 4) dL_check_3 rfl rfl ?_
    refine X_iload_n (pc' := 5) dL_check_4 rfl rfl ?_
    refine Y_callH [.int (iN v1), .int (iN v2)] (pc' := 8) dL_check_5 rfl VL_47 (by decide) (zlN hN (by decide)) (congrArg Prod.fst (sh0 ln)) rfl rfl rfl (cs rfl) (cs rfl) rfl (CX5_check hN hz rv1 rv2 e) (c7 := 0) (s7 := 0) rfl rfl (fun f => ?_)
    refine X_lI_i2l (pc' := 9) dL_check_8 rfl f.1 ?_
    refine Y_last (pc' := 10) dL_check_9 rfl (zlN hN (by decide)) (sh159 ln) (by decide) ⟨by decide, by decide⟩ ?_
    refine X_goto dL_check_10 (tgt := 21) rfl ?_
    refine X_iconst (pc' := 22) dL_check_21 rfl ?_
    exact X_iret dL_check_22 rfl ⟨⟨h4 (n := 0) rfl, okz_up f.2 f.1⟩, rfl, rfl⟩
  · by_cases c0 : E = 0
    · have h := if_t c0 h
      cases h
      subst c0
      refine X_to (M := [some (.ref 0), some (.int (iN v1)), some (.int (iN v2)), some (.ref 159), none]) (su := []) rfl rfl ?_
      refine X_aload_n (pc' := 1) dL_check_0 rfl rfl ?_
      refine X_iconst (pc' := 2) dL_check_1 rfl ?_
      refine X_aload_n (pc' := 3) dL_check_2 rfl rfl ?_
      refine X_iload_n (pc' := 4) dL_check_3 rfl rfl ?_
      refine X_iload_n (pc' := 5) dL_check_4 rfl rfl ?_
      refine Y_callHx (i := 4) (to := 15) [.int (iN v1), .int (iN v2)] (pc' := 8) dL_check_5 rfl VL_47 (by decide) (zlN hN (by decide)) (congrArg Prod.fst (sh0 ln)) rfl rfl rfl (cs rfl) (cs rfl) rfl (CX5_check hN hz rv1 rv2 e) ⟨[], ⟨0, 10, 13, 29⟩, [⟨0, 10, 17, 13⟩], rfl, (fun _ h => nomatch h), by decide, by decide, ⟨"java/lang/IndexOutOfBoundsException", tq517, tq554⟩, by decide, Or.inr ⟨dL_check_13, rfl⟩⟩ (Or.inr rfl) (fun f => ?_)
      refine X_iconst (pc' := 16) dL_check_15 rfl ?_
      exact X_iret dL_check_16 rfl ⟨⟨h4 (n := 1) rfl, f⟩, rfl, rfl⟩
    have h := if_f c0 h
    by_cases c1 : E = 2
    · have h := if_t c1 h
      cases h
      subst c1
      refine X_to (M := [some (.ref 0), some (.int (iN v1)), some (.int (iN v2)), some (.ref 159), none]) (su := []) rfl rfl ?_
      refine X_aload_n (pc' := 1) dL_check_0 rfl rfl ?_
      refine X_iconst (pc' := 2) dL_check_1 rfl ?_
      refine X_aload_n (pc' := 3) dL_check_2 rfl rfl ?_
      refine X_iload_n (pc' := 4) dL_check_3 rfl rfl ?_
      refine X_iload_n (pc' := 5) dL_check_4 rfl rfl ?_
      refine Y_callHx (i := 4) (to := 19) [.int (iN v1), .int (iN v2)] (pc' := 8) dL_check_5 rfl VL_47 (by decide) (zlN hN (by decide)) (congrArg Prod.fst (sh0 ln)) rfl rfl rfl (cs rfl) (cs rfl) rfl (CX5_check hN hz rv1 rv2 e) ⟨[⟨0, 10, 13, 29⟩], ⟨0, 10, 17, 13⟩, [], rfl, (List.forall_mem_cons.mpr ⟨Or.inr ⟨by decide, "java/lang/IndexOutOfBoundsException", tq517, List.mem_of_getElem? (i := 31) rfl⟩, (fun _ h => nomatch h)⟩), by decide, by decide, ⟨"java/lang/IllegalStateException", tq392, tq402⟩, by decide, Or.inr ⟨dL_check_17, rfl⟩⟩ (Or.inr rfl) (fun f => ?_)
      refine X_iconst (pc' := 20) dL_check_19 rfl ?_
      exact X_iret dL_check_20 rfl ⟨⟨h4 (n := 2) rfl, f⟩, rfl, rfl⟩
    have h := if_f c1 h
    cases h
def fL_enroll (v1 : Int) (v2 : Int) (z : ZZ) : Option (Int × ZZ) := Option.bind (fX5_enroll v1 v2 z) fun q => match q with | (.inl r, z1) => some (0, zup z1 159 0 r) | (.inr E, z1) => (if E = 0 then some (1, z1) else (if E = 2 then some (2, z1) else none))
set_option maxRecDepth 100000 in
theorem CL_enroll {ln N : Nat} {z : ZZ} {v1 : Int} {v2 : Int} (hN : 161 ≤ N ∧ N < 999999) (hz : okz z) (rv1 : inR v1) (rv2 : inR v2) {p : Int × ZZ} (h : fL_enroll v1 v2 z = some p) : X mL_enroll 0 (xEnt [.ref 0, .int (iN v1), .int (iN v2), .ref 159] (xL mL_enroll)) [] (zmk ln N z) (cc_h p) (6 * cc_h p) (Qd (fa_h p) (rs_h p) (st_h ln N p)) := by
  unfold fL_enroll at h
  obtain ⟨⟨r | E, z1⟩, e, h⟩ := bs h
  · cases h
    refine X_to (M := [some (.ref 0), some (.int (iN v1)), some (.int (iN v2)), some (.ref 159), none]) (su := []) rfl rfl ?_
    refine X_aload_n (pc' := 1) dL_enroll_0 rfl rfl ?_
    refine X_iconst (pc' := 2) dL_enroll_1 rfl ?_
    refine X_aload_n (pc' := 3) dL_enroll_2 rfl rfl ?_
    refine X_iload_n (pc' := 4) dL_enroll_3 rfl rfl ?_
    refine X_iload_n (pc' := 5) dL_enroll_4 rfl rfl ?_
    refine Y_callH [.int (iN v1), .int (iN v2)] (pc' := 8) dL_enroll_5 rfl VL_51 (by decide) (zlN hN (by decide)) (congrArg Prod.fst (sh0 ln)) rfl rfl rfl (cs rfl) (cs rfl) rfl (CX5_enroll hN hz rv1 rv2 e) (c7 := 0) (s7 := 0) rfl rfl (fun f => ?_)
    refine X_lI_i2l (pc' := 9) dL_enroll_8 rfl f.1 ?_
    refine Y_last (pc' := 10) dL_enroll_9 rfl (zlN hN (by decide)) (sh159 ln) (by decide) ⟨by decide, by decide⟩ ?_
    refine X_goto dL_enroll_10 (tgt := 21) rfl ?_
    refine X_iconst (pc' := 22) dL_enroll_21 rfl ?_
    exact X_iret dL_enroll_22 rfl ⟨⟨h4 (n := 0) rfl, okz_up f.2 f.1⟩, rfl, rfl⟩
  · by_cases c0 : E = 0
    · have h := if_t c0 h
      cases h
      subst c0
      refine X_to (M := [some (.ref 0), some (.int (iN v1)), some (.int (iN v2)), some (.ref 159), none]) (su := []) rfl rfl ?_
      refine X_aload_n (pc' := 1) dL_enroll_0 rfl rfl ?_
      refine X_iconst (pc' := 2) dL_enroll_1 rfl ?_
      refine X_aload_n (pc' := 3) dL_enroll_2 rfl rfl ?_
      refine X_iload_n (pc' := 4) dL_enroll_3 rfl rfl ?_
      refine X_iload_n (pc' := 5) dL_enroll_4 rfl rfl ?_
      refine Y_callHx (i := 4) (to := 15) [.int (iN v1), .int (iN v2)] (pc' := 8) dL_enroll_5 rfl VL_51 (by decide) (zlN hN (by decide)) (congrArg Prod.fst (sh0 ln)) rfl rfl rfl (cs rfl) (cs rfl) rfl (CX5_enroll hN hz rv1 rv2 e) ⟨[], ⟨0, 10, 13, 29⟩, [⟨0, 10, 17, 13⟩], rfl, (fun _ h => nomatch h), by decide, by decide, ⟨"java/lang/IndexOutOfBoundsException", tq517, tq554⟩, by decide, Or.inr ⟨dL_enroll_13, rfl⟩⟩ (Or.inr rfl) (fun f => ?_)
      refine X_iconst (pc' := 16) dL_enroll_15 rfl ?_
      exact X_iret dL_enroll_16 rfl ⟨⟨h4 (n := 1) rfl, f⟩, rfl, rfl⟩
    have h := if_f c0 h
    by_cases c1 : E = 2
    · have h := if_t c1 h
      cases h
      subst c1
      refine X_to (M := [some (.ref 0), some (.int (iN v1)), some (.int (iN v2)), some (.ref 159), none]) (su := []) rfl rfl ?_
      refine X_aload_n (pc' := 1) dL_enroll_0 rfl rfl ?_
      refine X_iconst (pc' := 2) dL_enroll_1 rfl ?_
      refine X_aload_n (pc' := 3) dL_enroll_2 rfl rfl ?_
      refine X_iload_n (pc' := 4) dL_enroll_3 rfl rfl ?_
      refine X_iload_n (pc' := 5) dL_enroll_4 rfl rfl ?_
      refine Y_callHx (i := 4) (to := 19) [.int (iN v1), .int (iN v2)] (pc' := 8) dL_enroll_5 rfl VL_51 (by decide) (zlN hN (by decide)) (congrArg Prod.fst (sh0 ln)) rfl rfl rfl (cs rfl) (cs rfl) rfl (CX5_enroll hN hz rv1 rv2 e) ⟨[⟨0, 10, 13, 29⟩], ⟨0, 10, 17, 13⟩, [], rfl, (List.forall_mem_cons.mpr ⟨Or.inr ⟨by decide, "java/lang/IndexOutOfBoundsException", tq517, List.mem_of_getElem? (i := 31) rfl⟩, (fun _ h => nomatch h)⟩), by decide, by decide, ⟨"java/lang/IllegalStateException", tq392, tq402⟩, by decide, Or.inr ⟨dL_enroll_17, rfl⟩⟩ (Or.inr rfl) (fun f => ?_)
      refine X_iconst (pc' := 20) dL_enroll_19 rfl ?_
      exact X_iret dL_enroll_20 rfl ⟨⟨h4 (n := 2) rfl, f⟩, rfl, rfl⟩
    have h := if_f c1 h
    cases h
def fL_leaveCourse (v1 : Int) (z : ZZ) : Option (Int × ZZ) := Option.bind (fX5_leaveCourse v1 z) fun q => match q with | (.inl r, z1) => some (0, zup z1 159 0 r) | (.inr E, z1) => (if E = 0 then some (1, z1) else (if E = 2 then some (2, z1) else none))
set_option maxRecDepth 100000 in
theorem CL_leaveCourse {ln N : Nat} {z : ZZ} {v1 : Int} (hN : 161 ≤ N ∧ N < 999999) (hz : okz z) (rv1 : inR v1) {p : Int × ZZ} (h : fL_leaveCourse v1 z = some p) : X mL_leaveCourse 0 (xEnt [.ref 0, .int (iN v1), .ref 159] (xL mL_leaveCourse)) [] (zmk ln N z) (cc_h p) (6 * cc_h p) (Qd (fa_h p) (rs_h p) (st_h ln N p)) := by
  unfold fL_leaveCourse at h
  obtain ⟨⟨r | E, z1⟩, e, h⟩ := bs h
  · cases h
    refine X_to (M := [some (.ref 0), some (.int (iN v1)), some (.ref 159), none]) (su := []) rfl rfl ?_
    refine X_aload_n (pc' := 1) dL_leaveCourse_0 rfl rfl ?_
    refine X_iconst (pc' := 2) dL_leaveCourse_1 rfl ?_
    refine X_aload_n (pc' := 3) dL_leaveCourse_2 rfl rfl ?_
    refine X_iload_n (pc' := 4) dL_leaveCourse_3 rfl rfl ?_
    refine Y_callH [.int (iN v1)] (pc' := 7) dL_leaveCourse_4 rfl VL_54 (by decide) (zlN hN (by decide)) (congrArg Prod.fst (sh0 ln)) rfl rfl rfl (cs rfl) (cs rfl) rfl (CX5_leaveCourse hN hz rv1 e) (c7 := 0) (s7 := 0) rfl rfl (fun f => ?_)
    refine X_lI_i2l (pc' := 8) dL_leaveCourse_7 rfl f.1 ?_
    refine Y_last (pc' := 9) dL_leaveCourse_8 rfl (zlN hN (by decide)) (sh159 ln) (by decide) ⟨by decide, by decide⟩ ?_
    refine X_goto dL_leaveCourse_9 (tgt := 18) rfl ?_
    refine X_iconst (pc' := 19) dL_leaveCourse_18 rfl ?_
    exact X_iret dL_leaveCourse_19 rfl ⟨⟨h4 (n := 0) rfl, okz_up f.2 f.1⟩, rfl, rfl⟩
  · by_cases c0 : E = 0
    · have h := if_t c0 h
      cases h
      subst c0
      refine X_to (M := [some (.ref 0), some (.int (iN v1)), some (.ref 159), none]) (su := []) rfl rfl ?_
      refine X_aload_n (pc' := 1) dL_leaveCourse_0 rfl rfl ?_
      refine X_iconst (pc' := 2) dL_leaveCourse_1 rfl ?_
      refine X_aload_n (pc' := 3) dL_leaveCourse_2 rfl rfl ?_
      refine X_iload_n (pc' := 4) dL_leaveCourse_3 rfl rfl ?_
      refine Y_callHx (i := 3) (to := 13) [.int (iN v1)] (pc' := 7) dL_leaveCourse_4 rfl VL_54 (by decide) (zlN hN (by decide)) (congrArg Prod.fst (sh0 ln)) rfl rfl rfl (cs rfl) (cs rfl) rfl (CX5_leaveCourse hN hz rv1 e) ⟨[], ⟨0, 9, 12, 29⟩, [⟨0, 9, 15, 13⟩], rfl, (fun _ h => nomatch h), by decide, by decide, ⟨"java/lang/IndexOutOfBoundsException", tq517, tq554⟩, by decide, Or.inl ⟨3, rfl, dL_leaveCourse_12, rfl⟩⟩ (Or.inr rfl) (fun f => ?_)
      refine X_iconst (pc' := 14) dL_leaveCourse_13 rfl ?_
      exact X_iret dL_leaveCourse_14 rfl ⟨⟨h4 (n := 1) rfl, f⟩, rfl, rfl⟩
    have h := if_f c0 h
    by_cases c1 : E = 2
    · have h := if_t c1 h
      cases h
      subst c1
      refine X_to (M := [some (.ref 0), some (.int (iN v1)), some (.ref 159), none]) (su := []) rfl rfl ?_
      refine X_aload_n (pc' := 1) dL_leaveCourse_0 rfl rfl ?_
      refine X_iconst (pc' := 2) dL_leaveCourse_1 rfl ?_
      refine X_aload_n (pc' := 3) dL_leaveCourse_2 rfl rfl ?_
      refine X_iload_n (pc' := 4) dL_leaveCourse_3 rfl rfl ?_
      refine Y_callHx (i := 3) (to := 16) [.int (iN v1)] (pc' := 7) dL_leaveCourse_4 rfl VL_54 (by decide) (zlN hN (by decide)) (congrArg Prod.fst (sh0 ln)) rfl rfl rfl (cs rfl) (cs rfl) rfl (CX5_leaveCourse hN hz rv1 e) ⟨[⟨0, 9, 12, 29⟩], ⟨0, 9, 15, 13⟩, [], rfl, (List.forall_mem_cons.mpr ⟨Or.inr ⟨by decide, "java/lang/IndexOutOfBoundsException", tq517, List.mem_of_getElem? (i := 31) rfl⟩, (fun _ h => nomatch h)⟩), by decide, by decide, ⟨"java/lang/IllegalStateException", tq392, tq402⟩, by decide, Or.inl ⟨3, rfl, dL_leaveCourse_15, rfl⟩⟩ (Or.inr rfl) (fun f => ?_)
      refine X_iconst (pc' := 17) dL_leaveCourse_16 rfl ?_
      exact X_iret dL_leaveCourse_17 rfl ⟨⟨h4 (n := 2) rfl, f⟩, rfl, rfl⟩
    have h := if_f c1 h
    cases h
def fL_finish (v1 : Int) (v2 : Int) (z : ZZ) : Option (Int × ZZ) := Option.bind (fX5_finish v1 v2 z) fun q => match q with | (.inl r, z1) => some (0, zup z1 159 0 r) | (.inr E, z1) => (if E = 0 then some (1, z1) else none)
set_option maxRecDepth 100000 in
theorem CL_finish {ln N : Nat} {z : ZZ} {v1 : Int} {v2 : Int} (hN : 161 ≤ N ∧ N < 999999) (hz : okz z) (rv1 : inR v1) (rv2 : inR v2) {p : Int × ZZ} (h : fL_finish v1 v2 z = some p) : X mL_finish 0 (xEnt [.ref 0, .int (iN v1), .int (iN v2), .ref 159] (xL mL_finish)) [] (zmk ln N z) (cc_h p) (6 * cc_h p) (Qd (fa_h p) (rs_h p) (st_h ln N p)) := by
  unfold fL_finish at h
  obtain ⟨⟨r | E, z1⟩, e, h⟩ := bs h
  · cases h
    refine X_to (M := [some (.ref 0), some (.int (iN v1)), some (.int (iN v2)), some (.ref 159), none]) (su := []) rfl rfl ?_
    refine X_aload_n (pc' := 1) dL_finish_0 rfl rfl ?_
    refine X_iconst (pc' := 2) dL_finish_1 rfl ?_
    refine X_aload_n (pc' := 3) dL_finish_2 rfl rfl ?_
    refine X_iload_n (pc' := 4) dL_finish_3 rfl rfl ?_
    refine X_iload_n (pc' := 5) dL_finish_4 rfl rfl ?_
    refine Y_callH [.int (iN v1), .int (iN v2)] (pc' := 8) dL_finish_5 rfl VL_57 (by decide) (zlN hN (by decide)) (congrArg Prod.fst (sh0 ln)) rfl rfl rfl (cs rfl) (cs rfl) rfl (CX5_finish hN hz rv1 rv2 e) (c7 := 0) (s7 := 0) rfl rfl (fun f => ?_)
    refine X_lI_i2l (pc' := 9) dL_finish_8 rfl f.1 ?_
    refine Y_last (pc' := 10) dL_finish_9 rfl (zlN hN (by decide)) (sh159 ln) (by decide) ⟨by decide, by decide⟩ ?_
    refine X_goto dL_finish_10 (tgt := 17) rfl ?_
    refine X_iconst (pc' := 18) dL_finish_17 rfl ?_
    exact X_iret dL_finish_18 rfl ⟨⟨h4 (n := 0) rfl, okz_up f.2 f.1⟩, rfl, rfl⟩
  · by_cases c0 : E = 0
    · have h := if_t c0 h
      cases h
      subst c0
      refine X_to (M := [some (.ref 0), some (.int (iN v1)), some (.int (iN v2)), some (.ref 159), none]) (su := []) rfl rfl ?_
      refine X_aload_n (pc' := 1) dL_finish_0 rfl rfl ?_
      refine X_iconst (pc' := 2) dL_finish_1 rfl ?_
      refine X_aload_n (pc' := 3) dL_finish_2 rfl rfl ?_
      refine X_iload_n (pc' := 4) dL_finish_3 rfl rfl ?_
      refine X_iload_n (pc' := 5) dL_finish_4 rfl rfl ?_
      refine Y_callHx (i := 4) (to := 15) [.int (iN v1), .int (iN v2)] (pc' := 8) dL_finish_5 rfl VL_57 (by decide) (zlN hN (by decide)) (congrArg Prod.fst (sh0 ln)) rfl rfl rfl (cs rfl) (cs rfl) rfl (CX5_finish hN hz rv1 rv2 e) ⟨[], ⟨0, 10, 13, 29⟩, [], rfl, (fun _ h => nomatch h), by decide, by decide, ⟨"java/lang/IndexOutOfBoundsException", tq517, tq554⟩, by decide, Or.inr ⟨dL_finish_13, rfl⟩⟩ (Or.inr rfl) (fun f => ?_)
      refine X_iconst (pc' := 16) dL_finish_15 rfl ?_
      exact X_iret dL_finish_16 rfl ⟨⟨h4 (n := 1) rfl, f⟩, rfl, rfl⟩
    have h := if_f c0 h
    cases h
def fL_postpone (v1 : Int) (v2 : Int) (z : ZZ) : Option (Int × ZZ) := Option.bind (fX5_postpone v1 v2 z) fun q => match q with | (.inl r, z1) => some (0, zup z1 159 0 r) | (.inr E, z1) => (if E = 0 then some (1, z1) else (if E = 1 then some (2, z1) else none))
set_option maxRecDepth 100000 in
theorem CL_postpone {ln N : Nat} {z : ZZ} {v1 : Int} {v2 : Int} (hN : 161 ≤ N ∧ N < 999999) (hz : okz z) (rv1 : inR v1) (rv2 : inR v2) {p : Int × ZZ} (h : fL_postpone v1 v2 z = some p) : X mL_postpone 0 (xEnt [.ref 0, .int (iN v1), .int (iN v2), .ref 159] (xL mL_postpone)) [] (zmk ln N z) (cc_h p) (6 * cc_h p) (Qd (fa_h p) (rs_h p) (st_h ln N p)) := by
  unfold fL_postpone at h
  obtain ⟨⟨r | E, z1⟩, e, h⟩ := bs h
  · cases h
    refine X_to (M := [some (.ref 0), some (.int (iN v1)), some (.int (iN v2)), some (.ref 159), none]) (su := []) rfl rfl ?_
    refine X_aload_n (pc' := 1) dL_postpone_0 rfl rfl ?_
    refine X_iconst (pc' := 2) dL_postpone_1 rfl ?_
    refine X_aload_n (pc' := 3) dL_postpone_2 rfl rfl ?_
    refine X_iload_n (pc' := 4) dL_postpone_3 rfl rfl ?_
    refine X_iload_n (pc' := 5) dL_postpone_4 rfl rfl ?_
    refine Y_callH [.int (iN v1), .int (iN v2)] (pc' := 8) dL_postpone_5 rfl VL_60 (by decide) (zlN hN (by decide)) (congrArg Prod.fst (sh0 ln)) rfl rfl rfl (cs rfl) (cs rfl) rfl (CX5_postpone hN hz rv1 rv2 e) (c7 := 0) (s7 := 0) rfl rfl (fun f => ?_)
    refine X_lI_i2l (pc' := 9) dL_postpone_8 rfl f.1 ?_
    refine Y_last (pc' := 10) dL_postpone_9 rfl (zlN hN (by decide)) (sh159 ln) (by decide) ⟨by decide, by decide⟩ ?_
    refine X_goto dL_postpone_10 (tgt := 21) rfl ?_
    refine X_iconst (pc' := 22) dL_postpone_21 rfl ?_
    exact X_iret dL_postpone_22 rfl ⟨⟨h4 (n := 0) rfl, okz_up f.2 f.1⟩, rfl, rfl⟩
  · by_cases c0 : E = 0
    · have h := if_t c0 h
      cases h
      subst c0
      refine X_to (M := [some (.ref 0), some (.int (iN v1)), some (.int (iN v2)), some (.ref 159), none]) (su := []) rfl rfl ?_
      refine X_aload_n (pc' := 1) dL_postpone_0 rfl rfl ?_
      refine X_iconst (pc' := 2) dL_postpone_1 rfl ?_
      refine X_aload_n (pc' := 3) dL_postpone_2 rfl rfl ?_
      refine X_iload_n (pc' := 4) dL_postpone_3 rfl rfl ?_
      refine X_iload_n (pc' := 5) dL_postpone_4 rfl rfl ?_
      refine Y_callHx (i := 4) (to := 15) [.int (iN v1), .int (iN v2)] (pc' := 8) dL_postpone_5 rfl VL_60 (by decide) (zlN hN (by decide)) (congrArg Prod.fst (sh0 ln)) rfl rfl rfl (cs rfl) (cs rfl) rfl (CX5_postpone hN hz rv1 rv2 e) ⟨[], ⟨0, 10, 13, 29⟩, [⟨0, 10, 17, 19⟩], rfl, (fun _ h => nomatch h), by decide, by decide, ⟨"java/lang/IndexOutOfBoundsException", tq517, tq554⟩, by decide, Or.inr ⟨dL_postpone_13, rfl⟩⟩ (Or.inr rfl) (fun f => ?_)
      refine X_iconst (pc' := 16) dL_postpone_15 rfl ?_
      exact X_iret dL_postpone_16 rfl ⟨⟨h4 (n := 1) rfl, f⟩, rfl, rfl⟩
    have h := if_f c0 h
    by_cases c1 : E = 1
    · have h := if_t c1 h
      cases h
      subst c1
      refine X_to (M := [some (.ref 0), some (.int (iN v1)), some (.int (iN v2)), some (.ref 159), none]) (su := []) rfl rfl ?_
      refine X_aload_n (pc' := 1) dL_postpone_0 rfl rfl ?_
      refine X_iconst (pc' := 2) dL_postpone_1 rfl ?_
      refine X_aload_n (pc' := 3) dL_postpone_2 rfl rfl ?_
      refine X_iload_n (pc' := 4) dL_postpone_3 rfl rfl ?_
      refine X_iload_n (pc' := 5) dL_postpone_4 rfl rfl ?_
      refine Y_callHx (i := 4) (to := 19) [.int (iN v1), .int (iN v2)] (pc' := 8) dL_postpone_5 rfl VL_60 (by decide) (zlN hN (by decide)) (congrArg Prod.fst (sh0 ln)) rfl rfl rfl (cs rfl) (cs rfl) rfl (CX5_postpone hN hz rv1 rv2 e) ⟨[⟨0, 10, 13, 29⟩], ⟨0, 10, 17, 19⟩, [], rfl, (List.forall_mem_cons.mpr ⟨Or.inr ⟨by decide, "java/lang/IndexOutOfBoundsException", tq517, List.mem_of_getElem? (i := 32) rfl⟩, (fun _ h => nomatch h)⟩), by decide, by decide, ⟨"java/lang/IllegalArgumentException", tq477, tq487⟩, by decide, Or.inr ⟨dL_postpone_17, rfl⟩⟩ (Or.inr rfl) (fun f => ?_)
      refine X_iconst (pc' := 20) dL_postpone_19 rfl ?_
      exact X_iret dL_postpone_20 rfl ⟨⟨h4 (n := 2) rfl, f⟩, rfl, rfl⟩
    have h := if_f c1 h
    cases h
def fL_endDays (v1 : Int) (z : ZZ) : Option (Int × ZZ) := Option.bind (fX5_endDays v1 z) fun q => match q with | (.inl r, z1) => some (0, zup z1 159 0 r) | (.inr E, z1) => (if E = 1 then some (1, z1) else none)
set_option maxRecDepth 100000 in
theorem CL_endDays {ln N : Nat} {z : ZZ} {v1 : Int} (hN : 161 ≤ N ∧ N < 999999) (hz : okz z) (rv1 : inR v1) {p : Int × ZZ} (h : fL_endDays v1 z = some p) : X mL_endDays 0 (xEnt [.ref 0, .int (iN v1), .ref 159] (xL mL_endDays)) [] (zmk ln N z) (cc_h p) (6 * cc_h p) (Qd (fa_h p) (rs_h p) (st_h ln N p)) := by
  unfold fL_endDays at h
  obtain ⟨⟨r | E, z1⟩, e, h⟩ := bs h
  · cases h
    refine X_to (M := [some (.ref 0), some (.int (iN v1)), some (.ref 159), none]) (su := []) rfl rfl ?_
    refine X_aload_n (pc' := 1) dL_endDays_0 rfl rfl ?_
    refine X_iconst (pc' := 2) dL_endDays_1 rfl ?_
    refine X_aload_n (pc' := 3) dL_endDays_2 rfl rfl ?_
    refine X_iload_n (pc' := 4) dL_endDays_3 rfl rfl ?_
    refine Y_callH [.int (iN v1)] (pc' := 7) dL_endDays_4 rfl VL_63 (by decide) (zlN hN (by decide)) (congrArg Prod.fst (sh0 ln)) rfl rfl rfl (cs rfl) (cs rfl) rfl (CX5_endDays hN hz rv1 e) (c7 := 0) (s7 := 0) rfl rfl (fun f => ?_)
    refine X_lI_i2l (pc' := 8) dL_endDays_7 rfl f.1 ?_
    refine Y_last (pc' := 9) dL_endDays_8 rfl (zlN hN (by decide)) (sh159 ln) (by decide) ⟨by decide, by decide⟩ ?_
    refine X_goto dL_endDays_9 (tgt := 15) rfl ?_
    refine X_iconst (pc' := 16) dL_endDays_15 rfl ?_
    exact X_iret dL_endDays_16 rfl ⟨⟨h4 (n := 0) rfl, okz_up f.2 f.1⟩, rfl, rfl⟩
  · by_cases c0 : E = 1
    · have h := if_t c0 h
      cases h
      subst c0
      refine X_to (M := [some (.ref 0), some (.int (iN v1)), some (.ref 159), none]) (su := []) rfl rfl ?_
      refine X_aload_n (pc' := 1) dL_endDays_0 rfl rfl ?_
      refine X_iconst (pc' := 2) dL_endDays_1 rfl ?_
      refine X_aload_n (pc' := 3) dL_endDays_2 rfl rfl ?_
      refine X_iload_n (pc' := 4) dL_endDays_3 rfl rfl ?_
      refine Y_callHx (i := 3) (to := 13) [.int (iN v1)] (pc' := 7) dL_endDays_4 rfl VL_63 (by decide) (zlN hN (by decide)) (congrArg Prod.fst (sh0 ln)) rfl rfl rfl (cs rfl) (cs rfl) rfl (CX5_endDays hN hz rv1 e) ⟨[], ⟨0, 9, 12, 19⟩, [], rfl, (fun _ h => nomatch h), by decide, by decide, ⟨"java/lang/IllegalArgumentException", tq477, tq487⟩, by decide, Or.inl ⟨3, rfl, dL_endDays_12, rfl⟩⟩ (Or.inr rfl) (fun f => ?_)
      refine X_iconst (pc' := 14) dL_endDays_13 rfl ?_
      exact X_iret dL_endDays_14 rfl ⟨⟨h4 (n := 1) rfl, f⟩, rfl, rfl⟩
    have h := if_f c0 h
    cases h
def fL_undo (z : ZZ) : Option (Int × ZZ) := Option.bind (fX5_undo z) fun q => match q with | (.inl r, z1) => some (0, zup z1 159 0 r) | (.inr E, z1) => (if E = 2 then some (1, z1) else none)
set_option maxRecDepth 100000 in
theorem CL_undo {ln N : Nat} {z : ZZ} (hN : 161 ≤ N ∧ N < 999999) (hz : okz z) {p : Int × ZZ} (h : fL_undo z = some p) : X mL_undo 0 (xEnt [.ref 0, .ref 159] (xL mL_undo)) [] (zmk ln N z) (cc_h p) (6 * cc_h p) (Qd (fa_h p) (rs_h p) (st_h ln N p)) := by
  unfold fL_undo at h
  obtain ⟨⟨r | E, z1⟩, e, h⟩ := bs h
  · cases h
    refine X_to (M := [some (.ref 0), some (.ref 159), none]) (su := []) rfl rfl ?_
    refine X_aload_n (pc' := 1) dL_undo_0 rfl rfl ?_
    refine X_iconst (pc' := 2) dL_undo_1 rfl ?_
    refine X_aload_n (pc' := 3) dL_undo_2 rfl rfl ?_
    refine Y_callH [] (pc' := 6) dL_undo_3 rfl VL_66 (by decide) (zlN hN (by decide)) (congrArg Prod.fst (sh0 ln)) rfl rfl rfl (cs rfl) (cs rfl) rfl (CX5_undo hN hz  e) (c7 := 0) (s7 := 0) rfl rfl (fun f => ?_)
    refine X_lI_i2l (pc' := 7) dL_undo_6 rfl f.1 ?_
    refine Y_last (pc' := 8) dL_undo_7 rfl (zlN hN (by decide)) (sh159 ln) (by decide) ⟨by decide, by decide⟩ ?_
    refine X_goto dL_undo_8 (tgt := 14) rfl ?_
    refine X_iconst (pc' := 15) dL_undo_14 rfl ?_
    exact X_iret dL_undo_15 rfl ⟨⟨h4 (n := 0) rfl, okz_up f.2 f.1⟩, rfl, rfl⟩
  · by_cases c0 : E = 2
    · have h := if_t c0 h
      cases h
      subst c0
      refine X_to (M := [some (.ref 0), some (.ref 159), none]) (su := []) rfl rfl ?_
      refine X_aload_n (pc' := 1) dL_undo_0 rfl rfl ?_
      refine X_iconst (pc' := 2) dL_undo_1 rfl ?_
      refine X_aload_n (pc' := 3) dL_undo_2 rfl rfl ?_
      refine Y_callHx (i := 2) (to := 12) [] (pc' := 6) dL_undo_3 rfl VL_66 (by decide) (zlN hN (by decide)) (congrArg Prod.fst (sh0 ln)) rfl rfl rfl (cs rfl) (cs rfl) rfl (CX5_undo hN hz  e) ⟨[], ⟨0, 8, 11, 13⟩, [], rfl, (fun _ h => nomatch h), by decide, by decide, ⟨"java/lang/IllegalStateException", tq392, tq402⟩, by decide, Or.inl ⟨2, rfl, dL_undo_11, rfl⟩⟩ (Or.inr rfl) (fun f => ?_)
      refine X_iconst (pc' := 13) dL_undo_12 rfl ?_
      exact X_iret dL_undo_13 rfl ⟨⟨h4 (n := 1) rfl, f⟩, rfl, rfl⟩
    have h := if_f c0 h
    cases h
def fL_restore (z : ZZ) : Option (Int × ZZ) := Option.bind (fX5_restore z) fun q => match q with | (.inl r, z1) => some (0, zup z1 159 0 r) | (.inr E, z1) => (if E = 2 then some (1, z1) else none)
set_option maxRecDepth 100000 in
theorem CL_restore {ln N : Nat} {z : ZZ} (hN : 161 ≤ N ∧ N < 999999) (hz : okz z) {p : Int × ZZ} (h : fL_restore z = some p) : X mL_restore 0 (xEnt [.ref 0, .ref 159] (xL mL_restore)) [] (zmk ln N z) (cc_h p) (6 * cc_h p) (Qd (fa_h p) (rs_h p) (st_h ln N p)) := by
  unfold fL_restore at h
  obtain ⟨⟨r | E, z1⟩, e, h⟩ := bs h
  · cases h
    refine X_to (M := [some (.ref 0), some (.ref 159), none]) (su := []) rfl rfl ?_
    refine X_aload_n (pc' := 1) dL_restore_0 rfl rfl ?_
    refine X_iconst (pc' := 2) dL_restore_1 rfl ?_
    refine X_aload_n (pc' := 3) dL_restore_2 rfl rfl ?_
    refine Y_callH [] (pc' := 6) dL_restore_3 rfl VL_69 (by decide) (zlN hN (by decide)) (congrArg Prod.fst (sh0 ln)) rfl rfl rfl (cs rfl) (cs rfl) rfl (CX5_restore hN hz  e) (c7 := 0) (s7 := 0) rfl rfl (fun f => ?_)
    refine X_lI_i2l (pc' := 7) dL_restore_6 rfl f.1 ?_
    refine Y_last (pc' := 8) dL_restore_7 rfl (zlN hN (by decide)) (sh159 ln) (by decide) ⟨by decide, by decide⟩ ?_
    refine X_goto dL_restore_8 (tgt := 14) rfl ?_
    refine X_iconst (pc' := 15) dL_restore_14 rfl ?_
    exact X_iret dL_restore_15 rfl ⟨⟨h4 (n := 0) rfl, okz_up f.2 f.1⟩, rfl, rfl⟩
  · by_cases c0 : E = 2
    · have h := if_t c0 h
      cases h
      subst c0
      refine X_to (M := [some (.ref 0), some (.ref 159), none]) (su := []) rfl rfl ?_
      refine X_aload_n (pc' := 1) dL_restore_0 rfl rfl ?_
      refine X_iconst (pc' := 2) dL_restore_1 rfl ?_
      refine X_aload_n (pc' := 3) dL_restore_2 rfl rfl ?_
      refine Y_callHx (i := 2) (to := 12) [] (pc' := 6) dL_restore_3 rfl VL_69 (by decide) (zlN hN (by decide)) (congrArg Prod.fst (sh0 ln)) rfl rfl rfl (cs rfl) (cs rfl) rfl (CX5_restore hN hz  e) ⟨[], ⟨0, 8, 11, 13⟩, [], rfl, (fun _ h => nomatch h), by decide, by decide, ⟨"java/lang/IllegalStateException", tq392, tq402⟩, by decide, Or.inl ⟨2, rfl, dL_restore_11, rfl⟩⟩ (Or.inr rfl) (fun f => ?_)
      refine X_iconst (pc' := 13) dL_restore_12 rfl ?_
      exact X_iret dL_restore_13 rfl ⟨⟨h4 (n := 1) rfl, f⟩, rfl, rfl⟩
    have h := if_f c0 h
    cases h
def fL_count (v1 : Int) (z : ZZ) : Option (Int × ZZ) := Option.bind (fX5_count v1 z) fun q => match q with | .inl r => some (0, zup z 159 0 r) | .inr E => (if E = 1 then some (1, z) else none)
set_option maxRecDepth 100000 in
theorem CL_count {ln N : Nat} {z : ZZ} {v1 : Int} (hN : 161 ≤ N ∧ N < 999999) (hz : okz z) (rv1 : inR v1) {p : Int × ZZ} (h : fL_count v1 z = some p) : X mL_count 0 (xEnt [.ref 0, .int (iN v1), .ref 159] (xL mL_count)) [] (zmk ln N z) (cc_h p) (6 * cc_h p) (Qd (fa_h p) (rs_h p) (st_h ln N p)) := by
  unfold fL_count at h
  obtain ⟨r | E, e, h⟩ := bs h
  · cases h
    refine X_to (M := [some (.ref 0), some (.int (iN v1)), some (.ref 159), none]) (su := []) rfl rfl ?_
    refine X_aload_n (pc' := 1) dL_count_0 rfl rfl ?_
    refine X_iconst (pc' := 2) dL_count_1 rfl ?_
    refine X_aload_n (pc' := 3) dL_count_2 rfl rfl ?_
    refine X_iload_n (pc' := 4) dL_count_3 rfl rfl ?_
    refine Y_callH [.int (iN v1)] (pc' := 7) dL_count_4 rfl VL_72 (by decide) (zlN hN (by decide)) (congrArg Prod.fst (sh0 ln)) rfl rfl rfl (cs rfl) (cs rfl) rfl (CX5_count hN hz rv1 e) (c7 := 0) (s7 := 0) rfl rfl (fun f => ?_)
    refine X_lI_i2l (pc' := 8) dL_count_7 rfl f ?_
    refine Y_last (pc' := 9) dL_count_8 rfl (zlN hN (by decide)) (sh159 ln) (by decide) ⟨by decide, by decide⟩ ?_
    refine X_goto dL_count_9 (tgt := 15) rfl ?_
    refine X_iconst (pc' := 16) dL_count_15 rfl ?_
    exact X_iret dL_count_16 rfl ⟨⟨h4 (n := 0) rfl, okz_up hz f⟩, rfl, rfl⟩
  · by_cases c0 : E = 1
    · have h := if_t c0 h
      cases h
      subst c0
      refine X_to (M := [some (.ref 0), some (.int (iN v1)), some (.ref 159), none]) (su := []) rfl rfl ?_
      refine X_aload_n (pc' := 1) dL_count_0 rfl rfl ?_
      refine X_iconst (pc' := 2) dL_count_1 rfl ?_
      refine X_aload_n (pc' := 3) dL_count_2 rfl rfl ?_
      refine X_iload_n (pc' := 4) dL_count_3 rfl rfl ?_
      refine Y_callHx (i := 3) (to := 13) [.int (iN v1)] (pc' := 7) dL_count_4 rfl VL_72 (by decide) (zlN hN (by decide)) (congrArg Prod.fst (sh0 ln)) rfl rfl rfl (cs rfl) (cs rfl) rfl (CX5_count hN hz rv1 e) ⟨[], ⟨0, 9, 12, 19⟩, [], rfl, (fun _ h => nomatch h), by decide, by decide, ⟨"java/lang/IllegalArgumentException", tq477, tq487⟩, by decide, Or.inl ⟨3, rfl, dL_count_12, rfl⟩⟩ (Or.inr rfl) (fun f => ?_)
      refine X_iconst (pc' := 14) dL_count_13 rfl ?_
      exact X_iret dL_count_14 rfl ⟨⟨h4 (n := 1) rfl, hz⟩, rfl, rfl⟩
    have h := if_f c0 h
    cases h
def fL_wall (v1 : Int) (v2 : Int) (z : ZZ) : Option (Int × ZZ) := Option.bind (fX5_wall v1 v2 z) fun q => match q with | .inl r => some (0, zup z 159 0 r) | .inr E => (if E = 0 then some (1, z) else (if E = 1 then some (2, z) else none))
set_option maxRecDepth 100000 in
theorem CL_wall {ln N : Nat} {z : ZZ} {v1 : Int} {v2 : Int} (hN : 161 ≤ N ∧ N < 999999) (hz : okz z) (rv1 : inR v1) (rv2 : inR v2) {p : Int × ZZ} (h : fL_wall v1 v2 z = some p) : X mL_wall 0 (xEnt [.ref 0, .int (iN v1), .int (iN v2), .ref 159] (xL mL_wall)) [] (zmk ln N z) (cc_h p) (6 * cc_h p) (Qd (fa_h p) (rs_h p) (st_h ln N p)) := by
  unfold fL_wall at h
  obtain ⟨r | E, e, h⟩ := bs h
  · cases h
    refine X_to (M := [some (.ref 0), some (.int (iN v1)), some (.int (iN v2)), some (.ref 159), none]) (su := []) rfl rfl ?_
    refine X_aload_n (pc' := 1) dL_wall_0 rfl rfl ?_
    refine X_iconst (pc' := 2) dL_wall_1 rfl ?_
    refine X_aload_n (pc' := 3) dL_wall_2 rfl rfl ?_
    refine X_iload_n (pc' := 4) dL_wall_3 rfl rfl ?_
    refine X_iload_n (pc' := 5) dL_wall_4 rfl rfl ?_
    refine Y_callH [.int (iN v1), .int (iN v2)] (pc' := 8) dL_wall_5 rfl VL_75 (by decide) (zlN hN (by decide)) (congrArg Prod.fst (sh0 ln)) rfl rfl rfl (cs rfl) (cs rfl) rfl (CX5_wall hN hz rv1 rv2 e) (c7 := 0) (s7 := 0) rfl rfl (fun f => ?_)
    refine X_lI_i2l (pc' := 9) dL_wall_8 rfl f ?_
    refine Y_last (pc' := 10) dL_wall_9 rfl (zlN hN (by decide)) (sh159 ln) (by decide) ⟨by decide, by decide⟩ ?_
    refine X_goto dL_wall_10 (tgt := 21) rfl ?_
    refine X_iconst (pc' := 22) dL_wall_21 rfl ?_
    exact X_iret dL_wall_22 rfl ⟨⟨h4 (n := 0) rfl, okz_up hz f⟩, rfl, rfl⟩
  · by_cases c0 : E = 0
    · have h := if_t c0 h
      cases h
      subst c0
      refine X_to (M := [some (.ref 0), some (.int (iN v1)), some (.int (iN v2)), some (.ref 159), none]) (su := []) rfl rfl ?_
      refine X_aload_n (pc' := 1) dL_wall_0 rfl rfl ?_
      refine X_iconst (pc' := 2) dL_wall_1 rfl ?_
      refine X_aload_n (pc' := 3) dL_wall_2 rfl rfl ?_
      refine X_iload_n (pc' := 4) dL_wall_3 rfl rfl ?_
      refine X_iload_n (pc' := 5) dL_wall_4 rfl rfl ?_
      refine Y_callHx (i := 4) (to := 15) [.int (iN v1), .int (iN v2)] (pc' := 8) dL_wall_5 rfl VL_75 (by decide) (zlN hN (by decide)) (congrArg Prod.fst (sh0 ln)) rfl rfl rfl (cs rfl) (cs rfl) rfl (CX5_wall hN hz rv1 rv2 e) ⟨[], ⟨0, 10, 13, 29⟩, [⟨0, 10, 17, 19⟩], rfl, (fun _ h => nomatch h), by decide, by decide, ⟨"java/lang/IndexOutOfBoundsException", tq517, tq554⟩, by decide, Or.inr ⟨dL_wall_13, rfl⟩⟩ (Or.inr rfl) (fun f => ?_)
      refine X_iconst (pc' := 16) dL_wall_15 rfl ?_
      exact X_iret dL_wall_16 rfl ⟨⟨h4 (n := 1) rfl, hz⟩, rfl, rfl⟩
    have h := if_f c0 h
    by_cases c1 : E = 1
    · have h := if_t c1 h
      cases h
      subst c1
      refine X_to (M := [some (.ref 0), some (.int (iN v1)), some (.int (iN v2)), some (.ref 159), none]) (su := []) rfl rfl ?_
      refine X_aload_n (pc' := 1) dL_wall_0 rfl rfl ?_
      refine X_iconst (pc' := 2) dL_wall_1 rfl ?_
      refine X_aload_n (pc' := 3) dL_wall_2 rfl rfl ?_
      refine X_iload_n (pc' := 4) dL_wall_3 rfl rfl ?_
      refine X_iload_n (pc' := 5) dL_wall_4 rfl rfl ?_
      refine Y_callHx (i := 4) (to := 19) [.int (iN v1), .int (iN v2)] (pc' := 8) dL_wall_5 rfl VL_75 (by decide) (zlN hN (by decide)) (congrArg Prod.fst (sh0 ln)) rfl rfl rfl (cs rfl) (cs rfl) rfl (CX5_wall hN hz rv1 rv2 e) ⟨[⟨0, 10, 13, 29⟩], ⟨0, 10, 17, 19⟩, [], rfl, (List.forall_mem_cons.mpr ⟨Or.inr ⟨by decide, "java/lang/IndexOutOfBoundsException", tq517, List.mem_of_getElem? (i := 32) rfl⟩, (fun _ h => nomatch h)⟩), by decide, by decide, ⟨"java/lang/IllegalArgumentException", tq477, tq487⟩, by decide, Or.inr ⟨dL_wall_17, rfl⟩⟩ (Or.inr rfl) (fun f => ?_)
      refine X_iconst (pc' := 20) dL_wall_19 rfl ?_
      exact X_iret dL_wall_20 rfl ⟨⟨h4 (n := 2) rfl, hz⟩, rfl, rfl⟩
    have h := if_f c1 h
    cases h
def fL_route (v1 : Int) (v2 : Int) (z : ZZ) : Option (Int × ZZ) := Option.bind (fX5_route v1 v2 z) fun q => match q with | .inl r => some (0, zup z 159 0 r) | .inr E => (if E = 0 then some (1, z) else (if E = 1 then some (2, z) else none))
set_option maxRecDepth 100000 in
theorem CL_route {ln N : Nat} {z : ZZ} {v1 : Int} {v2 : Int} (hN : 161 ≤ N ∧ N < 999999) (hz : okz z) (rv1 : inR v1) (rv2 : inR v2) {p : Int × ZZ} (h : fL_route v1 v2 z = some p) : X mL_route 0 (xEnt [.ref 0, .int (iN v1), .int (iN v2), .ref 159] (xL mL_route)) [] (zmk ln N z) (cc_h p) (6 * cc_h p) (Qd (fa_h p) (rs_h p) (st_h ln N p)) := by
  unfold fL_route at h
  obtain ⟨r | E, e, h⟩ := bs h
  · cases h
    refine X_to (M := [some (.ref 0), some (.int (iN v1)), some (.int (iN v2)), some (.ref 159), none]) (su := []) rfl rfl ?_
    refine X_aload_n (pc' := 1) dL_route_0 rfl rfl ?_
    refine X_iconst (pc' := 2) dL_route_1 rfl ?_
    refine X_aload_n (pc' := 3) dL_route_2 rfl rfl ?_
    refine X_iload_n (pc' := 4) dL_route_3 rfl rfl ?_
    refine X_iload_n (pc' := 5) dL_route_4 rfl rfl ?_
    refine Y_callH [.int (iN v1), .int (iN v2)] (pc' := 8) dL_route_5 rfl VL_78 (by decide) (zlN hN (by decide)) (congrArg Prod.fst (sh0 ln)) rfl rfl rfl (cs rfl) (cs rfl) rfl (CX5_route hN hz rv1 rv2 e) (c7 := 0) (s7 := 0) rfl rfl (fun f => ?_)
    refine X_lI_i2l (pc' := 9) dL_route_8 rfl f ?_
    refine Y_last (pc' := 10) dL_route_9 rfl (zlN hN (by decide)) (sh159 ln) (by decide) ⟨by decide, by decide⟩ ?_
    refine X_goto dL_route_10 (tgt := 21) rfl ?_
    refine X_iconst (pc' := 22) dL_route_21 rfl ?_
    exact X_iret dL_route_22 rfl ⟨⟨h4 (n := 0) rfl, okz_up hz f⟩, rfl, rfl⟩
  · by_cases c0 : E = 0
    · have h := if_t c0 h
      cases h
      subst c0
      refine X_to (M := [some (.ref 0), some (.int (iN v1)), some (.int (iN v2)), some (.ref 159), none]) (su := []) rfl rfl ?_
      refine X_aload_n (pc' := 1) dL_route_0 rfl rfl ?_
      refine X_iconst (pc' := 2) dL_route_1 rfl ?_
      refine X_aload_n (pc' := 3) dL_route_2 rfl rfl ?_
      refine X_iload_n (pc' := 4) dL_route_3 rfl rfl ?_
      refine X_iload_n (pc' := 5) dL_route_4 rfl rfl ?_
      refine Y_callHx (i := 4) (to := 15) [.int (iN v1), .int (iN v2)] (pc' := 8) dL_route_5 rfl VL_78 (by decide) (zlN hN (by decide)) (congrArg Prod.fst (sh0 ln)) rfl rfl rfl (cs rfl) (cs rfl) rfl (CX5_route hN hz rv1 rv2 e) ⟨[], ⟨0, 10, 13, 29⟩, [⟨0, 10, 17, 19⟩], rfl, (fun _ h => nomatch h), by decide, by decide, ⟨"java/lang/IndexOutOfBoundsException", tq517, tq554⟩, by decide, Or.inr ⟨dL_route_13, rfl⟩⟩ (Or.inr rfl) (fun f => ?_)
      refine X_iconst (pc' := 16) dL_route_15 rfl ?_
      exact X_iret dL_route_16 rfl ⟨⟨h4 (n := 1) rfl, hz⟩, rfl, rfl⟩
    have h := if_f c0 h
    by_cases c1 : E = 1
    · have h := if_t c1 h
      cases h
      subst c1
      refine X_to (M := [some (.ref 0), some (.int (iN v1)), some (.int (iN v2)), some (.ref 159), none]) (su := []) rfl rfl ?_
      refine X_aload_n (pc' := 1) dL_route_0 rfl rfl ?_
      refine X_iconst (pc' := 2) dL_route_1 rfl ?_
      refine X_aload_n (pc' := 3) dL_route_2 rfl rfl ?_
      refine X_iload_n (pc' := 4) dL_route_3 rfl rfl ?_
      refine X_iload_n (pc' := 5) dL_route_4 rfl rfl ?_
      refine Y_callHx (i := 4) (to := 19) [.int (iN v1), .int (iN v2)] (pc' := 8) dL_route_5 rfl VL_78 (by decide) (zlN hN (by decide)) (congrArg Prod.fst (sh0 ln)) rfl rfl rfl (cs rfl) (cs rfl) rfl (CX5_route hN hz rv1 rv2 e) ⟨[⟨0, 10, 13, 29⟩], ⟨0, 10, 17, 19⟩, [], rfl, (List.forall_mem_cons.mpr ⟨Or.inr ⟨by decide, "java/lang/IndexOutOfBoundsException", tq517, List.mem_of_getElem? (i := 32) rfl⟩, (fun _ h => nomatch h)⟩), by decide, by decide, ⟨"java/lang/IllegalArgumentException", tq477, tq487⟩, by decide, Or.inr ⟨dL_route_17, rfl⟩⟩ (Or.inr rfl) (fun f => ?_)
      refine X_iconst (pc' := 20) dL_route_19 rfl ?_
      exact X_iret dL_route_20 rfl ⟨⟨h4 (n := 2) rfl, hz⟩, rfl, rfl⟩
    have h := if_f c1 h
    cases h
def fL_archived (v1 : Int) (v2 : Int) (z : ZZ) : Option (Int × ZZ) := Option.bind (fX5_archived v1 v2 z) fun q => match q with | .inl r => some (0, zup z 159 0 r) | .inr E => (if E = 0 then some (1, z) else (if E = 1 then some (2, z) else none))
set_option maxRecDepth 100000 in
theorem CL_archived {ln N : Nat} {z : ZZ} {v1 : Int} {v2 : Int} (hN : 161 ≤ N ∧ N < 999999) (hz : okz z) (rv1 : inR v1) (rv2 : inR v2) {p : Int × ZZ} (h : fL_archived v1 v2 z = some p) : X mL_archived 0 (xEnt [.ref 0, .int (iN v1), .int (iN v2), .ref 159] (xL mL_archived)) [] (zmk ln N z) (cc_h p) (6 * cc_h p) (Qd (fa_h p) (rs_h p) (st_h ln N p)) := by
  unfold fL_archived at h
  obtain ⟨r | E, e, h⟩ := bs h
  · cases h
    refine X_to (M := [some (.ref 0), some (.int (iN v1)), some (.int (iN v2)), some (.ref 159), none]) (su := []) rfl rfl ?_
    refine X_aload_n (pc' := 1) dL_archived_0 rfl rfl ?_
    refine X_iconst (pc' := 2) dL_archived_1 rfl ?_
    refine X_aload_n (pc' := 3) dL_archived_2 rfl rfl ?_
    refine X_iload_n (pc' := 4) dL_archived_3 rfl rfl ?_
    refine X_iload_n (pc' := 5) dL_archived_4 rfl rfl ?_
    refine Y_callH [.int (iN v1), .int (iN v2)] (pc' := 8) dL_archived_5 rfl VL_81 (by decide) (zlN hN (by decide)) (congrArg Prod.fst (sh0 ln)) rfl rfl rfl (cs rfl) (cs rfl) rfl (CX5_archived hN hz rv1 rv2 e) (c7 := 0) (s7 := 0) rfl rfl (fun f => ?_)
    refine X_lI_i2l (pc' := 9) dL_archived_8 rfl f ?_
    refine Y_last (pc' := 10) dL_archived_9 rfl (zlN hN (by decide)) (sh159 ln) (by decide) ⟨by decide, by decide⟩ ?_
    refine X_goto dL_archived_10 (tgt := 21) rfl ?_
    refine X_iconst (pc' := 22) dL_archived_21 rfl ?_
    exact X_iret dL_archived_22 rfl ⟨⟨h4 (n := 0) rfl, okz_up hz f⟩, rfl, rfl⟩
  · by_cases c0 : E = 0
    · have h := if_t c0 h
      cases h
      subst c0
      refine X_to (M := [some (.ref 0), some (.int (iN v1)), some (.int (iN v2)), some (.ref 159), none]) (su := []) rfl rfl ?_
      refine X_aload_n (pc' := 1) dL_archived_0 rfl rfl ?_
      refine X_iconst (pc' := 2) dL_archived_1 rfl ?_
      refine X_aload_n (pc' := 3) dL_archived_2 rfl rfl ?_
      refine X_iload_n (pc' := 4) dL_archived_3 rfl rfl ?_
      refine X_iload_n (pc' := 5) dL_archived_4 rfl rfl ?_
      refine Y_callHx (i := 4) (to := 15) [.int (iN v1), .int (iN v2)] (pc' := 8) dL_archived_5 rfl VL_81 (by decide) (zlN hN (by decide)) (congrArg Prod.fst (sh0 ln)) rfl rfl rfl (cs rfl) (cs rfl) rfl (CX5_archived hN hz rv1 rv2 e) ⟨[], ⟨0, 10, 13, 29⟩, [⟨0, 10, 17, 19⟩], rfl, (fun _ h => nomatch h), by decide, by decide, ⟨"java/lang/IndexOutOfBoundsException", tq517, tq554⟩, by decide, Or.inr ⟨dL_archived_13, rfl⟩⟩ (Or.inr rfl) (fun f => ?_)
      refine X_iconst (pc' := 16) dL_archived_15 rfl ?_
      exact X_iret dL_archived_16 rfl ⟨⟨h4 (n := 1) rfl, hz⟩, rfl, rfl⟩
    have h := if_f c0 h
    by_cases c1 : E = 1
    · have h := if_t c1 h
      cases h
      subst c1
      refine X_to (M := [some (.ref 0), some (.int (iN v1)), some (.int (iN v2)), some (.ref 159), none]) (su := []) rfl rfl ?_
      refine X_aload_n (pc' := 1) dL_archived_0 rfl rfl ?_
      refine X_iconst (pc' := 2) dL_archived_1 rfl ?_
      refine X_aload_n (pc' := 3) dL_archived_2 rfl rfl ?_
      refine X_iload_n (pc' := 4) dL_archived_3 rfl rfl ?_
      refine X_iload_n (pc' := 5) dL_archived_4 rfl rfl ?_
      refine Y_callHx (i := 4) (to := 19) [.int (iN v1), .int (iN v2)] (pc' := 8) dL_archived_5 rfl VL_81 (by decide) (zlN hN (by decide)) (congrArg Prod.fst (sh0 ln)) rfl rfl rfl (cs rfl) (cs rfl) rfl (CX5_archived hN hz rv1 rv2 e) ⟨[⟨0, 10, 13, 29⟩], ⟨0, 10, 17, 19⟩, [], rfl, (List.forall_mem_cons.mpr ⟨Or.inr ⟨by decide, "java/lang/IndexOutOfBoundsException", tq517, List.mem_of_getElem? (i := 32) rfl⟩, (fun _ h => nomatch h)⟩), by decide, by decide, ⟨"java/lang/IllegalArgumentException", tq477, tq487⟩, by decide, Or.inr ⟨dL_archived_17, rfl⟩⟩ (Or.inr rfl) (fun f => ?_)
      refine X_iconst (pc' := 20) dL_archived_19 rfl ?_
      exact X_iret dL_archived_20 rfl ⟨⟨h4 (n := 2) rfl, hz⟩, rfl, rfl⟩
    have h := if_f c1 h
    cases h
def fL_member (v1 : Int) (v2 : Int) (z : ZZ) : Option (Int × ZZ) := Option.bind (fX5_member v1 v2 z) fun q => match q with | .inl r => some (0, zup z 159 0 r) | .inr E => (if E = 0 then some (1, z) else (if E = 1 then some (2, z) else none))
set_option maxRecDepth 100000 in
theorem CL_member {ln N : Nat} {z : ZZ} {v1 : Int} {v2 : Int} (hN : 161 ≤ N ∧ N < 999999) (hz : okz z) (rv1 : inR v1) (rv2 : inR v2) {p : Int × ZZ} (h : fL_member v1 v2 z = some p) : X mL_member 0 (xEnt [.ref 0, .int (iN v1), .int (iN v2), .ref 159] (xL mL_member)) [] (zmk ln N z) (cc_h p) (6 * cc_h p) (Qd (fa_h p) (rs_h p) (st_h ln N p)) := by
  unfold fL_member at h
  obtain ⟨r | E, e, h⟩ := bs h
  · cases h
    refine X_to (M := [some (.ref 0), some (.int (iN v1)), some (.int (iN v2)), some (.ref 159), none]) (su := []) rfl rfl ?_
    refine X_aload_n (pc' := 1) dL_member_0 rfl rfl ?_
    refine X_iconst (pc' := 2) dL_member_1 rfl ?_
    refine X_aload_n (pc' := 3) dL_member_2 rfl rfl ?_
    refine X_iload_n (pc' := 4) dL_member_3 rfl rfl ?_
    refine X_iload_n (pc' := 5) dL_member_4 rfl rfl ?_
    refine Y_callH [.int (iN v1), .int (iN v2)] (pc' := 8) dL_member_5 rfl VL_84 (by decide) (zlN hN (by decide)) (congrArg Prod.fst (sh0 ln)) rfl rfl rfl (cs rfl) (cs rfl) rfl (CX5_member hN hz rv1 rv2 e) (c7 := 0) (s7 := 0) rfl rfl (fun f => ?_)
    refine X_lI_i2l (pc' := 9) dL_member_8 rfl f ?_
    refine Y_last (pc' := 10) dL_member_9 rfl (zlN hN (by decide)) (sh159 ln) (by decide) ⟨by decide, by decide⟩ ?_
    refine X_goto dL_member_10 (tgt := 21) rfl ?_
    refine X_iconst (pc' := 22) dL_member_21 rfl ?_
    exact X_iret dL_member_22 rfl ⟨⟨h4 (n := 0) rfl, okz_up hz f⟩, rfl, rfl⟩
  · by_cases c0 : E = 0
    · have h := if_t c0 h
      cases h
      subst c0
      refine X_to (M := [some (.ref 0), some (.int (iN v1)), some (.int (iN v2)), some (.ref 159), none]) (su := []) rfl rfl ?_
      refine X_aload_n (pc' := 1) dL_member_0 rfl rfl ?_
      refine X_iconst (pc' := 2) dL_member_1 rfl ?_
      refine X_aload_n (pc' := 3) dL_member_2 rfl rfl ?_
      refine X_iload_n (pc' := 4) dL_member_3 rfl rfl ?_
      refine X_iload_n (pc' := 5) dL_member_4 rfl rfl ?_
      refine Y_callHx (i := 4) (to := 15) [.int (iN v1), .int (iN v2)] (pc' := 8) dL_member_5 rfl VL_84 (by decide) (zlN hN (by decide)) (congrArg Prod.fst (sh0 ln)) rfl rfl rfl (cs rfl) (cs rfl) rfl (CX5_member hN hz rv1 rv2 e) ⟨[], ⟨0, 10, 13, 29⟩, [⟨0, 10, 17, 19⟩], rfl, (fun _ h => nomatch h), by decide, by decide, ⟨"java/lang/IndexOutOfBoundsException", tq517, tq554⟩, by decide, Or.inr ⟨dL_member_13, rfl⟩⟩ (Or.inr rfl) (fun f => ?_)
      refine X_iconst (pc' := 16) dL_member_15 rfl ?_
      exact X_iret dL_member_16 rfl ⟨⟨h4 (n := 1) rfl, hz⟩, rfl, rfl⟩
    have h := if_f c0 h
    by_cases c1 : E = 1
    · have h := if_t c1 h
      cases h
      subst c1
      refine X_to (M := [some (.ref 0), some (.int (iN v1)), some (.int (iN v2)), some (.ref 159), none]) (su := []) rfl rfl ?_
      refine X_aload_n (pc' := 1) dL_member_0 rfl rfl ?_
      refine X_iconst (pc' := 2) dL_member_1 rfl ?_
      refine X_aload_n (pc' := 3) dL_member_2 rfl rfl ?_
      refine X_iload_n (pc' := 4) dL_member_3 rfl rfl ?_
      refine X_iload_n (pc' := 5) dL_member_4 rfl rfl ?_
      refine Y_callHx (i := 4) (to := 19) [.int (iN v1), .int (iN v2)] (pc' := 8) dL_member_5 rfl VL_84 (by decide) (zlN hN (by decide)) (congrArg Prod.fst (sh0 ln)) rfl rfl rfl (cs rfl) (cs rfl) rfl (CX5_member hN hz rv1 rv2 e) ⟨[⟨0, 10, 13, 29⟩], ⟨0, 10, 17, 19⟩, [], rfl, (List.forall_mem_cons.mpr ⟨Or.inr ⟨by decide, "java/lang/IndexOutOfBoundsException", tq517, List.mem_of_getElem? (i := 32) rfl⟩, (fun _ h => nomatch h)⟩), by decide, by decide, ⟨"java/lang/IllegalArgumentException", tq477, tq487⟩, by decide, Or.inr ⟨dL_member_17, rfl⟩⟩ (Or.inr rfl) (fun f => ?_)
      refine X_iconst (pc' := 20) dL_member_19 rfl ?_
      exact X_iret dL_member_20 rfl ⟨⟨h4 (n := 2) rfl, hz⟩, rfl, rfl⟩
    have h := if_f c1 h
    cases h
def fL_harness (v1 : Int) (v2 : Int) (z : ZZ) : Option (Int × ZZ) := Option.bind (fX5_harness v1 v2 z) fun q => match q with | .inl r => some (0, zup z 159 0 r) | .inr E => (if E = 0 then some (1, z) else (if E = 1 then some (2, z) else none))
set_option maxRecDepth 100000 in
theorem CL_harness {ln N : Nat} {z : ZZ} {v1 : Int} {v2 : Int} (hN : 161 ≤ N ∧ N < 999999) (hz : okz z) (rv1 : inR v1) (rv2 : inR v2) {p : Int × ZZ} (h : fL_harness v1 v2 z = some p) : X mL_harness 0 (xEnt [.ref 0, .int (iN v1), .int (iN v2), .ref 159] (xL mL_harness)) [] (zmk ln N z) (cc_h p) (6 * cc_h p) (Qd (fa_h p) (rs_h p) (st_h ln N p)) := by
  unfold fL_harness at h
  obtain ⟨r | E, e, h⟩ := bs h
  · cases h
    refine X_to (M := [some (.ref 0), some (.int (iN v1)), some (.int (iN v2)), some (.ref 159), none]) (su := []) rfl rfl ?_
    refine X_aload_n (pc' := 1) dL_harness_0 rfl rfl ?_
    refine X_iconst (pc' := 2) dL_harness_1 rfl ?_
    refine X_aload_n (pc' := 3) dL_harness_2 rfl rfl ?_
    refine X_iload_n (pc' := 4) dL_harness_3 rfl rfl ?_
    refine X_iload_n (pc' := 5) dL_harness_4 rfl rfl ?_
    refine Y_callH [.int (iN v1), .int (iN v2)] (pc' := 8) dL_harness_5 rfl VL_87 (by decide) (zlN hN (by decide)) (congrArg Prod.fst (sh0 ln)) rfl rfl rfl (cs rfl) (cs rfl) rfl (CX5_harness hN hz rv1 rv2 e) (c7 := 0) (s7 := 0) rfl rfl (fun f => ?_)
    refine X_lI_i2l (pc' := 9) dL_harness_8 rfl f ?_
    refine Y_last (pc' := 10) dL_harness_9 rfl (zlN hN (by decide)) (sh159 ln) (by decide) ⟨by decide, by decide⟩ ?_
    refine X_goto dL_harness_10 (tgt := 21) rfl ?_
    refine X_iconst (pc' := 22) dL_harness_21 rfl ?_
    exact X_iret dL_harness_22 rfl ⟨⟨h4 (n := 0) rfl, okz_up hz f⟩, rfl, rfl⟩
  · by_cases c0 : E = 0
    · have h := if_t c0 h
      cases h
      subst c0
      refine X_to (M := [some (.ref 0), some (.int (iN v1)), some (.int (iN v2)), some (.ref 159), none]) (su := []) rfl rfl ?_
      refine X_aload_n (pc' := 1) dL_harness_0 rfl rfl ?_
      refine X_iconst (pc' := 2) dL_harness_1 rfl ?_
      refine X_aload_n (pc' := 3) dL_harness_2 rfl rfl ?_
      refine X_iload_n (pc' := 4) dL_harness_3 rfl rfl ?_
      refine X_iload_n (pc' := 5) dL_harness_4 rfl rfl ?_
      refine Y_callHx (i := 4) (to := 15) [.int (iN v1), .int (iN v2)] (pc' := 8) dL_harness_5 rfl VL_87 (by decide) (zlN hN (by decide)) (congrArg Prod.fst (sh0 ln)) rfl rfl rfl (cs rfl) (cs rfl) rfl (CX5_harness hN hz rv1 rv2 e) ⟨[], ⟨0, 10, 13, 29⟩, [⟨0, 10, 17, 19⟩], rfl, (fun _ h => nomatch h), by decide, by decide, ⟨"java/lang/IndexOutOfBoundsException", tq517, tq554⟩, by decide, Or.inr ⟨dL_harness_13, rfl⟩⟩ (Or.inr rfl) (fun f => ?_)
      refine X_iconst (pc' := 16) dL_harness_15 rfl ?_
      exact X_iret dL_harness_16 rfl ⟨⟨h4 (n := 1) rfl, hz⟩, rfl, rfl⟩
    have h := if_f c0 h
    by_cases c1 : E = 1
    · have h := if_t c1 h
      cases h
      subst c1
      refine X_to (M := [some (.ref 0), some (.int (iN v1)), some (.int (iN v2)), some (.ref 159), none]) (su := []) rfl rfl ?_
      refine X_aload_n (pc' := 1) dL_harness_0 rfl rfl ?_
      refine X_iconst (pc' := 2) dL_harness_1 rfl ?_
      refine X_aload_n (pc' := 3) dL_harness_2 rfl rfl ?_
      refine X_iload_n (pc' := 4) dL_harness_3 rfl rfl ?_
      refine X_iload_n (pc' := 5) dL_harness_4 rfl rfl ?_
      refine Y_callHx (i := 4) (to := 19) [.int (iN v1), .int (iN v2)] (pc' := 8) dL_harness_5 rfl VL_87 (by decide) (zlN hN (by decide)) (congrArg Prod.fst (sh0 ln)) rfl rfl rfl (cs rfl) (cs rfl) rfl (CX5_harness hN hz rv1 rv2 e) ⟨[⟨0, 10, 13, 29⟩], ⟨0, 10, 17, 19⟩, [], rfl, (List.forall_mem_cons.mpr ⟨Or.inr ⟨by decide, "java/lang/IndexOutOfBoundsException", tq517, List.mem_of_getElem? (i := 32) rfl⟩, (fun _ h => nomatch h)⟩), by decide, by decide, ⟨"java/lang/IllegalArgumentException", tq477, tq487⟩, by decide, Or.inr ⟨dL_harness_17, rfl⟩⟩ (Or.inr rfl) (fun f => ?_)
      refine X_iconst (pc' := 20) dL_harness_19 rfl ?_
      exact X_iret dL_harness_20 rfl ⟨⟨h4 (n := 2) rfl, hz⟩, rfl, rfl⟩
    have h := if_f c1 h
    cases h
def fL_course (v1 : Int) (v2 : Int) (z : ZZ) : Option (Int × ZZ) := Option.bind (fX5_course v1 v2 z) fun q => match q with | .inl r => some (0, zup z 159 0 r) | .inr E => (if E = 0 then some (1, z) else (if E = 1 then some (2, z) else none))
set_option maxRecDepth 100000 in
theorem CL_course {ln N : Nat} {z : ZZ} {v1 : Int} {v2 : Int} (hN : 161 ≤ N ∧ N < 999999) (hz : okz z) (rv1 : inR v1) (rv2 : inR v2) {p : Int × ZZ} (h : fL_course v1 v2 z = some p) : X mL_course 0 (xEnt [.ref 0, .int (iN v1), .int (iN v2), .ref 159] (xL mL_course)) [] (zmk ln N z) (cc_h p) (6 * cc_h p) (Qd (fa_h p) (rs_h p) (st_h ln N p)) := by
  unfold fL_course at h
  obtain ⟨r | E, e, h⟩ := bs h
  · cases h
    refine X_to (M := [some (.ref 0), some (.int (iN v1)), some (.int (iN v2)), some (.ref 159), none]) (su := []) rfl rfl ?_
    refine X_aload_n (pc' := 1) dL_course_0 rfl rfl ?_
    refine X_iconst (pc' := 2) dL_course_1 rfl ?_
    refine X_aload_n (pc' := 3) dL_course_2 rfl rfl ?_
    refine X_iload_n (pc' := 4) dL_course_3 rfl rfl ?_
    refine X_iload_n (pc' := 5) dL_course_4 rfl rfl ?_
    refine Y_callH [.int (iN v1), .int (iN v2)] (pc' := 8) dL_course_5 rfl VL_90 (by decide) (zlN hN (by decide)) (congrArg Prod.fst (sh0 ln)) rfl rfl rfl (cs rfl) (cs rfl) rfl (CX5_course hN hz rv1 rv2 e) (c7 := 0) (s7 := 0) rfl rfl (fun f => ?_)
    refine X_lI_i2l (pc' := 9) dL_course_8 rfl f ?_
    refine Y_last (pc' := 10) dL_course_9 rfl (zlN hN (by decide)) (sh159 ln) (by decide) ⟨by decide, by decide⟩ ?_
    refine X_goto dL_course_10 (tgt := 21) rfl ?_
    refine X_iconst (pc' := 22) dL_course_21 rfl ?_
    exact X_iret dL_course_22 rfl ⟨⟨h4 (n := 0) rfl, okz_up hz f⟩, rfl, rfl⟩
  · by_cases c0 : E = 0
    · have h := if_t c0 h
      cases h
      subst c0
      refine X_to (M := [some (.ref 0), some (.int (iN v1)), some (.int (iN v2)), some (.ref 159), none]) (su := []) rfl rfl ?_
      refine X_aload_n (pc' := 1) dL_course_0 rfl rfl ?_
      refine X_iconst (pc' := 2) dL_course_1 rfl ?_
      refine X_aload_n (pc' := 3) dL_course_2 rfl rfl ?_
      refine X_iload_n (pc' := 4) dL_course_3 rfl rfl ?_
      refine X_iload_n (pc' := 5) dL_course_4 rfl rfl ?_
      refine Y_callHx (i := 4) (to := 15) [.int (iN v1), .int (iN v2)] (pc' := 8) dL_course_5 rfl VL_90 (by decide) (zlN hN (by decide)) (congrArg Prod.fst (sh0 ln)) rfl rfl rfl (cs rfl) (cs rfl) rfl (CX5_course hN hz rv1 rv2 e) ⟨[], ⟨0, 10, 13, 29⟩, [⟨0, 10, 17, 19⟩], rfl, (fun _ h => nomatch h), by decide, by decide, ⟨"java/lang/IndexOutOfBoundsException", tq517, tq554⟩, by decide, Or.inr ⟨dL_course_13, rfl⟩⟩ (Or.inr rfl) (fun f => ?_)
      refine X_iconst (pc' := 16) dL_course_15 rfl ?_
      exact X_iret dL_course_16 rfl ⟨⟨h4 (n := 1) rfl, hz⟩, rfl, rfl⟩
    have h := if_f c0 h
    by_cases c1 : E = 1
    · have h := if_t c1 h
      cases h
      subst c1
      refine X_to (M := [some (.ref 0), some (.int (iN v1)), some (.int (iN v2)), some (.ref 159), none]) (su := []) rfl rfl ?_
      refine X_aload_n (pc' := 1) dL_course_0 rfl rfl ?_
      refine X_iconst (pc' := 2) dL_course_1 rfl ?_
      refine X_aload_n (pc' := 3) dL_course_2 rfl rfl ?_
      refine X_iload_n (pc' := 4) dL_course_3 rfl rfl ?_
      refine X_iload_n (pc' := 5) dL_course_4 rfl rfl ?_
      refine Y_callHx (i := 4) (to := 19) [.int (iN v1), .int (iN v2)] (pc' := 8) dL_course_5 rfl VL_90 (by decide) (zlN hN (by decide)) (congrArg Prod.fst (sh0 ln)) rfl rfl rfl (cs rfl) (cs rfl) rfl (CX5_course hN hz rv1 rv2 e) ⟨[⟨0, 10, 13, 29⟩], ⟨0, 10, 17, 19⟩, [], rfl, (List.forall_mem_cons.mpr ⟨Or.inr ⟨by decide, "java/lang/IndexOutOfBoundsException", tq517, List.mem_of_getElem? (i := 32) rfl⟩, (fun _ h => nomatch h)⟩), by decide, by decide, ⟨"java/lang/IllegalArgumentException", tq477, tq487⟩, by decide, Or.inr ⟨dL_course_17, rfl⟩⟩ (Or.inr rfl) (fun f => ?_)
      refine X_iconst (pc' := 20) dL_course_19 rfl ?_
      exact X_iret dL_course_20 rfl ⟨⟨h4 (n := 2) rfl, hz⟩, rfl, rfl⟩
    have h := if_f c1 h
    cases h
def fL_bill (v1 : Int) (v2 : Int) (v3 : Int) (z : ZZ) : Option (Int × ZZ) := Option.bind (fX5_bill v1 v2 v3 z) fun q => match q with | .inl r => some (0, zup z 159 0 r) | .inr E => (if E = 0 then some (1, z) else (if E = 4 then some (2, z) else none))
set_option maxRecDepth 100000 in
theorem CL_bill {ln N : Nat} {z : ZZ} {v1 : Int} {v2 : Int} {v3 : Int} (hN : 161 ≤ N ∧ N < 999999) (hz : okz z) (rv1 : inR v1) (rv2 : inR v2) (rv3 : inR v3) {p : Int × ZZ} (h : fL_bill v1 v2 v3 z = some p) : X mL_bill 0 (xEnt [.ref 0, .int (iN v1), .int (iN v2), .int (iN v3), .ref 159] (xL mL_bill)) [] (zmk ln N z) (cc_h p) (6 * cc_h p) (Qd (fa_h p) (rs_h p) (st_h ln N p)) := by
  unfold fL_bill at h
  obtain ⟨r | E, e, h⟩ := bs h
  · cases h
    refine X_to (M := [some (.ref 0), some (.int (iN v1)), some (.int (iN v2)), some (.int (iN v3)), some (.ref 159), none]) (su := []) rfl rfl ?_
    refine X_aload (pc' := 2) dL_bill_0 rfl rfl ?_
    refine X_iconst (pc' := 3) dL_bill_2 rfl ?_
    refine X_aload_n (pc' := 4) dL_bill_3 rfl rfl ?_
    refine X_iload_n (pc' := 5) dL_bill_4 rfl rfl ?_
    refine X_iload_n (pc' := 6) dL_bill_5 rfl rfl ?_
    refine X_iload_n (pc' := 7) dL_bill_6 rfl rfl ?_
    refine Y_callH [.int (iN v1), .int (iN v2), .int (iN v3)] (pc' := 10) dL_bill_7 rfl VL_93 (by decide) (zlN hN (by decide)) (congrArg Prod.fst (sh0 ln)) rfl rfl rfl (cs rfl) (cs rfl) rfl (CX5_bill hN hz rv1 rv2 rv3 e) (c7 := 0) (s7 := 0) rfl rfl (fun f => ?_)
    refine X_lI_i2l (pc' := 11) dL_bill_10 rfl f ?_
    refine Y_last (pc' := 12) dL_bill_11 rfl (zlN hN (by decide)) (sh159 ln) (by decide) ⟨by decide, by decide⟩ ?_
    refine X_goto dL_bill_12 (tgt := 23) rfl ?_
    refine X_iconst (pc' := 24) dL_bill_23 rfl ?_
    exact X_iret dL_bill_24 rfl ⟨⟨h4 (n := 0) rfl, okz_up hz f⟩, rfl, rfl⟩
  · by_cases c0 : E = 0
    · have h := if_t c0 h
      cases h
      subst c0
      refine X_to (M := [some (.ref 0), some (.int (iN v1)), some (.int (iN v2)), some (.int (iN v3)), some (.ref 159), none]) (su := []) rfl rfl ?_
      refine X_aload (pc' := 2) dL_bill_0 rfl rfl ?_
      refine X_iconst (pc' := 3) dL_bill_2 rfl ?_
      refine X_aload_n (pc' := 4) dL_bill_3 rfl rfl ?_
      refine X_iload_n (pc' := 5) dL_bill_4 rfl rfl ?_
      refine X_iload_n (pc' := 6) dL_bill_5 rfl rfl ?_
      refine X_iload_n (pc' := 7) dL_bill_6 rfl rfl ?_
      refine Y_callHx (i := 5) (to := 17) [.int (iN v1), .int (iN v2), .int (iN v3)] (pc' := 10) dL_bill_7 rfl VL_93 (by decide) (zlN hN (by decide)) (congrArg Prod.fst (sh0 ln)) rfl rfl rfl (cs rfl) (cs rfl) rfl (CX5_bill hN hz rv1 rv2 rv3 e) ⟨[], ⟨0, 12, 15, 29⟩, [⟨0, 12, 19, 96⟩], rfl, (fun _ h => nomatch h), by decide, by decide, ⟨"java/lang/IndexOutOfBoundsException", tq517, tq554⟩, by decide, Or.inr ⟨dL_bill_15, rfl⟩⟩ (Or.inr rfl) (fun f => ?_)
      refine X_iconst (pc' := 18) dL_bill_17 rfl ?_
      exact X_iret dL_bill_18 rfl ⟨⟨h4 (n := 1) rfl, hz⟩, rfl, rfl⟩
    have h := if_f c0 h
    by_cases c1 : E = 4
    · have h := if_t c1 h
      cases h
      subst c1
      refine X_to (M := [some (.ref 0), some (.int (iN v1)), some (.int (iN v2)), some (.int (iN v3)), some (.ref 159), none]) (su := []) rfl rfl ?_
      refine X_aload (pc' := 2) dL_bill_0 rfl rfl ?_
      refine X_iconst (pc' := 3) dL_bill_2 rfl ?_
      refine X_aload_n (pc' := 4) dL_bill_3 rfl rfl ?_
      refine X_iload_n (pc' := 5) dL_bill_4 rfl rfl ?_
      refine X_iload_n (pc' := 6) dL_bill_5 rfl rfl ?_
      refine X_iload_n (pc' := 7) dL_bill_6 rfl rfl ?_
      refine Y_callHx (i := 5) (to := 21) [.int (iN v1), .int (iN v2), .int (iN v3)] (pc' := 10) dL_bill_7 rfl VL_93 (by decide) (zlN hN (by decide)) (congrArg Prod.fst (sh0 ln)) rfl rfl rfl (cs rfl) (cs rfl) rfl (CX5_bill hN hz rv1 rv2 rv3 e) ⟨[⟨0, 12, 15, 29⟩], ⟨0, 12, 19, 96⟩, [], rfl, (List.forall_mem_cons.mpr ⟨Or.inr ⟨by decide, "java/lang/IndexOutOfBoundsException", tq517, List.mem_of_getElem? (i := 33) rfl⟩, (fun _ h => nomatch h)⟩), by decide, by decide, ⟨"java/lang/ArithmeticException", tq890, tq902⟩, by decide, Or.inr ⟨dL_bill_19, rfl⟩⟩ (Or.inr rfl) (fun f => ?_)
      refine X_iconst (pc' := 22) dL_bill_21 rfl ?_
      exact X_iret dL_bill_22 rfl ⟨⟨h4 (n := 2) rfl, hz⟩, rfl, rfl⟩
    have h := if_f c1 h
    cases h
def fL_grade (v1 : Int) (z : ZZ) : Option (Int × ZZ) := Option.bind (fX5_grade v1 z) fun q => match q with | (.inl r, z1) => some (0, zup z1 159 0 r) | (.inr E, z1) => (if E = 0 then some (1, z1) else none)
set_option maxRecDepth 100000 in
theorem CL_grade {ln N : Nat} {z : ZZ} {v1 : Int} (hN : 161 ≤ N ∧ N < 999999) (hz : okz z) (rv1 : inR v1) {p : Int × ZZ} (h : fL_grade v1 z = some p) : X mL_grade 0 (xEnt [.ref 0, .int (iN v1), .ref 159] (xL mL_grade)) [] (zmk ln N z) (cc_h p) (6 * cc_h p) (Qd (fa_h p) (rs_h p) (st_h ln N p)) := by
  unfold fL_grade at h
  obtain ⟨⟨r | E, z1⟩, e, h⟩ := bs h
  · cases h
    refine X_to (M := [some (.ref 0), some (.int (iN v1)), some (.ref 159), none]) (su := []) rfl rfl ?_
    refine X_aload_n (pc' := 1) dL_grade_0 rfl rfl ?_
    refine X_iconst (pc' := 2) dL_grade_1 rfl ?_
    refine X_aload_n (pc' := 3) dL_grade_2 rfl rfl ?_
    refine X_iload_n (pc' := 4) dL_grade_3 rfl rfl ?_
    refine Y_callH [.int (iN v1)] (pc' := 7) dL_grade_4 rfl VL_98 (by decide) (zlN hN (by decide)) (congrArg Prod.fst (sh0 ln)) rfl rfl rfl (cs rfl) (cs rfl) rfl (CX5_grade hN hz rv1 e) (c7 := 0) (s7 := 0) rfl rfl (fun f => ?_)
    refine X_lI_i2l (pc' := 8) dL_grade_7 rfl f.1 ?_
    refine Y_last (pc' := 9) dL_grade_8 rfl (zlN hN (by decide)) (sh159 ln) (by decide) ⟨by decide, by decide⟩ ?_
    refine X_goto dL_grade_9 (tgt := 15) rfl ?_
    refine X_iconst (pc' := 16) dL_grade_15 rfl ?_
    exact X_iret dL_grade_16 rfl ⟨⟨h4 (n := 0) rfl, okz_up f.2 f.1⟩, rfl, rfl⟩
  · by_cases c0 : E = 0
    · have h := if_t c0 h
      cases h
      subst c0
      refine X_to (M := [some (.ref 0), some (.int (iN v1)), some (.ref 159), none]) (su := []) rfl rfl ?_
      refine X_aload_n (pc' := 1) dL_grade_0 rfl rfl ?_
      refine X_iconst (pc' := 2) dL_grade_1 rfl ?_
      refine X_aload_n (pc' := 3) dL_grade_2 rfl rfl ?_
      refine X_iload_n (pc' := 4) dL_grade_3 rfl rfl ?_
      refine Y_callHx (i := 3) (to := 13) [.int (iN v1)] (pc' := 7) dL_grade_4 rfl VL_98 (by decide) (zlN hN (by decide)) (congrArg Prod.fst (sh0 ln)) rfl rfl rfl (cs rfl) (cs rfl) rfl (CX5_grade hN hz rv1 e) ⟨[], ⟨0, 9, 12, 29⟩, [], rfl, (fun _ h => nomatch h), by decide, by decide, ⟨"java/lang/IndexOutOfBoundsException", tq517, tq554⟩, by decide, Or.inl ⟨3, rfl, dL_grade_12, rfl⟩⟩ (Or.inr rfl) (fun f => ?_)
      refine X_iconst (pc' := 14) dL_grade_13 rfl ?_
      exact X_iret dL_grade_14 rfl ⟨⟨h4 (n := 1) rfl, f⟩, rfl, rfl⟩
    have h := if_f c0 h
    cases h
def fL_meanGrade (v1 : Int) (v2 : Int) (z : ZZ) : Option (Int × ZZ) := Option.bind (fX5_meanGrade v1 v2 z) fun q => match q with | (.inl r, z1) => some (0, zup z1 159 0 r) | (.inr E, z1) => (if E = 0 then some (1, z1) else none)
set_option maxRecDepth 100000 in
theorem CL_meanGrade {ln N : Nat} {z : ZZ} {v1 : Int} {v2 : Int} (hN : 161 ≤ N ∧ N < 999999) (hz : okz z) (rv1 : inR v1) (rv2 : inR v2) {p : Int × ZZ} (h : fL_meanGrade v1 v2 z = some p) : X mL_meanGrade 0 (xEnt [.ref 0, .int (iN v1), .int (iN v2), .ref 159] (xL mL_meanGrade)) [] (zmk ln N z) (cc_h p) (6 * cc_h p) (Qd (fa_h p) (rs_h p) (st_h ln N p)) := by
  unfold fL_meanGrade at h
  obtain ⟨⟨r | E, z1⟩, e, h⟩ := bs h
  · cases h
    refine X_to (M := [some (.ref 0), some (.int (iN v1)), some (.int (iN v2)), some (.ref 159), none]) (su := []) rfl rfl ?_
    refine X_aload_n (pc' := 1) dL_meanGrade_0 rfl rfl ?_
    refine X_iconst (pc' := 2) dL_meanGrade_1 rfl ?_
    refine X_aload_n (pc' := 3) dL_meanGrade_2 rfl rfl ?_
    refine X_iload_n (pc' := 4) dL_meanGrade_3 rfl rfl ?_
    refine X_iload_n (pc' := 5) dL_meanGrade_4 rfl rfl ?_
    refine Y_callH [.int (iN v1), .int (iN v2)] (pc' := 8) dL_meanGrade_5 rfl VL_101 (by decide) (zlN hN (by decide)) (congrArg Prod.fst (sh0 ln)) rfl rfl rfl (cs rfl) (cs rfl) rfl (CX5_meanGrade hN hz rv1 rv2 e) (c7 := 0) (s7 := 0) rfl rfl (fun f => ?_)
    refine X_lI_i2l (pc' := 9) dL_meanGrade_8 rfl f.1 ?_
    refine Y_last (pc' := 10) dL_meanGrade_9 rfl (zlN hN (by decide)) (sh159 ln) (by decide) ⟨by decide, by decide⟩ ?_
    refine X_goto dL_meanGrade_10 (tgt := 17) rfl ?_
    refine X_iconst (pc' := 18) dL_meanGrade_17 rfl ?_
    exact X_iret dL_meanGrade_18 rfl ⟨⟨h4 (n := 0) rfl, okz_up f.2 f.1⟩, rfl, rfl⟩
  · by_cases c0 : E = 0
    · have h := if_t c0 h
      cases h
      subst c0
      refine X_to (M := [some (.ref 0), some (.int (iN v1)), some (.int (iN v2)), some (.ref 159), none]) (su := []) rfl rfl ?_
      refine X_aload_n (pc' := 1) dL_meanGrade_0 rfl rfl ?_
      refine X_iconst (pc' := 2) dL_meanGrade_1 rfl ?_
      refine X_aload_n (pc' := 3) dL_meanGrade_2 rfl rfl ?_
      refine X_iload_n (pc' := 4) dL_meanGrade_3 rfl rfl ?_
      refine X_iload_n (pc' := 5) dL_meanGrade_4 rfl rfl ?_
      refine Y_callHx (i := 4) (to := 15) [.int (iN v1), .int (iN v2)] (pc' := 8) dL_meanGrade_5 rfl VL_101 (by decide) (zlN hN (by decide)) (congrArg Prod.fst (sh0 ln)) rfl rfl rfl (cs rfl) (cs rfl) rfl (CX5_meanGrade hN hz rv1 rv2 e) ⟨[], ⟨0, 10, 13, 29⟩, [], rfl, (fun _ h => nomatch h), by decide, by decide, ⟨"java/lang/IndexOutOfBoundsException", tq517, tq554⟩, by decide, Or.inr ⟨dL_meanGrade_13, rfl⟩⟩ (Or.inr rfl) (fun f => ?_)
      refine X_iconst (pc' := 16) dL_meanGrade_15 rfl ?_
      exact X_iret dL_meanGrade_16 rfl ⟨⟨h4 (n := 1) rfl, f⟩, rfl, rfl⟩
    have h := if_f c0 h
    cases h
def fL_voteOf (v1 : Int) (v2 : Int) (z : ZZ) : Option (Int × ZZ) := Option.bind (fX5_voteOf v1 v2 z) fun q => match q with | .inl r => some (0, zup z 159 0 r) | .inr E => (if E = 0 then some (1, z) else (if E = 3 then some (2, z) else none))
set_option maxRecDepth 100000 in
theorem CL_voteOf {ln N : Nat} {z : ZZ} {v1 : Int} {v2 : Int} (hN : 161 ≤ N ∧ N < 999999) (hz : okz z) (rv1 : inR v1) (rv2 : inR v2) {p : Int × ZZ} (h : fL_voteOf v1 v2 z = some p) : X mL_voteOf 0 (xEnt [.ref 0, .int (iN v1), .int (iN v2), .ref 159] (xL mL_voteOf)) [] (zmk ln N z) (cc_h p) (6 * cc_h p) (Qd (fa_h p) (rs_h p) (st_h ln N p)) := by
  unfold fL_voteOf at h
  obtain ⟨r | E, e, h⟩ := bs h
  · cases h
    refine X_to (M := [some (.ref 0), some (.int (iN v1)), some (.int (iN v2)), some (.ref 159), none]) (su := []) rfl rfl ?_
    refine X_aload_n (pc' := 1) dL_voteOf_0 rfl rfl ?_
    refine X_iconst (pc' := 2) dL_voteOf_1 rfl ?_
    refine X_aload_n (pc' := 3) dL_voteOf_2 rfl rfl ?_
    refine X_iload_n (pc' := 4) dL_voteOf_3 rfl rfl ?_
    refine X_iload_n (pc' := 5) dL_voteOf_4 rfl rfl ?_
    refine Y_callH [.int (iN v1), .int (iN v2)] (pc' := 8) dL_voteOf_5 rfl VL_104 (by decide) (zlN hN (by decide)) (congrArg Prod.fst (sh0 ln)) rfl rfl rfl (cs rfl) (cs rfl) rfl (CX5_voteOf hN hz rv1 rv2 e) (c7 := 0) (s7 := 0) rfl rfl (fun f => ?_)
    refine X_lI_i2l (pc' := 9) dL_voteOf_8 rfl f ?_
    refine Y_last (pc' := 10) dL_voteOf_9 rfl (zlN hN (by decide)) (sh159 ln) (by decide) ⟨by decide, by decide⟩ ?_
    refine X_goto dL_voteOf_10 (tgt := 21) rfl ?_
    refine X_iconst (pc' := 22) dL_voteOf_21 rfl ?_
    exact X_iret dL_voteOf_22 rfl ⟨⟨h4 (n := 0) rfl, okz_up hz f⟩, rfl, rfl⟩
  · by_cases c0 : E = 0
    · have h := if_t c0 h
      cases h
      subst c0
      refine X_to (M := [some (.ref 0), some (.int (iN v1)), some (.int (iN v2)), some (.ref 159), none]) (su := []) rfl rfl ?_
      refine X_aload_n (pc' := 1) dL_voteOf_0 rfl rfl ?_
      refine X_iconst (pc' := 2) dL_voteOf_1 rfl ?_
      refine X_aload_n (pc' := 3) dL_voteOf_2 rfl rfl ?_
      refine X_iload_n (pc' := 4) dL_voteOf_3 rfl rfl ?_
      refine X_iload_n (pc' := 5) dL_voteOf_4 rfl rfl ?_
      refine Y_callHx (i := 4) (to := 15) [.int (iN v1), .int (iN v2)] (pc' := 8) dL_voteOf_5 rfl VL_104 (by decide) (zlN hN (by decide)) (congrArg Prod.fst (sh0 ln)) rfl rfl rfl (cs rfl) (cs rfl) rfl (CX5_voteOf hN hz rv1 rv2 e) ⟨[], ⟨0, 10, 13, 29⟩, [⟨0, 10, 17, 107⟩], rfl, (fun _ h => nomatch h), by decide, by decide, ⟨"java/lang/IndexOutOfBoundsException", tq517, tq554⟩, by decide, Or.inr ⟨dL_voteOf_13, rfl⟩⟩ (Or.inr rfl) (fun f => ?_)
      refine X_iconst (pc' := 16) dL_voteOf_15 rfl ?_
      exact X_iret dL_voteOf_16 rfl ⟨⟨h4 (n := 1) rfl, hz⟩, rfl, rfl⟩
    have h := if_f c0 h
    by_cases c1 : E = 3
    · have h := if_t c1 h
      cases h
      subst c1
      refine X_to (M := [some (.ref 0), some (.int (iN v1)), some (.int (iN v2)), some (.ref 159), none]) (su := []) rfl rfl ?_
      refine X_aload_n (pc' := 1) dL_voteOf_0 rfl rfl ?_
      refine X_iconst (pc' := 2) dL_voteOf_1 rfl ?_
      refine X_aload_n (pc' := 3) dL_voteOf_2 rfl rfl ?_
      refine X_iload_n (pc' := 4) dL_voteOf_3 rfl rfl ?_
      refine X_iload_n (pc' := 5) dL_voteOf_4 rfl rfl ?_
      refine Y_callHx (i := 4) (to := 19) [.int (iN v1), .int (iN v2)] (pc' := 8) dL_voteOf_5 rfl VL_104 (by decide) (zlN hN (by decide)) (congrArg Prod.fst (sh0 ln)) rfl rfl rfl (cs rfl) (cs rfl) rfl (CX5_voteOf hN hz rv1 rv2 e) ⟨[⟨0, 10, 13, 29⟩], ⟨0, 10, 17, 107⟩, [], rfl, (List.forall_mem_cons.mpr ⟨Or.inr ⟨by decide, "java/lang/IndexOutOfBoundsException", tq517, List.mem_of_getElem? (i := 34) rfl⟩, (fun _ h => nomatch h)⟩), by decide, by decide, ⟨"java/util/NoSuchElementException", tq935, tq942⟩, by decide, Or.inr ⟨dL_voteOf_17, rfl⟩⟩ (Or.inr rfl) (fun f => ?_)
      refine X_iconst (pc' := 20) dL_voteOf_19 rfl ?_
      exact X_iret dL_voteOf_20 rfl ⟨⟨h4 (n := 2) rfl, hz⟩, rfl, rfl⟩
    have h := if_f c1 h
    cases h
def fL_gradeWith (v1 : Int) (v2 : Int) (v3 : Int) (z : ZZ) : Option (Int × ZZ) := Option.bind (fX5_gradeWith v1 v2 v3 z) fun q => match q with | (.inl r, z1) => some (0, zup z1 159 0 r) | (.inr E, z1) => (if E = 0 then some (1, z1) else (if E = 1 then some (2, z1) else none))
set_option maxRecDepth 100000 in
theorem CL_gradeWith {ln N : Nat} {z : ZZ} {v1 : Int} {v2 : Int} {v3 : Int} (hN : 161 ≤ N ∧ N < 999999) (hz : okz z) (rv1 : inR v1) (rv2 : inR v2) (rv3 : inR v3) {p : Int × ZZ} (h : fL_gradeWith v1 v2 v3 z = some p) : X mL_gradeWith 0 (xEnt [.ref 0, .int (iN v1), .int (iN v2), .int (iN v3), .ref 159] (xL mL_gradeWith)) [] (zmk ln N z) (cc_h p) (6 * cc_h p) (Qd (fa_h p) (rs_h p) (st_h ln N p)) := by
  unfold fL_gradeWith at h
  obtain ⟨⟨r | E, z1⟩, e, h⟩ := bs h
  · cases h
    refine X_to (M := [some (.ref 0), some (.int (iN v1)), some (.int (iN v2)), some (.int (iN v3)), some (.ref 159), none]) (su := []) rfl rfl ?_
    refine X_aload (pc' := 2) dL_gradeWith_0 rfl rfl ?_
    refine X_iconst (pc' := 3) dL_gradeWith_2 rfl ?_
    refine X_aload_n (pc' := 4) dL_gradeWith_3 rfl rfl ?_
    refine X_iload_n (pc' := 5) dL_gradeWith_4 rfl rfl ?_
    refine X_iload_n (pc' := 6) dL_gradeWith_5 rfl rfl ?_
    refine X_iload_n (pc' := 7) dL_gradeWith_6 rfl rfl ?_
    refine Y_callH [.int (iN v1), .int (iN v2), .int (iN v3)] (pc' := 10) dL_gradeWith_7 rfl VL_109 (by decide) (zlN hN (by decide)) (congrArg Prod.fst (sh0 ln)) rfl rfl rfl (cs rfl) (cs rfl) rfl (CX5_gradeWith hN hz rv1 rv2 rv3 e) (c7 := 0) (s7 := 0) rfl rfl (fun f => ?_)
    refine X_lI_i2l (pc' := 11) dL_gradeWith_10 rfl f.1 ?_
    refine Y_last (pc' := 12) dL_gradeWith_11 rfl (zlN hN (by decide)) (sh159 ln) (by decide) ⟨by decide, by decide⟩ ?_
    refine X_goto dL_gradeWith_12 (tgt := 23) rfl ?_
    refine X_iconst (pc' := 24) dL_gradeWith_23 rfl ?_
    exact X_iret dL_gradeWith_24 rfl ⟨⟨h4 (n := 0) rfl, okz_up f.2 f.1⟩, rfl, rfl⟩
  · by_cases c0 : E = 0
    · have h := if_t c0 h
      cases h
      subst c0
      refine X_to (M := [some (.ref 0), some (.int (iN v1)), some (.int (iN v2)), some (.int (iN v3)), some (.ref 159), none]) (su := []) rfl rfl ?_
      refine X_aload (pc' := 2) dL_gradeWith_0 rfl rfl ?_
      refine X_iconst (pc' := 3) dL_gradeWith_2 rfl ?_
      refine X_aload_n (pc' := 4) dL_gradeWith_3 rfl rfl ?_
      refine X_iload_n (pc' := 5) dL_gradeWith_4 rfl rfl ?_
      refine X_iload_n (pc' := 6) dL_gradeWith_5 rfl rfl ?_
      refine X_iload_n (pc' := 7) dL_gradeWith_6 rfl rfl ?_
      refine Y_callHx (i := 5) (to := 17) [.int (iN v1), .int (iN v2), .int (iN v3)] (pc' := 10) dL_gradeWith_7 rfl VL_109 (by decide) (zlN hN (by decide)) (congrArg Prod.fst (sh0 ln)) rfl rfl rfl (cs rfl) (cs rfl) rfl (CX5_gradeWith hN hz rv1 rv2 rv3 e) ⟨[], ⟨0, 12, 15, 29⟩, [⟨0, 12, 19, 19⟩], rfl, (fun _ h => nomatch h), by decide, by decide, ⟨"java/lang/IndexOutOfBoundsException", tq517, tq554⟩, by decide, Or.inr ⟨dL_gradeWith_15, rfl⟩⟩ (Or.inr rfl) (fun f => ?_)
      refine X_iconst (pc' := 18) dL_gradeWith_17 rfl ?_
      exact X_iret dL_gradeWith_18 rfl ⟨⟨h4 (n := 1) rfl, f⟩, rfl, rfl⟩
    have h := if_f c0 h
    by_cases c1 : E = 1
    · have h := if_t c1 h
      cases h
      subst c1
      refine X_to (M := [some (.ref 0), some (.int (iN v1)), some (.int (iN v2)), some (.int (iN v3)), some (.ref 159), none]) (su := []) rfl rfl ?_
      refine X_aload (pc' := 2) dL_gradeWith_0 rfl rfl ?_
      refine X_iconst (pc' := 3) dL_gradeWith_2 rfl ?_
      refine X_aload_n (pc' := 4) dL_gradeWith_3 rfl rfl ?_
      refine X_iload_n (pc' := 5) dL_gradeWith_4 rfl rfl ?_
      refine X_iload_n (pc' := 6) dL_gradeWith_5 rfl rfl ?_
      refine X_iload_n (pc' := 7) dL_gradeWith_6 rfl rfl ?_
      refine Y_callHx (i := 5) (to := 21) [.int (iN v1), .int (iN v2), .int (iN v3)] (pc' := 10) dL_gradeWith_7 rfl VL_109 (by decide) (zlN hN (by decide)) (congrArg Prod.fst (sh0 ln)) rfl rfl rfl (cs rfl) (cs rfl) rfl (CX5_gradeWith hN hz rv1 rv2 rv3 e) ⟨[⟨0, 12, 15, 29⟩], ⟨0, 12, 19, 19⟩, [], rfl, (List.forall_mem_cons.mpr ⟨Or.inr ⟨by decide, "java/lang/IndexOutOfBoundsException", tq517, List.mem_of_getElem? (i := 32) rfl⟩, (fun _ h => nomatch h)⟩), by decide, by decide, ⟨"java/lang/IllegalArgumentException", tq477, tq487⟩, by decide, Or.inr ⟨dL_gradeWith_19, rfl⟩⟩ (Or.inr rfl) (fun f => ?_)
      refine X_iconst (pc' := 22) dL_gradeWith_21 rfl ?_
      exact X_iret dL_gradeWith_22 rfl ⟨⟨h4 (n := 2) rfl, f⟩, rfl, rfl⟩
    have h := if_f c1 h
    cases h
def fL_votesTo (v1 : Int) (v2 : Int) (z : ZZ) : Option (Int × ZZ) := Option.bind (fX5_votesTo v1 v2 z) fun q => match q with | (.inl r, z1) => some (0, zup z1 159 0 r) | (.inr E, z1) => (if E = 0 then some (1, z1) else (if E = 1 then some (2, z1) else (if E = 3 then some (3, z1) else none)))
set_option maxRecDepth 100000 in
theorem CL_votesTo {ln N : Nat} {z : ZZ} {v1 : Int} {v2 : Int} (hN : 161 ≤ N ∧ N < 999999) (hz : okz z) (rv1 : inR v1) (rv2 : inR v2) {p : Int × ZZ} (h : fL_votesTo v1 v2 z = some p) : X mL_votesTo 0 (xEnt [.ref 0, .int (iN v1), .int (iN v2), .ref 159] (xL mL_votesTo)) [] (zmk ln N z) (cc_h p) (6 * cc_h p) (Qd (fa_h p) (rs_h p) (st_h ln N p)) := by
  unfold fL_votesTo at h
  obtain ⟨⟨r | E, z1⟩, e, h⟩ := bs h
  · cases h
    refine X_to (M := [some (.ref 0), some (.int (iN v1)), some (.int (iN v2)), some (.ref 159), none]) (su := []) rfl rfl ?_
    refine X_aload_n (pc' := 1) dL_votesTo_0 rfl rfl ?_
    refine X_iconst (pc' := 2) dL_votesTo_1 rfl ?_
    refine X_aload_n (pc' := 3) dL_votesTo_2 rfl rfl ?_
    refine X_iload_n (pc' := 4) dL_votesTo_3 rfl rfl ?_
    refine X_iload_n (pc' := 5) dL_votesTo_4 rfl rfl ?_
    refine Y_callH [.int (iN v1), .int (iN v2)] (pc' := 8) dL_votesTo_5 rfl VL_112 (by decide) (zlN hN (by decide)) (congrArg Prod.fst (sh0 ln)) rfl rfl rfl (cs rfl) (cs rfl) rfl (CX5_votesTo hN hz rv1 rv2 e) (c7 := 0) (s7 := 0) rfl rfl (fun f => ?_)
    refine X_lI_i2l (pc' := 9) dL_votesTo_8 rfl f.1 ?_
    refine Y_last (pc' := 10) dL_votesTo_9 rfl (zlN hN (by decide)) (sh159 ln) (by decide) ⟨by decide, by decide⟩ ?_
    refine X_goto dL_votesTo_10 (tgt := 25) rfl ?_
    refine X_iconst (pc' := 26) dL_votesTo_25 rfl ?_
    exact X_iret dL_votesTo_26 rfl ⟨⟨h4 (n := 0) rfl, okz_up f.2 f.1⟩, rfl, rfl⟩
  · by_cases c0 : E = 0
    · have h := if_t c0 h
      cases h
      subst c0
      refine X_to (M := [some (.ref 0), some (.int (iN v1)), some (.int (iN v2)), some (.ref 159), none]) (su := []) rfl rfl ?_
      refine X_aload_n (pc' := 1) dL_votesTo_0 rfl rfl ?_
      refine X_iconst (pc' := 2) dL_votesTo_1 rfl ?_
      refine X_aload_n (pc' := 3) dL_votesTo_2 rfl rfl ?_
      refine X_iload_n (pc' := 4) dL_votesTo_3 rfl rfl ?_
      refine X_iload_n (pc' := 5) dL_votesTo_4 rfl rfl ?_
      refine Y_callHx (i := 4) (to := 15) [.int (iN v1), .int (iN v2)] (pc' := 8) dL_votesTo_5 rfl VL_112 (by decide) (zlN hN (by decide)) (congrArg Prod.fst (sh0 ln)) rfl rfl rfl (cs rfl) (cs rfl) rfl (CX5_votesTo hN hz rv1 rv2 e) ⟨[], ⟨0, 10, 13, 29⟩, [⟨0, 10, 17, 19⟩, ⟨0, 10, 21, 107⟩], rfl, (fun _ h => nomatch h), by decide, by decide, ⟨"java/lang/IndexOutOfBoundsException", tq517, tq554⟩, by decide, Or.inr ⟨dL_votesTo_13, rfl⟩⟩ (Or.inr rfl) (fun f => ?_)
      refine X_iconst (pc' := 16) dL_votesTo_15 rfl ?_
      exact X_iret dL_votesTo_16 rfl ⟨⟨h4 (n := 1) rfl, f⟩, rfl, rfl⟩
    have h := if_f c0 h
    by_cases c1 : E = 1
    · have h := if_t c1 h
      cases h
      subst c1
      refine X_to (M := [some (.ref 0), some (.int (iN v1)), some (.int (iN v2)), some (.ref 159), none]) (su := []) rfl rfl ?_
      refine X_aload_n (pc' := 1) dL_votesTo_0 rfl rfl ?_
      refine X_iconst (pc' := 2) dL_votesTo_1 rfl ?_
      refine X_aload_n (pc' := 3) dL_votesTo_2 rfl rfl ?_
      refine X_iload_n (pc' := 4) dL_votesTo_3 rfl rfl ?_
      refine X_iload_n (pc' := 5) dL_votesTo_4 rfl rfl ?_
      refine Y_callHx (i := 4) (to := 19) [.int (iN v1), .int (iN v2)] (pc' := 8) dL_votesTo_5 rfl VL_112 (by decide) (zlN hN (by decide)) (congrArg Prod.fst (sh0 ln)) rfl rfl rfl (cs rfl) (cs rfl) rfl (CX5_votesTo hN hz rv1 rv2 e) ⟨[⟨0, 10, 13, 29⟩], ⟨0, 10, 17, 19⟩, [⟨0, 10, 21, 107⟩], rfl, (List.forall_mem_cons.mpr ⟨Or.inr ⟨by decide, "java/lang/IndexOutOfBoundsException", tq517, List.mem_of_getElem? (i := 32) rfl⟩, (fun _ h => nomatch h)⟩), by decide, by decide, ⟨"java/lang/IllegalArgumentException", tq477, tq487⟩, by decide, Or.inr ⟨dL_votesTo_17, rfl⟩⟩ (Or.inr rfl) (fun f => ?_)
      refine X_iconst (pc' := 20) dL_votesTo_19 rfl ?_
      exact X_iret dL_votesTo_20 rfl ⟨⟨h4 (n := 2) rfl, f⟩, rfl, rfl⟩
    have h := if_f c1 h
    by_cases c2 : E = 3
    · have h := if_t c2 h
      cases h
      subst c2
      refine X_to (M := [some (.ref 0), some (.int (iN v1)), some (.int (iN v2)), some (.ref 159), none]) (su := []) rfl rfl ?_
      refine X_aload_n (pc' := 1) dL_votesTo_0 rfl rfl ?_
      refine X_iconst (pc' := 2) dL_votesTo_1 rfl ?_
      refine X_aload_n (pc' := 3) dL_votesTo_2 rfl rfl ?_
      refine X_iload_n (pc' := 4) dL_votesTo_3 rfl rfl ?_
      refine X_iload_n (pc' := 5) dL_votesTo_4 rfl rfl ?_
      refine Y_callHx (i := 4) (to := 23) [.int (iN v1), .int (iN v2)] (pc' := 8) dL_votesTo_5 rfl VL_112 (by decide) (zlN hN (by decide)) (congrArg Prod.fst (sh0 ln)) rfl rfl rfl (cs rfl) (cs rfl) rfl (CX5_votesTo hN hz rv1 rv2 e) ⟨[⟨0, 10, 13, 29⟩, ⟨0, 10, 17, 19⟩], ⟨0, 10, 21, 107⟩, [], rfl, (List.forall_mem_cons.mpr ⟨Or.inr ⟨by decide, "java/lang/IndexOutOfBoundsException", tq517, List.mem_of_getElem? (i := 34) rfl⟩, (List.forall_mem_cons.mpr ⟨Or.inr ⟨by decide, "java/lang/IllegalArgumentException", tq477, List.mem_of_getElem? (i := 23) rfl⟩, (fun _ h => nomatch h)⟩)⟩), by decide, by decide, ⟨"java/util/NoSuchElementException", tq935, tq942⟩, by decide, Or.inr ⟨dL_votesTo_21, rfl⟩⟩ (Or.inr rfl) (fun f => ?_)
      refine X_iconst (pc' := 24) dL_votesTo_23 rfl ?_
      exact X_iret dL_votesTo_24 rfl ⟨⟨h4 (n := 3) rfl, f⟩, rfl, rfl⟩
    have h := if_f c2 h
    cases h
def fL_disputed (z : ZZ) : Option (Int × ZZ) := Option.bind (fX5_disputed z) fun q => match q with | .inl r => some (0, zup z 159 0 r) | .inr E => (if E = 3 then some (1, z) else none)
set_option maxRecDepth 100000 in
theorem CL_disputed {ln N : Nat} {z : ZZ} (hN : 161 ≤ N ∧ N < 999999) (hz : okz z) {p : Int × ZZ} (h : fL_disputed z = some p) : X mL_disputed 0 (xEnt [.ref 0, .ref 159] (xL mL_disputed)) [] (zmk ln N z) (cc_h p) (6 * cc_h p) (Qd (fa_h p) (rs_h p) (st_h ln N p)) := by
  unfold fL_disputed at h
  obtain ⟨r | E, e, h⟩ := bs h
  · cases h
    refine X_to (M := [some (.ref 0), some (.ref 159), none]) (su := []) rfl rfl ?_
    refine X_aload_n (pc' := 1) dL_disputed_0 rfl rfl ?_
    refine X_iconst (pc' := 2) dL_disputed_1 rfl ?_
    refine X_aload_n (pc' := 3) dL_disputed_2 rfl rfl ?_
    refine Y_callH [] (pc' := 6) dL_disputed_3 rfl VL_115 (by decide) (zlN hN (by decide)) (congrArg Prod.fst (sh0 ln)) rfl rfl rfl (cs rfl) (cs rfl) rfl (CX5_disputed hN hz  e) (c7 := 0) (s7 := 0) rfl rfl (fun f => ?_)
    refine X_lI_i2l (pc' := 7) dL_disputed_6 rfl f ?_
    refine Y_last (pc' := 8) dL_disputed_7 rfl (zlN hN (by decide)) (sh159 ln) (by decide) ⟨by decide, by decide⟩ ?_
    refine X_goto dL_disputed_8 (tgt := 14) rfl ?_
    refine X_iconst (pc' := 15) dL_disputed_14 rfl ?_
    exact X_iret dL_disputed_15 rfl ⟨⟨h4 (n := 0) rfl, okz_up hz f⟩, rfl, rfl⟩
  · by_cases c0 : E = 3
    · have h := if_t c0 h
      cases h
      subst c0
      refine X_to (M := [some (.ref 0), some (.ref 159), none]) (su := []) rfl rfl ?_
      refine X_aload_n (pc' := 1) dL_disputed_0 rfl rfl ?_
      refine X_iconst (pc' := 2) dL_disputed_1 rfl ?_
      refine X_aload_n (pc' := 3) dL_disputed_2 rfl rfl ?_
      refine Y_callHx (i := 2) (to := 12) [] (pc' := 6) dL_disputed_3 rfl VL_115 (by decide) (zlN hN (by decide)) (congrArg Prod.fst (sh0 ln)) rfl rfl rfl (cs rfl) (cs rfl) rfl (CX5_disputed hN hz  e) ⟨[], ⟨0, 8, 11, 107⟩, [], rfl, (fun _ h => nomatch h), by decide, by decide, ⟨"java/util/NoSuchElementException", tq935, tq942⟩, by decide, Or.inl ⟨2, rfl, dL_disputed_11, rfl⟩⟩ (Or.inr rfl) (fun f => ?_)
      refine X_iconst (pc' := 13) dL_disputed_12 rfl ?_
      exact X_iret dL_disputed_13 rfl ⟨⟨h4 (n := 1) rfl, hz⟩, rfl, rfl⟩
    have h := if_f c0 h
    cases h
def fL_hardest (v1 : Int) (z : ZZ) : Option (Int × ZZ) := Option.bind (fX5_hardest v1 z) fun q => match q with | (.inl r, z1) => some (0, zup z1 159 0 r) | (.inr E, z1) => (if E = 0 then some (1, z1) else (if E = 3 then some (2, z1) else none))
set_option maxRecDepth 100000 in
theorem CL_hardest {ln N : Nat} {z : ZZ} {v1 : Int} (hN : 161 ≤ N ∧ N < 999999) (hz : okz z) (rv1 : inR v1) {p : Int × ZZ} (h : fL_hardest v1 z = some p) : X mL_hardest 0 (xEnt [.ref 0, .int (iN v1), .ref 159] (xL mL_hardest)) [] (zmk ln N z) (cc_h p) (6 * cc_h p) (Qd (fa_h p) (rs_h p) (st_h ln N p)) := by
  unfold fL_hardest at h
  obtain ⟨⟨r | E, z1⟩, e, h⟩ := bs h
  · cases h
    refine X_to (M := [some (.ref 0), some (.int (iN v1)), some (.ref 159), none]) (su := []) rfl rfl ?_
    refine X_aload_n (pc' := 1) dL_hardest_0 rfl rfl ?_
    refine X_iconst (pc' := 2) dL_hardest_1 rfl ?_
    refine X_aload_n (pc' := 3) dL_hardest_2 rfl rfl ?_
    refine X_iload_n (pc' := 4) dL_hardest_3 rfl rfl ?_
    refine Y_callH [.int (iN v1)] (pc' := 7) dL_hardest_4 rfl VL_118 (by decide) (zlN hN (by decide)) (congrArg Prod.fst (sh0 ln)) rfl rfl rfl (cs rfl) (cs rfl) rfl (CX5_hardest hN hz rv1 e) (c7 := 0) (s7 := 0) rfl rfl (fun f => ?_)
    refine X_lI_i2l (pc' := 8) dL_hardest_7 rfl f.1 ?_
    refine Y_last (pc' := 9) dL_hardest_8 rfl (zlN hN (by decide)) (sh159 ln) (by decide) ⟨by decide, by decide⟩ ?_
    refine X_goto dL_hardest_9 (tgt := 18) rfl ?_
    refine X_iconst (pc' := 19) dL_hardest_18 rfl ?_
    exact X_iret dL_hardest_19 rfl ⟨⟨h4 (n := 0) rfl, okz_up f.2 f.1⟩, rfl, rfl⟩
  · by_cases c0 : E = 0
    · have h := if_t c0 h
      cases h
      subst c0
      refine X_to (M := [some (.ref 0), some (.int (iN v1)), some (.ref 159), none]) (su := []) rfl rfl ?_
      refine X_aload_n (pc' := 1) dL_hardest_0 rfl rfl ?_
      refine X_iconst (pc' := 2) dL_hardest_1 rfl ?_
      refine X_aload_n (pc' := 3) dL_hardest_2 rfl rfl ?_
      refine X_iload_n (pc' := 4) dL_hardest_3 rfl rfl ?_
      refine Y_callHx (i := 3) (to := 13) [.int (iN v1)] (pc' := 7) dL_hardest_4 rfl VL_118 (by decide) (zlN hN (by decide)) (congrArg Prod.fst (sh0 ln)) rfl rfl rfl (cs rfl) (cs rfl) rfl (CX5_hardest hN hz rv1 e) ⟨[], ⟨0, 9, 12, 29⟩, [⟨0, 9, 15, 107⟩], rfl, (fun _ h => nomatch h), by decide, by decide, ⟨"java/lang/IndexOutOfBoundsException", tq517, tq554⟩, by decide, Or.inl ⟨3, rfl, dL_hardest_12, rfl⟩⟩ (Or.inr rfl) (fun f => ?_)
      refine X_iconst (pc' := 14) dL_hardest_13 rfl ?_
      exact X_iret dL_hardest_14 rfl ⟨⟨h4 (n := 1) rfl, f⟩, rfl, rfl⟩
    have h := if_f c0 h
    by_cases c1 : E = 3
    · have h := if_t c1 h
      cases h
      subst c1
      refine X_to (M := [some (.ref 0), some (.int (iN v1)), some (.ref 159), none]) (su := []) rfl rfl ?_
      refine X_aload_n (pc' := 1) dL_hardest_0 rfl rfl ?_
      refine X_iconst (pc' := 2) dL_hardest_1 rfl ?_
      refine X_aload_n (pc' := 3) dL_hardest_2 rfl rfl ?_
      refine X_iload_n (pc' := 4) dL_hardest_3 rfl rfl ?_
      refine Y_callHx (i := 3) (to := 16) [.int (iN v1)] (pc' := 7) dL_hardest_4 rfl VL_118 (by decide) (zlN hN (by decide)) (congrArg Prod.fst (sh0 ln)) rfl rfl rfl (cs rfl) (cs rfl) rfl (CX5_hardest hN hz rv1 e) ⟨[⟨0, 9, 12, 29⟩], ⟨0, 9, 15, 107⟩, [], rfl, (List.forall_mem_cons.mpr ⟨Or.inr ⟨by decide, "java/lang/IndexOutOfBoundsException", tq517, List.mem_of_getElem? (i := 34) rfl⟩, (fun _ h => nomatch h)⟩), by decide, by decide, ⟨"java/util/NoSuchElementException", tq935, tq942⟩, by decide, Or.inl ⟨3, rfl, dL_hardest_15, rfl⟩⟩ (Or.inr rfl) (fun f => ?_)
      refine X_iconst (pc' := 17) dL_hardest_16 rfl ?_
      exact X_iret dL_hardest_17 rfl ⟨⟨h4 (n := 2) rfl, f⟩, rfl, rfl⟩
    have h := if_f c1 h
    cases h
def fL_climbsLeft (v1 : Int) (z : ZZ) : Option (Int × ZZ) := Option.bind (fX5_climbsLeft v1 z) fun q => match q with | (.inl r, z1) => some (0, zup z1 159 0 r) | (.inr E, z1) => (if E = 0 then some (1, z1) else none)
set_option maxRecDepth 100000 in
theorem CL_climbsLeft {ln N : Nat} {z : ZZ} {v1 : Int} (hN : 161 ≤ N ∧ N < 999999) (hz : okz z) (rv1 : inR v1) {p : Int × ZZ} (h : fL_climbsLeft v1 z = some p) : X mL_climbsLeft 0 (xEnt [.ref 0, .int (iN v1), .ref 159] (xL mL_climbsLeft)) [] (zmk ln N z) (cc_h p) (6 * cc_h p) (Qd (fa_h p) (rs_h p) (st_h ln N p)) := by
  unfold fL_climbsLeft at h
  obtain ⟨⟨r | E, z1⟩, e, h⟩ := bs h
  · cases h
    refine X_to (M := [some (.ref 0), some (.int (iN v1)), some (.ref 159), none]) (su := []) rfl rfl ?_
    refine X_aload_n (pc' := 1) dL_climbsLeft_0 rfl rfl ?_
    refine X_iconst (pc' := 2) dL_climbsLeft_1 rfl ?_
    refine X_aload_n (pc' := 3) dL_climbsLeft_2 rfl rfl ?_
    refine X_iload_n (pc' := 4) dL_climbsLeft_3 rfl rfl ?_
    refine Y_callH [.int (iN v1)] (pc' := 7) dL_climbsLeft_4 rfl VL_121 (by decide) (zlN hN (by decide)) (congrArg Prod.fst (sh0 ln)) rfl rfl rfl (cs rfl) (cs rfl) rfl (CX5_climbsLeft hN hz rv1 e) (c7 := 0) (s7 := 0) rfl rfl (fun f => ?_)
    refine X_lI_i2l (pc' := 8) dL_climbsLeft_7 rfl f.1 ?_
    refine Y_last (pc' := 9) dL_climbsLeft_8 rfl (zlN hN (by decide)) (sh159 ln) (by decide) ⟨by decide, by decide⟩ ?_
    refine X_goto dL_climbsLeft_9 (tgt := 15) rfl ?_
    refine X_iconst (pc' := 16) dL_climbsLeft_15 rfl ?_
    exact X_iret dL_climbsLeft_16 rfl ⟨⟨h4 (n := 0) rfl, okz_up f.2 f.1⟩, rfl, rfl⟩
  · by_cases c0 : E = 0
    · have h := if_t c0 h
      cases h
      subst c0
      refine X_to (M := [some (.ref 0), some (.int (iN v1)), some (.ref 159), none]) (su := []) rfl rfl ?_
      refine X_aload_n (pc' := 1) dL_climbsLeft_0 rfl rfl ?_
      refine X_iconst (pc' := 2) dL_climbsLeft_1 rfl ?_
      refine X_aload_n (pc' := 3) dL_climbsLeft_2 rfl rfl ?_
      refine X_iload_n (pc' := 4) dL_climbsLeft_3 rfl rfl ?_
      refine Y_callHx (i := 3) (to := 13) [.int (iN v1)] (pc' := 7) dL_climbsLeft_4 rfl VL_121 (by decide) (zlN hN (by decide)) (congrArg Prod.fst (sh0 ln)) rfl rfl rfl (cs rfl) (cs rfl) rfl (CX5_climbsLeft hN hz rv1 e) ⟨[], ⟨0, 9, 12, 29⟩, [], rfl, (fun _ h => nomatch h), by decide, by decide, ⟨"java/lang/IndexOutOfBoundsException", tq517, tq554⟩, by decide, Or.inl ⟨3, rfl, dL_climbsLeft_12, rfl⟩⟩ (Or.inr rfl) (fun f => ?_)
      refine X_iconst (pc' := 14) dL_climbsLeft_13 rfl ?_
      exact X_iret dL_climbsLeft_14 rfl ⟨⟨h4 (n := 1) rfl, f⟩, rfl, rfl⟩
    have h := if_f c0 h
    cases h
def fL_averageGrade (z : ZZ) : Option (Int × ZZ) := Option.bind (fX5_averageGrade z) fun q => match q with | (.inl r, z1) => some (0, zup z1 160 0 ((r.toNat : Nat) : Int)) | (.inr E, z1) => (if E = 3 then some (1, z1) else none)
set_option maxRecDepth 100000 in
theorem CL_averageGrade {ln N : Nat} {z : ZZ} (hN : 161 ≤ N ∧ N < 999999) (hz : okz z) {p : Int × ZZ} (h : fL_averageGrade z = some p) : X mL_averageGrade 0 (xEnt [.ref 0, .ref 160] (xL mL_averageGrade)) [] (zmk ln N z) (cc_h p) (6 * cc_h p) (Qd (fa_h p) (rs_h p) (st_h ln N p)) := by
  unfold fL_averageGrade at h
  obtain ⟨⟨r | E, z1⟩, e, h⟩ := bs h
  · cases h
    refine X_to (M := [some (.ref 0), some (.ref 160), none]) (su := []) rfl rfl ?_
    refine X_aload_n (pc' := 1) dL_averageGrade_0 rfl rfl ?_
    refine X_iconst (pc' := 2) dL_averageGrade_1 rfl ?_
    refine X_aload_n (pc' := 3) dL_averageGrade_2 rfl rfl ?_
    refine Y_callH [] (pc' := 6) dL_averageGrade_3 rfl VL_124 (by decide) (zlN hN (by decide)) (congrArg Prod.fst (sh0 ln)) rfl rfl rfl (cs rfl) (cs rfl) rfl (CX5_averageGrade hN hz  e) (c7 := 0) (s7 := 0) rfl rfl (fun f => ?_)
    refine Y_dast (pc' := 7) dL_averageGrade_6 rfl (zlN hN (by decide)) (sh160 ln) (by decide) ⟨by decide, by decide⟩ ?_
    refine X_goto dL_averageGrade_7 (tgt := 13) rfl ?_
    refine X_iconst (pc' := 14) dL_averageGrade_13 rfl ?_
    exact X_iret dL_averageGrade_14 rfl ⟨⟨h4 (n := 0) rfl, okz_upD f⟩, rfl, rfl⟩
  · by_cases c0 : E = 3
    · have h := if_t c0 h
      cases h
      subst c0
      refine X_to (M := [some (.ref 0), some (.ref 160), none]) (su := []) rfl rfl ?_
      refine X_aload_n (pc' := 1) dL_averageGrade_0 rfl rfl ?_
      refine X_iconst (pc' := 2) dL_averageGrade_1 rfl ?_
      refine X_aload_n (pc' := 3) dL_averageGrade_2 rfl rfl ?_
      refine Y_callHx (i := 2) (to := 11) [] (pc' := 6) dL_averageGrade_3 rfl VL_124 (by decide) (zlN hN (by decide)) (congrArg Prod.fst (sh0 ln)) rfl rfl rfl (cs rfl) (cs rfl) rfl (CX5_averageGrade hN hz  e) ⟨[], ⟨0, 7, 10, 107⟩, [], rfl, (fun _ h => nomatch h), by decide, by decide, ⟨"java/util/NoSuchElementException", tq935, tq942⟩, by decide, Or.inl ⟨2, rfl, dL_averageGrade_10, rfl⟩⟩ (Or.inr rfl) (fun f => ?_)
      refine X_iconst (pc' := 12) dL_averageGrade_11 rfl ?_
      exact X_iret dL_averageGrade_12 rfl ⟨⟨h4 (n := 1) rfl, f⟩, rfl, rfl⟩
    have h := if_f c0 h
    cases h
def fL_openWalls (v1 : Int) (z : ZZ) : Option (Int × ZZ) := Option.bind (fX5_openWalls v1 z) fun q => match q with | .inl r => some (0, zup z 159 0 r) | .inr E => (if E = 1 then some (1, z) else none)
set_option maxRecDepth 100000 in
theorem CL_openWalls {ln N : Nat} {z : ZZ} {v1 : Int} (hN : 161 ≤ N ∧ N < 999999) (hz : okz z) (rv1 : inR v1) {p : Int × ZZ} (h : fL_openWalls v1 z = some p) : X mL_openWalls 0 (xEnt [.ref 0, .int (iN v1), .ref 159] (xL mL_openWalls)) [] (zmk ln N z) (cc_h p) (6 * cc_h p) (Qd (fa_h p) (rs_h p) (st_h ln N p)) := by
  unfold fL_openWalls at h
  obtain ⟨r | E, e, h⟩ := bs h
  · cases h
    refine X_to (M := [some (.ref 0), some (.int (iN v1)), some (.ref 159), none]) (su := []) rfl rfl ?_
    refine X_aload_n (pc' := 1) dL_openWalls_0 rfl rfl ?_
    refine X_iconst (pc' := 2) dL_openWalls_1 rfl ?_
    refine X_aload_n (pc' := 3) dL_openWalls_2 rfl rfl ?_
    refine X_iload_n (pc' := 4) dL_openWalls_3 rfl rfl ?_
    refine Y_callH [.int (iN v1)] (pc' := 7) dL_openWalls_4 rfl VL_128 (by decide) (zlN hN (by decide)) (congrArg Prod.fst (sh0 ln)) rfl rfl rfl (cs rfl) (cs rfl) rfl (CX5_openWalls hN hz rv1 e) (c7 := 0) (s7 := 0) rfl rfl (fun f => ?_)
    refine X_lI_i2l (pc' := 8) dL_openWalls_7 rfl f ?_
    refine Y_last (pc' := 9) dL_openWalls_8 rfl (zlN hN (by decide)) (sh159 ln) (by decide) ⟨by decide, by decide⟩ ?_
    refine X_goto dL_openWalls_9 (tgt := 15) rfl ?_
    refine X_iconst (pc' := 16) dL_openWalls_15 rfl ?_
    exact X_iret dL_openWalls_16 rfl ⟨⟨h4 (n := 0) rfl, okz_up hz f⟩, rfl, rfl⟩
  · by_cases c0 : E = 1
    · have h := if_t c0 h
      cases h
      subst c0
      refine X_to (M := [some (.ref 0), some (.int (iN v1)), some (.ref 159), none]) (su := []) rfl rfl ?_
      refine X_aload_n (pc' := 1) dL_openWalls_0 rfl rfl ?_
      refine X_iconst (pc' := 2) dL_openWalls_1 rfl ?_
      refine X_aload_n (pc' := 3) dL_openWalls_2 rfl rfl ?_
      refine X_iload_n (pc' := 4) dL_openWalls_3 rfl rfl ?_
      refine Y_callHx (i := 3) (to := 13) [.int (iN v1)] (pc' := 7) dL_openWalls_4 rfl VL_128 (by decide) (zlN hN (by decide)) (congrArg Prod.fst (sh0 ln)) rfl rfl rfl (cs rfl) (cs rfl) rfl (CX5_openWalls hN hz rv1 e) ⟨[], ⟨0, 9, 12, 19⟩, [], rfl, (fun _ h => nomatch h), by decide, by decide, ⟨"java/lang/IllegalArgumentException", tq477, tq487⟩, by decide, Or.inl ⟨3, rfl, dL_openWalls_12, rfl⟩⟩ (Or.inr rfl) (fun f => ?_)
      refine X_iconst (pc' := 14) dL_openWalls_13 rfl ?_
      exact X_iret dL_openWalls_14 rfl ⟨⟨h4 (n := 1) rfl, hz⟩, rfl, rfl⟩
    have h := if_f c0 h
    cases h
def fL_worstDay (v1 : Int) (z : ZZ) : Option (Int × ZZ) := Option.bind (fX5_worstDay v1 z) fun q => match q with | .inl r => some (0, zup z 159 0 r) | .inr E => (if E = 1 then some (1, z) else none)
set_option maxRecDepth 100000 in
theorem CL_worstDay {ln N : Nat} {z : ZZ} {v1 : Int} (hN : 161 ≤ N ∧ N < 999999) (hz : okz z) (rv1 : inR v1) {p : Int × ZZ} (h : fL_worstDay v1 z = some p) : X mL_worstDay 0 (xEnt [.ref 0, .int (iN v1), .ref 159] (xL mL_worstDay)) [] (zmk ln N z) (cc_h p) (6 * cc_h p) (Qd (fa_h p) (rs_h p) (st_h ln N p)) := by
  unfold fL_worstDay at h
  obtain ⟨r | E, e, h⟩ := bs h
  · cases h
    refine X_to (M := [some (.ref 0), some (.int (iN v1)), some (.ref 159), none]) (su := []) rfl rfl ?_
    refine X_aload_n (pc' := 1) dL_worstDay_0 rfl rfl ?_
    refine X_iconst (pc' := 2) dL_worstDay_1 rfl ?_
    refine X_aload_n (pc' := 3) dL_worstDay_2 rfl rfl ?_
    refine X_iload_n (pc' := 4) dL_worstDay_3 rfl rfl ?_
    refine Y_callH [.int (iN v1)] (pc' := 7) dL_worstDay_4 rfl VL_131 (by decide) (zlN hN (by decide)) (congrArg Prod.fst (sh0 ln)) rfl rfl rfl (cs rfl) (cs rfl) rfl (CX5_worstDay hN hz rv1 e) (c7 := 0) (s7 := 0) rfl rfl (fun f => ?_)
    refine X_lI_i2l (pc' := 8) dL_worstDay_7 rfl f ?_
    refine Y_last (pc' := 9) dL_worstDay_8 rfl (zlN hN (by decide)) (sh159 ln) (by decide) ⟨by decide, by decide⟩ ?_
    refine X_goto dL_worstDay_9 (tgt := 15) rfl ?_
    refine X_iconst (pc' := 16) dL_worstDay_15 rfl ?_
    exact X_iret dL_worstDay_16 rfl ⟨⟨h4 (n := 0) rfl, okz_up hz f⟩, rfl, rfl⟩
  · by_cases c0 : E = 1
    · have h := if_t c0 h
      cases h
      subst c0
      refine X_to (M := [some (.ref 0), some (.int (iN v1)), some (.ref 159), none]) (su := []) rfl rfl ?_
      refine X_aload_n (pc' := 1) dL_worstDay_0 rfl rfl ?_
      refine X_iconst (pc' := 2) dL_worstDay_1 rfl ?_
      refine X_aload_n (pc' := 3) dL_worstDay_2 rfl rfl ?_
      refine X_iload_n (pc' := 4) dL_worstDay_3 rfl rfl ?_
      refine Y_callHx (i := 3) (to := 13) [.int (iN v1)] (pc' := 7) dL_worstDay_4 rfl VL_131 (by decide) (zlN hN (by decide)) (congrArg Prod.fst (sh0 ln)) rfl rfl rfl (cs rfl) (cs rfl) rfl (CX5_worstDay hN hz rv1 e) ⟨[], ⟨0, 9, 12, 19⟩, [], rfl, (fun _ h => nomatch h), by decide, by decide, ⟨"java/lang/IllegalArgumentException", tq477, tq487⟩, by decide, Or.inl ⟨3, rfl, dL_worstDay_12, rfl⟩⟩ (Or.inr rfl) (fun f => ?_)
      refine X_iconst (pc' := 14) dL_worstDay_13 rfl ?_
      exact X_iret dL_worstDay_14 rfl ⟨⟨h4 (n := 1) rfl, hz⟩, rfl, rfl⟩
    have h := if_f c0 h
    cases h
def fL_shiftFor (v1 : Int) (z : ZZ) : Option (Int × ZZ) := Option.bind (fX5_shiftFor v1 z) fun q => match q with | .inl r => some (0, zup z 159 0 r) | .inr E => (if E = 0 then some (1, z) else (if E = 3 then some (2, z) else none))
set_option maxRecDepth 100000 in
theorem CL_shiftFor {ln N : Nat} {z : ZZ} {v1 : Int} (hN : 161 ≤ N ∧ N < 999999) (hz : okz z) (rv1 : inR v1) {p : Int × ZZ} (h : fL_shiftFor v1 z = some p) : X mL_shiftFor 0 (xEnt [.ref 0, .int (iN v1), .ref 159] (xL mL_shiftFor)) [] (zmk ln N z) (cc_h p) (6 * cc_h p) (Qd (fa_h p) (rs_h p) (st_h ln N p)) := by
  unfold fL_shiftFor at h
  obtain ⟨r | E, e, h⟩ := bs h
  · cases h
    refine X_to (M := [some (.ref 0), some (.int (iN v1)), some (.ref 159), none]) (su := []) rfl rfl ?_
    refine X_aload_n (pc' := 1) dL_shiftFor_0 rfl rfl ?_
    refine X_iconst (pc' := 2) dL_shiftFor_1 rfl ?_
    refine X_aload_n (pc' := 3) dL_shiftFor_2 rfl rfl ?_
    refine X_iload_n (pc' := 4) dL_shiftFor_3 rfl rfl ?_
    refine Y_callH [.int (iN v1)] (pc' := 7) dL_shiftFor_4 rfl VL_134 (by decide) (zlN hN (by decide)) (congrArg Prod.fst (sh0 ln)) rfl rfl rfl (cs rfl) (cs rfl) rfl (CX5_shiftFor hN hz rv1 e) (c7 := 0) (s7 := 0) rfl rfl (fun f => ?_)
    refine X_lI_i2l (pc' := 8) dL_shiftFor_7 rfl f ?_
    refine Y_last (pc' := 9) dL_shiftFor_8 rfl (zlN hN (by decide)) (sh159 ln) (by decide) ⟨by decide, by decide⟩ ?_
    refine X_goto dL_shiftFor_9 (tgt := 18) rfl ?_
    refine X_iconst (pc' := 19) dL_shiftFor_18 rfl ?_
    exact X_iret dL_shiftFor_19 rfl ⟨⟨h4 (n := 0) rfl, okz_up hz f⟩, rfl, rfl⟩
  · by_cases c0 : E = 0
    · have h := if_t c0 h
      cases h
      subst c0
      refine X_to (M := [some (.ref 0), some (.int (iN v1)), some (.ref 159), none]) (su := []) rfl rfl ?_
      refine X_aload_n (pc' := 1) dL_shiftFor_0 rfl rfl ?_
      refine X_iconst (pc' := 2) dL_shiftFor_1 rfl ?_
      refine X_aload_n (pc' := 3) dL_shiftFor_2 rfl rfl ?_
      refine X_iload_n (pc' := 4) dL_shiftFor_3 rfl rfl ?_
      refine Y_callHx (i := 3) (to := 13) [.int (iN v1)] (pc' := 7) dL_shiftFor_4 rfl VL_134 (by decide) (zlN hN (by decide)) (congrArg Prod.fst (sh0 ln)) rfl rfl rfl (cs rfl) (cs rfl) rfl (CX5_shiftFor hN hz rv1 e) ⟨[], ⟨0, 9, 12, 29⟩, [⟨0, 9, 15, 107⟩], rfl, (fun _ h => nomatch h), by decide, by decide, ⟨"java/lang/IndexOutOfBoundsException", tq517, tq554⟩, by decide, Or.inl ⟨3, rfl, dL_shiftFor_12, rfl⟩⟩ (Or.inr rfl) (fun f => ?_)
      refine X_iconst (pc' := 14) dL_shiftFor_13 rfl ?_
      exact X_iret dL_shiftFor_14 rfl ⟨⟨h4 (n := 1) rfl, hz⟩, rfl, rfl⟩
    have h := if_f c0 h
    by_cases c1 : E = 3
    · have h := if_t c1 h
      cases h
      subst c1
      refine X_to (M := [some (.ref 0), some (.int (iN v1)), some (.ref 159), none]) (su := []) rfl rfl ?_
      refine X_aload_n (pc' := 1) dL_shiftFor_0 rfl rfl ?_
      refine X_iconst (pc' := 2) dL_shiftFor_1 rfl ?_
      refine X_aload_n (pc' := 3) dL_shiftFor_2 rfl rfl ?_
      refine X_iload_n (pc' := 4) dL_shiftFor_3 rfl rfl ?_
      refine Y_callHx (i := 3) (to := 16) [.int (iN v1)] (pc' := 7) dL_shiftFor_4 rfl VL_134 (by decide) (zlN hN (by decide)) (congrArg Prod.fst (sh0 ln)) rfl rfl rfl (cs rfl) (cs rfl) rfl (CX5_shiftFor hN hz rv1 e) ⟨[⟨0, 9, 12, 29⟩], ⟨0, 9, 15, 107⟩, [], rfl, (List.forall_mem_cons.mpr ⟨Or.inr ⟨by decide, "java/lang/IndexOutOfBoundsException", tq517, List.mem_of_getElem? (i := 34) rfl⟩, (fun _ h => nomatch h)⟩), by decide, by decide, ⟨"java/util/NoSuchElementException", tq935, tq942⟩, by decide, Or.inl ⟨3, rfl, dL_shiftFor_15, rfl⟩⟩ (Or.inr rfl) (fun f => ?_)
      refine X_iconst (pc' := 17) dL_shiftFor_16 rfl ?_
      exact X_iret dL_shiftFor_17 rfl ⟨⟨h4 (n := 2) rfl, hz⟩, rfl, rfl⟩
    have h := if_f c1 h
    cases h
def fL_lendable (v1 : Int) (z : ZZ) : Option (Int × ZZ) := Option.bind (fX5_lendable v1 z) fun q => match q with | .inl r => some (0, zup z 159 0 r) | .inr E => (if E = 1 then some (1, z) else none)
set_option maxRecDepth 100000 in
theorem CL_lendable {ln N : Nat} {z : ZZ} {v1 : Int} (hN : 161 ≤ N ∧ N < 999999) (hz : okz z) (rv1 : inR v1) {p : Int × ZZ} (h : fL_lendable v1 z = some p) : X mL_lendable 0 (xEnt [.ref 0, .int (iN v1), .ref 159] (xL mL_lendable)) [] (zmk ln N z) (cc_h p) (6 * cc_h p) (Qd (fa_h p) (rs_h p) (st_h ln N p)) := by
  unfold fL_lendable at h
  obtain ⟨r | E, e, h⟩ := bs h
  · cases h
    refine X_to (M := [some (.ref 0), some (.int (iN v1)), some (.ref 159), none]) (su := []) rfl rfl ?_
    refine X_aload_n (pc' := 1) dL_lendable_0 rfl rfl ?_
    refine X_iconst (pc' := 2) dL_lendable_1 rfl ?_
    refine X_aload_n (pc' := 3) dL_lendable_2 rfl rfl ?_
    refine X_iload_n (pc' := 4) dL_lendable_3 rfl rfl ?_
    refine Y_callH [.int (iN v1)] (pc' := 7) dL_lendable_4 rfl VL_137 (by decide) (zlN hN (by decide)) (congrArg Prod.fst (sh0 ln)) rfl rfl rfl (cs rfl) (cs rfl) rfl (CX5_lendable hN hz rv1 e) (c7 := 0) (s7 := 0) rfl rfl (fun f => ?_)
    refine X_lI_i2l (pc' := 8) dL_lendable_7 rfl f ?_
    refine Y_last (pc' := 9) dL_lendable_8 rfl (zlN hN (by decide)) (sh159 ln) (by decide) ⟨by decide, by decide⟩ ?_
    refine X_goto dL_lendable_9 (tgt := 15) rfl ?_
    refine X_iconst (pc' := 16) dL_lendable_15 rfl ?_
    exact X_iret dL_lendable_16 rfl ⟨⟨h4 (n := 0) rfl, okz_up hz f⟩, rfl, rfl⟩
  · by_cases c0 : E = 1
    · have h := if_t c0 h
      cases h
      subst c0
      refine X_to (M := [some (.ref 0), some (.int (iN v1)), some (.ref 159), none]) (su := []) rfl rfl ?_
      refine X_aload_n (pc' := 1) dL_lendable_0 rfl rfl ?_
      refine X_iconst (pc' := 2) dL_lendable_1 rfl ?_
      refine X_aload_n (pc' := 3) dL_lendable_2 rfl rfl ?_
      refine X_iload_n (pc' := 4) dL_lendable_3 rfl rfl ?_
      refine Y_callHx (i := 3) (to := 13) [.int (iN v1)] (pc' := 7) dL_lendable_4 rfl VL_137 (by decide) (zlN hN (by decide)) (congrArg Prod.fst (sh0 ln)) rfl rfl rfl (cs rfl) (cs rfl) rfl (CX5_lendable hN hz rv1 e) ⟨[], ⟨0, 9, 12, 19⟩, [], rfl, (fun _ h => nomatch h), by decide, by decide, ⟨"java/lang/IllegalArgumentException", tq477, tq487⟩, by decide, Or.inl ⟨3, rfl, dL_lendable_12, rfl⟩⟩ (Or.inr rfl) (fun f => ?_)
      refine X_iconst (pc' := 14) dL_lendable_13 rfl ?_
      exact X_iret dL_lendable_14 rfl ⟨⟨h4 (n := 1) rfl, hz⟩, rfl, rfl⟩
    have h := if_f c0 h
    cases h
def fL_lapsing (v1 : Int) (z : ZZ) : Option (Int × ZZ) := Option.bind (fX5_lapsing v1 z) fun q => match q with | .inl r => some (0, zup z 159 0 r) | .inr E => (if E = 1 then some (1, z) else none)
set_option maxRecDepth 100000 in
theorem CL_lapsing {ln N : Nat} {z : ZZ} {v1 : Int} (hN : 161 ≤ N ∧ N < 999999) (hz : okz z) (rv1 : inR v1) {p : Int × ZZ} (h : fL_lapsing v1 z = some p) : X mL_lapsing 0 (xEnt [.ref 0, .int (iN v1), .ref 159] (xL mL_lapsing)) [] (zmk ln N z) (cc_h p) (6 * cc_h p) (Qd (fa_h p) (rs_h p) (st_h ln N p)) := by
  unfold fL_lapsing at h
  obtain ⟨r | E, e, h⟩ := bs h
  · cases h
    refine X_to (M := [some (.ref 0), some (.int (iN v1)), some (.ref 159), none]) (su := []) rfl rfl ?_
    refine X_aload_n (pc' := 1) dL_lapsing_0 rfl rfl ?_
    refine X_iconst (pc' := 2) dL_lapsing_1 rfl ?_
    refine X_aload_n (pc' := 3) dL_lapsing_2 rfl rfl ?_
    refine X_iload_n (pc' := 4) dL_lapsing_3 rfl rfl ?_
    refine Y_callH [.int (iN v1)] (pc' := 7) dL_lapsing_4 rfl VL_140 (by decide) (zlN hN (by decide)) (congrArg Prod.fst (sh0 ln)) rfl rfl rfl (cs rfl) (cs rfl) rfl (CX5_lapsing hN hz rv1 e) (c7 := 0) (s7 := 0) rfl rfl (fun f => ?_)
    refine X_lI_i2l (pc' := 8) dL_lapsing_7 rfl f ?_
    refine Y_last (pc' := 9) dL_lapsing_8 rfl (zlN hN (by decide)) (sh159 ln) (by decide) ⟨by decide, by decide⟩ ?_
    refine X_goto dL_lapsing_9 (tgt := 15) rfl ?_
    refine X_iconst (pc' := 16) dL_lapsing_15 rfl ?_
    exact X_iret dL_lapsing_16 rfl ⟨⟨h4 (n := 0) rfl, okz_up hz f⟩, rfl, rfl⟩
  · by_cases c0 : E = 1
    · have h := if_t c0 h
      cases h
      subst c0
      refine X_to (M := [some (.ref 0), some (.int (iN v1)), some (.ref 159), none]) (su := []) rfl rfl ?_
      refine X_aload_n (pc' := 1) dL_lapsing_0 rfl rfl ?_
      refine X_iconst (pc' := 2) dL_lapsing_1 rfl ?_
      refine X_aload_n (pc' := 3) dL_lapsing_2 rfl rfl ?_
      refine X_iload_n (pc' := 4) dL_lapsing_3 rfl rfl ?_
      refine Y_callHx (i := 3) (to := 13) [.int (iN v1)] (pc' := 7) dL_lapsing_4 rfl VL_140 (by decide) (zlN hN (by decide)) (congrArg Prod.fst (sh0 ln)) rfl rfl rfl (cs rfl) (cs rfl) rfl (CX5_lapsing hN hz rv1 e) ⟨[], ⟨0, 9, 12, 19⟩, [], rfl, (fun _ h => nomatch h), by decide, by decide, ⟨"java/lang/IllegalArgumentException", tq477, tq487⟩, by decide, Or.inl ⟨3, rfl, dL_lapsing_12, rfl⟩⟩ (Or.inr rfl) (fun f => ?_)
      refine X_iconst (pc' := 14) dL_lapsing_13 rfl ?_
      exact X_iret dL_lapsing_14 rfl ⟨⟨h4 (n := 1) rfl, hz⟩, rfl, rfl⟩
    have h := if_f c0 h
    cases h
def fL_checksNeeded (v1 : Int) (v2 : Int) (z : ZZ) : Option (Int × ZZ) := Option.bind (fX5_checksNeeded v1 v2 z) fun q => match q with | .inl r => some (0, zup z 159 0 r) | .inr E => (if E = 1 then some (1, z) else (if E = 3 then some (2, z) else none))
set_option maxRecDepth 100000 in
theorem CL_checksNeeded {ln N : Nat} {z : ZZ} {v1 : Int} {v2 : Int} (hN : 161 ≤ N ∧ N < 999999) (hz : okz z) (rv1 : inR v1) (rv2 : inR v2) {p : Int × ZZ} (h : fL_checksNeeded v1 v2 z = some p) : X mL_checksNeeded 0 (xEnt [.ref 0, .int (iN v1), .int (iN v2), .ref 159] (xL mL_checksNeeded)) [] (zmk ln N z) (cc_h p) (6 * cc_h p) (Qd (fa_h p) (rs_h p) (st_h ln N p)) := by
  unfold fL_checksNeeded at h
  obtain ⟨r | E, e, h⟩ := bs h
  · cases h
    refine X_to (M := [some (.ref 0), some (.int (iN v1)), some (.int (iN v2)), some (.ref 159), none]) (su := []) rfl rfl ?_
    refine X_aload_n (pc' := 1) dL_checksNeeded_0 rfl rfl ?_
    refine X_iconst (pc' := 2) dL_checksNeeded_1 rfl ?_
    refine X_aload_n (pc' := 3) dL_checksNeeded_2 rfl rfl ?_
    refine X_iload_n (pc' := 4) dL_checksNeeded_3 rfl rfl ?_
    refine X_iload_n (pc' := 5) dL_checksNeeded_4 rfl rfl ?_
    refine Y_callH [.int (iN v1), .int (iN v2)] (pc' := 8) dL_checksNeeded_5 rfl VL_143 (by decide) (zlN hN (by decide)) (congrArg Prod.fst (sh0 ln)) rfl rfl rfl (cs rfl) (cs rfl) rfl (CX5_checksNeeded hN hz rv1 rv2 e) (c7 := 0) (s7 := 0) rfl rfl (fun f => ?_)
    refine X_lI_i2l (pc' := 9) dL_checksNeeded_8 rfl f ?_
    refine Y_last (pc' := 10) dL_checksNeeded_9 rfl (zlN hN (by decide)) (sh159 ln) (by decide) ⟨by decide, by decide⟩ ?_
    refine X_goto dL_checksNeeded_10 (tgt := 21) rfl ?_
    refine X_iconst (pc' := 22) dL_checksNeeded_21 rfl ?_
    exact X_iret dL_checksNeeded_22 rfl ⟨⟨h4 (n := 0) rfl, okz_up hz f⟩, rfl, rfl⟩
  · by_cases c0 : E = 1
    · have h := if_t c0 h
      cases h
      subst c0
      refine X_to (M := [some (.ref 0), some (.int (iN v1)), some (.int (iN v2)), some (.ref 159), none]) (su := []) rfl rfl ?_
      refine X_aload_n (pc' := 1) dL_checksNeeded_0 rfl rfl ?_
      refine X_iconst (pc' := 2) dL_checksNeeded_1 rfl ?_
      refine X_aload_n (pc' := 3) dL_checksNeeded_2 rfl rfl ?_
      refine X_iload_n (pc' := 4) dL_checksNeeded_3 rfl rfl ?_
      refine X_iload_n (pc' := 5) dL_checksNeeded_4 rfl rfl ?_
      refine Y_callHx (i := 4) (to := 15) [.int (iN v1), .int (iN v2)] (pc' := 8) dL_checksNeeded_5 rfl VL_143 (by decide) (zlN hN (by decide)) (congrArg Prod.fst (sh0 ln)) rfl rfl rfl (cs rfl) (cs rfl) rfl (CX5_checksNeeded hN hz rv1 rv2 e) ⟨[], ⟨0, 10, 13, 19⟩, [⟨0, 10, 17, 107⟩], rfl, (fun _ h => nomatch h), by decide, by decide, ⟨"java/lang/IllegalArgumentException", tq477, tq487⟩, by decide, Or.inr ⟨dL_checksNeeded_13, rfl⟩⟩ (Or.inr rfl) (fun f => ?_)
      refine X_iconst (pc' := 16) dL_checksNeeded_15 rfl ?_
      exact X_iret dL_checksNeeded_16 rfl ⟨⟨h4 (n := 1) rfl, hz⟩, rfl, rfl⟩
    have h := if_f c0 h
    by_cases c1 : E = 3
    · have h := if_t c1 h
      cases h
      subst c1
      refine X_to (M := [some (.ref 0), some (.int (iN v1)), some (.int (iN v2)), some (.ref 159), none]) (su := []) rfl rfl ?_
      refine X_aload_n (pc' := 1) dL_checksNeeded_0 rfl rfl ?_
      refine X_iconst (pc' := 2) dL_checksNeeded_1 rfl ?_
      refine X_aload_n (pc' := 3) dL_checksNeeded_2 rfl rfl ?_
      refine X_iload_n (pc' := 4) dL_checksNeeded_3 rfl rfl ?_
      refine X_iload_n (pc' := 5) dL_checksNeeded_4 rfl rfl ?_
      refine Y_callHx (i := 4) (to := 19) [.int (iN v1), .int (iN v2)] (pc' := 8) dL_checksNeeded_5 rfl VL_143 (by decide) (zlN hN (by decide)) (congrArg Prod.fst (sh0 ln)) rfl rfl rfl (cs rfl) (cs rfl) rfl (CX5_checksNeeded hN hz rv1 rv2 e) ⟨[⟨0, 10, 13, 19⟩], ⟨0, 10, 17, 107⟩, [], rfl, (List.forall_mem_cons.mpr ⟨Or.inr ⟨by decide, "java/lang/IllegalArgumentException", tq477, List.mem_of_getElem? (i := 23) rfl⟩, (fun _ h => nomatch h)⟩), by decide, by decide, ⟨"java/util/NoSuchElementException", tq935, tq942⟩, by decide, Or.inr ⟨dL_checksNeeded_17, rfl⟩⟩ (Or.inr rfl) (fun f => ?_)
      refine X_iconst (pc' := 20) dL_checksNeeded_19 rfl ?_
      exact X_iret dL_checksNeeded_20 rfl ⟨⟨h4 (n := 2) rfl, hz⟩, rfl, rfl⟩
    have h := if_f c1 h
    cases h
def fL_allowedRoutes (v1 : Int) (z : ZZ) : Option (Int × ZZ) := Option.bind (fX5_allowedRoutes v1 z) fun q => match q with | .inl r => some (0, zup z 159 0 r) | .inr E => (if E = 0 then some (1, z) else none)
set_option maxRecDepth 100000 in
theorem CL_allowedRoutes {ln N : Nat} {z : ZZ} {v1 : Int} (hN : 161 ≤ N ∧ N < 999999) (hz : okz z) (rv1 : inR v1) {p : Int × ZZ} (h : fL_allowedRoutes v1 z = some p) : X mL_allowedRoutes 0 (xEnt [.ref 0, .int (iN v1), .ref 159] (xL mL_allowedRoutes)) [] (zmk ln N z) (cc_h p) (6 * cc_h p) (Qd (fa_h p) (rs_h p) (st_h ln N p)) := by
  unfold fL_allowedRoutes at h
  obtain ⟨r | E, e, h⟩ := bs h
  · cases h
    refine X_to (M := [some (.ref 0), some (.int (iN v1)), some (.ref 159), none]) (su := []) rfl rfl ?_
    refine X_aload_n (pc' := 1) dL_allowedRoutes_0 rfl rfl ?_
    refine X_iconst (pc' := 2) dL_allowedRoutes_1 rfl ?_
    refine X_aload_n (pc' := 3) dL_allowedRoutes_2 rfl rfl ?_
    refine X_iload_n (pc' := 4) dL_allowedRoutes_3 rfl rfl ?_
    refine Y_callH [.int (iN v1)] (pc' := 7) dL_allowedRoutes_4 rfl VL_146 (by decide) (zlN hN (by decide)) (congrArg Prod.fst (sh0 ln)) rfl rfl rfl (cs rfl) (cs rfl) rfl (CX5_allowedRoutes hN hz rv1 e) (c7 := 0) (s7 := 0) rfl rfl (fun f => ?_)
    refine X_lI_i2l (pc' := 8) dL_allowedRoutes_7 rfl f ?_
    refine Y_last (pc' := 9) dL_allowedRoutes_8 rfl (zlN hN (by decide)) (sh159 ln) (by decide) ⟨by decide, by decide⟩ ?_
    refine X_goto dL_allowedRoutes_9 (tgt := 15) rfl ?_
    refine X_iconst (pc' := 16) dL_allowedRoutes_15 rfl ?_
    exact X_iret dL_allowedRoutes_16 rfl ⟨⟨h4 (n := 0) rfl, okz_up hz f⟩, rfl, rfl⟩
  · by_cases c0 : E = 0
    · have h := if_t c0 h
      cases h
      subst c0
      refine X_to (M := [some (.ref 0), some (.int (iN v1)), some (.ref 159), none]) (su := []) rfl rfl ?_
      refine X_aload_n (pc' := 1) dL_allowedRoutes_0 rfl rfl ?_
      refine X_iconst (pc' := 2) dL_allowedRoutes_1 rfl ?_
      refine X_aload_n (pc' := 3) dL_allowedRoutes_2 rfl rfl ?_
      refine X_iload_n (pc' := 4) dL_allowedRoutes_3 rfl rfl ?_
      refine Y_callHx (i := 3) (to := 13) [.int (iN v1)] (pc' := 7) dL_allowedRoutes_4 rfl VL_146 (by decide) (zlN hN (by decide)) (congrArg Prod.fst (sh0 ln)) rfl rfl rfl (cs rfl) (cs rfl) rfl (CX5_allowedRoutes hN hz rv1 e) ⟨[], ⟨0, 9, 12, 29⟩, [], rfl, (fun _ h => nomatch h), by decide, by decide, ⟨"java/lang/IndexOutOfBoundsException", tq517, tq554⟩, by decide, Or.inl ⟨3, rfl, dL_allowedRoutes_12, rfl⟩⟩ (Or.inr rfl) (fun f => ?_)
      refine X_iconst (pc' := 14) dL_allowedRoutes_13 rfl ?_
      exact X_iret dL_allowedRoutes_14 rfl ⟨⟨h4 (n := 1) rfl, hz⟩, rfl, rfl⟩
    have h := if_f c0 h
    cases h
def fL_ladder (v1 : Int) (v2 : Int) (z : ZZ) : Option (Int × ZZ) := Option.bind (fX5_ladder v1 v2 z) fun q => match q with | .inl r => some (0, zup z 159 0 r) | .inr E => (if E = 0 then some (1, z) else (if E = 1 then some (2, z) else (if E = 3 then some (3, z) else none)))
set_option maxRecDepth 100000 in
theorem CL_ladder {ln N : Nat} {z : ZZ} {v1 : Int} {v2 : Int} (hN : 161 ≤ N ∧ N < 999999) (hz : okz z) (rv1 : inR v1) (rv2 : inR v2) {p : Int × ZZ} (h : fL_ladder v1 v2 z = some p) : X mL_ladder 0 (xEnt [.ref 0, .int (iN v1), .int (iN v2), .ref 159] (xL mL_ladder)) [] (zmk ln N z) (cc_h p) (6 * cc_h p) (Qd (fa_h p) (rs_h p) (st_h ln N p)) := by
  unfold fL_ladder at h
  obtain ⟨r | E, e, h⟩ := bs h
  · cases h
    refine X_to (M := [some (.ref 0), some (.int (iN v1)), some (.int (iN v2)), some (.ref 159), none]) (su := []) rfl rfl ?_
    refine X_aload_n (pc' := 1) dL_ladder_0 rfl rfl ?_
    refine X_iconst (pc' := 2) dL_ladder_1 rfl ?_
    refine X_aload_n (pc' := 3) dL_ladder_2 rfl rfl ?_
    refine X_iload_n (pc' := 4) dL_ladder_3 rfl rfl ?_
    refine X_iload_n (pc' := 5) dL_ladder_4 rfl rfl ?_
    refine Y_callH [.int (iN v1), .int (iN v2)] (pc' := 8) dL_ladder_5 rfl VL_149 (by decide) (zlN hN (by decide)) (congrArg Prod.fst (sh0 ln)) rfl rfl rfl (cs rfl) (cs rfl) rfl (CX5_ladder hN hz rv1 rv2 e) (c7 := 0) (s7 := 0) rfl rfl (fun f => ?_)
    refine X_lI_i2l (pc' := 9) dL_ladder_8 rfl f ?_
    refine Y_last (pc' := 10) dL_ladder_9 rfl (zlN hN (by decide)) (sh159 ln) (by decide) ⟨by decide, by decide⟩ ?_
    refine X_goto dL_ladder_10 (tgt := 25) rfl ?_
    refine X_iconst (pc' := 26) dL_ladder_25 rfl ?_
    exact X_iret dL_ladder_26 rfl ⟨⟨h4 (n := 0) rfl, okz_up hz f⟩, rfl, rfl⟩
  · by_cases c0 : E = 0
    · have h := if_t c0 h
      cases h
      subst c0
      refine X_to (M := [some (.ref 0), some (.int (iN v1)), some (.int (iN v2)), some (.ref 159), none]) (su := []) rfl rfl ?_
      refine X_aload_n (pc' := 1) dL_ladder_0 rfl rfl ?_
      refine X_iconst (pc' := 2) dL_ladder_1 rfl ?_
      refine X_aload_n (pc' := 3) dL_ladder_2 rfl rfl ?_
      refine X_iload_n (pc' := 4) dL_ladder_3 rfl rfl ?_
      refine X_iload_n (pc' := 5) dL_ladder_4 rfl rfl ?_
      refine Y_callHx (i := 4) (to := 15) [.int (iN v1), .int (iN v2)] (pc' := 8) dL_ladder_5 rfl VL_149 (by decide) (zlN hN (by decide)) (congrArg Prod.fst (sh0 ln)) rfl rfl rfl (cs rfl) (cs rfl) rfl (CX5_ladder hN hz rv1 rv2 e) ⟨[], ⟨0, 10, 13, 29⟩, [⟨0, 10, 17, 19⟩, ⟨0, 10, 21, 107⟩], rfl, (fun _ h => nomatch h), by decide, by decide, ⟨"java/lang/IndexOutOfBoundsException", tq517, tq554⟩, by decide, Or.inr ⟨dL_ladder_13, rfl⟩⟩ (Or.inr rfl) (fun f => ?_)
      refine X_iconst (pc' := 16) dL_ladder_15 rfl ?_
      exact X_iret dL_ladder_16 rfl ⟨⟨h4 (n := 1) rfl, hz⟩, rfl, rfl⟩
    have h := if_f c0 h
    by_cases c1 : E = 1
    · have h := if_t c1 h
      cases h
      subst c1
      refine X_to (M := [some (.ref 0), some (.int (iN v1)), some (.int (iN v2)), some (.ref 159), none]) (su := []) rfl rfl ?_
      refine X_aload_n (pc' := 1) dL_ladder_0 rfl rfl ?_
      refine X_iconst (pc' := 2) dL_ladder_1 rfl ?_
      refine X_aload_n (pc' := 3) dL_ladder_2 rfl rfl ?_
      refine X_iload_n (pc' := 4) dL_ladder_3 rfl rfl ?_
      refine X_iload_n (pc' := 5) dL_ladder_4 rfl rfl ?_
      refine Y_callHx (i := 4) (to := 19) [.int (iN v1), .int (iN v2)] (pc' := 8) dL_ladder_5 rfl VL_149 (by decide) (zlN hN (by decide)) (congrArg Prod.fst (sh0 ln)) rfl rfl rfl (cs rfl) (cs rfl) rfl (CX5_ladder hN hz rv1 rv2 e) ⟨[⟨0, 10, 13, 29⟩], ⟨0, 10, 17, 19⟩, [⟨0, 10, 21, 107⟩], rfl, (List.forall_mem_cons.mpr ⟨Or.inr ⟨by decide, "java/lang/IndexOutOfBoundsException", tq517, List.mem_of_getElem? (i := 32) rfl⟩, (fun _ h => nomatch h)⟩), by decide, by decide, ⟨"java/lang/IllegalArgumentException", tq477, tq487⟩, by decide, Or.inr ⟨dL_ladder_17, rfl⟩⟩ (Or.inr rfl) (fun f => ?_)
      refine X_iconst (pc' := 20) dL_ladder_19 rfl ?_
      exact X_iret dL_ladder_20 rfl ⟨⟨h4 (n := 2) rfl, hz⟩, rfl, rfl⟩
    have h := if_f c1 h
    by_cases c2 : E = 3
    · have h := if_t c2 h
      cases h
      subst c2
      refine X_to (M := [some (.ref 0), some (.int (iN v1)), some (.int (iN v2)), some (.ref 159), none]) (su := []) rfl rfl ?_
      refine X_aload_n (pc' := 1) dL_ladder_0 rfl rfl ?_
      refine X_iconst (pc' := 2) dL_ladder_1 rfl ?_
      refine X_aload_n (pc' := 3) dL_ladder_2 rfl rfl ?_
      refine X_iload_n (pc' := 4) dL_ladder_3 rfl rfl ?_
      refine X_iload_n (pc' := 5) dL_ladder_4 rfl rfl ?_
      refine Y_callHx (i := 4) (to := 23) [.int (iN v1), .int (iN v2)] (pc' := 8) dL_ladder_5 rfl VL_149 (by decide) (zlN hN (by decide)) (congrArg Prod.fst (sh0 ln)) rfl rfl rfl (cs rfl) (cs rfl) rfl (CX5_ladder hN hz rv1 rv2 e) ⟨[⟨0, 10, 13, 29⟩, ⟨0, 10, 17, 19⟩], ⟨0, 10, 21, 107⟩, [], rfl, (List.forall_mem_cons.mpr ⟨Or.inr ⟨by decide, "java/lang/IndexOutOfBoundsException", tq517, List.mem_of_getElem? (i := 34) rfl⟩, (List.forall_mem_cons.mpr ⟨Or.inr ⟨by decide, "java/lang/IllegalArgumentException", tq477, List.mem_of_getElem? (i := 23) rfl⟩, (fun _ h => nomatch h)⟩)⟩), by decide, by decide, ⟨"java/util/NoSuchElementException", tq935, tq942⟩, by decide, Or.inr ⟨dL_ladder_21, rfl⟩⟩ (Or.inr rfl) (fun f => ?_)
      refine X_iconst (pc' := 24) dL_ladder_23 rfl ?_
      exact X_iret dL_ladder_24 rfl ⟨⟨h4 (n := 3) rfl, hz⟩, rfl, rfl⟩
    have h := if_f c2 h
    cases h

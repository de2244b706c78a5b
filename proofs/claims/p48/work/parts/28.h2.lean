def fX6_grade_ (v0 : Int) (v1 : Int) (D : DD) : Option (Int × DD) := (Option.bind (fX6_grade (v0) (v1) (0) (0) D) fun q1 => match q1 with | (r1, D1) => (if dO D (v0) 7 then some (r1, D1) else none))
set_option maxRecDepth 100000 in
theorem CX6_grade_ {ln : Nat} {D : DD} {z : ZZ} {v0 : Int} {v1 : Int} (hD : okD D) (rv0 : gdV D v0) (rv1 : gdV D v1) {p : Int × DD} (h : fX6_grade_ v0 v1 D = some p) : XD mX6_grade_ 0 (xEnt [rV (v0), rV (v1)] (xL mX6_grade_)) [] ln D z (Qd (FdD D p.2 (inR p.1)) (.inl (some (.int (iN p.1)))) (sD ln p.2 z)) := by
  have k : K_wi (Qd (FdD D p.2 (inR p.1)) (.inl (some (.int (iN p.1)))) (sD ln p.2 z)) ln D z p := fun a b c => ⟨⟨a, b, c⟩, rfl, rfl⟩
  unfold fX6_grade_ at h
  refine E_ent (c1_r (c1_r c1_n)) (M := [some (rV (v0)), some (rV (v1))]) rfl ?_
  refine E_aload_n (pc' := 1) dX6_grade__0 rfl rfl ?_
  refine E_aload_n (pc' := 2) dX6_grade__1 rfl rfl ?_
  refine X_iconst (pc' := 3) dX6_grade__2 rfl ?_
  refine X_iconst (pc' := 4) dX6_grade__3 rfl ?_
  obtain ⟨⟨r1, D1⟩, q1, h⟩ := bs h
  obtain ⟨g2, h⟩ := gs h
  refine E_callV [rV (v1), .int (iN (0)), .int (iN (0))] (pc' := 7) dX6_grade__4 rfl (xVc VX6_168) (by decide) ⟨dO_pos g2, dO_is hD g2 rfl⟩ rfl (c1_r (c1_i (c1_i c1_n))) (cs rfl) c1_n (cs rfl) rfl hD (CX6_grade hD rv0 rv1 (inR_c (n := 0) rfl) (inR_c (n := 0) rfl) q1) (fun a1 b1 f1 => ?_)
  cases h
  exact X_iret dX6_grade__7 rfl (k a1 b1 f1)
def fX6_isClosed (v0 : Int) (v1 : Int) (D : DD) : Option (Int) := (if dO D (v0) 7 then (Option.bind (fJx4a65c_get_915e3 ((dW D (v0) 4)) (v1) D) fun r2 => (if dO D ((dW D (v0) 4)) 9 then (if dO D (r2) 20 then (if (0 : Int) ≤ (3) ∧ (3 : Int) < ((dH D (r2)).2 : Int) then (if ((dW D (r2) (3))) = ((dW D (v0) 3)) then some (1) else some (0)) else none) else none) else none)) else none)
set_option maxRecDepth 100000 in
theorem CX6_isClosed {ln : Nat} {D : DD} {z : ZZ} {v0 : Int} {v1 : Int} (hD : okD D) (rv0 : gdV D v0) (rv1 : inR v1) {p : Int} (h : fX6_isClosed v0 v1 D = some p) : XD mX6_isClosed 0 (xEnt [rV (v0), .int (iN (v1))] (xL mX6_isClosed)) [] ln D z (Qd (FdD D D (p = 0 ∨ p = 1)) (.inl (some (.int (iN p)))) (sD ln D z)) := by
  have k : K_b (Qd (FdD D D (p = 0 ∨ p = 1)) (.inl (some (.int (iN p)))) (sD ln D z)) ln D z p := fun a => ⟨⟨hD, DLe_refl D, a⟩, rfl, rfl⟩
  unfold fX6_isClosed at h
  refine E_ent (c1_r (c1_i c1_n)) (M := [some (rV (v0)), some (.int (iN (v1)))]) rfl ?_
  refine E_aload_n (pc' := 1) dX6_isClosed_0 rfl rfl ?_
  obtain ⟨g1, h⟩ := gs h
  refine E_getR (pc' := 4) dX6_isClosed_1 rfl FX6_24_6 hD g1 rfl (j := 4) rfl ?_
  refine X_iload_n (pc' := 5) dX6_isClosed_4 rfl rfl ?_
  obtain ⟨r2, q2, h⟩ := bs h
  obtain ⟨g3, h⟩ := gs h
  refine E_callV [.int (iN (v1))] (pc' := 8) dX6_isClosed_5 rfl (xVc VX6_154) (by decide) ⟨dO_pos g3, dO_is hD g3 rfl⟩ rfl (c1_i c1_n) (cs rfl) c1_n (cs rfl) rfl hD (CJx4a65c_get_915e3 hD (gd_slot (k := 4) hD g1 rfl (by decide)) rv1 q2) (fun a2 b2 f2 => ?_)
  obtain ⟨g4, h⟩ := gs h
  refine E_cast (pc' := 11) dX6_isClosed_8 rfl tq526 (dO_pos g4) (dO_isI hD g4) ?_
  refine X_iconst (pc' := 12) dX6_isClosed_11 rfl ?_
  obtain ⟨g5, h⟩ := gs h
  refine E_iald (pc' := 13) dX6_isClosed_12 rfl hD g4 g5 ?_
  refine E_aload_n (pc' := 14) dX6_isClosed_13 rfl rfl ?_
  refine E_getI (pc' := 17) dX6_isClosed_14 rfl FX6_43_6 hD g1 rfl (j := 3) rfl ?_
  refine X_icmp_ne dX6_isClosed_17 (tgt := 24) rfl (pc' := 20) rfl ⟨(in_at hD g4 (Or.inl rfl) g5.1).1, (in_at hD g4 (Or.inl rfl) g5.1).2, (in_slot (k := 3) hD g1 rfl (by decide)).1, (in_slot (k := 3) hD g1 rfl (by decide)).2⟩ (fun c6 => ?_) (fun c6 => ?_)
  · have h := if_f c6 h
    refine X_iconst (pc' := 25) dX6_isClosed_24 rfl ?_
    cases h
    exact X_zret dX6_isClosed_25 rfl (Or.inl rfl) (k (Or.inl rfl))
  have h := if_t c6 h
  refine X_iconst (pc' := 21) dX6_isClosed_20 rfl ?_
  refine X_goto dX6_isClosed_21 (tgt := 25) rfl ?_
  cases h
  exact X_zret dX6_isClosed_25 rfl (Or.inr rfl) (k (Or.inr rfl))
def fX6_isLent_s8 (v1 : Int) (v2 : Int) (D : DD) : Option ((DD) ⊕ ((DD) ⊕ (Int × DD))) := (Option.bind (fJx35411_hasNext_aae02 (v2) D) fun r1 => (if dO D (v2) 10 then (if (r1) = (0) then some (.inr (.inl D)) else (Option.bind (fJx35411_next_0502b (v2) D) fun q4 => match q4 with | (r4, D4) => (if dO D4 (r4) 20 then (if (0 : Int) ≤ (3) ∧ (3 : Int) < ((dH D4 (r4)).2 : Int) then (if ((dW D4 (r4) (3))) = (v1) then some (.inr (.inr ((1, D4)))) else some (.inl D4)) else none) else none))) else none))
set_option maxRecDepth 100000 in
theorem SX6_isLent_8 {ln : Nat} {D : DD} {z : ZZ} {v1 : Int} {v2 : Int} {Φ : xRes → xS → Prop} (hD : okD D) (rv1 : inR v1) (rv2 : gdV D v2) {p : (DD) ⊕ ((DD) ⊕ (Int × DD))} (h : fX6_isLent_s8 v1 v2 D = some p) (k1 : ∀ (D' : DD), p = .inl D' → okD D' → DLe D D' → XD mX6_isLent 8 [none, some (.int (iN (v1))), some (rV (v2)), none] [] ln D' z Φ) (k2 : ∀ (D' : DD), p = .inr (.inl D') → okD D' → DLe D D' → XD mX6_isLent 39 [none, none, none, none] [] ln D' z Φ) (k3 : ∀ t, p = .inr (.inr t) → K_wb Φ ln D z t) : XD mX6_isLent 8 [none, some (.int (iN (v1))), some (rV (v2)), none] [] ln D z Φ := by
  unfold fX6_isLent_s8 at h
  refine E_aload_n (pc' := 9) dX6_isLent_8 rfl rfl ?_
  obtain ⟨r1, q1, h⟩ := bs h
  obtain ⟨g2, h⟩ := gs h
  refine E_callF [] (pc' := 14) dX6_isLent_9 rfl F_X6_50_Jx35411 (by decide) ⟨dO_pos g2, dO_is hD g2 rfl⟩ rfl c1_n (cs rfl) c1_n (cs rfl) rfl hD (CJx35411_hasNext_aae02 hD rv2 q1) (fun a1 b1 f1 => ?_)
  refine X_if_eq dX6_isLent_14 (tgt := 39) rfl (pc' := 17) rfl (inR_b f1) (fun c3 => ?_) (fun c3 => ?_)
  · have h := if_t c3 h
    cases h
    exact X_sub (sub_n (sub_n (sub_n (sub_n sub_0)))) (k2 _ rfl hD (DLe_refl _))
  have h := if_f c3 h
  refine E_aload_n (pc' := 18) dX6_isLent_17 rfl rfl ?_
  obtain ⟨⟨r4, D4⟩, q4, h⟩ := bs h
  refine E_callF [] (pc' := 23) dX6_isLent_18 rfl F_X6_56_Jx35411 (by decide) ⟨dO_pos g2, dO_is hD g2 rfl⟩ rfl c1_n (cs rfl) c1_n (cs rfl) rfl hD (CJx35411_next_0502b hD rv2 q4) (fun a4 b4 f4 => ?_)
  obtain ⟨g5, h⟩ := gs h
  refine E_cast (pc' := 26) dX6_isLent_23 rfl tq526 (dO_pos g5) (dO_isI a4 g5) ?_
  refine E_astore_n (pc' := 27) dX6_isLent_26 rfl (cl rfl) (Or.inr (xC1_R _)) (L' := [none, some (.int (iN (v1))), some (rV (v2)), some (rV (r4))]) rfl ?_
  refine E_aload_n (pc' := 28) dX6_isLent_27 rfl rfl ?_
  refine X_iconst (pc' := 29) dX6_isLent_28 rfl ?_
  obtain ⟨g6, h⟩ := gs h
  refine E_iald (pc' := 30) dX6_isLent_29 rfl a4 g5 g6 ?_
  refine X_iload_n (pc' := 31) dX6_isLent_30 rfl rfl ?_
  refine X_icmp_ne dX6_isLent_31 (tgt := 36) rfl (pc' := 34) rfl ⟨(in_at a4 g5 (Or.inl rfl) g6.1).1, (in_at a4 g5 (Or.inl rfl) g6.1).2, rv1.1, rv1.2⟩ (fun c7 => ?_) (fun c7 => ?_)
  · have h := if_f c7 h
    refine X_goto dX6_isLent_36 (tgt := 8) rfl ?_
    cases h
    exact X_sub (sub_n (sub_s (sub_s (sub_n sub_0)))) (k1 _ rfl a4 b4)
  have h := if_t c7 h
  refine X_iconst (pc' := 35) dX6_isLent_34 rfl ?_
  cases h
  exact X_zret dX6_isLent_35 rfl (Or.inr rfl) ((k3 _ rfl) a4 b4 (Or.inr rfl))
theorem LX6_isLent_8 {ln : Nat} {z : ZZ} {v1 : Int} {v2 : Int} {Φ : xRes → xS → Prop} {r : (DD) ⊕ (Int × DD)} : ∀ (n : Nat) (D : DD), okD D → inR v1 → gdV D v2 → zlp (fun q => fX6_isLent_s8 v1 v2 q) n D = some r → (∀ (D' : DD), r = .inl D' → okD D' → DLe D D' → XD mX6_isLent 39 [none, none, none, none] [] ln D' z Φ) → (∀ t, r = .inr t → K_wb Φ ln D z t) → XD mX6_isLent 8 [none, some (.int (iN (v1))), some (rV (v2)), none] [] ln D z Φ := by
  intro n
  induction n with
  | zero => intro D hD rv1 rv2 h k2 k3; cases h
  | succ n ih =>
    intro D hD rv1 rv2 h k2 k3
    rcases zlp_s h with ⟨D', e, h'⟩ | e
    · exact SX6_isLent_8 hD rv1 rv2 e (fun D₁ hh a b => by cases hh; exact ih _ a rv1 (gdV_le b rv2) h' (fun D9 hh a' b' => k2 D9 hh a' (DLe_trans b b')) (fun t hh a' b' c' => k3 t hh a' (DLe_trans b b') c')) (fun D9 hh => by cases hh) (fun t hh => by cases hh)
    · exact SX6_isLent_8 hD rv1 rv2 e (fun D₁ hh => by cases hh) (fun D9 hh a b => by cases hh; exact k2 _ rfl a b ) (fun t hh => by cases hh; exact k3 t rfl)
def fX6_isLent (v0 : Int) (v1 : Int) (D : DD) : Option (Int × DD) := (if dO D (v0) 7 then (Option.bind (fJx4a65c_iterator_32c93 ((dW D (v0) 7)) D) fun q2 => match q2 with | (r2, D2) => (if dO D ((dW D (v0) 7)) 9 then (Option.bind (zlp (fun q => fX6_isLent_s8 (v1) (r2) q) FU D2) fun q4 => match q4 with | .inl D4 => some (0, D4) | .inr y4 => some y4) else none)) else none)
set_option maxRecDepth 100000 in
theorem CX6_isLent {ln : Nat} {D : DD} {z : ZZ} {v0 : Int} {v1 : Int} (hD : okD D) (rv0 : gdV D v0) (rv1 : inR v1) {p : Int × DD} (h : fX6_isLent v0 v1 D = some p) : XD mX6_isLent 0 (xEnt [rV (v0), .int (iN (v1))] (xL mX6_isLent)) [] ln D z (Qd (FdD D p.2 (p.1 = 0 ∨ p.1 = 1)) (.inl (some (.int (iN p.1)))) (sD ln p.2 z)) := by
  have k : K_wb (Qd (FdD D p.2 (p.1 = 0 ∨ p.1 = 1)) (.inl (some (.int (iN p.1)))) (sD ln p.2 z)) ln D z p := fun a b c => ⟨⟨a, b, c⟩, rfl, rfl⟩
  unfold fX6_isLent at h
  refine E_ent (c1_r (c1_i c1_n)) (M := [some (rV (v0)), some (.int (iN (v1))), none, none]) rfl ?_
  refine E_aload_n (pc' := 1) dX6_isLent_0 rfl rfl ?_
  obtain ⟨g1, h⟩ := gs h
  refine E_getR (pc' := 4) dX6_isLent_1 rfl FX6_34_6 hD g1 rfl (j := 7) rfl ?_
  obtain ⟨⟨r2, D2⟩, q2, h⟩ := bs h
  obtain ⟨g3, h⟩ := gs h
  refine E_callV [] (pc' := 7) dX6_isLent_4 rfl (xVc VX6_46) (by decide) ⟨dO_pos g3, dO_is hD g3 rfl⟩ rfl c1_n (cs rfl) c1_n (cs rfl) rfl hD (CJx4a65c_iterator_32c93 hD (gd_slot (k := 7) hD g1 rfl (by decide)) q2) (fun a2 b2 f2 => ?_)
  refine E_astore_n (pc' := 8) dX6_isLent_7 rfl (cl rfl) (Or.inr rfl) (L' := [some (rV (v0)), some (.int (iN (v1))), some (rV (r2)), none]) rfl ?_
  obtain ⟨D4 | y4, q4, h⟩ := bs h
  rotate_left
  · exact X_sub (sub_n (sub_s (sub_s (sub_n sub_0)))) (LX6_isLent_8 FU _ a2 rv1 f2 q4 (fun D4₁ hh hD4 le4 => by cases hh) (fun t hh a b c => by cases hh; cases h; exact k a (DLe_trans b2 b) c))
  refine X_sub (sub_n (sub_s (sub_s (sub_n sub_0)))) (LX6_isLent_8 FU _ a2 rv1 f2 q4 (fun D4₁ hh hD4 le4 => ?_) (fun t hh => by cases hh))
  cases hh
  refine X_iconst (pc' := 40) dX6_isLent_39 rfl ?_
  cases h
  exact X_zret dX6_isLent_40 rfl (Or.inl rfl) (k hD4 (DLe_trans b2 le4) (Or.inl rfl))
def fX6_inForce (v0 : Int) (v1 : Int) (v2 : Int) (D : DD) : Option (Int) := (if dO D (v0) 7 then (Option.bind (fJx4a65c_get_915e3 ((dW D (v0) 6)) (v1) D) fun r2 => (if dO D ((dW D (v0) 6)) 9 then (if dO D (r2) 20 then (if (0 : Int) ≤ (3) ∧ (3 : Int) < ((dH D (r2)).2 : Int) then (if ((dW D (r2) (3))) = (0) then (Option.bind (fJx4a65c_get_915e3 ((dW D (v0) 6)) (v1) D) fun r7 => (if dO D (r7) 20 then (if (0 : Int) ≤ (1) ∧ (1 : Int) < ((dH D (r7)).2 : Int) then (Option.bind (fJx4a65c_get_915e3 ((dW D (v0) 6)) (v1) D) fun r10 => (if dO D (r10) 20 then (if (0 : Int) ≤ (2) ∧ (2 : Int) < ((dH D (r10)).2 : Int) then (if inR (((dW D (r7) (1)) + (dW D (r10) (2)))) then (if (v2) < (((dW D (r7) (1)) + (dW D (r10) (2)))) then some (1) else some (0)) else none) else none) else none)) else none) else none)) else some (0)) else none) else none) else none)) else none)
set_option maxRecDepth 100000 in
theorem CX6_inForce {ln : Nat} {D : DD} {z : ZZ} {v0 : Int} {v1 : Int} {v2 : Int} (hD : okD D) (rv0 : gdV D v0) (rv1 : inR v1) (rv2 : inR v2) {p : Int} (h : fX6_inForce v0 v1 v2 D = some p) : XD mX6_inForce 0 (xEnt [rV (v0), .int (iN (v1)), .int (iN (v2))] (xL mX6_inForce)) [] ln D z (Qd (FdD D D (p = 0 ∨ p = 1)) (.inl (some (.int (iN p)))) (sD ln D z)) := by
  have k : K_b (Qd (FdD D D (p = 0 ∨ p = 1)) (.inl (some (.int (iN p)))) (sD ln D z)) ln D z p := fun a => ⟨⟨hD, DLe_refl D, a⟩, rfl, rfl⟩
  unfold fX6_inForce at h
  refine E_ent (c1_r (c1_i (c1_i c1_n))) (M := [some (rV (v0)), some (.int (iN (v1))), some (.int (iN (v2)))]) rfl ?_
  refine E_aload_n (pc' := 1) dX6_inForce_0 rfl rfl ?_
  obtain ⟨g1, h⟩ := gs h
  refine E_getR (pc' := 4) dX6_inForce_1 rfl FX6_31_6 hD g1 rfl (j := 6) rfl ?_
  refine X_iload_n (pc' := 5) dX6_inForce_4 rfl rfl ?_
  obtain ⟨r2, q2, h⟩ := bs h
  obtain ⟨g3, h⟩ := gs h
  refine E_callV [.int (iN (v1))] (pc' := 8) dX6_inForce_5 rfl (xVc VX6_154) (by decide) ⟨dO_pos g3, dO_is hD g3 rfl⟩ rfl (c1_i c1_n) (cs rfl) c1_n (cs rfl) rfl hD (CJx4a65c_get_915e3 hD (gd_slot (k := 6) hD g1 rfl (by decide)) rv1 q2) (fun a2 b2 f2 => ?_)
  obtain ⟨g4, h⟩ := gs h
  refine E_cast (pc' := 11) dX6_inForce_8 rfl tq526 (dO_pos g4) (dO_isI hD g4) ?_
  refine X_iconst (pc' := 12) dX6_inForce_11 rfl ?_
  obtain ⟨g5, h⟩ := gs h
  refine E_iald (pc' := 13) dX6_inForce_12 rfl hD g4 g5 ?_
  refine X_if_ne dX6_inForce_13 (tgt := 51) rfl (pc' := 16) rfl (in_at hD g4 (Or.inl rfl) g5.1) (fun c6 => ?_) (fun c6 => ?_)
  · have h := if_f c6 h
    refine X_iconst (pc' := 52) dX6_inForce_51 rfl ?_
    cases h
    exact X_zret dX6_inForce_52 rfl (Or.inl rfl) (k (Or.inl rfl))
  have h := if_t c6 h
  refine X_iload_n (pc' := 17) dX6_inForce_16 rfl rfl ?_
  refine E_aload_n (pc' := 18) dX6_inForce_17 rfl rfl ?_
  refine E_getR (pc' := 21) dX6_inForce_18 rfl FX6_31_6 hD g1 rfl (j := 6) rfl ?_
  refine X_iload_n (pc' := 22) dX6_inForce_21 rfl rfl ?_
  obtain ⟨r7, q7, h⟩ := bs h
  refine E_callV [.int (iN (v1))] (pc' := 25) dX6_inForce_22 rfl (xVc VX6_154) (by decide) ⟨dO_pos g3, dO_is hD g3 rfl⟩ rfl (c1_i c1_n) (cs rfl) (c1_i c1_n) (cs rfl) rfl hD (CJx4a65c_get_915e3 hD (gd_slot (k := 6) hD g1 rfl (by decide)) rv1 q7) (fun a7 b7 f7 => ?_)
  obtain ⟨g8, h⟩ := gs h
  refine E_cast (pc' := 28) dX6_inForce_25 rfl tq526 (dO_pos g8) (dO_isI hD g8) ?_
  refine X_iconst (pc' := 29) dX6_inForce_28 rfl ?_
  obtain ⟨g9, h⟩ := gs h
  refine E_iald (pc' := 30) dX6_inForce_29 rfl hD g8 g9 ?_
  refine E_aload_n (pc' := 31) dX6_inForce_30 rfl rfl ?_
  refine E_getR (pc' := 34) dX6_inForce_31 rfl FX6_31_6 hD g1 rfl (j := 6) rfl ?_
  refine X_iload_n (pc' := 35) dX6_inForce_34 rfl rfl ?_
  obtain ⟨r10, q10, h⟩ := bs h
  refine E_callV [.int (iN (v1))] (pc' := 38) dX6_inForce_35 rfl (xVc VX6_154) (by decide) ⟨dO_pos g3, dO_is hD g3 rfl⟩ rfl (c1_i c1_n) (cs rfl) (c1_i (c1_i c1_n)) (cs rfl) rfl hD (CJx4a65c_get_915e3 hD (gd_slot (k := 6) hD g1 rfl (by decide)) rv1 q10) (fun a10 b10 f10 => ?_)
  obtain ⟨g11, h⟩ := gs h
  refine E_cast (pc' := 41) dX6_inForce_38 rfl tq526 (dO_pos g11) (dO_isI hD g11) ?_
  refine X_iconst (pc' := 42) dX6_inForce_41 rfl ?_
  obtain ⟨g12, h⟩ := gs h
  refine E_iald (pc' := 43) dX6_inForce_42 rfl hD g11 g12 ?_
  refine X_iadd (pc' := 44) dX6_inForce_43 rfl ?_
  obtain ⟨g14, h⟩ := gs h
  refine X_icmp_ge dX6_inForce_44 (tgt := 51) rfl (pc' := 47) rfl ⟨rv2.1, rv2.2, g14.1, g14.2⟩ (fun c13 => ?_) (fun c13 => ?_)
  · have h := if_f (Int.not_lt.mpr c13) h
    refine X_iconst (pc' := 52) dX6_inForce_51 rfl ?_
    cases h
    exact X_zret dX6_inForce_52 rfl (Or.inl rfl) (k (Or.inl rfl))
  have h := if_t c13 h
  refine X_iconst (pc' := 48) dX6_inForce_47 rfl ?_
  refine X_goto dX6_inForce_48 (tgt := 52) rfl ?_
  cases h
  exact X_zret dX6_inForce_52 rfl (Or.inr rfl) (k (Or.inr rfl))
def fX6_mayClimb (v0 : Int) (v1 : Int) (v2 : Int) (D : DD) : Option (Int) := (if dO D (v0) 7 then (Option.bind (fJx4a65c_get_915e3 ((dW D (v0) 7)) (v1) D) fun r2 => (if dO D ((dW D (v0) 7)) 9 then (if dO D (r2) 20 then (Option.bind (fJx4a65c_get_915e3 ((dW D (v0) 5)) (v2) D) fun r5 => (if dO D ((dW D (v0) 5)) 9 then (if dO D (r5) 8 then (Option.bind (fX6_isClosed (v0) ((dW D (r5) 0)) D) fun r8 => (if (r8) = (0) then (if (0 : Int) ≤ (1) ∧ (1 : Int) < ((dH D (r2)).2 : Int) then (Option.bind (fJx4a65c_get_915e3 ((dW D (v0) 4)) ((dW D (r5) 0)) D) fun r11 => (if dO D ((dW D (v0) 4)) 9 then (if dO D (r11) 20 then (if (0 : Int) ≤ (1) ∧ (1 : Int) < ((dH D (r11)).2 : Int) then (if ((dW D (r2) (1))) < ((dW D (r11) (1))) then some (0) else (if (0 : Int) ≤ (3) ∧ (3 : Int) < ((dH D (r2)).2 : Int) then (if ((dW D (r2) (3))) = ((-1)) then some (0) else (Option.bind (fX6_inForce (v0) ((dW D (r2) (3))) ((dW D (v0) 3)) D) fun r18 => (if (r18) = (0) then some (0) else (if ((dW D (r5) 3)) < ((dW D (v0) 2)) then some (1) else some (0))))) else none)) else none) else none) else none)) else none) else some (0))) else none) else none)) else none) else none)) else none)
set_option maxRecDepth 100000 in
theorem CX6_mayClimb {ln : Nat} {D : DD} {z : ZZ} {v0 : Int} {v1 : Int} {v2 : Int} (hD : okD D) (rv0 : gdV D v0) (rv1 : inR v1) (rv2 : inR v2) {p : Int} (h : fX6_mayClimb v0 v1 v2 D = some p) : XD mX6_mayClimb 0 (xEnt [rV (v0), .int (iN (v1)), .int (iN (v2))] (xL mX6_mayClimb)) [] ln D z (Qd (FdD D D (p = 0 ∨ p = 1)) (.inl (some (.int (iN p)))) (sD ln D z)) := by
  have k : K_b (Qd (FdD D D (p = 0 ∨ p = 1)) (.inl (some (.int (iN p)))) (sD ln D z)) ln D z p := fun a => ⟨⟨hD, DLe_refl D, a⟩, rfl, rfl⟩
  unfold fX6_mayClimb at h
  refine E_ent (c1_r (c1_i (c1_i c1_n))) (M := [some (rV (v0)), some (.int (iN (v1))), some (.int (iN (v2))), none, none]) rfl ?_
  refine E_aload_n (pc' := 1) dX6_mayClimb_0 rfl rfl ?_
  obtain ⟨g1, h⟩ := gs h
  refine E_getR (pc' := 4) dX6_mayClimb_1 rfl FX6_34_6 hD g1 rfl (j := 7) rfl ?_
  refine X_iload_n (pc' := 5) dX6_mayClimb_4 rfl rfl ?_
  obtain ⟨r2, q2, h⟩ := bs h
  obtain ⟨g3, h⟩ := gs h
  refine E_callV [.int (iN (v1))] (pc' := 8) dX6_mayClimb_5 rfl (xVc VX6_154) (by decide) ⟨dO_pos g3, dO_is hD g3 rfl⟩ rfl (c1_i c1_n) (cs rfl) c1_n (cs rfl) rfl hD (CJx4a65c_get_915e3 hD (gd_slot (k := 7) hD g1 rfl (by decide)) rv1 q2) (fun a2 b2 f2 => ?_)
  obtain ⟨g4, h⟩ := gs h
  refine E_cast (pc' := 11) dX6_mayClimb_8 rfl tq526 (dO_pos g4) (dO_isI hD g4) ?_
  refine E_astore_n (pc' := 12) dX6_mayClimb_11 rfl (cl rfl) (Or.inr rfl) (L' := [some (rV (v0)), some (.int (iN (v1))), some (.int (iN (v2))), some (rV (r2)), none]) rfl ?_
  refine E_aload_n (pc' := 13) dX6_mayClimb_12 rfl rfl ?_
  refine E_getR (pc' := 16) dX6_mayClimb_13 rfl FX6_28_6 hD g1 rfl (j := 5) rfl ?_
  refine X_iload_n (pc' := 17) dX6_mayClimb_16 rfl rfl ?_
  obtain ⟨r5, q5, h⟩ := bs h
  obtain ⟨g6, h⟩ := gs h
  refine E_callV [.int (iN (v2))] (pc' := 20) dX6_mayClimb_17 rfl (xVc VX6_154) (by decide) ⟨dO_pos g6, dO_is hD g6 rfl⟩ rfl (c1_i c1_n) (cs rfl) c1_n (cs rfl) rfl hD (CJx4a65c_get_915e3 hD (gd_slot (k := 5) hD g1 rfl (by decide)) rv2 q5) (fun a5 b5 f5 => ?_)
  obtain ⟨g7, h⟩ := gs h
  refine E_cast (pc' := 23) dX6_mayClimb_20 rfl tq598 (dO_pos g7) (dO_is hD g7 rfl) ?_
  refine E_astore (pc' := 25) dX6_mayClimb_23 rfl (cl rfl) (Or.inr (xC1_R _)) (L' := [some (rV (v0)), some (.int (iN (v1))), some (.int (iN (v2))), some (rV (r2)), some (rV (r5))]) rfl ?_
  refine E_aload_n (pc' := 26) dX6_mayClimb_25 rfl rfl ?_
  refine E_aload (pc' := 28) dX6_mayClimb_26 rfl rfl ?_
  refine E_getI (pc' := 31) dX6_mayClimb_28 rfl FX6_172_7 hD g7 rfl (j := 0) rfl ?_
  obtain ⟨r8, q8, h⟩ := bs h
  refine E_callV [.int (iN ((dW D (r5) 0)))] (pc' := 34) dX6_mayClimb_31 rfl (xVc VX6_174) (by decide) ⟨dO_pos g1, dO_is hD g1 rfl⟩ rfl (c1_i c1_n) (cs rfl) c1_n (cs rfl) rfl hD (CX6_isClosed hD rv0 (in_slot (k := 0) hD g7 rfl (by decide)) q8) (fun a8 b8 f8 => ?_)
  refine X_if_ne dX6_mayClimb_34 (tgt := 97) rfl (pc' := 37) rfl (inR_b f8) (fun c9 => ?_) (fun c9 => ?_)
  · have h := if_f c9 h
    refine X_iconst (pc' := 98) dX6_mayClimb_97 rfl ?_
    cases h
    exact X_zret dX6_mayClimb_98 rfl (Or.inl rfl) (k (Or.inl rfl))
  have h := if_t c9 h
  refine E_aload_n (pc' := 38) dX6_mayClimb_37 rfl rfl ?_
  refine X_iconst (pc' := 39) dX6_mayClimb_38 rfl ?_
  obtain ⟨g10, h⟩ := gs h
  refine E_iald (pc' := 40) dX6_mayClimb_39 rfl hD g4 g10 ?_
  refine E_aload_n (pc' := 41) dX6_mayClimb_40 rfl rfl ?_
  refine E_getR (pc' := 44) dX6_mayClimb_41 rfl FX6_24_6 hD g1 rfl (j := 4) rfl ?_
  refine E_aload (pc' := 46) dX6_mayClimb_44 rfl rfl ?_
  refine E_getI (pc' := 49) dX6_mayClimb_46 rfl FX6_172_7 hD g7 rfl (j := 0) rfl ?_
  obtain ⟨r11, q11, h⟩ := bs h
  obtain ⟨g12, h⟩ := gs h
  refine E_callV [.int (iN ((dW D (r5) 0)))] (pc' := 52) dX6_mayClimb_49 rfl (xVc VX6_154) (by decide) ⟨dO_pos g12, dO_is hD g12 rfl⟩ rfl (c1_i c1_n) (cs rfl) (c1_i c1_n) (cs rfl) rfl hD (CJx4a65c_get_915e3 hD (gd_slot (k := 4) hD g1 rfl (by decide)) (in_slot (k := 0) hD g7 rfl (by decide)) q11) (fun a11 b11 f11 => ?_)
  obtain ⟨g13, h⟩ := gs h
  refine E_cast (pc' := 55) dX6_mayClimb_52 rfl tq526 (dO_pos g13) (dO_isI hD g13) ?_
  refine X_iconst (pc' := 56) dX6_mayClimb_55 rfl ?_
  obtain ⟨g14, h⟩ := gs h
  refine E_iald (pc' := 57) dX6_mayClimb_56 rfl hD g13 g14 ?_
  refine X_icmp_lt dX6_mayClimb_57 (tgt := 97) rfl (pc' := 60) rfl ⟨(in_at hD g4 (Or.inl rfl) g10.1).1, (in_at hD g4 (Or.inl rfl) g10.1).2, (in_at hD g13 (Or.inl rfl) g14.1).1, (in_at hD g13 (Or.inl rfl) g14.1).2⟩ (fun c15 => ?_) (fun c15 => ?_)
  · have h := if_t c15 h
    refine X_iconst (pc' := 98) dX6_mayClimb_97 rfl ?_
    cases h
    exact X_zret dX6_mayClimb_98 rfl (Or.inl rfl) (k (Or.inl rfl))
  have h := if_f (Int.not_lt.mpr c15) h
  refine E_aload_n (pc' := 61) dX6_mayClimb_60 rfl rfl ?_
  refine X_iconst (pc' := 62) dX6_mayClimb_61 rfl ?_
  obtain ⟨g16, h⟩ := gs h
  refine E_iald (pc' := 63) dX6_mayClimb_62 rfl hD g4 g16 ?_
  refine X_iconst (pc' := 64) dX6_mayClimb_63 rfl ?_
  refine X_icmp_eq dX6_mayClimb_64 (tgt := 97) rfl (pc' := 67) rfl ⟨(in_at hD g4 (Or.inl rfl) g16.1).1, (in_at hD g4 (Or.inl rfl) g16.1).2, (inR_c (n := (-1)) rfl).1, (inR_c (n := (-1)) rfl).2⟩ (fun c17 => ?_) (fun c17 => ?_)
  · have h := if_t c17 h
    refine X_iconst (pc' := 98) dX6_mayClimb_97 rfl ?_
    cases h
    exact X_zret dX6_mayClimb_98 rfl (Or.inl rfl) (k (Or.inl rfl))
  have h := if_f c17 h
  refine E_aload_n (pc' := 68) dX6_mayClimb_67 rfl rfl ?_
  refine E_aload_n (pc' := 69) dX6_mayClimb_68 rfl rfl ?_
  refine X_iconst (pc' := 70) dX6_mayClimb_69 rfl ?_
  refine E_iald (pc' := 71) dX6_mayClimb_70 rfl hD g4 g16 ?_
  refine E_aload_n (pc' := 72) dX6_mayClimb_71 rfl rfl ?_
  refine E_getI (pc' := 75) dX6_mayClimb_72 rfl FX6_43_6 hD g1 rfl (j := 3) rfl ?_
  obtain ⟨r18, q18, h⟩ := bs h
  refine E_callV [.int (iN ((dW D (r2) (3)))), .int (iN ((dW D (v0) 3)))] (pc' := 78) dX6_mayClimb_75 rfl (xVc VX6_178) (by decide) ⟨dO_pos g1, dO_is hD g1 rfl⟩ rfl (c1_i (c1_i c1_n)) (cs rfl) c1_n (cs rfl) rfl hD (CX6_inForce hD rv0 (in_at hD g4 (Or.inl rfl) g16.1) (in_slot (k := 3) hD g1 rfl (by decide)) q18) (fun a18 b18 f18 => ?_)
  refine X_if_eq dX6_mayClimb_78 (tgt := 97) rfl (pc' := 81) rfl (inR_b f18) (fun c19 => ?_) (fun c19 => ?_)
  · have h := if_t c19 h
    refine X_iconst (pc' := 98) dX6_mayClimb_97 rfl ?_
    cases h
    exact X_zret dX6_mayClimb_98 rfl (Or.inl rfl) (k (Or.inl rfl))
  have h := if_f c19 h
  refine E_aload (pc' := 83) dX6_mayClimb_81 rfl rfl ?_
  refine E_getI (pc' := 86) dX6_mayClimb_83 rfl FX6_182_7 hD g7 rfl (j := 3) rfl ?_
  refine E_aload_n (pc' := 87) dX6_mayClimb_86 rfl rfl ?_
  refine E_getI (pc' := 90) dX6_mayClimb_87 rfl FX6_18_6 hD g1 rfl (j := 2) rfl ?_
  refine X_icmp_ge dX6_mayClimb_90 (tgt := 97) rfl (pc' := 93) rfl ⟨(in_slot (k := 3) hD g7 rfl (by decide)).1, (in_slot (k := 3) hD g7 rfl (by decide)).2, (in_slot (k := 2) hD g1 rfl (by decide)).1, (in_slot (k := 2) hD g1 rfl (by decide)).2⟩ (fun c20 => ?_) (fun c20 => ?_)
  · have h := if_f (Int.not_lt.mpr c20) h
    refine X_iconst (pc' := 98) dX6_mayClimb_97 rfl ?_
    cases h
    exact X_zret dX6_mayClimb_98 rfl (Or.inl rfl) (k (Or.inl rfl))
  have h := if_t c20 h
  refine X_iconst (pc' := 94) dX6_mayClimb_93 rfl ?_
  refine X_goto dX6_mayClimb_94 (tgt := 98) rfl ?_
  cases h
  exact X_zret dX6_mayClimb_98 rfl (Or.inr rfl) (k (Or.inr rfl))
def fX6_onWall_b45 (v1 : Int) (v3 : Int) (s0 : Int) (s1 : Int) (D : DD) : Option ((Int × DD) ⊕ (Int × DD)) := (if inR ((s0 + s1)) then some (.inl ((s0 + s1), D)) else none)
set_option maxRecDepth 100000 in
theorem BX6_onWall_45 {ln : Nat} {D : DD} {z : ZZ} {v1 : Int} {v3 : Int} {s0 : Int} {s1 : Int} {Φ : xRes → xS → Prop} (hD : okD D) (rv1 : inR v1) (rv3 : gdV D v3) (rs0 : inR s0) (rs1 : inR s1) {p : (Int × DD) ⊕ (Int × DD)} (h : fX6_onWall_b45 v1 v3 s0 s1 D = some p) (k1 : ∀ (v2' : Int) (D' : DD), p = .inl (v2', D') → okD D' → DLe D D' → inR v2' → XD mX6_onWall 10 [none, some (.int (iN (v1))), some (.int (iN (v2'))), some (rV (v3)), none] [] ln D' z Φ) (k2 : ∀ (v2' : Int) (D' : DD), p = .inr (v2', D') → okD D' → DLe D D' → inR v2' → XD mX6_onWall 50 [none, none, some (.int (iN (v2'))), none, none] [] ln D' z Φ) : XD mX6_onWall 45 [none, some (.int (iN (v1))), none, some (rV (v3)), none] [.int (iN (s1)), .int (iN (s0))] ln D z Φ := by
  unfold fX6_onWall_b45 at h
  refine X_iadd (pc' := 46) dX6_onWall_45 rfl ?_
  refine X_istore_n (pc' := 47) dX6_onWall_46 rfl (cl rfl) (Or.inr rfl) (L' := [none, some (.int (iN (v1))), some (.int (iN ((s0 + s1)))), some (rV (v3)), none]) rfl ?_
  refine X_goto dX6_onWall_47 (tgt := 10) rfl ?_
  obtain ⟨g1, h⟩ := gs h
  cases h
  exact X_sub (sub_n (sub_s (sub_s (sub_s (sub_n sub_0))))) (k1 _ _ rfl hD (DLe_refl _) g1)
def fX6_onWall_s10 (v1 : Int) (v3 : Int) (v2 : Int) (D : DD) : Option ((Int × DD) ⊕ (Int × DD)) := (Option.bind (fJx35411_hasNext_aae02 (v3) D) fun r1 => (if dO D (v3) 10 then (if (r1) = (0) then some (.inr (v2, D)) else (Option.bind (fJx35411_next_0502b (v3) D) fun q4 => match q4 with | (r4, D4) => (if dO D4 (r4) 8 then (if ((dW D4 (r4) 0)) = (v1) then fX6_onWall_b45 (v1) (v3) (v2) (1) D4 else fX6_onWall_b45 (v1) (v3) (v2) (0) D4) else none))) else none))
set_option maxRecDepth 100000 in
theorem SX6_onWall_10 {ln : Nat} {D : DD} {z : ZZ} {v1 : Int} {v3 : Int} {v2 : Int} {Φ : xRes → xS → Prop} (hD : okD D) (rv1 : inR v1) (rv3 : gdV D v3) (rv2 : inR v2) {p : (Int × DD) ⊕ (Int × DD)} (h : fX6_onWall_s10 v1 v3 v2 D = some p) (k1 : ∀ (v2' : Int) (D' : DD), p = .inl (v2', D') → okD D' → DLe D D' → inR v2' → XD mX6_onWall 10 [none, some (.int (iN (v1))), some (.int (iN (v2'))), some (rV (v3)), none] [] ln D' z Φ) (k2 : ∀ (v2' : Int) (D' : DD), p = .inr (v2', D') → okD D' → DLe D D' → inR v2' → XD mX6_onWall 50 [none, none, some (.int (iN (v2'))), none, none] [] ln D' z Φ) : XD mX6_onWall 10 [none, some (.int (iN (v1))), some (.int (iN (v2))), some (rV (v3)), none] [] ln D z Φ := by
  unfold fX6_onWall_s10 at h
  refine E_aload_n (pc' := 11) dX6_onWall_10 rfl rfl ?_
  obtain ⟨r1, q1, h⟩ := bs h
  obtain ⟨g2, h⟩ := gs h
  refine E_callF [] (pc' := 16) dX6_onWall_11 rfl F_X6_50_Jx35411 (by decide) ⟨dO_pos g2, dO_is hD g2 rfl⟩ rfl c1_n (cs rfl) c1_n (cs rfl) rfl hD (CJx35411_hasNext_aae02 hD rv3 q1) (fun a1 b1 f1 => ?_)
  refine X_if_eq dX6_onWall_16 (tgt := 50) rfl (pc' := 19) rfl (inR_b f1) (fun c3 => ?_) (fun c3 => ?_)
  · have h := if_t c3 h
    cases h
    exact X_sub (sub_n (sub_n (sub_s (sub_n (sub_n sub_0))))) (k2 _ _ rfl hD (DLe_refl _) rv2)
  have h := if_f c3 h
  refine E_aload_n (pc' := 20) dX6_onWall_19 rfl rfl ?_
  obtain ⟨⟨r4, D4⟩, q4, h⟩ := bs h
  refine E_callF [] (pc' := 25) dX6_onWall_20 rfl F_X6_56_Jx35411 (by decide) ⟨dO_pos g2, dO_is hD g2 rfl⟩ rfl c1_n (cs rfl) c1_n (cs rfl) rfl hD (CJx35411_next_0502b hD rv3 q4) (fun a4 b4 f4 => ?_)
  obtain ⟨g5, h⟩ := gs h
  refine E_cast (pc' := 28) dX6_onWall_25 rfl tq598 (dO_pos g5) (dO_is a4 g5 rfl) ?_
  refine E_astore (pc' := 30) dX6_onWall_28 rfl (cl rfl) (Or.inr (xC1_R _)) (L' := [none, some (.int (iN (v1))), some (.int (iN (v2))), some (rV (v3)), some (rV (r4))]) rfl ?_
  refine X_iload_n (pc' := 31) dX6_onWall_30 rfl rfl ?_
  refine E_aload (pc' := 33) dX6_onWall_31 rfl rfl ?_
  refine E_getI (pc' := 36) dX6_onWall_33 rfl FX6_172_7 a4 g5 rfl (j := 0) rfl ?_
  refine X_iload_n (pc' := 37) dX6_onWall_36 rfl rfl ?_
  refine X_icmp_ne dX6_onWall_37 (tgt := 44) rfl (pc' := 40) rfl ⟨(in_slot (k := 0) a4 g5 rfl (by decide)).1, (in_slot (k := 0) a4 g5 rfl (by decide)).2, rv1.1, rv1.2⟩ (fun c6 => ?_) (fun c6 => ?_)
  · have h := if_f c6 h
    refine X_iconst (pc' := 45) dX6_onWall_44 rfl ?_
    exact X_sub (sub_n (sub_s (sub_n (sub_s (sub_n sub_0))))) (BX6_onWall_45 a4 rv1 (gdV_le b4 rv3) rv2 (inR_c (n := 0) rfl) h (fun x0 D9 hh a b f0 => k1 x0 D9 hh a (DLe_trans b4 b) f0) (fun x0 D9 hh a b f0 => k2 x0 D9 hh a (DLe_trans b4 b) f0))
  have h := if_t c6 h
  refine X_iconst (pc' := 41) dX6_onWall_40 rfl ?_
  refine X_goto dX6_onWall_41 (tgt := 45) rfl ?_
  exact X_sub (sub_n (sub_s (sub_n (sub_s (sub_n sub_0))))) (BX6_onWall_45 a4 rv1 (gdV_le b4 rv3) rv2 (inR_c (n := 1) rfl) h (fun x0 D9 hh a b f0 => k1 x0 D9 hh a (DLe_trans b4 b) f0) (fun x0 D9 hh a b f0 => k2 x0 D9 hh a (DLe_trans b4 b) f0))
theorem LX6_onWall_10 {ln : Nat} {z : ZZ} {v1 : Int} {v3 : Int} {Φ : xRes → xS → Prop} {r : Int × DD} : ∀ (n : Nat) (v2 : Int) (D : DD), okD D → inR v1 → gdV D v3 → inR v2 → zlp (fun q => fX6_onWall_s10 v1 v3 q.1 q.2) n (v2, D) = some r → (∀ (v2' : Int) (D' : DD), r = (v2', D') → okD D' → DLe D D' → inR v2' → XD mX6_onWall 50 [none, none, some (.int (iN (v2'))), none, none] [] ln D' z Φ) → XD mX6_onWall 10 [none, some (.int (iN (v1))), some (.int (iN (v2))), some (rV (v3)), none] [] ln D z Φ := by
  intro n
  induction n with
  | zero => intro v2 D hD rv1 rv3 rv2 h k2; cases h
  | succ n ih =>
    intro v2 D hD rv1 rv3 rv2 h k2
    rcases zlp_s h with ⟨⟨v2', D'⟩, e, h'⟩ | e
    · exact SX6_onWall_10 hD rv1 rv3 rv2 e (fun v2₁ D₁ hh a b f0 => by cases hh; exact ih _ _ a rv1 (gdV_le b rv3) f0 h' (fun x0 D9 hh a' b' y0 => k2 x0 D9 hh a' (DLe_trans b b') y0)) (fun x0 D9 hh => by cases hh)
    · exact SX6_onWall_10 hD rv1 rv3 rv2 e (fun v2₁ D₁ hh => by cases hh) (fun x0 D9 hh a b y0 => by cases hh; exact k2 _ _ rfl a b y0)
def fX6_onWall (v0 : Int) (v1 : Int) (D : DD) : Option (Int × DD) := (if dO D (v0) 7 then (Option.bind (fJx4a65c_iterator_32c93 ((dW D (v0) 5)) D) fun q2 => match q2 with | (r2, D2) => (if dO D ((dW D (v0) 5)) 9 then (Option.bind (zlp (fun q => fX6_onWall_s10 (v1) (r2) q.1 q.2) FU (0, D2)) fun q4 => match q4 with | (x4_v2, D4) => some (x4_v2, D4)) else none)) else none)
set_option maxRecDepth 100000 in
theorem CX6_onWall {ln : Nat} {D : DD} {z : ZZ} {v0 : Int} {v1 : Int} (hD : okD D) (rv0 : gdV D v0) (rv1 : inR v1) {p : Int × DD} (h : fX6_onWall v0 v1 D = some p) : XD mX6_onWall 0 (xEnt [rV (v0), .int (iN (v1))] (xL mX6_onWall)) [] ln D z (Qd (FdD D p.2 (inR p.1)) (.inl (some (.int (iN p.1)))) (sD ln p.2 z)) := by
  have k : K_wi (Qd (FdD D p.2 (inR p.1)) (.inl (some (.int (iN p.1)))) (sD ln p.2 z)) ln D z p := fun a b c => ⟨⟨a, b, c⟩, rfl, rfl⟩
  unfold fX6_onWall at h
  refine E_ent (c1_r (c1_i c1_n)) (M := [some (rV (v0)), some (.int (iN (v1))), none, none, none]) rfl ?_
  refine X_iconst (pc' := 1) dX6_onWall_0 rfl ?_
  refine X_istore_n (pc' := 2) dX6_onWall_1 rfl (cl rfl) (Or.inr rfl) (L' := [some (rV (v0)), some (.int (iN (v1))), some (.int (iN (0))), none, none]) rfl ?_
  refine E_aload_n (pc' := 3) dX6_onWall_2 rfl rfl ?_
  obtain ⟨g1, h⟩ := gs h
  refine E_getR (pc' := 6) dX6_onWall_3 rfl FX6_28_6 hD g1 rfl (j := 5) rfl ?_
  obtain ⟨⟨r2, D2⟩, q2, h⟩ := bs h
  obtain ⟨g3, h⟩ := gs h
  refine E_callV [] (pc' := 9) dX6_onWall_6 rfl (xVc VX6_46) (by decide) ⟨dO_pos g3, dO_is hD g3 rfl⟩ rfl c1_n (cs rfl) c1_n (cs rfl) rfl hD (CJx4a65c_iterator_32c93 hD (gd_slot (k := 5) hD g1 rfl (by decide)) q2) (fun a2 b2 f2 => ?_)
  refine E_astore_n (pc' := 10) dX6_onWall_9 rfl (cl rfl) (Or.inr rfl) (L' := [some (rV (v0)), some (.int (iN (v1))), some (.int (iN (0))), some (rV (r2)), none]) rfl ?_
  obtain ⟨⟨x4_v2, D4⟩, q4, h⟩ := bs h
  refine X_sub (sub_n (sub_s (sub_s (sub_s (sub_n sub_0))))) (LX6_onWall_10 FU _ _ a2 rv1 f2 (inR_c (n := 0) rfl) q4 (fun x4_v2₁ D4₁ hh hD4 le4 rx4_v2 => ?_))
  cases hh
  refine X_iload_n (pc' := 51) dX6_onWall_50 rfl rfl ?_
  cases h
  exact X_iret dX6_onWall_51 rfl (k hD4 (DLe_trans b2 le4) rx4_v2)
def fX6_takeOff_b33 (v0 : Int) (v1 : Int) (v2 : Int) (D : DD) : Option (DD) := (if dO D (v0) 7 then (if ((0 : Int) ≤ (4) ∧ (4 : Int) ≤ 1000000) ∧ dT D < 600000 ∧ dS D + (4) ≤ 7200000 then (zl (dnew D 20 (4 : Int).toNat) fun D3 => (if dO D3 (v2) 8 then (if (0 : Int) ≤ (0) ∧ (0 : Int) < ((dH D3 ((dT D))).2 : Int) then (zl (dup D3 ((dT D)) (0) ((dW D3 (v2) 0))) fun D6 => (Option.bind (fX6_grade_ (v0) (v2) D6) fun q7 => match q7 with | (r7, D7) => (if (0 : Int) ≤ (1) ∧ (1 : Int) < ((dH D7 ((dT D))).2 : Int) then (zl (dup D7 ((dT D)) (1) (r7)) fun D9 => (if (0 : Int) ≤ (2) ∧ (2 : Int) < ((dH D9 ((dT D))).2 : Int) then (zl (dup D9 ((dT D)) (2) ((dW D9 (v0) 3))) fun D11 => (if (0 : Int) ≤ (3) ∧ (3 : Int) < ((dH D11 ((dT D))).2 : Int) then (zl (dup D11 ((dT D)) (3) ((dW D11 (v2) 4))) fun D13 => (Option.bind (fJx4a65c_add_9ea2d ((dW D (v0) 9)) ((dT D)) D13) fun q14 => match q14 with | (r14, D14) => (if dO D13 ((dW D (v0) 9)) 9 then (Option.bind (fJx4a65c_remove_915e3 ((dW D14 (v0) 5)) (v1) D14) fun q16 => match q16 with | (r16, D16) => (if dO D14 ((dW D14 (v0) 5)) 9 then some D16 else none)) else none))) else none)) else none)) else none))) else none) else none)) else none) else none)
set_option maxRecDepth 100000 in
theorem BX6_takeOff_33 {ln : Nat} {D : DD} {z : ZZ} {v0 : Int} {v1 : Int} {v2 : Int} {Φ : xRes → xS → Prop} (hD : okD D) (rv0 : gdV D v0) (rv1 : inR v1) (rv2 : gdV D v2) {p : DD} (h : fX6_takeOff_b33 v0 v1 v2 D = some p) (k : K_w Φ ln D z p) : XD mX6_takeOff 33 [some (rV (v0)), some (.int (iN (v1))), some (rV (v2))] [] ln D z Φ := by
  unfold fX6_takeOff_b33 at h
  refine E_aload_n (pc' := 34) dX6_takeOff_33 rfl rfl ?_
  obtain ⟨g1, h⟩ := gs h
  refine E_getR (pc' := 37) dX6_takeOff_34 rfl FX6_40_6 hD g1 rfl (j := 9) rfl ?_
  refine X_iconst (pc' := 38) dX6_takeOff_37 rfl ?_
  obtain ⟨g2, h⟩ := gs h
  refine E_newI (pc' := 40) dX6_takeOff_38 rfl tq75 hD g2 ?_
  obtain ⟨D3, e3, f3, h⟩ := zl_some (P := fun q => okD q ∧ DLe D q ∧ (dO q (dT D) 20 ∧ ((dH q (dT D)).2 : Int) = (4))) h ⟨okD_dnew hD (by decide) (by omega) g2.2.1 (by omega), DLe_dnew _ (by decide), dO_dnew hD, dH_dnew g2.1.1⟩
  rw [e3]
  refine X_dup (pc' := 41) dX6_takeOff_40 rfl (rV_cat _) ?_
  refine X_iconst (pc' := 42) dX6_takeOff_41 rfl ?_
  refine E_aload_n (pc' := 43) dX6_takeOff_42 rfl rfl ?_
  obtain ⟨g4, h⟩ := gs h
  refine E_getI (pc' := 46) dX6_takeOff_43 rfl FX6_172_7 f3.1 g4 rfl (j := 0) rfl ?_
  obtain ⟨g5, h⟩ := gs h
  refine E_iast (pc' := 47) dX6_takeOff_46 rfl f3.1 f3.2.2.1 g5 ?_
  obtain ⟨D6, e6, f6, h⟩ := zl_some (P := fun q => okD q ∧ DLe D3 q) h ⟨okD_dupJ f3.1 g5.1 (okS_at20 f3.2.2.1 (in_slot (k := 0) f3.1 g4 rfl (by decide))), DLe_dup _ _ _ _⟩
  rw [e6]
  refine X_dup (pc' := 48) dX6_takeOff_47 rfl (rV_cat _) ?_
  refine X_iconst (pc' := 49) dX6_takeOff_48 rfl ?_
  refine E_aload_n (pc' := 50) dX6_takeOff_49 rfl rfl ?_
  refine E_aload_n (pc' := 51) dX6_takeOff_50 rfl rfl ?_
  obtain ⟨⟨r7, D7⟩, q7, h⟩ := bs h
  refine E_callV [rV (v2)] (pc' := 54) dX6_takeOff_51 rfl (xVc VX6_186) (by decide) ⟨dO_pos (dO_le f6.2 (dO_le f3.2.1 g1)), dO_is f6.1 (dO_le f6.2 (dO_le f3.2.1 g1)) rfl⟩ rfl (c1_r c1_n) (cs rfl) (c1_i (c1_r (c1_r (c1_r c1_n)))) (cs rfl) rfl f6.1 (CX6_grade_ f6.1 (gdV_le f6.2 (gdV_le f3.2.1 rv0)) (gdV_le f6.2 (gdV_le f3.2.1 rv2)) q7) (fun a7 b7 f7 => ?_)
  obtain ⟨g8, h⟩ := gs h
  refine E_iast (pc' := 55) dX6_takeOff_54 rfl a7 (dO_le b7 (dO_le f6.2 f3.2.2.1)) g8 ?_
  obtain ⟨D9, e9, f9, h⟩ := zl_some (P := fun q => okD q ∧ DLe D7 q) h ⟨okD_dupJ a7 g8.1 (okS_at20 (dO_le b7 (dO_le f6.2 f3.2.2.1)) f7), DLe_dup _ _ _ _⟩
  rw [e9]
  refine X_dup (pc' := 56) dX6_takeOff_55 rfl (rV_cat _) ?_
  refine X_iconst (pc' := 57) dX6_takeOff_56 rfl ?_
  refine E_aload_n (pc' := 58) dX6_takeOff_57 rfl rfl ?_
  refine E_getI (pc' := 61) dX6_takeOff_58 rfl FX6_43_6 f9.1 (dO_le f9.2 (dO_le b7 (dO_le f6.2 (dO_le f3.2.1 g1)))) rfl (j := 3) rfl ?_
  obtain ⟨g10, h⟩ := gs h
  refine E_iast (pc' := 62) dX6_takeOff_61 rfl f9.1 (dO_le f9.2 (dO_le b7 (dO_le f6.2 f3.2.2.1))) g10 ?_
  obtain ⟨D11, e11, f11, h⟩ := zl_some (P := fun q => okD q ∧ DLe D9 q) h ⟨okD_dupJ f9.1 g10.1 (okS_at20 (dO_le f9.2 (dO_le b7 (dO_le f6.2 f3.2.2.1))) (in_slot (k := 3) f9.1 (dO_le f9.2 (dO_le b7 (dO_le f6.2 (dO_le f3.2.1 g1)))) rfl (by decide))), DLe_dup _ _ _ _⟩
  rw [e11]
  refine X_dup (pc' := 63) dX6_takeOff_62 rfl (rV_cat _) ?_
  refine X_iconst (pc' := 64) dX6_takeOff_63 rfl ?_
  refine E_aload_n (pc' := 65) dX6_takeOff_64 rfl rfl ?_
  refine E_getI (pc' := 68) dX6_takeOff_65 rfl FX6_189_7 f11.1 (dO_le f11.2 (dO_le f9.2 (dO_le b7 (dO_le f6.2 g4)))) rfl (j := 4) rfl ?_
  obtain ⟨g12, h⟩ := gs h
  refine E_iast (pc' := 69) dX6_takeOff_68 rfl f11.1 (dO_le f11.2 (dO_le f9.2 (dO_le b7 (dO_le f6.2 f3.2.2.1)))) g12 ?_
  obtain ⟨D13, e13, f13, h⟩ := zl_some (P := fun q => okD q ∧ DLe D11 q) h ⟨okD_dupJ f11.1 g12.1 (okS_at20 (dO_le f11.2 (dO_le f9.2 (dO_le b7 (dO_le f6.2 f3.2.2.1)))) (in_slot (k := 4) f11.1 (dO_le f11.2 (dO_le f9.2 (dO_le b7 (dO_le f6.2 g4)))) rfl (by decide))), DLe_dup _ _ _ _⟩
  rw [e13]
  obtain ⟨⟨r14, D14⟩, q14, h⟩ := bs h
  obtain ⟨g15, h⟩ := gs h
  refine E_callV [rV ((dT D))] (pc' := 72) dX6_takeOff_69 rfl (xVc VX6_65) (by decide) ⟨dO_pos g15, dO_is f13.1 g15 rfl⟩ rfl (c1_r c1_n) (cs rfl) c1_n (cs rfl) rfl f13.1 (CJx4a65c_add_9ea2d f13.1 (gdV_le f13.2 (gdV_le f11.2 (gdV_le f9.2 (gdV_le b7 (gdV_le f6.2 (gdV_le f3.2.1 (gd_slot (k := 9) hD g1 rfl (by decide)))))))) (gdV_le f13.2 (gdV_le f11.2 (gdV_le f9.2 (gdV_le b7 (gdV_le f6.2 (dO_gd f3.2.2.1 (by decide))))))) q14) (fun a14 b14 f14 => ?_)
  refine X_pop (pc' := 73) dX6_takeOff_72 rfl rfl ?_
  refine E_aload_n (pc' := 74) dX6_takeOff_73 rfl rfl ?_
  refine E_getR (pc' := 77) dX6_takeOff_74 rfl FX6_28_6 a14 (dO_le b14 (dO_le f13.2 (dO_le f11.2 (dO_le f9.2 (dO_le b7 (dO_le f6.2 (dO_le f3.2.1 g1))))))) rfl (j := 5) rfl ?_
  refine X_iload_n (pc' := 78) dX6_takeOff_77 rfl rfl ?_
  obtain ⟨⟨r16, D16⟩, q16, h⟩ := bs h
  obtain ⟨g17, h⟩ := gs h
  refine E_callV [.int (iN (v1))] (pc' := 81) dX6_takeOff_78 rfl (xVc VX6_183) (by decide) ⟨dO_pos g17, dO_is a14 g17 rfl⟩ rfl (c1_i c1_n) (cs rfl) c1_n (cs rfl) rfl a14 (CJx4a65c_remove_915e3 a14 (gd_slot (k := 5) a14 (dO_le b14 (dO_le f13.2 (dO_le f11.2 (dO_le f9.2 (dO_le b7 (dO_le f6.2 (dO_le f3.2.1 g1))))))) rfl (by decide)) rv1 q16) (fun a16 b16 f16 => ?_)
  refine X_pop (pc' := 82) dX6_takeOff_81 rfl (rV_cat _) ?_
  cases h
  exact X_vret dX6_takeOff_82 rfl (k a16 (DLe_trans (DLe_trans (DLe_trans (DLe_trans (DLe_trans (DLe_trans (DLe_trans f3.2.1 f6.2) b7) f9.2) f11.2) f13.2) b14) b16) trivial)
def fX6_takeOff (v0 : Int) (v1 : Int) (D : DD) : Option (DD) := (if dO D (v0) 7 then (Option.bind (fJx4a65c_get_915e3 ((dW D (v0) 5)) (v1) D) fun r2 => (if dO D ((dW D (v0) 5)) 9 then (if dO D (r2) 8 then (Option.bind (fJx4a65c_size_8abf5 ((dW D (v0) 9)) D) fun r5 => (if dO D ((dW D (v0) 9)) 9 then (if (r5) = (30) then (Option.bind (fJx4a65c_remove_915e3 ((dW D (v0) 9)) (0) D) fun q8 => match q8 with | (r8, D8) => fX6_takeOff_b33 (v0) (v1) (r2) D8) else fX6_takeOff_b33 (v0) (v1) (r2) D) else none)) else none) else none)) else none)
set_option maxRecDepth 100000 in
theorem CX6_takeOff {ln : Nat} {D : DD} {z : ZZ} {v0 : Int} {v1 : Int} (hD : okD D) (rv0 : gdV D v0) (rv1 : inR v1) {p : DD} (h : fX6_takeOff v0 v1 D = some p) : XD mX6_takeOff 0 (xEnt [rV (v0), .int (iN (v1))] (xL mX6_takeOff)) [] ln D z (Qd (FdD D p (True)) (.inl (none)) (sD ln p z)) := by
  have k : K_w (Qd (FdD D p (True)) (.inl (none)) (sD ln p z)) ln D z p := fun a b c => ⟨⟨a, b, c⟩, rfl, rfl⟩
  unfold fX6_takeOff at h
  refine E_ent (c1_r (c1_i c1_n)) (M := [some (rV (v0)), some (.int (iN (v1))), none]) rfl ?_
  refine E_aload_n (pc' := 1) dX6_takeOff_0 rfl rfl ?_
  obtain ⟨g1, h⟩ := gs h
  refine E_getR (pc' := 4) dX6_takeOff_1 rfl FX6_28_6 hD g1 rfl (j := 5) rfl ?_
  refine X_iload_n (pc' := 5) dX6_takeOff_4 rfl rfl ?_
  obtain ⟨r2, q2, h⟩ := bs h
  obtain ⟨g3, h⟩ := gs h
  refine E_callV [.int (iN (v1))] (pc' := 8) dX6_takeOff_5 rfl (xVc VX6_154) (by decide) ⟨dO_pos g3, dO_is hD g3 rfl⟩ rfl (c1_i c1_n) (cs rfl) c1_n (cs rfl) rfl hD (CJx4a65c_get_915e3 hD (gd_slot (k := 5) hD g1 rfl (by decide)) rv1 q2) (fun a2 b2 f2 => ?_)
  obtain ⟨g4, h⟩ := gs h
  refine E_cast (pc' := 11) dX6_takeOff_8 rfl tq598 (dO_pos g4) (dO_is hD g4 rfl) ?_
  refine E_astore_n (pc' := 12) dX6_takeOff_11 rfl (cl rfl) (Or.inr rfl) (L' := [some (rV (v0)), some (.int (iN (v1))), some (rV (r2))]) rfl ?_
  refine E_aload_n (pc' := 13) dX6_takeOff_12 rfl rfl ?_
  refine E_getR (pc' := 16) dX6_takeOff_13 rfl FX6_40_6 hD g1 rfl (j := 9) rfl ?_
  obtain ⟨r5, q5, h⟩ := bs h
  obtain ⟨g6, h⟩ := gs h
  refine E_callV [] (pc' := 19) dX6_takeOff_16 rfl (xVc VX6_151) (by decide) ⟨dO_pos g6, dO_is hD g6 rfl⟩ rfl c1_n (cs rfl) c1_n (cs rfl) rfl hD (CJx4a65c_size_8abf5 hD (gd_slot (k := 9) hD g1 rfl (by decide)) q5) (fun a5 b5 f5 => ?_)
  refine X_bipush (pc' := 21) dX6_takeOff_19 rfl (by decide) ?_
  refine X_icmp_ne dX6_takeOff_21 (tgt := 33) rfl (pc' := 24) rfl ⟨f5.1, f5.2, (inR_c (n := 30) rfl).1, (inR_c (n := 30) rfl).2⟩ (fun c7 => ?_) (fun c7 => ?_)
  · have h := if_f c7 h
    exact X_sub (sub_s (sub_s (sub_s sub_0))) (BX6_takeOff_33 hD rv0 rv1 f2 h (fun a b c => k a (DLe_trans (DLe_refl _) b) c))
  have h := if_t c7 h
  refine E_aload_n (pc' := 25) dX6_takeOff_24 rfl rfl ?_
  refine E_getR (pc' := 28) dX6_takeOff_25 rfl FX6_40_6 hD g1 rfl (j := 9) rfl ?_
  refine X_iconst (pc' := 29) dX6_takeOff_28 rfl ?_
  obtain ⟨⟨r8, D8⟩, q8, h⟩ := bs h
  refine E_callV [.int (iN (0))] (pc' := 32) dX6_takeOff_29 rfl (xVc VX6_183) (by decide) ⟨dO_pos g6, dO_is hD g6 rfl⟩ rfl (c1_i c1_n) (cs rfl) c1_n (cs rfl) rfl hD (CJx4a65c_remove_915e3 hD (gd_slot (k := 9) hD g1 rfl (by decide)) (inR_c (n := 0) rfl) q8) (fun a8 b8 f8 => ?_)
  refine X_pop (pc' := 33) dX6_takeOff_32 rfl (rV_cat _) ?_
  exact X_sub (sub_s (sub_s (sub_s sub_0))) (BX6_takeOff_33 a8 (gdV_le b8 rv0) rv1 (gdV_le b8 f2) h (fun a b c => k a (DLe_trans b8 b) c))
def fX6_inCourse_b40 (v0 : Int) (v1 : Int) (v3 : Int) (s0 : Int) (s1 : Int) (D : DD) : Option ((Int × Int) ⊕ (Int)) := (if inR ((v3 + 1)) then some (.inl ((zor s0 s1), (v3 + 1))) else none)
set_option maxRecDepth 100000 in
theorem BX6_inCourse_40 {ln : Nat} {D : DD} {z : ZZ} {v0 : Int} {v1 : Int} {v3 : Int} {s0 : Int} {s1 : Int} {Φ : xRes → xS → Prop} (hD : okD D) (rv0 : gdV D v0) (rv1 : inR v1) (rv3 : inR v3) (rs0 : inR s0) (rs1 : inR s1) {p : (Int × Int) ⊕ (Int)} (h : fX6_inCourse_b40 v0 v1 v3 s0 s1 D = some p) (k1 : ∀ (v2' : Int) (v3' : Int), p = .inl (v2', v3') → inR v2' → inR v3' → XD mX6_inCourse 4 [some (rV (v0)), some (.int (iN (v1))), some (.int (iN (v2'))), some (.int (iN (v3')))] [] ln D z Φ) (k2 : ∀ (v2' : Int), p = .inr v2' → inR v2' → XD mX6_inCourse 48 [none, none, some (.int (iN (v2'))), none] [] ln D z Φ) : XD mX6_inCourse 40 [some (rV (v0)), some (.int (iN (v1))), none, some (.int (iN (v3)))] [.int (iN (s1)), .int (iN (s0))] ln D z Φ := by
  unfold fX6_inCourse_b40 at h
  refine X_ior (pc' := 41) dX6_inCourse_40 rfl ?_
  refine X_istore_n (pc' := 42) dX6_inCourse_41 rfl (cl rfl) (Or.inr rfl) (L' := [some (rV (v0)), some (.int (iN (v1))), some (.int (iN ((zor s0 s1)))), some (.int (iN (v3)))]) rfl ?_
  refine X_iinc (pc' := 45) dX6_inCourse_42 rfl rfl (Or.inr rfl) (L' := [some (rV (v0)), some (.int (iN (v1))), some (.int (iN ((zor s0 s1)))), some (.int (iN (v3 + 1)))]) rfl ?_
  refine X_goto dX6_inCourse_45 (tgt := 4) rfl ?_
  obtain ⟨g1, h⟩ := gs h
  cases h
  exact X_sub (sub_s (sub_s (sub_s (sub_s sub_0)))) (k1 _ _ rfl (inR_zor _ _) g1)
def fX6_inCourse_s4 (v0 : Int) (v1 : Int) (v2 : Int) (v3 : Int) (D : DD) : Option ((Int × Int) ⊕ (Int)) := (if dO D (v0) 7 then (Option.bind (fJx4a65c_size_8abf5 ((dW D (v0) 7)) D) fun r2 => (if dO D ((dW D (v0) 7)) 9 then (if (v3) < (r2) then (Option.bind (fJx4a65c_get_915e3 ((dW D (v0) 7)) (v3) D) fun r5 => (if dO D (r5) 20 then (if (0 : Int) ≤ (4) ∧ (4 : Int) < ((dH D (r5)).2 : Int) then (if ((dW D (r5) (4))) = (v1) then fX6_inCourse_b40 (v0) (v1) (v3) (v2) ((zshl 1 v3)) D else fX6_inCourse_b40 (v0) (v1) (v3) (v2) (0) D) else none) else none)) else some (.inr v2)) else none)) else none)
set_option maxRecDepth 100000 in
theorem SX6_inCourse_4 {ln : Nat} {D : DD} {z : ZZ} {v0 : Int} {v1 : Int} {v2 : Int} {v3 : Int} {Φ : xRes → xS → Prop} (hD : okD D) (rv0 : gdV D v0) (rv1 : inR v1) (rv2 : inR v2) (rv3 : inR v3) {p : (Int × Int) ⊕ (Int)} (h : fX6_inCourse_s4 v0 v1 v2 v3 D = some p) (k1 : ∀ (v2' : Int) (v3' : Int), p = .inl (v2', v3') → inR v2' → inR v3' → XD mX6_inCourse 4 [some (rV (v0)), some (.int (iN (v1))), some (.int (iN (v2'))), some (.int (iN (v3')))] [] ln D z Φ) (k2 : ∀ (v2' : Int), p = .inr v2' → inR v2' → XD mX6_inCourse 48 [none, none, some (.int (iN (v2'))), none] [] ln D z Φ) : XD mX6_inCourse 4 [some (rV (v0)), some (.int (iN (v1))), some (.int (iN (v2))), some (.int (iN (v3)))] [] ln D z Φ := by
  unfold fX6_inCourse_s4 at h
  refine X_iload_n (pc' := 5) dX6_inCourse_4 rfl rfl ?_
  refine E_aload_n (pc' := 6) dX6_inCourse_5 rfl rfl ?_
  obtain ⟨g1, h⟩ := gs h
  refine E_getR (pc' := 9) dX6_inCourse_6 rfl FX6_34_6 hD g1 rfl (j := 7) rfl ?_
  obtain ⟨r2, q2, h⟩ := bs h
  obtain ⟨g3, h⟩ := gs h
  refine E_callV [] (pc' := 12) dX6_inCourse_9 rfl (xVc VX6_151) (by decide) ⟨dO_pos g3, dO_is hD g3 rfl⟩ rfl c1_n (cs rfl) (c1_i c1_n) (cs rfl) rfl hD (CJx4a65c_size_8abf5 hD (gd_slot (k := 7) hD g1 rfl (by decide)) q2) (fun a2 b2 f2 => ?_)
  refine X_icmp_ge dX6_inCourse_12 (tgt := 48) rfl (pc' := 15) rfl ⟨rv3.1, rv3.2, f2.1, f2.2⟩ (fun c4 => ?_) (fun c4 => ?_)
  · have h := if_f (Int.not_lt.mpr c4) h
    cases h
    exact X_sub (sub_n (sub_n (sub_s (sub_n sub_0)))) (k2 _ rfl rv2)
  have h := if_t c4 h
  refine X_iload_n (pc' := 16) dX6_inCourse_15 rfl rfl ?_
  refine E_aload_n (pc' := 17) dX6_inCourse_16 rfl rfl ?_
  refine E_getR (pc' := 20) dX6_inCourse_17 rfl FX6_34_6 hD g1 rfl (j := 7) rfl ?_
  refine X_iload_n (pc' := 21) dX6_inCourse_20 rfl rfl ?_
  obtain ⟨r5, q5, h⟩ := bs h
  refine E_callV [.int (iN (v3))] (pc' := 24) dX6_inCourse_21 rfl (xVc VX6_154) (by decide) ⟨dO_pos g3, dO_is hD g3 rfl⟩ rfl (c1_i c1_n) (cs rfl) (c1_i c1_n) (cs rfl) rfl hD (CJx4a65c_get_915e3 hD (gd_slot (k := 7) hD g1 rfl (by decide)) rv3 q5) (fun a5 b5 f5 => ?_)
  obtain ⟨g6, h⟩ := gs h
  refine E_cast (pc' := 27) dX6_inCourse_24 rfl tq526 (dO_pos g6) (dO_isI hD g6) ?_
  refine X_iconst (pc' := 28) dX6_inCourse_27 rfl ?_
  obtain ⟨g7, h⟩ := gs h
  refine E_iald (pc' := 29) dX6_inCourse_28 rfl hD g6 g7 ?_
  refine X_iload_n (pc' := 30) dX6_inCourse_29 rfl rfl ?_
  refine X_icmp_ne dX6_inCourse_30 (tgt := 39) rfl (pc' := 33) rfl ⟨(in_at hD g6 (Or.inl rfl) g7.1).1, (in_at hD g6 (Or.inl rfl) g7.1).2, rv1.1, rv1.2⟩ (fun c8 => ?_) (fun c8 => ?_)
  · have h := if_f c8 h
    refine X_iconst (pc' := 40) dX6_inCourse_39 rfl ?_
    exact X_sub (sub_s (sub_s (sub_n (sub_s sub_0)))) (BX6_inCourse_40 hD rv0 rv1 rv3 rv2 (inR_c (n := 0) rfl) h k1 k2)
  have h := if_t c8 h
  refine X_iconst (pc' := 34) dX6_inCourse_33 rfl ?_
  refine X_iload_n (pc' := 35) dX6_inCourse_34 rfl rfl ?_
  refine X_ishl (pc' := 36) dX6_inCourse_35 rfl ?_
  refine X_goto dX6_inCourse_36 (tgt := 40) rfl ?_
  exact X_sub (sub_s (sub_s (sub_n (sub_s sub_0)))) (BX6_inCourse_40 hD rv0 rv1 rv3 rv2 (inR_zshl _ _) h k1 k2)
theorem LX6_inCourse_4 {ln : Nat} {D : DD} {z : ZZ} {v0 : Int} {v1 : Int} {Φ : xRes → xS → Prop} {r : Int} : ∀ (n : Nat) (v2 : Int) (v3 : Int), okD D → gdV D v0 → inR v1 → inR v2 → inR v3 → zlp (fun q => fX6_inCourse_s4 v0 v1 q.1 q.2 D) n (v2, v3) = some r → (∀ (v2' : Int), r = v2' → inR v2' → XD mX6_inCourse 48 [none, none, some (.int (iN (v2'))), none] [] ln D z Φ) → XD mX6_inCourse 4 [some (rV (v0)), some (.int (iN (v1))), some (.int (iN (v2))), some (.int (iN (v3)))] [] ln D z Φ := by
  intro n
  induction n with
  | zero => intro v2 v3 hD rv0 rv1 rv2 rv3 h k2; cases h
  | succ n ih =>
    intro v2 v3 hD rv0 rv1 rv2 rv3 h k2
    rcases zlp_s h with ⟨⟨v2', v3'⟩, e, h'⟩ | e
    · exact SX6_inCourse_4 hD rv0 rv1 rv2 rv3 e (fun v2₁ v3₁ hh f0 f1 => by cases hh; exact ih _ _ hD rv0 rv1 f0 f1 h' k2) (fun x0 hh => by cases hh)
    · exact SX6_inCourse_4 hD rv0 rv1 rv2 rv3 e (fun v2₁ v3₁ hh => by cases hh) (fun x0 hh y0 => by cases hh; exact k2 _ rfl y0)
def fX6_inCourse (v0 : Int) (v1 : Int) (D : DD) : Option (Int) := (Option.bind (zlp (fun q => fX6_inCourse_s4 (v0) (v1) q.1 q.2 D) FU (0, 0)) fun x1_v2 => some (x1_v2))
set_option maxRecDepth 100000 in
theorem CX6_inCourse {ln : Nat} {D : DD} {z : ZZ} {v0 : Int} {v1 : Int} (hD : okD D) (rv0 : gdV D v0) (rv1 : inR v1) {p : Int} (h : fX6_inCourse v0 v1 D = some p) : XD mX6_inCourse 0 (xEnt [rV (v0), .int (iN (v1))] (xL mX6_inCourse)) [] ln D z (Qd (FdD D D (inR p)) (.inl (some (.int (iN p)))) (sD ln D z)) := by
  have k : K_r (Qd (FdD D D (inR p)) (.inl (some (.int (iN p)))) (sD ln D z)) ln D z p := fun a => ⟨⟨hD, DLe_refl D, a⟩, rfl, rfl⟩
  unfold fX6_inCourse at h
  refine E_ent (c1_r (c1_i c1_n)) (M := [some (rV (v0)), some (.int (iN (v1))), none, none]) rfl ?_
  refine X_iconst (pc' := 1) dX6_inCourse_0 rfl ?_
  refine X_istore_n (pc' := 2) dX6_inCourse_1 rfl (cl rfl) (Or.inr rfl) (L' := [some (rV (v0)), some (.int (iN (v1))), some (.int (iN (0))), none]) rfl ?_
  refine X_iconst (pc' := 3) dX6_inCourse_2 rfl ?_
  refine X_istore_n (pc' := 4) dX6_inCourse_3 rfl (cl rfl) (Or.inr rfl) (L' := [some (rV (v0)), some (.int (iN (v1))), some (.int (iN (0))), some (.int (iN (0)))]) rfl ?_
  obtain ⟨x1_v2, q1, h⟩ := bs h
  refine X_sub (sub_s (sub_s (sub_s (sub_s sub_0)))) (LX6_inCourse_4 FU _ _ hD rv0 rv1 (inR_c (n := 0) rfl) (inR_c (n := 0) rfl) q1 (fun x1_v2₁ hh rx1_v2 => ?_))
  cases hh
  refine X_iload_n (pc' := 49) dX6_inCourse_48 rfl rfl ?_
  cases h
  exact X_iret dX6_inCourse_49 rfl (k rx1_v2)
def fX6_ends_b86 (v0 : Int) (v1 : Int) (v2 : Int) (v3 : Int) (v4 : Int) (v5 : Int) (D : DD) : Option ((Int × Int × DD) ⊕ (Int × DD)) := (if inR ((v5 + 1)) then some (.inl (v2, (v5 + 1), D)) else none)
set_option maxRecDepth 100000 in
theorem BX6_ends_86 {ln : Nat} {D : DD} {z : ZZ} {v0 : Int} {v1 : Int} {v2 : Int} {v3 : Int} {v4 : Int} {v5 : Int} {Φ : xRes → xS → Prop} (hD : okD D) (rv0 : gdV D v0) (rv1 : inR v1) (rv2 : inR v2) (rv3 : inR v3) (rv4 : inR v4) (rv5 : inR v5) {p : (Int × Int × DD) ⊕ (Int × DD)} (h : fX6_ends_b86 v0 v1 v2 v3 v4 v5 D = some p) (k1 : ∀ (v2' : Int) (v5' : Int) (D' : DD), p = .inl (v2', v5', D') → okD D' → DLe D D' → inR v2' → inR v5' → XD mX6_ends 39 [some (rV (v0)), some (.int (iN (v1))), some (.int (iN (v2'))), some (.int (iN (v3))), some (.int (iN (v4))), some (.int (iN (v5')))] [] ln D' z Φ) (k2 : ∀ (v2' : Int) (D' : DD), p = .inr (v2', D') → okD D' → DLe D D' → inR v2' → XD mX6_ends 92 [some (rV (v0)), some (.int (iN (v1))), some (.int (iN (v2'))), some (.int (iN (v3))), some (.int (iN (v4))), none] [] ln D' z Φ) : XD mX6_ends 86 [some (rV (v0)), some (.int (iN (v1))), some (.int (iN (v2))), some (.int (iN (v3))), some (.int (iN (v4))), some (.int (iN (v5)))] [] ln D z Φ := by
  unfold fX6_ends_b86 at h
  refine X_iinc (pc' := 89) dX6_ends_86 rfl rfl (Or.inr rfl) (L' := [some (rV (v0)), some (.int (iN (v1))), some (.int (iN (v2))), some (.int (iN (v3))), some (.int (iN (v4))), some (.int (iN (v5 + 1)))]) rfl ?_
  refine X_goto dX6_ends_89 (tgt := 39) rfl ?_
  obtain ⟨g1, h⟩ := gs h
  cases h
  exact X_sub (sub_s (sub_s (sub_s (sub_s (sub_s (sub_s sub_0)))))) (k1 _ _ _ rfl hD (DLe_refl _) rv2 g1)
def fX6_ends_s39 (v0 : Int) (v1 : Int) (v3 : Int) (v4 : Int) (v2 : Int) (v5 : Int) (D : DD) : Option ((Int × Int × DD) ⊕ (Int × DD)) := (if dO D (v0) 7 then (Option.bind (fJx4a65c_size_8abf5 ((dW D (v0) 5)) D) fun r2 => (if dO D ((dW D (v0) 5)) 9 then (if (v5) < (r2) then (Option.bind (fJx4a65c_get_915e3 ((dW D (v0) 5)) (v5) D) fun r5 => (if dO D (r5) 8 then (if ((dW D (r5) 0)) = (v4) then (Option.bind (fX6_takeOff (v0) (v5) D) fun D8 => (if inR ((v2 + 1)) then (if inR ((v5 + (-1))) then fX6_ends_b86 (v0) (v1) ((v2 + 1)) (v3) (v4) ((v5 + (-1))) D8 else none) else none)) else fX6_ends_b86 (v0) (v1) (v2) (v3) (v4) (v5) D) else none)) else some (.inr (v2, D))) else none)) else none)
set_option maxRecDepth 100000 in
theorem SX6_ends_39 {ln : Nat} {D : DD} {z : ZZ} {v0 : Int} {v1 : Int} {v3 : Int} {v4 : Int} {v2 : Int} {v5 : Int} {Φ : xRes → xS → Prop} (hD : okD D) (rv0 : gdV D v0) (rv1 : inR v1) (rv3 : inR v3) (rv4 : inR v4) (rv2 : inR v2) (rv5 : inR v5) {p : (Int × Int × DD) ⊕ (Int × DD)} (h : fX6_ends_s39 v0 v1 v3 v4 v2 v5 D = some p) (k1 : ∀ (v2' : Int) (v5' : Int) (D' : DD), p = .inl (v2', v5', D') → okD D' → DLe D D' → inR v2' → inR v5' → XD mX6_ends 39 [some (rV (v0)), some (.int (iN (v1))), some (.int (iN (v2'))), some (.int (iN (v3))), some (.int (iN (v4))), some (.int (iN (v5')))] [] ln D' z Φ) (k2 : ∀ (v2' : Int) (D' : DD), p = .inr (v2', D') → okD D' → DLe D D' → inR v2' → XD mX6_ends 92 [some (rV (v0)), some (.int (iN (v1))), some (.int (iN (v2'))), some (.int (iN (v3))), some (.int (iN (v4))), none] [] ln D' z Φ) : XD mX6_ends 39 [some (rV (v0)), some (.int (iN (v1))), some (.int (iN (v2))), some (.int (iN (v3))), some (.int (iN (v4))), some (.int (iN (v5)))] [] ln D z Φ := by
  unfold fX6_ends_s39 at h
  refine X_iload (pc' := 41) dX6_ends_39 rfl rfl ?_
  refine E_aload_n (pc' := 42) dX6_ends_41 rfl rfl ?_
  obtain ⟨g1, h⟩ := gs h
  refine E_getR (pc' := 45) dX6_ends_42 rfl FX6_28_6 hD g1 rfl (j := 5) rfl ?_
  obtain ⟨r2, q2, h⟩ := bs h
  obtain ⟨g3, h⟩ := gs h
  refine E_callV [] (pc' := 48) dX6_ends_45 rfl (xVc VX6_151) (by decide) ⟨dO_pos g3, dO_is hD g3 rfl⟩ rfl c1_n (cs rfl) (c1_i c1_n) (cs rfl) rfl hD (CJx4a65c_size_8abf5 hD (gd_slot (k := 5) hD g1 rfl (by decide)) q2) (fun a2 b2 f2 => ?_)
  refine X_icmp_ge dX6_ends_48 (tgt := 92) rfl (pc' := 51) rfl ⟨rv5.1, rv5.2, f2.1, f2.2⟩ (fun c4 => ?_) (fun c4 => ?_)
  · have h := if_f (Int.not_lt.mpr c4) h
    cases h
    exact X_sub (sub_s (sub_s (sub_s (sub_s (sub_s (sub_n sub_0)))))) (k2 _ _ rfl hD (DLe_refl _) rv2)
  have h := if_t c4 h
  refine E_aload_n (pc' := 52) dX6_ends_51 rfl rfl ?_
  refine E_getR (pc' := 55) dX6_ends_52 rfl FX6_28_6 hD g1 rfl (j := 5) rfl ?_
  refine X_iload (pc' := 57) dX6_ends_55 rfl rfl ?_
  obtain ⟨r5, q5, h⟩ := bs h
  refine E_callV [.int (iN (v5))] (pc' := 60) dX6_ends_57 rfl (xVc VX6_154) (by decide) ⟨dO_pos g3, dO_is hD g3 rfl⟩ rfl (c1_i c1_n) (cs rfl) c1_n (cs rfl) rfl hD (CJx4a65c_get_915e3 hD (gd_slot (k := 5) hD g1 rfl (by decide)) rv5 q5) (fun a5 b5 f5 => ?_)
  obtain ⟨g6, h⟩ := gs h
  refine E_cast (pc' := 63) dX6_ends_60 rfl tq598 (dO_pos g6) (dO_is hD g6 rfl) ?_
  refine E_getI (pc' := 66) dX6_ends_63 rfl FX6_172_7 hD g6 rfl (j := 0) rfl ?_
  refine X_iload (pc' := 68) dX6_ends_66 rfl rfl ?_
  refine X_icmp_eq dX6_ends_68 (tgt := 74) rfl (pc' := 71) rfl ⟨(in_slot (k := 0) hD g6 rfl (by decide)).1, (in_slot (k := 0) hD g6 rfl (by decide)).2, rv4.1, rv4.2⟩ (fun c7 => ?_) (fun c7 => ?_)
  · have h := if_t c7 h
    refine E_aload_n (pc' := 75) dX6_ends_74 rfl rfl ?_
    refine X_iload (pc' := 77) dX6_ends_75 rfl rfl ?_
    obtain ⟨D8, q8, h⟩ := bs h
    refine E_callV [.int (iN (v5))] (pc' := 80) dX6_ends_77 rfl (xVc VX6_192) (by decide) ⟨dO_pos g1, dO_is hD g1 rfl⟩ rfl (c1_i c1_n) (cs rfl) c1_n (cs rfl) rfl hD (CX6_takeOff hD rv0 rv5 q8) (fun a8 b8 f8 => ?_)
    refine X_iinc (pc' := 83) dX6_ends_80 rfl rfl (Or.inr rfl) (L' := [some (rV (v0)), some (.int (iN (v1))), some (.int (iN (v2))), some (.int (iN (v3))), some (.int (iN (v4))), some (.int (iN (v5 + (-1))))]) rfl ?_
    refine X_iinc (pc' := 86) dX6_ends_83 rfl rfl (Or.inr rfl) (L' := [some (rV (v0)), some (.int (iN (v1))), some (.int (iN (v2 + 1))), some (.int (iN (v3))), some (.int (iN (v4))), some (.int (iN ((v5 + (-1)))))]) rfl ?_
    obtain ⟨g9, h⟩ := gs h
    obtain ⟨g10, h⟩ := gs h
    exact X_sub (sub_s (sub_s (sub_s (sub_s (sub_s (sub_s sub_0)))))) (BX6_ends_86 a8 (gdV_le b8 rv0) rv1 g9 rv3 rv4 g10 h (fun x0 x1 D9 hh a b f0 f1 => k1 x0 x1 D9 hh a (DLe_trans b8 b) f0 f1) (fun x0 D9 hh a b f0 => k2 x0 D9 hh a (DLe_trans b8 b) f0))
  have h := if_f c7 h
  refine X_goto dX6_ends_71 (tgt := 86) rfl ?_
  exact X_sub (sub_s (sub_s (sub_s (sub_s (sub_s (sub_s sub_0)))))) (BX6_ends_86 hD rv0 rv1 rv2 rv3 rv4 rv5 h (fun x0 x1 D9 hh a b f0 f1 => k1 x0 x1 D9 hh a (DLe_trans (DLe_refl _) b) f0 f1) (fun x0 D9 hh a b f0 => k2 x0 D9 hh a (DLe_trans (DLe_refl _) b) f0))
theorem LX6_ends_39 {ln : Nat} {z : ZZ} {v0 : Int} {v1 : Int} {v3 : Int} {v4 : Int} {Φ : xRes → xS → Prop} {r : Int × DD} : ∀ (n : Nat) (v2 : Int) (v5 : Int) (D : DD), okD D → gdV D v0 → inR v1 → inR v3 → inR v4 → inR v2 → inR v5 → zlp (fun q => fX6_ends_s39 v0 v1 v3 v4 q.1 q.2.1 q.2.2) n (v2, v5, D) = some r → (∀ (v2' : Int) (D' : DD), r = (v2', D') → okD D' → DLe D D' → inR v2' → XD mX6_ends 92 [some (rV (v0)), some (.int (iN (v1))), some (.int (iN (v2'))), some (.int (iN (v3))), some (.int (iN (v4))), none] [] ln D' z Φ) → XD mX6_ends 39 [some (rV (v0)), some (.int (iN (v1))), some (.int (iN (v2))), some (.int (iN (v3))), some (.int (iN (v4))), some (.int (iN (v5)))] [] ln D z Φ := by
  intro n
  induction n with
  | zero => intro v2 v5 D hD rv0 rv1 rv3 rv4 rv2 rv5 h k2; cases h
  | succ n ih =>
    intro v2 v5 D hD rv0 rv1 rv3 rv4 rv2 rv5 h k2
    rcases zlp_s h with ⟨⟨v2', v5', D'⟩, e, h'⟩ | e
    · exact SX6_ends_39 hD rv0 rv1 rv3 rv4 rv2 rv5 e (fun v2₁ v5₁ D₁ hh a b f0 f1 => by cases hh; exact ih _ _ _ a (gdV_le b rv0) rv1 rv3 rv4 f0 f1 h' (fun x0 D9 hh a' b' y0 => k2 x0 D9 hh a' (DLe_trans b b') y0)) (fun x0 D9 hh => by cases hh)
    · exact SX6_ends_39 hD rv0 rv1 rv3 rv4 rv2 rv5 e (fun v2₁ v5₁ D₁ hh => by cases hh) (fun x0 D9 hh a b y0 => by cases hh; exact k2 _ _ rfl a b y0)
def fX6_ends_b125 (v0 : Int) (v1 : Int) (v2 : Int) (v3 : Int) (v4 : Int) (D : DD) : Option ((Int × Int × DD) ⊕ (Int × DD)) := (if inR ((v4 + 1)) then some (.inl (v2, (v4 + 1), D)) else none)
set_option maxRecDepth 100000 in
theorem BX6_ends_125 {ln : Nat} {D : DD} {z : ZZ} {v0 : Int} {v1 : Int} {v2 : Int} {v3 : Int} {v4 : Int} {Φ : xRes → xS → Prop} (hD : okD D) (rv0 : gdV D v0) (rv1 : inR v1) (rv2 : inR v2) (rv3 : inR v3) (rv4 : inR v4) {p : (Int × Int × DD) ⊕ (Int × DD)} (h : fX6_ends_b125 v0 v1 v2 v3 v4 D = some p) (k1 : ∀ (v2' : Int) (v4' : Int) (D' : DD), p = .inl (v2', v4', D') → okD D' → DLe D D' → inR v2' → inR v4' → XD mX6_ends 12 [some (rV (v0)), some (.int (iN (v1))), some (.int (iN (v2'))), some (.int (iN (v3))), some (.int (iN (v4'))), none] [] ln D' z Φ) (k2 : ∀ (v2' : Int) (D' : DD), p = .inr (v2', D') → okD D' → DLe D D' → inR v2' → XD mX6_ends 131 [some (rV (v0)), some (.int (iN (v1))), some (.int (iN (v2'))), some (.int (iN (v3))), none, none] [] ln D' z Φ) : XD mX6_ends 125 [some (rV (v0)), some (.int (iN (v1))), some (.int (iN (v2))), some (.int (iN (v3))), some (.int (iN (v4))), none] [] ln D z Φ := by
  unfold fX6_ends_b125 at h
  refine X_iinc (pc' := 128) dX6_ends_125 rfl rfl (Or.inr rfl) (L' := [some (rV (v0)), some (.int (iN (v1))), some (.int (iN (v2))), some (.int (iN (v3))), some (.int (iN (v4 + 1))), none]) rfl ?_
  refine X_goto dX6_ends_128 (tgt := 12) rfl ?_
  obtain ⟨g1, h⟩ := gs h
  cases h
  exact X_sub (sub_s (sub_s (sub_s (sub_s (sub_s (sub_n sub_0)))))) (k1 _ _ _ rfl hD (DLe_refl _) rv2 g1)
def fX6_ends_s12 (v0 : Int) (v1 : Int) (v3 : Int) (v2 : Int) (v4 : Int) (D : DD) : Option ((Int × Int × DD) ⊕ (Int × DD)) := (if dO D (v0) 7 then (Option.bind (fJx4a65c_size_8abf5 ((dW D (v0) 4)) D) fun r2 => (if dO D ((dW D (v0) 4)) 9 then (if (v4) < (r2) then (Option.bind (fX6_isClosed (v0) (v4) D) fun r5 => (if (r5) = (0) then fX6_ends_b125 (v0) (v1) (v2) (v3) (v4) D else (Option.bind (zlp (fun q => fX6_ends_s39 (v0) (v1) (v3) (v4) q.1 q.2.1 q.2.2) FU (v2, 0, D)) fun q7 => match q7 with | (x7_v2, D7) => (Option.bind (fJx4a65c_get_915e3 ((dW D7 (v0) 4)) (v4) D7) fun r8 => (if dO D7 ((dW D7 (v0) 4)) 9 then (if dO D7 (r8) 20 then (Option.bind (fJx4a65c_get_915e3 ((dW D7 (v0) 4)) (v4) D7) fun r11 => (if dO D7 (r11) 20 then (if (0 : Int) ≤ (2) ∧ (2 : Int) < ((dH D7 (r11)).2 : Int) then (if (0 : Int) ≤ (3) ∧ (3 : Int) < ((dH D7 (r8)).2 : Int) then (if inR (((dW D7 (v0) 3) + (dW D7 (r11) (2)))) then (zl (dup D7 (r8) (3) (((dW D7 (v0) 3) + (dW D7 (r11) (2))))) fun D16 => fX6_ends_b125 (v0) (v1) (x7_v2) (v3) (v4) D16) else none) else none) else none) else none)) else none) else none))))) else some (.inr (v2, D))) else none)) else none)
set_option maxRecDepth 100000 in
theorem SX6_ends_12 {ln : Nat} {D : DD} {z : ZZ} {v0 : Int} {v1 : Int} {v3 : Int} {v2 : Int} {v4 : Int} {Φ : xRes → xS → Prop} (hD : okD D) (rv0 : gdV D v0) (rv1 : inR v1) (rv3 : inR v3) (rv2 : inR v2) (rv4 : inR v4) {p : (Int × Int × DD) ⊕ (Int × DD)} (h : fX6_ends_s12 v0 v1 v3 v2 v4 D = some p) (k1 : ∀ (v2' : Int) (v4' : Int) (D' : DD), p = .inl (v2', v4', D') → okD D' → DLe D D' → inR v2' → inR v4' → XD mX6_ends 12 [some (rV (v0)), some (.int (iN (v1))), some (.int (iN (v2'))), some (.int (iN (v3))), some (.int (iN (v4'))), none] [] ln D' z Φ) (k2 : ∀ (v2' : Int) (D' : DD), p = .inr (v2', D') → okD D' → DLe D D' → inR v2' → XD mX6_ends 131 [some (rV (v0)), some (.int (iN (v1))), some (.int (iN (v2'))), some (.int (iN (v3))), none, none] [] ln D' z Φ) : XD mX6_ends 12 [some (rV (v0)), some (.int (iN (v1))), some (.int (iN (v2))), some (.int (iN (v3))), some (.int (iN (v4))), none] [] ln D z Φ := by
  unfold fX6_ends_s12 at h
  refine X_iload (pc' := 14) dX6_ends_12 rfl rfl ?_
  refine E_aload_n (pc' := 15) dX6_ends_14 rfl rfl ?_
  obtain ⟨g1, h⟩ := gs h
  refine E_getR (pc' := 18) dX6_ends_15 rfl FX6_24_6 hD g1 rfl (j := 4) rfl ?_
  obtain ⟨r2, q2, h⟩ := bs h
  obtain ⟨g3, h⟩ := gs h
  refine E_callV [] (pc' := 21) dX6_ends_18 rfl (xVc VX6_151) (by decide) ⟨dO_pos g3, dO_is hD g3 rfl⟩ rfl c1_n (cs rfl) (c1_i c1_n) (cs rfl) rfl hD (CJx4a65c_size_8abf5 hD (gd_slot (k := 4) hD g1 rfl (by decide)) q2) (fun a2 b2 f2 => ?_)
  refine X_icmp_ge dX6_ends_21 (tgt := 131) rfl (pc' := 24) rfl ⟨rv4.1, rv4.2, f2.1, f2.2⟩ (fun c4 => ?_) (fun c4 => ?_)
  · have h := if_f (Int.not_lt.mpr c4) h
    cases h
    exact X_sub (sub_s (sub_s (sub_s (sub_s (sub_n (sub_n sub_0)))))) (k2 _ _ rfl hD (DLe_refl _) rv2)
  have h := if_t c4 h
  refine E_aload_n (pc' := 25) dX6_ends_24 rfl rfl ?_
  refine X_iload (pc' := 27) dX6_ends_25 rfl rfl ?_
  obtain ⟨r5, q5, h⟩ := bs h
  refine E_callV [.int (iN (v4))] (pc' := 30) dX6_ends_27 rfl (xVc VX6_174) (by decide) ⟨dO_pos g1, dO_is hD g1 rfl⟩ rfl (c1_i c1_n) (cs rfl) c1_n (cs rfl) rfl hD (CX6_isClosed hD rv0 rv4 q5) (fun a5 b5 f5 => ?_)
  refine X_if_ne dX6_ends_30 (tgt := 36) rfl (pc' := 33) rfl (inR_b f5) (fun c6 => ?_) (fun c6 => ?_)
  · have h := if_f c6 h
    refine X_iconst (pc' := 37) dX6_ends_36 rfl ?_
    refine X_istore (pc' := 39) dX6_ends_37 rfl (cl rfl) (Or.inr rfl) (L' := [some (rV (v0)), some (.int (iN (v1))), some (.int (iN (v2))), some (.int (iN (v3))), some (.int (iN (v4))), some (.int (iN (0)))]) rfl ?_
    obtain ⟨⟨x7_v2, D7⟩, q7, h⟩ := bs h
    refine X_sub (sub_s (sub_s (sub_s (sub_s (sub_s (sub_s sub_0)))))) (LX6_ends_39 FU _ _ _ hD rv0 rv1 rv3 rv4 rv2 (inR_c (n := 0) rfl) q7 (fun x7_v2₁ D7₁ hh hD7 le7 rx7_v2 => ?_))
    cases hh
    refine E_aload_n (pc' := 93) dX6_ends_92 rfl rfl ?_
    refine E_getR (pc' := 96) dX6_ends_93 rfl FX6_24_6 hD7 (dO_le le7 g1) rfl (j := 4) rfl ?_
    refine X_iload (pc' := 98) dX6_ends_96 rfl rfl ?_
    obtain ⟨r8, q8, h⟩ := bs h
    obtain ⟨g9, h⟩ := gs h
    refine E_callV [.int (iN (v4))] (pc' := 101) dX6_ends_98 rfl (xVc VX6_154) (by decide) ⟨dO_pos g9, dO_is hD7 g9 rfl⟩ rfl (c1_i c1_n) (cs rfl) c1_n (cs rfl) rfl hD7 (CJx4a65c_get_915e3 hD7 (gd_slot (k := 4) hD7 (dO_le le7 g1) rfl (by decide)) rv4 q8) (fun a8 b8 f8 => ?_)
    obtain ⟨g10, h⟩ := gs h
    refine E_cast (pc' := 104) dX6_ends_101 rfl tq526 (dO_pos g10) (dO_isI hD7 g10) ?_
    refine X_iconst (pc' := 105) dX6_ends_104 rfl ?_
    refine E_aload_n (pc' := 106) dX6_ends_105 rfl rfl ?_
    refine E_getI (pc' := 109) dX6_ends_106 rfl FX6_43_6 hD7 (dO_le le7 g1) rfl (j := 3) rfl ?_
    refine E_aload_n (pc' := 110) dX6_ends_109 rfl rfl ?_
    refine E_getR (pc' := 113) dX6_ends_110 rfl FX6_24_6 hD7 (dO_le le7 g1) rfl (j := 4) rfl ?_
    refine X_iload (pc' := 115) dX6_ends_113 rfl rfl ?_
    obtain ⟨r11, q11, h⟩ := bs h
    refine E_callV [.int (iN (v4))] (pc' := 118) dX6_ends_115 rfl (xVc VX6_154) (by decide) ⟨dO_pos g9, dO_is hD7 g9 rfl⟩ rfl (c1_i c1_n) (cs rfl) (c1_i (c1_i (c1_r c1_n))) (cs rfl) rfl hD7 (CJx4a65c_get_915e3 hD7 (gd_slot (k := 4) hD7 (dO_le le7 g1) rfl (by decide)) rv4 q11) (fun a11 b11 f11 => ?_)
    obtain ⟨g12, h⟩ := gs h
    refine E_cast (pc' := 121) dX6_ends_118 rfl tq526 (dO_pos g12) (dO_isI hD7 g12) ?_
    refine X_iconst (pc' := 122) dX6_ends_121 rfl ?_
    obtain ⟨g13, h⟩ := gs h
    refine E_iald (pc' := 123) dX6_ends_122 rfl hD7 g12 g13 ?_
    refine X_iadd (pc' := 124) dX6_ends_123 rfl ?_
    obtain ⟨g14, h⟩ := gs h
    obtain ⟨g15, h⟩ := gs h
    refine E_iast (pc' := 125) dX6_ends_124 rfl hD7 g10 g14 ?_
    obtain ⟨D16, e16, f16, h⟩ := zl_some (P := fun q => okD q ∧ DLe D7 q) h ⟨okD_dupJ hD7 g14.1 (okS_at20 g10 g15), DLe_dup _ _ _ _⟩
    rw [e16]
    exact X_sub (sub_s (sub_s (sub_s (sub_s (sub_s (sub_n sub_0)))))) (BX6_ends_125 f16.1 (gdV_le f16.2 (gdV_le le7 rv0)) rv1 rx7_v2 rv3 rv4 h (fun x0 x1 D9 hh a b f0 f1 => k1 x0 x1 D9 hh a (DLe_trans (DLe_trans le7 f16.2) b) f0 f1) (fun x0 D9 hh a b f0 => k2 x0 D9 hh a (DLe_trans (DLe_trans le7 f16.2) b) f0))
  have h := if_t c6 h
  refine X_goto dX6_ends_33 (tgt := 125) rfl ?_
  exact X_sub (sub_s (sub_s (sub_s (sub_s (sub_s (sub_n sub_0)))))) (BX6_ends_125 hD rv0 rv1 rv2 rv3 rv4 h (fun x0 x1 D9 hh a b f0 f1 => k1 x0 x1 D9 hh a (DLe_trans (DLe_refl _) b) f0 f1) (fun x0 D9 hh a b f0 => k2 x0 D9 hh a (DLe_trans (DLe_refl _) b) f0))
theorem LX6_ends_12 {ln : Nat} {z : ZZ} {v0 : Int} {v1 : Int} {v3 : Int} {Φ : xRes → xS → Prop} {r : Int × DD} : ∀ (n : Nat) (v2 : Int) (v4 : Int) (D : DD), okD D → gdV D v0 → inR v1 → inR v3 → inR v2 → inR v4 → zlp (fun q => fX6_ends_s12 v0 v1 v3 q.1 q.2.1 q.2.2) n (v2, v4, D) = some r → (∀ (v2' : Int) (D' : DD), r = (v2', D') → okD D' → DLe D D' → inR v2' → XD mX6_ends 131 [some (rV (v0)), some (.int (iN (v1))), some (.int (iN (v2'))), some (.int (iN (v3))), none, none] [] ln D' z Φ) → XD mX6_ends 12 [some (rV (v0)), some (.int (iN (v1))), some (.int (iN (v2))), some (.int (iN (v3))), some (.int (iN (v4))), none] [] ln D z Φ := by
  intro n
  induction n with
  | zero => intro v2 v4 D hD rv0 rv1 rv3 rv2 rv4 h k2; cases h
  | succ n ih =>
    intro v2 v4 D hD rv0 rv1 rv3 rv2 rv4 h k2
    rcases zlp_s h with ⟨⟨v2', v4', D'⟩, e, h'⟩ | e
    · exact SX6_ends_12 hD rv0 rv1 rv3 rv2 rv4 e (fun v2₁ v4₁ D₁ hh a b f0 f1 => by cases hh; exact ih _ _ _ a (gdV_le b rv0) rv1 rv3 f0 f1 h' (fun x0 D9 hh a' b' y0 => k2 x0 D9 hh a' (DLe_trans b b') y0)) (fun x0 D9 hh => by cases hh)
    · exact SX6_ends_12 hD rv0 rv1 rv3 rv2 rv4 e (fun v2₁ v4₁ D₁ hh => by cases hh) (fun x0 D9 hh a b y0 => by cases hh; exact k2 _ _ rfl a b y0)
def fX6_ends_b180 (v0 : Int) (v1 : Int) (v2 : Int) (v3 : Int) (v4 : Int) (s0 : Int) (s1 : Int) (s2 : Int) (s3 : Int) (D : DD) : Option ((DD) ⊕ (DD)) := (if dO D (s0) 20 then (if (0 : Int) ≤ (s1) ∧ (s1 : Int) < ((dH D (s0)).2 : Int) then (if inR ((s2 + s3)) then (zl (dup D (s0) (s1) ((s2 + s3))) fun D4 => some (.inl D4)) else none) else none) else none)
set_option maxRecDepth 100000 in
theorem BX6_ends_180 {ln : Nat} {D : DD} {z : ZZ} {v0 : Int} {v1 : Int} {v2 : Int} {v3 : Int} {v4 : Int} {s0 : Int} {s1 : Int} {s2 : Int} {s3 : Int} {Φ : xRes → xS → Prop} (hD : okD D) (rv0 : gdV D v0) (rv1 : inR v1) (rv2 : inR v2) (rv3 : inR v3) (rv4 : gdV D v4) (rs0 : gdV D s0) (rs1 : inR s1) (rs2 : inR s2) (rs3 : inR s3) {p : (DD) ⊕ (DD)} (h : fX6_ends_b180 v0 v1 v2 v3 v4 s0 s1 s2 s3 D = some p) (k1 : ∀ (D' : DD), p = .inl D' → okD D' → DLe D D' → XD mX6_ends 140 [some (rV (v0)), some (.int (iN (v1))), some (.int (iN (v2))), some (.int (iN (v3))), some (rV (v4)), none] [] ln D' z Φ) (k2 : ∀ (D' : DD), p = .inr D' → okD D' → DLe D D' → XD mX6_ends 185 [some (rV (v0)), some (.int (iN (v1))), some (.int (iN (v2))), some (.int (iN (v3))), none, none] [] ln D' z Φ) : XD mX6_ends 180 [some (rV (v0)), some (.int (iN (v1))), some (.int (iN (v2))), some (.int (iN (v3))), some (rV (v4)), none] [.int (iN (s3)), .int (iN (s2)), .int (iN (s1)), rV (s0)] ln D z Φ := by
  unfold fX6_ends_b180 at h
  refine X_iadd (pc' := 181) dX6_ends_180 rfl ?_
  obtain ⟨g1, h⟩ := gs h
  obtain ⟨g2, h⟩ := gs h
  obtain ⟨g3, h⟩ := gs h
  refine E_iast (pc' := 182) dX6_ends_181 rfl hD g1 g2 ?_
  obtain ⟨D4, e4, f4, h⟩ := zl_some (P := fun q => okD q ∧ DLe D q) h ⟨okD_dupJ hD g2.1 (okS_at20 g1 g3), DLe_dup _ _ _ _⟩
  rw [e4]
  refine X_goto dX6_ends_182 (tgt := 140) rfl ?_
  cases h
  exact X_sub (sub_s (sub_s (sub_s (sub_s (sub_s (sub_n sub_0)))))) (k1 _ rfl f4.1 f4.2)
def fX6_ends_s140 (v0 : Int) (v1 : Int) (v2 : Int) (v3 : Int) (v4 : Int) (D : DD) : Option ((DD) ⊕ (DD)) := (Option.bind (fJx35411_hasNext_aae02 (v4) D) fun r1 => (if dO D (v4) 10 then (if (r1) = (0) then some (.inr D) else (Option.bind (fJx35411_next_0502b (v4) D) fun q4 => match q4 with | (r4, D4) => (if dO D4 (r4) 20 then (if (0 : Int) ≤ (5) ∧ (5 : Int) < ((dH D4 (r4)).2 : Int) then (if (0 : Int) ≤ (3) ∧ (3 : Int) < ((dH D4 (r4)).2 : Int) then (if ((dW D4 (r4) (3))) = ((-1)) then fX6_ends_b180 (v0) (v1) (v2) (v3) (v4) (r4) (5) ((dW D4 (r4) (5))) (0) D4 else fX6_ends_b180 (v0) (v1) (v2) (v3) (v4) (r4) (5) ((dW D4 (r4) (5))) (1) D4) else none) else none) else none))) else none))
set_option maxRecDepth 100000 in
theorem SX6_ends_140 {ln : Nat} {D : DD} {z : ZZ} {v0 : Int} {v1 : Int} {v2 : Int} {v3 : Int} {v4 : Int} {Φ : xRes → xS → Prop} (hD : okD D) (rv0 : gdV D v0) (rv1 : inR v1) (rv2 : inR v2) (rv3 : inR v3) (rv4 : gdV D v4) {p : (DD) ⊕ (DD)} (h : fX6_ends_s140 v0 v1 v2 v3 v4 D = some p) (k1 : ∀ (D' : DD), p = .inl D' → okD D' → DLe D D' → XD mX6_ends 140 [some (rV (v0)), some (.int (iN (v1))), some (.int (iN (v2))), some (.int (iN (v3))), some (rV (v4)), none] [] ln D' z Φ) (k2 : ∀ (D' : DD), p = .inr D' → okD D' → DLe D D' → XD mX6_ends 185 [some (rV (v0)), some (.int (iN (v1))), some (.int (iN (v2))), some (.int (iN (v3))), none, none] [] ln D' z Φ) : XD mX6_ends 140 [some (rV (v0)), some (.int (iN (v1))), some (.int (iN (v2))), some (.int (iN (v3))), some (rV (v4)), none] [] ln D z Φ := by
  unfold fX6_ends_s140 at h
  refine E_aload (pc' := 142) dX6_ends_140 rfl rfl ?_
  obtain ⟨r1, q1, h⟩ := bs h
  obtain ⟨g2, h⟩ := gs h
  refine E_callF [] (pc' := 147) dX6_ends_142 rfl F_X6_50_Jx35411 (by decide) ⟨dO_pos g2, dO_is hD g2 rfl⟩ rfl c1_n (cs rfl) c1_n (cs rfl) rfl hD (CJx35411_hasNext_aae02 hD rv4 q1) (fun a1 b1 f1 => ?_)
  refine X_if_eq dX6_ends_147 (tgt := 185) rfl (pc' := 150) rfl (inR_b f1) (fun c3 => ?_) (fun c3 => ?_)
  · have h := if_t c3 h
    cases h
    exact X_sub (sub_s (sub_s (sub_s (sub_s (sub_n (sub_n sub_0)))))) (k2 _ rfl hD (DLe_refl _))
  have h := if_f c3 h
  refine E_aload (pc' := 152) dX6_ends_150 rfl rfl ?_
  obtain ⟨⟨r4, D4⟩, q4, h⟩ := bs h
  refine E_callF [] (pc' := 157) dX6_ends_152 rfl F_X6_56_Jx35411 (by decide) ⟨dO_pos g2, dO_is hD g2 rfl⟩ rfl c1_n (cs rfl) c1_n (cs rfl) rfl hD (CJx35411_next_0502b hD rv4 q4) (fun a4 b4 f4 => ?_)
  obtain ⟨g5, h⟩ := gs h
  refine E_cast (pc' := 160) dX6_ends_157 rfl tq526 (dO_pos g5) (dO_isI a4 g5) ?_
  refine E_astore (pc' := 162) dX6_ends_160 rfl (cl rfl) (Or.inr (xC1_R _)) (L' := [some (rV (v0)), some (.int (iN (v1))), some (.int (iN (v2))), some (.int (iN (v3))), some (rV (v4)), some (rV (r4))]) rfl ?_
  refine E_aload (pc' := 164) dX6_ends_162 rfl rfl ?_
  refine X_iconst (pc' := 165) dX6_ends_164 rfl ?_
  refine X_dup2 (pc' := 166) dX6_ends_165 rfl rfl (rV_cat _) ?_
  obtain ⟨g6, h⟩ := gs h
  refine E_iald (pc' := 167) dX6_ends_166 rfl a4 g5 g6 ?_
  refine E_aload (pc' := 169) dX6_ends_167 rfl rfl ?_
  refine X_iconst (pc' := 170) dX6_ends_169 rfl ?_
  obtain ⟨g7, h⟩ := gs h
  refine E_iald (pc' := 171) dX6_ends_170 rfl a4 g5 g7 ?_
  refine X_iconst (pc' := 172) dX6_ends_171 rfl ?_
  refine X_icmp_eq dX6_ends_172 (tgt := 179) rfl (pc' := 175) rfl ⟨(in_at a4 g5 (Or.inl rfl) g7.1).1, (in_at a4 g5 (Or.inl rfl) g7.1).2, (inR_c (n := (-1)) rfl).1, (inR_c (n := (-1)) rfl).2⟩ (fun c8 => ?_) (fun c8 => ?_)
  · have h := if_t c8 h
    refine X_iconst (pc' := 180) dX6_ends_179 rfl ?_
    exact X_sub (sub_s (sub_s (sub_s (sub_s (sub_s (sub_n sub_0)))))) (BX6_ends_180 a4 (gdV_le b4 rv0) rv1 rv2 rv3 (gdV_le b4 rv4) f4 (inR_c (n := 5) rfl) (in_at a4 g5 (Or.inl rfl) g6.1) (inR_c (n := 0) rfl) h (fun D9 hh a b => k1 D9 hh a (DLe_trans b4 b)) (fun D9 hh a b => k2 D9 hh a (DLe_trans b4 b)))
  have h := if_f c8 h
  refine X_iconst (pc' := 176) dX6_ends_175 rfl ?_
  refine X_goto dX6_ends_176 (tgt := 180) rfl ?_
  exact X_sub (sub_s (sub_s (sub_s (sub_s (sub_s (sub_n sub_0)))))) (BX6_ends_180 a4 (gdV_le b4 rv0) rv1 rv2 rv3 (gdV_le b4 rv4) f4 (inR_c (n := 5) rfl) (in_at a4 g5 (Or.inl rfl) g6.1) (inR_c (n := 1) rfl) h (fun D9 hh a b => k1 D9 hh a (DLe_trans b4 b)) (fun D9 hh a b => k2 D9 hh a (DLe_trans b4 b)))
theorem LX6_ends_140 {ln : Nat} {z : ZZ} {v0 : Int} {v1 : Int} {v2 : Int} {v3 : Int} {v4 : Int} {Φ : xRes → xS → Prop} {r : DD} : ∀ (n : Nat) (D : DD), okD D → gdV D v0 → inR v1 → inR v2 → inR v3 → gdV D v4 → zlp (fun q => fX6_ends_s140 v0 v1 v2 v3 v4 q) n D = some r → (∀ (D' : DD), r = D' → okD D' → DLe D D' → XD mX6_ends 185 [some (rV (v0)), some (.int (iN (v1))), some (.int (iN (v2))), some (.int (iN (v3))), none, none] [] ln D' z Φ) → XD mX6_ends 140 [some (rV (v0)), some (.int (iN (v1))), some (.int (iN (v2))), some (.int (iN (v3))), some (rV (v4)), none] [] ln D z Φ := by
  intro n
  induction n with
  | zero => intro D hD rv0 rv1 rv2 rv3 rv4 h k2; cases h
  | succ n ih =>
    intro D hD rv0 rv1 rv2 rv3 rv4 h k2
    rcases zlp_s h with ⟨D', e, h'⟩ | e
    · exact SX6_ends_140 hD rv0 rv1 rv2 rv3 rv4 e (fun D₁ hh a b => by cases hh; exact ih _ a (gdV_le b rv0) rv1 rv2 rv3 (gdV_le b rv4) h' (fun D9 hh a' b' => k2 D9 hh a' (DLe_trans b b'))) (fun D9 hh => by cases hh)
    · exact SX6_ends_140 hD rv0 rv1 rv2 rv3 rv4 e (fun D₁ hh => by cases hh) (fun D9 hh a b => by cases hh; exact k2 _ rfl a b )
def fX6_ends_s4 (v0 : Int) (v1 : Int) (v2 : Int) (v3 : Int) (D : DD) : Option ((Int × Int × DD) ⊕ (Int × DD)) := (if (v3) < (v1) then (Option.bind (zlp (fun q => fX6_ends_s12 (v0) (v1) (v3) q.1 q.2.1 q.2.2) FU (v2, 0, D)) fun q2 => match q2 with | (x2_v2, D2) => (if dO D2 (v0) 7 then (Option.bind (fJx4a65c_iterator_32c93 ((dW D2 (v0) 7)) D2) fun q4 => match q4 with | (r4, D4) => (if dO D2 ((dW D2 (v0) 7)) 9 then (Option.bind (zlp (fun q => fX6_ends_s140 (v0) (v1) (x2_v2) (v3) (r4) q) FU D4) fun D6 => (if inR (((dW D6 (v0) 3) + 1)) then (zl (dup D6 (v0) 3 (((dW D6 (v0) 3) + 1))) fun D8 => (if inR ((v3 + 1)) then some (.inl (x2_v2, (v3 + 1), D8)) else none)) else none)) else none)) else none)) else some (.inr (v2, D)))
set_option maxRecDepth 100000 in
theorem SX6_ends_4 {ln : Nat} {D : DD} {z : ZZ} {v0 : Int} {v1 : Int} {v2 : Int} {v3 : Int} {Φ : xRes → xS → Prop} (hD : okD D) (rv0 : gdV D v0) (rv1 : inR v1) (rv2 : inR v2) (rv3 : inR v3) {p : (Int × Int × DD) ⊕ (Int × DD)} (h : fX6_ends_s4 v0 v1 v2 v3 D = some p) (k1 : ∀ (v2' : Int) (v3' : Int) (D' : DD), p = .inl (v2', v3', D') → okD D' → DLe D D' → inR v2' → inR v3' → XD mX6_ends 4 [some (rV (v0)), some (.int (iN (v1))), some (.int (iN (v2'))), some (.int (iN (v3'))), none, none] [] ln D' z Φ) (k2 : ∀ (v2' : Int) (D' : DD), p = .inr (v2', D') → okD D' → DLe D D' → inR v2' → XD mX6_ends 201 [none, none, some (.int (iN (v2'))), none, none, none] [] ln D' z Φ) : XD mX6_ends 4 [some (rV (v0)), some (.int (iN (v1))), some (.int (iN (v2))), some (.int (iN (v3))), none, none] [] ln D z Φ := by
  unfold fX6_ends_s4 at h
  refine X_iload_n (pc' := 5) dX6_ends_4 rfl rfl ?_
  refine X_iload_n (pc' := 6) dX6_ends_5 rfl rfl ?_
  refine X_icmp_ge dX6_ends_6 (tgt := 201) rfl (pc' := 9) rfl ⟨rv3.1, rv3.2, rv1.1, rv1.2⟩ (fun c1 => ?_) (fun c1 => ?_)
  · have h := if_f (Int.not_lt.mpr c1) h
    cases h
    exact X_sub (sub_n (sub_n (sub_s (sub_n (sub_n (sub_n sub_0)))))) (k2 _ _ rfl hD (DLe_refl _) rv2)
  have h := if_t c1 h
  refine X_iconst (pc' := 10) dX6_ends_9 rfl ?_
  refine X_istore (pc' := 12) dX6_ends_10 rfl (cl rfl) (Or.inr rfl) (L' := [some (rV (v0)), some (.int (iN (v1))), some (.int (iN (v2))), some (.int (iN (v3))), some (.int (iN (0))), none]) rfl ?_
  obtain ⟨⟨x2_v2, D2⟩, q2, h⟩ := bs h
  refine X_sub (sub_s (sub_s (sub_s (sub_s (sub_s (sub_n sub_0)))))) (LX6_ends_12 FU _ _ _ hD rv0 rv1 rv3 rv2 (inR_c (n := 0) rfl) q2 (fun x2_v2₁ D2₁ hh hD2 le2 rx2_v2 => ?_))
  cases hh
  refine E_aload_n (pc' := 132) dX6_ends_131 rfl rfl ?_
  obtain ⟨g3, h⟩ := gs h
  refine E_getR (pc' := 135) dX6_ends_132 rfl FX6_34_6 hD2 g3 rfl (j := 7) rfl ?_
  obtain ⟨⟨r4, D4⟩, q4, h⟩ := bs h
  obtain ⟨g5, h⟩ := gs h
  refine E_callV [] (pc' := 138) dX6_ends_135 rfl (xVc VX6_46) (by decide) ⟨dO_pos g5, dO_is hD2 g5 rfl⟩ rfl c1_n (cs rfl) c1_n (cs rfl) rfl hD2 (CJx4a65c_iterator_32c93 hD2 (gd_slot (k := 7) hD2 g3 rfl (by decide)) q4) (fun a4 b4 f4 => ?_)
  refine E_astore (pc' := 140) dX6_ends_138 rfl (cl rfl) (Or.inr rfl) (L' := [some (rV (v0)), some (.int (iN (v1))), some (.int (iN (x2_v2))), some (.int (iN (v3))), some (rV (r4)), none]) rfl ?_
  obtain ⟨D6, q6, h⟩ := bs h
  refine X_sub (sub_s (sub_s (sub_s (sub_s (sub_s (sub_n sub_0)))))) (LX6_ends_140 FU _ a4 (gdV_le b4 (gdV_le le2 rv0)) rv1 rx2_v2 rv3 f4 q6 (fun D6₁ hh hD6 le6 => ?_))
  cases hh
  refine E_aload_n (pc' := 186) dX6_ends_185 rfl rfl ?_
  refine X_dup (pc' := 187) dX6_ends_186 rfl (rV_cat _) ?_
  refine E_getI (pc' := 190) dX6_ends_187 rfl FX6_43_6 hD6 (dO_le le6 (dO_le b4 g3)) rfl (j := 3) rfl ?_
  refine X_iconst (pc' := 191) dX6_ends_190 rfl ?_
  refine X_iadd (pc' := 192) dX6_ends_191 rfl ?_
  obtain ⟨g7, h⟩ := gs h
  refine E_putI (pc' := 195) dX6_ends_192 rfl FX6_43_6 hD6 (dO_le le6 (dO_le b4 g3)) rfl (fun r hr => by cases hr; exact Or.inl rfl) (xFit_int _) (j := 3) rfl ?_
  obtain ⟨D8, e8, f8, h⟩ := zl_some (P := fun q => okD q ∧ DLe D6 q) h ⟨okD_dup (k := 3) hD6 (okS_I (dO_le le6 (dO_le b4 g3)) rfl (by decide) (by decide) g7), DLe_dup _ _ _ _⟩
  rw [e8]
  refine X_iinc (pc' := 198) dX6_ends_195 rfl rfl (Or.inr rfl) (L' := [some (rV (v0)), some (.int (iN (v1))), some (.int (iN (x2_v2))), some (.int (iN (v3 + 1))), none, none]) rfl ?_
  refine X_goto dX6_ends_198 (tgt := 4) rfl ?_
  obtain ⟨g9, h⟩ := gs h
  cases h
  exact X_sub (sub_s (sub_s (sub_s (sub_s (sub_n (sub_n sub_0)))))) (k1 _ _ _ rfl f8.1 (DLe_trans (DLe_trans (DLe_trans le2 b4) le6) f8.2) rx2_v2 g9)
theorem LX6_ends_4 {ln : Nat} {z : ZZ} {v0 : Int} {v1 : Int} {Φ : xRes → xS → Prop} {r : Int × DD} : ∀ (n : Nat) (v2 : Int) (v3 : Int) (D : DD), okD D → gdV D v0 → inR v1 → inR v2 → inR v3 → zlp (fun q => fX6_ends_s4 v0 v1 q.1 q.2.1 q.2.2) n (v2, v3, D) = some r → (∀ (v2' : Int) (D' : DD), r = (v2', D') → okD D' → DLe D D' → inR v2' → XD mX6_ends 201 [none, none, some (.int (iN (v2'))), none, none, none] [] ln D' z Φ) → XD mX6_ends 4 [some (rV (v0)), some (.int (iN (v1))), some (.int (iN (v2))), some (.int (iN (v3))), none, none] [] ln D z Φ := by
  intro n
  induction n with
  | zero => intro v2 v3 D hD rv0 rv1 rv2 rv3 h k2; cases h
  | succ n ih =>
    intro v2 v3 D hD rv0 rv1 rv2 rv3 h k2
    rcases zlp_s h with ⟨⟨v2', v3', D'⟩, e, h'⟩ | e
    · exact SX6_ends_4 hD rv0 rv1 rv2 rv3 e (fun v2₁ v3₁ D₁ hh a b f0 f1 => by cases hh; exact ih _ _ _ a (gdV_le b rv0) rv1 f0 f1 h' (fun x0 D9 hh a' b' y0 => k2 x0 D9 hh a' (DLe_trans b b') y0)) (fun x0 D9 hh => by cases hh)
    · exact SX6_ends_4 hD rv0 rv1 rv2 rv3 e (fun v2₁ v3₁ D₁ hh => by cases hh) (fun x0 D9 hh a b y0 => by cases hh; exact k2 _ _ rfl a b y0)
def fX6_ends (v0 : Int) (v1 : Int) (D : DD) : Option (Int × DD) := (Option.bind (zlp (fun q => fX6_ends_s4 (v0) (v1) q.1 q.2.1 q.2.2) FU (0, 0, D)) fun q1 => match q1 with | (x1_v2, D1) => some (x1_v2, D1))
set_option maxRecDepth 100000 in
theorem CX6_ends {ln : Nat} {D : DD} {z : ZZ} {v0 : Int} {v1 : Int} (hD : okD D) (rv0 : gdV D v0) (rv1 : inR v1) {p : Int × DD} (h : fX6_ends v0 v1 D = some p) : XD mX6_ends 0 (xEnt [rV (v0), .int (iN (v1))] (xL mX6_ends)) [] ln D z (Qd (FdD D p.2 (inR p.1)) (.inl (some (.int (iN p.1)))) (sD ln p.2 z)) := by
  have k : K_wi (Qd (FdD D p.2 (inR p.1)) (.inl (some (.int (iN p.1)))) (sD ln p.2 z)) ln D z p := fun a b c => ⟨⟨a, b, c⟩, rfl, rfl⟩
  unfold fX6_ends at h
  refine E_ent (c1_r (c1_i c1_n)) (M := [some (rV (v0)), some (.int (iN (v1))), none, none, none, none]) rfl ?_
  refine X_iconst (pc' := 1) dX6_ends_0 rfl ?_
  refine X_istore_n (pc' := 2) dX6_ends_1 rfl (cl rfl) (Or.inr rfl) (L' := [some (rV (v0)), some (.int (iN (v1))), some (.int (iN (0))), none, none, none]) rfl ?_
  refine X_iconst (pc' := 3) dX6_ends_2 rfl ?_
  refine X_istore_n (pc' := 4) dX6_ends_3 rfl (cl rfl) (Or.inr rfl) (L' := [some (rV (v0)), some (.int (iN (v1))), some (.int (iN (0))), some (.int (iN (0))), none, none]) rfl ?_
  obtain ⟨⟨x1_v2, D1⟩, q1, h⟩ := bs h
  refine X_sub (sub_s (sub_s (sub_s (sub_s (sub_n (sub_n sub_0)))))) (LX6_ends_4 FU _ _ _ hD rv0 rv1 (inR_c (n := 0) rfl) (inR_c (n := 0) rfl) q1 (fun x1_v2₁ D1₁ hh hD1 le1 rx1_v2 => ?_))
  cases hh
  refine X_iload_n (pc' := 202) dX6_ends_201 rfl rfl ?_
  cases h
  exact X_iret dX6_ends_202 rfl (k hD1 le1 rx1_v2)
def fL_isError (v0 : Int) (D : DD) : Option (Int) := (if ((-1000000001)) < (v0) then some (0) else (if (v0) < ((-1000000005)) then some (0) else some (1)))
set_option maxRecDepth 100000 in
theorem CL_isError {ln : Nat} {D : DD} {z : ZZ} {v0 : Int} (hD : okD D) (rv0 : inR v0) {p : Int} (h : fL_isError v0 D = some p) : XD mL_isError 0 (xEnt [.int (iN (v0))] (xL mL_isError)) [] ln D z (Qd (FdD D D (p = 0 ∨ p = 1)) (.inl (some (.int (iN p)))) (sD ln D z)) := by
  have k : K_b (Qd (FdD D D (p = 0 ∨ p = 1)) (.inl (some (.int (iN p)))) (sD ln D z)) ln D z p := fun a => ⟨⟨hD, DLe_refl D, a⟩, rfl, rfl⟩
  unfold fL_isError at h
  refine E_ent (c1_i c1_n) (M := [some (.int (iN (v0)))]) rfl ?_
  refine X_iload_n (pc' := 1) dL_isError_0 rfl rfl ?_
  refine X_ldcI (pc' := 3) dL_isError_1 rfl tq1815 (n := (-1000000001)) rfl ?_
  refine X_icmp_gt dL_isError_3 (tgt := 16) rfl (pc' := 6) rfl ⟨rv0.1, rv0.2, (inR_c (n := (-1000000001)) rfl).1, (inR_c (n := (-1000000001)) rfl).2⟩ (fun c1 => ?_) (fun c1 => ?_)
  · have h := if_t c1 h
    refine X_iconst (pc' := 17) dL_isError_16 rfl ?_
    cases h
    exact X_zret dL_isError_17 rfl (Or.inl rfl) (k (Or.inl rfl))
  have h := if_f (Int.not_lt.mpr c1) h
  refine X_iload_n (pc' := 7) dL_isError_6 rfl rfl ?_
  refine X_ldcI (pc' := 9) dL_isError_7 rfl tq1844 (n := (-1000000005)) rfl ?_
  refine X_icmp_lt dL_isError_9 (tgt := 16) rfl (pc' := 12) rfl ⟨rv0.1, rv0.2, (inR_c (n := (-1000000005)) rfl).1, (inR_c (n := (-1000000005)) rfl).2⟩ (fun c2 => ?_) (fun c2 => ?_)
  · have h := if_t c2 h
    refine X_iconst (pc' := 17) dL_isError_16 rfl ?_
    cases h
    exact X_zret dL_isError_17 rfl (Or.inl rfl) (k (Or.inl rfl))
  have h := if_f (Int.not_lt.mpr c2) h
  refine X_iconst (pc' := 13) dL_isError_12 rfl ?_
  refine X_goto dL_isError_13 (tgt := 17) rfl ?_
  cases h
  exact X_zret dL_isError_17 rfl (Or.inr rfl) (k (Or.inr rfl))
def fL_one (v0 : Int) (v1 : Int) (D : DD) : Option (Int) := (if (0 : Int) ≤ (v0) ∧ (0 : Int) < (29) then (if ((v0 % 29)) = (0) then some (v1) else (if (v1) = (0) then some (v1) else (if (0 : Int) ≤ (v0) ∧ (0 : Int) < (v1) then some ((v0 % v1)) else none))) else none)
set_option maxRecDepth 100000 in
theorem CL_one {ln : Nat} {D : DD} {z : ZZ} {v0 : Int} {v1 : Int} (hD : okD D) (rv0 : inR v0) (rv1 : inR v1) {p : Int} (h : fL_one v0 v1 D = some p) : XD mL_one 0 (xEnt [.int (iN (v0)), .int (iN (v1))] (xL mL_one)) [] ln D z (Qd (FdD D D (inR p)) (.inl (some (.int (iN p)))) (sD ln D z)) := by
  have k : K_r (Qd (FdD D D (inR p)) (.inl (some (.int (iN p)))) (sD ln D z)) ln D z p := fun a => ⟨⟨hD, DLe_refl D, a⟩, rfl, rfl⟩
  unfold fL_one at h
  refine E_ent (c1_i (c1_i c1_n)) (M := [some (.int (iN (v0))), some (.int (iN (v1)))]) rfl ?_
  refine X_iload_n (pc' := 1) dL_one_0 rfl rfl ?_
  refine X_bipush (pc' := 3) dL_one_1 rfl (by decide) ?_
  obtain ⟨g1, h⟩ := gs h
  refine X_irem (pc' := 4) dL_one_3 rfl ⟨g1.1, rv0.2, g1.2, (inR_c (n := 29) rfl).2⟩ ?_
  refine X_if_eq dL_one_4 (tgt := 11) rfl (pc' := 7) rfl (inR_mod g1 (inR_c (n := 29) rfl)) (fun c2 => ?_) (fun c2 => ?_)
  · have h := if_t c2 h
    refine X_iload_n (pc' := 12) dL_one_11 rfl rfl ?_
    refine X_goto dL_one_12 (tgt := 18) rfl ?_
    cases h
    exact X_iret dL_one_18 rfl (k rv1)
  have h := if_f c2 h
  refine X_iload_n (pc' := 8) dL_one_7 rfl rfl ?_
  refine X_if_ne dL_one_8 (tgt := 15) rfl (pc' := 11) rfl rv1 (fun c3 => ?_) (fun c3 => ?_)
  · have h := if_f c3 h
    refine X_iload_n (pc' := 16) dL_one_15 rfl rfl ?_
    refine X_iload_n (pc' := 17) dL_one_16 rfl rfl ?_
    obtain ⟨g4, h⟩ := gs h
    refine X_irem (pc' := 18) dL_one_17 rfl ⟨g4.1, rv0.2, g4.2, rv1.2⟩ ?_
    cases h
    exact X_iret dL_one_18 rfl (k (inR_mod g4 rv1))
  have h := if_t c3 h
  refine X_iload_n (pc' := 12) dL_one_11 rfl rfl ?_
  refine X_goto dL_one_12 (tgt := 18) rfl ?_
  cases h
  exact X_iret dL_one_18 rfl (k rv1)
def fL_some (v0 : Int) (v1 : Int) (v2 : Int) (D : DD) : Option (Int) := (if (0 : Int) ≤ (v0) ∧ (0 : Int) < (31) then (if ((v0 % 31)) = (0) then (if inR ((v2 + 1)) then some ((v2 + 1)) else none) else (if (0 : Int) ≤ (v0) ∧ (0 : Int) < (37) then (if ((v0 % 37)) = (0) then (if inR ((v1 - 1)) then some ((v1 - 1)) else none) else (if inR (((v2 - v1) + 1)) then (if (0 : Int) ≤ (v0) ∧ (0 : Int) < (((v2 - v1) + 1)) then (if inR ((v1 + (v0 % ((v2 - v1) + 1)))) then some ((v1 + (v0 % ((v2 - v1) + 1)))) else none) else none) else none)) else none)) else none)
set_option maxRecDepth 100000 in
theorem CL_some {ln : Nat} {D : DD} {z : ZZ} {v0 : Int} {v1 : Int} {v2 : Int} (hD : okD D) (rv0 : inR v0) (rv1 : inR v1) (rv2 : inR v2) {p : Int} (h : fL_some v0 v1 v2 D = some p) : XD mL_some 0 (xEnt [.int (iN (v0)), .int (iN (v1)), .int (iN (v2))] (xL mL_some)) [] ln D z (Qd (FdD D D (inR p)) (.inl (some (.int (iN p)))) (sD ln D z)) := by
  have k : K_r (Qd (FdD D D (inR p)) (.inl (some (.int (iN p)))) (sD ln D z)) ln D z p := fun a => ⟨⟨hD, DLe_refl D, a⟩, rfl, rfl⟩
  unfold fL_some at h
  refine E_ent (c1_i (c1_i (c1_i c1_n))) (M := [some (.int (iN (v0))), some (.int (iN (v1))), some (.int (iN (v2)))]) rfl ?_
  refine X_iload_n (pc' := 1) dL_some_0 rfl rfl ?_
  refine X_bipush (pc' := 3) dL_some_1 rfl (by decide) ?_
  obtain ⟨g1, h⟩ := gs h
  refine X_irem (pc' := 4) dL_some_3 rfl ⟨g1.1, rv0.2, g1.2, (inR_c (n := 31) rfl).2⟩ ?_
  refine X_if_ne dL_some_4 (tgt := 13) rfl (pc' := 7) rfl (inR_mod g1 (inR_c (n := 31) rfl)) (fun c2 => ?_) (fun c2 => ?_)
  · have h := if_f c2 h
    refine X_iload_n (pc' := 14) dL_some_13 rfl rfl ?_
    refine X_bipush (pc' := 16) dL_some_14 rfl (by decide) ?_
    obtain ⟨g3, h⟩ := gs h
    refine X_irem (pc' := 17) dL_some_16 rfl ⟨g3.1, rv0.2, g3.2, (inR_c (n := 37) rfl).2⟩ ?_
    refine X_if_ne dL_some_17 (tgt := 26) rfl (pc' := 20) rfl (inR_mod g3 (inR_c (n := 37) rfl)) (fun c4 => ?_) (fun c4 => ?_)
    · have h := if_f c4 h
      refine X_iload_n (pc' := 27) dL_some_26 rfl rfl ?_
      refine X_iload_n (pc' := 28) dL_some_27 rfl rfl ?_
      refine X_iload_n (pc' := 29) dL_some_28 rfl rfl ?_
      refine X_iload_n (pc' := 30) dL_some_29 rfl rfl ?_
      refine X_isub (pc' := 31) dL_some_30 rfl ?_
      refine X_iconst (pc' := 32) dL_some_31 rfl ?_
      refine X_iadd (pc' := 33) dL_some_32 rfl ?_
      obtain ⟨g5, h⟩ := gs h
      obtain ⟨g6, h⟩ := gs h
      refine X_irem (pc' := 34) dL_some_33 rfl ⟨g6.1, rv0.2, g6.2, g5.2⟩ ?_
      refine X_iadd (pc' := 35) dL_some_34 rfl ?_
      obtain ⟨g7, h⟩ := gs h
      cases h
      exact X_iret dL_some_35 rfl (k g7)
    have h := if_t c4 h
    refine X_iload_n (pc' := 21) dL_some_20 rfl rfl ?_
    refine X_iconst (pc' := 22) dL_some_21 rfl ?_
    refine X_isub (pc' := 23) dL_some_22 rfl ?_
    refine X_goto dL_some_23 (tgt := 35) rfl ?_
    obtain ⟨g8, h⟩ := gs h
    cases h
    exact X_iret dL_some_35 rfl (k g8)
  have h := if_t c2 h
  refine X_iload_n (pc' := 8) dL_some_7 rfl rfl ?_
  refine X_iconst (pc' := 9) dL_some_8 rfl ?_
  refine X_iadd (pc' := 10) dL_some_9 rfl ?_
  refine X_goto dL_some_10 (tgt := 35) rfl ?_
  obtain ⟨g9, h⟩ := gs h
  cases h
  exact X_iret dL_some_35 rfl (k g9)
def fL_is (v0 : Int) (v1 : Int) (v2 : Int) (D : DD) : Option (Int) := (if (v0) < (v1) then some (0) else (if (v2) < (v0) then some (0) else some (1)))
set_option maxRecDepth 100000 in
theorem CL_is {ln : Nat} {D : DD} {z : ZZ} {v0 : Int} {v1 : Int} {v2 : Int} (hD : okD D) (rv0 : inR v0) (rv1 : inR v1) (rv2 : inR v2) {p : Int} (h : fL_is v0 v1 v2 D = some p) : XD mL_is 0 (xEnt [.int (iN (v0)), .int (iN (v1)), .int (iN (v2))] (xL mL_is)) [] ln D z (Qd (FdD D D (p = 0 ∨ p = 1)) (.inl (some (.int (iN p)))) (sD ln D z)) := by
  have k : K_b (Qd (FdD D D (p = 0 ∨ p = 1)) (.inl (some (.int (iN p)))) (sD ln D z)) ln D z p := fun a => ⟨⟨hD, DLe_refl D, a⟩, rfl, rfl⟩
  unfold fL_is at h
  refine E_ent (c1_i (c1_i (c1_i c1_n))) (M := [some (.int (iN (v0))), some (.int (iN (v1))), some (.int (iN (v2)))]) rfl ?_
  refine X_iload_n (pc' := 1) dL_is_0 rfl rfl ?_
  refine X_iload_n (pc' := 2) dL_is_1 rfl rfl ?_
  refine X_icmp_lt dL_is_2 (tgt := 14) rfl (pc' := 5) rfl ⟨rv0.1, rv0.2, rv1.1, rv1.2⟩ (fun c1 => ?_) (fun c1 => ?_)
  · have h := if_t c1 h
    refine X_iconst (pc' := 15) dL_is_14 rfl ?_
    cases h
    exact X_zret dL_is_15 rfl (Or.inl rfl) (k (Or.inl rfl))
  have h := if_f (Int.not_lt.mpr c1) h
  refine X_iload_n (pc' := 6) dL_is_5 rfl rfl ?_
  refine X_iload_n (pc' := 7) dL_is_6 rfl rfl ?_
  refine X_icmp_gt dL_is_7 (tgt := 14) rfl (pc' := 10) rfl ⟨rv0.1, rv0.2, rv2.1, rv2.2⟩ (fun c2 => ?_) (fun c2 => ?_)
  · have h := if_t c2 h
    refine X_iconst (pc' := 15) dL_is_14 rfl ?_
    cases h
    exact X_zret dL_is_15 rfl (Or.inl rfl) (k (Or.inl rfl))
  have h := if_f (Int.not_lt.mpr c2) h
  refine X_iconst (pc' := 11) dL_is_10 rfl ?_
  refine X_goto dL_is_11 (tgt := 15) rfl ?_
  cases h
  exact X_zret dL_is_15 rfl (Or.inr rfl) (k (Or.inr rfl))

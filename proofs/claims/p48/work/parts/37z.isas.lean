/-! isAs -/
def fX6_isAs_s99 (v0 : Int) (v2 : Int) (v3 : Int) (ln : Nat) (z : ZZ) (D : DD) : Option ((Int × ZZ × DD) ⊕ (ZZ × DD)) := (if (v3) < (10) then (Option.bind (fX5_count (v3) z) fun q2 => match q2 with | .inr _ => none | .inl r2 => (if dO D (v2) 20 then (if (0 : Int) ≤ (v3) ∧ (v3 : Int) < ((dH D (v2)).2 : Int) then (if (r2) = ((dW D (v2) (v3))) then (if inR ((v3 + 1)) then some (.inl ((v3 + 1), z, D)) else none) else none) else none) else none)) else some (.inr (z, D)))
set_option maxRecDepth 100000 in
theorem SX6_isAs_99 {ln : Nat} {D : DD} {z : ZZ} {v0 : Int} {v2 : Int} {v3 : Int} {Φ : xRes → xS → Prop} (hD : okD D) (hz : okz z) (rv0 : gdV D v0) (rv2 : gdV D v2) (rv3 : inR v3) {p : (Int × ZZ × DD) ⊕ (ZZ × DD)} (h : fX6_isAs_s99 v0 v2 v3 ln z D = some p) (k1 : ∀ (v3' : Int) (z' : ZZ) (D' : DD), p = .inl (v3', z', D') → okD D' → DLe D D' → okz z' → inR v3' → XD mX6_isAs 99 [some (rV (v0)), some (.ref 0), some (rV (v2)), some (.int (iN (v3'))), none, none, none] [] ln D' z' Φ) (k2 : ∀ (z' : ZZ) (D' : DD), p = .inr (z', D') → okD D' → DLe D D' → okz z' → XD mX6_isAs 124 [some (rV (v0)), some (.ref 0), none, none, none, none, none] [] ln D' z' Φ) : XD mX6_isAs 99 [some (rV (v0)), some (.ref 0), some (rV (v2)), some (.int (iN (v3))), none, none, none] [] ln D z Φ := by
  unfold fX6_isAs_s99 at h
  refine X_iload_n (pc' := 100) dX6_isAs_99 rfl rfl ?_
  refine X_bipush (pc' := 102) dX6_isAs_100 rfl (by decide) ?_
  refine X_icmp_ge dX6_isAs_102 (tgt := 124) rfl (pc' := 105) rfl ⟨rv3.1, rv3.2, (inR_c (n := 10) rfl).1, (inR_c (n := 10) rfl).2⟩ (fun c1 => ?_) (fun c1 => ?_)
  · have h := if_f (Int.not_lt.mpr c1) h
    cases h
    exact X_sub (sub_s (sub_s (sub_n (sub_n (sub_n (sub_n (sub_n sub_0))))))) (k2 _ _ rfl hD (DLe_refl _) hz)
  have h := if_t c1 h
  refine X_aload_n (pc' := 106) dX6_isAs_105 rfl rfl ?_
  refine X_iload_n (pc' := 107) dX6_isAs_106 rfl rfl ?_
  obtain ⟨r2 | E2, q2, h⟩ := bs h
  rotate_left
  · cases h
  refine E0_callM [.int (iN (v3))] (pc' := 110) dX6_isAs_107 rfl VX6_196 (by decide) rfl rfl (c1_i c1_n) (cs rfl) c1_n (cs rfl) rfl hD (show X mX5_count 0 (xEnt [.ref 0, .int (iN (v3))] (xL mX5_count)) [] (zmk (ln, D) (dT D).toNat z) 0 0 (Qd (inR r2) (.inl (some (.int (iN r2)))) (zmk (ln, D) (dT D).toNat z)) from CX5_count (hNm (ln := ln) hD) hz rv3 q2) (fun f2 => ?_)
  refine E_aload_n (pc' := 111) dX6_isAs_110 rfl rfl ?_
  refine X_iload_n (pc' := 112) dX6_isAs_111 rfl rfl ?_
  obtain ⟨g3, h⟩ := gs h
  obtain ⟨g4, h⟩ := gs h
  refine E_iald (pc' := 113) dX6_isAs_112 rfl hD g3 g4 ?_
  refine X_icmp_eq dX6_isAs_113 (tgt := 118) rfl (pc' := 116) rfl ⟨f2.1, f2.2, (in_at hD g3 (Or.inl rfl) g4.1).1, (in_at hD g3 (Or.inl rfl) g4.1).2⟩ (fun c5 => ?_) (fun c5 => ?_)
  · have h := if_t c5 h
    refine X_iinc (pc' := 121) dX6_isAs_118 rfl rfl (Or.inr (xC1_R _)) (L' := [some (rV (v0)), some (.ref 0), some (rV (v2)), some (.int (iN (v3 + 1))), none, none, none]) rfl ?_
    refine X_goto dX6_isAs_121 (tgt := 99) rfl ?_
    obtain ⟨g6, h⟩ := gs h
    cases h
    exact X_sub (sub_s (sub_s (sub_s (sub_s (sub_n (sub_n (sub_n sub_0))))))) (k1 _ _ _ rfl hD (DLe_refl _) hz g6)
  have h := if_f c5 h
  cases h
theorem LX6_isAs_99 {ln : Nat} {v0 : Int} {v2 : Int} {Φ : xRes → xS → Prop} {r : ZZ × DD} : ∀ (n : Nat) (v3 : Int) (z : ZZ) (D : DD), okD D → okz z → gdV D v0 → gdV D v2 → inR v3 → zlp (fun q => fX6_isAs_s99 v0 v2 q.1 ln q.2.1 q.2.2) n (v3, z, D) = some r → (∀ (z' : ZZ) (D' : DD), r = (z', D') → okD D' → DLe D D' → okz z' → XD mX6_isAs 124 [some (rV (v0)), some (.ref 0), none, none, none, none, none] [] ln D' z' Φ) → XD mX6_isAs 99 [some (rV (v0)), some (.ref 0), some (rV (v2)), some (.int (iN (v3))), none, none, none] [] ln D z Φ := by
  intro n
  induction n with
  | zero => intro v3 z D hD hz rv0 rv2 rv3 h k2; cases h
  | succ n ih =>
    intro v3 z D hD hz rv0 rv2 rv3 h k2
    rcases zlp_s h with ⟨⟨v3', z', D'⟩, e, h'⟩ | e
    · exact SX6_isAs_99 hD hz rv0 rv2 rv3 e (fun v3₁ z₁ D₁ hh a b c f0 => by cases hh; exact ih _ _ _ a c (gdV_le b rv0) (gdV_le b rv2) f0 h' (fun z9 D9 hh a' b' c' => k2 z9 D9 hh a' (DLe_trans b b') c')) (fun z9 D9 hh => by cases hh)
    · exact SX6_isAs_99 hD hz rv0 rv2 rv3 e (fun v3₁ z₁ D₁ hh => by cases hh) (fun z9 D9 hh a b c => by cases hh; exact k2 _ _ rfl a b c )
def fX6_isAs_s140 (v0 : Int) (v3 : Int) (v4 : Int) (ln : Nat) (z : ZZ) (D : DD) : Option ((Int × ZZ × DD) ⊕ (ZZ × DD)) := (if (v4) < (4) then (Option.bind (fX5_wall (v3) (v4) z) fun q2 => match q2 with | .inr _ => none | .inl r2 => (if dO D (v0) 7 then (Option.bind (fJx4a65c_get_915e3 ((dW D (v0) 4)) (v3) D) fun r4 => (if dO D ((dW D (v0) 4)) 9 then (if dO D (r4) 20 then (if (0 : Int) ≤ (v4) ∧ (v4 : Int) < ((dH D (r4)).2 : Int) then (if (r2) = ((dW D (r4) (v4))) then (if inR ((v4 + 1)) then some (.inl ((v4 + 1), z, D)) else none) else none) else none) else none) else none)) else none)) else some (.inr (z, D)))
set_option maxRecDepth 100000 in
theorem SX6_isAs_140 {ln : Nat} {D : DD} {z : ZZ} {v0 : Int} {v3 : Int} {v4 : Int} {Φ : xRes → xS → Prop} (hD : okD D) (hz : okz z) (rv0 : gdV D v0) (rv3 : inR v3) (rv4 : inR v4) {p : (Int × ZZ × DD) ⊕ (ZZ × DD)} (h : fX6_isAs_s140 v0 v3 v4 ln z D = some p) (k1 : ∀ (v4' : Int) (z' : ZZ) (D' : DD), p = .inl (v4', z', D') → okD D' → DLe D D' → okz z' → inR v4' → XD mX6_isAs 140 [some (rV (v0)), some (.ref 0), none, some (.int (iN (v3))), some (.int (iN (v4'))), none, none] [] ln D' z' Φ) (k2 : ∀ (z' : ZZ) (D' : DD), p = .inr (z', D') → okD D' → DLe D D' → okz z' → XD mX6_isAs 178 [some (rV (v0)), some (.ref 0), none, some (.int (iN (v3))), none, none, none] [] ln D' z' Φ) : XD mX6_isAs 140 [some (rV (v0)), some (.ref 0), none, some (.int (iN (v3))), some (.int (iN (v4))), none, none] [] ln D z Φ := by
  unfold fX6_isAs_s140 at h
  refine X_iload (pc' := 142) dX6_isAs_140 rfl rfl ?_
  refine X_iconst (pc' := 143) dX6_isAs_142 rfl ?_
  refine X_icmp_ge dX6_isAs_143 (tgt := 178) rfl (pc' := 146) rfl ⟨rv4.1, rv4.2, (inR_c (n := 4) rfl).1, (inR_c (n := 4) rfl).2⟩ (fun c1 => ?_) (fun c1 => ?_)
  · have h := if_f (Int.not_lt.mpr c1) h
    cases h
    exact X_sub (sub_s (sub_s (sub_n (sub_s (sub_n (sub_n (sub_n sub_0))))))) (k2 _ _ rfl hD (DLe_refl _) hz)
  have h := if_t c1 h
  refine X_aload_n (pc' := 147) dX6_isAs_146 rfl rfl ?_
  refine X_iload_n (pc' := 148) dX6_isAs_147 rfl rfl ?_
  refine X_iload (pc' := 150) dX6_isAs_148 rfl rfl ?_
  obtain ⟨r2 | E2, q2, h⟩ := bs h
  rotate_left
  · cases h
  refine E0_callM [.int (iN (v3)), .int (iN (v4))] (pc' := 153) dX6_isAs_150 rfl VX6_202 (by decide) rfl rfl (c1_i (c1_i c1_n)) (cs rfl) c1_n (cs rfl) rfl hD (show X mX5_wall 0 (xEnt [.ref 0, .int (iN (v3)), .int (iN (v4))] (xL mX5_wall)) [] (zmk (ln, D) (dT D).toNat z) 0 0 (Qd (inR r2) (.inl (some (.int (iN r2)))) (zmk (ln, D) (dT D).toNat z)) from CX5_wall (hNm (ln := ln) hD) hz rv3 rv4 q2) (fun f2 => ?_)
  refine E_aload_n (pc' := 154) dX6_isAs_153 rfl rfl ?_
  obtain ⟨g3, h⟩ := gs h
  refine E_getR (pc' := 157) dX6_isAs_154 rfl FX6_24_6 hD g3 rfl (j := 4) rfl ?_
  refine X_iload_n (pc' := 158) dX6_isAs_157 rfl rfl ?_
  obtain ⟨r4, q4, h⟩ := bs h
  obtain ⟨g5, h⟩ := gs h
  refine E_callV [.int (iN (v3))] (pc' := 161) dX6_isAs_158 rfl (xVc VX6_154) (by decide) ⟨dO_pos g5, dO_is hD g5 rfl⟩ rfl (c1_i c1_n) (cs rfl) (c1_i c1_n) (cs rfl) rfl hD (CJx4a65c_get_915e3 hD (gd_slot (k := 4) hD g3 rfl (by decide)) rv3 q4) (fun a4 b4 f4 => ?_)
  obtain ⟨g6, h⟩ := gs h
  refine E_cast (pc' := 164) dX6_isAs_161 rfl tq526 (dO_pos g6) (dO_isI hD g6) ?_
  refine X_iload (pc' := 166) dX6_isAs_164 rfl rfl ?_
  obtain ⟨g7, h⟩ := gs h
  refine E_iald (pc' := 167) dX6_isAs_166 rfl hD g6 g7 ?_
  refine X_icmp_eq dX6_isAs_167 (tgt := 172) rfl (pc' := 170) rfl ⟨f2.1, f2.2, (in_at hD g6 (Or.inl rfl) g7.1).1, (in_at hD g6 (Or.inl rfl) g7.1).2⟩ (fun c8 => ?_) (fun c8 => ?_)
  · have h := if_t c8 h
    refine X_iinc (pc' := 175) dX6_isAs_172 rfl rfl (Or.inr rfl) (L' := [some (rV (v0)), some (.ref 0), none, some (.int (iN (v3))), some (.int (iN (v4 + 1))), none, none]) rfl ?_
    refine X_goto dX6_isAs_175 (tgt := 140) rfl ?_
    obtain ⟨g9, h⟩ := gs h
    cases h
    exact X_sub (sub_s (sub_s (sub_n (sub_s (sub_s (sub_n (sub_n sub_0))))))) (k1 _ _ _ rfl hD (DLe_refl _) hz g9)
  have h := if_f c8 h
  cases h
theorem LX6_isAs_140 {ln : Nat} {v0 : Int} {v3 : Int} {Φ : xRes → xS → Prop} {r : ZZ × DD} : ∀ (n : Nat) (v4 : Int) (z : ZZ) (D : DD), okD D → okz z → gdV D v0 → inR v3 → inR v4 → zlp (fun q => fX6_isAs_s140 v0 v3 q.1 ln q.2.1 q.2.2) n (v4, z, D) = some r → (∀ (z' : ZZ) (D' : DD), r = (z', D') → okD D' → DLe D D' → okz z' → XD mX6_isAs 178 [some (rV (v0)), some (.ref 0), none, some (.int (iN (v3))), none, none, none] [] ln D' z' Φ) → XD mX6_isAs 140 [some (rV (v0)), some (.ref 0), none, some (.int (iN (v3))), some (.int (iN (v4))), none, none] [] ln D z Φ := by
  intro n
  induction n with
  | zero => intro v4 z D hD hz rv0 rv3 rv4 h k2; cases h
  | succ n ih =>
    intro v4 z D hD hz rv0 rv3 rv4 h k2
    rcases zlp_s h with ⟨⟨v4', z', D'⟩, e, h'⟩ | e
    · exact SX6_isAs_140 hD hz rv0 rv3 rv4 e (fun v4₁ z₁ D₁ hh a b c f0 => by cases hh; exact ih _ _ _ a c (gdV_le b rv0) rv3 f0 h' (fun z9 D9 hh a' b' c' => k2 z9 D9 hh a' (DLe_trans b b') c')) (fun z9 D9 hh => by cases hh)
    · exact SX6_isAs_140 hD hz rv0 rv3 rv4 e (fun v4₁ z₁ D₁ hh => by cases hh) (fun z9 D9 hh a b c => by cases hh; exact k2 _ _ rfl a b c )
def fX6_isAs_b211 (v0 : Int) (v3 : Int) (s0 : Int) (s1 : Int) (ln : Nat) (z : ZZ) (D : DD) : Option ((Int × ZZ × DD) ⊕ (ZZ × DD)) := (if (s0) = (s1) then (if inR ((v3 + 1)) then some (.inl ((v3 + 1), z, D)) else none) else none)
set_option maxRecDepth 100000 in
theorem BX6_isAs_211 {ln : Nat} {D : DD} {z : ZZ} {v0 : Int} {v3 : Int} {s0 : Int} {s1 : Int} {Φ : xRes → xS → Prop} (hD : okD D) (hz : okz z) (rv0 : gdV D v0) (rv3 : inR v3) (rs0 : inR s0) (rs1 : inR s1) {p : (Int × ZZ × DD) ⊕ (ZZ × DD)} (h : fX6_isAs_b211 v0 v3 s0 s1 ln z D = some p) (k1 : ∀ (v3' : Int) (z' : ZZ) (D' : DD), p = .inl (v3', z', D') → okD D' → DLe D D' → okz z' → inR v3' → XD mX6_isAs 126 [some (rV (v0)), some (.ref 0), none, some (.int (iN (v3'))), none, none, none] [] ln D' z' Φ) (k2 : ∀ (z' : ZZ) (D' : DD), p = .inr (z', D') → okD D' → DLe D D' → okz z' → XD mX6_isAs 222 [some (rV (v0)), some (.ref 0), none, none, none, none, none] [] ln D' z' Φ) : XD mX6_isAs 211 [some (rV (v0)), some (.ref 0), none, some (.int (iN (v3))), none, none, none] [.int (iN (s1)), .int (iN (s0))] ln D z Φ := by
  unfold fX6_isAs_b211 at h
  refine X_icmp_eq dX6_isAs_211 (tgt := 216) rfl (pc' := 214) rfl ⟨rs0.1, rs0.2, rs1.1, rs1.2⟩ (fun c1 => ?_) (fun c1 => ?_)
  · have h := if_t c1 h
    refine X_iinc (pc' := 219) dX6_isAs_216 rfl rfl (Or.inr rfl) (L' := [some (rV (v0)), some (.ref 0), none, some (.int (iN (v3 + 1))), none, none, none]) rfl ?_
    refine X_goto dX6_isAs_219 (tgt := 126) rfl ?_
    obtain ⟨g2, h⟩ := gs h
    cases h
    exact X_sub (sub_s (sub_s (sub_n (sub_s (sub_n (sub_n (sub_n sub_0))))))) (k1 _ _ _ rfl hD (DLe_refl _) hz g2)
  have h := if_f c1 h
  cases h
def fX6_isAs_s126 (v0 : Int) (v3 : Int) (ln : Nat) (z : ZZ) (D : DD) : Option ((Int × ZZ × DD) ⊕ (ZZ × DD)) := (if dO D (v0) 7 then (Option.bind (fJx4a65c_size_8abf5 ((dW D (v0) 4)) D) fun r2 => (if dO D ((dW D (v0) 4)) 9 then (if (v3) < (r2) then (Option.bind (zlp (fun q => fX6_isAs_s140 (v0) (v3) q.1 ln q.2.1 q.2.2) FU (0, z, D)) fun q5 => match q5 with | (z5, D5) => (Option.bind (fX5_wall (v3) (4) z5) fun q6 => match q6 with | .inr _ => none | .inl r6 => (Option.bind (fX6_onWall (v0) (v3) D5) fun q7 => match q7 with | (r7, D7) => (if (r6) = (r7) then (Option.bind (fX5_wall (v3) (5) z5) fun q9 => match q9 with | .inr _ => none | .inl r9 => (Option.bind (fX6_isClosed (v0) (v3) D7) fun r10 => (if (r10) = (0) then fX6_isAs_b211 (v0) (v3) (r9) (0) ln z5 D7 else fX6_isAs_b211 (v0) (v3) (r9) (1) ln z5 D7))) else none)))) else some (.inr (z, D))) else none)) else none)
set_option maxRecDepth 100000 in
theorem SX6_isAs_126 {ln : Nat} {D : DD} {z : ZZ} {v0 : Int} {v3 : Int} {Φ : xRes → xS → Prop} (hD : okD D) (hz : okz z) (rv0 : gdV D v0) (rv3 : inR v3) {p : (Int × ZZ × DD) ⊕ (ZZ × DD)} (h : fX6_isAs_s126 v0 v3 ln z D = some p) (k1 : ∀ (v3' : Int) (z' : ZZ) (D' : DD), p = .inl (v3', z', D') → okD D' → DLe D D' → okz z' → inR v3' → XD mX6_isAs 126 [some (rV (v0)), some (.ref 0), none, some (.int (iN (v3'))), none, none, none] [] ln D' z' Φ) (k2 : ∀ (z' : ZZ) (D' : DD), p = .inr (z', D') → okD D' → DLe D D' → okz z' → XD mX6_isAs 222 [some (rV (v0)), some (.ref 0), none, none, none, none, none] [] ln D' z' Φ) : XD mX6_isAs 126 [some (rV (v0)), some (.ref 0), none, some (.int (iN (v3))), none, none, none] [] ln D z Φ := by
  unfold fX6_isAs_s126 at h
  refine X_iload_n (pc' := 127) dX6_isAs_126 rfl rfl ?_
  refine E_aload_n (pc' := 128) dX6_isAs_127 rfl rfl ?_
  obtain ⟨g1, h⟩ := gs h
  refine E_getR (pc' := 131) dX6_isAs_128 rfl FX6_24_6 hD g1 rfl (j := 4) rfl ?_
  obtain ⟨r2, q2, h⟩ := bs h
  obtain ⟨g3, h⟩ := gs h
  refine E_callV [] (pc' := 134) dX6_isAs_131 rfl (xVc VX6_151) (by decide) ⟨dO_pos g3, dO_is hD g3 rfl⟩ rfl c1_n (cs rfl) (c1_i c1_n) (cs rfl) rfl hD (CJx4a65c_size_8abf5 hD (gd_slot (k := 4) hD g1 rfl (by decide)) q2) (fun a2 b2 f2 => ?_)
  refine X_icmp_ge dX6_isAs_134 (tgt := 222) rfl (pc' := 137) rfl ⟨rv3.1, rv3.2, f2.1, f2.2⟩ (fun c4 => ?_) (fun c4 => ?_)
  · have h := if_f (Int.not_lt.mpr c4) h
    cases h
    exact X_sub (sub_s (sub_s (sub_n (sub_n (sub_n (sub_n (sub_n sub_0))))))) (k2 _ _ rfl hD (DLe_refl _) hz)
  have h := if_t c4 h
  refine X_iconst (pc' := 138) dX6_isAs_137 rfl ?_
  refine X_istore (pc' := 140) dX6_isAs_138 rfl (cl rfl) (Or.inr rfl) (L' := [some (rV (v0)), some (.ref 0), none, some (.int (iN (v3))), some (.int (iN (0))), none, none]) rfl ?_
  obtain ⟨⟨z5, D5⟩, q5, h⟩ := bs h
  refine X_sub (sub_s (sub_s (sub_n (sub_s (sub_s (sub_n (sub_n sub_0))))))) (LX6_isAs_140 FU _ _ _ hD hz rv0 rv3 (inR_c (n := 0) rfl) q5 (fun z5₁ D5₁ hh hD5 le5 hz5 => ?_))
  cases hh
  refine X_aload_n (pc' := 179) dX6_isAs_178 rfl rfl ?_
  refine X_iload_n (pc' := 180) dX6_isAs_179 rfl rfl ?_
  refine X_iconst (pc' := 181) dX6_isAs_180 rfl ?_
  obtain ⟨r6 | E6, q6, h⟩ := bs h
  rotate_left
  · cases h
  refine E0_callM [.int (iN (v3)), .int (iN (4))] (pc' := 184) dX6_isAs_181 rfl VX6_202 (by decide) rfl rfl (c1_i (c1_i c1_n)) (cs rfl) c1_n (cs rfl) rfl hD5 (show X mX5_wall 0 (xEnt [.ref 0, .int (iN (v3)), .int (iN (4))] (xL mX5_wall)) [] (zmk (ln, D5) (dT D5).toNat z5) 0 0 (Qd (inR r6) (.inl (some (.int (iN r6)))) (zmk (ln, D5) (dT D5).toNat z5)) from CX5_wall (hNm (ln := ln) hD5) hz5 rv3 (inR_c (n := 4) rfl) q6) (fun f6 => ?_)
  refine E_aload_n (pc' := 185) dX6_isAs_184 rfl rfl ?_
  refine X_iload_n (pc' := 186) dX6_isAs_185 rfl rfl ?_
  obtain ⟨⟨r7, D7⟩, q7, h⟩ := bs h
  refine E_callV [.int (iN (v3))] (pc' := 189) dX6_isAs_186 rfl (xVc VX6_205) (by decide) ⟨dO_pos (dO_le le5 g1), dO_is hD5 (dO_le le5 g1) rfl⟩ rfl (c1_i c1_n) (cs rfl) (c1_i c1_n) (cs rfl) rfl hD5 (CX6_onWall hD5 (gdV_le le5 rv0) rv3 q7) (fun a7 b7 f7 => ?_)
  refine X_icmp_ne dX6_isAs_189 (tgt := 214) rfl (pc' := 192) rfl ⟨f6.1, f6.2, f7.1, f7.2⟩ (fun c8 => ?_) (fun c8 => ?_)
  · have h := if_f c8 h
    cases h
  have h := if_t c8 h
  refine X_aload_n (pc' := 193) dX6_isAs_192 rfl rfl ?_
  refine X_iload_n (pc' := 194) dX6_isAs_193 rfl rfl ?_
  refine X_iconst (pc' := 195) dX6_isAs_194 rfl ?_
  obtain ⟨r9 | E9, q9, h⟩ := bs h
  rotate_left
  · cases h
  refine E0_callM [.int (iN (v3)), .int (iN (5))] (pc' := 198) dX6_isAs_195 rfl VX6_202 (by decide) rfl rfl (c1_i (c1_i c1_n)) (cs rfl) c1_n (cs rfl) rfl a7 (show X mX5_wall 0 (xEnt [.ref 0, .int (iN (v3)), .int (iN (5))] (xL mX5_wall)) [] (zmk (ln, D7) (dT D7).toNat z5) 0 0 (Qd (inR r9) (.inl (some (.int (iN r9)))) (zmk (ln, D7) (dT D7).toNat z5)) from CX5_wall (hNm (ln := ln) a7) hz5 rv3 (inR_c (n := 5) rfl) q9) (fun f9 => ?_)
  refine E_aload_n (pc' := 199) dX6_isAs_198 rfl rfl ?_
  refine X_iload_n (pc' := 200) dX6_isAs_199 rfl rfl ?_
  obtain ⟨r10, q10, h⟩ := bs h
  refine E_callV [.int (iN (v3))] (pc' := 203) dX6_isAs_200 rfl (xVc VX6_174) (by decide) ⟨dO_pos (dO_le b7 (dO_le le5 g1)), dO_is a7 (dO_le b7 (dO_le le5 g1)) rfl⟩ rfl (c1_i c1_n) (cs rfl) (c1_i c1_n) (cs rfl) rfl a7 (CX6_isClosed a7 (gdV_le b7 (gdV_le le5 rv0)) rv3 q10) (fun a10 b10 f10 => ?_)
  refine X_if_eq dX6_isAs_203 (tgt := 210) rfl (pc' := 206) rfl (inR_b f10) (fun c11 => ?_) (fun c11 => ?_)
  · have h := if_t c11 h
    refine X_iconst (pc' := 211) dX6_isAs_210 rfl ?_
    exact X_sub (sub_s (sub_s (sub_n (sub_s (sub_n (sub_n (sub_n sub_0))))))) (BX6_isAs_211 a7 hz5 (gdV_le b7 (gdV_le le5 rv0)) rv3 f9 (inR_c (n := 0) rfl) h (fun x0 z9 D9 hh a b c f0 => k1 x0 z9 D9 hh a (DLe_trans (DLe_trans le5 b7) b) c f0) (fun z9 D9 hh a b c => k2 z9 D9 hh a (DLe_trans (DLe_trans le5 b7) b) c))
  have h := if_f c11 h
  refine X_iconst (pc' := 207) dX6_isAs_206 rfl ?_
  refine X_goto dX6_isAs_207 (tgt := 211) rfl ?_
  exact X_sub (sub_s (sub_s (sub_n (sub_s (sub_n (sub_n (sub_n sub_0))))))) (BX6_isAs_211 a7 hz5 (gdV_le b7 (gdV_le le5 rv0)) rv3 f9 (inR_c (n := 1) rfl) h (fun x0 z9 D9 hh a b c f0 => k1 x0 z9 D9 hh a (DLe_trans (DLe_trans le5 b7) b) c f0) (fun z9 D9 hh a b c => k2 z9 D9 hh a (DLe_trans (DLe_trans le5 b7) b) c))
theorem LX6_isAs_126 {ln : Nat} {v0 : Int} {Φ : xRes → xS → Prop} {r : ZZ × DD} : ∀ (n : Nat) (v3 : Int) (z : ZZ) (D : DD), okD D → okz z → gdV D v0 → inR v3 → zlp (fun q => fX6_isAs_s126 v0 q.1 ln q.2.1 q.2.2) n (v3, z, D) = some r → (∀ (z' : ZZ) (D' : DD), r = (z', D') → okD D' → DLe D D' → okz z' → XD mX6_isAs 222 [some (rV (v0)), some (.ref 0), none, none, none, none, none] [] ln D' z' Φ) → XD mX6_isAs 126 [some (rV (v0)), some (.ref 0), none, some (.int (iN (v3))), none, none, none] [] ln D z Φ := by
  intro n
  induction n with
  | zero => intro v3 z D hD hz rv0 rv3 h k2; cases h
  | succ n ih =>
    intro v3 z D hD hz rv0 rv3 h k2
    rcases zlp_s h with ⟨⟨v3', z', D'⟩, e, h'⟩ | e
    · exact SX6_isAs_126 hD hz rv0 rv3 e (fun v3₁ z₁ D₁ hh a b c f0 => by cases hh; exact ih _ _ _ a c (gdV_le b rv0) f0 h' (fun z9 D9 hh a' b' c' => k2 z9 D9 hh a' (DLe_trans b b') c')) (fun z9 D9 hh => by cases hh)
    · exact SX6_isAs_126 hD hz rv0 rv3 e (fun v3₁ z₁ D₁ hh => by cases hh) (fun z9 D9 hh a b c => by cases hh; exact k2 _ _ rfl a b c )
def fX6_isAs_s329 (v0 : Int) (v3 : Int) (v4 : Int) (v5 : Int) (v6 : Int) (ln : Nat) (z : ZZ) (D : DD) : Option ((Int × ZZ × DD) ⊕ (ZZ × DD)) := (if (v6) < (7) then (Option.bind (fX5_route (v3) (v6) z) fun q2 => match q2 with | .inr _ => none | .inl r2 => (if dO D (v5) 20 then (if (0 : Int) ≤ (v6) ∧ (v6 : Int) < ((dH D (v5)).2 : Int) then (if (r2) = ((dW D (v5) (v6))) then (if inR ((v6 + 1)) then some (.inl ((v6 + 1), z, D)) else none) else none) else none) else none)) else some (.inr (z, D)))
set_option maxRecDepth 100000 in
theorem SX6_isAs_329 {ln : Nat} {D : DD} {z : ZZ} {v0 : Int} {v3 : Int} {v4 : Int} {v5 : Int} {v6 : Int} {Φ : xRes → xS → Prop} (hD : okD D) (hz : okz z) (rv0 : gdV D v0) (rv3 : inR v3) (rv4 : gdV D v4) (rv5 : gdV D v5) (rv6 : inR v6) {p : (Int × ZZ × DD) ⊕ (ZZ × DD)} (h : fX6_isAs_s329 v0 v3 v4 v5 v6 ln z D = some p) (k1 : ∀ (v6' : Int) (z' : ZZ) (D' : DD), p = .inl (v6', z', D') → okD D' → DLe D D' → okz z' → inR v6' → XD mX6_isAs 329 [some (rV (v0)), some (.ref 0), none, some (.int (iN (v3))), some (rV (v4)), some (rV (v5)), some (.int (iN (v6')))] [] ln D' z' Φ) (k2 : ∀ (z' : ZZ) (D' : DD), p = .inr (z', D') → okD D' → DLe D D' → okz z' → XD mX6_isAs 359 [some (rV (v0)), some (.ref 0), none, some (.int (iN (v3))), some (rV (v4)), none, none] [] ln D' z' Φ) : XD mX6_isAs 329 [some (rV (v0)), some (.ref 0), none, some (.int (iN (v3))), some (rV (v4)), some (rV (v5)), some (.int (iN (v6)))] [] ln D z Φ := by
  unfold fX6_isAs_s329 at h
  refine X_iload (pc' := 331) dX6_isAs_329 rfl rfl ?_
  refine X_bipush (pc' := 333) dX6_isAs_331 rfl (by decide) ?_
  refine X_icmp_ge dX6_isAs_333 (tgt := 359) rfl (pc' := 336) rfl ⟨rv6.1, rv6.2, (inR_c (n := 7) rfl).1, (inR_c (n := 7) rfl).2⟩ (fun c1 => ?_) (fun c1 => ?_)
  · have h := if_f (Int.not_lt.mpr c1) h
    cases h
    exact X_sub (sub_s (sub_s (sub_n (sub_s (sub_s (sub_n (sub_n sub_0))))))) (k2 _ _ rfl hD (DLe_refl _) hz)
  have h := if_t c1 h
  refine X_aload_n (pc' := 337) dX6_isAs_336 rfl rfl ?_
  refine X_iload_n (pc' := 338) dX6_isAs_337 rfl rfl ?_
  refine X_iload (pc' := 340) dX6_isAs_338 rfl rfl ?_
  obtain ⟨r2 | E2, q2, h⟩ := bs h
  rotate_left
  · cases h
  refine E0_callM [.int (iN (v3)), .int (iN (v6))] (pc' := 343) dX6_isAs_340 rfl VX6_210 (by decide) rfl rfl (c1_i (c1_i c1_n)) (cs rfl) c1_n (cs rfl) rfl hD (show X mX5_route 0 (xEnt [.ref 0, .int (iN (v3)), .int (iN (v6))] (xL mX5_route)) [] (zmk (ln, D) (dT D).toNat z) 0 0 (Qd (inR r2) (.inl (some (.int (iN r2)))) (zmk (ln, D) (dT D).toNat z)) from CX5_route (hNm (ln := ln) hD) hz rv3 rv6 q2) (fun f2 => ?_)
  refine E_aload (pc' := 345) dX6_isAs_343 rfl rfl ?_
  refine X_iload (pc' := 347) dX6_isAs_345 rfl rfl ?_
  obtain ⟨g3, h⟩ := gs h
  obtain ⟨g4, h⟩ := gs h
  refine E_iald (pc' := 348) dX6_isAs_347 rfl hD g3 g4 ?_
  refine X_icmp_eq dX6_isAs_348 (tgt := 353) rfl (pc' := 351) rfl ⟨f2.1, f2.2, (in_at hD g3 (Or.inl rfl) g4.1).1, (in_at hD g3 (Or.inl rfl) g4.1).2⟩ (fun c5 => ?_) (fun c5 => ?_)
  · have h := if_t c5 h
    refine X_iinc (pc' := 356) dX6_isAs_353 rfl rfl (Or.inr (xC1_R _)) (L' := [some (rV (v0)), some (.ref 0), none, some (.int (iN (v3))), some (rV (v4)), some (rV (v5)), some (.int (iN (v6 + 1)))]) rfl ?_
    refine X_goto dX6_isAs_356 (tgt := 329) rfl ?_
    obtain ⟨g6, h⟩ := gs h
    cases h
    exact X_sub (sub_s (sub_s (sub_n (sub_s (sub_s (sub_s (sub_s sub_0))))))) (k1 _ _ _ rfl hD (DLe_refl _) hz g6)
  have h := if_f c5 h
  cases h
theorem LX6_isAs_329 {ln : Nat} {v0 : Int} {v3 : Int} {v4 : Int} {v5 : Int} {Φ : xRes → xS → Prop} {r : ZZ × DD} : ∀ (n : Nat) (v6 : Int) (z : ZZ) (D : DD), okD D → okz z → gdV D v0 → inR v3 → gdV D v4 → gdV D v5 → inR v6 → zlp (fun q => fX6_isAs_s329 v0 v3 v4 v5 q.1 ln q.2.1 q.2.2) n (v6, z, D) = some r → (∀ (z' : ZZ) (D' : DD), r = (z', D') → okD D' → DLe D D' → okz z' → XD mX6_isAs 359 [some (rV (v0)), some (.ref 0), none, some (.int (iN (v3))), some (rV (v4)), none, none] [] ln D' z' Φ) → XD mX6_isAs 329 [some (rV (v0)), some (.ref 0), none, some (.int (iN (v3))), some (rV (v4)), some (rV (v5)), some (.int (iN (v6)))] [] ln D z Φ := by
  intro n
  induction n with
  | zero => intro v6 z D hD hz rv0 rv3 rv4 rv5 rv6 h k2; cases h
  | succ n ih =>
    intro v6 z D hD hz rv0 rv3 rv4 rv5 rv6 h k2
    rcases zlp_s h with ⟨⟨v6', z', D'⟩, e, h'⟩ | e
    · exact SX6_isAs_329 hD hz rv0 rv3 rv4 rv5 rv6 e (fun v6₁ z₁ D₁ hh a b c f0 => by cases hh; exact ih _ _ _ a c (gdV_le b rv0) rv3 (gdV_le b rv4) (gdV_le b rv5) f0 h' (fun z9 D9 hh a' b' c' => k2 z9 D9 hh a' (DLe_trans b b') c')) (fun z9 D9 hh => by cases hh)
    · exact SX6_isAs_329 hD hz rv0 rv3 rv4 rv5 rv6 e (fun v6₁ z₁ D₁ hh => by cases hh) (fun z9 D9 hh a b c => by cases hh; exact k2 _ _ rfl a b c )
def fX6_isAs_b323 (v0 : Int) (v3 : Int) (v4 : Int) (s0 : Int) (s1 : Int) (s2 : Int) (s3 : Int) (ln : Nat) (z : ZZ) (D : DD) : Option ((Int × ZZ × DD) ⊕ (ZZ × DD)) := (if dO D (s1) 20 then (if (0 : Int) ≤ (s2) ∧ (s2 : Int) < ((dH D (s1)).2 : Int) then (zl (dup D (s1) (s2) (s3)) fun D3 => (Option.bind (zlp (fun q => fX6_isAs_s329 (v0) (v3) (v4) (s0) q.1 ln q.2.1 q.2.2) FU (0, z, D3)) fun q4 => match q4 with | (z4, D4) => (Option.bind (fX5_grade (v3) z4) fun q5 => match q5 with | (.inr _, _) => none | (.inl r5, z5) => (Option.bind (fX6_grade_ (v0) (v4) D4) fun q6 => match q6 with | (r6, D6) => (if dO D4 (v0) 7 then (if (r5) = (r6) then (if inR ((v3 + 1)) then some (.inl ((v3 + 1), z5, D6)) else none) else none) else none))))) else none) else none)
set_option maxRecDepth 100000 in
theorem BX6_isAs_323 {ln : Nat} {D : DD} {z : ZZ} {v0 : Int} {v3 : Int} {v4 : Int} {s0 : Int} {s1 : Int} {s2 : Int} {s3 : Int} {Φ : xRes → xS → Prop} (hD : okD D) (hz : okz z) (rv0 : gdV D v0) (rv3 : inR v3) (rv4 : gdV D v4) (rs0 : gdV D s0) (rs1 : gdV D s1) (rs2 : inR s2) (rs3 : inR s3) {p : (Int × ZZ × DD) ⊕ (ZZ × DD)} (h : fX6_isAs_b323 v0 v3 v4 s0 s1 s2 s3 ln z D = some p) (k1 : ∀ (v3' : Int) (z' : ZZ) (D' : DD), p = .inl (v3', z', D') → okD D' → DLe D D' → okz z' → inR v3' → XD mX6_isAs 224 [some (rV (v0)), some (.ref 0), none, some (.int (iN (v3'))), none, none, none] [] ln D' z' Φ) (k2 : ∀ (z' : ZZ) (D' : DD), p = .inr (z', D') → okD D' → DLe D D' → okz z' → XD mX6_isAs 381 [some (rV (v0)), some (.ref 0), none, none, none, none, none] [] ln D' z' Φ) : XD mX6_isAs 323 [some (rV (v0)), some (.ref 0), none, some (.int (iN (v3))), some (rV (v4)), none, none] [.int (iN (s3)), .int (iN (s2)), rV (s1), rV (s0)] ln D z Φ := by
  unfold fX6_isAs_b323 at h
  obtain ⟨g1, h⟩ := gs h
  obtain ⟨g2, h⟩ := gs h
  refine E_iast (pc' := 324) dX6_isAs_323 rfl hD g1 g2 ?_
  obtain ⟨D3, e3, f3, h⟩ := zl_some (P := fun q => okD q ∧ DLe D q) h ⟨okD_dupJ hD g2.1 (okS_at20 g1 rs3), DLe_dup _ _ _ _⟩
  rw [e3]
  refine E_astore (pc' := 326) dX6_isAs_324 rfl (cl rfl) (Or.inr (xC1_R _)) (L' := [some (rV (v0)), some (.ref 0), none, some (.int (iN (v3))), some (rV (v4)), some (rV (s0)), none]) rfl ?_
  refine X_iconst (pc' := 327) dX6_isAs_326 rfl ?_
  refine X_istore (pc' := 329) dX6_isAs_327 rfl (cl rfl) (Or.inr (xC1_R _)) (L' := [some (rV (v0)), some (.ref 0), none, some (.int (iN (v3))), some (rV (v4)), some (rV (s0)), some (.int (iN (0)))]) rfl ?_
  obtain ⟨⟨z4, D4⟩, q4, h⟩ := bs h
  refine X_sub (sub_s (sub_s (sub_n (sub_s (sub_s (sub_s (sub_s sub_0))))))) (LX6_isAs_329 FU _ _ _ f3.1 hz (gdV_le f3.2 rv0) rv3 (gdV_le f3.2 rv4) (gdV_le f3.2 rs0) (inR_c (n := 0) rfl) q4 (fun z4₁ D4₁ hh hD4 le4 hz4 => ?_))
  cases hh
  refine X_aload_n (pc' := 360) dX6_isAs_359 rfl rfl ?_
  refine X_iload_n (pc' := 361) dX6_isAs_360 rfl rfl ?_
  obtain ⟨⟨r5 | E5, z5⟩, q5, h⟩ := bs h
  rotate_left
  · cases h
  refine E0_callM [.int (iN (v3))] (pc' := 364) dX6_isAs_361 rfl VX6_213 (by decide) rfl rfl (c1_i c1_n) (cs rfl) c1_n (cs rfl) rfl hD4 (show X mX5_grade 0 (xEnt [.ref 0, .int (iN (v3))] (xL mX5_grade)) [] (zmk (ln, D4) (dT D4).toNat z4) 0 0 (Qd (inR r5 ∧ okz z5) (.inl (some (.int (iN r5)))) (zmk (ln, D4) (dT D4).toNat z5)) from CX5_grade (hNm (ln := ln) hD4) hz4 rv3 q5) (fun f5 => ?_)
  refine E_aload_n (pc' := 365) dX6_isAs_364 rfl rfl ?_
  refine E_aload (pc' := 367) dX6_isAs_365 rfl rfl ?_
  obtain ⟨⟨r6, D6⟩, q6, h⟩ := bs h
  obtain ⟨g7, h⟩ := gs h
  refine E_callV [rV (v4)] (pc' := 370) dX6_isAs_367 rfl (xVc VX6_186) (by decide) ⟨dO_pos g7, dO_is hD4 g7 rfl⟩ rfl (c1_r c1_n) (cs rfl) (c1_i c1_n) (cs rfl) rfl hD4 (CX6_grade_ hD4 (gdV_le le4 (gdV_le f3.2 rv0)) (gdV_le le4 (gdV_le f3.2 rv4)) q6) (fun a6 b6 f6 => ?_)
  refine X_icmp_eq dX6_isAs_370 (tgt := 375) rfl (pc' := 373) rfl ⟨f5.1.1, f5.1.2, f6.1, f6.2⟩ (fun c8 => ?_) (fun c8 => ?_)
  · have h := if_t c8 h
    refine X_iinc (pc' := 378) dX6_isAs_375 rfl rfl (Or.inr rfl) (L' := [some (rV (v0)), some (.ref 0), none, some (.int (iN (v3 + 1))), some (rV (v4)), none, none]) rfl ?_
    refine X_goto dX6_isAs_378 (tgt := 224) rfl ?_
    obtain ⟨g9, h⟩ := gs h
    cases h
    exact X_sub (sub_s (sub_s (sub_n (sub_s (sub_n (sub_n (sub_n sub_0))))))) (k1 _ _ _ rfl a6 (DLe_trans (DLe_trans f3.2 le4) b6) f5.2 g9)
  have h := if_f c8 h
  cases h
def fX6_isAs_s224 (v0 : Int) (v3 : Int) (ln : Nat) (z : ZZ) (D : DD) : Option ((Int × ZZ × DD) ⊕ (ZZ × DD)) := (if dO D (v0) 7 then (Option.bind (fJx4a65c_size_8abf5 ((dW D (v0) 5)) D) fun r2 => (if dO D ((dW D (v0) 5)) 9 then (if (v3) < (r2) then (Option.bind (fJx4a65c_get_915e3 ((dW D (v0) 5)) (v3) D) fun r5 => (if dO D (r5) 8 then (if ((0 : Int) ≤ (7) ∧ (7 : Int) ≤ 1000000) ∧ dT D < 600000 ∧ dS D + (7) ≤ 7200000 then (zl (dnew D 20 (7 : Int).toNat) fun D8 => (if (0 : Int) ≤ (0) ∧ (0 : Int) < ((dH D8 ((dT D))).2 : Int) then (zl (dup D8 ((dT D)) (0) ((dW D8 (r5) 0))) fun D10 => (if (0 : Int) ≤ (1) ∧ (1 : Int) < ((dH D10 ((dT D))).2 : Int) then (zl (dup D10 ((dT D)) (1) ((dW D10 (r5) 1))) fun D12 => (if (0 : Int) ≤ (2) ∧ (2 : Int) < ((dH D12 ((dT D))).2 : Int) then (zl (dup D12 ((dT D)) (2) ((dW D12 (r5) 2))) fun D14 => (if (0 : Int) ≤ (3) ∧ (3 : Int) < ((dH D14 ((dT D))).2 : Int) then (zl (dup D14 ((dT D)) (3) ((dW D14 (r5) 3))) fun D16 => (if (0 : Int) ≤ (4) ∧ (4 : Int) < ((dH D16 ((dT D))).2 : Int) then (zl (dup D16 ((dT D)) (4) ((dW D16 (r5) 4))) fun D18 => (Option.bind (fX18_size ((dW D18 (r5) 6)) D18) fun r19 => (if dO D18 ((dW D18 (r5) 6)) 11 then (if (0 : Int) ≤ (5) ∧ (5 : Int) < ((dH D18 ((dT D))).2 : Int) then (zl (dup D18 ((dT D)) (5) (r19)) fun D22 => (if ((dW D22 (r5) 3)) < ((dW D22 (v0) 2)) then fX6_isAs_b323 (v0) (v3) (r5) ((dT D)) ((dT D)) (6) (0) ln z D22 else fX6_isAs_b323 (v0) (v3) (r5) ((dT D)) ((dT D)) (6) (1) ln z D22)) else none) else none))) else none)) else none)) else none)) else none)) else none)) else none) else none)) else some (.inr (z, D))) else none)) else none)
set_option maxRecDepth 100000 in
theorem SX6_isAs_224 {ln : Nat} {D : DD} {z : ZZ} {v0 : Int} {v3 : Int} {Φ : xRes → xS → Prop} (hD : okD D) (hz : okz z) (rv0 : gdV D v0) (rv3 : inR v3) {p : (Int × ZZ × DD) ⊕ (ZZ × DD)} (h : fX6_isAs_s224 v0 v3 ln z D = some p) (k1 : ∀ (v3' : Int) (z' : ZZ) (D' : DD), p = .inl (v3', z', D') → okD D' → DLe D D' → okz z' → inR v3' → XD mX6_isAs 224 [some (rV (v0)), some (.ref 0), none, some (.int (iN (v3'))), none, none, none] [] ln D' z' Φ) (k2 : ∀ (z' : ZZ) (D' : DD), p = .inr (z', D') → okD D' → DLe D D' → okz z' → XD mX6_isAs 381 [some (rV (v0)), some (.ref 0), none, none, none, none, none] [] ln D' z' Φ) : XD mX6_isAs 224 [some (rV (v0)), some (.ref 0), none, some (.int (iN (v3))), none, none, none] [] ln D z Φ := by
  unfold fX6_isAs_s224 at h
  refine X_iload_n (pc' := 225) dX6_isAs_224 rfl rfl ?_
  refine E_aload_n (pc' := 226) dX6_isAs_225 rfl rfl ?_
  obtain ⟨g1, h⟩ := gs h
  refine E_getR (pc' := 229) dX6_isAs_226 rfl FX6_28_6 hD g1 rfl (j := 5) rfl ?_
  obtain ⟨r2, q2, h⟩ := bs h
  obtain ⟨g3, h⟩ := gs h
  refine E_callV [] (pc' := 232) dX6_isAs_229 rfl (xVc VX6_151) (by decide) ⟨dO_pos g3, dO_is hD g3 rfl⟩ rfl c1_n (cs rfl) (c1_i c1_n) (cs rfl) rfl hD (CJx4a65c_size_8abf5 hD (gd_slot (k := 5) hD g1 rfl (by decide)) q2) (fun a2 b2 f2 => ?_)
  refine X_icmp_ge dX6_isAs_232 (tgt := 381) rfl (pc' := 235) rfl ⟨rv3.1, rv3.2, f2.1, f2.2⟩ (fun c4 => ?_) (fun c4 => ?_)
  · have h := if_f (Int.not_lt.mpr c4) h
    cases h
    exact X_sub (sub_s (sub_s (sub_n (sub_n (sub_n (sub_n (sub_n sub_0))))))) (k2 _ _ rfl hD (DLe_refl _) hz)
  have h := if_t c4 h
  refine E_aload_n (pc' := 236) dX6_isAs_235 rfl rfl ?_
  refine E_getR (pc' := 239) dX6_isAs_236 rfl FX6_28_6 hD g1 rfl (j := 5) rfl ?_
  refine X_iload_n (pc' := 240) dX6_isAs_239 rfl rfl ?_
  obtain ⟨r5, q5, h⟩ := bs h
  refine E_callV [.int (iN (v3))] (pc' := 243) dX6_isAs_240 rfl (xVc VX6_154) (by decide) ⟨dO_pos g3, dO_is hD g3 rfl⟩ rfl (c1_i c1_n) (cs rfl) c1_n (cs rfl) rfl hD (CJx4a65c_get_915e3 hD (gd_slot (k := 5) hD g1 rfl (by decide)) rv3 q5) (fun a5 b5 f5 => ?_)
  obtain ⟨g6, h⟩ := gs h
  refine E_cast (pc' := 246) dX6_isAs_243 rfl tq598 (dO_pos g6) (dO_is hD g6 rfl) ?_
  refine E_astore (pc' := 248) dX6_isAs_246 rfl (cl rfl) (Or.inr rfl) (L' := [some (rV (v0)), some (.ref 0), none, some (.int (iN (v3))), some (rV (r5)), none, none]) rfl ?_
  refine X_bipush (pc' := 250) dX6_isAs_248 rfl (by decide) ?_
  obtain ⟨g7, h⟩ := gs h
  refine E_newI (pc' := 252) dX6_isAs_250 rfl tq75 hD g7 ?_
  obtain ⟨D8, e8, f8, h⟩ := zl_some (P := fun q => okD q ∧ DLe D q ∧ (dO q (dT D) 20 ∧ ((dH q (dT D)).2 : Int) = (7))) h ⟨okD_dnew hD (by decide) (by omega) g7.2.1 (by omega), DLe_dnew _ (by decide), dO_dnew hD, dH_dnew g7.1.1⟩
  rw [e8]
  refine X_dup (pc' := 253) dX6_isAs_252 rfl (rV_cat _) ?_
  refine X_iconst (pc' := 254) dX6_isAs_253 rfl ?_
  refine E_aload (pc' := 256) dX6_isAs_254 rfl rfl ?_
  refine E_getI (pc' := 259) dX6_isAs_256 rfl FX6_172_7 f8.1 (dO_le f8.2.1 g6) rfl (j := 0) rfl ?_
  obtain ⟨g9, h⟩ := gs h
  refine E_iast (pc' := 260) dX6_isAs_259 rfl f8.1 f8.2.2.1 g9 ?_
  obtain ⟨D10, e10, f10, h⟩ := zl_some (P := fun q => okD q ∧ DLe D8 q) h ⟨okD_dupJ f8.1 g9.1 (okS_at20 f8.2.2.1 (in_slot (k := 0) f8.1 (dO_le f8.2.1 g6) rfl (by decide))), DLe_dup _ _ _ _⟩
  rw [e10]
  refine X_dup (pc' := 261) dX6_isAs_260 rfl (rV_cat _) ?_
  refine X_iconst (pc' := 262) dX6_isAs_261 rfl ?_
  refine E_aload (pc' := 264) dX6_isAs_262 rfl rfl ?_
  refine E_getI (pc' := 267) dX6_isAs_264 rfl FX6_147_7 f10.1 (dO_le f10.2 (dO_le f8.2.1 g6)) rfl (j := 1) rfl ?_
  obtain ⟨g11, h⟩ := gs h
  refine E_iast (pc' := 268) dX6_isAs_267 rfl f10.1 (dO_le f10.2 f8.2.2.1) g11 ?_
  obtain ⟨D12, e12, f12, h⟩ := zl_some (P := fun q => okD q ∧ DLe D10 q) h ⟨okD_dupJ f10.1 g11.1 (okS_at20 (dO_le f10.2 f8.2.2.1) (in_slot (k := 1) f10.1 (dO_le f10.2 (dO_le f8.2.1 g6)) rfl (by decide))), DLe_dup _ _ _ _⟩
  rw [e12]
  refine X_dup (pc' := 269) dX6_isAs_268 rfl (rV_cat _) ?_
  refine X_iconst (pc' := 270) dX6_isAs_269 rfl ?_
  refine E_aload (pc' := 272) dX6_isAs_270 rfl rfl ?_
  refine E_getI (pc' := 275) dX6_isAs_272 rfl FX6_208_7 f12.1 (dO_le f12.2 (dO_le f10.2 (dO_le f8.2.1 g6))) rfl (j := 2) rfl ?_
  obtain ⟨g13, h⟩ := gs h
  refine E_iast (pc' := 276) dX6_isAs_275 rfl f12.1 (dO_le f12.2 (dO_le f10.2 f8.2.2.1)) g13 ?_
  obtain ⟨D14, e14, f14, h⟩ := zl_some (P := fun q => okD q ∧ DLe D12 q) h ⟨okD_dupJ f12.1 g13.1 (okS_at20 (dO_le f12.2 (dO_le f10.2 f8.2.2.1)) (in_slot (k := 2) f12.1 (dO_le f12.2 (dO_le f10.2 (dO_le f8.2.1 g6))) rfl (by decide))), DLe_dup _ _ _ _⟩
  rw [e14]
  refine X_dup (pc' := 277) dX6_isAs_276 rfl (rV_cat _) ?_
  refine X_iconst (pc' := 278) dX6_isAs_277 rfl ?_
  refine E_aload (pc' := 280) dX6_isAs_278 rfl rfl ?_
  refine E_getI (pc' := 283) dX6_isAs_280 rfl FX6_182_7 f14.1 (dO_le f14.2 (dO_le f12.2 (dO_le f10.2 (dO_le f8.2.1 g6)))) rfl (j := 3) rfl ?_
  obtain ⟨g15, h⟩ := gs h
  refine E_iast (pc' := 284) dX6_isAs_283 rfl f14.1 (dO_le f14.2 (dO_le f12.2 (dO_le f10.2 f8.2.2.1))) g15 ?_
  obtain ⟨D16, e16, f16, h⟩ := zl_some (P := fun q => okD q ∧ DLe D14 q) h ⟨okD_dupJ f14.1 g15.1 (okS_at20 (dO_le f14.2 (dO_le f12.2 (dO_le f10.2 f8.2.2.1))) (in_slot (k := 3) f14.1 (dO_le f14.2 (dO_le f12.2 (dO_le f10.2 (dO_le f8.2.1 g6)))) rfl (by decide))), DLe_dup _ _ _ _⟩
  rw [e16]
  refine X_dup (pc' := 285) dX6_isAs_284 rfl (rV_cat _) ?_
  refine X_iconst (pc' := 286) dX6_isAs_285 rfl ?_
  refine E_aload (pc' := 288) dX6_isAs_286 rfl rfl ?_
  refine E_getI (pc' := 291) dX6_isAs_288 rfl FX6_189_7 f16.1 (dO_le f16.2 (dO_le f14.2 (dO_le f12.2 (dO_le f10.2 (dO_le f8.2.1 g6))))) rfl (j := 4) rfl ?_
  obtain ⟨g17, h⟩ := gs h
  refine E_iast (pc' := 292) dX6_isAs_291 rfl f16.1 (dO_le f16.2 (dO_le f14.2 (dO_le f12.2 (dO_le f10.2 f8.2.2.1)))) g17 ?_
  obtain ⟨D18, e18, f18, h⟩ := zl_some (P := fun q => okD q ∧ DLe D16 q) h ⟨okD_dupJ f16.1 g17.1 (okS_at20 (dO_le f16.2 (dO_le f14.2 (dO_le f12.2 (dO_le f10.2 f8.2.2.1)))) (in_slot (k := 4) f16.1 (dO_le f16.2 (dO_le f14.2 (dO_le f12.2 (dO_le f10.2 (dO_le f8.2.1 g6))))) rfl (by decide))), DLe_dup _ _ _ _⟩
  rw [e18]
  refine X_dup (pc' := 293) dX6_isAs_292 rfl (rV_cat _) ?_
  refine X_iconst (pc' := 294) dX6_isAs_293 rfl ?_
  refine E_aload (pc' := 296) dX6_isAs_294 rfl rfl ?_
  refine E_getR (pc' := 299) dX6_isAs_296 rfl FX6_124_7 f18.1 (dO_le f18.2 (dO_le f16.2 (dO_le f14.2 (dO_le f12.2 (dO_le f10.2 (dO_le f8.2.1 g6)))))) rfl (j := 6) rfl ?_
  obtain ⟨r19, q19, h⟩ := bs h
  obtain ⟨g20, h⟩ := gs h
  refine E_callV [] (pc' := 302) dX6_isAs_299 rfl (xVc VX6_209) (by decide) ⟨dO_pos g20, dO_is f18.1 g20 rfl⟩ rfl c1_n (cs rfl) (c1_i (c1_r (c1_r c1_n))) (cs rfl) rfl f18.1 (CX18_size f18.1 (gd_slot (k := 6) f18.1 (dO_le f18.2 (dO_le f16.2 (dO_le f14.2 (dO_le f12.2 (dO_le f10.2 (dO_le f8.2.1 g6)))))) rfl (by decide)) q19) (fun a19 b19 f19 => ?_)
  obtain ⟨g21, h⟩ := gs h
  refine E_iast (pc' := 303) dX6_isAs_302 rfl f18.1 (dO_le f18.2 (dO_le f16.2 (dO_le f14.2 (dO_le f12.2 (dO_le f10.2 f8.2.2.1))))) g21 ?_
  obtain ⟨D22, e22, f22, h⟩ := zl_some (P := fun q => okD q ∧ DLe D18 q) h ⟨okD_dupJ f18.1 g21.1 (okS_at20 (dO_le f18.2 (dO_le f16.2 (dO_le f14.2 (dO_le f12.2 (dO_le f10.2 f8.2.2.1))))) f19), DLe_dup _ _ _ _⟩
  rw [e22]
  refine X_dup (pc' := 304) dX6_isAs_303 rfl (rV_cat _) ?_
  refine X_bipush (pc' := 306) dX6_isAs_304 rfl (by decide) ?_
  refine E_aload (pc' := 308) dX6_isAs_306 rfl rfl ?_
  refine E_getI (pc' := 311) dX6_isAs_308 rfl FX6_182_7 f22.1 (dO_le f22.2 (dO_le f18.2 (dO_le f16.2 (dO_le f14.2 (dO_le f12.2 (dO_le f10.2 (dO_le f8.2.1 g6))))))) rfl (j := 3) rfl ?_
  refine E_aload_n (pc' := 312) dX6_isAs_311 rfl rfl ?_
  refine E_getI (pc' := 315) dX6_isAs_312 rfl FX6_18_6 f22.1 (dO_le f22.2 (dO_le f18.2 (dO_le f16.2 (dO_le f14.2 (dO_le f12.2 (dO_le f10.2 (dO_le f8.2.1 g1))))))) rfl (j := 2) rfl ?_
  refine X_icmp_lt dX6_isAs_315 (tgt := 322) rfl (pc' := 318) rfl ⟨(in_slot (k := 3) f22.1 (dO_le f22.2 (dO_le f18.2 (dO_le f16.2 (dO_le f14.2 (dO_le f12.2 (dO_le f10.2 (dO_le f8.2.1 g6))))))) rfl (by decide)).1, (in_slot (k := 3) f22.1 (dO_le f22.2 (dO_le f18.2 (dO_le f16.2 (dO_le f14.2 (dO_le f12.2 (dO_le f10.2 (dO_le f8.2.1 g6))))))) rfl (by decide)).2, (in_slot (k := 2) f22.1 (dO_le f22.2 (dO_le f18.2 (dO_le f16.2 (dO_le f14.2 (dO_le f12.2 (dO_le f10.2 (dO_le f8.2.1 g1))))))) rfl (by decide)).1, (in_slot (k := 2) f22.1 (dO_le f22.2 (dO_le f18.2 (dO_le f16.2 (dO_le f14.2 (dO_le f12.2 (dO_le f10.2 (dO_le f8.2.1 g1))))))) rfl (by decide)).2⟩ (fun c23 => ?_) (fun c23 => ?_)
  · have h := if_t c23 h
    refine X_iconst (pc' := 323) dX6_isAs_322 rfl ?_
    exact X_sub (sub_s (sub_s (sub_n (sub_s (sub_s (sub_n (sub_n sub_0))))))) (BX6_isAs_323 f22.1 hz (gdV_le f22.2 (gdV_le f18.2 (gdV_le f16.2 (gdV_le f14.2 (gdV_le f12.2 (gdV_le f10.2 (gdV_le f8.2.1 rv0))))))) rv3 (gdV_le f22.2 (gdV_le f18.2 (gdV_le f16.2 (gdV_le f14.2 (gdV_le f12.2 (gdV_le f10.2 (gdV_le f8.2.1 f5))))))) (gdV_le f22.2 (gdV_le f18.2 (gdV_le f16.2 (gdV_le f14.2 (gdV_le f12.2 (gdV_le f10.2 (dO_gd f8.2.2.1 (by decide)))))))) (gdV_le f22.2 (gdV_le f18.2 (gdV_le f16.2 (gdV_le f14.2 (gdV_le f12.2 (gdV_le f10.2 (dO_gd f8.2.2.1 (by decide)))))))) (inR_c (n := 6) rfl) (inR_c (n := 0) rfl) h (fun x0 z9 D9 hh a b c f0 => k1 x0 z9 D9 hh a (DLe_trans (DLe_trans (DLe_trans (DLe_trans (DLe_trans (DLe_trans (DLe_trans f8.2.1 f10.2) f12.2) f14.2) f16.2) f18.2) f22.2) b) c f0) (fun z9 D9 hh a b c => k2 z9 D9 hh a (DLe_trans (DLe_trans (DLe_trans (DLe_trans (DLe_trans (DLe_trans (DLe_trans f8.2.1 f10.2) f12.2) f14.2) f16.2) f18.2) f22.2) b) c))
  have h := if_f (Int.not_lt.mpr c23) h
  refine X_iconst (pc' := 319) dX6_isAs_318 rfl ?_
  refine X_goto dX6_isAs_319 (tgt := 323) rfl ?_
  exact X_sub (sub_s (sub_s (sub_n (sub_s (sub_s (sub_n (sub_n sub_0))))))) (BX6_isAs_323 f22.1 hz (gdV_le f22.2 (gdV_le f18.2 (gdV_le f16.2 (gdV_le f14.2 (gdV_le f12.2 (gdV_le f10.2 (gdV_le f8.2.1 rv0))))))) rv3 (gdV_le f22.2 (gdV_le f18.2 (gdV_le f16.2 (gdV_le f14.2 (gdV_le f12.2 (gdV_le f10.2 (gdV_le f8.2.1 f5))))))) (gdV_le f22.2 (gdV_le f18.2 (gdV_le f16.2 (gdV_le f14.2 (gdV_le f12.2 (gdV_le f10.2 (dO_gd f8.2.2.1 (by decide)))))))) (gdV_le f22.2 (gdV_le f18.2 (gdV_le f16.2 (gdV_le f14.2 (gdV_le f12.2 (gdV_le f10.2 (dO_gd f8.2.2.1 (by decide)))))))) (inR_c (n := 6) rfl) (inR_c (n := 1) rfl) h (fun x0 z9 D9 hh a b c f0 => k1 x0 z9 D9 hh a (DLe_trans (DLe_trans (DLe_trans (DLe_trans (DLe_trans (DLe_trans (DLe_trans f8.2.1 f10.2) f12.2) f14.2) f16.2) f18.2) f22.2) b) c f0) (fun z9 D9 hh a b c => k2 z9 D9 hh a (DLe_trans (DLe_trans (DLe_trans (DLe_trans (DLe_trans (DLe_trans (DLe_trans f8.2.1 f10.2) f12.2) f14.2) f16.2) f18.2) f22.2) b) c))
theorem LX6_isAs_224 {ln : Nat} {v0 : Int} {Φ : xRes → xS → Prop} {r : ZZ × DD} : ∀ (n : Nat) (v3 : Int) (z : ZZ) (D : DD), okD D → okz z → gdV D v0 → inR v3 → zlp (fun q => fX6_isAs_s224 v0 q.1 ln q.2.1 q.2.2) n (v3, z, D) = some r → (∀ (z' : ZZ) (D' : DD), r = (z', D') → okD D' → DLe D D' → okz z' → XD mX6_isAs 381 [some (rV (v0)), some (.ref 0), none, none, none, none, none] [] ln D' z' Φ) → XD mX6_isAs 224 [some (rV (v0)), some (.ref 0), none, some (.int (iN (v3))), none, none, none] [] ln D z Φ := by
  intro n
  induction n with
  | zero => intro v3 z D hD hz rv0 rv3 h k2; cases h
  | succ n ih =>
    intro v3 z D hD hz rv0 rv3 h k2
    rcases zlp_s h with ⟨⟨v3', z', D'⟩, e, h'⟩ | e
    · exact SX6_isAs_224 hD hz rv0 rv3 e (fun v3₁ z₁ D₁ hh a b c f0 => by cases hh; exact ih _ _ _ a c (gdV_le b rv0) f0 h' (fun z9 D9 hh a' b' c' => k2 z9 D9 hh a' (DLe_trans b b') c')) (fun z9 D9 hh => by cases hh)
    · exact SX6_isAs_224 hD hz rv0 rv3 e (fun v3₁ z₁ D₁ hh => by cases hh) (fun z9 D9 hh a b c => by cases hh; exact k2 _ _ rfl a b c )
def fX6_isAs_s497 (v0 : Int) (v3 : Int) (v5 : Int) (v6 : Int) (ln : Nat) (z : ZZ) (D : DD) : Option ((Int × ZZ × DD) ⊕ (ZZ × DD)) := (if (v6) < (6) then (Option.bind (fX5_harness (v3) (v6) z) fun q2 => match q2 with | .inr _ => none | .inl r2 => (if dO D (v5) 20 then (if (0 : Int) ≤ (v6) ∧ (v6 : Int) < ((dH D (v5)).2 : Int) then (if (r2) = ((dW D (v5) (v6))) then (if inR ((v6 + 1)) then some (.inl ((v6 + 1), z, D)) else none) else none) else none) else none)) else some (.inr (z, D)))
set_option maxRecDepth 100000 in
theorem SX6_isAs_497 {ln : Nat} {D : DD} {z : ZZ} {v0 : Int} {v3 : Int} {v5 : Int} {v6 : Int} {Φ : xRes → xS → Prop} (hD : okD D) (hz : okz z) (rv0 : gdV D v0) (rv3 : inR v3) (rv5 : gdV D v5) (rv6 : inR v6) {p : (Int × ZZ × DD) ⊕ (ZZ × DD)} (h : fX6_isAs_s497 v0 v3 v5 v6 ln z D = some p) (k1 : ∀ (v6' : Int) (z' : ZZ) (D' : DD), p = .inl (v6', z', D') → okD D' → DLe D D' → okz z' → inR v6' → XD mX6_isAs 497 [some (rV (v0)), some (.ref 0), none, some (.int (iN (v3))), none, some (rV (v5)), some (.int (iN (v6')))] [] ln D' z' Φ) (k2 : ∀ (z' : ZZ) (D' : DD), p = .inr (z', D') → okD D' → DLe D D' → okz z' → XD mX6_isAs 527 [some (rV (v0)), some (.ref 0), none, some (.int (iN (v3))), none, none, none] [] ln D' z' Φ) : XD mX6_isAs 497 [some (rV (v0)), some (.ref 0), none, some (.int (iN (v3))), none, some (rV (v5)), some (.int (iN (v6)))] [] ln D z Φ := by
  unfold fX6_isAs_s497 at h
  refine X_iload (pc' := 499) dX6_isAs_497 rfl rfl ?_
  refine X_bipush (pc' := 501) dX6_isAs_499 rfl (by decide) ?_
  refine X_icmp_ge dX6_isAs_501 (tgt := 527) rfl (pc' := 504) rfl ⟨rv6.1, rv6.2, (inR_c (n := 6) rfl).1, (inR_c (n := 6) rfl).2⟩ (fun c1 => ?_) (fun c1 => ?_)
  · have h := if_f (Int.not_lt.mpr c1) h
    cases h
    exact X_sub (sub_s (sub_s (sub_n (sub_s (sub_n (sub_n (sub_n sub_0))))))) (k2 _ _ rfl hD (DLe_refl _) hz)
  have h := if_t c1 h
  refine X_aload_n (pc' := 505) dX6_isAs_504 rfl rfl ?_
  refine X_iload_n (pc' := 506) dX6_isAs_505 rfl rfl ?_
  refine X_iload (pc' := 508) dX6_isAs_506 rfl rfl ?_
  obtain ⟨r2 | E2, q2, h⟩ := bs h
  rotate_left
  · cases h
  refine E0_callM [.int (iN (v3)), .int (iN (v6))] (pc' := 511) dX6_isAs_508 rfl VX6_218 (by decide) rfl rfl (c1_i (c1_i c1_n)) (cs rfl) c1_n (cs rfl) rfl hD (show X mX5_harness 0 (xEnt [.ref 0, .int (iN (v3)), .int (iN (v6))] (xL mX5_harness)) [] (zmk (ln, D) (dT D).toNat z) 0 0 (Qd (inR r2) (.inl (some (.int (iN r2)))) (zmk (ln, D) (dT D).toNat z)) from CX5_harness (hNm (ln := ln) hD) hz rv3 rv6 q2) (fun f2 => ?_)
  refine E_aload (pc' := 513) dX6_isAs_511 rfl rfl ?_
  refine X_iload (pc' := 515) dX6_isAs_513 rfl rfl ?_
  obtain ⟨g3, h⟩ := gs h
  obtain ⟨g4, h⟩ := gs h
  refine E_iald (pc' := 516) dX6_isAs_515 rfl hD g3 g4 ?_
  refine X_icmp_eq dX6_isAs_516 (tgt := 521) rfl (pc' := 519) rfl ⟨f2.1, f2.2, (in_at hD g3 (Or.inl rfl) g4.1).1, (in_at hD g3 (Or.inl rfl) g4.1).2⟩ (fun c5 => ?_) (fun c5 => ?_)
  · have h := if_t c5 h
    refine X_iinc (pc' := 524) dX6_isAs_521 rfl rfl (Or.inr (xC1_R _)) (L' := [some (rV (v0)), some (.ref 0), none, some (.int (iN (v3))), none, some (rV (v5)), some (.int (iN (v6 + 1)))]) rfl ?_
    refine X_goto dX6_isAs_524 (tgt := 497) rfl ?_
    obtain ⟨g6, h⟩ := gs h
    cases h
    exact X_sub (sub_s (sub_s (sub_n (sub_s (sub_n (sub_s (sub_s sub_0))))))) (k1 _ _ _ rfl hD (DLe_refl _) hz g6)
  have h := if_f c5 h
  cases h
theorem LX6_isAs_497 {ln : Nat} {v0 : Int} {v3 : Int} {v5 : Int} {Φ : xRes → xS → Prop} {r : ZZ × DD} : ∀ (n : Nat) (v6 : Int) (z : ZZ) (D : DD), okD D → okz z → gdV D v0 → inR v3 → gdV D v5 → inR v6 → zlp (fun q => fX6_isAs_s497 v0 v3 v5 q.1 ln q.2.1 q.2.2) n (v6, z, D) = some r → (∀ (z' : ZZ) (D' : DD), r = (z', D') → okD D' → DLe D D' → okz z' → XD mX6_isAs 527 [some (rV (v0)), some (.ref 0), none, some (.int (iN (v3))), none, none, none] [] ln D' z' Φ) → XD mX6_isAs 497 [some (rV (v0)), some (.ref 0), none, some (.int (iN (v3))), none, some (rV (v5)), some (.int (iN (v6)))] [] ln D z Φ := by
  intro n
  induction n with
  | zero => intro v6 z D hD hz rv0 rv3 rv5 rv6 h k2; cases h
  | succ n ih =>
    intro v6 z D hD hz rv0 rv3 rv5 rv6 h k2
    rcases zlp_s h with ⟨⟨v6', z', D'⟩, e, h'⟩ | e
    · exact SX6_isAs_497 hD hz rv0 rv3 rv5 rv6 e (fun v6₁ z₁ D₁ hh a b c f0 => by cases hh; exact ih _ _ _ a c (gdV_le b rv0) rv3 (gdV_le b rv5) f0 h' (fun z9 D9 hh a' b' c' => k2 z9 D9 hh a' (DLe_trans b b') c')) (fun z9 D9 hh => by cases hh)
    · exact SX6_isAs_497 hD hz rv0 rv3 rv5 rv6 e (fun v6₁ z₁ D₁ hh => by cases hh) (fun z9 D9 hh a b c => by cases hh; exact k2 _ _ rfl a b c )
def fX6_isAs_b491 (v0 : Int) (v3 : Int) (s0 : Int) (s1 : Int) (s2 : Int) (s3 : Int) (ln : Nat) (z : ZZ) (D : DD) : Option ((Int × ZZ × DD) ⊕ (ZZ × DD)) := (if dO D (s1) 20 then (if (0 : Int) ≤ (s2) ∧ (s2 : Int) < ((dH D (s1)).2 : Int) then (zl (dup D (s1) (s2) (s3)) fun D3 => (Option.bind (zlp (fun q => fX6_isAs_s497 (v0) (v3) (s0) q.1 ln q.2.1 q.2.2) FU (0, z, D3)) fun q4 => match q4 with | (z4, D4) => (if inR ((v3 + 1)) then some (.inl ((v3 + 1), z4, D4)) else none))) else none) else none)
set_option maxRecDepth 100000 in
theorem BX6_isAs_491 {ln : Nat} {D : DD} {z : ZZ} {v0 : Int} {v3 : Int} {s0 : Int} {s1 : Int} {s2 : Int} {s3 : Int} {Φ : xRes → xS → Prop} (hD : okD D) (hz : okz z) (rv0 : gdV D v0) (rv3 : inR v3) (rs0 : gdV D s0) (rs1 : gdV D s1) (rs2 : inR s2) (rs3 : inR s3) {p : (Int × ZZ × DD) ⊕ (ZZ × DD)} (h : fX6_isAs_b491 v0 v3 s0 s1 s2 s3 ln z D = some p) (k1 : ∀ (v3' : Int) (z' : ZZ) (D' : DD), p = .inl (v3', z', D') → okD D' → DLe D D' → okz z' → inR v3' → XD mX6_isAs 383 [some (rV (v0)), some (.ref 0), none, some (.int (iN (v3'))), none, none, none] [] ln D' z' Φ) (k2 : ∀ (z' : ZZ) (D' : DD), p = .inr (z', D') → okD D' → DLe D D' → okz z' → XD mX6_isAs 533 [some (rV (v0)), some (.ref 0), none, none, none, none, none] [] ln D' z' Φ) : XD mX6_isAs 491 [some (rV (v0)), some (.ref 0), none, some (.int (iN (v3))), none, none, none] [.int (iN (s3)), .int (iN (s2)), rV (s1), rV (s0)] ln D z Φ := by
  unfold fX6_isAs_b491 at h
  obtain ⟨g1, h⟩ := gs h
  obtain ⟨g2, h⟩ := gs h
  refine E_iast (pc' := 492) dX6_isAs_491 rfl hD g1 g2 ?_
  obtain ⟨D3, e3, f3, h⟩ := zl_some (P := fun q => okD q ∧ DLe D q) h ⟨okD_dupJ hD g2.1 (okS_at20 g1 rs3), DLe_dup _ _ _ _⟩
  rw [e3]
  refine E_astore (pc' := 494) dX6_isAs_492 rfl (cl rfl) (Or.inr rfl) (L' := [some (rV (v0)), some (.ref 0), none, some (.int (iN (v3))), none, some (rV (s0)), none]) rfl ?_
  refine X_iconst (pc' := 495) dX6_isAs_494 rfl ?_
  refine X_istore (pc' := 497) dX6_isAs_495 rfl (cl rfl) (Or.inr (xC1_R _)) (L' := [some (rV (v0)), some (.ref 0), none, some (.int (iN (v3))), none, some (rV (s0)), some (.int (iN (0)))]) rfl ?_
  obtain ⟨⟨z4, D4⟩, q4, h⟩ := bs h
  refine X_sub (sub_s (sub_s (sub_n (sub_s (sub_n (sub_s (sub_s sub_0))))))) (LX6_isAs_497 FU _ _ _ f3.1 hz (gdV_le f3.2 rv0) rv3 (gdV_le f3.2 rs0) (inR_c (n := 0) rfl) q4 (fun z4₁ D4₁ hh hD4 le4 hz4 => ?_))
  cases hh
  refine X_iinc (pc' := 530) dX6_isAs_527 rfl rfl (Or.inr rfl) (L' := [some (rV (v0)), some (.ref 0), none, some (.int (iN (v3 + 1))), none, none, none]) rfl ?_
  refine X_goto dX6_isAs_530 (tgt := 383) rfl ?_
  obtain ⟨g5, h⟩ := gs h
  cases h
  exact X_sub (sub_s (sub_s (sub_n (sub_s (sub_n (sub_n (sub_n sub_0))))))) (k1 _ _ _ rfl hD4 (DLe_trans f3.2 le4) hz4 g5)
def fX6_isAs_b471 (v0 : Int) (v3 : Int) (s0 : Int) (s1 : Int) (s2 : Int) (s3 : Int) (ln : Nat) (z : ZZ) (D : DD) : Option ((Int × ZZ × DD) ⊕ (ZZ × DD)) := (if dO D (s1) 20 then (if (0 : Int) ≤ (s2) ∧ (s2 : Int) < ((dH D (s1)).2 : Int) then (zl (dup D (s1) (s2) (s3)) fun D3 => (if dO D3 (v0) 7 then (Option.bind (fX6_inForce (v0) (v3) ((dW D3 (v0) 3)) D3) fun r5 => (if (r5) = (0) then fX6_isAs_b491 (v0) (v3) (s0) (s0) (5) (0) ln z D3 else fX6_isAs_b491 (v0) (v3) (s0) (s0) (5) (1) ln z D3)) else none)) else none) else none)
set_option maxRecDepth 100000 in
theorem BX6_isAs_471 {ln : Nat} {D : DD} {z : ZZ} {v0 : Int} {v3 : Int} {s0 : Int} {s1 : Int} {s2 : Int} {s3 : Int} {Φ : xRes → xS → Prop} (hD : okD D) (hz : okz z) (rv0 : gdV D v0) (rv3 : inR v3) (rs0 : gdV D s0) (rs1 : gdV D s1) (rs2 : inR s2) (rs3 : inR s3) {p : (Int × ZZ × DD) ⊕ (ZZ × DD)} (h : fX6_isAs_b471 v0 v3 s0 s1 s2 s3 ln z D = some p) (k1 : ∀ (v3' : Int) (z' : ZZ) (D' : DD), p = .inl (v3', z', D') → okD D' → DLe D D' → okz z' → inR v3' → XD mX6_isAs 383 [some (rV (v0)), some (.ref 0), none, some (.int (iN (v3'))), none, none, none] [] ln D' z' Φ) (k2 : ∀ (z' : ZZ) (D' : DD), p = .inr (z', D') → okD D' → DLe D D' → okz z' → XD mX6_isAs 533 [some (rV (v0)), some (.ref 0), none, none, none, none, none] [] ln D' z' Φ) : XD mX6_isAs 471 [some (rV (v0)), some (.ref 0), none, some (.int (iN (v3))), none, none, none] [.int (iN (s3)), .int (iN (s2)), rV (s1), rV (s0)] ln D z Φ := by
  unfold fX6_isAs_b471 at h
  obtain ⟨g1, h⟩ := gs h
  obtain ⟨g2, h⟩ := gs h
  refine E_iast (pc' := 472) dX6_isAs_471 rfl hD g1 g2 ?_
  obtain ⟨D3, e3, f3, h⟩ := zl_some (P := fun q => okD q ∧ DLe D q) h ⟨okD_dupJ hD g2.1 (okS_at20 g1 rs3), DLe_dup _ _ _ _⟩
  rw [e3]
  refine X_dup (pc' := 473) dX6_isAs_472 rfl (rV_cat _) ?_
  refine X_iconst (pc' := 474) dX6_isAs_473 rfl ?_
  refine E_aload_n (pc' := 475) dX6_isAs_474 rfl rfl ?_
  refine X_iload_n (pc' := 476) dX6_isAs_475 rfl rfl ?_
  refine E_aload_n (pc' := 477) dX6_isAs_476 rfl rfl ?_
  obtain ⟨g4, h⟩ := gs h
  refine E_getI (pc' := 480) dX6_isAs_477 rfl FX6_43_6 f3.1 g4 rfl (j := 3) rfl ?_
  obtain ⟨r5, q5, h⟩ := bs h
  refine E_callV [.int (iN (v3)), .int (iN ((dW D3 (v0) 3)))] (pc' := 483) dX6_isAs_480 rfl (xVc VX6_178) (by decide) ⟨dO_pos g4, dO_is f3.1 g4 rfl⟩ rfl (c1_i (c1_i c1_n)) (cs rfl) (c1_i (c1_r (c1_r c1_n))) (cs rfl) rfl f3.1 (CX6_inForce f3.1 (gdV_le f3.2 rv0) rv3 (in_slot (k := 3) f3.1 g4 rfl (by decide)) q5) (fun a5 b5 f5 => ?_)
  refine X_if_eq dX6_isAs_483 (tgt := 490) rfl (pc' := 486) rfl (inR_b f5) (fun c6 => ?_) (fun c6 => ?_)
  · have h := if_t c6 h
    refine X_iconst (pc' := 491) dX6_isAs_490 rfl ?_
    exact X_sub (sub_s (sub_s (sub_n (sub_s (sub_n (sub_n (sub_n sub_0))))))) (BX6_isAs_491 f3.1 hz (gdV_le f3.2 rv0) rv3 (gdV_le f3.2 rs0) (gdV_le f3.2 rs0) (inR_c (n := 5) rfl) (inR_c (n := 0) rfl) h (fun x0 z9 D9 hh a b c f0 => k1 x0 z9 D9 hh a (DLe_trans f3.2 b) c f0) (fun z9 D9 hh a b c => k2 z9 D9 hh a (DLe_trans f3.2 b) c))
  have h := if_f c6 h
  refine X_iconst (pc' := 487) dX6_isAs_486 rfl ?_
  refine X_goto dX6_isAs_487 (tgt := 491) rfl ?_
  exact X_sub (sub_s (sub_s (sub_n (sub_s (sub_n (sub_n (sub_n sub_0))))))) (BX6_isAs_491 f3.1 hz (gdV_le f3.2 rv0) rv3 (gdV_le f3.2 rs0) (gdV_le f3.2 rs0) (inR_c (n := 5) rfl) (inR_c (n := 1) rfl) h (fun x0 z9 D9 hh a b c f0 => k1 x0 z9 D9 hh a (DLe_trans f3.2 b) c f0) (fun z9 D9 hh a b c => k2 z9 D9 hh a (DLe_trans f3.2 b) c))
def fX6_isAs_s383 (v0 : Int) (v3 : Int) (ln : Nat) (z : ZZ) (D : DD) : Option ((Int × ZZ × DD) ⊕ (ZZ × DD)) := (if dO D (v0) 7 then (Option.bind (fJx4a65c_size_8abf5 ((dW D (v0) 6)) D) fun r2 => (if dO D ((dW D (v0) 6)) 9 then (if (v3) < (r2) then (Option.bind (fJx4a65c_get_915e3 ((dW D (v0) 6)) (v3) D) fun r5 => (if dO D (r5) 20 then (if ((0 : Int) ≤ (6) ∧ (6 : Int) ≤ 1000000) ∧ dT D < 600000 ∧ dS D + (6) ≤ 7200000 then (zl (dnew D 20 (6 : Int).toNat) fun D8 => (if (0 : Int) ≤ (0) ∧ (0 : Int) < ((dH D8 (r5)).2 : Int) then (if (0 : Int) ≤ (0) ∧ (0 : Int) < ((dH D8 ((dT D))).2 : Int) then (zl (dup D8 ((dT D)) (0) ((dW D8 (r5) (0)))) fun D11 => (if (0 : Int) ≤ (1) ∧ (1 : Int) < ((dH D11 (r5)).2 : Int) then (if (0 : Int) ≤ (1) ∧ (1 : Int) < ((dH D11 ((dT D))).2 : Int) then (zl (dup D11 ((dT D)) (1) ((dW D11 (r5) (1)))) fun D14 => (if (0 : Int) ≤ (2) ∧ (2 : Int) < ((dH D14 (r5)).2 : Int) then (if (0 : Int) ≤ (2) ∧ (2 : Int) < ((dH D14 ((dT D))).2 : Int) then (zl (dup D14 ((dT D)) (2) ((dW D14 (r5) (2)))) fun D17 => (if (0 : Int) ≤ (1) ∧ (1 : Int) < ((dH D17 (r5)).2 : Int) then (if (0 : Int) ≤ (2) ∧ (2 : Int) < ((dH D17 (r5)).2 : Int) then (if (0 : Int) ≤ (3) ∧ (3 : Int) < ((dH D17 ((dT D))).2 : Int) then (if inR (((dW D17 (r5) (1)) + (dW D17 (r5) (2)))) then (zl (dup D17 ((dT D)) (3) (((dW D17 (r5) (1)) + (dW D17 (r5) (2))))) fun D22 => (if (0 : Int) ≤ (3) ∧ (3 : Int) < ((dH D22 (r5)).2 : Int) then (if ((dW D22 (r5) (3))) = (1) then fX6_isAs_b471 (v0) (v3) ((dT D)) ((dT D)) (4) (2) ln z D22 else (Option.bind (fX6_isLent (v0) (v3) D22) fun q25 => match q25 with | (r25, D25) => (if (r25) = (0) then fX6_isAs_b471 (v0) (v3) ((dT D)) ((dT D)) (4) (0) ln z D25 else fX6_isAs_b471 (v0) (v3) ((dT D)) ((dT D)) (4) (1) ln z D25))) else none)) else none) else none) else none) else none)) else none) else none)) else none) else none)) else none) else none)) else none) else none)) else some (.inr (z, D))) else none)) else none)
set_option maxRecDepth 100000 in
theorem SX6_isAs_383 {ln : Nat} {D : DD} {z : ZZ} {v0 : Int} {v3 : Int} {Φ : xRes → xS → Prop} (hD : okD D) (hz : okz z) (rv0 : gdV D v0) (rv3 : inR v3) {p : (Int × ZZ × DD) ⊕ (ZZ × DD)} (h : fX6_isAs_s383 v0 v3 ln z D = some p) (k1 : ∀ (v3' : Int) (z' : ZZ) (D' : DD), p = .inl (v3', z', D') → okD D' → DLe D D' → okz z' → inR v3' → XD mX6_isAs 383 [some (rV (v0)), some (.ref 0), none, some (.int (iN (v3'))), none, none, none] [] ln D' z' Φ) (k2 : ∀ (z' : ZZ) (D' : DD), p = .inr (z', D') → okD D' → DLe D D' → okz z' → XD mX6_isAs 533 [some (rV (v0)), some (.ref 0), none, none, none, none, none] [] ln D' z' Φ) : XD mX6_isAs 383 [some (rV (v0)), some (.ref 0), none, some (.int (iN (v3))), none, none, none] [] ln D z Φ := by
  unfold fX6_isAs_s383 at h
  refine X_iload_n (pc' := 384) dX6_isAs_383 rfl rfl ?_
  refine E_aload_n (pc' := 385) dX6_isAs_384 rfl rfl ?_
  obtain ⟨g1, h⟩ := gs h
  refine E_getR (pc' := 388) dX6_isAs_385 rfl FX6_31_6 hD g1 rfl (j := 6) rfl ?_
  obtain ⟨r2, q2, h⟩ := bs h
  obtain ⟨g3, h⟩ := gs h
  refine E_callV [] (pc' := 391) dX6_isAs_388 rfl (xVc VX6_151) (by decide) ⟨dO_pos g3, dO_is hD g3 rfl⟩ rfl c1_n (cs rfl) (c1_i c1_n) (cs rfl) rfl hD (CJx4a65c_size_8abf5 hD (gd_slot (k := 6) hD g1 rfl (by decide)) q2) (fun a2 b2 f2 => ?_)
  refine X_icmp_ge dX6_isAs_391 (tgt := 533) rfl (pc' := 394) rfl ⟨rv3.1, rv3.2, f2.1, f2.2⟩ (fun c4 => ?_) (fun c4 => ?_)
  · have h := if_f (Int.not_lt.mpr c4) h
    cases h
    exact X_sub (sub_s (sub_s (sub_n (sub_n (sub_n (sub_n (sub_n sub_0))))))) (k2 _ _ rfl hD (DLe_refl _) hz)
  have h := if_t c4 h
  refine E_aload_n (pc' := 395) dX6_isAs_394 rfl rfl ?_
  refine E_getR (pc' := 398) dX6_isAs_395 rfl FX6_31_6 hD g1 rfl (j := 6) rfl ?_
  refine X_iload_n (pc' := 399) dX6_isAs_398 rfl rfl ?_
  obtain ⟨r5, q5, h⟩ := bs h
  refine E_callV [.int (iN (v3))] (pc' := 402) dX6_isAs_399 rfl (xVc VX6_154) (by decide) ⟨dO_pos g3, dO_is hD g3 rfl⟩ rfl (c1_i c1_n) (cs rfl) c1_n (cs rfl) rfl hD (CJx4a65c_get_915e3 hD (gd_slot (k := 6) hD g1 rfl (by decide)) rv3 q5) (fun a5 b5 f5 => ?_)
  obtain ⟨g6, h⟩ := gs h
  refine E_cast (pc' := 405) dX6_isAs_402 rfl tq526 (dO_pos g6) (dO_isI hD g6) ?_
  refine E_astore (pc' := 407) dX6_isAs_405 rfl (cl rfl) (Or.inr rfl) (L' := [some (rV (v0)), some (.ref 0), none, some (.int (iN (v3))), some (rV (r5)), none, none]) rfl ?_
  refine X_bipush (pc' := 409) dX6_isAs_407 rfl (by decide) ?_
  obtain ⟨g7, h⟩ := gs h
  refine E_newI (pc' := 411) dX6_isAs_409 rfl tq75 hD g7 ?_
  obtain ⟨D8, e8, f8, h⟩ := zl_some (P := fun q => okD q ∧ DLe D q ∧ (dO q (dT D) 20 ∧ ((dH q (dT D)).2 : Int) = (6))) h ⟨okD_dnew hD (by decide) (by omega) g7.2.1 (by omega), DLe_dnew _ (by decide), dO_dnew hD, dH_dnew g7.1.1⟩
  rw [e8]
  refine X_dup (pc' := 412) dX6_isAs_411 rfl (rV_cat _) ?_
  refine X_iconst (pc' := 413) dX6_isAs_412 rfl ?_
  refine E_aload (pc' := 415) dX6_isAs_413 rfl rfl ?_
  refine X_iconst (pc' := 416) dX6_isAs_415 rfl ?_
  obtain ⟨g9, h⟩ := gs h
  refine E_iald (pc' := 417) dX6_isAs_416 rfl f8.1 (dO_le f8.2.1 g6) g9 ?_
  obtain ⟨g10, h⟩ := gs h
  refine E_iast (pc' := 418) dX6_isAs_417 rfl f8.1 f8.2.2.1 g10 ?_
  obtain ⟨D11, e11, f11, h⟩ := zl_some (P := fun q => okD q ∧ DLe D8 q) h ⟨okD_dupJ f8.1 g10.1 (okS_at20 f8.2.2.1 (in_at f8.1 (dO_le f8.2.1 g6) (Or.inl rfl) g9.1)), DLe_dup _ _ _ _⟩
  rw [e11]
  refine X_dup (pc' := 419) dX6_isAs_418 rfl (rV_cat _) ?_
  refine X_iconst (pc' := 420) dX6_isAs_419 rfl ?_
  refine E_aload (pc' := 422) dX6_isAs_420 rfl rfl ?_
  refine X_iconst (pc' := 423) dX6_isAs_422 rfl ?_
  obtain ⟨g12, h⟩ := gs h
  refine E_iald (pc' := 424) dX6_isAs_423 rfl f11.1 (dO_le f11.2 (dO_le f8.2.1 g6)) g12 ?_
  obtain ⟨g13, h⟩ := gs h
  refine E_iast (pc' := 425) dX6_isAs_424 rfl f11.1 (dO_le f11.2 f8.2.2.1) g13 ?_
  obtain ⟨D14, e14, f14, h⟩ := zl_some (P := fun q => okD q ∧ DLe D11 q) h ⟨okD_dupJ f11.1 g13.1 (okS_at20 (dO_le f11.2 f8.2.2.1) (in_at f11.1 (dO_le f11.2 (dO_le f8.2.1 g6)) (Or.inl rfl) g12.1)), DLe_dup _ _ _ _⟩
  rw [e14]
  refine X_dup (pc' := 426) dX6_isAs_425 rfl (rV_cat _) ?_
  refine X_iconst (pc' := 427) dX6_isAs_426 rfl ?_
  refine E_aload (pc' := 429) dX6_isAs_427 rfl rfl ?_
  refine X_iconst (pc' := 430) dX6_isAs_429 rfl ?_
  obtain ⟨g15, h⟩ := gs h
  refine E_iald (pc' := 431) dX6_isAs_430 rfl f14.1 (dO_le f14.2 (dO_le f11.2 (dO_le f8.2.1 g6))) g15 ?_
  obtain ⟨g16, h⟩ := gs h
  refine E_iast (pc' := 432) dX6_isAs_431 rfl f14.1 (dO_le f14.2 (dO_le f11.2 f8.2.2.1)) g16 ?_
  obtain ⟨D17, e17, f17, h⟩ := zl_some (P := fun q => okD q ∧ DLe D14 q) h ⟨okD_dupJ f14.1 g16.1 (okS_at20 (dO_le f14.2 (dO_le f11.2 f8.2.2.1)) (in_at f14.1 (dO_le f14.2 (dO_le f11.2 (dO_le f8.2.1 g6))) (Or.inl rfl) g15.1)), DLe_dup _ _ _ _⟩
  rw [e17]
  refine X_dup (pc' := 433) dX6_isAs_432 rfl (rV_cat _) ?_
  refine X_iconst (pc' := 434) dX6_isAs_433 rfl ?_
  refine E_aload (pc' := 436) dX6_isAs_434 rfl rfl ?_
  refine X_iconst (pc' := 437) dX6_isAs_436 rfl ?_
  obtain ⟨g18, h⟩ := gs h
  refine E_iald (pc' := 438) dX6_isAs_437 rfl f17.1 (dO_le f17.2 (dO_le f14.2 (dO_le f11.2 (dO_le f8.2.1 g6)))) g18 ?_
  refine E_aload (pc' := 440) dX6_isAs_438 rfl rfl ?_
  refine X_iconst (pc' := 441) dX6_isAs_440 rfl ?_
  obtain ⟨g19, h⟩ := gs h
  refine E_iald (pc' := 442) dX6_isAs_441 rfl f17.1 (dO_le f17.2 (dO_le f14.2 (dO_le f11.2 (dO_le f8.2.1 g6)))) g19 ?_
  refine X_iadd (pc' := 443) dX6_isAs_442 rfl ?_
  obtain ⟨g20, h⟩ := gs h
  obtain ⟨g21, h⟩ := gs h
  refine E_iast (pc' := 444) dX6_isAs_443 rfl f17.1 (dO_le f17.2 (dO_le f14.2 (dO_le f11.2 f8.2.2.1))) g20 ?_
  obtain ⟨D22, e22, f22, h⟩ := zl_some (P := fun q => okD q ∧ DLe D17 q) h ⟨okD_dupJ f17.1 g20.1 (okS_at20 (dO_le f17.2 (dO_le f14.2 (dO_le f11.2 f8.2.2.1))) g21), DLe_dup _ _ _ _⟩
  rw [e22]
  refine X_dup (pc' := 445) dX6_isAs_444 rfl (rV_cat _) ?_
  refine X_iconst (pc' := 446) dX6_isAs_445 rfl ?_
  refine E_aload (pc' := 448) dX6_isAs_446 rfl rfl ?_
  refine X_iconst (pc' := 449) dX6_isAs_448 rfl ?_
  obtain ⟨g23, h⟩ := gs h
  refine E_iald (pc' := 450) dX6_isAs_449 rfl f22.1 (dO_le f22.2 (dO_le f17.2 (dO_le f14.2 (dO_le f11.2 (dO_le f8.2.1 g6))))) g23 ?_
  refine X_iconst (pc' := 451) dX6_isAs_450 rfl ?_
  refine X_icmp_ne dX6_isAs_451 (tgt := 458) rfl (pc' := 454) rfl ⟨(in_at f22.1 (dO_le f22.2 (dO_le f17.2 (dO_le f14.2 (dO_le f11.2 (dO_le f8.2.1 g6))))) (Or.inl rfl) g23.1).1, (in_at f22.1 (dO_le f22.2 (dO_le f17.2 (dO_le f14.2 (dO_le f11.2 (dO_le f8.2.1 g6))))) (Or.inl rfl) g23.1).2, (inR_c (n := 1) rfl).1, (inR_c (n := 1) rfl).2⟩ (fun c24 => ?_) (fun c24 => ?_)
  · have h := if_f c24 h
    refine E_aload_n (pc' := 459) dX6_isAs_458 rfl rfl ?_
    refine X_iload_n (pc' := 460) dX6_isAs_459 rfl rfl ?_
    obtain ⟨⟨r25, D25⟩, q25, h⟩ := bs h
    refine E_callV [.int (iN (v3))] (pc' := 463) dX6_isAs_460 rfl (xVc VX6_215) (by decide) ⟨dO_pos (dO_le f22.2 (dO_le f17.2 (dO_le f14.2 (dO_le f11.2 (dO_le f8.2.1 g1))))), dO_is f22.1 (dO_le f22.2 (dO_le f17.2 (dO_le f14.2 (dO_le f11.2 (dO_le f8.2.1 g1))))) rfl⟩ rfl (c1_i c1_n) (cs rfl) (c1_i (c1_r (c1_r c1_n))) (cs rfl) rfl f22.1 (CX6_isLent f22.1 (gdV_le f22.2 (gdV_le f17.2 (gdV_le f14.2 (gdV_le f11.2 (gdV_le f8.2.1 rv0))))) rv3 q25) (fun a25 b25 f25 => ?_)
    refine X_if_eq dX6_isAs_463 (tgt := 470) rfl (pc' := 466) rfl (inR_b f25) (fun c26 => ?_) (fun c26 => ?_)
    · have h := if_t c26 h
      refine X_iconst (pc' := 471) dX6_isAs_470 rfl ?_
      exact X_sub (sub_s (sub_s (sub_n (sub_s (sub_n (sub_n (sub_n sub_0))))))) (BX6_isAs_471 a25 hz (gdV_le b25 (gdV_le f22.2 (gdV_le f17.2 (gdV_le f14.2 (gdV_le f11.2 (gdV_le f8.2.1 rv0)))))) rv3 (gdV_le b25 (gdV_le f22.2 (gdV_le f17.2 (gdV_le f14.2 (gdV_le f11.2 (dO_gd f8.2.2.1 (by decide))))))) (gdV_le b25 (gdV_le f22.2 (gdV_le f17.2 (gdV_le f14.2 (gdV_le f11.2 (dO_gd f8.2.2.1 (by decide))))))) (inR_c (n := 4) rfl) (inR_c (n := 0) rfl) h (fun x0 z9 D9 hh a b c f0 => k1 x0 z9 D9 hh a (DLe_trans (DLe_trans (DLe_trans (DLe_trans (DLe_trans (DLe_trans f8.2.1 f11.2) f14.2) f17.2) f22.2) b25) b) c f0) (fun z9 D9 hh a b c => k2 z9 D9 hh a (DLe_trans (DLe_trans (DLe_trans (DLe_trans (DLe_trans (DLe_trans f8.2.1 f11.2) f14.2) f17.2) f22.2) b25) b) c))
    have h := if_f c26 h
    refine X_iconst (pc' := 467) dX6_isAs_466 rfl ?_
    refine X_goto dX6_isAs_467 (tgt := 471) rfl ?_
    exact X_sub (sub_s (sub_s (sub_n (sub_s (sub_n (sub_n (sub_n sub_0))))))) (BX6_isAs_471 a25 hz (gdV_le b25 (gdV_le f22.2 (gdV_le f17.2 (gdV_le f14.2 (gdV_le f11.2 (gdV_le f8.2.1 rv0)))))) rv3 (gdV_le b25 (gdV_le f22.2 (gdV_le f17.2 (gdV_le f14.2 (gdV_le f11.2 (dO_gd f8.2.2.1 (by decide))))))) (gdV_le b25 (gdV_le f22.2 (gdV_le f17.2 (gdV_le f14.2 (gdV_le f11.2 (dO_gd f8.2.2.1 (by decide))))))) (inR_c (n := 4) rfl) (inR_c (n := 1) rfl) h (fun x0 z9 D9 hh a b c f0 => k1 x0 z9 D9 hh a (DLe_trans (DLe_trans (DLe_trans (DLe_trans (DLe_trans (DLe_trans f8.2.1 f11.2) f14.2) f17.2) f22.2) b25) b) c f0) (fun z9 D9 hh a b c => k2 z9 D9 hh a (DLe_trans (DLe_trans (DLe_trans (DLe_trans (DLe_trans (DLe_trans f8.2.1 f11.2) f14.2) f17.2) f22.2) b25) b) c))
  have h := if_t c24 h
  refine X_iconst (pc' := 455) dX6_isAs_454 rfl ?_
  refine X_goto dX6_isAs_455 (tgt := 471) rfl ?_
  exact X_sub (sub_s (sub_s (sub_n (sub_s (sub_n (sub_n (sub_n sub_0))))))) (BX6_isAs_471 f22.1 hz (gdV_le f22.2 (gdV_le f17.2 (gdV_le f14.2 (gdV_le f11.2 (gdV_le f8.2.1 rv0))))) rv3 (gdV_le f22.2 (gdV_le f17.2 (gdV_le f14.2 (gdV_le f11.2 (dO_gd f8.2.2.1 (by decide)))))) (gdV_le f22.2 (gdV_le f17.2 (gdV_le f14.2 (gdV_le f11.2 (dO_gd f8.2.2.1 (by decide)))))) (inR_c (n := 4) rfl) (inR_c (n := 2) rfl) h (fun x0 z9 D9 hh a b c f0 => k1 x0 z9 D9 hh a (DLe_trans (DLe_trans (DLe_trans (DLe_trans (DLe_trans f8.2.1 f11.2) f14.2) f17.2) f22.2) b) c f0) (fun z9 D9 hh a b c => k2 z9 D9 hh a (DLe_trans (DLe_trans (DLe_trans (DLe_trans (DLe_trans f8.2.1 f11.2) f14.2) f17.2) f22.2) b) c))
theorem LX6_isAs_383 {ln : Nat} {v0 : Int} {Φ : xRes → xS → Prop} {r : ZZ × DD} : ∀ (n : Nat) (v3 : Int) (z : ZZ) (D : DD), okD D → okz z → gdV D v0 → inR v3 → zlp (fun q => fX6_isAs_s383 v0 q.1 ln q.2.1 q.2.2) n (v3, z, D) = some r → (∀ (z' : ZZ) (D' : DD), r = (z', D') → okD D' → DLe D D' → okz z' → XD mX6_isAs 533 [some (rV (v0)), some (.ref 0), none, none, none, none, none] [] ln D' z' Φ) → XD mX6_isAs 383 [some (rV (v0)), some (.ref 0), none, some (.int (iN (v3))), none, none, none] [] ln D z Φ := by
  intro n
  induction n with
  | zero => intro v3 z D hD hz rv0 rv3 h k2; cases h
  | succ n ih =>
    intro v3 z D hD hz rv0 rv3 h k2
    rcases zlp_s h with ⟨⟨v3', z', D'⟩, e, h'⟩ | e
    · exact SX6_isAs_383 hD hz rv0 rv3 e (fun v3₁ z₁ D₁ hh a b c f0 => by cases hh; exact ih _ _ _ a c (gdV_le b rv0) f0 h' (fun z9 D9 hh a' b' c' => k2 z9 D9 hh a' (DLe_trans b b') c')) (fun z9 D9 hh => by cases hh)
    · exact SX6_isAs_383 hD hz rv0 rv3 e (fun v3₁ z₁ D₁ hh => by cases hh) (fun z9 D9 hh a b c => by cases hh; exact k2 _ _ rfl a b c )
def fX6_isAs_s549 (v0 : Int) (v3 : Int) (v4 : Int) (ln : Nat) (z : ZZ) (D : DD) : Option ((Int × ZZ × DD) ⊕ (ZZ × DD)) := (if (v4) < (6) then (Option.bind (fX5_member (v3) (v4) z) fun q2 => match q2 with | .inr _ => none | .inl r2 => (if dO D (v0) 7 then (Option.bind (fJx4a65c_get_915e3 ((dW D (v0) 7)) (v3) D) fun r4 => (if dO D ((dW D (v0) 7)) 9 then (if dO D (r4) 20 then (if (0 : Int) ≤ (v4) ∧ (v4 : Int) < ((dH D (r4)).2 : Int) then (if (r2) = ((dW D (r4) (v4))) then (if inR ((v4 + 1)) then some (.inl ((v4 + 1), z, D)) else none) else none) else none) else none) else none)) else none)) else some (.inr (z, D)))
set_option maxRecDepth 100000 in
theorem SX6_isAs_549 {ln : Nat} {D : DD} {z : ZZ} {v0 : Int} {v3 : Int} {v4 : Int} {Φ : xRes → xS → Prop} (hD : okD D) (hz : okz z) (rv0 : gdV D v0) (rv3 : inR v3) (rv4 : inR v4) {p : (Int × ZZ × DD) ⊕ (ZZ × DD)} (h : fX6_isAs_s549 v0 v3 v4 ln z D = some p) (k1 : ∀ (v4' : Int) (z' : ZZ) (D' : DD), p = .inl (v4', z', D') → okD D' → DLe D D' → okz z' → inR v4' → XD mX6_isAs 549 [some (rV (v0)), some (.ref 0), none, some (.int (iN (v3))), some (.int (iN (v4'))), none, none] [] ln D' z' Φ) (k2 : ∀ (z' : ZZ) (D' : DD), p = .inr (z', D') → okD D' → DLe D D' → okz z' → XD mX6_isAs 588 [some (rV (v0)), some (.ref 0), none, some (.int (iN (v3))), none, none, none] [] ln D' z' Φ) : XD mX6_isAs 549 [some (rV (v0)), some (.ref 0), none, some (.int (iN (v3))), some (.int (iN (v4))), none, none] [] ln D z Φ := by
  unfold fX6_isAs_s549 at h
  refine X_iload (pc' := 551) dX6_isAs_549 rfl rfl ?_
  refine X_bipush (pc' := 553) dX6_isAs_551 rfl (by decide) ?_
  refine X_icmp_ge dX6_isAs_553 (tgt := 588) rfl (pc' := 556) rfl ⟨rv4.1, rv4.2, (inR_c (n := 6) rfl).1, (inR_c (n := 6) rfl).2⟩ (fun c1 => ?_) (fun c1 => ?_)
  · have h := if_f (Int.not_lt.mpr c1) h
    cases h
    exact X_sub (sub_s (sub_s (sub_n (sub_s (sub_n (sub_n (sub_n sub_0))))))) (k2 _ _ rfl hD (DLe_refl _) hz)
  have h := if_t c1 h
  refine X_aload_n (pc' := 557) dX6_isAs_556 rfl rfl ?_
  refine X_iload_n (pc' := 558) dX6_isAs_557 rfl rfl ?_
  refine X_iload (pc' := 560) dX6_isAs_558 rfl rfl ?_
  obtain ⟨r2 | E2, q2, h⟩ := bs h
  rotate_left
  · cases h
  refine E0_callM [.int (iN (v3)), .int (iN (v4))] (pc' := 563) dX6_isAs_560 rfl VX6_220 (by decide) rfl rfl (c1_i (c1_i c1_n)) (cs rfl) c1_n (cs rfl) rfl hD (show X mX5_member 0 (xEnt [.ref 0, .int (iN (v3)), .int (iN (v4))] (xL mX5_member)) [] (zmk (ln, D) (dT D).toNat z) 0 0 (Qd (inR r2) (.inl (some (.int (iN r2)))) (zmk (ln, D) (dT D).toNat z)) from CX5_member (hNm (ln := ln) hD) hz rv3 rv4 q2) (fun f2 => ?_)
  refine E_aload_n (pc' := 564) dX6_isAs_563 rfl rfl ?_
  obtain ⟨g3, h⟩ := gs h
  refine E_getR (pc' := 567) dX6_isAs_564 rfl FX6_34_6 hD g3 rfl (j := 7) rfl ?_
  refine X_iload_n (pc' := 568) dX6_isAs_567 rfl rfl ?_
  obtain ⟨r4, q4, h⟩ := bs h
  obtain ⟨g5, h⟩ := gs h
  refine E_callV [.int (iN (v3))] (pc' := 571) dX6_isAs_568 rfl (xVc VX6_154) (by decide) ⟨dO_pos g5, dO_is hD g5 rfl⟩ rfl (c1_i c1_n) (cs rfl) (c1_i c1_n) (cs rfl) rfl hD (CJx4a65c_get_915e3 hD (gd_slot (k := 7) hD g3 rfl (by decide)) rv3 q4) (fun a4 b4 f4 => ?_)
  obtain ⟨g6, h⟩ := gs h
  refine E_cast (pc' := 574) dX6_isAs_571 rfl tq526 (dO_pos g6) (dO_isI hD g6) ?_
  refine X_iload (pc' := 576) dX6_isAs_574 rfl rfl ?_
  obtain ⟨g7, h⟩ := gs h
  refine E_iald (pc' := 577) dX6_isAs_576 rfl hD g6 g7 ?_
  refine X_icmp_eq dX6_isAs_577 (tgt := 582) rfl (pc' := 580) rfl ⟨f2.1, f2.2, (in_at hD g6 (Or.inl rfl) g7.1).1, (in_at hD g6 (Or.inl rfl) g7.1).2⟩ (fun c8 => ?_) (fun c8 => ?_)
  · have h := if_t c8 h
    refine X_iinc (pc' := 585) dX6_isAs_582 rfl rfl (Or.inr rfl) (L' := [some (rV (v0)), some (.ref 0), none, some (.int (iN (v3))), some (.int (iN (v4 + 1))), none, none]) rfl ?_
    refine X_goto dX6_isAs_585 (tgt := 549) rfl ?_
    obtain ⟨g9, h⟩ := gs h
    cases h
    exact X_sub (sub_s (sub_s (sub_n (sub_s (sub_s (sub_n (sub_n sub_0))))))) (k1 _ _ _ rfl hD (DLe_refl _) hz g9)
  have h := if_f c8 h
  cases h
theorem LX6_isAs_549 {ln : Nat} {v0 : Int} {v3 : Int} {Φ : xRes → xS → Prop} {r : ZZ × DD} : ∀ (n : Nat) (v4 : Int) (z : ZZ) (D : DD), okD D → okz z → gdV D v0 → inR v3 → inR v4 → zlp (fun q => fX6_isAs_s549 v0 v3 q.1 ln q.2.1 q.2.2) n (v4, z, D) = some r → (∀ (z' : ZZ) (D' : DD), r = (z', D') → okD D' → DLe D D' → okz z' → XD mX6_isAs 588 [some (rV (v0)), some (.ref 0), none, some (.int (iN (v3))), none, none, none] [] ln D' z' Φ) → XD mX6_isAs 549 [some (rV (v0)), some (.ref 0), none, some (.int (iN (v3))), some (.int (iN (v4))), none, none] [] ln D z Φ := by
  intro n
  induction n with
  | zero => intro v4 z D hD hz rv0 rv3 rv4 h k2; cases h
  | succ n ih =>
    intro v4 z D hD hz rv0 rv3 rv4 h k2
    rcases zlp_s h with ⟨⟨v4', z', D'⟩, e, h'⟩ | e
    · exact SX6_isAs_549 hD hz rv0 rv3 rv4 e (fun v4₁ z₁ D₁ hh a b c f0 => by cases hh; exact ih _ _ _ a c (gdV_le b rv0) rv3 f0 h' (fun z9 D9 hh a' b' c' => k2 z9 D9 hh a' (DLe_trans b b') c')) (fun z9 D9 hh => by cases hh)
    · exact SX6_isAs_549 hD hz rv0 rv3 rv4 e (fun v4₁ z₁ D₁ hh => by cases hh) (fun z9 D9 hh a b c => by cases hh; exact k2 _ _ rfl a b c )
def fX6_isAs_s535 (v0 : Int) (v3 : Int) (ln : Nat) (z : ZZ) (D : DD) : Option ((Int × ZZ × DD) ⊕ (ZZ × DD)) := (if dO D (v0) 7 then (Option.bind (fJx4a65c_size_8abf5 ((dW D (v0) 7)) D) fun r2 => (if dO D ((dW D (v0) 7)) 9 then (if (v3) < (r2) then (Option.bind (zlp (fun q => fX6_isAs_s549 (v0) (v3) q.1 ln q.2.1 q.2.2) FU (0, z, D)) fun q5 => match q5 with | (z5, D5) => (if inR ((v3 + 1)) then some (.inl ((v3 + 1), z5, D5)) else none)) else some (.inr (z, D))) else none)) else none)
set_option maxRecDepth 100000 in
theorem SX6_isAs_535 {ln : Nat} {D : DD} {z : ZZ} {v0 : Int} {v3 : Int} {Φ : xRes → xS → Prop} (hD : okD D) (hz : okz z) (rv0 : gdV D v0) (rv3 : inR v3) {p : (Int × ZZ × DD) ⊕ (ZZ × DD)} (h : fX6_isAs_s535 v0 v3 ln z D = some p) (k1 : ∀ (v3' : Int) (z' : ZZ) (D' : DD), p = .inl (v3', z', D') → okD D' → DLe D D' → okz z' → inR v3' → XD mX6_isAs 535 [some (rV (v0)), some (.ref 0), none, some (.int (iN (v3'))), none, none, none] [] ln D' z' Φ) (k2 : ∀ (z' : ZZ) (D' : DD), p = .inr (z', D') → okD D' → DLe D D' → okz z' → XD mX6_isAs 594 [some (rV (v0)), some (.ref 0), none, none, none, none, none] [] ln D' z' Φ) : XD mX6_isAs 535 [some (rV (v0)), some (.ref 0), none, some (.int (iN (v3))), none, none, none] [] ln D z Φ := by
  unfold fX6_isAs_s535 at h
  refine X_iload_n (pc' := 536) dX6_isAs_535 rfl rfl ?_
  refine E_aload_n (pc' := 537) dX6_isAs_536 rfl rfl ?_
  obtain ⟨g1, h⟩ := gs h
  refine E_getR (pc' := 540) dX6_isAs_537 rfl FX6_34_6 hD g1 rfl (j := 7) rfl ?_
  obtain ⟨r2, q2, h⟩ := bs h
  obtain ⟨g3, h⟩ := gs h
  refine E_callV [] (pc' := 543) dX6_isAs_540 rfl (xVc VX6_151) (by decide) ⟨dO_pos g3, dO_is hD g3 rfl⟩ rfl c1_n (cs rfl) (c1_i c1_n) (cs rfl) rfl hD (CJx4a65c_size_8abf5 hD (gd_slot (k := 7) hD g1 rfl (by decide)) q2) (fun a2 b2 f2 => ?_)
  refine X_icmp_ge dX6_isAs_543 (tgt := 594) rfl (pc' := 546) rfl ⟨rv3.1, rv3.2, f2.1, f2.2⟩ (fun c4 => ?_) (fun c4 => ?_)
  · have h := if_f (Int.not_lt.mpr c4) h
    cases h
    exact X_sub (sub_s (sub_s (sub_n (sub_n (sub_n (sub_n (sub_n sub_0))))))) (k2 _ _ rfl hD (DLe_refl _) hz)
  have h := if_t c4 h
  refine X_iconst (pc' := 547) dX6_isAs_546 rfl ?_
  refine X_istore (pc' := 549) dX6_isAs_547 rfl (cl rfl) (Or.inr rfl) (L' := [some (rV (v0)), some (.ref 0), none, some (.int (iN (v3))), some (.int (iN (0))), none, none]) rfl ?_
  obtain ⟨⟨z5, D5⟩, q5, h⟩ := bs h
  refine X_sub (sub_s (sub_s (sub_n (sub_s (sub_s (sub_n (sub_n sub_0))))))) (LX6_isAs_549 FU _ _ _ hD hz rv0 rv3 (inR_c (n := 0) rfl) q5 (fun z5₁ D5₁ hh hD5 le5 hz5 => ?_))
  cases hh
  refine X_iinc (pc' := 591) dX6_isAs_588 rfl rfl (Or.inr rfl) (L' := [some (rV (v0)), some (.ref 0), none, some (.int (iN (v3 + 1))), none, none, none]) rfl ?_
  refine X_goto dX6_isAs_591 (tgt := 535) rfl ?_
  obtain ⟨g6, h⟩ := gs h
  cases h
  exact X_sub (sub_s (sub_s (sub_n (sub_s (sub_n (sub_n (sub_n sub_0))))))) (k1 _ _ _ rfl hD5 le5 hz5 g6)
theorem LX6_isAs_535 {ln : Nat} {v0 : Int} {Φ : xRes → xS → Prop} {r : ZZ × DD} : ∀ (n : Nat) (v3 : Int) (z : ZZ) (D : DD), okD D → okz z → gdV D v0 → inR v3 → zlp (fun q => fX6_isAs_s535 v0 q.1 ln q.2.1 q.2.2) n (v3, z, D) = some r → (∀ (z' : ZZ) (D' : DD), r = (z', D') → okD D' → DLe D D' → okz z' → XD mX6_isAs 594 [some (rV (v0)), some (.ref 0), none, none, none, none, none] [] ln D' z' Φ) → XD mX6_isAs 535 [some (rV (v0)), some (.ref 0), none, some (.int (iN (v3))), none, none, none] [] ln D z Φ := by
  intro n
  induction n with
  | zero => intro v3 z D hD hz rv0 rv3 h k2; cases h
  | succ n ih =>
    intro v3 z D hD hz rv0 rv3 h k2
    rcases zlp_s h with ⟨⟨v3', z', D'⟩, e, h'⟩ | e
    · exact SX6_isAs_535 hD hz rv0 rv3 e (fun v3₁ z₁ D₁ hh a b c f0 => by cases hh; exact ih _ _ _ a c (gdV_le b rv0) f0 h' (fun z9 D9 hh a' b' c' => k2 z9 D9 hh a' (DLe_trans b b') c')) (fun z9 D9 hh => by cases hh)
    · exact SX6_isAs_535 hD hz rv0 rv3 e (fun v3₁ z₁ D₁ hh => by cases hh) (fun z9 D9 hh a b c => by cases hh; exact k2 _ _ rfl a b c )
def fX6_isAs_s610 (v0 : Int) (v3 : Int) (v4 : Int) (ln : Nat) (z : ZZ) (D : DD) : Option ((Int × ZZ × DD) ⊕ (ZZ × DD)) := (if (v4) < (3) then (Option.bind (fX5_course (v3) (v4) z) fun q2 => match q2 with | .inr _ => none | .inl r2 => (if dO D (v0) 7 then (Option.bind (fJx4a65c_get_915e3 ((dW D (v0) 8)) (v3) D) fun r4 => (if dO D ((dW D (v0) 8)) 9 then (if dO D (r4) 20 then (if (0 : Int) ≤ (v4) ∧ (v4 : Int) < ((dH D (r4)).2 : Int) then (if (r2) = ((dW D (r4) (v4))) then (if inR ((v4 + 1)) then some (.inl ((v4 + 1), z, D)) else none) else none) else none) else none) else none)) else none)) else some (.inr (z, D)))
set_option maxRecDepth 100000 in
theorem SX6_isAs_610 {ln : Nat} {D : DD} {z : ZZ} {v0 : Int} {v3 : Int} {v4 : Int} {Φ : xRes → xS → Prop} (hD : okD D) (hz : okz z) (rv0 : gdV D v0) (rv3 : inR v3) (rv4 : inR v4) {p : (Int × ZZ × DD) ⊕ (ZZ × DD)} (h : fX6_isAs_s610 v0 v3 v4 ln z D = some p) (k1 : ∀ (v4' : Int) (z' : ZZ) (D' : DD), p = .inl (v4', z', D') → okD D' → DLe D D' → okz z' → inR v4' → XD mX6_isAs 610 [some (rV (v0)), some (.ref 0), none, some (.int (iN (v3))), some (.int (iN (v4'))), none, none] [] ln D' z' Φ) (k2 : ∀ (z' : ZZ) (D' : DD), p = .inr (z', D') → okD D' → DLe D D' → okz z' → XD mX6_isAs 648 [some (rV (v0)), some (.ref 0), none, some (.int (iN (v3))), none, none, none] [] ln D' z' Φ) : XD mX6_isAs 610 [some (rV (v0)), some (.ref 0), none, some (.int (iN (v3))), some (.int (iN (v4))), none, none] [] ln D z Φ := by
  unfold fX6_isAs_s610 at h
  refine X_iload (pc' := 612) dX6_isAs_610 rfl rfl ?_
  refine X_iconst (pc' := 613) dX6_isAs_612 rfl ?_
  refine X_icmp_ge dX6_isAs_613 (tgt := 648) rfl (pc' := 616) rfl ⟨rv4.1, rv4.2, (inR_c (n := 3) rfl).1, (inR_c (n := 3) rfl).2⟩ (fun c1 => ?_) (fun c1 => ?_)
  · have h := if_f (Int.not_lt.mpr c1) h
    cases h
    exact X_sub (sub_s (sub_s (sub_n (sub_s (sub_n (sub_n (sub_n sub_0))))))) (k2 _ _ rfl hD (DLe_refl _) hz)
  have h := if_t c1 h
  refine X_aload_n (pc' := 617) dX6_isAs_616 rfl rfl ?_
  refine X_iload_n (pc' := 618) dX6_isAs_617 rfl rfl ?_
  refine X_iload (pc' := 620) dX6_isAs_618 rfl rfl ?_
  obtain ⟨r2 | E2, q2, h⟩ := bs h
  rotate_left
  · cases h
  refine E0_callM [.int (iN (v3)), .int (iN (v4))] (pc' := 623) dX6_isAs_620 rfl VX6_222 (by decide) rfl rfl (c1_i (c1_i c1_n)) (cs rfl) c1_n (cs rfl) rfl hD (show X mX5_course 0 (xEnt [.ref 0, .int (iN (v3)), .int (iN (v4))] (xL mX5_course)) [] (zmk (ln, D) (dT D).toNat z) 0 0 (Qd (inR r2) (.inl (some (.int (iN r2)))) (zmk (ln, D) (dT D).toNat z)) from CX5_course (hNm (ln := ln) hD) hz rv3 rv4 q2) (fun f2 => ?_)
  refine E_aload_n (pc' := 624) dX6_isAs_623 rfl rfl ?_
  obtain ⟨g3, h⟩ := gs h
  refine E_getR (pc' := 627) dX6_isAs_624 rfl FX6_37_6 hD g3 rfl (j := 8) rfl ?_
  refine X_iload_n (pc' := 628) dX6_isAs_627 rfl rfl ?_
  obtain ⟨r4, q4, h⟩ := bs h
  obtain ⟨g5, h⟩ := gs h
  refine E_callV [.int (iN (v3))] (pc' := 631) dX6_isAs_628 rfl (xVc VX6_154) (by decide) ⟨dO_pos g5, dO_is hD g5 rfl⟩ rfl (c1_i c1_n) (cs rfl) (c1_i c1_n) (cs rfl) rfl hD (CJx4a65c_get_915e3 hD (gd_slot (k := 8) hD g3 rfl (by decide)) rv3 q4) (fun a4 b4 f4 => ?_)
  obtain ⟨g6, h⟩ := gs h
  refine E_cast (pc' := 634) dX6_isAs_631 rfl tq526 (dO_pos g6) (dO_isI hD g6) ?_
  refine X_iload (pc' := 636) dX6_isAs_634 rfl rfl ?_
  obtain ⟨g7, h⟩ := gs h
  refine E_iald (pc' := 637) dX6_isAs_636 rfl hD g6 g7 ?_
  refine X_icmp_eq dX6_isAs_637 (tgt := 642) rfl (pc' := 640) rfl ⟨f2.1, f2.2, (in_at hD g6 (Or.inl rfl) g7.1).1, (in_at hD g6 (Or.inl rfl) g7.1).2⟩ (fun c8 => ?_) (fun c8 => ?_)
  · have h := if_t c8 h
    refine X_iinc (pc' := 645) dX6_isAs_642 rfl rfl (Or.inr rfl) (L' := [some (rV (v0)), some (.ref 0), none, some (.int (iN (v3))), some (.int (iN (v4 + 1))), none, none]) rfl ?_
    refine X_goto dX6_isAs_645 (tgt := 610) rfl ?_
    obtain ⟨g9, h⟩ := gs h
    cases h
    exact X_sub (sub_s (sub_s (sub_n (sub_s (sub_s (sub_n (sub_n sub_0))))))) (k1 _ _ _ rfl hD (DLe_refl _) hz g9)
  have h := if_f c8 h
  cases h
theorem LX6_isAs_610 {ln : Nat} {v0 : Int} {v3 : Int} {Φ : xRes → xS → Prop} {r : ZZ × DD} : ∀ (n : Nat) (v4 : Int) (z : ZZ) (D : DD), okD D → okz z → gdV D v0 → inR v3 → inR v4 → zlp (fun q => fX6_isAs_s610 v0 v3 q.1 ln q.2.1 q.2.2) n (v4, z, D) = some r → (∀ (z' : ZZ) (D' : DD), r = (z', D') → okD D' → DLe D D' → okz z' → XD mX6_isAs 648 [some (rV (v0)), some (.ref 0), none, some (.int (iN (v3))), none, none, none] [] ln D' z' Φ) → XD mX6_isAs 610 [some (rV (v0)), some (.ref 0), none, some (.int (iN (v3))), some (.int (iN (v4))), none, none] [] ln D z Φ := by
  intro n
  induction n with
  | zero => intro v4 z D hD hz rv0 rv3 rv4 h k2; cases h
  | succ n ih =>
    intro v4 z D hD hz rv0 rv3 rv4 h k2
    rcases zlp_s h with ⟨⟨v4', z', D'⟩, e, h'⟩ | e
    · exact SX6_isAs_610 hD hz rv0 rv3 rv4 e (fun v4₁ z₁ D₁ hh a b c f0 => by cases hh; exact ih _ _ _ a c (gdV_le b rv0) rv3 f0 h' (fun z9 D9 hh a' b' c' => k2 z9 D9 hh a' (DLe_trans b b') c')) (fun z9 D9 hh => by cases hh)
    · exact SX6_isAs_610 hD hz rv0 rv3 rv4 e (fun v4₁ z₁ D₁ hh => by cases hh) (fun z9 D9 hh a b c => by cases hh; exact k2 _ _ rfl a b c )
def fX6_isAs_s596 (v0 : Int) (v3 : Int) (ln : Nat) (z : ZZ) (D : DD) : Option ((Int × ZZ × DD) ⊕ (ZZ × DD)) := (if dO D (v0) 7 then (Option.bind (fJx4a65c_size_8abf5 ((dW D (v0) 8)) D) fun r2 => (if dO D ((dW D (v0) 8)) 9 then (if (v3) < (r2) then (Option.bind (zlp (fun q => fX6_isAs_s610 (v0) (v3) q.1 ln q.2.1 q.2.2) FU (0, z, D)) fun q5 => match q5 with | (z5, D5) => (Option.bind (fX5_course (v3) (3) z5) fun q6 => match q6 with | .inr _ => none | .inl r6 => (Option.bind (fX6_inCourse (v0) (v3) D5) fun r7 => (if (r6) = (r7) then (if inR ((v3 + 1)) then some (.inl ((v3 + 1), z5, D5)) else none) else none)))) else some (.inr (z, D))) else none)) else none)
set_option maxRecDepth 100000 in
theorem SX6_isAs_596 {ln : Nat} {D : DD} {z : ZZ} {v0 : Int} {v3 : Int} {Φ : xRes → xS → Prop} (hD : okD D) (hz : okz z) (rv0 : gdV D v0) (rv3 : inR v3) {p : (Int × ZZ × DD) ⊕ (ZZ × DD)} (h : fX6_isAs_s596 v0 v3 ln z D = some p) (k1 : ∀ (v3' : Int) (z' : ZZ) (D' : DD), p = .inl (v3', z', D') → okD D' → DLe D D' → okz z' → inR v3' → XD mX6_isAs 596 [some (rV (v0)), some (.ref 0), none, some (.int (iN (v3'))), none, none, none] [] ln D' z' Φ) (k2 : ∀ (z' : ZZ) (D' : DD), p = .inr (z', D') → okD D' → DLe D D' → okz z' → XD mX6_isAs 670 [some (rV (v0)), some (.ref 0), none, none, none, none, none] [] ln D' z' Φ) : XD mX6_isAs 596 [some (rV (v0)), some (.ref 0), none, some (.int (iN (v3))), none, none, none] [] ln D z Φ := by
  unfold fX6_isAs_s596 at h
  refine X_iload_n (pc' := 597) dX6_isAs_596 rfl rfl ?_
  refine E_aload_n (pc' := 598) dX6_isAs_597 rfl rfl ?_
  obtain ⟨g1, h⟩ := gs h
  refine E_getR (pc' := 601) dX6_isAs_598 rfl FX6_37_6 hD g1 rfl (j := 8) rfl ?_
  obtain ⟨r2, q2, h⟩ := bs h
  obtain ⟨g3, h⟩ := gs h
  refine E_callV [] (pc' := 604) dX6_isAs_601 rfl (xVc VX6_151) (by decide) ⟨dO_pos g3, dO_is hD g3 rfl⟩ rfl c1_n (cs rfl) (c1_i c1_n) (cs rfl) rfl hD (CJx4a65c_size_8abf5 hD (gd_slot (k := 8) hD g1 rfl (by decide)) q2) (fun a2 b2 f2 => ?_)
  refine X_icmp_ge dX6_isAs_604 (tgt := 670) rfl (pc' := 607) rfl ⟨rv3.1, rv3.2, f2.1, f2.2⟩ (fun c4 => ?_) (fun c4 => ?_)
  · have h := if_f (Int.not_lt.mpr c4) h
    cases h
    exact X_sub (sub_s (sub_s (sub_n (sub_n (sub_n (sub_n (sub_n sub_0))))))) (k2 _ _ rfl hD (DLe_refl _) hz)
  have h := if_t c4 h
  refine X_iconst (pc' := 608) dX6_isAs_607 rfl ?_
  refine X_istore (pc' := 610) dX6_isAs_608 rfl (cl rfl) (Or.inr rfl) (L' := [some (rV (v0)), some (.ref 0), none, some (.int (iN (v3))), some (.int (iN (0))), none, none]) rfl ?_
  obtain ⟨⟨z5, D5⟩, q5, h⟩ := bs h
  refine X_sub (sub_s (sub_s (sub_n (sub_s (sub_s (sub_n (sub_n sub_0))))))) (LX6_isAs_610 FU _ _ _ hD hz rv0 rv3 (inR_c (n := 0) rfl) q5 (fun z5₁ D5₁ hh hD5 le5 hz5 => ?_))
  cases hh
  refine X_aload_n (pc' := 649) dX6_isAs_648 rfl rfl ?_
  refine X_iload_n (pc' := 650) dX6_isAs_649 rfl rfl ?_
  refine X_iconst (pc' := 651) dX6_isAs_650 rfl ?_
  obtain ⟨r6 | E6, q6, h⟩ := bs h
  rotate_left
  · cases h
  refine E0_callM [.int (iN (v3)), .int (iN (3))] (pc' := 654) dX6_isAs_651 rfl VX6_222 (by decide) rfl rfl (c1_i (c1_i c1_n)) (cs rfl) c1_n (cs rfl) rfl hD5 (show X mX5_course 0 (xEnt [.ref 0, .int (iN (v3)), .int (iN (3))] (xL mX5_course)) [] (zmk (ln, D5) (dT D5).toNat z5) 0 0 (Qd (inR r6) (.inl (some (.int (iN r6)))) (zmk (ln, D5) (dT D5).toNat z5)) from CX5_course (hNm (ln := ln) hD5) hz5 rv3 (inR_c (n := 3) rfl) q6) (fun f6 => ?_)
  refine E_aload_n (pc' := 655) dX6_isAs_654 rfl rfl ?_
  refine X_iload_n (pc' := 656) dX6_isAs_655 rfl rfl ?_
  obtain ⟨r7, q7, h⟩ := bs h
  refine E_callV [.int (iN (v3))] (pc' := 659) dX6_isAs_656 rfl (xVc VX6_225) (by decide) ⟨dO_pos (dO_le le5 g1), dO_is hD5 (dO_le le5 g1) rfl⟩ rfl (c1_i c1_n) (cs rfl) (c1_i c1_n) (cs rfl) rfl hD5 (CX6_inCourse hD5 (gdV_le le5 rv0) rv3 q7) (fun a7 b7 f7 => ?_)
  refine X_icmp_eq dX6_isAs_659 (tgt := 664) rfl (pc' := 662) rfl ⟨f6.1, f6.2, f7.1, f7.2⟩ (fun c8 => ?_) (fun c8 => ?_)
  · have h := if_t c8 h
    refine X_iinc (pc' := 667) dX6_isAs_664 rfl rfl (Or.inr rfl) (L' := [some (rV (v0)), some (.ref 0), none, some (.int (iN (v3 + 1))), none, none, none]) rfl ?_
    refine X_goto dX6_isAs_667 (tgt := 596) rfl ?_
    obtain ⟨g9, h⟩ := gs h
    cases h
    exact X_sub (sub_s (sub_s (sub_n (sub_s (sub_n (sub_n (sub_n sub_0))))))) (k1 _ _ _ rfl hD5 le5 hz5 g9)
  have h := if_f c8 h
  cases h
theorem LX6_isAs_596 {ln : Nat} {v0 : Int} {Φ : xRes → xS → Prop} {r : ZZ × DD} : ∀ (n : Nat) (v3 : Int) (z : ZZ) (D : DD), okD D → okz z → gdV D v0 → inR v3 → zlp (fun q => fX6_isAs_s596 v0 q.1 ln q.2.1 q.2.2) n (v3, z, D) = some r → (∀ (z' : ZZ) (D' : DD), r = (z', D') → okD D' → DLe D D' → okz z' → XD mX6_isAs 670 [some (rV (v0)), some (.ref 0), none, none, none, none, none] [] ln D' z' Φ) → XD mX6_isAs 596 [some (rV (v0)), some (.ref 0), none, some (.int (iN (v3))), none, none, none] [] ln D z Φ := by
  intro n
  induction n with
  | zero => intro v3 z D hD hz rv0 rv3 h k2; cases h
  | succ n ih =>
    intro v3 z D hD hz rv0 rv3 h k2
    rcases zlp_s h with ⟨⟨v3', z', D'⟩, e, h'⟩ | e
    · exact SX6_isAs_596 hD hz rv0 rv3 e (fun v3₁ z₁ D₁ hh a b c f0 => by cases hh; exact ih _ _ _ a c (gdV_le b rv0) f0 h' (fun z9 D9 hh a' b' c' => k2 z9 D9 hh a' (DLe_trans b b') c')) (fun z9 D9 hh => by cases hh)
    · exact SX6_isAs_596 hD hz rv0 rv3 e (fun v3₁ z₁ D₁ hh => by cases hh) (fun z9 D9 hh a b c => by cases hh; exact k2 _ _ rfl a b c )
def fX6_isAs_s686 (v0 : Int) (v3 : Int) (v4 : Int) (ln : Nat) (z : ZZ) (D : DD) : Option ((Int × ZZ × DD) ⊕ (ZZ × DD)) := (if (v4) < (4) then (Option.bind (fX5_archived (v3) (v4) z) fun q2 => match q2 with | .inr _ => none | .inl r2 => (if dO D (v0) 7 then (Option.bind (fJx4a65c_get_915e3 ((dW D (v0) 9)) (v3) D) fun r4 => (if dO D ((dW D (v0) 9)) 9 then (if dO D (r4) 20 then (if (0 : Int) ≤ (v4) ∧ (v4 : Int) < ((dH D (r4)).2 : Int) then (if (r2) = ((dW D (r4) (v4))) then (if inR ((v4 + 1)) then some (.inl ((v4 + 1), z, D)) else none) else none) else none) else none) else none)) else none)) else some (.inr (z, D)))
set_option maxRecDepth 100000 in
theorem SX6_isAs_686 {ln : Nat} {D : DD} {z : ZZ} {v0 : Int} {v3 : Int} {v4 : Int} {Φ : xRes → xS → Prop} (hD : okD D) (hz : okz z) (rv0 : gdV D v0) (rv3 : inR v3) (rv4 : inR v4) {p : (Int × ZZ × DD) ⊕ (ZZ × DD)} (h : fX6_isAs_s686 v0 v3 v4 ln z D = some p) (k1 : ∀ (v4' : Int) (z' : ZZ) (D' : DD), p = .inl (v4', z', D') → okD D' → DLe D D' → okz z' → inR v4' → XD mX6_isAs 686 [some (rV (v0)), some (.ref 0), none, some (.int (iN (v3))), some (.int (iN (v4'))), none, none] [] ln D' z' Φ) (k2 : ∀ (z' : ZZ) (D' : DD), p = .inr (z', D') → okD D' → DLe D D' → okz z' → XD mX6_isAs 724 [some (rV (v0)), some (.ref 0), none, some (.int (iN (v3))), none, none, none] [] ln D' z' Φ) : XD mX6_isAs 686 [some (rV (v0)), some (.ref 0), none, some (.int (iN (v3))), some (.int (iN (v4))), none, none] [] ln D z Φ := by
  unfold fX6_isAs_s686 at h
  refine X_iload (pc' := 688) dX6_isAs_686 rfl rfl ?_
  refine X_iconst (pc' := 689) dX6_isAs_688 rfl ?_
  refine X_icmp_ge dX6_isAs_689 (tgt := 724) rfl (pc' := 692) rfl ⟨rv4.1, rv4.2, (inR_c (n := 4) rfl).1, (inR_c (n := 4) rfl).2⟩ (fun c1 => ?_) (fun c1 => ?_)
  · have h := if_f (Int.not_lt.mpr c1) h
    cases h
    exact X_sub (sub_s (sub_s (sub_n (sub_s (sub_n (sub_n (sub_n sub_0))))))) (k2 _ _ rfl hD (DLe_refl _) hz)
  have h := if_t c1 h
  refine X_aload_n (pc' := 693) dX6_isAs_692 rfl rfl ?_
  refine X_iload_n (pc' := 694) dX6_isAs_693 rfl rfl ?_
  refine X_iload (pc' := 696) dX6_isAs_694 rfl rfl ?_
  obtain ⟨r2 | E2, q2, h⟩ := bs h
  rotate_left
  · cases h
  refine E0_callM [.int (iN (v3)), .int (iN (v4))] (pc' := 699) dX6_isAs_696 rfl VX6_228 (by decide) rfl rfl (c1_i (c1_i c1_n)) (cs rfl) c1_n (cs rfl) rfl hD (show X mX5_archived 0 (xEnt [.ref 0, .int (iN (v3)), .int (iN (v4))] (xL mX5_archived)) [] (zmk (ln, D) (dT D).toNat z) 0 0 (Qd (inR r2) (.inl (some (.int (iN r2)))) (zmk (ln, D) (dT D).toNat z)) from CX5_archived (hNm (ln := ln) hD) hz rv3 rv4 q2) (fun f2 => ?_)
  refine E_aload_n (pc' := 700) dX6_isAs_699 rfl rfl ?_
  obtain ⟨g3, h⟩ := gs h
  refine E_getR (pc' := 703) dX6_isAs_700 rfl FX6_40_6 hD g3 rfl (j := 9) rfl ?_
  refine X_iload_n (pc' := 704) dX6_isAs_703 rfl rfl ?_
  obtain ⟨r4, q4, h⟩ := bs h
  obtain ⟨g5, h⟩ := gs h
  refine E_callV [.int (iN (v3))] (pc' := 707) dX6_isAs_704 rfl (xVc VX6_154) (by decide) ⟨dO_pos g5, dO_is hD g5 rfl⟩ rfl (c1_i c1_n) (cs rfl) (c1_i c1_n) (cs rfl) rfl hD (CJx4a65c_get_915e3 hD (gd_slot (k := 9) hD g3 rfl (by decide)) rv3 q4) (fun a4 b4 f4 => ?_)
  obtain ⟨g6, h⟩ := gs h
  refine E_cast (pc' := 710) dX6_isAs_707 rfl tq526 (dO_pos g6) (dO_isI hD g6) ?_
  refine X_iload (pc' := 712) dX6_isAs_710 rfl rfl ?_
  obtain ⟨g7, h⟩ := gs h
  refine E_iald (pc' := 713) dX6_isAs_712 rfl hD g6 g7 ?_
  refine X_icmp_eq dX6_isAs_713 (tgt := 718) rfl (pc' := 716) rfl ⟨f2.1, f2.2, (in_at hD g6 (Or.inl rfl) g7.1).1, (in_at hD g6 (Or.inl rfl) g7.1).2⟩ (fun c8 => ?_) (fun c8 => ?_)
  · have h := if_t c8 h
    refine X_iinc (pc' := 721) dX6_isAs_718 rfl rfl (Or.inr rfl) (L' := [some (rV (v0)), some (.ref 0), none, some (.int (iN (v3))), some (.int (iN (v4 + 1))), none, none]) rfl ?_
    refine X_goto dX6_isAs_721 (tgt := 686) rfl ?_
    obtain ⟨g9, h⟩ := gs h
    cases h
    exact X_sub (sub_s (sub_s (sub_n (sub_s (sub_s (sub_n (sub_n sub_0))))))) (k1 _ _ _ rfl hD (DLe_refl _) hz g9)
  have h := if_f c8 h
  cases h
theorem LX6_isAs_686 {ln : Nat} {v0 : Int} {v3 : Int} {Φ : xRes → xS → Prop} {r : ZZ × DD} : ∀ (n : Nat) (v4 : Int) (z : ZZ) (D : DD), okD D → okz z → gdV D v0 → inR v3 → inR v4 → zlp (fun q => fX6_isAs_s686 v0 v3 q.1 ln q.2.1 q.2.2) n (v4, z, D) = some r → (∀ (z' : ZZ) (D' : DD), r = (z', D') → okD D' → DLe D D' → okz z' → XD mX6_isAs 724 [some (rV (v0)), some (.ref 0), none, some (.int (iN (v3))), none, none, none] [] ln D' z' Φ) → XD mX6_isAs 686 [some (rV (v0)), some (.ref 0), none, some (.int (iN (v3))), some (.int (iN (v4))), none, none] [] ln D z Φ := by
  intro n
  induction n with
  | zero => intro v4 z D hD hz rv0 rv3 rv4 h k2; cases h
  | succ n ih =>
    intro v4 z D hD hz rv0 rv3 rv4 h k2
    rcases zlp_s h with ⟨⟨v4', z', D'⟩, e, h'⟩ | e
    · exact SX6_isAs_686 hD hz rv0 rv3 rv4 e (fun v4₁ z₁ D₁ hh a b c f0 => by cases hh; exact ih _ _ _ a c (gdV_le b rv0) rv3 f0 h' (fun z9 D9 hh a' b' c' => k2 z9 D9 hh a' (DLe_trans b b') c')) (fun z9 D9 hh => by cases hh)
    · exact SX6_isAs_686 hD hz rv0 rv3 rv4 e (fun v4₁ z₁ D₁ hh => by cases hh) (fun z9 D9 hh a b c => by cases hh; exact k2 _ _ rfl a b c )
def fX6_isAs_s672 (v0 : Int) (v3 : Int) (ln : Nat) (z : ZZ) (D : DD) : Option ((Int × ZZ × DD) ⊕ (ZZ × DD)) := (if dO D (v0) 7 then (Option.bind (fJx4a65c_size_8abf5 ((dW D (v0) 9)) D) fun r2 => (if dO D ((dW D (v0) 9)) 9 then (if (v3) < (r2) then (Option.bind (zlp (fun q => fX6_isAs_s686 (v0) (v3) q.1 ln q.2.1 q.2.2) FU (0, z, D)) fun q5 => match q5 with | (z5, D5) => (if inR ((v3 + 1)) then some (.inl ((v3 + 1), z5, D5)) else none)) else some (.inr (z, D))) else none)) else none)
set_option maxRecDepth 100000 in
theorem SX6_isAs_672 {ln : Nat} {D : DD} {z : ZZ} {v0 : Int} {v3 : Int} {Φ : xRes → xS → Prop} (hD : okD D) (hz : okz z) (rv0 : gdV D v0) (rv3 : inR v3) {p : (Int × ZZ × DD) ⊕ (ZZ × DD)} (h : fX6_isAs_s672 v0 v3 ln z D = some p) (k1 : ∀ (v3' : Int) (z' : ZZ) (D' : DD), p = .inl (v3', z', D') → okD D' → DLe D D' → okz z' → inR v3' → XD mX6_isAs 672 [some (rV (v0)), some (.ref 0), none, some (.int (iN (v3'))), none, none, none] [] ln D' z' Φ) (k2 : ∀ (z' : ZZ) (D' : DD), p = .inr (z', D') → okD D' → DLe D D' → okz z' → XD mX6_isAs 730 [none, none, none, none, none, none, none] [] ln D' z' Φ) : XD mX6_isAs 672 [some (rV (v0)), some (.ref 0), none, some (.int (iN (v3))), none, none, none] [] ln D z Φ := by
  unfold fX6_isAs_s672 at h
  refine X_iload_n (pc' := 673) dX6_isAs_672 rfl rfl ?_
  refine E_aload_n (pc' := 674) dX6_isAs_673 rfl rfl ?_
  obtain ⟨g1, h⟩ := gs h
  refine E_getR (pc' := 677) dX6_isAs_674 rfl FX6_40_6 hD g1 rfl (j := 9) rfl ?_
  obtain ⟨r2, q2, h⟩ := bs h
  obtain ⟨g3, h⟩ := gs h
  refine E_callV [] (pc' := 680) dX6_isAs_677 rfl (xVc VX6_151) (by decide) ⟨dO_pos g3, dO_is hD g3 rfl⟩ rfl c1_n (cs rfl) (c1_i c1_n) (cs rfl) rfl hD (CJx4a65c_size_8abf5 hD (gd_slot (k := 9) hD g1 rfl (by decide)) q2) (fun a2 b2 f2 => ?_)
  refine X_icmp_ge dX6_isAs_680 (tgt := 730) rfl (pc' := 683) rfl ⟨rv3.1, rv3.2, f2.1, f2.2⟩ (fun c4 => ?_) (fun c4 => ?_)
  · have h := if_f (Int.not_lt.mpr c4) h
    cases h
    exact X_sub (sub_n (sub_n (sub_n (sub_n (sub_n (sub_n (sub_n sub_0))))))) (k2 _ _ rfl hD (DLe_refl _) hz)
  have h := if_t c4 h
  refine X_iconst (pc' := 684) dX6_isAs_683 rfl ?_
  refine X_istore (pc' := 686) dX6_isAs_684 rfl (cl rfl) (Or.inr rfl) (L' := [some (rV (v0)), some (.ref 0), none, some (.int (iN (v3))), some (.int (iN (0))), none, none]) rfl ?_
  obtain ⟨⟨z5, D5⟩, q5, h⟩ := bs h
  refine X_sub (sub_s (sub_s (sub_n (sub_s (sub_s (sub_n (sub_n sub_0))))))) (LX6_isAs_686 FU _ _ _ hD hz rv0 rv3 (inR_c (n := 0) rfl) q5 (fun z5₁ D5₁ hh hD5 le5 hz5 => ?_))
  cases hh
  refine X_iinc (pc' := 727) dX6_isAs_724 rfl rfl (Or.inr rfl) (L' := [some (rV (v0)), some (.ref 0), none, some (.int (iN (v3 + 1))), none, none, none]) rfl ?_
  refine X_goto dX6_isAs_727 (tgt := 672) rfl ?_
  obtain ⟨g6, h⟩ := gs h
  cases h
  exact X_sub (sub_s (sub_s (sub_n (sub_s (sub_n (sub_n (sub_n sub_0))))))) (k1 _ _ _ rfl hD5 le5 hz5 g6)
theorem LX6_isAs_672 {ln : Nat} {v0 : Int} {Φ : xRes → xS → Prop} {r : ZZ × DD} : ∀ (n : Nat) (v3 : Int) (z : ZZ) (D : DD), okD D → okz z → gdV D v0 → inR v3 → zlp (fun q => fX6_isAs_s672 v0 q.1 ln q.2.1 q.2.2) n (v3, z, D) = some r → (∀ (z' : ZZ) (D' : DD), r = (z', D') → okD D' → DLe D D' → okz z' → XD mX6_isAs 730 [none, none, none, none, none, none, none] [] ln D' z' Φ) → XD mX6_isAs 672 [some (rV (v0)), some (.ref 0), none, some (.int (iN (v3))), none, none, none] [] ln D z Φ := by
  intro n
  induction n with
  | zero => intro v3 z D hD hz rv0 rv3 h k2; cases h
  | succ n ih =>
    intro v3 z D hD hz rv0 rv3 h k2
    rcases zlp_s h with ⟨⟨v3', z', D'⟩, e, h'⟩ | e
    · exact SX6_isAs_672 hD hz rv0 rv3 e (fun v3₁ z₁ D₁ hh a b c f0 => by cases hh; exact ih _ _ _ a c (gdV_le b rv0) f0 h' (fun z9 D9 hh a' b' c' => k2 z9 D9 hh a' (DLe_trans b b') c')) (fun z9 D9 hh => by cases hh)
    · exact SX6_isAs_672 hD hz rv0 rv3 e (fun v3₁ z₁ D₁ hh => by cases hh) (fun z9 D9 hh a b c => by cases hh; exact k2 _ _ rfl a b c )
def fX6_isAs (v0 : Int) (ln : Nat) (z : ZZ) (D : DD) : Option (Int × ZZ × DD) := (if ((0 : Int) ≤ (10) ∧ (10 : Int) ≤ 1000000) ∧ dT D < 600000 ∧ dS D + (10) ≤ 7200000 then (zl (dnew D 20 (10 : Int).toNat) fun D2 => (if dO D2 (v0) 7 then (Option.bind (fJx4a65c_size_8abf5 ((dW D2 (v0) 4)) D2) fun r4 => (if dO D2 ((dW D2 (v0) 4)) 9 then (if (0 : Int) ≤ (0) ∧ (0 : Int) < ((dH D2 ((dT D))).2 : Int) then (zl (dup D2 ((dT D)) (0) (r4)) fun D7 => (Option.bind (fJx4a65c_size_8abf5 ((dW D7 (v0) 5)) D7) fun r8 => (if dO D7 ((dW D7 (v0) 5)) 9 then (if (0 : Int) ≤ (1) ∧ (1 : Int) < ((dH D7 ((dT D))).2 : Int) then (zl (dup D7 ((dT D)) (1) (r8)) fun D11 => (Option.bind (fJx4a65c_size_8abf5 ((dW D11 (v0) 6)) D11) fun r12 => (if dO D11 ((dW D11 (v0) 6)) 9 then (if (0 : Int) ≤ (2) ∧ (2 : Int) < ((dH D11 ((dT D))).2 : Int) then (zl (dup D11 ((dT D)) (2) (r12)) fun D15 => (Option.bind (fJx4a65c_size_8abf5 ((dW D15 (v0) 7)) D15) fun r16 => (if dO D15 ((dW D15 (v0) 7)) 9 then (if (0 : Int) ≤ (3) ∧ (3 : Int) < ((dH D15 ((dT D))).2 : Int) then (zl (dup D15 ((dT D)) (3) (r16)) fun D19 => (Option.bind (fJx4a65c_size_8abf5 ((dW D19 (v0) 8)) D19) fun r20 => (if dO D19 ((dW D19 (v0) 8)) 9 then (if (0 : Int) ≤ (4) ∧ (4 : Int) < ((dH D19 ((dT D))).2 : Int) then (zl (dup D19 ((dT D)) (4) (r20)) fun D23 => (Option.bind (fJx4a65c_size_8abf5 ((dW D23 (v0) 9)) D23) fun r24 => (if dO D23 ((dW D23 (v0) 9)) 9 then (if (0 : Int) ≤ (5) ∧ (5 : Int) < ((dH D23 ((dT D))).2 : Int) then (zl (dup D23 ((dT D)) (5) (r24)) fun D27 => (if (0 : Int) ≤ (6) ∧ (6 : Int) < ((dH D27 ((dT D))).2 : Int) then (zl (dup D27 ((dT D)) (6) ((dW D27 (v0) 3))) fun D29 => (if (0 : Int) ≤ (7) ∧ (7 : Int) < ((dH D29 ((dT D))).2 : Int) then (zl (dup D29 ((dT D)) (7) ((dW D29 (v0) 0))) fun D31 => (if (0 : Int) ≤ (8) ∧ (8 : Int) < ((dH D31 ((dT D))).2 : Int) then (zl (dup D31 ((dT D)) (8) ((dW D31 (v0) 1))) fun D33 => (if (0 : Int) ≤ (9) ∧ (9 : Int) < ((dH D33 ((dT D))).2 : Int) then (zl (dup D33 ((dT D)) (9) ((dW D33 (v0) 2))) fun D35 => (Option.bind (zlp (fun q => fX6_isAs_s99 (v0) ((dT D)) q.1 ln q.2.1 q.2.2) FU (0, z, D35)) fun q36 => match q36 with | (z36, D36) => (Option.bind (zlp (fun q => fX6_isAs_s126 (v0) q.1 ln q.2.1 q.2.2) FU (0, z36, D36)) fun q37 => match q37 with | (z37, D37) => (Option.bind (zlp (fun q => fX6_isAs_s224 (v0) q.1 ln q.2.1 q.2.2) FU (0, z37, D37)) fun q38 => match q38 with | (z38, D38) => (Option.bind (zlp (fun q => fX6_isAs_s383 (v0) q.1 ln q.2.1 q.2.2) FU (0, z38, D38)) fun q39 => match q39 with | (z39, D39) => (Option.bind (zlp (fun q => fX6_isAs_s535 (v0) q.1 ln q.2.1 q.2.2) FU (0, z39, D39)) fun q40 => match q40 with | (z40, D40) => (Option.bind (zlp (fun q => fX6_isAs_s596 (v0) q.1 ln q.2.1 q.2.2) FU (0, z40, D40)) fun q41 => match q41 with | (z41, D41) => (Option.bind (zlp (fun q => fX6_isAs_s672 (v0) q.1 ln q.2.1 q.2.2) FU (0, z41, D41)) fun q42 => match q42 with | (z42, D42) => some (1, z42, D42))))))))) else none)) else none)) else none)) else none)) else none) else none))) else none) else none))) else none) else none))) else none) else none))) else none) else none))) else none) else none)) else none)) else none)
set_option maxRecDepth 100000 in
theorem CX6_isAs {ln : Nat} {D : DD} {z : ZZ} {v0 : Int} (hD : okD D) (hz : okz z) (rv0 : gdV D v0) {p : Int × ZZ × DD} (h : fX6_isAs v0 ln z D = some p) : XD mX6_isAs 0 (xEnt [rV (v0), .ref 0] (xL mX6_isAs)) [] ln D z (Qd (FdD D p.2.2 (okz p.2.1 ∧ (p.1 = 0 ∨ p.1 = 1))) (.inl (some (.int (iN p.1)))) (sD ln p.2.2 p.2.1)) := by
  have k : K_zb (Qd (FdD D p.2.2 (okz p.2.1 ∧ (p.1 = 0 ∨ p.1 = 1))) (.inl (some (.int (iN p.1)))) (sD ln p.2.2 p.2.1)) ln D p := fun a b c d => ⟨⟨a, b, c, d⟩, rfl, rfl⟩
  unfold fX6_isAs at h
  refine E_ent (c1_r (c1_f rfl c1_n)) (M := [some (rV (v0)), some (.ref 0), none, none, none, none, none]) rfl ?_
  refine X_bipush (pc' := 2) dX6_isAs_0 rfl (by decide) ?_
  obtain ⟨g1, h⟩ := gs h
  refine E_newI (pc' := 4) dX6_isAs_2 rfl tq75 hD g1 ?_
  obtain ⟨D2, e2, f2, h⟩ := zl_some (P := fun q => okD q ∧ DLe D q ∧ (dO q (dT D) 20 ∧ ((dH q (dT D)).2 : Int) = (10))) h ⟨okD_dnew hD (by decide) (by omega) g1.2.1 (by omega), DLe_dnew _ (by decide), dO_dnew hD, dH_dnew g1.1.1⟩
  rw [e2]
  refine X_dup (pc' := 5) dX6_isAs_4 rfl (rV_cat _) ?_
  refine X_iconst (pc' := 6) dX6_isAs_5 rfl ?_
  refine E_aload_n (pc' := 7) dX6_isAs_6 rfl rfl ?_
  obtain ⟨g3, h⟩ := gs h
  refine E_getR (pc' := 10) dX6_isAs_7 rfl FX6_24_6 f2.1 g3 rfl (j := 4) rfl ?_
  obtain ⟨r4, q4, h⟩ := bs h
  obtain ⟨g5, h⟩ := gs h
  refine E_callV [] (pc' := 13) dX6_isAs_10 rfl (xVc VX6_151) (by decide) ⟨dO_pos g5, dO_is f2.1 g5 rfl⟩ rfl c1_n (cs rfl) (c1_i (c1_r (c1_r c1_n))) (cs rfl) rfl f2.1 (CJx4a65c_size_8abf5 f2.1 (gd_slot (k := 4) f2.1 g3 rfl (by decide)) q4) (fun a4 b4 f4 => ?_)
  obtain ⟨g6, h⟩ := gs h
  refine E_iast (pc' := 14) dX6_isAs_13 rfl f2.1 f2.2.2.1 g6 ?_
  obtain ⟨D7, e7, f7, h⟩ := zl_some (P := fun q => okD q ∧ DLe D2 q) h ⟨okD_dupJ f2.1 g6.1 (okS_at20 f2.2.2.1 f4), DLe_dup _ _ _ _⟩
  rw [e7]
  refine X_dup (pc' := 15) dX6_isAs_14 rfl (rV_cat _) ?_
  refine X_iconst (pc' := 16) dX6_isAs_15 rfl ?_
  refine E_aload_n (pc' := 17) dX6_isAs_16 rfl rfl ?_
  refine E_getR (pc' := 20) dX6_isAs_17 rfl FX6_28_6 f7.1 (dO_le f7.2 g3) rfl (j := 5) rfl ?_
  obtain ⟨r8, q8, h⟩ := bs h
  obtain ⟨g9, h⟩ := gs h
  refine E_callV [] (pc' := 23) dX6_isAs_20 rfl (xVc VX6_151) (by decide) ⟨dO_pos g9, dO_is f7.1 g9 rfl⟩ rfl c1_n (cs rfl) (c1_i (c1_r (c1_r c1_n))) (cs rfl) rfl f7.1 (CJx4a65c_size_8abf5 f7.1 (gd_slot (k := 5) f7.1 (dO_le f7.2 g3) rfl (by decide)) q8) (fun a8 b8 f8 => ?_)
  obtain ⟨g10, h⟩ := gs h
  refine E_iast (pc' := 24) dX6_isAs_23 rfl f7.1 (dO_le f7.2 f2.2.2.1) g10 ?_
  obtain ⟨D11, e11, f11, h⟩ := zl_some (P := fun q => okD q ∧ DLe D7 q) h ⟨okD_dupJ f7.1 g10.1 (okS_at20 (dO_le f7.2 f2.2.2.1) f8), DLe_dup _ _ _ _⟩
  rw [e11]
  refine X_dup (pc' := 25) dX6_isAs_24 rfl (rV_cat _) ?_
  refine X_iconst (pc' := 26) dX6_isAs_25 rfl ?_
  refine E_aload_n (pc' := 27) dX6_isAs_26 rfl rfl ?_
  refine E_getR (pc' := 30) dX6_isAs_27 rfl FX6_31_6 f11.1 (dO_le f11.2 (dO_le f7.2 g3)) rfl (j := 6) rfl ?_
  obtain ⟨r12, q12, h⟩ := bs h
  obtain ⟨g13, h⟩ := gs h
  refine E_callV [] (pc' := 33) dX6_isAs_30 rfl (xVc VX6_151) (by decide) ⟨dO_pos g13, dO_is f11.1 g13 rfl⟩ rfl c1_n (cs rfl) (c1_i (c1_r (c1_r c1_n))) (cs rfl) rfl f11.1 (CJx4a65c_size_8abf5 f11.1 (gd_slot (k := 6) f11.1 (dO_le f11.2 (dO_le f7.2 g3)) rfl (by decide)) q12) (fun a12 b12 f12 => ?_)
  obtain ⟨g14, h⟩ := gs h
  refine E_iast (pc' := 34) dX6_isAs_33 rfl f11.1 (dO_le f11.2 (dO_le f7.2 f2.2.2.1)) g14 ?_
  obtain ⟨D15, e15, f15, h⟩ := zl_some (P := fun q => okD q ∧ DLe D11 q) h ⟨okD_dupJ f11.1 g14.1 (okS_at20 (dO_le f11.2 (dO_le f7.2 f2.2.2.1)) f12), DLe_dup _ _ _ _⟩
  rw [e15]
  refine X_dup (pc' := 35) dX6_isAs_34 rfl (rV_cat _) ?_
  refine X_iconst (pc' := 36) dX6_isAs_35 rfl ?_
  refine E_aload_n (pc' := 37) dX6_isAs_36 rfl rfl ?_
  refine E_getR (pc' := 40) dX6_isAs_37 rfl FX6_34_6 f15.1 (dO_le f15.2 (dO_le f11.2 (dO_le f7.2 g3))) rfl (j := 7) rfl ?_
  obtain ⟨r16, q16, h⟩ := bs h
  obtain ⟨g17, h⟩ := gs h
  refine E_callV [] (pc' := 43) dX6_isAs_40 rfl (xVc VX6_151) (by decide) ⟨dO_pos g17, dO_is f15.1 g17 rfl⟩ rfl c1_n (cs rfl) (c1_i (c1_r (c1_r c1_n))) (cs rfl) rfl f15.1 (CJx4a65c_size_8abf5 f15.1 (gd_slot (k := 7) f15.1 (dO_le f15.2 (dO_le f11.2 (dO_le f7.2 g3))) rfl (by decide)) q16) (fun a16 b16 f16 => ?_)
  obtain ⟨g18, h⟩ := gs h
  refine E_iast (pc' := 44) dX6_isAs_43 rfl f15.1 (dO_le f15.2 (dO_le f11.2 (dO_le f7.2 f2.2.2.1))) g18 ?_
  obtain ⟨D19, e19, f19, h⟩ := zl_some (P := fun q => okD q ∧ DLe D15 q) h ⟨okD_dupJ f15.1 g18.1 (okS_at20 (dO_le f15.2 (dO_le f11.2 (dO_le f7.2 f2.2.2.1))) f16), DLe_dup _ _ _ _⟩
  rw [e19]
  refine X_dup (pc' := 45) dX6_isAs_44 rfl (rV_cat _) ?_
  refine X_iconst (pc' := 46) dX6_isAs_45 rfl ?_
  refine E_aload_n (pc' := 47) dX6_isAs_46 rfl rfl ?_
  refine E_getR (pc' := 50) dX6_isAs_47 rfl FX6_37_6 f19.1 (dO_le f19.2 (dO_le f15.2 (dO_le f11.2 (dO_le f7.2 g3)))) rfl (j := 8) rfl ?_
  obtain ⟨r20, q20, h⟩ := bs h
  obtain ⟨g21, h⟩ := gs h
  refine E_callV [] (pc' := 53) dX6_isAs_50 rfl (xVc VX6_151) (by decide) ⟨dO_pos g21, dO_is f19.1 g21 rfl⟩ rfl c1_n (cs rfl) (c1_i (c1_r (c1_r c1_n))) (cs rfl) rfl f19.1 (CJx4a65c_size_8abf5 f19.1 (gd_slot (k := 8) f19.1 (dO_le f19.2 (dO_le f15.2 (dO_le f11.2 (dO_le f7.2 g3)))) rfl (by decide)) q20) (fun a20 b20 f20 => ?_)
  obtain ⟨g22, h⟩ := gs h
  refine E_iast (pc' := 54) dX6_isAs_53 rfl f19.1 (dO_le f19.2 (dO_le f15.2 (dO_le f11.2 (dO_le f7.2 f2.2.2.1)))) g22 ?_
  obtain ⟨D23, e23, f23, h⟩ := zl_some (P := fun q => okD q ∧ DLe D19 q) h ⟨okD_dupJ f19.1 g22.1 (okS_at20 (dO_le f19.2 (dO_le f15.2 (dO_le f11.2 (dO_le f7.2 f2.2.2.1)))) f20), DLe_dup _ _ _ _⟩
  rw [e23]
  refine X_dup (pc' := 55) dX6_isAs_54 rfl (rV_cat _) ?_
  refine X_iconst (pc' := 56) dX6_isAs_55 rfl ?_
  refine E_aload_n (pc' := 57) dX6_isAs_56 rfl rfl ?_
  refine E_getR (pc' := 60) dX6_isAs_57 rfl FX6_40_6 f23.1 (dO_le f23.2 (dO_le f19.2 (dO_le f15.2 (dO_le f11.2 (dO_le f7.2 g3))))) rfl (j := 9) rfl ?_
  obtain ⟨r24, q24, h⟩ := bs h
  obtain ⟨g25, h⟩ := gs h
  refine E_callV [] (pc' := 63) dX6_isAs_60 rfl (xVc VX6_151) (by decide) ⟨dO_pos g25, dO_is f23.1 g25 rfl⟩ rfl c1_n (cs rfl) (c1_i (c1_r (c1_r c1_n))) (cs rfl) rfl f23.1 (CJx4a65c_size_8abf5 f23.1 (gd_slot (k := 9) f23.1 (dO_le f23.2 (dO_le f19.2 (dO_le f15.2 (dO_le f11.2 (dO_le f7.2 g3))))) rfl (by decide)) q24) (fun a24 b24 f24 => ?_)
  obtain ⟨g26, h⟩ := gs h
  refine E_iast (pc' := 64) dX6_isAs_63 rfl f23.1 (dO_le f23.2 (dO_le f19.2 (dO_le f15.2 (dO_le f11.2 (dO_le f7.2 f2.2.2.1))))) g26 ?_
  obtain ⟨D27, e27, f27, h⟩ := zl_some (P := fun q => okD q ∧ DLe D23 q) h ⟨okD_dupJ f23.1 g26.1 (okS_at20 (dO_le f23.2 (dO_le f19.2 (dO_le f15.2 (dO_le f11.2 (dO_le f7.2 f2.2.2.1))))) f24), DLe_dup _ _ _ _⟩
  rw [e27]
  refine X_dup (pc' := 65) dX6_isAs_64 rfl (rV_cat _) ?_
  refine X_bipush (pc' := 67) dX6_isAs_65 rfl (by decide) ?_
  refine E_aload_n (pc' := 68) dX6_isAs_67 rfl rfl ?_
  refine E_getI (pc' := 71) dX6_isAs_68 rfl FX6_43_6 f27.1 (dO_le f27.2 (dO_le f23.2 (dO_le f19.2 (dO_le f15.2 (dO_le f11.2 (dO_le f7.2 g3)))))) rfl (j := 3) rfl ?_
  obtain ⟨g28, h⟩ := gs h
  refine E_iast (pc' := 72) dX6_isAs_71 rfl f27.1 (dO_le f27.2 (dO_le f23.2 (dO_le f19.2 (dO_le f15.2 (dO_le f11.2 (dO_le f7.2 f2.2.2.1)))))) g28 ?_
  obtain ⟨D29, e29, f29, h⟩ := zl_some (P := fun q => okD q ∧ DLe D27 q) h ⟨okD_dupJ f27.1 g28.1 (okS_at20 (dO_le f27.2 (dO_le f23.2 (dO_le f19.2 (dO_le f15.2 (dO_le f11.2 (dO_le f7.2 f2.2.2.1)))))) (in_slot (k := 3) f27.1 (dO_le f27.2 (dO_le f23.2 (dO_le f19.2 (dO_le f15.2 (dO_le f11.2 (dO_le f7.2 g3)))))) rfl (by decide))), DLe_dup _ _ _ _⟩
  rw [e29]
  refine X_dup (pc' := 73) dX6_isAs_72 rfl (rV_cat _) ?_
  refine X_bipush (pc' := 75) dX6_isAs_73 rfl (by decide) ?_
  refine E_aload_n (pc' := 76) dX6_isAs_75 rfl rfl ?_
  refine E_getI (pc' := 79) dX6_isAs_76 rfl FX6_9_6 f29.1 (dO_le f29.2 (dO_le f27.2 (dO_le f23.2 (dO_le f19.2 (dO_le f15.2 (dO_le f11.2 (dO_le f7.2 g3))))))) rfl (j := 0) rfl ?_
  obtain ⟨g30, h⟩ := gs h
  refine E_iast (pc' := 80) dX6_isAs_79 rfl f29.1 (dO_le f29.2 (dO_le f27.2 (dO_le f23.2 (dO_le f19.2 (dO_le f15.2 (dO_le f11.2 (dO_le f7.2 f2.2.2.1))))))) g30 ?_
  obtain ⟨D31, e31, f31, h⟩ := zl_some (P := fun q => okD q ∧ DLe D29 q) h ⟨okD_dupJ f29.1 g30.1 (okS_at20 (dO_le f29.2 (dO_le f27.2 (dO_le f23.2 (dO_le f19.2 (dO_le f15.2 (dO_le f11.2 (dO_le f7.2 f2.2.2.1))))))) (in_slot (k := 0) f29.1 (dO_le f29.2 (dO_le f27.2 (dO_le f23.2 (dO_le f19.2 (dO_le f15.2 (dO_le f11.2 (dO_le f7.2 g3))))))) rfl (by decide))), DLe_dup _ _ _ _⟩
  rw [e31]
  refine X_dup (pc' := 81) dX6_isAs_80 rfl (rV_cat _) ?_
  refine X_bipush (pc' := 83) dX6_isAs_81 rfl (by decide) ?_
  refine E_aload_n (pc' := 84) dX6_isAs_83 rfl rfl ?_
  refine E_getI (pc' := 87) dX6_isAs_84 rfl FX6_15_6 f31.1 (dO_le f31.2 (dO_le f29.2 (dO_le f27.2 (dO_le f23.2 (dO_le f19.2 (dO_le f15.2 (dO_le f11.2 (dO_le f7.2 g3)))))))) rfl (j := 1) rfl ?_
  obtain ⟨g32, h⟩ := gs h
  refine E_iast (pc' := 88) dX6_isAs_87 rfl f31.1 (dO_le f31.2 (dO_le f29.2 (dO_le f27.2 (dO_le f23.2 (dO_le f19.2 (dO_le f15.2 (dO_le f11.2 (dO_le f7.2 f2.2.2.1)))))))) g32 ?_
  obtain ⟨D33, e33, f33, h⟩ := zl_some (P := fun q => okD q ∧ DLe D31 q) h ⟨okD_dupJ f31.1 g32.1 (okS_at20 (dO_le f31.2 (dO_le f29.2 (dO_le f27.2 (dO_le f23.2 (dO_le f19.2 (dO_le f15.2 (dO_le f11.2 (dO_le f7.2 f2.2.2.1)))))))) (in_slot (k := 1) f31.1 (dO_le f31.2 (dO_le f29.2 (dO_le f27.2 (dO_le f23.2 (dO_le f19.2 (dO_le f15.2 (dO_le f11.2 (dO_le f7.2 g3)))))))) rfl (by decide))), DLe_dup _ _ _ _⟩
  rw [e33]
  refine X_dup (pc' := 89) dX6_isAs_88 rfl (rV_cat _) ?_
  refine X_bipush (pc' := 91) dX6_isAs_89 rfl (by decide) ?_
  refine E_aload_n (pc' := 92) dX6_isAs_91 rfl rfl ?_
  refine E_getI (pc' := 95) dX6_isAs_92 rfl FX6_18_6 f33.1 (dO_le f33.2 (dO_le f31.2 (dO_le f29.2 (dO_le f27.2 (dO_le f23.2 (dO_le f19.2 (dO_le f15.2 (dO_le f11.2 (dO_le f7.2 g3))))))))) rfl (j := 2) rfl ?_
  obtain ⟨g34, h⟩ := gs h
  refine E_iast (pc' := 96) dX6_isAs_95 rfl f33.1 (dO_le f33.2 (dO_le f31.2 (dO_le f29.2 (dO_le f27.2 (dO_le f23.2 (dO_le f19.2 (dO_le f15.2 (dO_le f11.2 (dO_le f7.2 f2.2.2.1))))))))) g34 ?_
  obtain ⟨D35, e35, f35, h⟩ := zl_some (P := fun q => okD q ∧ DLe D33 q) h ⟨okD_dupJ f33.1 g34.1 (okS_at20 (dO_le f33.2 (dO_le f31.2 (dO_le f29.2 (dO_le f27.2 (dO_le f23.2 (dO_le f19.2 (dO_le f15.2 (dO_le f11.2 (dO_le f7.2 f2.2.2.1))))))))) (in_slot (k := 2) f33.1 (dO_le f33.2 (dO_le f31.2 (dO_le f29.2 (dO_le f27.2 (dO_le f23.2 (dO_le f19.2 (dO_le f15.2 (dO_le f11.2 (dO_le f7.2 g3))))))))) rfl (by decide))), DLe_dup _ _ _ _⟩
  rw [e35]
  refine E_astore_n (pc' := 97) dX6_isAs_96 rfl (cl rfl) (Or.inr rfl) (L' := [some (rV (v0)), some (.ref 0), some (rV ((dT D))), none, none, none, none]) rfl ?_
  refine X_iconst (pc' := 98) dX6_isAs_97 rfl ?_
  refine X_istore_n (pc' := 99) dX6_isAs_98 rfl (cl rfl) (Or.inr (xC1_R _)) (L' := [some (rV (v0)), some (.ref 0), some (rV ((dT D))), some (.int (iN (0))), none, none, none]) rfl ?_
  obtain ⟨⟨z36, D36⟩, q36, h⟩ := bs h
  refine X_sub (sub_s (sub_s (sub_s (sub_s (sub_n (sub_n (sub_n sub_0))))))) (LX6_isAs_99 FU _ _ _ f35.1 hz (gdV_le f35.2 (gdV_le f33.2 (gdV_le f31.2 (gdV_le f29.2 (gdV_le f27.2 (gdV_le f23.2 (gdV_le f19.2 (gdV_le f15.2 (gdV_le f11.2 (gdV_le f7.2 (gdV_le f2.2.1 rv0))))))))))) (gdV_le f35.2 (gdV_le f33.2 (gdV_le f31.2 (gdV_le f29.2 (gdV_le f27.2 (gdV_le f23.2 (gdV_le f19.2 (gdV_le f15.2 (gdV_le f11.2 (gdV_le f7.2 (dO_gd f2.2.2.1 (by decide)))))))))))) (inR_c (n := 0) rfl) q36 (fun z36₁ D36₁ hh hD36 le36 hz36 => ?_))
  cases hh
  refine X_iconst (pc' := 125) dX6_isAs_124 rfl ?_
  refine X_istore_n (pc' := 126) dX6_isAs_125 rfl (cl rfl) (Or.inr rfl) (L' := [some (rV (v0)), some (.ref 0), none, some (.int (iN (0))), none, none, none]) rfl ?_
  obtain ⟨⟨z37, D37⟩, q37, h⟩ := bs h
  refine X_sub (sub_s (sub_s (sub_n (sub_s (sub_n (sub_n (sub_n sub_0))))))) (LX6_isAs_126 FU _ _ _ hD36 hz36 (gdV_le le36 (gdV_le f35.2 (gdV_le f33.2 (gdV_le f31.2 (gdV_le f29.2 (gdV_le f27.2 (gdV_le f23.2 (gdV_le f19.2 (gdV_le f15.2 (gdV_le f11.2 (gdV_le f7.2 (gdV_le f2.2.1 rv0)))))))))))) (inR_c (n := 0) rfl) q37 (fun z37₁ D37₁ hh hD37 le37 hz37 => ?_))
  cases hh
  refine X_iconst (pc' := 223) dX6_isAs_222 rfl ?_
  refine X_istore_n (pc' := 224) dX6_isAs_223 rfl (cl rfl) (Or.inr rfl) (L' := [some (rV (v0)), some (.ref 0), none, some (.int (iN (0))), none, none, none]) rfl ?_
  obtain ⟨⟨z38, D38⟩, q38, h⟩ := bs h
  refine X_sub (sub_s (sub_s (sub_n (sub_s (sub_n (sub_n (sub_n sub_0))))))) (LX6_isAs_224 FU _ _ _ hD37 hz37 (gdV_le le37 (gdV_le le36 (gdV_le f35.2 (gdV_le f33.2 (gdV_le f31.2 (gdV_le f29.2 (gdV_le f27.2 (gdV_le f23.2 (gdV_le f19.2 (gdV_le f15.2 (gdV_le f11.2 (gdV_le f7.2 (gdV_le f2.2.1 rv0))))))))))))) (inR_c (n := 0) rfl) q38 (fun z38₁ D38₁ hh hD38 le38 hz38 => ?_))
  cases hh
  refine X_iconst (pc' := 382) dX6_isAs_381 rfl ?_
  refine X_istore_n (pc' := 383) dX6_isAs_382 rfl (cl rfl) (Or.inr rfl) (L' := [some (rV (v0)), some (.ref 0), none, some (.int (iN (0))), none, none, none]) rfl ?_
  obtain ⟨⟨z39, D39⟩, q39, h⟩ := bs h
  refine X_sub (sub_s (sub_s (sub_n (sub_s (sub_n (sub_n (sub_n sub_0))))))) (LX6_isAs_383 FU _ _ _ hD38 hz38 (gdV_le le38 (gdV_le le37 (gdV_le le36 (gdV_le f35.2 (gdV_le f33.2 (gdV_le f31.2 (gdV_le f29.2 (gdV_le f27.2 (gdV_le f23.2 (gdV_le f19.2 (gdV_le f15.2 (gdV_le f11.2 (gdV_le f7.2 (gdV_le f2.2.1 rv0)))))))))))))) (inR_c (n := 0) rfl) q39 (fun z39₁ D39₁ hh hD39 le39 hz39 => ?_))
  cases hh
  refine X_iconst (pc' := 534) dX6_isAs_533 rfl ?_
  refine X_istore_n (pc' := 535) dX6_isAs_534 rfl (cl rfl) (Or.inr rfl) (L' := [some (rV (v0)), some (.ref 0), none, some (.int (iN (0))), none, none, none]) rfl ?_
  obtain ⟨⟨z40, D40⟩, q40, h⟩ := bs h
  refine X_sub (sub_s (sub_s (sub_n (sub_s (sub_n (sub_n (sub_n sub_0))))))) (LX6_isAs_535 FU _ _ _ hD39 hz39 (gdV_le le39 (gdV_le le38 (gdV_le le37 (gdV_le le36 (gdV_le f35.2 (gdV_le f33.2 (gdV_le f31.2 (gdV_le f29.2 (gdV_le f27.2 (gdV_le f23.2 (gdV_le f19.2 (gdV_le f15.2 (gdV_le f11.2 (gdV_le f7.2 (gdV_le f2.2.1 rv0))))))))))))))) (inR_c (n := 0) rfl) q40 (fun z40₁ D40₁ hh hD40 le40 hz40 => ?_))
  cases hh
  refine X_iconst (pc' := 595) dX6_isAs_594 rfl ?_
  refine X_istore_n (pc' := 596) dX6_isAs_595 rfl (cl rfl) (Or.inr rfl) (L' := [some (rV (v0)), some (.ref 0), none, some (.int (iN (0))), none, none, none]) rfl ?_
  obtain ⟨⟨z41, D41⟩, q41, h⟩ := bs h
  refine X_sub (sub_s (sub_s (sub_n (sub_s (sub_n (sub_n (sub_n sub_0))))))) (LX6_isAs_596 FU _ _ _ hD40 hz40 (gdV_le le40 (gdV_le le39 (gdV_le le38 (gdV_le le37 (gdV_le le36 (gdV_le f35.2 (gdV_le f33.2 (gdV_le f31.2 (gdV_le f29.2 (gdV_le f27.2 (gdV_le f23.2 (gdV_le f19.2 (gdV_le f15.2 (gdV_le f11.2 (gdV_le f7.2 (gdV_le f2.2.1 rv0)))))))))))))))) (inR_c (n := 0) rfl) q41 (fun z41₁ D41₁ hh hD41 le41 hz41 => ?_))
  cases hh
  refine X_iconst (pc' := 671) dX6_isAs_670 rfl ?_
  refine X_istore_n (pc' := 672) dX6_isAs_671 rfl (cl rfl) (Or.inr rfl) (L' := [some (rV (v0)), some (.ref 0), none, some (.int (iN (0))), none, none, none]) rfl ?_
  obtain ⟨⟨z42, D42⟩, q42, h⟩ := bs h
  refine X_sub (sub_s (sub_s (sub_n (sub_s (sub_n (sub_n (sub_n sub_0))))))) (LX6_isAs_672 FU _ _ _ hD41 hz41 (gdV_le le41 (gdV_le le40 (gdV_le le39 (gdV_le le38 (gdV_le le37 (gdV_le le36 (gdV_le f35.2 (gdV_le f33.2 (gdV_le f31.2 (gdV_le f29.2 (gdV_le f27.2 (gdV_le f23.2 (gdV_le f19.2 (gdV_le f15.2 (gdV_le f11.2 (gdV_le f7.2 (gdV_le f2.2.1 rv0))))))))))))))))) (inR_c (n := 0) rfl) q42 (fun z42₁ D42₁ hh hD42 le42 hz42 => ?_))
  cases hh
  refine X_iconst (pc' := 731) dX6_isAs_730 rfl ?_
  cases h
  exact X_zret dX6_isAs_731 rfl (Or.inr rfl) (k hD42 (DLe_trans (DLe_trans (DLe_trans (DLe_trans (DLe_trans (DLe_trans (DLe_trans (DLe_trans (DLe_trans (DLe_trans (DLe_trans (DLe_trans (DLe_trans (DLe_trans (DLe_trans (DLe_trans (DLe_trans f2.2.1 f7.2) f11.2) f15.2) f19.2) f23.2) f27.2) f29.2) f31.2) f33.2) f35.2) le36) le37) le38) le39) le40) le41) le42) hz42 (Or.inr rfl))

def fX6_checksNeeded_s73 (v1 : Int) (v2 : Int) (v3 : Int) (v4 : Int) (z : ZZ) : Option ((Int × ZZ) ⊕ (ZZ)) := (if (v4) < ((z 154 (470))) then (Option.bind (fX6_lapse (v4) z) fun r2 => (if (0 : Int) ≤ (v4) ∧ (v4) < (15 : Int) then (zl (zup z 158 (v4) (r2)) fun z4 => (if inR ((v4 + 1)) then some (.inl ((v4 + 1), z4)) else none)) else none)) else some (.inr z))
set_option maxRecDepth 100000 in
theorem SX6_checksNeeded_73 {ln N : Nat} {z : ZZ} {v1 : Int} {v2 : Int} {v3 : Int} {v4 : Int} {c9 s9 : Nat} {Φ : xRes → xS → Prop} (hN : 159 ≤ N ∧ N < 999999) (hz : okz z) (rv1 : inR v1) (rv2 : inR v2) (rv3 : inR v3) (rv4 : inR v4) {p : (Int × ZZ) ⊕ (ZZ)} (h : fX6_checksNeeded_s73 v1 v2 v3 v4 z = some p) (k1 : ∀ (v4' : Int) (z' : ZZ), p = .inl (v4', z') → inR v4' → okz z' → X mX6_checksNeeded 73 [some (.ref (151)), some (.int (iN (v1))), some (.int (iN (v2))), some (.int (iN (v3))), some (.int (iN (v4'))), none] [] (zmk ln N z') c9 s9 Φ) (k2 : ∀ (z' : ZZ), p = .inr z' → okz z' → X mX6_checksNeeded 105 [some (.ref (151)), some (.int (iN (v1))), some (.int (iN (v2))), some (.int (iN (v3))), none, none] [] (zmk ln N z') c9 s9 Φ) : X mX6_checksNeeded 73 [some (.ref (151)), some (.int (iN (v1))), some (.int (iN (v2))), some (.int (iN (v3))), some (.int (iN (v4))), none] [] (zmk ln N z) c9 s9 Φ := by
  unfold fX6_checksNeeded_s73 at h
  refine X_iload (pc' := 75) dX6_checksNeeded_73 rfl rfl ?_
  refine X_aload_n (pc' := 76) dX6_checksNeeded_75 rfl rfl ?_
  refine Y_get (pc' := 79) dX6_checksNeeded_76 rfl FX6_16 (zlN hN (by decide)) (congrArg Prod.fst (sh151 ln)) (ct151_9 z) ?_
  refine X_sipush (pc' := 82) dX6_checksNeeded_79 rfl (by decide) ?_
  refine Y_iald (pc' := 83) dX6_checksNeeded_82 rfl (zlN hN (by decide)) (sh154 ln) (by decide) ⟨by decide, by decide⟩ ?_
  refine X_icmp_ge dX6_checksNeeded_83 (tgt := 105) rfl (pc' := 86) rfl ⟨rv4.1, rv4.2, (hz 154 (470) (by decide)).1, (hz 154 (470) (by decide)).2⟩ (fun c1 => ?_) (fun c1 => ?_)
  · have h := if_f (Int.not_lt.mpr c1) h
    cases h
    exact X_sub (sub_s (sub_s (sub_s (sub_s (sub_n (sub_n sub_0)))))) (k2 _ rfl hz)
  have h := if_t c1 h
  refine X_aload_n (pc' := 87) dX6_checksNeeded_86 rfl rfl ?_
  refine Y_get (pc' := 90) dX6_checksNeeded_87 rfl FX6_28 (zlN hN (by decide)) (congrArg Prod.fst (sh151 ln)) (ct151_19 z) ?_
  refine X_iload (pc' := 92) dX6_checksNeeded_90 rfl rfl ?_
  refine X_aload_n (pc' := 93) dX6_checksNeeded_92 rfl rfl ?_
  refine X_iload (pc' := 95) dX6_checksNeeded_93 rfl rfl ?_
  obtain ⟨r2, q2, h⟩ := bs h
  refine Y_callV [.int (iN (v4))] (pc' := 98) dX6_checksNeeded_95 rfl VX6_204 (by decide) (zlN hN (by decide)) (congrArg Prod.fst (sh151 ln)) rfl rfl rfl (cs rfl) (cs rfl) rfl (CX6_lapse hN hz rv4 q2) (Nat.zero_add _).symm (Nat.zero_add _).symm (fun f2 => ?_)
  obtain ⟨g3, h⟩ := gs h
  refine Y_iast (pc' := 99) dX6_checksNeeded_98 rfl (zlN hN (by decide)) (sh158 ln) (by decide) g3 ?_
  obtain ⟨z4, e4, hz4, h⟩ := zl_some (P := okz) h (okz_up hz f2)
  rw [e4]
  refine X_iinc (pc' := 102) dX6_checksNeeded_99 rfl rfl (Or.inr rfl) (L' := [some (.ref (151)), some (.int (iN (v1))), some (.int (iN (v2))), some (.int (iN (v3))), some (.int (iN (v4 + 1))), none]) rfl ?_
  refine X_goto dX6_checksNeeded_102 (tgt := 73) rfl ?_
  obtain ⟨g5, h⟩ := gs h
  cases h
  exact X_sub (sub_s (sub_s (sub_s (sub_s (sub_s (sub_n sub_0)))))) (k1 _ _ rfl g5 hz4)
theorem LX6_checksNeeded_73 {ln N : Nat} {v1 : Int} {v2 : Int} {v3 : Int} {c9 s9 : Nat} {Φ : xRes → xS → Prop} (hN : 159 ≤ N ∧ N < 999999) (rv1 : inR v1) (rv2 : inR v2) (rv3 : inR v3) {r : ZZ} (k2 : ∀ (z' : ZZ), r = z' → okz z' → X mX6_checksNeeded 105 [some (.ref (151)), some (.int (iN (v1))), some (.int (iN (v2))), some (.int (iN (v3))), none, none] [] (zmk ln N z') c9 s9 Φ) : ∀ (n : Nat) (v4 : Int) (z : ZZ), inR v4 → okz z → zlp (fun q => fX6_checksNeeded_s73 v1 v2 v3 q.1 q.2) n (v4, z) = some r → X mX6_checksNeeded 73 [some (.ref (151)), some (.int (iN (v1))), some (.int (iN (v2))), some (.int (iN (v3))), some (.int (iN (v4))), none] [] (zmk ln N z) c9 s9 Φ := by
  intro n
  induction n with
  | zero => intro v4 z rv4 hz h; cases h
  | succ n ih =>
    intro v4 z rv4 hz h
    rcases zlp_s h with ⟨⟨v4', z'⟩, e, h'⟩ | e
    · exact SX6_checksNeeded_73 hN hz rv1 rv2 rv3 rv4 e (fun v4₁ z₁ hh f0 f1 => by cases hh; exact ih _ _ f0 f1 h') (fun z₁ hh f0 => by cases hh)
    · exact SX6_checksNeeded_73 hN hz rv1 rv2 rv3 rv4 e (fun v4₁ z₁ hh f0 f1 => by cases hh) (fun z₁ hh f0 => by cases hh; exact k2 _ rfl f0)
def fX6_checksNeeded_b157 (v1 : Int) (v2 : Int) (v3 : Int) (v4 : Int) (v5 : Int) (z : ZZ) : Option ((Int × Int × ZZ) ⊕ (Int × ZZ)) := (if inR ((v5 + 1)) then some (.inl (v4, (v5 + 1), z)) else none)
set_option maxRecDepth 100000 in
theorem BX6_checksNeeded_157 {ln N : Nat} {z : ZZ} {v1 : Int} {v2 : Int} {v3 : Int} {v4 : Int} {v5 : Int} {c9 s9 : Nat} {Φ : xRes → xS → Prop} (hN : 159 ≤ N ∧ N < 999999) (hz : okz z) (rv1 : inR v1) (rv2 : inR v2) (rv3 : inR v3) (rv4 : inR v4) (rv5 : inR v5) {p : (Int × Int × ZZ) ⊕ (Int × ZZ)} (h : fX6_checksNeeded_b157 v1 v2 v3 v4 v5 z = some p) (k1 : ∀ (v4' : Int) (v5' : Int) (z' : ZZ), p = .inl (v4', v5', z') → inR v4' → inR v5' → okz z' → X mX6_checksNeeded 116 [some (.ref (151)), some (.int (iN (v1))), some (.int (iN (v2))), some (.int (iN (v3))), some (.int (iN (v4'))), some (.int (iN (v5')))] [] (zmk ln N z') c9 s9 Φ) (k2 : ∀ (v4' : Int) (z' : ZZ), p = .inr (v4', z') → inR v4' → okz z' → X mX6_checksNeeded 163 [none, none, none, none, some (.int (iN (v4'))), none] [] (zmk ln N z') c9 s9 Φ) : X mX6_checksNeeded 157 [some (.ref (151)), some (.int (iN (v1))), some (.int (iN (v2))), some (.int (iN (v3))), some (.int (iN (v4))), some (.int (iN (v5)))] [] (zmk ln N z) c9 s9 Φ := by
  unfold fX6_checksNeeded_b157 at h
  refine X_iinc (pc' := 160) dX6_checksNeeded_157 rfl rfl (Or.inr rfl) (L' := [some (.ref (151)), some (.int (iN (v1))), some (.int (iN (v2))), some (.int (iN (v3))), some (.int (iN (v4))), some (.int (iN (v5 + 1)))]) rfl ?_
  refine X_goto dX6_checksNeeded_160 (tgt := 116) rfl ?_
  obtain ⟨g1, h⟩ := gs h
  cases h
  exact X_sub (sub_s (sub_s (sub_s (sub_s (sub_s (sub_s sub_0)))))) (k1 _ _ _ rfl rv4 g1 hz)
def fX6_checksNeeded_s116 (v1 : Int) (v2 : Int) (v3 : Int) (v4 : Int) (v5 : Int) (z : ZZ) : Option ((Int × Int × ZZ) ⊕ (Int × ZZ)) := (if inR (((z 154 (3)) + v2)) then (if (v5) < (((z 154 (3)) + v2)) then (Option.bind (fX6_isSome (v1) (v5) z) fun r3 => (if (r3) = (0) then (Option.bind (fX6_harnessPart (v3) (1) z) fun r5 => (if inR ((v5 + r5)) then (if (0 : Int) ≤ (v3) ∧ (v3) < (15 : Int) then (zl (zup z 158 (v3) ((v5 + r5))) fun z8 => (if inR ((v4 + 1)) then fX6_checksNeeded_b157 (v1) (v2) (v3) ((v4 + 1)) (v5) z8 else none)) else none) else none)) else fX6_checksNeeded_b157 (v1) (v2) (v3) (v4) (v5) z)) else some (.inr (v4, z))) else none)
set_option maxRecDepth 100000 in
theorem SX6_checksNeeded_116 {ln N : Nat} {z : ZZ} {v1 : Int} {v2 : Int} {v3 : Int} {v4 : Int} {v5 : Int} {c9 s9 : Nat} {Φ : xRes → xS → Prop} (hN : 159 ≤ N ∧ N < 999999) (hz : okz z) (rv1 : inR v1) (rv2 : inR v2) (rv3 : inR v3) (rv4 : inR v4) (rv5 : inR v5) {p : (Int × Int × ZZ) ⊕ (Int × ZZ)} (h : fX6_checksNeeded_s116 v1 v2 v3 v4 v5 z = some p) (k1 : ∀ (v4' : Int) (v5' : Int) (z' : ZZ), p = .inl (v4', v5', z') → inR v4' → inR v5' → okz z' → X mX6_checksNeeded 116 [some (.ref (151)), some (.int (iN (v1))), some (.int (iN (v2))), some (.int (iN (v3))), some (.int (iN (v4'))), some (.int (iN (v5')))] [] (zmk ln N z') c9 s9 Φ) (k2 : ∀ (v4' : Int) (z' : ZZ), p = .inr (v4', z') → inR v4' → okz z' → X mX6_checksNeeded 163 [none, none, none, none, some (.int (iN (v4'))), none] [] (zmk ln N z') c9 s9 Φ) : X mX6_checksNeeded 116 [some (.ref (151)), some (.int (iN (v1))), some (.int (iN (v2))), some (.int (iN (v3))), some (.int (iN (v4))), some (.int (iN (v5)))] [] (zmk ln N z) c9 s9 Φ := by
  unfold fX6_checksNeeded_s116 at h
  refine X_iload (pc' := 118) dX6_checksNeeded_116 rfl rfl ?_
  refine X_aload_n (pc' := 119) dX6_checksNeeded_118 rfl rfl ?_
  refine Y_get (pc' := 122) dX6_checksNeeded_119 rfl FX6_16 (zlN hN (by decide)) (congrArg Prod.fst (sh151 ln)) (ct151_9 z) ?_
  refine X_iconst (pc' := 123) dX6_checksNeeded_122 rfl ?_
  refine Y_iald (pc' := 124) dX6_checksNeeded_123 rfl (zlN hN (by decide)) (sh154 ln) (by decide) ⟨by decide, by decide⟩ ?_
  refine X_iload_n (pc' := 125) dX6_checksNeeded_124 rfl rfl ?_
  refine X_iadd (pc' := 126) dX6_checksNeeded_125 rfl ?_
  obtain ⟨g1, h⟩ := gs h
  refine X_icmp_ge dX6_checksNeeded_126 (tgt := 163) rfl (pc' := 129) rfl ⟨rv5.1, rv5.2, g1.1, g1.2⟩ (fun c2 => ?_) (fun c2 => ?_)
  · have h := if_f (Int.not_lt.mpr c2) h
    cases h
    exact X_sub (sub_n (sub_n (sub_n (sub_n (sub_s (sub_n sub_0)))))) (k2 _ _ rfl rv4 hz)
  have h := if_t c2 h
  refine X_aload_n (pc' := 130) dX6_checksNeeded_129 rfl rfl ?_
  refine X_iload_n (pc' := 131) dX6_checksNeeded_130 rfl rfl ?_
  refine X_iload (pc' := 133) dX6_checksNeeded_131 rfl rfl ?_
  obtain ⟨r3, q3, h⟩ := bs h
  refine Y_callV [.int (iN (v1)), .int (iN (v5))] (pc' := 136) dX6_checksNeeded_133 rfl VX6_339 (by decide) (zlN hN (by decide)) (congrArg Prod.fst (sh151 ln)) rfl rfl rfl (cs rfl) (cs rfl) rfl (CX6_isSome hN hz rv1 rv5 q3) (Nat.zero_add _).symm (Nat.zero_add _).symm (fun f3 => ?_)
  refine X_if_ne dX6_checksNeeded_136 (tgt := 157) rfl (pc' := 139) rfl (inR_b f3) (fun c4 => ?_) (fun c4 => ?_)
  · have h := if_f c4 h
    exact X_sub (sub_s (sub_s (sub_s (sub_s (sub_s (sub_s sub_0)))))) (BX6_checksNeeded_157 hN hz rv1 rv2 rv3 rv4 rv5 h k1 k2)
  have h := if_t c4 h
  refine X_aload_n (pc' := 140) dX6_checksNeeded_139 rfl rfl ?_
  refine Y_get (pc' := 143) dX6_checksNeeded_140 rfl FX6_28 (zlN hN (by decide)) (congrArg Prod.fst (sh151 ln)) (ct151_19 z) ?_
  refine X_iload_n (pc' := 144) dX6_checksNeeded_143 rfl rfl ?_
  refine X_iload (pc' := 146) dX6_checksNeeded_144 rfl rfl ?_
  refine X_aload_n (pc' := 147) dX6_checksNeeded_146 rfl rfl ?_
  refine X_iload_n (pc' := 148) dX6_checksNeeded_147 rfl rfl ?_
  refine X_iconst (pc' := 149) dX6_checksNeeded_148 rfl ?_
  obtain ⟨r5, q5, h⟩ := bs h
  refine Y_callV [.int (iN (v3)), .int (iN (1))] (pc' := 152) dX6_checksNeeded_149 rfl VX6_198 (by decide) (zlN hN (by decide)) (congrArg Prod.fst (sh151 ln)) rfl rfl rfl (cs rfl) (cs rfl) rfl (CX6_harnessPart hN hz rv3 (inR_c (n := 1) rfl) q5) (Nat.zero_add _).symm (Nat.zero_add _).symm (fun f5 => ?_)
  refine X_iadd (pc' := 153) dX6_checksNeeded_152 rfl ?_
  obtain ⟨g6, h⟩ := gs h
  obtain ⟨g7, h⟩ := gs h
  refine Y_iast (pc' := 154) dX6_checksNeeded_153 rfl (zlN hN (by decide)) (sh158 ln) (by decide) g7 ?_
  obtain ⟨z8, e8, hz8, h⟩ := zl_some (P := okz) h (okz_up hz g6)
  rw [e8]
  refine X_iinc (pc' := 157) dX6_checksNeeded_154 rfl rfl (Or.inr rfl) (L' := [some (.ref (151)), some (.int (iN (v1))), some (.int (iN (v2))), some (.int (iN (v3))), some (.int (iN (v4 + 1))), some (.int (iN (v5)))]) rfl ?_
  obtain ⟨g9, h⟩ := gs h
  exact X_sub (sub_s (sub_s (sub_s (sub_s (sub_s (sub_s sub_0)))))) (BX6_checksNeeded_157 hN hz8 rv1 rv2 rv3 g9 rv5 h k1 k2)
theorem LX6_checksNeeded_116 {ln N : Nat} {v1 : Int} {v2 : Int} {v3 : Int} {c9 s9 : Nat} {Φ : xRes → xS → Prop} (hN : 159 ≤ N ∧ N < 999999) (rv1 : inR v1) (rv2 : inR v2) (rv3 : inR v3) {r : Int × ZZ} (k2 : ∀ (v4' : Int) (z' : ZZ), r = (v4', z') → inR v4' → okz z' → X mX6_checksNeeded 163 [none, none, none, none, some (.int (iN (v4'))), none] [] (zmk ln N z') c9 s9 Φ) : ∀ (n : Nat) (v4 : Int) (v5 : Int) (z : ZZ), inR v4 → inR v5 → okz z → zlp (fun q => fX6_checksNeeded_s116 v1 v2 v3 q.1 q.2.1 q.2.2) n (v4, v5, z) = some r → X mX6_checksNeeded 116 [some (.ref (151)), some (.int (iN (v1))), some (.int (iN (v2))), some (.int (iN (v3))), some (.int (iN (v4))), some (.int (iN (v5)))] [] (zmk ln N z) c9 s9 Φ := by
  intro n
  induction n with
  | zero => intro v4 v5 z rv4 rv5 hz h; cases h
  | succ n ih =>
    intro v4 v5 z rv4 rv5 hz h
    rcases zlp_s h with ⟨⟨v4', v5', z'⟩, e, h'⟩ | e
    · exact SX6_checksNeeded_116 hN hz rv1 rv2 rv3 rv4 rv5 e (fun v4₁ v5₁ z₁ hh f0 f1 f2 => by cases hh; exact ih _ _ _ f0 f1 f2 h') (fun v4₁ z₁ hh f0 f1 => by cases hh)
    · exact SX6_checksNeeded_116 hN hz rv1 rv2 rv3 rv4 rv5 e (fun v4₁ v5₁ z₁ hh f0 f1 f2 => by cases hh) (fun v4₁ z₁ hh f0 f1 => by cases hh; exact k2 _ _ rfl f0 f1)
def fX6_checksNeeded_b61 (v1 : Int) (v2 : Int) (v3 : Int) (s1 : Int) (z : ZZ) : Option (Int × ZZ) := (Option.bind (fX6_fails (s1) (2) z) fun q1 => match q1 with | (r1, z1) => (if (r1) = (0) then (Option.bind (zlp (fun q => fX6_checksNeeded_s73 (v1) (v2) (v3) q.1 q.2) FU (0, z1)) fun x3_z => (Option.bind (zlp (fun q => fX6_checksNeeded_s116 (v1) (v2) (v3) q.1 q.2.1 q.2.2) FU (0, (x3_z 154 (3)), x3_z)) fun q4 => match q4 with | (x4_v4, x4_z) => some (x4_v4, x4_z))) else some (0, z1)))
set_option maxRecDepth 100000 in
theorem BX6_checksNeeded_61 {ln N : Nat} {z : ZZ} {v1 : Int} {v2 : Int} {v3 : Int} {s1 : Int} {c9 s9 : Nat} {Φ : xRes → xS → Prop} (hN : 159 ≤ N ∧ N < 999999) (hz : okz z) (rv1 : inR v1) (rv2 : inR v2) (rv3 : inR v3) (rs1 : inR s1) {p : Int × ZZ} (h : fX6_checksNeeded_b61 v1 v2 v3 s1 z = some p) (k : Fin_wi Φ ln N p) : X mX6_checksNeeded 61 [some (.ref (151)), some (.int (iN (v1))), some (.int (iN (v2))), some (.int (iN (v3))), none, none] [.int (iN (s1)), .ref (151)] (zmk ln N z) c9 s9 Φ := by
  unfold fX6_checksNeeded_b61 at h
  refine X_iconst (pc' := 62) dX6_checksNeeded_61 rfl ?_
  obtain ⟨⟨r1, z1⟩, q1, h⟩ := bs h
  refine Y_callV [.int (iN (s1)), .int (iN (2))] (pc' := 65) dX6_checksNeeded_62 rfl VX6_62 (by decide) (zlN hN (by decide)) (congrArg Prod.fst (sh151 ln)) rfl rfl rfl (cs rfl) (cs rfl) rfl (CX6_fails hN hz rs1 (inR_c (n := 2) rfl) q1) (Nat.zero_add _).symm (Nat.zero_add _).symm (fun f1 => ?_)
  refine X_if_eq dX6_checksNeeded_65 (tgt := 70) rfl (pc' := 68) rfl (inR_b f1.1) (fun c2 => ?_) (fun c2 => ?_)
  · have h := if_t c2 h
    refine X_iconst (pc' := 71) dX6_checksNeeded_70 rfl ?_
    refine X_istore (pc' := 73) dX6_checksNeeded_71 rfl (cl rfl) (Or.inr rfl) (L' := [some (.ref (151)), some (.int (iN (v1))), some (.int (iN (v2))), some (.int (iN (v3))), some (.int (iN (0))), none]) rfl ?_
    obtain ⟨x3_z, q3, h⟩ := bs h
    refine X_sub (sub_s (sub_s (sub_s (sub_s (sub_s (sub_n sub_0)))))) (LX6_checksNeeded_73 hN rv1 rv2 rv3 (fun x3_z₁ hh hx3_z => ?_) FU _ _ (inR_c (n := 0) rfl) f1.2 q3)
    cases hh
    refine X_iconst (pc' := 106) dX6_checksNeeded_105 rfl ?_
    refine X_istore (pc' := 108) dX6_checksNeeded_106 rfl (cl rfl) (Or.inr rfl) (L' := [some (.ref (151)), some (.int (iN (v1))), some (.int (iN (v2))), some (.int (iN (v3))), some (.int (iN (0))), none]) rfl ?_
    refine X_aload_n (pc' := 109) dX6_checksNeeded_108 rfl rfl ?_
    refine Y_get (pc' := 112) dX6_checksNeeded_109 rfl FX6_16 (zlN hN (by decide)) (congrArg Prod.fst (sh151 ln)) (ct151_9 x3_z) ?_
    refine X_iconst (pc' := 113) dX6_checksNeeded_112 rfl ?_
    refine Y_iald (pc' := 114) dX6_checksNeeded_113 rfl (zlN hN (by decide)) (sh154 ln) (by decide) ⟨by decide, by decide⟩ ?_
    refine X_istore (pc' := 116) dX6_checksNeeded_114 rfl (cl rfl) (Or.inr rfl) (L' := [some (.ref (151)), some (.int (iN (v1))), some (.int (iN (v2))), some (.int (iN (v3))), some (.int (iN (0))), some (.int (iN ((x3_z 154 (3)))))]) rfl ?_
    obtain ⟨⟨x4_v4, x4_z⟩, q4, h⟩ := bs h
    refine X_sub (sub_s (sub_s (sub_s (sub_s (sub_s (sub_s sub_0)))))) (LX6_checksNeeded_116 hN rv1 rv2 rv3 (fun x4_v4₁ x4_z₁ hh rx4_v4 hx4_z => ?_) FU _ _ _ (inR_c (n := 0) rfl) (hx3_z 154 (3) (by decide)) hx3_z q4)
    cases hh
    refine X_iload (pc' := 165) dX6_checksNeeded_163 rfl rfl ?_
    cases h
    exact X_iret dX6_checksNeeded_165 rfl (k ⟨rx4_v4, hx4_z⟩)
  have h := if_f c2 h
  refine X_iconst (pc' := 69) dX6_checksNeeded_68 rfl ?_
  cases h
  exact X_iret dX6_checksNeeded_69 rfl (k ⟨(inR_c (n := 0) rfl), f1.2⟩)
def fX6_checksNeeded_b35 (v1 : Int) (v2 : Int) (s1 : Int) (z : ZZ) : Option (Int × ZZ) := (Option.bind (fX6_fails (s1) (1) z) fun q1 => match q1 with | (r1, z1) => (if (r1) = (0) then (Option.bind (fX6_longest (v1) z1) fun r3 => (if (r3) = ((-1)) then fX6_checksNeeded_b61 (v1) (v2) (r3) (0) z1 else fX6_checksNeeded_b61 (v1) (v2) (r3) (1) z1)) else some (0, z1)))
set_option maxRecDepth 100000 in
theorem BX6_checksNeeded_35 {ln N : Nat} {z : ZZ} {v1 : Int} {v2 : Int} {s1 : Int} {c9 s9 : Nat} {Φ : xRes → xS → Prop} (hN : 159 ≤ N ∧ N < 999999) (hz : okz z) (rv1 : inR v1) (rv2 : inR v2) (rs1 : inR s1) {p : Int × ZZ} (h : fX6_checksNeeded_b35 v1 v2 s1 z = some p) (k : Fin_wi Φ ln N p) : X mX6_checksNeeded 35 [some (.ref (151)), some (.int (iN (v1))), some (.int (iN (v2))), none, none, none] [.int (iN (s1)), .ref (151)] (zmk ln N z) c9 s9 Φ := by
  unfold fX6_checksNeeded_b35 at h
  refine X_iconst (pc' := 36) dX6_checksNeeded_35 rfl ?_
  obtain ⟨⟨r1, z1⟩, q1, h⟩ := bs h
  refine Y_callV [.int (iN (s1)), .int (iN (1))] (pc' := 39) dX6_checksNeeded_36 rfl VX6_62 (by decide) (zlN hN (by decide)) (congrArg Prod.fst (sh151 ln)) rfl rfl rfl (cs rfl) (cs rfl) rfl (CX6_fails hN hz rs1 (inR_c (n := 1) rfl) q1) (Nat.zero_add _).symm (Nat.zero_add _).symm (fun f1 => ?_)
  refine X_if_eq dX6_checksNeeded_39 (tgt := 44) rfl (pc' := 42) rfl (inR_b f1.1) (fun c2 => ?_) (fun c2 => ?_)
  · have h := if_t c2 h
    refine X_aload_n (pc' := 45) dX6_checksNeeded_44 rfl rfl ?_
    refine X_iload_n (pc' := 46) dX6_checksNeeded_45 rfl rfl ?_
    obtain ⟨r3, q3, h⟩ := bs h
    refine Y_callV [.int (iN (v1))] (pc' := 49) dX6_checksNeeded_46 rfl VX6_336 (by decide) (zlN hN (by decide)) (congrArg Prod.fst (sh151 ln)) rfl rfl rfl (cs rfl) (cs rfl) rfl (CX6_longest hN f1.2 rv1 q3) (Nat.zero_add _).symm (Nat.zero_add _).symm (fun f3 => ?_)
    refine X_istore_n (pc' := 50) dX6_checksNeeded_49 rfl (cl rfl) (Or.inr rfl) (L' := [some (.ref (151)), some (.int (iN (v1))), some (.int (iN (v2))), some (.int (iN (r3))), none, none]) rfl ?_
    refine X_aload_n (pc' := 51) dX6_checksNeeded_50 rfl rfl ?_
    refine X_iload_n (pc' := 52) dX6_checksNeeded_51 rfl rfl ?_
    refine X_iconst (pc' := 53) dX6_checksNeeded_52 rfl ?_
    refine X_icmp_eq dX6_checksNeeded_53 (tgt := 60) rfl (pc' := 56) rfl ⟨f3.1, f3.2, (inR_c (n := (-1)) rfl).1, (inR_c (n := (-1)) rfl).2⟩ (fun c4 => ?_) (fun c4 => ?_)
    · have h := if_t c4 h
      refine X_iconst (pc' := 61) dX6_checksNeeded_60 rfl ?_
      exact X_sub (sub_s (sub_s (sub_s (sub_s (sub_n (sub_n sub_0)))))) (BX6_checksNeeded_61 hN f1.2 rv1 rv2 f3 (inR_c (n := 0) rfl) h k)
    have h := if_f c4 h
    refine X_iconst (pc' := 57) dX6_checksNeeded_56 rfl ?_
    refine X_goto dX6_checksNeeded_57 (tgt := 61) rfl ?_
    exact X_sub (sub_s (sub_s (sub_s (sub_s (sub_n (sub_n sub_0)))))) (BX6_checksNeeded_61 hN f1.2 rv1 rv2 f3 (inR_c (n := 1) rfl) h k)
  have h := if_f c2 h
  refine X_iconst (pc' := 43) dX6_checksNeeded_42 rfl ?_
  cases h
  exact X_iret dX6_checksNeeded_43 rfl (k ⟨(inR_c (n := 0) rfl), f1.2⟩)
def fX6_checksNeeded_b34 (v1 : Int) (v2 : Int) (z : ZZ) : Option (Int × ZZ) := fX6_checksNeeded_b35 (v1) (v2) (0) z
set_option maxRecDepth 100000 in
theorem BX6_checksNeeded_34 {ln N : Nat} {z : ZZ} {v1 : Int} {v2 : Int} {c9 s9 : Nat} {Φ : xRes → xS → Prop} (hN : 159 ≤ N ∧ N < 999999) (hz : okz z) (rv1 : inR v1) (rv2 : inR v2) {p : Int × ZZ} (h : fX6_checksNeeded_b34 v1 v2 z = some p) (k : Fin_wi Φ ln N p) : X mX6_checksNeeded 34 [some (.ref (151)), some (.int (iN (v1))), some (.int (iN (v2))), none, none, none] [.ref (151)] (zmk ln N z) c9 s9 Φ := by
  unfold fX6_checksNeeded_b34 at h
  refine X_iconst (pc' := 35) dX6_checksNeeded_34 rfl ?_
  exact X_sub (sub_s (sub_s (sub_s (sub_n (sub_n (sub_n sub_0)))))) (BX6_checksNeeded_35 hN hz rv1 rv2 (inR_c (n := 0) rfl) h k)
def fX6_checksNeeded (v1 : Int) (v2 : Int) (z : ZZ) : Option (Int × ZZ) := (zl (zup z 151 0 (0)) fun z1 => (Option.bind (fX6_in (v1) (0) (3) z1) fun r2 => (if (r2) = (0) then fX6_checksNeeded_b34 (v1) (v2) z1 else (Option.bind (fX6_in (v2) (1) (365) z1) fun r4 => (if (r4) = (0) then fX6_checksNeeded_b34 (v1) (v2) z1 else fX6_checksNeeded_b35 (v1) (v2) (1) z1)))))
set_option maxRecDepth 100000 in
theorem CX6_checksNeeded {ln N : Nat} {z : ZZ} {v1 : Int} {v2 : Int} (hN : 159 ≤ N ∧ N < 999999) (hz : okz z) (rv1 : inR v1) (rv2 : inR v2) {p : Int × ZZ} (h : fX6_checksNeeded v1 v2 z = some p) : X mX6_checksNeeded 0 (xEnt [.ref (151), .int (iN (v1)), .int (iN (v2))] (xL mX6_checksNeeded)) [] (zmk ln N z) (cc_wi p) (6 * cc_wi p) (Qd (fa_wi p) (rs_wi p) (st_wi ln N p)) := by
  have k : Fin_wi (Qd (fa_wi p) (rs_wi p) (st_wi ln N p)) ln N p := Fin_wi_i
  unfold fX6_checksNeeded at h
  refine X_to (M := [some (.ref (151)), some (.int (iN (v1))), some (.int (iN (v2))), none, none, none]) (su := []) rfl rfl ?_
  refine X_aload_n (pc' := 1) dX6_checksNeeded_0 rfl rfl ?_
  refine X_iconst (pc' := 2) dX6_checksNeeded_1 rfl ?_
  refine Y_put (k := 0) (j := 0) (v := 0) (pc' := 5) dX6_checksNeeded_2 rfl FX6_51 (zlN hN (by decide)) (congrArg Prod.fst (sh151 ln)) (fun r hr => by cases hr; rfl) (xFit_int _) rfl rfl ?_
  obtain ⟨z1, e1, hz1, h⟩ := zl_some (P := okz) h (okz_up hz (inR_c (n := 0) rfl))
  rw [e1]
  refine X_aload_n (pc' := 6) dX6_checksNeeded_5 rfl rfl ?_
  refine X_iload_n (pc' := 7) dX6_checksNeeded_6 rfl rfl ?_
  refine X_lI_i2l (pc' := 8) dX6_checksNeeded_7 rfl rv1 ?_
  refine X_lI_const (pc' := 9) dX6_checksNeeded_8 rfl (a := 0) rfl ?_
  refine X_ldc2 (pc' := 12) dX6_checksNeeded_9 rfl tq1544 (n := 3) rfl ?_
  obtain ⟨r2, q2, h⟩ := bs h
  refine Y_callS [.long (lI (v1)), .long (lI (0)), .long (lI (3))] (pc' := 15) dX6_checksNeeded_12 rfl SX6_66 (by decide) rfl (cs rfl) (cs rfl) rfl (CX6_in hN hz1 (inL_R rv1) (inL_c (n := 0) rfl) (inL_c (n := 3) rfl) q2) (Nat.zero_add _).symm (Nat.zero_add _).symm (fun f2 => ?_)
  refine X_if_eq dX6_checksNeeded_15 (tgt := 34) rfl (pc' := 18) rfl (inR_b f2) (fun c3 => ?_) (fun c3 => ?_)
  · have h := if_t c3 h
    exact X_sub (sub_s (sub_s (sub_s (sub_n (sub_n (sub_n sub_0)))))) (BX6_checksNeeded_34 hN hz1 rv1 rv2 h k)
  have h := if_f c3 h
  refine X_iload_n (pc' := 19) dX6_checksNeeded_18 rfl rfl ?_
  refine X_lI_i2l (pc' := 20) dX6_checksNeeded_19 rfl rv2 ?_
  refine X_lI_const (pc' := 21) dX6_checksNeeded_20 rfl (a := 1) rfl ?_
  refine X_ldc2 (pc' := 24) dX6_checksNeeded_21 rfl tq1627 (n := 365) rfl ?_
  obtain ⟨r4, q4, h⟩ := bs h
  refine Y_callS [.long (lI (v2)), .long (lI (1)), .long (lI (365))] (pc' := 27) dX6_checksNeeded_24 rfl SX6_66 (by decide) rfl (cs rfl) (cs rfl) rfl (CX6_in hN hz1 (inL_R rv2) (inL_c (n := 1) rfl) (inL_c (n := 365) rfl) q4) (Nat.zero_add _).symm (Nat.zero_add _).symm (fun f4 => ?_)
  refine X_if_eq dX6_checksNeeded_27 (tgt := 34) rfl (pc' := 30) rfl (inR_b f4) (fun c5 => ?_) (fun c5 => ?_)
  · have h := if_t c5 h
    exact X_sub (sub_s (sub_s (sub_s (sub_n (sub_n (sub_n sub_0)))))) (BX6_checksNeeded_34 hN hz1 rv1 rv2 h k)
  have h := if_f c5 h
  refine X_iconst (pc' := 31) dX6_checksNeeded_30 rfl ?_
  refine X_goto dX6_checksNeeded_31 (tgt := 35) rfl ?_
  exact X_sub (sub_s (sub_s (sub_s (sub_n (sub_n (sub_n sub_0)))))) (BX6_checksNeeded_35 hN hz1 rv1 rv2 (inR_c (n := 1) rfl) h k)
def fX6_isRoute (v1 : Int) (z : ZZ) : Option (Int) := (if inR (((z 154 (37)) - 1)) then (Option.bind (fX6_in (v1) (0) (((z 154 (37)) - 1)) z) fun r2 => some (r2)) else none)
set_option maxRecDepth 100000 in
theorem CX6_isRoute {ln N : Nat} {z : ZZ} {v1 : Int} (hN : 159 ≤ N ∧ N < 999999) (hz : okz z) (rv1 : inR v1) {p : Int} (h : fX6_isRoute v1 z = some p) : X mX6_isRoute 0 (xEnt [.ref (151), .int (iN (v1))] (xL mX6_isRoute)) [] (zmk ln N z) (cc_b p) (6 * cc_b p) (Qd (fa_b p) (rs_b p) (st_b ln N z p)) := by
  have k : Fin_b (Qd (fa_b p) (rs_b p) (st_b ln N z p)) ln N z p := Fin_b_i
  unfold fX6_isRoute at h
  refine X_to (M := [some (.ref (151)), some (.int (iN (v1)))]) (su := []) rfl rfl ?_
  refine X_iload_n (pc' := 1) dX6_isRoute_0 rfl rfl ?_
  refine X_lI_i2l (pc' := 2) dX6_isRoute_1 rfl rv1 ?_
  refine X_lI_const (pc' := 3) dX6_isRoute_2 rfl (a := 0) rfl ?_
  refine X_aload_n (pc' := 4) dX6_isRoute_3 rfl rfl ?_
  refine Y_get (pc' := 7) dX6_isRoute_4 rfl FX6_16 (zlN hN (by decide)) (congrArg Prod.fst (sh151 ln)) (ct151_9 z) ?_
  refine X_bipush (pc' := 9) dX6_isRoute_7 rfl (by decide) ?_
  refine Y_iald (pc' := 10) dX6_isRoute_9 rfl (zlN hN (by decide)) (sh154 ln) (by decide) ⟨by decide, by decide⟩ ?_
  refine X_iconst (pc' := 11) dX6_isRoute_10 rfl ?_
  refine X_isub (pc' := 12) dX6_isRoute_11 rfl ?_
  obtain ⟨g1, h⟩ := gs h
  refine X_lI_i2l (pc' := 13) dX6_isRoute_12 rfl g1 ?_
  obtain ⟨r2, q2, h⟩ := bs h
  refine Y_callS [.long (lI (v1)), .long (lI (0)), .long (lI (((z 154 (37)) - 1)))] (pc' := 16) dX6_isRoute_13 rfl SX6_66 (by decide) rfl (cs rfl) (cs rfl) rfl (CX6_in hN hz (inL_R rv1) (inL_c (n := 0) rfl) (inL_R g1) q2) (Nat.zero_add _).symm (Nat.zero_add _).symm (fun f2 => ?_)
  cases h
  exact X_zret dX6_isRoute_16 rfl f2 (k f2)
def fX6_setMember (v1 : Int) (v2 : Int) (v3 : Int) (z : ZZ) : Option (ZZ) := (if (0 : Int) ≤ (((547 + (6 * v1)) + v2)) ∧ (((547 + (6 * v1)) + v2)) < (765 : Int) then (zl (zup z 154 (((547 + (6 * v1)) + v2)) (v3)) fun z2 => some z2) else none)
set_option maxRecDepth 100000 in
theorem CX6_setMember {ln N : Nat} {z : ZZ} {v1 : Int} {v2 : Int} {v3 : Int} (hN : 159 ≤ N ∧ N < 999999) (hz : okz z) (rv1 : inR v1) (rv2 : inR v2) (rv3 : inR v3) {p : ZZ} (h : fX6_setMember v1 v2 v3 z = some p) : X mX6_setMember 0 (xEnt [.ref (151), .int (iN (v1)), .int (iN (v2)), .int (iN (v3))] (xL mX6_setMember)) [] (zmk ln N z) (cc_w p) (6 * cc_w p) (Qd (fa_w p) (rs_w p) (st_w ln N p)) := by
  have k : Fin_w (Qd (fa_w p) (rs_w p) (st_w ln N p)) ln N p := Fin_w_i
  unfold fX6_setMember at h
  refine X_to (M := [some (.ref (151)), some (.int (iN (v1))), some (.int (iN (v2))), some (.int (iN (v3)))]) (su := []) rfl rfl ?_
  refine X_aload_n (pc' := 1) dX6_setMember_0 rfl rfl ?_
  refine Y_get (pc' := 4) dX6_setMember_1 rfl FX6_16 (zlN hN (by decide)) (congrArg Prod.fst (sh151 ln)) (ct151_9 z) ?_
  refine X_sipush (pc' := 7) dX6_setMember_4 rfl (by decide) ?_
  refine X_bipush (pc' := 9) dX6_setMember_7 rfl (by decide) ?_
  refine X_iload_n (pc' := 10) dX6_setMember_9 rfl rfl ?_
  refine X_imul (pc' := 11) dX6_setMember_10 rfl ?_
  refine X_iadd (pc' := 12) dX6_setMember_11 rfl ?_
  refine X_iload_n (pc' := 13) dX6_setMember_12 rfl rfl ?_
  refine X_iadd (pc' := 14) dX6_setMember_13 rfl ?_
  refine X_iload_n (pc' := 15) dX6_setMember_14 rfl rfl ?_
  obtain ⟨g1, h⟩ := gs h
  refine Y_iast (pc' := 16) dX6_setMember_15 rfl (zlN hN (by decide)) (sh154 ln) (by decide) g1 ?_
  obtain ⟨z2, e2, hz2, h⟩ := zl_some (P := okz) h (okz_up hz rv3)
  rw [e2]
  cases h
  exact X_vret dX6_setMember_16 rfl (k hz2)
def fX6_climb_b27 (v1 : Int) (v2 : Int) (s1 : Int) (z : ZZ) : Option (Int × ZZ) := (Option.bind (fX6_fails (s1) (1) z) fun q1 => match q1 with | (r1, z1) => (if (r1) = (0) then (Option.bind (fX6_mayClimb (v1) (v2) z1) fun r3 => (Option.bind (fX6_fails (r3) (2) z1) fun q4 => match q4 with | (r4, z4) => (if (r4) = (0) then (Option.bind (fX6_gradeOf (v2) z4) fun q6 => match q6 with | (r6, z6) => (if (0 : Int) ≤ (r6) ∧ (0 : Int) < (10) then (Option.bind (fX6_record z6) fun z8 => (if (0 : Int) ≤ (((38 + (18 * v2)) + 3)) ∧ (((38 + (18 * v2)) + 3)) < (765 : Int) then (if inR (((z8 154 (((38 + (18 * v2)) + 3))) + (1 + (r6 / 10)))) then (zl (zup z8 154 (((38 + (18 * v2)) + 3)) (((z8 154 (((38 + (18 * v2)) + 3))) + (1 + (r6 / 10))))) fun z11 => (if (0 : Int) ≤ (((38 + (18 * v2)) + 4)) ∧ (((38 + (18 * v2)) + 4)) < (765 : Int) then (if inR (((z11 154 (((38 + (18 * v2)) + 4))) + 1)) then (zl (zup z11 154 (((38 + (18 * v2)) + 4)) (((z11 154 (((38 + (18 * v2)) + 4))) + 1))) fun z14 => (if (0 : Int) ≤ (((38 + (18 * v2)) + 5)) ∧ (((38 + (18 * v2)) + 5)) < (765 : Int) then (zl (zup z14 154 (((38 + (18 * v2)) + 5)) ((zor (z14 154 (((38 + (18 * v2)) + 5))) (zshl 1 v1)))) fun z16 => (Option.bind (fX6_memberPart (v1) (2) z16) fun r17 => (if inR ((r17 + 1)) then (Option.bind (fX6_setMember (v1) (2) ((r17 + 1)) z16) fun z19 => some ((z19 154 (((38 + (18 * v2)) + 3))), z19)) else none))) else none)) else none) else none)) else none) else none)) else none)) else some (0, z4)))) else some (0, z1)))
set_option maxRecDepth 100000 in
theorem BX6_climb_27 {ln N : Nat} {z : ZZ} {v1 : Int} {v2 : Int} {s1 : Int} {c9 s9 : Nat} {Φ : xRes → xS → Prop} (hN : 159 ≤ N ∧ N < 999999) (hz : okz z) (rv1 : inR v1) (rv2 : inR v2) (rs1 : inR s1) {p : Int × ZZ} (h : fX6_climb_b27 v1 v2 s1 z = some p) (k : Fin_wi Φ ln N p) : X mX6_climb 27 [some (.ref (151)), some (.int (iN (v1))), some (.int (iN (v2))), none, none] [.int (iN (s1)), .ref (151)] (zmk ln N z) c9 s9 Φ := by
  unfold fX6_climb_b27 at h
  refine X_iconst (pc' := 28) dX6_climb_27 rfl ?_
  obtain ⟨⟨r1, z1⟩, q1, h⟩ := bs h
  refine Y_callV [.int (iN (s1)), .int (iN (1))] (pc' := 31) dX6_climb_28 rfl VX6_62 (by decide) (zlN hN (by decide)) (congrArg Prod.fst (sh151 ln)) rfl rfl rfl (cs rfl) (cs rfl) rfl (CX6_fails hN hz rs1 (inR_c (n := 1) rfl) q1) (Nat.zero_add _).symm (Nat.zero_add _).symm (fun f1 => ?_)
  refine X_if_ne dX6_climb_31 (tgt := 48) rfl (pc' := 34) rfl (inR_b f1.1) (fun c2 => ?_) (fun c2 => ?_)
  · have h := if_f c2 h
    refine X_iconst (pc' := 49) dX6_climb_48 rfl ?_
    cases h
    exact X_iret dX6_climb_49 rfl (k ⟨(inR_c (n := 0) rfl), f1.2⟩)
  have h := if_t c2 h
  refine X_aload_n (pc' := 35) dX6_climb_34 rfl rfl ?_
  refine X_aload_n (pc' := 36) dX6_climb_35 rfl rfl ?_
  refine X_iload_n (pc' := 37) dX6_climb_36 rfl rfl ?_
  refine X_iload_n (pc' := 38) dX6_climb_37 rfl rfl ?_
  obtain ⟨r3, q3, h⟩ := bs h
  refine Y_callV [.int (iN (v1)), .int (iN (v2))] (pc' := 41) dX6_climb_38 rfl VX6_247 (by decide) (zlN hN (by decide)) (congrArg Prod.fst (sh151 ln)) rfl rfl rfl (cs rfl) (cs rfl) rfl (CX6_mayClimb hN f1.2 rv1 rv2 q3) (Nat.zero_add _).symm (Nat.zero_add _).symm (fun f3 => ?_)
  refine X_iconst (pc' := 42) dX6_climb_41 rfl ?_
  obtain ⟨⟨r4, z4⟩, q4, h⟩ := bs h
  refine Y_callV [.int (iN (r3)), .int (iN (2))] (pc' := 45) dX6_climb_42 rfl VX6_62 (by decide) (zlN hN (by decide)) (congrArg Prod.fst (sh151 ln)) rfl rfl rfl (cs rfl) (cs rfl) rfl (CX6_fails hN f1.2 (inR_b f3) (inR_c (n := 2) rfl) q4) (Nat.zero_add _).symm (Nat.zero_add _).symm (fun f4 => ?_)
  refine X_if_eq dX6_climb_45 (tgt := 50) rfl (pc' := 48) rfl (inR_b f4.1) (fun c5 => ?_) (fun c5 => ?_)
  · have h := if_t c5 h
    refine X_iconst (pc' := 51) dX6_climb_50 rfl ?_
    refine X_aload_n (pc' := 52) dX6_climb_51 rfl rfl ?_
    refine X_iload_n (pc' := 53) dX6_climb_52 rfl rfl ?_
    obtain ⟨⟨r6, z6⟩, q6, h⟩ := bs h
    refine Y_callV [.int (iN (v2))] (pc' := 56) dX6_climb_53 rfl VX6_232 (by decide) (zlN hN (by decide)) (congrArg Prod.fst (sh151 ln)) rfl rfl rfl (cs rfl) (cs rfl) rfl (CX6_gradeOf hN f4.2 rv2 q6) (Nat.zero_add _).symm (Nat.zero_add _).symm (fun f6 => ?_)
    refine X_bipush (pc' := 58) dX6_climb_56 rfl (by decide) ?_
    obtain ⟨g7, h⟩ := gs h
    refine X_idiv (pc' := 59) dX6_climb_58 rfl ⟨g7.1, f6.1.2, g7.2, (inR_c (n := 10) rfl).2⟩ ?_
    refine X_iadd (pc' := 60) dX6_climb_59 rfl ?_
    refine X_istore_n (pc' := 61) dX6_climb_60 rfl (cl rfl) (Or.inr rfl) (L' := [some (.ref (151)), some (.int (iN (v1))), some (.int (iN (v2))), some (.int (iN ((1 + (r6 / 10))))), none]) rfl ?_
    refine X_aload_n (pc' := 62) dX6_climb_61 rfl rfl ?_
    obtain ⟨z8, q8, h⟩ := bs h
    refine Y_callVv [] (pc' := 65) dX6_climb_62 rfl VX6_229 (by decide) (zlN hN (by decide)) (congrArg Prod.fst (sh151 ln)) rfl rfl rfl (cs rfl) (cs rfl) rfl (CX6_record hN f6.2 q8) (Nat.zero_add _).symm (Nat.zero_add _).symm (fun f8 => ?_)
    refine X_bipush (pc' := 67) dX6_climb_65 rfl (by decide) ?_
    refine X_bipush (pc' := 69) dX6_climb_67 rfl (by decide) ?_
    refine X_iload_n (pc' := 70) dX6_climb_69 rfl rfl ?_
    refine X_imul (pc' := 71) dX6_climb_70 rfl ?_
    refine X_iadd (pc' := 72) dX6_climb_71 rfl ?_
    refine X_istore (pc' := 74) dX6_climb_72 rfl (cl rfl) (Or.inr rfl) (L' := [some (.ref (151)), some (.int (iN (v1))), some (.int (iN (v2))), some (.int (iN ((1 + (r6 / 10))))), some (.int (iN ((38 + (18 * v2)))))]) rfl ?_
    refine X_aload_n (pc' := 75) dX6_climb_74 rfl rfl ?_
    refine Y_get (pc' := 78) dX6_climb_75 rfl FX6_16 (zlN hN (by decide)) (congrArg Prod.fst (sh151 ln)) (ct151_9 z8) ?_
    refine X_iload (pc' := 80) dX6_climb_78 rfl rfl ?_
    refine X_iconst (pc' := 81) dX6_climb_80 rfl ?_
    refine X_iadd (pc' := 82) dX6_climb_81 rfl ?_
    refine X_dup2 (pc' := 83) dX6_climb_82 rfl rfl rfl ?_
    obtain ⟨g9, h⟩ := gs h
    refine Y_iald (pc' := 84) dX6_climb_83 rfl (zlN hN (by decide)) (sh154 ln) (by decide) g9 ?_
    refine X_iload_n (pc' := 85) dX6_climb_84 rfl rfl ?_
    refine X_iadd (pc' := 86) dX6_climb_85 rfl ?_
    obtain ⟨g10, h⟩ := gs h
    refine Y_iast (pc' := 87) dX6_climb_86 rfl (zlN hN (by decide)) (sh154 ln) (by decide) g9 ?_
    obtain ⟨z11, e11, hz11, h⟩ := zl_some (P := okz) h (okz_up f8 g10)
    rw [e11]
    refine X_aload_n (pc' := 88) dX6_climb_87 rfl rfl ?_
    refine Y_get (pc' := 91) dX6_climb_88 rfl FX6_16 (zlN hN (by decide)) (congrArg Prod.fst (sh151 ln)) (ct151_9 z11) ?_
    refine X_iload (pc' := 93) dX6_climb_91 rfl rfl ?_
    refine X_iconst (pc' := 94) dX6_climb_93 rfl ?_
    refine X_iadd (pc' := 95) dX6_climb_94 rfl ?_
    refine X_dup2 (pc' := 96) dX6_climb_95 rfl rfl rfl ?_
    obtain ⟨g12, h⟩ := gs h
    refine Y_iald (pc' := 97) dX6_climb_96 rfl (zlN hN (by decide)) (sh154 ln) (by decide) g12 ?_
    refine X_iconst (pc' := 98) dX6_climb_97 rfl ?_
    refine X_iadd (pc' := 99) dX6_climb_98 rfl ?_
    obtain ⟨g13, h⟩ := gs h
    refine Y_iast (pc' := 100) dX6_climb_99 rfl (zlN hN (by decide)) (sh154 ln) (by decide) g12 ?_
    obtain ⟨z14, e14, hz14, h⟩ := zl_some (P := okz) h (okz_up hz11 g13)
    rw [e14]
    refine X_aload_n (pc' := 101) dX6_climb_100 rfl rfl ?_
    refine Y_get (pc' := 104) dX6_climb_101 rfl FX6_16 (zlN hN (by decide)) (congrArg Prod.fst (sh151 ln)) (ct151_9 z14) ?_
    refine X_iload (pc' := 106) dX6_climb_104 rfl rfl ?_
    refine X_iconst (pc' := 107) dX6_climb_106 rfl ?_
    refine X_iadd (pc' := 108) dX6_climb_107 rfl ?_
    refine X_dup2 (pc' := 109) dX6_climb_108 rfl rfl rfl ?_
    obtain ⟨g15, h⟩ := gs h
    refine Y_iald (pc' := 110) dX6_climb_109 rfl (zlN hN (by decide)) (sh154 ln) (by decide) g15 ?_
    refine X_iconst (pc' := 111) dX6_climb_110 rfl ?_
    refine X_iload_n (pc' := 112) dX6_climb_111 rfl rfl ?_
    refine X_ishl (pc' := 113) dX6_climb_112 rfl ?_
    refine X_ior (pc' := 114) dX6_climb_113 rfl ?_
    refine Y_iast (pc' := 115) dX6_climb_114 rfl (zlN hN (by decide)) (sh154 ln) (by decide) g15 ?_
    obtain ⟨z16, e16, hz16, h⟩ := zl_some (P := okz) h (okz_up hz14 (inR_zor _ _))
    rw [e16]
    refine X_aload_n (pc' := 116) dX6_climb_115 rfl rfl ?_
    refine X_iload_n (pc' := 117) dX6_climb_116 rfl rfl ?_
    refine X_iconst (pc' := 118) dX6_climb_117 rfl ?_
    refine X_aload_n (pc' := 119) dX6_climb_118 rfl rfl ?_
    refine X_iload_n (pc' := 120) dX6_climb_119 rfl rfl ?_
    refine X_iconst (pc' := 121) dX6_climb_120 rfl ?_
    obtain ⟨r17, q17, h⟩ := bs h
    refine Y_callV [.int (iN (v1)), .int (iN (2))] (pc' := 124) dX6_climb_121 rfl VX6_207 (by decide) (zlN hN (by decide)) (congrArg Prod.fst (sh151 ln)) rfl rfl rfl (cs rfl) (cs rfl) rfl (CX6_memberPart hN hz16 rv1 (inR_c (n := 2) rfl) q17) (Nat.zero_add _).symm (Nat.zero_add _).symm (fun f17 => ?_)
    refine X_iconst (pc' := 125) dX6_climb_124 rfl ?_
    refine X_iadd (pc' := 126) dX6_climb_125 rfl ?_
    obtain ⟨g18, h⟩ := gs h
    obtain ⟨z19, q19, h⟩ := bs h
    refine Y_callVv [.int (iN (v1)), .int (iN (2)), .int (iN ((r17 + 1)))] (pc' := 129) dX6_climb_126 rfl VX6_250 (by decide) (zlN hN (by decide)) (congrArg Prod.fst (sh151 ln)) rfl rfl rfl (cs rfl) (cs rfl) rfl (CX6_setMember hN hz16 rv1 (inR_c (n := 2) rfl) g18 q19) (Nat.zero_add _).symm (Nat.zero_add _).symm (fun f19 => ?_)
    refine X_aload_n (pc' := 130) dX6_climb_129 rfl rfl ?_
    refine Y_get (pc' := 133) dX6_climb_130 rfl FX6_16 (zlN hN (by decide)) (congrArg Prod.fst (sh151 ln)) (ct151_9 z19) ?_
    refine X_iload (pc' := 135) dX6_climb_133 rfl rfl ?_
    refine X_iconst (pc' := 136) dX6_climb_135 rfl ?_
    refine X_iadd (pc' := 137) dX6_climb_136 rfl ?_
    refine Y_iald (pc' := 138) dX6_climb_137 rfl (zlN hN (by decide)) (sh154 ln) (by decide) g9 ?_
    cases h
    exact X_iret dX6_climb_138 rfl (k ⟨(f19 154 (((38 + (18 * v2)) + 3)) (by decide)), f19⟩)
  have h := if_f c5 h
  refine X_iconst (pc' := 49) dX6_climb_48 rfl ?_
  cases h
  exact X_iret dX6_climb_49 rfl (k ⟨(inR_c (n := 0) rfl), f4.2⟩)
def fX6_climb_b26 (v1 : Int) (v2 : Int) (z : ZZ) : Option (Int × ZZ) := fX6_climb_b27 (v1) (v2) (0) z
set_option maxRecDepth 100000 in
theorem BX6_climb_26 {ln N : Nat} {z : ZZ} {v1 : Int} {v2 : Int} {c9 s9 : Nat} {Φ : xRes → xS → Prop} (hN : 159 ≤ N ∧ N < 999999) (hz : okz z) (rv1 : inR v1) (rv2 : inR v2) {p : Int × ZZ} (h : fX6_climb_b26 v1 v2 z = some p) (k : Fin_wi Φ ln N p) : X mX6_climb 26 [some (.ref (151)), some (.int (iN (v1))), some (.int (iN (v2))), none, none] [.ref (151)] (zmk ln N z) c9 s9 Φ := by
  unfold fX6_climb_b26 at h
  refine X_iconst (pc' := 27) dX6_climb_26 rfl ?_
  exact X_sub (sub_s (sub_s (sub_s (sub_n (sub_n sub_0))))) (BX6_climb_27 hN hz rv1 rv2 (inR_c (n := 0) rfl) h k)
def fX6_climb (v1 : Int) (v2 : Int) (z : ZZ) : Option (Int × ZZ) := (zl (zup z 151 0 (0)) fun z1 => (Option.bind (fX6_isMember (v1) z1) fun r2 => (if (r2) = (0) then fX6_climb_b26 (v1) (v2) z1 else (Option.bind (fX6_isRoute (v2) z1) fun r4 => (if (r4) = (0) then fX6_climb_b26 (v1) (v2) z1 else fX6_climb_b27 (v1) (v2) (1) z1)))))
set_option maxRecDepth 100000 in
theorem CX6_climb {ln N : Nat} {z : ZZ} {v1 : Int} {v2 : Int} (hN : 159 ≤ N ∧ N < 999999) (hz : okz z) (rv1 : inR v1) (rv2 : inR v2) {p : Int × ZZ} (h : fX6_climb v1 v2 z = some p) : X mX6_climb 0 (xEnt [.ref (151), .int (iN (v1)), .int (iN (v2))] (xL mX6_climb)) [] (zmk ln N z) (cc_wi p) (6 * cc_wi p) (Qd (fa_wi p) (rs_wi p) (st_wi ln N p)) := by
  have k : Fin_wi (Qd (fa_wi p) (rs_wi p) (st_wi ln N p)) ln N p := Fin_wi_i
  unfold fX6_climb at h
  refine X_to (M := [some (.ref (151)), some (.int (iN (v1))), some (.int (iN (v2))), none, none]) (su := []) rfl rfl ?_
  refine X_aload_n (pc' := 1) dX6_climb_0 rfl rfl ?_
  refine X_iconst (pc' := 2) dX6_climb_1 rfl ?_
  refine Y_put (k := 0) (j := 0) (v := 0) (pc' := 5) dX6_climb_2 rfl FX6_51 (zlN hN (by decide)) (congrArg Prod.fst (sh151 ln)) (fun r hr => by cases hr; rfl) (xFit_int _) rfl rfl ?_
  obtain ⟨z1, e1, hz1, h⟩ := zl_some (P := okz) h (okz_up hz (inR_c (n := 0) rfl))
  rw [e1]
  refine X_aload_n (pc' := 6) dX6_climb_5 rfl rfl ?_
  refine X_aload_n (pc' := 7) dX6_climb_6 rfl rfl ?_
  refine X_iload_n (pc' := 8) dX6_climb_7 rfl rfl ?_
  obtain ⟨r2, q2, h⟩ := bs h
  refine Y_callV [.int (iN (v1))] (pc' := 11) dX6_climb_8 rfl VX6_244 (by decide) (zlN hN (by decide)) (congrArg Prod.fst (sh151 ln)) rfl rfl rfl (cs rfl) (cs rfl) rfl (CX6_isMember hN hz1 rv1 q2) (Nat.zero_add _).symm (Nat.zero_add _).symm (fun f2 => ?_)
  refine X_if_eq dX6_climb_11 (tgt := 26) rfl (pc' := 14) rfl (inR_b f2) (fun c3 => ?_) (fun c3 => ?_)
  · have h := if_t c3 h
    exact X_sub (sub_s (sub_s (sub_s (sub_n (sub_n sub_0))))) (BX6_climb_26 hN hz1 rv1 rv2 h k)
  have h := if_f c3 h
  refine X_aload_n (pc' := 15) dX6_climb_14 rfl rfl ?_
  refine X_iload_n (pc' := 16) dX6_climb_15 rfl rfl ?_
  obtain ⟨r4, q4, h⟩ := bs h
  refine Y_callV [.int (iN (v2))] (pc' := 19) dX6_climb_16 rfl VX6_238 (by decide) (zlN hN (by decide)) (congrArg Prod.fst (sh151 ln)) rfl rfl rfl (cs rfl) (cs rfl) rfl (CX6_isRoute hN hz1 rv2 q4) (Nat.zero_add _).symm (Nat.zero_add _).symm (fun f4 => ?_)
  refine X_if_eq dX6_climb_19 (tgt := 26) rfl (pc' := 22) rfl (inR_b f4) (fun c5 => ?_) (fun c5 => ?_)
  · have h := if_t c5 h
    exact X_sub (sub_s (sub_s (sub_s (sub_n (sub_n sub_0))))) (BX6_climb_26 hN hz1 rv1 rv2 h k)
  have h := if_f c5 h
  refine X_iconst (pc' := 23) dX6_climb_22 rfl ?_
  refine X_goto dX6_climb_23 (tgt := 27) rfl ?_
  exact X_sub (sub_s (sub_s (sub_s (sub_n (sub_n sub_0))))) (BX6_climb_27 hN hz1 rv1 rv2 (inR_c (n := 1) rfl) h k)
def fX6_climbsLeft_s48 (v2 : Int) (v3 : Int) (v4 : Int) (z : ZZ) : Option ((Int × Int) ⊕ (Int)) := (if (0) < (v3) then (if inR ((v3 - v2)) then (if inR ((v4 + 1)) then some (.inl ((v3 - v2), (v4 + 1))) else none) else none) else some (.inr v4))
set_option maxRecDepth 100000 in
theorem SX6_climbsLeft_48 {ln N : Nat} {z : ZZ} {v2 : Int} {v3 : Int} {v4 : Int} {c9 s9 : Nat} {Φ : xRes → xS → Prop} (hN : 159 ≤ N ∧ N < 999999) (hz : okz z) (rv2 : inR v2) (rv3 : inR v3) (rv4 : inR v4) {p : (Int × Int) ⊕ (Int)} (h : fX6_climbsLeft_s48 v2 v3 v4 z = some p) (k1 : ∀ (v3' : Int) (v4' : Int), p = .inl (v3', v4') → inR v3' → inR v4' → X mX6_climbsLeft 48 [none, none, some (.int (iN (v2))), some (.int (iN (v3'))), some (.int (iN (v4')))] [] (zmk ln N z) c9 s9 Φ) (k2 : ∀ (v4' : Int), p = .inr v4' → inR v4' → X mX6_climbsLeft 62 [none, none, none, none, some (.int (iN (v4')))] [] (zmk ln N z) c9 s9 Φ) : X mX6_climbsLeft 48 [none, none, some (.int (iN (v2))), some (.int (iN (v3))), some (.int (iN (v4)))] [] (zmk ln N z) c9 s9 Φ := by
  unfold fX6_climbsLeft_s48 at h
  refine X_iload_n (pc' := 49) dX6_climbsLeft_48 rfl rfl ?_
  refine X_if_le dX6_climbsLeft_49 (tgt := 62) rfl (pc' := 52) rfl rv3 (fun c1 => ?_) (fun c1 => ?_)
  · have h := if_f (Int.not_lt.mpr c1) h
    cases h
    exact X_sub (sub_n (sub_n (sub_n (sub_n (sub_s sub_0))))) (k2 _ rfl rv4)
  have h := if_t c1 h
  refine X_iload_n (pc' := 53) dX6_climbsLeft_52 rfl rfl ?_
  refine X_iload_n (pc' := 54) dX6_climbsLeft_53 rfl rfl ?_
  refine X_isub (pc' := 55) dX6_climbsLeft_54 rfl ?_
  refine X_istore_n (pc' := 56) dX6_climbsLeft_55 rfl (cl rfl) (Or.inr rfl) (L' := [none, none, some (.int (iN (v2))), some (.int (iN ((v3 - v2)))), some (.int (iN (v4)))]) rfl ?_
  refine X_iinc (pc' := 59) dX6_climbsLeft_56 rfl rfl (Or.inr rfl) (L' := [none, none, some (.int (iN (v2))), some (.int (iN ((v3 - v2)))), some (.int (iN (v4 + 1)))]) rfl ?_
  refine X_goto dX6_climbsLeft_59 (tgt := 48) rfl ?_
  obtain ⟨g2, h⟩ := gs h
  obtain ⟨g3, h⟩ := gs h
  cases h
  exact X_sub (sub_n (sub_n (sub_s (sub_s (sub_s sub_0))))) (k1 _ _ rfl g2 g3)
theorem LX6_climbsLeft_48 {ln N : Nat} {z : ZZ} {v2 : Int} {c9 s9 : Nat} {Φ : xRes → xS → Prop} (hN : 159 ≤ N ∧ N < 999999) (hz : okz z) (rv2 : inR v2) {r : Int} (k2 : ∀ (v4' : Int), r = v4' → inR v4' → X mX6_climbsLeft 62 [none, none, none, none, some (.int (iN (v4')))] [] (zmk ln N z) c9 s9 Φ) : ∀ (n : Nat) (v3 : Int) (v4 : Int), inR v3 → inR v4 → zlp (fun q => fX6_climbsLeft_s48 v2 q.1 q.2 z) n (v3, v4) = some r → X mX6_climbsLeft 48 [none, none, some (.int (iN (v2))), some (.int (iN (v3))), some (.int (iN (v4)))] [] (zmk ln N z) c9 s9 Φ := by
  intro n
  induction n with
  | zero => intro v3 v4 rv3 rv4 h; cases h
  | succ n ih =>
    intro v3 v4 rv3 rv4 h
    rcases zlp_s h with ⟨⟨v3', v4'⟩, e, h'⟩ | e
    · exact SX6_climbsLeft_48 hN hz rv2 rv3 rv4 e (fun v3₁ v4₁ hh f0 f1 => by cases hh; exact ih _ _ f0 f1 h') (fun v4₁ hh f0 => by cases hh)
    · exact SX6_climbsLeft_48 hN hz rv2 rv3 rv4 e (fun v3₁ v4₁ hh f0 f1 => by cases hh) (fun v4₁ hh f0 => by cases hh; exact k2 _ rfl f0)
def fX6_climbsLeft (v1 : Int) (z : ZZ) : Option (Int × ZZ) := (zl (zup z 151 0 (0)) fun z1 => (Option.bind (fX6_isRoute (v1) z1) fun r2 => (Option.bind (fX6_fails (r2) (1) z1) fun q3 => match q3 with | (r3, z3) => (if (r3) = (0) then (Option.bind (fX6_gradeOf (v1) z3) fun q5 => match q5 with | (r5, z5) => (if (0 : Int) ≤ (r5) ∧ (0 : Int) < (10) then (Option.bind (fX6_routePart (v1) (3) z5) fun r7 => (if inR ((1 + (r5 / 10))) then (if inR (((z5 154 (2)) - r7)) then (Option.bind (zlp (fun q => fX6_climbsLeft_s48 ((1 + (r5 / 10))) q.1 q.2 z5) FU (((z5 154 (2)) - r7), 0)) fun x10_v4 => some (x10_v4, z5)) else none) else none)) else none)) else some (0, z3)))))
set_option maxRecDepth 100000 in
theorem CX6_climbsLeft {ln N : Nat} {z : ZZ} {v1 : Int} (hN : 159 ≤ N ∧ N < 999999) (hz : okz z) (rv1 : inR v1) {p : Int × ZZ} (h : fX6_climbsLeft v1 z = some p) : X mX6_climbsLeft 0 (xEnt [.ref (151), .int (iN (v1))] (xL mX6_climbsLeft)) [] (zmk ln N z) (cc_wi p) (6 * cc_wi p) (Qd (fa_wi p) (rs_wi p) (st_wi ln N p)) := by
  have k : Fin_wi (Qd (fa_wi p) (rs_wi p) (st_wi ln N p)) ln N p := Fin_wi_i
  unfold fX6_climbsLeft at h
  refine X_to (M := [some (.ref (151)), some (.int (iN (v1))), none, none, none]) (su := []) rfl rfl ?_
  refine X_aload_n (pc' := 1) dX6_climbsLeft_0 rfl rfl ?_
  refine X_iconst (pc' := 2) dX6_climbsLeft_1 rfl ?_
  refine Y_put (k := 0) (j := 0) (v := 0) (pc' := 5) dX6_climbsLeft_2 rfl FX6_51 (zlN hN (by decide)) (congrArg Prod.fst (sh151 ln)) (fun r hr => by cases hr; rfl) (xFit_int _) rfl rfl ?_
  obtain ⟨z1, e1, hz1, h⟩ := zl_some (P := okz) h (okz_up hz (inR_c (n := 0) rfl))
  rw [e1]
  refine X_aload_n (pc' := 6) dX6_climbsLeft_5 rfl rfl ?_
  refine X_aload_n (pc' := 7) dX6_climbsLeft_6 rfl rfl ?_
  refine X_iload_n (pc' := 8) dX6_climbsLeft_7 rfl rfl ?_
  obtain ⟨r2, q2, h⟩ := bs h
  refine Y_callV [.int (iN (v1))] (pc' := 11) dX6_climbsLeft_8 rfl VX6_238 (by decide) (zlN hN (by decide)) (congrArg Prod.fst (sh151 ln)) rfl rfl rfl (cs rfl) (cs rfl) rfl (CX6_isRoute hN hz1 rv1 q2) (Nat.zero_add _).symm (Nat.zero_add _).symm (fun f2 => ?_)
  refine X_iconst (pc' := 12) dX6_climbsLeft_11 rfl ?_
  obtain ⟨⟨r3, z3⟩, q3, h⟩ := bs h
  refine Y_callV [.int (iN (r2)), .int (iN (1))] (pc' := 15) dX6_climbsLeft_12 rfl VX6_62 (by decide) (zlN hN (by decide)) (congrArg Prod.fst (sh151 ln)) rfl rfl rfl (cs rfl) (cs rfl) rfl (CX6_fails hN hz1 (inR_b f2) (inR_c (n := 1) rfl) q3) (Nat.zero_add _).symm (Nat.zero_add _).symm (fun f3 => ?_)
  refine X_if_eq dX6_climbsLeft_15 (tgt := 20) rfl (pc' := 18) rfl (inR_b f3.1) (fun c4 => ?_) (fun c4 => ?_)
  · have h := if_t c4 h
    refine X_iconst (pc' := 21) dX6_climbsLeft_20 rfl ?_
    refine X_aload_n (pc' := 22) dX6_climbsLeft_21 rfl rfl ?_
    refine X_iload_n (pc' := 23) dX6_climbsLeft_22 rfl rfl ?_
    obtain ⟨⟨r5, z5⟩, q5, h⟩ := bs h
    refine Y_callV [.int (iN (v1))] (pc' := 26) dX6_climbsLeft_23 rfl VX6_232 (by decide) (zlN hN (by decide)) (congrArg Prod.fst (sh151 ln)) rfl rfl rfl (cs rfl) (cs rfl) rfl (CX6_gradeOf hN f3.2 rv1 q5) (Nat.zero_add _).symm (Nat.zero_add _).symm (fun f5 => ?_)
    refine X_bipush (pc' := 28) dX6_climbsLeft_26 rfl (by decide) ?_
    obtain ⟨g6, h⟩ := gs h
    refine X_idiv (pc' := 29) dX6_climbsLeft_28 rfl ⟨g6.1, f5.1.2, g6.2, (inR_c (n := 10) rfl).2⟩ ?_
    refine X_iadd (pc' := 30) dX6_climbsLeft_29 rfl ?_
    refine X_istore_n (pc' := 31) dX6_climbsLeft_30 rfl (cl rfl) (Or.inr rfl) (L' := [some (.ref (151)), some (.int (iN (v1))), some (.int (iN ((1 + (r5 / 10))))), none, none]) rfl ?_
    refine X_aload_n (pc' := 32) dX6_climbsLeft_31 rfl rfl ?_
    refine Y_get (pc' := 35) dX6_climbsLeft_32 rfl FX6_16 (zlN hN (by decide)) (congrArg Prod.fst (sh151 ln)) (ct151_9 z5) ?_
    refine X_iconst (pc' := 36) dX6_climbsLeft_35 rfl ?_
    refine Y_iald (pc' := 37) dX6_climbsLeft_36 rfl (zlN hN (by decide)) (sh154 ln) (by decide) ⟨by decide, by decide⟩ ?_
    refine X_aload_n (pc' := 38) dX6_climbsLeft_37 rfl rfl ?_
    refine X_iload_n (pc' := 39) dX6_climbsLeft_38 rfl rfl ?_
    refine X_iconst (pc' := 40) dX6_climbsLeft_39 rfl ?_
    obtain ⟨r7, q7, h⟩ := bs h
    refine Y_callV [.int (iN (v1)), .int (iN (3))] (pc' := 43) dX6_climbsLeft_40 rfl VX6_163 (by decide) (zlN hN (by decide)) (congrArg Prod.fst (sh151 ln)) rfl rfl rfl (cs rfl) (cs rfl) rfl (CX6_routePart hN f5.2 rv1 (inR_c (n := 3) rfl) q7) (Nat.zero_add _).symm (Nat.zero_add _).symm (fun f7 => ?_)
    refine X_isub (pc' := 44) dX6_climbsLeft_43 rfl ?_
    refine X_istore_n (pc' := 45) dX6_climbsLeft_44 rfl (cl rfl) (Or.inr rfl) (L' := [some (.ref (151)), some (.int (iN (v1))), some (.int (iN ((1 + (r5 / 10))))), some (.int (iN (((z5 154 (2)) - r7)))), none]) rfl ?_
    refine X_iconst (pc' := 46) dX6_climbsLeft_45 rfl ?_
    refine X_istore (pc' := 48) dX6_climbsLeft_46 rfl (cl rfl) (Or.inr rfl) (L' := [some (.ref (151)), some (.int (iN (v1))), some (.int (iN ((1 + (r5 / 10))))), some (.int (iN (((z5 154 (2)) - r7)))), some (.int (iN (0)))]) rfl ?_
    obtain ⟨g8, h⟩ := gs h
    obtain ⟨g9, h⟩ := gs h
    obtain ⟨x10_v4, q10, h⟩ := bs h
    refine X_sub (sub_n (sub_n (sub_s (sub_s (sub_s sub_0))))) (LX6_climbsLeft_48 hN f5.2 g8 (fun x10_v4₁ hh rx10_v4 => ?_) FU _ _ g9 (inR_c (n := 0) rfl) q10)
    cases hh
    refine X_iload (pc' := 64) dX6_climbsLeft_62 rfl rfl ?_
    cases h
    exact X_iret dX6_climbsLeft_64 rfl (k ⟨rx10_v4, f5.2⟩)
  have h := if_f c4 h
  refine X_iconst (pc' := 19) dX6_climbsLeft_18 rfl ?_
  cases h
  exact X_iret dX6_climbsLeft_19 rfl (k ⟨(inR_c (n := 0) rfl), f3.2⟩)
def fX6_common_s4 (v2 : Int) (v3 : Int) (z : ZZ) : Option ((Int × Int) ⊕ (Int)) := (if (v3) = (0) then some (.inr v2) else (if (0 : Int) ≤ (v2) ∧ (0 : Int) < (v3) then some (.inl (v3, (v2 % v3))) else none))
set_option maxRecDepth 100000 in
theorem SX6_common_4 {ln N : Nat} {z : ZZ} {v2 : Int} {v3 : Int} {c9 s9 : Nat} {Φ : xRes → xS → Prop} (hN : 159 ≤ N ∧ N < 999999) (hz : okz z) (rv2 : inR v2) (rv3 : inR v3) {p : (Int × Int) ⊕ (Int)} (h : fX6_common_s4 v2 v3 z = some p) (k1 : ∀ (v2' : Int) (v3' : Int), p = .inl (v2', v3') → inR v2' → inR v3' → X mX6_common 4 [none, none, some (.int (iN (v2'))), some (.int (iN (v3'))), none] [] (zmk ln N z) c9 s9 Φ) (k2 : ∀ (v2' : Int), p = .inr v2' → inR v2' → X mX6_common 21 [none, none, some (.int (iN (v2'))), none, none] [] (zmk ln N z) c9 s9 Φ) : X mX6_common 4 [none, none, some (.int (iN (v2))), some (.int (iN (v3))), none] [] (zmk ln N z) c9 s9 Φ := by
  unfold fX6_common_s4 at h
  refine X_iload_n (pc' := 5) dX6_common_4 rfl rfl ?_
  refine X_if_eq dX6_common_5 (tgt := 21) rfl (pc' := 8) rfl rv3 (fun c1 => ?_) (fun c1 => ?_)
  · have h := if_t c1 h
    cases h
    exact X_sub (sub_n (sub_n (sub_s (sub_n (sub_n sub_0))))) (k2 _ rfl rv2)
  have h := if_f c1 h
  refine X_iload_n (pc' := 9) dX6_common_8 rfl rfl ?_
  refine X_iload_n (pc' := 10) dX6_common_9 rfl rfl ?_
  obtain ⟨g2, h⟩ := gs h
  refine X_irem (pc' := 11) dX6_common_10 rfl ⟨g2.1, rv2.2, g2.2, rv3.2⟩ ?_
  refine X_istore (pc' := 13) dX6_common_11 rfl (cl rfl) (Or.inr rfl) (L' := [none, none, some (.int (iN (v2))), some (.int (iN (v3))), some (.int (iN ((v2 % v3))))]) rfl ?_
  refine X_iload_n (pc' := 14) dX6_common_13 rfl rfl ?_
  refine X_istore_n (pc' := 15) dX6_common_14 rfl (cl rfl) (Or.inr rfl) (L' := [none, none, some (.int (iN (v3))), some (.int (iN (v3))), some (.int (iN ((v2 % v3))))]) rfl ?_
  refine X_iload (pc' := 17) dX6_common_15 rfl rfl ?_
  refine X_istore_n (pc' := 18) dX6_common_17 rfl (cl rfl) (Or.inr rfl) (L' := [none, none, some (.int (iN (v3))), some (.int (iN ((v2 % v3)))), some (.int (iN ((v2 % v3))))]) rfl ?_
  refine X_goto dX6_common_18 (tgt := 4) rfl ?_
  cases h
  exact X_sub (sub_n (sub_n (sub_s (sub_s (sub_n sub_0))))) (k1 _ _ rfl rv3 (inR_mod g2 rv3))
theorem LX6_common_4 {ln N : Nat} {z : ZZ} {c9 s9 : Nat} {Φ : xRes → xS → Prop} (hN : 159 ≤ N ∧ N < 999999) (hz : okz z) {r : Int} (k2 : ∀ (v2' : Int), r = v2' → inR v2' → X mX6_common 21 [none, none, some (.int (iN (v2'))), none, none] [] (zmk ln N z) c9 s9 Φ) : ∀ (n : Nat) (v2 : Int) (v3 : Int), inR v2 → inR v3 → zlp (fun q => fX6_common_s4 q.1 q.2 z) n (v2, v3) = some r → X mX6_common 4 [none, none, some (.int (iN (v2))), some (.int (iN (v3))), none] [] (zmk ln N z) c9 s9 Φ := by
  intro n
  induction n with
  | zero => intro v2 v3 rv2 rv3 h; cases h
  | succ n ih =>
    intro v2 v3 rv2 rv3 h
    rcases zlp_s h with ⟨⟨v2', v3'⟩, e, h'⟩ | e
    · exact SX6_common_4 hN hz rv2 rv3 e (fun v2₁ v3₁ hh f0 f1 => by cases hh; exact ih _ _ f0 f1 h') (fun v2₁ hh f0 => by cases hh)
    · exact SX6_common_4 hN hz rv2 rv3 e (fun v2₁ v3₁ hh f0 f1 => by cases hh) (fun v2₁ hh f0 => by cases hh; exact k2 _ rfl f0)
def fX6_common (v0 : Int) (v1 : Int) (z : ZZ) : Option (Int) := (Option.bind (zlp (fun q => fX6_common_s4 q.1 q.2 z) FU (v0, v1)) fun x1_v2 => some (x1_v2))
set_option maxRecDepth 100000 in
theorem CX6_common {ln N : Nat} {z : ZZ} {v0 : Int} {v1 : Int} (hN : 159 ≤ N ∧ N < 999999) (hz : okz z) (rv0 : inR v0) (rv1 : inR v1) {p : Int} (h : fX6_common v0 v1 z = some p) : X mX6_common 0 (xEnt [.int (iN (v0)), .int (iN (v1))] (xL mX6_common)) [] (zmk ln N z) (cc_r p) (6 * cc_r p) (Qd (fa_r p) (rs_r p) (st_r ln N z p)) := by
  have k : Fin_r (Qd (fa_r p) (rs_r p) (st_r ln N z p)) ln N z p := Fin_r_i
  unfold fX6_common at h
  refine X_to (M := [some (.int (iN (v0))), some (.int (iN (v1))), none, none, none]) (su := []) rfl rfl ?_
  refine X_iload_n (pc' := 1) dX6_common_0 rfl rfl ?_
  refine X_istore_n (pc' := 2) dX6_common_1 rfl (cl rfl) (Or.inr rfl) (L' := [some (.int (iN (v0))), some (.int (iN (v1))), some (.int (iN (v0))), none, none]) rfl ?_
  refine X_iload_n (pc' := 3) dX6_common_2 rfl rfl ?_
  refine X_istore_n (pc' := 4) dX6_common_3 rfl (cl rfl) (Or.inr rfl) (L' := [some (.int (iN (v0))), some (.int (iN (v1))), some (.int (iN (v0))), some (.int (iN (v1))), none]) rfl ?_
  obtain ⟨x1_v2, q1, h⟩ := bs h
  refine X_sub (sub_n (sub_n (sub_s (sub_s (sub_n sub_0))))) (LX6_common_4 hN hz (fun x1_v2₁ hh rx1_v2 => ?_) FU _ _ rv0 rv1 q1)
  cases hh
  refine X_iload_n (pc' := 22) dX6_common_21 rfl rfl ?_
  cases h
  exact X_iret dX6_common_22 rfl (k rx1_v2)
def fX6_count (v1 : Int) (z : ZZ) : Option (Int × ZZ) := (zl (zup z 151 0 (0)) fun z1 => (if (v1) = 0 then some ((z1 154 (4)), z1) else (if (v1) = 1 then some ((z1 154 (37)), z1) else (if (v1) = 2 then some ((z1 154 (470)), z1) else (if (v1) = 3 then some ((z1 154 (546)), z1) else (if (v1) = 4 then some ((z1 154 (619)), z1) else (if (v1) = 5 then some ((z1 154 (644)), z1) else (if (v1) = 6 then some ((z1 154 (3)), z1) else (if (v1) = 7 then some ((z1 154 (0)), z1) else (if (v1) = 8 then some ((z1 154 (1)), z1) else (if (v1) = 9 then some ((z1 154 (2)), z1) else (zl (zup z1 151 0 (1)) fun z12 => some (0, z12)))))))))))))
set_option maxRecDepth 100000 in
theorem CX6_count {ln N : Nat} {z : ZZ} {v1 : Int} (hN : 159 ≤ N ∧ N < 999999) (hz : okz z) (rv1 : inR v1) {p : Int × ZZ} (h : fX6_count v1 z = some p) : X mX6_count 0 (xEnt [.ref (151), .int (iN (v1))] (xL mX6_count)) [] (zmk ln N z) (cc_wi p) (6 * cc_wi p) (Qd (fa_wi p) (rs_wi p) (st_wi ln N p)) := by
  have k : Fin_wi (Qd (fa_wi p) (rs_wi p) (st_wi ln N p)) ln N p := Fin_wi_i
  unfold fX6_count at h
  refine X_to (M := [some (.ref (151)), some (.int (iN (v1)))]) (su := []) rfl rfl ?_
  refine X_aload_n (pc' := 1) dX6_count_0 rfl rfl ?_
  refine X_iconst (pc' := 2) dX6_count_1 rfl ?_
  refine Y_put (k := 0) (j := 0) (v := 0) (pc' := 5) dX6_count_2 rfl FX6_51 (zlN hN (by decide)) (congrArg Prod.fst (sh151 ln)) (fun r hr => by cases hr; rfl) (xFit_int _) rfl rfl ?_
  obtain ⟨z1, e1, hz1, h⟩ := zl_some (P := okz) h (okz_up hz (inR_c (n := 0) rfl))
  rw [e1]
  refine X_iload_n (pc' := 6) dX6_count_5 rfl rfl ?_
  by_cases c2 : (v1) = 0
  · refine X_tableIn dX6_count_6 (off := 54) (tgt := 60) rv1 (by rw [c2]; decide) (by rw [c2]; decide) (by rw [c2]; rfl) rfl ?_
    have h := if_t c2 h
    refine X_aload_n (pc' := 61) dX6_count_60 rfl rfl ?_
    refine Y_get (pc' := 64) dX6_count_61 rfl FX6_16 (zlN hN (by decide)) (congrArg Prod.fst (sh151 ln)) (ct151_9 z1) ?_
    refine X_iconst (pc' := 65) dX6_count_64 rfl ?_
    refine Y_iald (pc' := 66) dX6_count_65 rfl (zlN hN (by decide)) (sh154 ln) (by decide) ⟨by decide, by decide⟩ ?_
    cases h
    exact X_iret dX6_count_66 rfl (k ⟨(hz1 154 (4) (by decide)), hz1⟩)
  have h := if_f c2 h
  by_cases c3 : (v1) = 1
  · refine X_tableIn dX6_count_6 (off := 61) (tgt := 67) rv1 (by rw [c3]; decide) (by rw [c3]; decide) (by rw [c3]; rfl) rfl ?_
    have h := if_t c3 h
    refine X_aload_n (pc' := 68) dX6_count_67 rfl rfl ?_
    refine Y_get (pc' := 71) dX6_count_68 rfl FX6_16 (zlN hN (by decide)) (congrArg Prod.fst (sh151 ln)) (ct151_9 z1) ?_
    refine X_bipush (pc' := 73) dX6_count_71 rfl (by decide) ?_
    refine Y_iald (pc' := 74) dX6_count_73 rfl (zlN hN (by decide)) (sh154 ln) (by decide) ⟨by decide, by decide⟩ ?_
    cases h
    exact X_iret dX6_count_74 rfl (k ⟨(hz1 154 (37) (by decide)), hz1⟩)
  have h := if_f c3 h
  by_cases c4 : (v1) = 2
  · refine X_tableIn dX6_count_6 (off := 69) (tgt := 75) rv1 (by rw [c4]; decide) (by rw [c4]; decide) (by rw [c4]; rfl) rfl ?_
    have h := if_t c4 h
    refine X_aload_n (pc' := 76) dX6_count_75 rfl rfl ?_
    refine Y_get (pc' := 79) dX6_count_76 rfl FX6_16 (zlN hN (by decide)) (congrArg Prod.fst (sh151 ln)) (ct151_9 z1) ?_
    refine X_sipush (pc' := 82) dX6_count_79 rfl (by decide) ?_
    refine Y_iald (pc' := 83) dX6_count_82 rfl (zlN hN (by decide)) (sh154 ln) (by decide) ⟨by decide, by decide⟩ ?_
    cases h
    exact X_iret dX6_count_83 rfl (k ⟨(hz1 154 (470) (by decide)), hz1⟩)
  have h := if_f c4 h
  by_cases c5 : (v1) = 3
  · refine X_tableIn dX6_count_6 (off := 78) (tgt := 84) rv1 (by rw [c5]; decide) (by rw [c5]; decide) (by rw [c5]; rfl) rfl ?_
    have h := if_t c5 h
    refine X_aload_n (pc' := 85) dX6_count_84 rfl rfl ?_
    refine Y_get (pc' := 88) dX6_count_85 rfl FX6_16 (zlN hN (by decide)) (congrArg Prod.fst (sh151 ln)) (ct151_9 z1) ?_
    refine X_sipush (pc' := 91) dX6_count_88 rfl (by decide) ?_
    refine Y_iald (pc' := 92) dX6_count_91 rfl (zlN hN (by decide)) (sh154 ln) (by decide) ⟨by decide, by decide⟩ ?_
    cases h
    exact X_iret dX6_count_92 rfl (k ⟨(hz1 154 (546) (by decide)), hz1⟩)
  have h := if_f c5 h
  by_cases c6 : (v1) = 4
  · refine X_tableIn dX6_count_6 (off := 87) (tgt := 93) rv1 (by rw [c6]; decide) (by rw [c6]; decide) (by rw [c6]; rfl) rfl ?_
    have h := if_t c6 h
    refine X_aload_n (pc' := 94) dX6_count_93 rfl rfl ?_
    refine Y_get (pc' := 97) dX6_count_94 rfl FX6_16 (zlN hN (by decide)) (congrArg Prod.fst (sh151 ln)) (ct151_9 z1) ?_
    refine X_sipush (pc' := 100) dX6_count_97 rfl (by decide) ?_
    refine Y_iald (pc' := 101) dX6_count_100 rfl (zlN hN (by decide)) (sh154 ln) (by decide) ⟨by decide, by decide⟩ ?_
    cases h
    exact X_iret dX6_count_101 rfl (k ⟨(hz1 154 (619) (by decide)), hz1⟩)
  have h := if_f c6 h
  by_cases c7 : (v1) = 5
  · refine X_tableIn dX6_count_6 (off := 96) (tgt := 102) rv1 (by rw [c7]; decide) (by rw [c7]; decide) (by rw [c7]; rfl) rfl ?_
    have h := if_t c7 h
    refine X_aload_n (pc' := 103) dX6_count_102 rfl rfl ?_
    refine Y_get (pc' := 106) dX6_count_103 rfl FX6_16 (zlN hN (by decide)) (congrArg Prod.fst (sh151 ln)) (ct151_9 z1) ?_
    refine X_sipush (pc' := 109) dX6_count_106 rfl (by decide) ?_
    refine Y_iald (pc' := 110) dX6_count_109 rfl (zlN hN (by decide)) (sh154 ln) (by decide) ⟨by decide, by decide⟩ ?_
    cases h
    exact X_iret dX6_count_110 rfl (k ⟨(hz1 154 (644) (by decide)), hz1⟩)
  have h := if_f c7 h
  by_cases c8 : (v1) = 6
  · refine X_tableIn dX6_count_6 (off := 105) (tgt := 111) rv1 (by rw [c8]; decide) (by rw [c8]; decide) (by rw [c8]; rfl) rfl ?_
    have h := if_t c8 h
    refine X_aload_n (pc' := 112) dX6_count_111 rfl rfl ?_
    refine Y_get (pc' := 115) dX6_count_112 rfl FX6_16 (zlN hN (by decide)) (congrArg Prod.fst (sh151 ln)) (ct151_9 z1) ?_
    refine X_iconst (pc' := 116) dX6_count_115 rfl ?_
    refine Y_iald (pc' := 117) dX6_count_116 rfl (zlN hN (by decide)) (sh154 ln) (by decide) ⟨by decide, by decide⟩ ?_
    cases h
    exact X_iret dX6_count_117 rfl (k ⟨(hz1 154 (3) (by decide)), hz1⟩)
  have h := if_f c8 h
  by_cases c9 : (v1) = 7
  · refine X_tableIn dX6_count_6 (off := 112) (tgt := 118) rv1 (by rw [c9]; decide) (by rw [c9]; decide) (by rw [c9]; rfl) rfl ?_
    have h := if_t c9 h
    refine X_aload_n (pc' := 119) dX6_count_118 rfl rfl ?_
    refine Y_get (pc' := 122) dX6_count_119 rfl FX6_16 (zlN hN (by decide)) (congrArg Prod.fst (sh151 ln)) (ct151_9 z1) ?_
    refine X_iconst (pc' := 123) dX6_count_122 rfl ?_
    refine Y_iald (pc' := 124) dX6_count_123 rfl (zlN hN (by decide)) (sh154 ln) (by decide) ⟨by decide, by decide⟩ ?_
    cases h
    exact X_iret dX6_count_124 rfl (k ⟨(hz1 154 (0) (by decide)), hz1⟩)
  have h := if_f c9 h
  by_cases c10 : (v1) = 8
  · refine X_tableIn dX6_count_6 (off := 119) (tgt := 125) rv1 (by rw [c10]; decide) (by rw [c10]; decide) (by rw [c10]; rfl) rfl ?_
    have h := if_t c10 h
    refine X_aload_n (pc' := 126) dX6_count_125 rfl rfl ?_
    refine Y_get (pc' := 129) dX6_count_126 rfl FX6_16 (zlN hN (by decide)) (congrArg Prod.fst (sh151 ln)) (ct151_9 z1) ?_
    refine X_iconst (pc' := 130) dX6_count_129 rfl ?_
    refine Y_iald (pc' := 131) dX6_count_130 rfl (zlN hN (by decide)) (sh154 ln) (by decide) ⟨by decide, by decide⟩ ?_
    cases h
    exact X_iret dX6_count_131 rfl (k ⟨(hz1 154 (1) (by decide)), hz1⟩)
  have h := if_f c10 h
  by_cases c11 : (v1) = 9
  · refine X_tableIn dX6_count_6 (off := 126) (tgt := 132) rv1 (by rw [c11]; decide) (by rw [c11]; decide) (by rw [c11]; rfl) rfl ?_
    have h := if_t c11 h
    refine X_aload_n (pc' := 133) dX6_count_132 rfl rfl ?_
    refine Y_get (pc' := 136) dX6_count_133 rfl FX6_16 (zlN hN (by decide)) (congrArg Prod.fst (sh151 ln)) (ct151_9 z1) ?_
    refine X_iconst (pc' := 137) dX6_count_136 rfl ?_
    refine Y_iald (pc' := 138) dX6_count_137 rfl (zlN hN (by decide)) (sh154 ln) (by decide) ⟨by decide, by decide⟩ ?_
    cases h
    exact X_iret dX6_count_138 rfl (k ⟨(hz1 154 (2) (by decide)), hz1⟩)
  have h := if_f c11 h
  refine X_tableOut dX6_count_6 (tgt := 139) rv1 (by omega) rfl ?_
  refine X_aload_n (pc' := 140) dX6_count_139 rfl rfl ?_
  refine X_iconst (pc' := 141) dX6_count_140 rfl ?_
  refine Y_put (k := 0) (j := 0) (v := 1) (pc' := 144) dX6_count_141 rfl FX6_51 (zlN hN (by decide)) (congrArg Prod.fst (sh151 ln)) (fun r hr => by cases hr; rfl) (xFit_int _) rfl rfl ?_
  obtain ⟨z12, e12, hz12, h⟩ := zl_some (P := okz) h (okz_up hz1 (inR_c (n := 1) rfl))
  rw [e12]
  refine X_iconst (pc' := 145) dX6_count_144 rfl ?_
  cases h
  exact X_iret dX6_count_145 rfl (k ⟨(inR_c (n := 0) rfl), hz12⟩)
def fX6_isCourse (v1 : Int) (z : ZZ) : Option (Int) := (if inR (((z 154 (619)) - 1)) then (Option.bind (fX6_in (v1) (0) (((z 154 (619)) - 1)) z) fun r2 => some (r2)) else none)
set_option maxRecDepth 100000 in
theorem CX6_isCourse {ln N : Nat} {z : ZZ} {v1 : Int} (hN : 159 ≤ N ∧ N < 999999) (hz : okz z) (rv1 : inR v1) {p : Int} (h : fX6_isCourse v1 z = some p) : X mX6_isCourse 0 (xEnt [.ref (151), .int (iN (v1))] (xL mX6_isCourse)) [] (zmk ln N z) (cc_b p) (6 * cc_b p) (Qd (fa_b p) (rs_b p) (st_b ln N z p)) := by
  have k : Fin_b (Qd (fa_b p) (rs_b p) (st_b ln N z p)) ln N z p := Fin_b_i
  unfold fX6_isCourse at h
  refine X_to (M := [some (.ref (151)), some (.int (iN (v1)))]) (su := []) rfl rfl ?_
  refine X_iload_n (pc' := 1) dX6_isCourse_0 rfl rfl ?_
  refine X_lI_i2l (pc' := 2) dX6_isCourse_1 rfl rv1 ?_
  refine X_lI_const (pc' := 3) dX6_isCourse_2 rfl (a := 0) rfl ?_
  refine X_aload_n (pc' := 4) dX6_isCourse_3 rfl rfl ?_
  refine Y_get (pc' := 7) dX6_isCourse_4 rfl FX6_16 (zlN hN (by decide)) (congrArg Prod.fst (sh151 ln)) (ct151_9 z) ?_
  refine X_sipush (pc' := 10) dX6_isCourse_7 rfl (by decide) ?_
  refine Y_iald (pc' := 11) dX6_isCourse_10 rfl (zlN hN (by decide)) (sh154 ln) (by decide) ⟨by decide, by decide⟩ ?_
  refine X_iconst (pc' := 12) dX6_isCourse_11 rfl ?_
  refine X_isub (pc' := 13) dX6_isCourse_12 rfl ?_
  obtain ⟨g1, h⟩ := gs h
  refine X_lI_i2l (pc' := 14) dX6_isCourse_13 rfl g1 ?_
  obtain ⟨r2, q2, h⟩ := bs h
  refine Y_callS [.long (lI (v1)), .long (lI (0)), .long (lI (((z 154 (619)) - 1)))] (pc' := 17) dX6_isCourse_14 rfl SX6_66 (by decide) rfl (cs rfl) (cs rfl) rfl (CX6_in hN hz (inL_R rv1) (inL_c (n := 0) rfl) (inL_R g1) q2) (Nat.zero_add _).symm (Nat.zero_add _).symm (fun f2 => ?_)
  cases h
  exact X_zret dX6_isCourse_17 rfl f2 (k f2)
def fX6_inCourse_b34 (v1 : Int) (v3 : Int) (s0 : Int) (s1 : Int) (z : ZZ) : Option ((Int × Int) ⊕ (Int)) := (if inR ((v3 + 1)) then some (.inl ((zor s0 s1), (v3 + 1))) else none)
set_option maxRecDepth 100000 in
theorem BX6_inCourse_34 {ln N : Nat} {z : ZZ} {v1 : Int} {v3 : Int} {s0 : Int} {s1 : Int} {c9 s9 : Nat} {Φ : xRes → xS → Prop} (hN : 159 ≤ N ∧ N < 999999) (hz : okz z) (rv1 : inR v1) (rv3 : inR v3) (rs0 : inR s0) (rs1 : inR s1) {p : (Int × Int) ⊕ (Int)} (h : fX6_inCourse_b34 v1 v3 s0 s1 z = some p) (k1 : ∀ (v2' : Int) (v3' : Int), p = .inl (v2', v3') → inR v2' → inR v3' → X mX6_inCourse 4 [some (.ref (151)), some (.int (iN (v1))), some (.int (iN (v2'))), some (.int (iN (v3')))] [] (zmk ln N z) c9 s9 Φ) (k2 : ∀ (v2' : Int), p = .inr v2' → inR v2' → X mX6_inCourse 42 [none, none, some (.int (iN (v2'))), none] [] (zmk ln N z) c9 s9 Φ) : X mX6_inCourse 34 [some (.ref (151)), some (.int (iN (v1))), none, some (.int (iN (v3)))] [.int (iN (s1)), .int (iN (s0))] (zmk ln N z) c9 s9 Φ := by
  unfold fX6_inCourse_b34 at h
  refine X_ior (pc' := 35) dX6_inCourse_34 rfl ?_
  refine X_istore_n (pc' := 36) dX6_inCourse_35 rfl (cl rfl) (Or.inr rfl) (L' := [some (.ref (151)), some (.int (iN (v1))), some (.int (iN ((zor s0 s1)))), some (.int (iN (v3)))]) rfl ?_
  refine X_iinc (pc' := 39) dX6_inCourse_36 rfl rfl (Or.inr rfl) (L' := [some (.ref (151)), some (.int (iN (v1))), some (.int (iN ((zor s0 s1)))), some (.int (iN (v3 + 1)))]) rfl ?_
  refine X_goto dX6_inCourse_39 (tgt := 4) rfl ?_
  obtain ⟨g1, h⟩ := gs h
  cases h
  exact X_sub (sub_s (sub_s (sub_s (sub_s sub_0)))) (k1 _ _ rfl (inR_zor _ _) g1)
def fX6_inCourse_s4 (v1 : Int) (v2 : Int) (v3 : Int) (z : ZZ) : Option ((Int × Int) ⊕ (Int)) := (if (v3) < ((z 154 (546))) then (Option.bind (fX6_memberPart (v3) (4) z) fun r2 => (if (r2) = (v1) then fX6_inCourse_b34 (v1) (v3) (v2) ((zshl 1 v3)) z else fX6_inCourse_b34 (v1) (v3) (v2) (0) z)) else some (.inr v2))
set_option maxRecDepth 100000 in
theorem SX6_inCourse_4 {ln N : Nat} {z : ZZ} {v1 : Int} {v2 : Int} {v3 : Int} {c9 s9 : Nat} {Φ : xRes → xS → Prop} (hN : 159 ≤ N ∧ N < 999999) (hz : okz z) (rv1 : inR v1) (rv2 : inR v2) (rv3 : inR v3) {p : (Int × Int) ⊕ (Int)} (h : fX6_inCourse_s4 v1 v2 v3 z = some p) (k1 : ∀ (v2' : Int) (v3' : Int), p = .inl (v2', v3') → inR v2' → inR v3' → X mX6_inCourse 4 [some (.ref (151)), some (.int (iN (v1))), some (.int (iN (v2'))), some (.int (iN (v3')))] [] (zmk ln N z) c9 s9 Φ) (k2 : ∀ (v2' : Int), p = .inr v2' → inR v2' → X mX6_inCourse 42 [none, none, some (.int (iN (v2'))), none] [] (zmk ln N z) c9 s9 Φ) : X mX6_inCourse 4 [some (.ref (151)), some (.int (iN (v1))), some (.int (iN (v2))), some (.int (iN (v3)))] [] (zmk ln N z) c9 s9 Φ := by
  unfold fX6_inCourse_s4 at h
  refine X_iload_n (pc' := 5) dX6_inCourse_4 rfl rfl ?_
  refine X_aload_n (pc' := 6) dX6_inCourse_5 rfl rfl ?_
  refine Y_get (pc' := 9) dX6_inCourse_6 rfl FX6_16 (zlN hN (by decide)) (congrArg Prod.fst (sh151 ln)) (ct151_9 z) ?_
  refine X_sipush (pc' := 12) dX6_inCourse_9 rfl (by decide) ?_
  refine Y_iald (pc' := 13) dX6_inCourse_12 rfl (zlN hN (by decide)) (sh154 ln) (by decide) ⟨by decide, by decide⟩ ?_
  refine X_icmp_ge dX6_inCourse_13 (tgt := 42) rfl (pc' := 16) rfl ⟨rv3.1, rv3.2, (hz 154 (546) (by decide)).1, (hz 154 (546) (by decide)).2⟩ (fun c1 => ?_) (fun c1 => ?_)
  · have h := if_f (Int.not_lt.mpr c1) h
    cases h
    exact X_sub (sub_n (sub_n (sub_s (sub_n sub_0)))) (k2 _ rfl rv2)
  have h := if_t c1 h
  refine X_iload_n (pc' := 17) dX6_inCourse_16 rfl rfl ?_
  refine X_aload_n (pc' := 18) dX6_inCourse_17 rfl rfl ?_
  refine X_iload_n (pc' := 19) dX6_inCourse_18 rfl rfl ?_
  refine X_iconst (pc' := 20) dX6_inCourse_19 rfl ?_
  obtain ⟨r2, q2, h⟩ := bs h
  refine Y_callV [.int (iN (v3)), .int (iN (4))] (pc' := 23) dX6_inCourse_20 rfl VX6_207 (by decide) (zlN hN (by decide)) (congrArg Prod.fst (sh151 ln)) rfl rfl rfl (cs rfl) (cs rfl) rfl (CX6_memberPart hN hz rv3 (inR_c (n := 4) rfl) q2) (Nat.zero_add _).symm (Nat.zero_add _).symm (fun f2 => ?_)
  refine X_iload_n (pc' := 24) dX6_inCourse_23 rfl rfl ?_
  refine X_icmp_ne dX6_inCourse_24 (tgt := 33) rfl (pc' := 27) rfl ⟨f2.1, f2.2, rv1.1, rv1.2⟩ (fun c3 => ?_) (fun c3 => ?_)
  · have h := if_f c3 h
    refine X_iconst (pc' := 34) dX6_inCourse_33 rfl ?_
    exact X_sub (sub_s (sub_s (sub_n (sub_s sub_0)))) (BX6_inCourse_34 hN hz rv1 rv3 rv2 (inR_c (n := 0) rfl) h k1 k2)
  have h := if_t c3 h
  refine X_iconst (pc' := 28) dX6_inCourse_27 rfl ?_
  refine X_iload_n (pc' := 29) dX6_inCourse_28 rfl rfl ?_
  refine X_ishl (pc' := 30) dX6_inCourse_29 rfl ?_
  refine X_goto dX6_inCourse_30 (tgt := 34) rfl ?_
  exact X_sub (sub_s (sub_s (sub_n (sub_s sub_0)))) (BX6_inCourse_34 hN hz rv1 rv3 rv2 (inR_zshl _ _) h k1 k2)
theorem LX6_inCourse_4 {ln N : Nat} {z : ZZ} {v1 : Int} {c9 s9 : Nat} {Φ : xRes → xS → Prop} (hN : 159 ≤ N ∧ N < 999999) (hz : okz z) (rv1 : inR v1) {r : Int} (k2 : ∀ (v2' : Int), r = v2' → inR v2' → X mX6_inCourse 42 [none, none, some (.int (iN (v2'))), none] [] (zmk ln N z) c9 s9 Φ) : ∀ (n : Nat) (v2 : Int) (v3 : Int), inR v2 → inR v3 → zlp (fun q => fX6_inCourse_s4 v1 q.1 q.2 z) n (v2, v3) = some r → X mX6_inCourse 4 [some (.ref (151)), some (.int (iN (v1))), some (.int (iN (v2))), some (.int (iN (v3)))] [] (zmk ln N z) c9 s9 Φ := by
  intro n
  induction n with
  | zero => intro v2 v3 rv2 rv3 h; cases h
  | succ n ih =>
    intro v2 v3 rv2 rv3 h
    rcases zlp_s h with ⟨⟨v2', v3'⟩, e, h'⟩ | e
    · exact SX6_inCourse_4 hN hz rv1 rv2 rv3 e (fun v2₁ v3₁ hh f0 f1 => by cases hh; exact ih _ _ f0 f1 h') (fun v2₁ hh f0 => by cases hh)
    · exact SX6_inCourse_4 hN hz rv1 rv2 rv3 e (fun v2₁ v3₁ hh f0 f1 => by cases hh) (fun v2₁ hh f0 => by cases hh; exact k2 _ rfl f0)
def fX6_inCourse (v1 : Int) (z : ZZ) : Option (Int) := (Option.bind (zlp (fun q => fX6_inCourse_s4 (v1) q.1 q.2 z) FU (0, 0)) fun x1_v2 => some (x1_v2))
set_option maxRecDepth 100000 in
theorem CX6_inCourse {ln N : Nat} {z : ZZ} {v1 : Int} (hN : 159 ≤ N ∧ N < 999999) (hz : okz z) (rv1 : inR v1) {p : Int} (h : fX6_inCourse v1 z = some p) : X mX6_inCourse 0 (xEnt [.ref (151), .int (iN (v1))] (xL mX6_inCourse)) [] (zmk ln N z) (cc_r p) (6 * cc_r p) (Qd (fa_r p) (rs_r p) (st_r ln N z p)) := by
  have k : Fin_r (Qd (fa_r p) (rs_r p) (st_r ln N z p)) ln N z p := Fin_r_i
  unfold fX6_inCourse at h
  refine X_to (M := [some (.ref (151)), some (.int (iN (v1))), none, none]) (su := []) rfl rfl ?_
  refine X_iconst (pc' := 1) dX6_inCourse_0 rfl ?_
  refine X_istore_n (pc' := 2) dX6_inCourse_1 rfl (cl rfl) (Or.inr rfl) (L' := [some (.ref (151)), some (.int (iN (v1))), some (.int (iN (0))), none]) rfl ?_
  refine X_iconst (pc' := 3) dX6_inCourse_2 rfl ?_
  refine X_istore_n (pc' := 4) dX6_inCourse_3 rfl (cl rfl) (Or.inr rfl) (L' := [some (.ref (151)), some (.int (iN (v1))), some (.int (iN (0))), some (.int (iN (0)))]) rfl ?_
  obtain ⟨x1_v2, q1, h⟩ := bs h
  refine X_sub (sub_s (sub_s (sub_s (sub_s sub_0)))) (LX6_inCourse_4 hN hz rv1 (fun x1_v2₁ hh rx1_v2 => ?_) FU _ _ (inR_c (n := 0) rfl) (inR_c (n := 0) rfl) q1)
  cases hh
  refine X_iload_n (pc' := 43) dX6_inCourse_42 rfl rfl ?_
  cases h
  exact X_iret dX6_inCourse_43 rfl (k rx1_v2)
def fX6_coursePart (v1 : Int) (v2 : Int) (z : ZZ) : Option (Int) := (if (0 : Int) ≤ (((620 + (3 * v1)) + v2)) ∧ (((620 + (3 * v1)) + v2)) < (765 : Int) then some ((z 154 (((620 + (3 * v1)) + v2)))) else none)
set_option maxRecDepth 100000 in
theorem CX6_coursePart {ln N : Nat} {z : ZZ} {v1 : Int} {v2 : Int} (hN : 159 ≤ N ∧ N < 999999) (hz : okz z) (rv1 : inR v1) (rv2 : inR v2) {p : Int} (h : fX6_coursePart v1 v2 z = some p) : X mX6_coursePart 0 (xEnt [.ref (151), .int (iN (v1)), .int (iN (v2))] (xL mX6_coursePart)) [] (zmk ln N z) (cc_r p) (6 * cc_r p) (Qd (fa_r p) (rs_r p) (st_r ln N z p)) := by
  have k : Fin_r (Qd (fa_r p) (rs_r p) (st_r ln N z p)) ln N z p := Fin_r_i
  unfold fX6_coursePart at h
  refine X_to (M := [some (.ref (151)), some (.int (iN (v1))), some (.int (iN (v2)))]) (su := []) rfl rfl ?_
  refine X_aload_n (pc' := 1) dX6_coursePart_0 rfl rfl ?_
  refine Y_get (pc' := 4) dX6_coursePart_1 rfl FX6_16 (zlN hN (by decide)) (congrArg Prod.fst (sh151 ln)) (ct151_9 z) ?_
  refine X_sipush (pc' := 7) dX6_coursePart_4 rfl (by decide) ?_
  refine X_iconst (pc' := 8) dX6_coursePart_7 rfl ?_
  refine X_iload_n (pc' := 9) dX6_coursePart_8 rfl rfl ?_
  refine X_imul (pc' := 10) dX6_coursePart_9 rfl ?_
  refine X_iadd (pc' := 11) dX6_coursePart_10 rfl ?_
  refine X_iload_n (pc' := 12) dX6_coursePart_11 rfl rfl ?_
  refine X_iadd (pc' := 13) dX6_coursePart_12 rfl ?_
  obtain ⟨g1, h⟩ := gs h
  refine Y_iald (pc' := 14) dX6_coursePart_13 rfl (zlN hN (by decide)) (sh154 ln) (by decide) g1 ?_
  cases h
  exact X_iret dX6_coursePart_14 rfl (k (hz 154 (((620 + (3 * v1)) + v2)) (by decide)))
def fX6_course (v1 : Int) (v2 : Int) (z : ZZ) : Option (Int × ZZ) := (zl (zup z 151 0 (0)) fun z1 => (Option.bind (fX6_isCourse (v1) z1) fun r2 => (Option.bind (fX6_fails (r2) (1) z1) fun q3 => match q3 with | (r3, z3) => (if (r3) = (0) then (Option.bind (fX6_in (v2) (0) (3) z3) fun r5 => (Option.bind (fX6_fails (r5) (2) z3) fun q6 => match q6 with | (r6, z6) => (if (r6) = (0) then (if (v2) = (3) then (Option.bind (fX6_inCourse (v1) z6) fun r10 => some (r10, z6)) else (Option.bind (fX6_coursePart (v1) (v2) z6) fun r9 => some (r9, z6))) else some (0, z6)))) else some (0, z3)))))
set_option maxRecDepth 100000 in
theorem CX6_course {ln N : Nat} {z : ZZ} {v1 : Int} {v2 : Int} (hN : 159 ≤ N ∧ N < 999999) (hz : okz z) (rv1 : inR v1) (rv2 : inR v2) {p : Int × ZZ} (h : fX6_course v1 v2 z = some p) : X mX6_course 0 (xEnt [.ref (151), .int (iN (v1)), .int (iN (v2))] (xL mX6_course)) [] (zmk ln N z) (cc_wi p) (6 * cc_wi p) (Qd (fa_wi p) (rs_wi p) (st_wi ln N p)) := by
  have k : Fin_wi (Qd (fa_wi p) (rs_wi p) (st_wi ln N p)) ln N p := Fin_wi_i
  unfold fX6_course at h
  refine X_to (M := [some (.ref (151)), some (.int (iN (v1))), some (.int (iN (v2)))]) (su := []) rfl rfl ?_
  refine X_aload_n (pc' := 1) dX6_course_0 rfl rfl ?_
  refine X_iconst (pc' := 2) dX6_course_1 rfl ?_
  refine Y_put (k := 0) (j := 0) (v := 0) (pc' := 5) dX6_course_2 rfl FX6_51 (zlN hN (by decide)) (congrArg Prod.fst (sh151 ln)) (fun r hr => by cases hr; rfl) (xFit_int _) rfl rfl ?_
  obtain ⟨z1, e1, hz1, h⟩ := zl_some (P := okz) h (okz_up hz (inR_c (n := 0) rfl))
  rw [e1]
  refine X_aload_n (pc' := 6) dX6_course_5 rfl rfl ?_
  refine X_aload_n (pc' := 7) dX6_course_6 rfl rfl ?_
  refine X_iload_n (pc' := 8) dX6_course_7 rfl rfl ?_
  obtain ⟨r2, q2, h⟩ := bs h
  refine Y_callV [.int (iN (v1))] (pc' := 11) dX6_course_8 rfl VX6_277 (by decide) (zlN hN (by decide)) (congrArg Prod.fst (sh151 ln)) rfl rfl rfl (cs rfl) (cs rfl) rfl (CX6_isCourse hN hz1 rv1 q2) (Nat.zero_add _).symm (Nat.zero_add _).symm (fun f2 => ?_)
  refine X_iconst (pc' := 12) dX6_course_11 rfl ?_
  obtain ⟨⟨r3, z3⟩, q3, h⟩ := bs h
  refine Y_callV [.int (iN (r2)), .int (iN (1))] (pc' := 15) dX6_course_12 rfl VX6_62 (by decide) (zlN hN (by decide)) (congrArg Prod.fst (sh151 ln)) rfl rfl rfl (cs rfl) (cs rfl) rfl (CX6_fails hN hz1 (inR_b f2) (inR_c (n := 1) rfl) q3) (Nat.zero_add _).symm (Nat.zero_add _).symm (fun f3 => ?_)
  refine X_if_ne dX6_course_15 (tgt := 35) rfl (pc' := 18) rfl (inR_b f3.1) (fun c4 => ?_) (fun c4 => ?_)
  · have h := if_f c4 h
    refine X_iconst (pc' := 36) dX6_course_35 rfl ?_
    cases h
    exact X_iret dX6_course_36 rfl (k ⟨(inR_c (n := 0) rfl), f3.2⟩)
  have h := if_t c4 h
  refine X_aload_n (pc' := 19) dX6_course_18 rfl rfl ?_
  refine X_iload_n (pc' := 20) dX6_course_19 rfl rfl ?_
  refine X_lI_i2l (pc' := 21) dX6_course_20 rfl rv2 ?_
  refine X_lI_const (pc' := 22) dX6_course_21 rfl (a := 0) rfl ?_
  refine X_ldc2 (pc' := 25) dX6_course_22 rfl tq1544 (n := 3) rfl ?_
  obtain ⟨r5, q5, h⟩ := bs h
  refine Y_callS [.long (lI (v2)), .long (lI (0)), .long (lI (3))] (pc' := 28) dX6_course_25 rfl SX6_66 (by decide) rfl (cs rfl) (cs rfl) rfl (CX6_in hN f3.2 (inL_R rv2) (inL_c (n := 0) rfl) (inL_c (n := 3) rfl) q5) (Nat.zero_add _).symm (Nat.zero_add _).symm (fun f5 => ?_)
  refine X_iconst (pc' := 29) dX6_course_28 rfl ?_
  obtain ⟨⟨r6, z6⟩, q6, h⟩ := bs h
  refine Y_callV [.int (iN (r5)), .int (iN (2))] (pc' := 32) dX6_course_29 rfl VX6_62 (by decide) (zlN hN (by decide)) (congrArg Prod.fst (sh151 ln)) rfl rfl rfl (cs rfl) (cs rfl) rfl (CX6_fails hN f3.2 (inR_b f5) (inR_c (n := 2) rfl) q6) (Nat.zero_add _).symm (Nat.zero_add _).symm (fun f6 => ?_)
  refine X_if_eq dX6_course_32 (tgt := 37) rfl (pc' := 35) rfl (inR_b f6.1) (fun c7 => ?_) (fun c7 => ?_)
  · have h := if_t c7 h
    refine X_iload_n (pc' := 38) dX6_course_37 rfl rfl ?_
    refine X_iconst (pc' := 39) dX6_course_38 rfl ?_
    refine X_icmp_ne dX6_course_39 (tgt := 50) rfl (pc' := 42) rfl ⟨rv2.1, rv2.2, (inR_c (n := 3) rfl).1, (inR_c (n := 3) rfl).2⟩ (fun c8 => ?_) (fun c8 => ?_)
    · have h := if_f c8 h
      refine X_aload_n (pc' := 51) dX6_course_50 rfl rfl ?_
      refine X_iload_n (pc' := 52) dX6_course_51 rfl rfl ?_
      refine X_iload_n (pc' := 53) dX6_course_52 rfl rfl ?_
      obtain ⟨r9, q9, h⟩ := bs h
      refine Y_callV [.int (iN (v1)), .int (iN (v2))] (pc' := 56) dX6_course_53 rfl VX6_268 (by decide) (zlN hN (by decide)) (congrArg Prod.fst (sh151 ln)) rfl rfl rfl (cs rfl) (cs rfl) rfl (CX6_coursePart hN f6.2 rv1 rv2 q9) (Nat.zero_add _).symm (Nat.zero_add _).symm (fun f9 => ?_)
      cases h
      exact X_iret dX6_course_56 rfl (k ⟨f9, f6.2⟩)
    have h := if_t c8 h
    refine X_aload_n (pc' := 43) dX6_course_42 rfl rfl ?_
    refine X_iload_n (pc' := 44) dX6_course_43 rfl rfl ?_
    obtain ⟨r10, q10, h⟩ := bs h
    refine Y_callV [.int (iN (v1))] (pc' := 47) dX6_course_44 rfl VX6_271 (by decide) (zlN hN (by decide)) (congrArg Prod.fst (sh151 ln)) rfl rfl rfl (cs rfl) (cs rfl) rfl (CX6_inCourse hN f6.2 rv1 q10) (Nat.zero_add _).symm (Nat.zero_add _).symm (fun f10 => ?_)
    refine X_goto dX6_course_47 (tgt := 56) rfl ?_
    cases h
    exact X_iret dX6_course_56 rfl (k ⟨f10, f6.2⟩)
  have h := if_f c7 h
  refine X_iconst (pc' := 36) dX6_course_35 rfl ?_
  cases h
  exact X_iret dX6_course_36 rfl (k ⟨(inR_c (n := 0) rfl), f6.2⟩)
def fX6_votesOf_b35 (v1 : Int) (v3 : Int) (s0 : Int) (s1 : Int) (z : ZZ) : Option ((Int × Int) ⊕ (Int)) := (if inR ((s0 + s1)) then (if inR ((v3 + 1)) then some (.inl ((s0 + s1), (v3 + 1))) else none) else none)
set_option maxRecDepth 100000 in
theorem BX6_votesOf_35 {ln N : Nat} {z : ZZ} {v1 : Int} {v3 : Int} {s0 : Int} {s1 : Int} {c9 s9 : Nat} {Φ : xRes → xS → Prop} (hN : 159 ≤ N ∧ N < 999999) (hz : okz z) (rv1 : inR v1) (rv3 : inR v3) (rs0 : inR s0) (rs1 : inR s1) {p : (Int × Int) ⊕ (Int)} (h : fX6_votesOf_b35 v1 v3 s0 s1 z = some p) (k1 : ∀ (v2' : Int) (v3' : Int), p = .inl (v2', v3') → inR v2' → inR v3' → X mX6_votesOf 4 [some (.ref (151)), some (.int (iN (v1))), some (.int (iN (v2'))), some (.int (iN (v3')))] [] (zmk ln N z) c9 s9 Φ) (k2 : ∀ (v2' : Int), p = .inr v2' → inR v2' → X mX6_votesOf 43 [none, none, some (.int (iN (v2'))), none] [] (zmk ln N z) c9 s9 Φ) : X mX6_votesOf 35 [some (.ref (151)), some (.int (iN (v1))), none, some (.int (iN (v3)))] [.int (iN (s1)), .int (iN (s0))] (zmk ln N z) c9 s9 Φ := by
  unfold fX6_votesOf_b35 at h
  refine X_iadd (pc' := 36) dX6_votesOf_35 rfl ?_
  refine X_istore_n (pc' := 37) dX6_votesOf_36 rfl (cl rfl) (Or.inr rfl) (L' := [some (.ref (151)), some (.int (iN (v1))), some (.int (iN ((s0 + s1)))), some (.int (iN (v3)))]) rfl ?_
  refine X_iinc (pc' := 40) dX6_votesOf_37 rfl rfl (Or.inr rfl) (L' := [some (.ref (151)), some (.int (iN (v1))), some (.int (iN ((s0 + s1)))), some (.int (iN (v3 + 1)))]) rfl ?_
  refine X_goto dX6_votesOf_40 (tgt := 4) rfl ?_
  obtain ⟨g1, h⟩ := gs h
  obtain ⟨g2, h⟩ := gs h
  cases h
  exact X_sub (sub_s (sub_s (sub_s (sub_s sub_0)))) (k1 _ _ rfl g1 g2)
def fX6_votesOf_s4 (v1 : Int) (v2 : Int) (v3 : Int) (z : ZZ) : Option ((Int × Int) ⊕ (Int)) := (if (v3) < ((z 154 (546))) then (if inR ((6 + v3)) then (Option.bind (fX6_routePart (v1) ((6 + v3)) z) fun r3 => (if (r3) = ((-1)) then fX6_votesOf_b35 (v1) (v3) (v2) (0) z else fX6_votesOf_b35 (v1) (v3) (v2) (1) z)) else none) else some (.inr v2))
set_option maxRecDepth 100000 in
theorem SX6_votesOf_4 {ln N : Nat} {z : ZZ} {v1 : Int} {v2 : Int} {v3 : Int} {c9 s9 : Nat} {Φ : xRes → xS → Prop} (hN : 159 ≤ N ∧ N < 999999) (hz : okz z) (rv1 : inR v1) (rv2 : inR v2) (rv3 : inR v3) {p : (Int × Int) ⊕ (Int)} (h : fX6_votesOf_s4 v1 v2 v3 z = some p) (k1 : ∀ (v2' : Int) (v3' : Int), p = .inl (v2', v3') → inR v2' → inR v3' → X mX6_votesOf 4 [some (.ref (151)), some (.int (iN (v1))), some (.int (iN (v2'))), some (.int (iN (v3')))] [] (zmk ln N z) c9 s9 Φ) (k2 : ∀ (v2' : Int), p = .inr v2' → inR v2' → X mX6_votesOf 43 [none, none, some (.int (iN (v2'))), none] [] (zmk ln N z) c9 s9 Φ) : X mX6_votesOf 4 [some (.ref (151)), some (.int (iN (v1))), some (.int (iN (v2))), some (.int (iN (v3)))] [] (zmk ln N z) c9 s9 Φ := by
  unfold fX6_votesOf_s4 at h
  refine X_iload_n (pc' := 5) dX6_votesOf_4 rfl rfl ?_
  refine X_aload_n (pc' := 6) dX6_votesOf_5 rfl rfl ?_
  refine Y_get (pc' := 9) dX6_votesOf_6 rfl FX6_16 (zlN hN (by decide)) (congrArg Prod.fst (sh151 ln)) (ct151_9 z) ?_
  refine X_sipush (pc' := 12) dX6_votesOf_9 rfl (by decide) ?_
  refine Y_iald (pc' := 13) dX6_votesOf_12 rfl (zlN hN (by decide)) (sh154 ln) (by decide) ⟨by decide, by decide⟩ ?_
  refine X_icmp_ge dX6_votesOf_13 (tgt := 43) rfl (pc' := 16) rfl ⟨rv3.1, rv3.2, (hz 154 (546) (by decide)).1, (hz 154 (546) (by decide)).2⟩ (fun c1 => ?_) (fun c1 => ?_)
  · have h := if_f (Int.not_lt.mpr c1) h
    cases h
    exact X_sub (sub_n (sub_n (sub_s (sub_n sub_0)))) (k2 _ rfl rv2)
  have h := if_t c1 h
  refine X_iload_n (pc' := 17) dX6_votesOf_16 rfl rfl ?_
  refine X_aload_n (pc' := 18) dX6_votesOf_17 rfl rfl ?_
  refine X_iload_n (pc' := 19) dX6_votesOf_18 rfl rfl ?_
  refine X_bipush (pc' := 21) dX6_votesOf_19 rfl (by decide) ?_
  refine X_iload_n (pc' := 22) dX6_votesOf_21 rfl rfl ?_
  refine X_iadd (pc' := 23) dX6_votesOf_22 rfl ?_
  obtain ⟨g2, h⟩ := gs h
  obtain ⟨r3, q3, h⟩ := bs h
  refine Y_callV [.int (iN (v1)), .int (iN ((6 + v3)))] (pc' := 26) dX6_votesOf_23 rfl VX6_163 (by decide) (zlN hN (by decide)) (congrArg Prod.fst (sh151 ln)) rfl rfl rfl (cs rfl) (cs rfl) rfl (CX6_routePart hN hz rv1 g2 q3) (Nat.zero_add _).symm (Nat.zero_add _).symm (fun f3 => ?_)
  refine X_iconst (pc' := 27) dX6_votesOf_26 rfl ?_
  refine X_icmp_eq dX6_votesOf_27 (tgt := 34) rfl (pc' := 30) rfl ⟨f3.1, f3.2, (inR_c (n := (-1)) rfl).1, (inR_c (n := (-1)) rfl).2⟩ (fun c4 => ?_) (fun c4 => ?_)
  · have h := if_t c4 h
    refine X_iconst (pc' := 35) dX6_votesOf_34 rfl ?_
    exact X_sub (sub_s (sub_s (sub_n (sub_s sub_0)))) (BX6_votesOf_35 hN hz rv1 rv3 rv2 (inR_c (n := 0) rfl) h k1 k2)
  have h := if_f c4 h
  refine X_iconst (pc' := 31) dX6_votesOf_30 rfl ?_
  refine X_goto dX6_votesOf_31 (tgt := 35) rfl ?_
  exact X_sub (sub_s (sub_s (sub_n (sub_s sub_0)))) (BX6_votesOf_35 hN hz rv1 rv3 rv2 (inR_c (n := 1) rfl) h k1 k2)
theorem LX6_votesOf_4 {ln N : Nat} {z : ZZ} {v1 : Int} {c9 s9 : Nat} {Φ : xRes → xS → Prop} (hN : 159 ≤ N ∧ N < 999999) (hz : okz z) (rv1 : inR v1) {r : Int} (k2 : ∀ (v2' : Int), r = v2' → inR v2' → X mX6_votesOf 43 [none, none, some (.int (iN (v2'))), none] [] (zmk ln N z) c9 s9 Φ) : ∀ (n : Nat) (v2 : Int) (v3 : Int), inR v2 → inR v3 → zlp (fun q => fX6_votesOf_s4 v1 q.1 q.2 z) n (v2, v3) = some r → X mX6_votesOf 4 [some (.ref (151)), some (.int (iN (v1))), some (.int (iN (v2))), some (.int (iN (v3)))] [] (zmk ln N z) c9 s9 Φ := by
  intro n
  induction n with
  | zero => intro v2 v3 rv2 rv3 h; cases h
  | succ n ih =>
    intro v2 v3 rv2 rv3 h
    rcases zlp_s h with ⟨⟨v2', v3'⟩, e, h'⟩ | e
    · exact SX6_votesOf_4 hN hz rv1 rv2 rv3 e (fun v2₁ v3₁ hh f0 f1 => by cases hh; exact ih _ _ f0 f1 h') (fun v2₁ hh f0 => by cases hh)
    · exact SX6_votesOf_4 hN hz rv1 rv2 rv3 e (fun v2₁ v3₁ hh f0 f1 => by cases hh) (fun v2₁ hh f0 => by cases hh; exact k2 _ rfl f0)
def fX6_votesOf (v1 : Int) (z : ZZ) : Option (Int) := (Option.bind (zlp (fun q => fX6_votesOf_s4 (v1) q.1 q.2 z) FU (0, 0)) fun x1_v2 => some (x1_v2))
set_option maxRecDepth 100000 in
theorem CX6_votesOf {ln N : Nat} {z : ZZ} {v1 : Int} (hN : 159 ≤ N ∧ N < 999999) (hz : okz z) (rv1 : inR v1) {p : Int} (h : fX6_votesOf v1 z = some p) : X mX6_votesOf 0 (xEnt [.ref (151), .int (iN (v1))] (xL mX6_votesOf)) [] (zmk ln N z) (cc_r p) (6 * cc_r p) (Qd (fa_r p) (rs_r p) (st_r ln N z p)) := by
  have k : Fin_r (Qd (fa_r p) (rs_r p) (st_r ln N z p)) ln N z p := Fin_r_i
  unfold fX6_votesOf at h
  refine X_to (M := [some (.ref (151)), some (.int (iN (v1))), none, none]) (su := []) rfl rfl ?_
  refine X_iconst (pc' := 1) dX6_votesOf_0 rfl ?_
  refine X_istore_n (pc' := 2) dX6_votesOf_1 rfl (cl rfl) (Or.inr rfl) (L' := [some (.ref (151)), some (.int (iN (v1))), some (.int (iN (0))), none]) rfl ?_
  refine X_iconst (pc' := 3) dX6_votesOf_2 rfl ?_
  refine X_istore_n (pc' := 4) dX6_votesOf_3 rfl (cl rfl) (Or.inr rfl) (L' := [some (.ref (151)), some (.int (iN (v1))), some (.int (iN (0))), some (.int (iN (0)))]) rfl ?_
  obtain ⟨x1_v2, q1, h⟩ := bs h
  refine X_sub (sub_s (sub_s (sub_s (sub_s sub_0)))) (LX6_votesOf_4 hN hz rv1 (fun x1_v2₁ hh rx1_v2 => ?_) FU _ _ (inR_c (n := 0) rfl) (inR_c (n := 0) rfl) q1)
  cases hh
  refine X_iload_n (pc' := 44) dX6_votesOf_43 rfl rfl ?_
  cases h
  exact X_iret dX6_votesOf_44 rfl (k rx1_v2)
def fX6_spread_b53 (v1 : Int) (v2 : Int) (v3 : Int) (v4 : Int) (z : ZZ) : Option ((Int × Int × Int) ⊕ (Int × Int)) := (if inR ((v4 + 1)) then some (.inl (v2, v3, (v4 + 1))) else none)
set_option maxRecDepth 100000 in
theorem BX6_spread_53 {ln N : Nat} {z : ZZ} {v1 : Int} {v2 : Int} {v3 : Int} {v4 : Int} {c9 s9 : Nat} {Φ : xRes → xS → Prop} (hN : 159 ≤ N ∧ N < 999999) (hz : okz z) (rv1 : inR v1) (rv2 : inR v2) (rv3 : inR v3) (rv4 : inR v4) {p : (Int × Int × Int) ⊕ (Int × Int)} (h : fX6_spread_b53 v1 v2 v3 v4 z = some p) (k1 : ∀ (v2' : Int) (v3' : Int) (v4' : Int), p = .inl (v2', v3', v4') → inR v2' → inR v3' → inR v4' → X mX6_spread 8 [some (.ref (151)), some (.int (iN (v1))), some (.int (iN (v2'))), some (.int (iN (v3'))), some (.int (iN (v4'))), none] [] (zmk ln N z) c9 s9 Φ) (k2 : ∀ (v2' : Int) (v3' : Int), p = .inr (v2', v3') → inR v2' → inR v3' → X mX6_spread 59 [some (.ref (151)), some (.int (iN (v1))), some (.int (iN (v2'))), some (.int (iN (v3'))), none, none] [] (zmk ln N z) c9 s9 Φ) : X mX6_spread 53 [some (.ref (151)), some (.int (iN (v1))), some (.int (iN (v2))), some (.int (iN (v3))), some (.int (iN (v4))), none] [] (zmk ln N z) c9 s9 Φ := by
  unfold fX6_spread_b53 at h
  refine X_iinc (pc' := 56) dX6_spread_53 rfl rfl (Or.inr rfl) (L' := [some (.ref (151)), some (.int (iN (v1))), some (.int (iN (v2))), some (.int (iN (v3))), some (.int (iN (v4 + 1))), none]) rfl ?_
  refine X_goto dX6_spread_56 (tgt := 8) rfl ?_
  obtain ⟨g1, h⟩ := gs h
  cases h
  exact X_sub (sub_s (sub_s (sub_s (sub_s (sub_s (sub_n sub_0)))))) (k1 _ _ _ rfl rv2 rv3 g1)
def fX6_spread_s8 (v1 : Int) (v2 : Int) (v3 : Int) (v4 : Int) (z : ZZ) : Option ((Int × Int × Int) ⊕ (Int × Int)) := (if (v4) < ((z 154 (546))) then (if inR ((6 + v4)) then (Option.bind (fX6_routePart (v1) ((6 + v4)) z) fun r3 => (if (r3) = ((-1)) then fX6_spread_b53 (v1) (v2) (v3) (v4) z else fX6_spread_b53 (v1) ((min (v2) (r3))) ((max (v3) (r3))) (v4) z)) else none) else some (.inr (v2, v3)))
set_option maxRecDepth 100000 in
theorem SX6_spread_8 {ln N : Nat} {z : ZZ} {v1 : Int} {v2 : Int} {v3 : Int} {v4 : Int} {c9 s9 : Nat} {Φ : xRes → xS → Prop} (hN : 159 ≤ N ∧ N < 999999) (hz : okz z) (rv1 : inR v1) (rv2 : inR v2) (rv3 : inR v3) (rv4 : inR v4) {p : (Int × Int × Int) ⊕ (Int × Int)} (h : fX6_spread_s8 v1 v2 v3 v4 z = some p) (k1 : ∀ (v2' : Int) (v3' : Int) (v4' : Int), p = .inl (v2', v3', v4') → inR v2' → inR v3' → inR v4' → X mX6_spread 8 [some (.ref (151)), some (.int (iN (v1))), some (.int (iN (v2'))), some (.int (iN (v3'))), some (.int (iN (v4'))), none] [] (zmk ln N z) c9 s9 Φ) (k2 : ∀ (v2' : Int) (v3' : Int), p = .inr (v2', v3') → inR v2' → inR v3' → X mX6_spread 59 [some (.ref (151)), some (.int (iN (v1))), some (.int (iN (v2'))), some (.int (iN (v3'))), none, none] [] (zmk ln N z) c9 s9 Φ) : X mX6_spread 8 [some (.ref (151)), some (.int (iN (v1))), some (.int (iN (v2))), some (.int (iN (v3))), some (.int (iN (v4))), none] [] (zmk ln N z) c9 s9 Φ := by
  unfold fX6_spread_s8 at h
  refine X_iload (pc' := 10) dX6_spread_8 rfl rfl ?_
  refine X_aload_n (pc' := 11) dX6_spread_10 rfl rfl ?_
  refine Y_get (pc' := 14) dX6_spread_11 rfl FX6_16 (zlN hN (by decide)) (congrArg Prod.fst (sh151 ln)) (ct151_9 z) ?_
  refine X_sipush (pc' := 17) dX6_spread_14 rfl (by decide) ?_
  refine Y_iald (pc' := 18) dX6_spread_17 rfl (zlN hN (by decide)) (sh154 ln) (by decide) ⟨by decide, by decide⟩ ?_
  refine X_icmp_ge dX6_spread_18 (tgt := 59) rfl (pc' := 21) rfl ⟨rv4.1, rv4.2, (hz 154 (546) (by decide)).1, (hz 154 (546) (by decide)).2⟩ (fun c1 => ?_) (fun c1 => ?_)
  · have h := if_f (Int.not_lt.mpr c1) h
    cases h
    exact X_sub (sub_s (sub_s (sub_s (sub_s (sub_n (sub_n sub_0)))))) (k2 _ _ rfl rv2 rv3)
  have h := if_t c1 h
  refine X_aload_n (pc' := 22) dX6_spread_21 rfl rfl ?_
  refine X_iload_n (pc' := 23) dX6_spread_22 rfl rfl ?_
  refine X_bipush (pc' := 25) dX6_spread_23 rfl (by decide) ?_
  refine X_iload (pc' := 27) dX6_spread_25 rfl rfl ?_
  refine X_iadd (pc' := 28) dX6_spread_27 rfl ?_
  obtain ⟨g2, h⟩ := gs h
  obtain ⟨r3, q3, h⟩ := bs h
  refine Y_callV [.int (iN (v1)), .int (iN ((6 + v4)))] (pc' := 31) dX6_spread_28 rfl VX6_163 (by decide) (zlN hN (by decide)) (congrArg Prod.fst (sh151 ln)) rfl rfl rfl (cs rfl) (cs rfl) rfl (CX6_routePart hN hz rv1 g2 q3) (Nat.zero_add _).symm (Nat.zero_add _).symm (fun f3 => ?_)
  refine X_istore (pc' := 33) dX6_spread_31 rfl (cl rfl) (Or.inr rfl) (L' := [some (.ref (151)), some (.int (iN (v1))), some (.int (iN (v2))), some (.int (iN (v3))), some (.int (iN (v4))), some (.int (iN (r3)))]) rfl ?_
  refine X_iload (pc' := 35) dX6_spread_33 rfl rfl ?_
  refine X_iconst (pc' := 36) dX6_spread_35 rfl ?_
  refine X_icmp_eq dX6_spread_36 (tgt := 53) rfl (pc' := 39) rfl ⟨f3.1, f3.2, (inR_c (n := (-1)) rfl).1, (inR_c (n := (-1)) rfl).2⟩ (fun c4 => ?_) (fun c4 => ?_)
  · have h := if_t c4 h
    exact X_sub (sub_s (sub_s (sub_s (sub_s (sub_s (sub_n sub_0)))))) (BX6_spread_53 hN hz rv1 rv2 rv3 rv4 h k1 k2)
  have h := if_f c4 h
  refine X_iload_n (pc' := 40) dX6_spread_39 rfl rfl ?_
  refine X_iload (pc' := 42) dX6_spread_40 rfl rfl ?_
  refine X_mmin (pc' := 45) dX6_spread_42 rfl tq1270 tq342 tq5 tq343 (cs rfl) ⟨rv2.1, rv2.2, f3.1, f3.2⟩ ?_
  refine X_istore_n (pc' := 46) dX6_spread_45 rfl (cl rfl) (Or.inr rfl) (L' := [some (.ref (151)), some (.int (iN (v1))), some (.int (iN ((min (v2) (r3))))), some (.int (iN (v3))), some (.int (iN (v4))), some (.int (iN (r3)))]) rfl ?_
  refine X_iload_n (pc' := 47) dX6_spread_46 rfl rfl ?_
  refine X_iload (pc' := 49) dX6_spread_47 rfl rfl ?_
  refine X_mmax (pc' := 52) dX6_spread_49 rfl tq1389 tq68 tq5 tq69 (cs rfl) ⟨rv3.1, rv3.2, f3.1, f3.2⟩ ?_
  refine X_istore_n (pc' := 53) dX6_spread_52 rfl (cl rfl) (Or.inr rfl) (L' := [some (.ref (151)), some (.int (iN (v1))), some (.int (iN ((min (v2) (r3))))), some (.int (iN ((max (v3) (r3))))), some (.int (iN (v4))), some (.int (iN (r3)))]) rfl ?_
  exact X_sub (sub_s (sub_s (sub_s (sub_s (sub_s (sub_n sub_0)))))) (BX6_spread_53 hN hz rv1 (inR_min rv2 f3) (inR_max rv3 f3) rv4 h k1 k2)
theorem LX6_spread_8 {ln N : Nat} {z : ZZ} {v1 : Int} {c9 s9 : Nat} {Φ : xRes → xS → Prop} (hN : 159 ≤ N ∧ N < 999999) (hz : okz z) (rv1 : inR v1) {r : Int × Int} (k2 : ∀ (v2' : Int) (v3' : Int), r = (v2', v3') → inR v2' → inR v3' → X mX6_spread 59 [some (.ref (151)), some (.int (iN (v1))), some (.int (iN (v2'))), some (.int (iN (v3'))), none, none] [] (zmk ln N z) c9 s9 Φ) : ∀ (n : Nat) (v2 : Int) (v3 : Int) (v4 : Int), inR v2 → inR v3 → inR v4 → zlp (fun q => fX6_spread_s8 v1 q.1 q.2.1 q.2.2 z) n (v2, v3, v4) = some r → X mX6_spread 8 [some (.ref (151)), some (.int (iN (v1))), some (.int (iN (v2))), some (.int (iN (v3))), some (.int (iN (v4))), none] [] (zmk ln N z) c9 s9 Φ := by
  intro n
  induction n with
  | zero => intro v2 v3 v4 rv2 rv3 rv4 h; cases h
  | succ n ih =>
    intro v2 v3 v4 rv2 rv3 rv4 h
    rcases zlp_s h with ⟨⟨v2', v3', v4'⟩, e, h'⟩ | e
    · exact SX6_spread_8 hN hz rv1 rv2 rv3 rv4 e (fun v2₁ v3₁ v4₁ hh f0 f1 f2 => by cases hh; exact ih _ _ _ f0 f1 f2 h') (fun v2₁ v3₁ hh f0 f1 => by cases hh)
    · exact SX6_spread_8 hN hz rv1 rv2 rv3 rv4 e (fun v2₁ v3₁ v4₁ hh f0 f1 f2 => by cases hh) (fun v2₁ v3₁ hh f0 f1 => by cases hh; exact k2 _ _ rfl f0 f1)
def fX6_spread (v1 : Int) (z : ZZ) : Option (Int) := (Option.bind (zlp (fun q => fX6_spread_s8 (v1) q.1 q.2.1 q.2.2 z) FU (30, (-1), 0)) fun q1 => match q1 with | (x1_v2, x1_v3) => (Option.bind (fX6_votesOf (v1) z) fun r2 => (if (r2) < (2) then some ((-1)) else (if inR ((x1_v3 - x1_v2)) then some ((x1_v3 - x1_v2)) else none))))
set_option maxRecDepth 100000 in
theorem CX6_spread {ln N : Nat} {z : ZZ} {v1 : Int} (hN : 159 ≤ N ∧ N < 999999) (hz : okz z) (rv1 : inR v1) {p : Int} (h : fX6_spread v1 z = some p) : X mX6_spread 0 (xEnt [.ref (151), .int (iN (v1))] (xL mX6_spread)) [] (zmk ln N z) (cc_r p) (6 * cc_r p) (Qd (fa_r p) (rs_r p) (st_r ln N z p)) := by
  have k : Fin_r (Qd (fa_r p) (rs_r p) (st_r ln N z p)) ln N z p := Fin_r_i
  unfold fX6_spread at h
  refine X_to (M := [some (.ref (151)), some (.int (iN (v1))), none, none, none, none]) (su := []) rfl rfl ?_
  refine X_bipush (pc' := 2) dX6_spread_0 rfl (by decide) ?_
  refine X_istore_n (pc' := 3) dX6_spread_2 rfl (cl rfl) (Or.inr rfl) (L' := [some (.ref (151)), some (.int (iN (v1))), some (.int (iN (30))), none, none, none]) rfl ?_
  refine X_iconst (pc' := 4) dX6_spread_3 rfl ?_
  refine X_istore_n (pc' := 5) dX6_spread_4 rfl (cl rfl) (Or.inr rfl) (L' := [some (.ref (151)), some (.int (iN (v1))), some (.int (iN (30))), some (.int (iN ((-1)))), none, none]) rfl ?_
  refine X_iconst (pc' := 6) dX6_spread_5 rfl ?_
  refine X_istore (pc' := 8) dX6_spread_6 rfl (cl rfl) (Or.inr rfl) (L' := [some (.ref (151)), some (.int (iN (v1))), some (.int (iN (30))), some (.int (iN ((-1)))), some (.int (iN (0))), none]) rfl ?_
  obtain ⟨⟨x1_v2, x1_v3⟩, q1, h⟩ := bs h
  refine X_sub (sub_s (sub_s (sub_s (sub_s (sub_s (sub_n sub_0)))))) (LX6_spread_8 hN hz rv1 (fun x1_v2₁ x1_v3₁ hh rx1_v2 rx1_v3 => ?_) FU _ _ _ (inR_c (n := 30) rfl) (inR_c (n := (-1)) rfl) (inR_c (n := 0) rfl) q1)
  cases hh
  refine X_aload_n (pc' := 60) dX6_spread_59 rfl rfl ?_
  refine X_iload_n (pc' := 61) dX6_spread_60 rfl rfl ?_
  obtain ⟨r2, q2, h⟩ := bs h
  refine Y_callV [.int (iN (v1))] (pc' := 64) dX6_spread_61 rfl VX6_297 (by decide) (zlN hN (by decide)) (congrArg Prod.fst (sh151 ln)) rfl rfl rfl (cs rfl) (cs rfl) rfl (CX6_votesOf hN hz rv1 q2) (Nat.zero_add _).symm (Nat.zero_add _).symm (fun f2 => ?_)
  refine X_iconst (pc' := 65) dX6_spread_64 rfl ?_
  refine X_icmp_ge dX6_spread_65 (tgt := 72) rfl (pc' := 68) rfl ⟨f2.1, f2.2, (inR_c (n := 2) rfl).1, (inR_c (n := 2) rfl).2⟩ (fun c3 => ?_) (fun c3 => ?_)
  · have h := if_f (Int.not_lt.mpr c3) h
    refine X_iload_n (pc' := 73) dX6_spread_72 rfl rfl ?_
    refine X_iload_n (pc' := 74) dX6_spread_73 rfl rfl ?_
    refine X_isub (pc' := 75) dX6_spread_74 rfl ?_
    obtain ⟨g4, h⟩ := gs h
    cases h
    exact X_iret dX6_spread_75 rfl (k g4)
  have h := if_t c3 h
  refine X_iconst (pc' := 69) dX6_spread_68 rfl ?_
  refine X_goto dX6_spread_69 (tgt := 75) rfl ?_
  cases h
  exact X_iret dX6_spread_75 rfl (k (inR_c (n := (-1)) rfl))
def fX6_disputed_b40 (v1 : Int) (v2 : Int) (v3 : Int) (z : ZZ) : Option ((Int × Int × Int) ⊕ (Int)) := (if inR ((v3 + 1)) then some (.inl (v1, v2, (v3 + 1))) else none)
set_option maxRecDepth 100000 in
theorem BX6_disputed_40 {ln N : Nat} {z : ZZ} {v1 : Int} {v2 : Int} {v3 : Int} {c9 s9 : Nat} {Φ : xRes → xS → Prop} (hN : 159 ≤ N ∧ N < 999999) (hz : okz z) (rv1 : inR v1) (rv2 : inR v2) (rv3 : inR v3) {p : (Int × Int × Int) ⊕ (Int)} (h : fX6_disputed_b40 v1 v2 v3 z = some p) (k1 : ∀ (v1' : Int) (v2' : Int) (v3' : Int), p = .inl (v1', v2', v3') → inR v1' → inR v2' → inR v3' → X mX6_disputed 11 [some (.ref (151)), some (.int (iN (v1'))), some (.int (iN (v2'))), some (.int (iN (v3'))), none] [] (zmk ln N z) c9 s9 Φ) (k2 : ∀ (v1' : Int), p = .inr v1' → inR v1' → X mX6_disputed 46 [some (.ref (151)), some (.int (iN (v1'))), none, none, none] [] (zmk ln N z) c9 s9 Φ) : X mX6_disputed 40 [some (.ref (151)), some (.int (iN (v1))), some (.int (iN (v2))), some (.int (iN (v3))), none] [] (zmk ln N z) c9 s9 Φ := by
  unfold fX6_disputed_b40 at h
  refine X_iinc (pc' := 43) dX6_disputed_40 rfl rfl (Or.inr rfl) (L' := [some (.ref (151)), some (.int (iN (v1))), some (.int (iN (v2))), some (.int (iN (v3 + 1))), none]) rfl ?_
  refine X_goto dX6_disputed_43 (tgt := 11) rfl ?_
  obtain ⟨g1, h⟩ := gs h
  cases h
  exact X_sub (sub_s (sub_s (sub_s (sub_s (sub_n sub_0))))) (k1 _ _ _ rfl rv1 rv2 g1)
def fX6_disputed_s11 (v1 : Int) (v2 : Int) (v3 : Int) (z : ZZ) : Option ((Int × Int × Int) ⊕ (Int)) := (if (v3) < ((z 154 (37))) then (Option.bind (fX6_spread (v3) z) fun r2 => (if (v2) < (r2) then fX6_disputed_b40 (v3) (r2) (v3) z else fX6_disputed_b40 (v1) (v2) (v3) z)) else some (.inr v1))
set_option maxRecDepth 100000 in
theorem SX6_disputed_11 {ln N : Nat} {z : ZZ} {v1 : Int} {v2 : Int} {v3 : Int} {c9 s9 : Nat} {Φ : xRes → xS → Prop} (hN : 159 ≤ N ∧ N < 999999) (hz : okz z) (rv1 : inR v1) (rv2 : inR v2) (rv3 : inR v3) {p : (Int × Int × Int) ⊕ (Int)} (h : fX6_disputed_s11 v1 v2 v3 z = some p) (k1 : ∀ (v1' : Int) (v2' : Int) (v3' : Int), p = .inl (v1', v2', v3') → inR v1' → inR v2' → inR v3' → X mX6_disputed 11 [some (.ref (151)), some (.int (iN (v1'))), some (.int (iN (v2'))), some (.int (iN (v3'))), none] [] (zmk ln N z) c9 s9 Φ) (k2 : ∀ (v1' : Int), p = .inr v1' → inR v1' → X mX6_disputed 46 [some (.ref (151)), some (.int (iN (v1'))), none, none, none] [] (zmk ln N z) c9 s9 Φ) : X mX6_disputed 11 [some (.ref (151)), some (.int (iN (v1))), some (.int (iN (v2))), some (.int (iN (v3))), none] [] (zmk ln N z) c9 s9 Φ := by
  unfold fX6_disputed_s11 at h
  refine X_iload_n (pc' := 12) dX6_disputed_11 rfl rfl ?_
  refine X_aload_n (pc' := 13) dX6_disputed_12 rfl rfl ?_
  refine Y_get (pc' := 16) dX6_disputed_13 rfl FX6_16 (zlN hN (by decide)) (congrArg Prod.fst (sh151 ln)) (ct151_9 z) ?_
  refine X_bipush (pc' := 18) dX6_disputed_16 rfl (by decide) ?_
  refine Y_iald (pc' := 19) dX6_disputed_18 rfl (zlN hN (by decide)) (sh154 ln) (by decide) ⟨by decide, by decide⟩ ?_
  refine X_icmp_ge dX6_disputed_19 (tgt := 46) rfl (pc' := 22) rfl ⟨rv3.1, rv3.2, (hz 154 (37) (by decide)).1, (hz 154 (37) (by decide)).2⟩ (fun c1 => ?_) (fun c1 => ?_)
  · have h := if_f (Int.not_lt.mpr c1) h
    cases h
    exact X_sub (sub_s (sub_s (sub_n (sub_n (sub_n sub_0))))) (k2 _ rfl rv1)
  have h := if_t c1 h
  refine X_aload_n (pc' := 23) dX6_disputed_22 rfl rfl ?_
  refine X_iload_n (pc' := 24) dX6_disputed_23 rfl rfl ?_
  obtain ⟨r2, q2, h⟩ := bs h
  refine Y_callV [.int (iN (v3))] (pc' := 27) dX6_disputed_24 rfl VX6_317 (by decide) (zlN hN (by decide)) (congrArg Prod.fst (sh151 ln)) rfl rfl rfl (cs rfl) (cs rfl) rfl (CX6_spread hN hz rv3 q2) (Nat.zero_add _).symm (Nat.zero_add _).symm (fun f2 => ?_)
  refine X_istore (pc' := 29) dX6_disputed_27 rfl (cl rfl) (Or.inr rfl) (L' := [some (.ref (151)), some (.int (iN (v1))), some (.int (iN (v2))), some (.int (iN (v3))), some (.int (iN (r2)))]) rfl ?_
  refine X_iload (pc' := 31) dX6_disputed_29 rfl rfl ?_
  refine X_iload_n (pc' := 32) dX6_disputed_31 rfl rfl ?_
  refine X_icmp_le dX6_disputed_32 (tgt := 40) rfl (pc' := 35) rfl ⟨f2.1, f2.2, rv2.1, rv2.2⟩ (fun c3 => ?_) (fun c3 => ?_)
  · have h := if_f (Int.not_lt.mpr c3) h
    exact X_sub (sub_s (sub_s (sub_s (sub_s (sub_n sub_0))))) (BX6_disputed_40 hN hz rv1 rv2 rv3 h k1 k2)
  have h := if_t c3 h
  refine X_iload_n (pc' := 36) dX6_disputed_35 rfl rfl ?_
  refine X_istore_n (pc' := 37) dX6_disputed_36 rfl (cl rfl) (Or.inr rfl) (L' := [some (.ref (151)), some (.int (iN (v3))), some (.int (iN (v2))), some (.int (iN (v3))), some (.int (iN (r2)))]) rfl ?_
  refine X_iload (pc' := 39) dX6_disputed_37 rfl rfl ?_
  refine X_istore_n (pc' := 40) dX6_disputed_39 rfl (cl rfl) (Or.inr rfl) (L' := [some (.ref (151)), some (.int (iN (v3))), some (.int (iN (r2))), some (.int (iN (v3))), some (.int (iN (r2)))]) rfl ?_
  exact X_sub (sub_s (sub_s (sub_s (sub_s (sub_n sub_0))))) (BX6_disputed_40 hN hz rv3 f2 rv3 h k1 k2)
theorem LX6_disputed_11 {ln N : Nat} {z : ZZ} {c9 s9 : Nat} {Φ : xRes → xS → Prop} (hN : 159 ≤ N ∧ N < 999999) (hz : okz z) {r : Int} (k2 : ∀ (v1' : Int), r = v1' → inR v1' → X mX6_disputed 46 [some (.ref (151)), some (.int (iN (v1'))), none, none, none] [] (zmk ln N z) c9 s9 Φ) : ∀ (n : Nat) (v1 : Int) (v2 : Int) (v3 : Int), inR v1 → inR v2 → inR v3 → zlp (fun q => fX6_disputed_s11 q.1 q.2.1 q.2.2 z) n (v1, v2, v3) = some r → X mX6_disputed 11 [some (.ref (151)), some (.int (iN (v1))), some (.int (iN (v2))), some (.int (iN (v3))), none] [] (zmk ln N z) c9 s9 Φ := by
  intro n
  induction n with
  | zero => intro v1 v2 v3 rv1 rv2 rv3 h; cases h
  | succ n ih =>
    intro v1 v2 v3 rv1 rv2 rv3 h
    rcases zlp_s h with ⟨⟨v1', v2', v3'⟩, e, h'⟩ | e
    · exact SX6_disputed_11 hN hz rv1 rv2 rv3 e (fun v1₁ v2₁ v3₁ hh f0 f1 f2 => by cases hh; exact ih _ _ _ f0 f1 f2 h') (fun v1₁ hh f0 => by cases hh)
    · exact SX6_disputed_11 hN hz rv1 rv2 rv3 e (fun v1₁ v2₁ v3₁ hh f0 f1 f2 => by cases hh) (fun v1₁ hh f0 => by cases hh; exact k2 _ rfl f0)
def fX6_disputed_b57 (v1 : Int) (s1 : Int) (z : ZZ) : Option (Int × ZZ) := (Option.bind (fX6_fails (s1) (1) z) fun q1 => match q1 with | (r1, z1) => (if (r1) = (0) then some (v1, z1) else some (0, z1)))
set_option maxRecDepth 100000 in
theorem BX6_disputed_57 {ln N : Nat} {z : ZZ} {v1 : Int} {s1 : Int} {c9 s9 : Nat} {Φ : xRes → xS → Prop} (hN : 159 ≤ N ∧ N < 999999) (hz : okz z) (rv1 : inR v1) (rs1 : inR s1) {p : Int × ZZ} (h : fX6_disputed_b57 v1 s1 z = some p) (k : Fin_wi Φ ln N p) : X mX6_disputed 57 [none, some (.int (iN (v1))), none, none, none] [.int (iN (s1)), .ref (151)] (zmk ln N z) c9 s9 Φ := by
  unfold fX6_disputed_b57 at h
  refine X_iconst (pc' := 58) dX6_disputed_57 rfl ?_
  obtain ⟨⟨r1, z1⟩, q1, h⟩ := bs h
  refine Y_callV [.int (iN (s1)), .int (iN (1))] (pc' := 61) dX6_disputed_58 rfl VX6_62 (by decide) (zlN hN (by decide)) (congrArg Prod.fst (sh151 ln)) rfl rfl rfl (cs rfl) (cs rfl) rfl (CX6_fails hN hz rs1 (inR_c (n := 1) rfl) q1) (Nat.zero_add _).symm (Nat.zero_add _).symm (fun f1 => ?_)
  refine X_if_eq dX6_disputed_61 (tgt := 68) rfl (pc' := 64) rfl (inR_b f1.1) (fun c2 => ?_) (fun c2 => ?_)
  · have h := if_t c2 h
    refine X_iload_n (pc' := 69) dX6_disputed_68 rfl rfl ?_
    cases h
    exact X_iret dX6_disputed_69 rfl (k ⟨rv1, f1.2⟩)
  have h := if_f c2 h
  refine X_iconst (pc' := 65) dX6_disputed_64 rfl ?_
  refine X_goto dX6_disputed_65 (tgt := 69) rfl ?_
  cases h
  exact X_iret dX6_disputed_69 rfl (k ⟨(inR_c (n := 0) rfl), f1.2⟩)
def fX6_disputed (z : ZZ) : Option (Int × ZZ) := (zl (zup z 151 0 (0)) fun z1 => (Option.bind (zlp (fun q => fX6_disputed_s11 q.1 q.2.1 q.2.2 z1) FU ((-1), (-1), 0)) fun x2_v1 => (if (x2_v1) = ((-1)) then fX6_disputed_b57 (x2_v1) (0) z1 else fX6_disputed_b57 (x2_v1) (1) z1)))
set_option maxRecDepth 100000 in
theorem CX6_disputed {ln N : Nat} {z : ZZ} (hN : 159 ≤ N ∧ N < 999999) (hz : okz z) {p : Int × ZZ} (h : fX6_disputed z = some p) : X mX6_disputed 0 (xEnt [.ref (151)] (xL mX6_disputed)) [] (zmk ln N z) (cc_wi p) (6 * cc_wi p) (Qd (fa_wi p) (rs_wi p) (st_wi ln N p)) := by
  have k : Fin_wi (Qd (fa_wi p) (rs_wi p) (st_wi ln N p)) ln N p := Fin_wi_i
  unfold fX6_disputed at h
  refine X_to (M := [some (.ref (151)), none, none, none, none]) (su := []) rfl rfl ?_
  refine X_aload_n (pc' := 1) dX6_disputed_0 rfl rfl ?_
  refine X_iconst (pc' := 2) dX6_disputed_1 rfl ?_
  refine Y_put (k := 0) (j := 0) (v := 0) (pc' := 5) dX6_disputed_2 rfl FX6_51 (zlN hN (by decide)) (congrArg Prod.fst (sh151 ln)) (fun r hr => by cases hr; rfl) (xFit_int _) rfl rfl ?_
  obtain ⟨z1, e1, hz1, h⟩ := zl_some (P := okz) h (okz_up hz (inR_c (n := 0) rfl))
  rw [e1]
  refine X_iconst (pc' := 6) dX6_disputed_5 rfl ?_
  refine X_istore_n (pc' := 7) dX6_disputed_6 rfl (cl rfl) (Or.inr rfl) (L' := [some (.ref (151)), some (.int (iN ((-1)))), none, none, none]) rfl ?_
  refine X_iconst (pc' := 8) dX6_disputed_7 rfl ?_
  refine X_istore_n (pc' := 9) dX6_disputed_8 rfl (cl rfl) (Or.inr rfl) (L' := [some (.ref (151)), some (.int (iN ((-1)))), some (.int (iN ((-1)))), none, none]) rfl ?_
  refine X_iconst (pc' := 10) dX6_disputed_9 rfl ?_
  refine X_istore_n (pc' := 11) dX6_disputed_10 rfl (cl rfl) (Or.inr rfl) (L' := [some (.ref (151)), some (.int (iN ((-1)))), some (.int (iN ((-1)))), some (.int (iN (0))), none]) rfl ?_
  obtain ⟨x2_v1, q2, h⟩ := bs h
  refine X_sub (sub_s (sub_s (sub_s (sub_s (sub_n sub_0))))) (LX6_disputed_11 hN hz1 (fun x2_v1₁ hh rx2_v1 => ?_) FU _ _ _ (inR_c (n := (-1)) rfl) (inR_c (n := (-1)) rfl) (inR_c (n := 0) rfl) q2)
  cases hh
  refine X_aload_n (pc' := 47) dX6_disputed_46 rfl rfl ?_
  refine X_iload_n (pc' := 48) dX6_disputed_47 rfl rfl ?_
  refine X_iconst (pc' := 49) dX6_disputed_48 rfl ?_
  refine X_icmp_eq dX6_disputed_49 (tgt := 56) rfl (pc' := 52) rfl ⟨rx2_v1.1, rx2_v1.2, (inR_c (n := (-1)) rfl).1, (inR_c (n := (-1)) rfl).2⟩ (fun c3 => ?_) (fun c3 => ?_)
  · have h := if_t c3 h
    refine X_iconst (pc' := 57) dX6_disputed_56 rfl ?_
    exact X_sub (sub_n (sub_s (sub_n (sub_n (sub_n sub_0))))) (BX6_disputed_57 hN hz1 rx2_v1 (inR_c (n := 0) rfl) h k)
  have h := if_f c3 h
  refine X_iconst (pc' := 53) dX6_disputed_52 rfl ?_
  refine X_goto dX6_disputed_53 (tgt := 57) rfl ?_
  exact X_sub (sub_n (sub_s (sub_n (sub_n (sub_n sub_0))))) (BX6_disputed_57 hN hz1 rx2_v1 (inR_c (n := 1) rfl) h k)
def fX6_takeOff_s24 (v2 : Int) (z : ZZ) : Option ((Int × ZZ) ⊕ (ZZ)) := (if inR ((38 + (18 * (z 154 (37))))) then (if (v2) < ((38 + (18 * (z 154 (37))))) then (if (0 : Int) ≤ ((v2 + 18)) ∧ ((v2 + 18)) < (765 : Int) then (if (0 : Int) ≤ (v2) ∧ (v2) < (765 : Int) then (zl (zup z 154 (v2) ((z 154 ((v2 + 18))))) fun z5 => (if inR ((v2 + 1)) then some (.inl ((v2 + 1), z5)) else none)) else none) else none) else some (.inr z)) else none)
set_option maxRecDepth 100000 in
theorem SX6_takeOff_24 {ln N : Nat} {z : ZZ} {v2 : Int} {c9 s9 : Nat} {Φ : xRes → xS → Prop} (hN : 159 ≤ N ∧ N < 999999) (hz : okz z) (rv2 : inR v2) {p : (Int × ZZ) ⊕ (ZZ)} (h : fX6_takeOff_s24 v2 z = some p) (k1 : ∀ (v2' : Int) (z' : ZZ), p = .inl (v2', z') → inR v2' → okz z' → X mX6_takeOff 24 [some (.ref (151)), none, some (.int (iN (v2')))] [] (zmk ln N z') c9 s9 Φ) (k2 : ∀ (z' : ZZ), p = .inr z' → okz z' → X mX6_takeOff 62 [none, none, none] [] (zmk ln N z') c9 s9 Φ) : X mX6_takeOff 24 [some (.ref (151)), none, some (.int (iN (v2)))] [] (zmk ln N z) c9 s9 Φ := by
  unfold fX6_takeOff_s24 at h
  refine X_iload_n (pc' := 25) dX6_takeOff_24 rfl rfl ?_
  refine X_bipush (pc' := 27) dX6_takeOff_25 rfl (by decide) ?_
  refine X_bipush (pc' := 29) dX6_takeOff_27 rfl (by decide) ?_
  refine X_aload_n (pc' := 30) dX6_takeOff_29 rfl rfl ?_
  refine Y_get (pc' := 33) dX6_takeOff_30 rfl FX6_16 (zlN hN (by decide)) (congrArg Prod.fst (sh151 ln)) (ct151_9 z) ?_
  refine X_bipush (pc' := 35) dX6_takeOff_33 rfl (by decide) ?_
  refine Y_iald (pc' := 36) dX6_takeOff_35 rfl (zlN hN (by decide)) (sh154 ln) (by decide) ⟨by decide, by decide⟩ ?_
  refine X_imul (pc' := 37) dX6_takeOff_36 rfl ?_
  refine X_iadd (pc' := 38) dX6_takeOff_37 rfl ?_
  obtain ⟨g1, h⟩ := gs h
  refine X_icmp_ge dX6_takeOff_38 (tgt := 62) rfl (pc' := 41) rfl ⟨rv2.1, rv2.2, g1.1, g1.2⟩ (fun c2 => ?_) (fun c2 => ?_)
  · have h := if_f (Int.not_lt.mpr c2) h
    cases h
    exact X_sub (sub_n (sub_n (sub_n sub_0))) (k2 _ rfl hz)
  have h := if_t c2 h
  refine X_aload_n (pc' := 42) dX6_takeOff_41 rfl rfl ?_
  refine Y_get (pc' := 45) dX6_takeOff_42 rfl FX6_16 (zlN hN (by decide)) (congrArg Prod.fst (sh151 ln)) (ct151_9 z) ?_
  refine X_iload_n (pc' := 46) dX6_takeOff_45 rfl rfl ?_
  refine X_aload_n (pc' := 47) dX6_takeOff_46 rfl rfl ?_
  refine Y_get (pc' := 50) dX6_takeOff_47 rfl FX6_16 (zlN hN (by decide)) (congrArg Prod.fst (sh151 ln)) (ct151_9 z) ?_
  refine X_iload_n (pc' := 51) dX6_takeOff_50 rfl rfl ?_
  refine X_bipush (pc' := 53) dX6_takeOff_51 rfl (by decide) ?_
  refine X_iadd (pc' := 54) dX6_takeOff_53 rfl ?_
  obtain ⟨g3, h⟩ := gs h
  refine Y_iald (pc' := 55) dX6_takeOff_54 rfl (zlN hN (by decide)) (sh154 ln) (by decide) g3 ?_
  obtain ⟨g4, h⟩ := gs h
  refine Y_iast (pc' := 56) dX6_takeOff_55 rfl (zlN hN (by decide)) (sh154 ln) (by decide) g4 ?_
  obtain ⟨z5, e5, hz5, h⟩ := zl_some (P := okz) h (okz_up hz (hz 154 ((v2 + 18)) (by decide)))
  rw [e5]
  refine X_iinc (pc' := 59) dX6_takeOff_56 rfl rfl (Or.inr rfl) (L' := [some (.ref (151)), none, some (.int (iN (v2 + 1)))]) rfl ?_
  refine X_goto dX6_takeOff_59 (tgt := 24) rfl ?_
  obtain ⟨g6, h⟩ := gs h
  cases h
  exact X_sub (sub_s (sub_n (sub_s sub_0))) (k1 _ _ rfl g6 hz5)
theorem LX6_takeOff_24 {ln N : Nat} {c9 s9 : Nat} {Φ : xRes → xS → Prop} (hN : 159 ≤ N ∧ N < 999999) {r : ZZ} (k2 : ∀ (z' : ZZ), r = z' → okz z' → X mX6_takeOff 62 [none, none, none] [] (zmk ln N z') c9 s9 Φ) : ∀ (n : Nat) (v2 : Int) (z : ZZ), inR v2 → okz z → zlp (fun q => fX6_takeOff_s24 q.1 q.2) n (v2, z) = some r → X mX6_takeOff 24 [some (.ref (151)), none, some (.int (iN (v2)))] [] (zmk ln N z) c9 s9 Φ := by
  intro n
  induction n with
  | zero => intro v2 z rv2 hz h; cases h
  | succ n ih =>
    intro v2 z rv2 hz h
    rcases zlp_s h with ⟨⟨v2', z'⟩, e, h'⟩ | e
    · exact SX6_takeOff_24 hN hz rv2 e (fun v2₁ z₁ hh f0 f1 => by cases hh; exact ih _ _ f0 f1 h') (fun z₁ hh f0 => by cases hh)
    · exact SX6_takeOff_24 hN hz rv2 e (fun v2₁ z₁ hh f0 f1 => by cases hh) (fun z₁ hh f0 => by cases hh; exact k2 _ rfl f0)
def fX6_takeOff (v1 : Int) (z : ZZ) : Option (ZZ) := (Option.bind (fX6_archive (v1) z) fun z1 => (if inR (((z1 154 (37)) - 1)) then (zl (zup z1 154 (37) (((z1 154 (37)) - 1))) fun z3 => (if inR ((38 + (18 * v1))) then (Option.bind (zlp (fun q => fX6_takeOff_s24 q.1 q.2) FU ((38 + (18 * v1)), z3)) fun x5_z => some x5_z) else none)) else none))
set_option maxRecDepth 100000 in
theorem CX6_takeOff {ln N : Nat} {z : ZZ} {v1 : Int} (hN : 159 ≤ N ∧ N < 999999) (hz : okz z) (rv1 : inR v1) {p : ZZ} (h : fX6_takeOff v1 z = some p) : X mX6_takeOff 0 (xEnt [.ref (151), .int (iN (v1))] (xL mX6_takeOff)) [] (zmk ln N z) (cc_w p) (6 * cc_w p) (Qd (fa_w p) (rs_w p) (st_w ln N p)) := by
  have k : Fin_w (Qd (fa_w p) (rs_w p) (st_w ln N p)) ln N p := Fin_w_i
  unfold fX6_takeOff at h
  refine X_to (M := [some (.ref (151)), some (.int (iN (v1))), none]) (su := []) rfl rfl ?_
  refine X_aload_n (pc' := 1) dX6_takeOff_0 rfl rfl ?_
  refine X_iload_n (pc' := 2) dX6_takeOff_1 rfl rfl ?_
  obtain ⟨z1, q1, h⟩ := bs h
  refine Y_callVv [.int (iN (v1))] (pc' := 5) dX6_takeOff_2 rfl VX6_235 (by decide) (zlN hN (by decide)) (congrArg Prod.fst (sh151 ln)) rfl rfl rfl (cs rfl) (cs rfl) rfl (CX6_archive hN hz rv1 q1) (Nat.zero_add _).symm (Nat.zero_add _).symm (fun f1 => ?_)
  refine X_aload_n (pc' := 6) dX6_takeOff_5 rfl rfl ?_
  refine Y_get (pc' := 9) dX6_takeOff_6 rfl FX6_16 (zlN hN (by decide)) (congrArg Prod.fst (sh151 ln)) (ct151_9 z1) ?_
  refine X_bipush (pc' := 11) dX6_takeOff_9 rfl (by decide) ?_
  refine X_dup2 (pc' := 12) dX6_takeOff_11 rfl rfl rfl ?_
  refine Y_iald (pc' := 13) dX6_takeOff_12 rfl (zlN hN (by decide)) (sh154 ln) (by decide) ⟨by decide, by decide⟩ ?_
  refine X_iconst (pc' := 14) dX6_takeOff_13 rfl ?_
  refine X_isub (pc' := 15) dX6_takeOff_14 rfl ?_
  obtain ⟨g2, h⟩ := gs h
  refine Y_iast (pc' := 16) dX6_takeOff_15 rfl (zlN hN (by decide)) (sh154 ln) (by decide) ⟨by decide, by decide⟩ ?_
  obtain ⟨z3, e3, hz3, h⟩ := zl_some (P := okz) h (okz_up f1 g2)
  rw [e3]
  refine X_bipush (pc' := 18) dX6_takeOff_16 rfl (by decide) ?_
  refine X_bipush (pc' := 20) dX6_takeOff_18 rfl (by decide) ?_
  refine X_iload_n (pc' := 21) dX6_takeOff_20 rfl rfl ?_
  refine X_imul (pc' := 22) dX6_takeOff_21 rfl ?_
  refine X_iadd (pc' := 23) dX6_takeOff_22 rfl ?_
  refine X_istore_n (pc' := 24) dX6_takeOff_23 rfl (cl rfl) (Or.inr rfl) (L' := [some (.ref (151)), some (.int (iN (v1))), some (.int (iN ((38 + (18 * v1)))))]) rfl ?_
  obtain ⟨g4, h⟩ := gs h
  obtain ⟨x5_z, q5, h⟩ := bs h
  refine X_sub (sub_s (sub_n (sub_s sub_0))) (LX6_takeOff_24 hN (fun x5_z₁ hh hx5_z => ?_) FU _ _ g4 hz3 q5)
  cases hh
  cases h
  exact X_vret dX6_takeOff_62 rfl (k hx5_z)
def fX6_reset_s4 (v1 : Int) (v2 : Int) (v3 : Int) (z : ZZ) : Option ((Int × Int × ZZ) ⊕ (Int × ZZ)) := (if (v3) < ((z 154 (37))) then (Option.bind (fX6_routePart (v3) (0) z) fun r2 => (if (r2) = (v1) then (Option.bind (fX6_takeOff (v3) z) fun z5 => (if inR ((v2 + 1)) then some (.inl ((v2 + 1), v3, z5)) else none)) else (if inR ((v3 + 1)) then some (.inl (v2, (v3 + 1), z)) else none))) else some (.inr (v2, z)))
set_option maxRecDepth 100000 in
theorem SX6_reset_4 {ln N : Nat} {z : ZZ} {v1 : Int} {v2 : Int} {v3 : Int} {c9 s9 : Nat} {Φ : xRes → xS → Prop} (hN : 159 ≤ N ∧ N < 999999) (hz : okz z) (rv1 : inR v1) (rv2 : inR v2) (rv3 : inR v3) {p : (Int × Int × ZZ) ⊕ (Int × ZZ)} (h : fX6_reset_s4 v1 v2 v3 z = some p) (k1 : ∀ (v2' : Int) (v3' : Int) (z' : ZZ), p = .inl (v2', v3', z') → inR v2' → inR v3' → okz z' → X mX6_reset 4 [some (.ref (151)), some (.int (iN (v1))), some (.int (iN (v2'))), some (.int (iN (v3')))] [] (zmk ln N z') c9 s9 Φ) (k2 : ∀ (v2' : Int) (z' : ZZ), p = .inr (v2', z') → inR v2' → okz z' → X mX6_reset 42 [some (.ref (151)), some (.int (iN (v1))), some (.int (iN (v2'))), none] [] (zmk ln N z') c9 s9 Φ) : X mX6_reset 4 [some (.ref (151)), some (.int (iN (v1))), some (.int (iN (v2))), some (.int (iN (v3)))] [] (zmk ln N z) c9 s9 Φ := by
  unfold fX6_reset_s4 at h
  refine X_iload_n (pc' := 5) dX6_reset_4 rfl rfl ?_
  refine X_aload_n (pc' := 6) dX6_reset_5 rfl rfl ?_
  refine Y_get (pc' := 9) dX6_reset_6 rfl FX6_16 (zlN hN (by decide)) (congrArg Prod.fst (sh151 ln)) (ct151_9 z) ?_
  refine X_bipush (pc' := 11) dX6_reset_9 rfl (by decide) ?_
  refine Y_iald (pc' := 12) dX6_reset_11 rfl (zlN hN (by decide)) (sh154 ln) (by decide) ⟨by decide, by decide⟩ ?_
  refine X_icmp_ge dX6_reset_12 (tgt := 42) rfl (pc' := 15) rfl ⟨rv3.1, rv3.2, (hz 154 (37) (by decide)).1, (hz 154 (37) (by decide)).2⟩ (fun c1 => ?_) (fun c1 => ?_)
  · have h := if_f (Int.not_lt.mpr c1) h
    cases h
    exact X_sub (sub_s (sub_s (sub_s (sub_n sub_0)))) (k2 _ _ rfl rv2 hz)
  have h := if_t c1 h
  refine X_aload_n (pc' := 16) dX6_reset_15 rfl rfl ?_
  refine X_iload_n (pc' := 17) dX6_reset_16 rfl rfl ?_
  refine X_iconst (pc' := 18) dX6_reset_17 rfl ?_
  obtain ⟨r2, q2, h⟩ := bs h
  refine Y_callV [.int (iN (v3)), .int (iN (0))] (pc' := 21) dX6_reset_18 rfl VX6_163 (by decide) (zlN hN (by decide)) (congrArg Prod.fst (sh151 ln)) rfl rfl rfl (cs rfl) (cs rfl) rfl (CX6_routePart hN hz rv3 (inR_c (n := 0) rfl) q2) (Nat.zero_add _).symm (Nat.zero_add _).symm (fun f2 => ?_)
  refine X_iload_n (pc' := 22) dX6_reset_21 rfl rfl ?_
  refine X_icmp_ne dX6_reset_22 (tgt := 36) rfl (pc' := 25) rfl ⟨f2.1, f2.2, rv1.1, rv1.2⟩ (fun c3 => ?_) (fun c3 => ?_)
  · have h := if_f c3 h
    refine X_iinc (pc' := 39) dX6_reset_36 rfl rfl (Or.inr rfl) (L' := [some (.ref (151)), some (.int (iN (v1))), some (.int (iN (v2))), some (.int (iN (v3 + 1)))]) rfl ?_
    refine X_goto dX6_reset_39 (tgt := 4) rfl ?_
    obtain ⟨g4, h⟩ := gs h
    cases h
    exact X_sub (sub_s (sub_s (sub_s (sub_s sub_0)))) (k1 _ _ _ rfl rv2 g4 hz)
  have h := if_t c3 h
  refine X_aload_n (pc' := 26) dX6_reset_25 rfl rfl ?_
  refine X_iload_n (pc' := 27) dX6_reset_26 rfl rfl ?_
  obtain ⟨z5, q5, h⟩ := bs h
  refine Y_callVv [.int (iN (v3))] (pc' := 30) dX6_reset_27 rfl VX6_241 (by decide) (zlN hN (by decide)) (congrArg Prod.fst (sh151 ln)) rfl rfl rfl (cs rfl) (cs rfl) rfl (CX6_takeOff hN hz rv3 q5) (Nat.zero_add _).symm (Nat.zero_add _).symm (fun f5 => ?_)
  refine X_iinc (pc' := 33) dX6_reset_30 rfl rfl (Or.inr rfl) (L' := [some (.ref (151)), some (.int (iN (v1))), some (.int (iN (v2 + 1))), some (.int (iN (v3)))]) rfl ?_
  refine X_goto dX6_reset_33 (tgt := 4) rfl ?_
  obtain ⟨g6, h⟩ := gs h
  cases h
  exact X_sub (sub_s (sub_s (sub_s (sub_s sub_0)))) (k1 _ _ _ rfl g6 rv3 f5)
theorem LX6_reset_4 {ln N : Nat} {v1 : Int} {c9 s9 : Nat} {Φ : xRes → xS → Prop} (hN : 159 ≤ N ∧ N < 999999) (rv1 : inR v1) {r : Int × ZZ} (k2 : ∀ (v2' : Int) (z' : ZZ), r = (v2', z') → inR v2' → okz z' → X mX6_reset 42 [some (.ref (151)), some (.int (iN (v1))), some (.int (iN (v2'))), none] [] (zmk ln N z') c9 s9 Φ) : ∀ (n : Nat) (v2 : Int) (v3 : Int) (z : ZZ), inR v2 → inR v3 → okz z → zlp (fun q => fX6_reset_s4 v1 q.1 q.2.1 q.2.2) n (v2, v3, z) = some r → X mX6_reset 4 [some (.ref (151)), some (.int (iN (v1))), some (.int (iN (v2))), some (.int (iN (v3)))] [] (zmk ln N z) c9 s9 Φ := by
  intro n
  induction n with
  | zero => intro v2 v3 z rv2 rv3 hz h; cases h
  | succ n ih =>
    intro v2 v3 z rv2 rv3 hz h
    rcases zlp_s h with ⟨⟨v2', v3', z'⟩, e, h'⟩ | e
    · exact SX6_reset_4 hN hz rv1 rv2 rv3 e (fun v2₁ v3₁ z₁ hh f0 f1 f2 => by cases hh; exact ih _ _ _ f0 f1 f2 h') (fun v2₁ z₁ hh f0 f1 => by cases hh)
    · exact SX6_reset_4 hN hz rv1 rv2 rv3 e (fun v2₁ v3₁ z₁ hh f0 f1 f2 => by cases hh) (fun v2₁ z₁ hh f0 f1 => by cases hh; exact k2 _ _ rfl f0 f1)
def fX6_reset (v1 : Int) (z : ZZ) : Option (Int × ZZ) := (Option.bind (zlp (fun q => fX6_reset_s4 (v1) q.1 q.2.1 q.2.2) FU (0, 0, z)) fun q1 => match q1 with | (x1_v2, x1_z) => (Option.bind (fX6_wallPart (v1) (2) x1_z) fun r2 => (if inR (((x1_z 154 (3)) + r2)) then (if (0 : Int) ≤ (((5 + (4 * v1)) + 3)) ∧ (((5 + (4 * v1)) + 3)) < (765 : Int) then (zl (zup x1_z 154 (((5 + (4 * v1)) + 3)) (((x1_z 154 (3)) + r2))) fun z5 => some (x1_v2, z5)) else none) else none)))
set_option maxRecDepth 100000 in
theorem CX6_reset {ln N : Nat} {z : ZZ} {v1 : Int} (hN : 159 ≤ N ∧ N < 999999) (hz : okz z) (rv1 : inR v1) {p : Int × ZZ} (h : fX6_reset v1 z = some p) : X mX6_reset 0 (xEnt [.ref (151), .int (iN (v1))] (xL mX6_reset)) [] (zmk ln N z) (cc_wi p) (6 * cc_wi p) (Qd (fa_wi p) (rs_wi p) (st_wi ln N p)) := by
  have k : Fin_wi (Qd (fa_wi p) (rs_wi p) (st_wi ln N p)) ln N p := Fin_wi_i
  unfold fX6_reset at h
  refine X_to (M := [some (.ref (151)), some (.int (iN (v1))), none, none]) (su := []) rfl rfl ?_
  refine X_iconst (pc' := 1) dX6_reset_0 rfl ?_
  refine X_istore_n (pc' := 2) dX6_reset_1 rfl (cl rfl) (Or.inr rfl) (L' := [some (.ref (151)), some (.int (iN (v1))), some (.int (iN (0))), none]) rfl ?_
  refine X_iconst (pc' := 3) dX6_reset_2 rfl ?_
  refine X_istore_n (pc' := 4) dX6_reset_3 rfl (cl rfl) (Or.inr rfl) (L' := [some (.ref (151)), some (.int (iN (v1))), some (.int (iN (0))), some (.int (iN (0)))]) rfl ?_
  obtain ⟨⟨x1_v2, x1_z⟩, q1, h⟩ := bs h
  refine X_sub (sub_s (sub_s (sub_s (sub_s sub_0)))) (LX6_reset_4 hN rv1 (fun x1_v2₁ x1_z₁ hh rx1_v2 hx1_z => ?_) FU _ _ _ (inR_c (n := 0) rfl) (inR_c (n := 0) rfl) hz q1)
  cases hh
  refine X_aload_n (pc' := 43) dX6_reset_42 rfl rfl ?_
  refine Y_get (pc' := 46) dX6_reset_43 rfl FX6_16 (zlN hN (by decide)) (congrArg Prod.fst (sh151 ln)) (ct151_9 x1_z) ?_
  refine X_iconst (pc' := 47) dX6_reset_46 rfl ?_
  refine X_iconst (pc' := 48) dX6_reset_47 rfl ?_
  refine X_iload_n (pc' := 49) dX6_reset_48 rfl rfl ?_
  refine X_imul (pc' := 50) dX6_reset_49 rfl ?_
  refine X_iadd (pc' := 51) dX6_reset_50 rfl ?_
  refine X_iconst (pc' := 52) dX6_reset_51 rfl ?_
  refine X_iadd (pc' := 53) dX6_reset_52 rfl ?_
  refine X_aload_n (pc' := 54) dX6_reset_53 rfl rfl ?_
  refine Y_get (pc' := 57) dX6_reset_54 rfl FX6_16 (zlN hN (by decide)) (congrArg Prod.fst (sh151 ln)) (ct151_9 x1_z) ?_
  refine X_iconst (pc' := 58) dX6_reset_57 rfl ?_
  refine Y_iald (pc' := 59) dX6_reset_58 rfl (zlN hN (by decide)) (sh154 ln) (by decide) ⟨by decide, by decide⟩ ?_
  refine X_aload_n (pc' := 60) dX6_reset_59 rfl rfl ?_
  refine X_iload_n (pc' := 61) dX6_reset_60 rfl rfl ?_
  refine X_iconst (pc' := 62) dX6_reset_61 rfl ?_
  obtain ⟨r2, q2, h⟩ := bs h
  refine Y_callV [.int (iN (v1)), .int (iN (2))] (pc' := 65) dX6_reset_62 rfl VX6_195 (by decide) (zlN hN (by decide)) (congrArg Prod.fst (sh151 ln)) rfl rfl rfl (cs rfl) (cs rfl) rfl (CX6_wallPart hN hx1_z rv1 (inR_c (n := 2) rfl) q2) (Nat.zero_add _).symm (Nat.zero_add _).symm (fun f2 => ?_)
  refine X_iadd (pc' := 66) dX6_reset_65 rfl ?_
  obtain ⟨g3, h⟩ := gs h
  obtain ⟨g4, h⟩ := gs h
  refine Y_iast (pc' := 67) dX6_reset_66 rfl (zlN hN (by decide)) (sh154 ln) (by decide) g4 ?_
  obtain ⟨z5, e5, hz5, h⟩ := zl_some (P := okz) h (okz_up hx1_z g3)
  rw [e5]
  refine X_iload_n (pc' := 68) dX6_reset_67 rfl rfl ?_
  cases h
  exact X_iret dX6_reset_68 rfl (k ⟨rx1_v2, hz5⟩)
def fX6_endDay_b32 (v2 : Int) (s0 : Int) (s1 : Int) (z : ZZ) : Option ((Int × Int × ZZ) ⊕ (Int × ZZ)) := (if inR ((s0 + s1)) then (if inR ((v2 + 1)) then some (.inl ((s0 + s1), (v2 + 1), z)) else none) else none)
set_option maxRecDepth 100000 in
theorem BX6_endDay_32 {ln N : Nat} {z : ZZ} {v2 : Int} {s0 : Int} {s1 : Int} {c9 s9 : Nat} {Φ : xRes → xS → Prop} (hN : 159 ≤ N ∧ N < 999999) (hz : okz z) (rv2 : inR v2) (rs0 : inR s0) (rs1 : inR s1) {p : (Int × Int × ZZ) ⊕ (Int × ZZ)} (h : fX6_endDay_b32 v2 s0 s1 z = some p) (k1 : ∀ (v1' : Int) (v2' : Int) (z' : ZZ), p = .inl (v1', v2', z') → inR v1' → inR v2' → okz z' → X mX6_endDay 4 [some (.ref (151)), some (.int (iN (v1'))), some (.int (iN (v2'))), none] [] (zmk ln N z') c9 s9 Φ) (k2 : ∀ (v1' : Int) (z' : ZZ), p = .inr (v1', z') → inR v1' → okz z' → X mX6_endDay 40 [some (.ref (151)), some (.int (iN (v1'))), none, none] [] (zmk ln N z') c9 s9 Φ) : X mX6_endDay 32 [some (.ref (151)), none, some (.int (iN (v2))), none] [.int (iN (s1)), .int (iN (s0))] (zmk ln N z) c9 s9 Φ := by
  unfold fX6_endDay_b32 at h
  refine X_iadd (pc' := 33) dX6_endDay_32 rfl ?_
  refine X_istore_n (pc' := 34) dX6_endDay_33 rfl (cl rfl) (Or.inr rfl) (L' := [some (.ref (151)), some (.int (iN ((s0 + s1)))), some (.int (iN (v2))), none]) rfl ?_
  refine X_iinc (pc' := 37) dX6_endDay_34 rfl rfl (Or.inr rfl) (L' := [some (.ref (151)), some (.int (iN ((s0 + s1)))), some (.int (iN (v2 + 1))), none]) rfl ?_
  refine X_goto dX6_endDay_37 (tgt := 4) rfl ?_
  obtain ⟨g1, h⟩ := gs h
  obtain ⟨g2, h⟩ := gs h
  cases h
  exact X_sub (sub_s (sub_s (sub_s (sub_n sub_0)))) (k1 _ _ _ rfl g1 g2 hz)
def fX6_endDay_s4 (v1 : Int) (v2 : Int) (z : ZZ) : Option ((Int × Int × ZZ) ⊕ (Int × ZZ)) := (if (v2) < ((z 154 (4))) then (Option.bind (fX6_isClosed (v2) z) fun r2 => (if (r2) = (0) then fX6_endDay_b32 (v2) (v1) (0) z else (Option.bind (fX6_reset (v2) z) fun q4 => match q4 with | (r4, z4) => fX6_endDay_b32 (v2) (v1) (r4) z4))) else some (.inr (v1, z)))
set_option maxRecDepth 100000 in
theorem SX6_endDay_4 {ln N : Nat} {z : ZZ} {v1 : Int} {v2 : Int} {c9 s9 : Nat} {Φ : xRes → xS → Prop} (hN : 159 ≤ N ∧ N < 999999) (hz : okz z) (rv1 : inR v1) (rv2 : inR v2) {p : (Int × Int × ZZ) ⊕ (Int × ZZ)} (h : fX6_endDay_s4 v1 v2 z = some p) (k1 : ∀ (v1' : Int) (v2' : Int) (z' : ZZ), p = .inl (v1', v2', z') → inR v1' → inR v2' → okz z' → X mX6_endDay 4 [some (.ref (151)), some (.int (iN (v1'))), some (.int (iN (v2'))), none] [] (zmk ln N z') c9 s9 Φ) (k2 : ∀ (v1' : Int) (z' : ZZ), p = .inr (v1', z') → inR v1' → okz z' → X mX6_endDay 40 [some (.ref (151)), some (.int (iN (v1'))), none, none] [] (zmk ln N z') c9 s9 Φ) : X mX6_endDay 4 [some (.ref (151)), some (.int (iN (v1))), some (.int (iN (v2))), none] [] (zmk ln N z) c9 s9 Φ := by
  unfold fX6_endDay_s4 at h
  refine X_iload_n (pc' := 5) dX6_endDay_4 rfl rfl ?_
  refine X_aload_n (pc' := 6) dX6_endDay_5 rfl rfl ?_
  refine Y_get (pc' := 9) dX6_endDay_6 rfl FX6_16 (zlN hN (by decide)) (congrArg Prod.fst (sh151 ln)) (ct151_9 z) ?_
  refine X_iconst (pc' := 10) dX6_endDay_9 rfl ?_
  refine Y_iald (pc' := 11) dX6_endDay_10 rfl (zlN hN (by decide)) (sh154 ln) (by decide) ⟨by decide, by decide⟩ ?_
  refine X_icmp_ge dX6_endDay_11 (tgt := 40) rfl (pc' := 14) rfl ⟨rv2.1, rv2.2, (hz 154 (4) (by decide)).1, (hz 154 (4) (by decide)).2⟩ (fun c1 => ?_) (fun c1 => ?_)
  · have h := if_f (Int.not_lt.mpr c1) h
    cases h
    exact X_sub (sub_s (sub_s (sub_n (sub_n sub_0)))) (k2 _ _ rfl rv1 hz)
  have h := if_t c1 h
  refine X_iload_n (pc' := 15) dX6_endDay_14 rfl rfl ?_
  refine X_aload_n (pc' := 16) dX6_endDay_15 rfl rfl ?_
  refine X_iload_n (pc' := 17) dX6_endDay_16 rfl rfl ?_
  obtain ⟨r2, q2, h⟩ := bs h
  refine Y_callV [.int (iN (v2))] (pc' := 20) dX6_endDay_17 rfl VX6_214 (by decide) (zlN hN (by decide)) (congrArg Prod.fst (sh151 ln)) rfl rfl rfl (cs rfl) (cs rfl) rfl (CX6_isClosed hN hz rv2 q2) (Nat.zero_add _).symm (Nat.zero_add _).symm (fun f2 => ?_)
  refine X_if_eq dX6_endDay_20 (tgt := 31) rfl (pc' := 23) rfl (inR_b f2) (fun c3 => ?_) (fun c3 => ?_)
  · have h := if_t c3 h
    refine X_iconst (pc' := 32) dX6_endDay_31 rfl ?_
    exact X_sub (sub_s (sub_n (sub_s (sub_n sub_0)))) (BX6_endDay_32 hN hz rv2 rv1 (inR_c (n := 0) rfl) h k1 k2)
  have h := if_f c3 h
  refine X_aload_n (pc' := 24) dX6_endDay_23 rfl rfl ?_
  refine X_iload_n (pc' := 25) dX6_endDay_24 rfl rfl ?_
  obtain ⟨⟨r4, z4⟩, q4, h⟩ := bs h
  refine Y_callV [.int (iN (v2))] (pc' := 28) dX6_endDay_25 rfl VX6_285 (by decide) (zlN hN (by decide)) (congrArg Prod.fst (sh151 ln)) rfl rfl rfl (cs rfl) (cs rfl) rfl (CX6_reset hN hz rv2 q4) (Nat.zero_add _).symm (Nat.zero_add _).symm (fun f4 => ?_)
  refine X_goto dX6_endDay_28 (tgt := 32) rfl ?_
  exact X_sub (sub_s (sub_n (sub_s (sub_n sub_0)))) (BX6_endDay_32 hN f4.2 rv2 rv1 f4.1 h k1 k2)
theorem LX6_endDay_4 {ln N : Nat} {c9 s9 : Nat} {Φ : xRes → xS → Prop} (hN : 159 ≤ N ∧ N < 999999) {r : Int × ZZ} (k2 : ∀ (v1' : Int) (z' : ZZ), r = (v1', z') → inR v1' → okz z' → X mX6_endDay 40 [some (.ref (151)), some (.int (iN (v1'))), none, none] [] (zmk ln N z') c9 s9 Φ) : ∀ (n : Nat) (v1 : Int) (v2 : Int) (z : ZZ), inR v1 → inR v2 → okz z → zlp (fun q => fX6_endDay_s4 q.1 q.2.1 q.2.2) n (v1, v2, z) = some r → X mX6_endDay 4 [some (.ref (151)), some (.int (iN (v1))), some (.int (iN (v2))), none] [] (zmk ln N z) c9 s9 Φ := by
  intro n
  induction n with
  | zero => intro v1 v2 z rv1 rv2 hz h; cases h
  | succ n ih =>
    intro v1 v2 z rv1 rv2 hz h
    rcases zlp_s h with ⟨⟨v1', v2', z'⟩, e, h'⟩ | e
    · exact SX6_endDay_4 hN hz rv1 rv2 e (fun v1₁ v2₁ z₁ hh f0 f1 f2 => by cases hh; exact ih _ _ _ f0 f1 f2 h') (fun v1₁ z₁ hh f0 f1 => by cases hh)
    · exact SX6_endDay_4 hN hz rv1 rv2 e (fun v1₁ v2₁ z₁ hh f0 f1 f2 => by cases hh) (fun v1₁ z₁ hh f0 f1 => by cases hh; exact k2 _ _ rfl f0 f1)
def fX6_endDay_b69 (v1 : Int) (v2 : Int) (s0 : Int) (z : ZZ) : Option ((Int × ZZ) ⊕ (ZZ)) := (Option.bind (fX6_memberPart (v2) (5) z) fun r1 => (if inR ((r1 + s0)) then (Option.bind (fX6_setMember (v2) (5) ((r1 + s0)) z) fun z3 => (if inR ((v2 + 1)) then some (.inl ((v2 + 1), z3)) else none)) else none))
set_option maxRecDepth 100000 in
theorem BX6_endDay_69 {ln N : Nat} {z : ZZ} {v1 : Int} {v2 : Int} {s0 : Int} {c9 s9 : Nat} {Φ : xRes → xS → Prop} (hN : 159 ≤ N ∧ N < 999999) (hz : okz z) (rv1 : inR v1) (rv2 : inR v2) (rs0 : inR s0) {p : (Int × ZZ) ⊕ (ZZ)} (h : fX6_endDay_b69 v1 v2 s0 z = some p) (k1 : ∀ (v2' : Int) (z' : ZZ), p = .inl (v2', z') → inR v2' → okz z' → X mX6_endDay 42 [some (.ref (151)), some (.int (iN (v1))), some (.int (iN (v2'))), none] [] (zmk ln N z') c9 s9 Φ) (k2 : ∀ (z' : ZZ), p = .inr z' → okz z' → X mX6_endDay 90 [some (.ref (151)), some (.int (iN (v1))), none, none] [] (zmk ln N z') c9 s9 Φ) : X mX6_endDay 69 [some (.ref (151)), some (.int (iN (v1))), some (.int (iN (v2))), none] [.int (iN (s0))] (zmk ln N z) c9 s9 Φ := by
  unfold fX6_endDay_b69 at h
  refine X_istore_n (pc' := 70) dX6_endDay_69 rfl (cl rfl) (Or.inr rfl) (L' := [some (.ref (151)), some (.int (iN (v1))), some (.int (iN (v2))), some (.int (iN (s0)))]) rfl ?_
  refine X_aload_n (pc' := 71) dX6_endDay_70 rfl rfl ?_
  refine X_iload_n (pc' := 72) dX6_endDay_71 rfl rfl ?_
  refine X_iconst (pc' := 73) dX6_endDay_72 rfl ?_
  refine X_aload_n (pc' := 74) dX6_endDay_73 rfl rfl ?_
  refine X_iload_n (pc' := 75) dX6_endDay_74 rfl rfl ?_
  refine X_iconst (pc' := 76) dX6_endDay_75 rfl ?_
  obtain ⟨r1, q1, h⟩ := bs h
  refine Y_callV [.int (iN (v2)), .int (iN (5))] (pc' := 79) dX6_endDay_76 rfl VX6_207 (by decide) (zlN hN (by decide)) (congrArg Prod.fst (sh151 ln)) rfl rfl rfl (cs rfl) (cs rfl) rfl (CX6_memberPart hN hz rv2 (inR_c (n := 5) rfl) q1) (Nat.zero_add _).symm (Nat.zero_add _).symm (fun f1 => ?_)
  refine X_iload_n (pc' := 80) dX6_endDay_79 rfl rfl ?_
  refine X_iadd (pc' := 81) dX6_endDay_80 rfl ?_
  obtain ⟨g2, h⟩ := gs h
  obtain ⟨z3, q3, h⟩ := bs h
  refine Y_callVv [.int (iN (v2)), .int (iN (5)), .int (iN ((r1 + s0)))] (pc' := 84) dX6_endDay_81 rfl VX6_250 (by decide) (zlN hN (by decide)) (congrArg Prod.fst (sh151 ln)) rfl rfl rfl (cs rfl) (cs rfl) rfl (CX6_setMember hN hz rv2 (inR_c (n := 5) rfl) g2 q3) (Nat.zero_add _).symm (Nat.zero_add _).symm (fun f3 => ?_)
  refine X_iinc (pc' := 87) dX6_endDay_84 rfl rfl (Or.inr rfl) (L' := [some (.ref (151)), some (.int (iN (v1))), some (.int (iN (v2 + 1))), some (.int (iN (s0)))]) rfl ?_
  refine X_goto dX6_endDay_87 (tgt := 42) rfl ?_
  obtain ⟨g4, h⟩ := gs h
  cases h
  exact X_sub (sub_s (sub_s (sub_s (sub_n sub_0)))) (k1 _ _ rfl g4 f3)
def fX6_endDay_s42 (v1 : Int) (v2 : Int) (z : ZZ) : Option ((Int × ZZ) ⊕ (ZZ)) := (if (v2) < ((z 154 (546))) then (Option.bind (fX6_memberPart (v2) (3) z) fun r2 => (if (r2) = ((-1)) then fX6_endDay_b69 (v1) (v2) (0) z else fX6_endDay_b69 (v1) (v2) (1) z)) else some (.inr z))
set_option maxRecDepth 100000 in
theorem SX6_endDay_42 {ln N : Nat} {z : ZZ} {v1 : Int} {v2 : Int} {c9 s9 : Nat} {Φ : xRes → xS → Prop} (hN : 159 ≤ N ∧ N < 999999) (hz : okz z) (rv1 : inR v1) (rv2 : inR v2) {p : (Int × ZZ) ⊕ (ZZ)} (h : fX6_endDay_s42 v1 v2 z = some p) (k1 : ∀ (v2' : Int) (z' : ZZ), p = .inl (v2', z') → inR v2' → okz z' → X mX6_endDay 42 [some (.ref (151)), some (.int (iN (v1))), some (.int (iN (v2'))), none] [] (zmk ln N z') c9 s9 Φ) (k2 : ∀ (z' : ZZ), p = .inr z' → okz z' → X mX6_endDay 90 [some (.ref (151)), some (.int (iN (v1))), none, none] [] (zmk ln N z') c9 s9 Φ) : X mX6_endDay 42 [some (.ref (151)), some (.int (iN (v1))), some (.int (iN (v2))), none] [] (zmk ln N z) c9 s9 Φ := by
  unfold fX6_endDay_s42 at h
  refine X_iload_n (pc' := 43) dX6_endDay_42 rfl rfl ?_
  refine X_aload_n (pc' := 44) dX6_endDay_43 rfl rfl ?_
  refine Y_get (pc' := 47) dX6_endDay_44 rfl FX6_16 (zlN hN (by decide)) (congrArg Prod.fst (sh151 ln)) (ct151_9 z) ?_
  refine X_sipush (pc' := 50) dX6_endDay_47 rfl (by decide) ?_
  refine Y_iald (pc' := 51) dX6_endDay_50 rfl (zlN hN (by decide)) (sh154 ln) (by decide) ⟨by decide, by decide⟩ ?_
  refine X_icmp_ge dX6_endDay_51 (tgt := 90) rfl (pc' := 54) rfl ⟨rv2.1, rv2.2, (hz 154 (546) (by decide)).1, (hz 154 (546) (by decide)).2⟩ (fun c1 => ?_) (fun c1 => ?_)
  · have h := if_f (Int.not_lt.mpr c1) h
    cases h
    exact X_sub (sub_s (sub_s (sub_n (sub_n sub_0)))) (k2 _ rfl hz)
  have h := if_t c1 h
  refine X_aload_n (pc' := 55) dX6_endDay_54 rfl rfl ?_
  refine X_iload_n (pc' := 56) dX6_endDay_55 rfl rfl ?_
  refine X_iconst (pc' := 57) dX6_endDay_56 rfl ?_
  obtain ⟨r2, q2, h⟩ := bs h
  refine Y_callV [.int (iN (v2)), .int (iN (3))] (pc' := 60) dX6_endDay_57 rfl VX6_207 (by decide) (zlN hN (by decide)) (congrArg Prod.fst (sh151 ln)) rfl rfl rfl (cs rfl) (cs rfl) rfl (CX6_memberPart hN hz rv2 (inR_c (n := 3) rfl) q2) (Nat.zero_add _).symm (Nat.zero_add _).symm (fun f2 => ?_)
  refine X_iconst (pc' := 61) dX6_endDay_60 rfl ?_
  refine X_icmp_eq dX6_endDay_61 (tgt := 68) rfl (pc' := 64) rfl ⟨f2.1, f2.2, (inR_c (n := (-1)) rfl).1, (inR_c (n := (-1)) rfl).2⟩ (fun c3 => ?_) (fun c3 => ?_)
  · have h := if_t c3 h
    refine X_iconst (pc' := 69) dX6_endDay_68 rfl ?_
    exact X_sub (sub_s (sub_s (sub_s (sub_n sub_0)))) (BX6_endDay_69 hN hz rv1 rv2 (inR_c (n := 0) rfl) h k1 k2)
  have h := if_f c3 h
  refine X_iconst (pc' := 65) dX6_endDay_64 rfl ?_
  refine X_goto dX6_endDay_65 (tgt := 69) rfl ?_
  exact X_sub (sub_s (sub_s (sub_s (sub_n sub_0)))) (BX6_endDay_69 hN hz rv1 rv2 (inR_c (n := 1) rfl) h k1 k2)
theorem LX6_endDay_42 {ln N : Nat} {v1 : Int} {c9 s9 : Nat} {Φ : xRes → xS → Prop} (hN : 159 ≤ N ∧ N < 999999) (rv1 : inR v1) {r : ZZ} (k2 : ∀ (z' : ZZ), r = z' → okz z' → X mX6_endDay 90 [some (.ref (151)), some (.int (iN (v1))), none, none] [] (zmk ln N z') c9 s9 Φ) : ∀ (n : Nat) (v2 : Int) (z : ZZ), inR v2 → okz z → zlp (fun q => fX6_endDay_s42 v1 q.1 q.2) n (v2, z) = some r → X mX6_endDay 42 [some (.ref (151)), some (.int (iN (v1))), some (.int (iN (v2))), none] [] (zmk ln N z) c9 s9 Φ := by
  intro n
  induction n with
  | zero => intro v2 z rv2 hz h; cases h
  | succ n ih =>
    intro v2 z rv2 hz h
    rcases zlp_s h with ⟨⟨v2', z'⟩, e, h'⟩ | e
    · exact SX6_endDay_42 hN hz rv1 rv2 e (fun v2₁ z₁ hh f0 f1 => by cases hh; exact ih _ _ f0 f1 h') (fun z₁ hh f0 => by cases hh)
    · exact SX6_endDay_42 hN hz rv1 rv2 e (fun v2₁ z₁ hh f0 f1 => by cases hh) (fun z₁ hh f0 => by cases hh; exact k2 _ rfl f0)
def fX6_endDay (z : ZZ) : Option (Int × ZZ) := (Option.bind (zlp (fun q => fX6_endDay_s4 q.1 q.2.1 q.2.2) FU (0, 0, z)) fun q1 => match q1 with | (x1_v1, x1_z) => (Option.bind (zlp (fun q => fX6_endDay_s42 (x1_v1) q.1 q.2) FU (0, x1_z)) fun x2_z => (if inR (((x2_z 154 (3)) + 1)) then (zl (zup x2_z 154 (3) (((x2_z 154 (3)) + 1))) fun z4 => some (x1_v1, z4)) else none)))
set_option maxRecDepth 100000 in
theorem CX6_endDay {ln N : Nat} {z : ZZ} (hN : 159 ≤ N ∧ N < 999999) (hz : okz z) {p : Int × ZZ} (h : fX6_endDay z = some p) : X mX6_endDay 0 (xEnt [.ref (151)] (xL mX6_endDay)) [] (zmk ln N z) (cc_wi p) (6 * cc_wi p) (Qd (fa_wi p) (rs_wi p) (st_wi ln N p)) := by
  have k : Fin_wi (Qd (fa_wi p) (rs_wi p) (st_wi ln N p)) ln N p := Fin_wi_i
  unfold fX6_endDay at h
  refine X_to (M := [some (.ref (151)), none, none, none]) (su := []) rfl rfl ?_
  refine X_iconst (pc' := 1) dX6_endDay_0 rfl ?_
  refine X_istore_n (pc' := 2) dX6_endDay_1 rfl (cl rfl) (Or.inr rfl) (L' := [some (.ref (151)), some (.int (iN (0))), none, none]) rfl ?_
  refine X_iconst (pc' := 3) dX6_endDay_2 rfl ?_
  refine X_istore_n (pc' := 4) dX6_endDay_3 rfl (cl rfl) (Or.inr rfl) (L' := [some (.ref (151)), some (.int (iN (0))), some (.int (iN (0))), none]) rfl ?_
  obtain ⟨⟨x1_v1, x1_z⟩, q1, h⟩ := bs h
  refine X_sub (sub_s (sub_s (sub_s (sub_n sub_0)))) (LX6_endDay_4 hN (fun x1_v1₁ x1_z₁ hh rx1_v1 hx1_z => ?_) FU _ _ _ (inR_c (n := 0) rfl) (inR_c (n := 0) rfl) hz q1)
  cases hh
  refine X_iconst (pc' := 41) dX6_endDay_40 rfl ?_
  refine X_istore_n (pc' := 42) dX6_endDay_41 rfl (cl rfl) (Or.inr rfl) (L' := [some (.ref (151)), some (.int (iN (x1_v1))), some (.int (iN (0))), none]) rfl ?_
  obtain ⟨x2_z, q2, h⟩ := bs h
  refine X_sub (sub_s (sub_s (sub_s (sub_n sub_0)))) (LX6_endDay_42 hN rx1_v1 (fun x2_z₁ hh hx2_z => ?_) FU _ _ (inR_c (n := 0) rfl) hx1_z q2)
  cases hh
  refine X_aload_n (pc' := 91) dX6_endDay_90 rfl rfl ?_
  refine Y_get (pc' := 94) dX6_endDay_91 rfl FX6_16 (zlN hN (by decide)) (congrArg Prod.fst (sh151 ln)) (ct151_9 x2_z) ?_
  refine X_iconst (pc' := 95) dX6_endDay_94 rfl ?_
  refine X_dup2 (pc' := 96) dX6_endDay_95 rfl rfl rfl ?_
  refine Y_iald (pc' := 97) dX6_endDay_96 rfl (zlN hN (by decide)) (sh154 ln) (by decide) ⟨by decide, by decide⟩ ?_
  refine X_iconst (pc' := 98) dX6_endDay_97 rfl ?_
  refine X_iadd (pc' := 99) dX6_endDay_98 rfl ?_
  obtain ⟨g3, h⟩ := gs h
  refine Y_iast (pc' := 100) dX6_endDay_99 rfl (zlN hN (by decide)) (sh154 ln) (by decide) ⟨by decide, by decide⟩ ?_
  obtain ⟨z4, e4, hz4, h⟩ := zl_some (P := okz) h (okz_up hx2_z g3)
  rw [e4]
  refine X_iload_n (pc' := 101) dX6_endDay_100 rfl rfl ?_
  cases h
  exact X_iret dX6_endDay_101 rfl (k ⟨rx1_v1, hz4⟩)
def fX6_endDays_s54 (v1 : Int) (v2 : Int) (v3 : Int) (z : ZZ) : Option ((Int × Int × ZZ) ⊕ (Int × ZZ)) := (if (v3) < (v1) then (Option.bind (fX6_endDay z) fun q2 => match q2 with | (r2, z2) => (if inR ((v2 + r2)) then (if inR ((v3 + 1)) then some (.inl ((v2 + r2), (v3 + 1), z2)) else none) else none)) else some (.inr (v2, z)))
set_option maxRecDepth 100000 in
theorem SX6_endDays_54 {ln N : Nat} {z : ZZ} {v1 : Int} {v2 : Int} {v3 : Int} {c9 s9 : Nat} {Φ : xRes → xS → Prop} (hN : 159 ≤ N ∧ N < 999999) (hz : okz z) (rv1 : inR v1) (rv2 : inR v2) (rv3 : inR v3) {p : (Int × Int × ZZ) ⊕ (Int × ZZ)} (h : fX6_endDays_s54 v1 v2 v3 z = some p) (k1 : ∀ (v2' : Int) (v3' : Int) (z' : ZZ), p = .inl (v2', v3', z') → inR v2' → inR v3' → okz z' → X mX6_endDays 54 [some (.ref (151)), some (.int (iN (v1))), some (.int (iN (v2'))), some (.int (iN (v3')))] [] (zmk ln N z') c9 s9 Φ) (k2 : ∀ (v2' : Int) (z' : ZZ), p = .inr (v2', z') → inR v2' → okz z' → X mX6_endDays 72 [none, none, some (.int (iN (v2'))), none] [] (zmk ln N z') c9 s9 Φ) : X mX6_endDays 54 [some (.ref (151)), some (.int (iN (v1))), some (.int (iN (v2))), some (.int (iN (v3)))] [] (zmk ln N z) c9 s9 Φ := by
  unfold fX6_endDays_s54 at h
  refine X_iload_n (pc' := 55) dX6_endDays_54 rfl rfl ?_
  refine X_iload_n (pc' := 56) dX6_endDays_55 rfl rfl ?_
  refine X_icmp_ge dX6_endDays_56 (tgt := 72) rfl (pc' := 59) rfl ⟨rv3.1, rv3.2, rv1.1, rv1.2⟩ (fun c1 => ?_) (fun c1 => ?_)
  · have h := if_f (Int.not_lt.mpr c1) h
    cases h
    exact X_sub (sub_n (sub_n (sub_s (sub_n sub_0)))) (k2 _ _ rfl rv2 hz)
  have h := if_t c1 h
  refine X_iload_n (pc' := 60) dX6_endDays_59 rfl rfl ?_
  refine X_aload_n (pc' := 61) dX6_endDays_60 rfl rfl ?_
  obtain ⟨⟨r2, z2⟩, q2, h⟩ := bs h
  refine Y_callV [] (pc' := 64) dX6_endDays_61 rfl VX6_290 (by decide) (zlN hN (by decide)) (congrArg Prod.fst (sh151 ln)) rfl rfl rfl (cs rfl) (cs rfl) rfl (CX6_endDay hN hz q2) (Nat.zero_add _).symm (Nat.zero_add _).symm (fun f2 => ?_)
  refine X_iadd (pc' := 65) dX6_endDays_64 rfl ?_
  refine X_istore_n (pc' := 66) dX6_endDays_65 rfl (cl rfl) (Or.inr rfl) (L' := [some (.ref (151)), some (.int (iN (v1))), some (.int (iN ((v2 + r2)))), some (.int (iN (v3)))]) rfl ?_
  refine X_iinc (pc' := 69) dX6_endDays_66 rfl rfl (Or.inr rfl) (L' := [some (.ref (151)), some (.int (iN (v1))), some (.int (iN ((v2 + r2)))), some (.int (iN (v3 + 1)))]) rfl ?_
  refine X_goto dX6_endDays_69 (tgt := 54) rfl ?_
  obtain ⟨g3, h⟩ := gs h
  obtain ⟨g4, h⟩ := gs h
  cases h
  exact X_sub (sub_s (sub_s (sub_s (sub_s sub_0)))) (k1 _ _ _ rfl g3 g4 f2.2)
theorem LX6_endDays_54 {ln N : Nat} {v1 : Int} {c9 s9 : Nat} {Φ : xRes → xS → Prop} (hN : 159 ≤ N ∧ N < 999999) (rv1 : inR v1) {r : Int × ZZ} (k2 : ∀ (v2' : Int) (z' : ZZ), r = (v2', z') → inR v2' → okz z' → X mX6_endDays 72 [none, none, some (.int (iN (v2'))), none] [] (zmk ln N z') c9 s9 Φ) : ∀ (n : Nat) (v2 : Int) (v3 : Int) (z : ZZ), inR v2 → inR v3 → okz z → zlp (fun q => fX6_endDays_s54 v1 q.1 q.2.1 q.2.2) n (v2, v3, z) = some r → X mX6_endDays 54 [some (.ref (151)), some (.int (iN (v1))), some (.int (iN (v2))), some (.int (iN (v3)))] [] (zmk ln N z) c9 s9 Φ := by
  intro n
  induction n with
  | zero => intro v2 v3 z rv2 rv3 hz h; cases h
  | succ n ih =>
    intro v2 v3 z rv2 rv3 hz h
    rcases zlp_s h with ⟨⟨v2', v3', z'⟩, e, h'⟩ | e
    · exact SX6_endDays_54 hN hz rv1 rv2 rv3 e (fun v2₁ v3₁ z₁ hh f0 f1 f2 => by cases hh; exact ih _ _ _ f0 f1 f2 h') (fun v2₁ z₁ hh f0 f1 => by cases hh)
    · exact SX6_endDays_54 hN hz rv1 rv2 rv3 e (fun v2₁ v3₁ z₁ hh f0 f1 f2 => by cases hh) (fun v2₁ z₁ hh f0 f1 => by cases hh; exact k2 _ _ rfl f0 f1)
def fX6_endDays_b37 (v1 : Int) (s1 : Int) (z : ZZ) : Option (Int × ZZ) := (Option.bind (fX6_fails (s1) (1) z) fun q1 => match q1 with | (r1, z1) => (if (r1) = (0) then (Option.bind (fX6_record z1) fun z3 => (Option.bind (zlp (fun q => fX6_endDays_s54 (v1) q.1 q.2.1 q.2.2) FU (0, 0, z3)) fun q4 => match q4 with | (x4_v2, x4_z) => some (x4_v2, x4_z))) else some (0, z1)))
set_option maxRecDepth 100000 in
theorem BX6_endDays_37 {ln N : Nat} {z : ZZ} {v1 : Int} {s1 : Int} {c9 s9 : Nat} {Φ : xRes → xS → Prop} (hN : 159 ≤ N ∧ N < 999999) (hz : okz z) (rv1 : inR v1) (rs1 : inR s1) {p : Int × ZZ} (h : fX6_endDays_b37 v1 s1 z = some p) (k : Fin_wi Φ ln N p) : X mX6_endDays 37 [some (.ref (151)), some (.int (iN (v1))), none, none] [.int (iN (s1)), .ref (151)] (zmk ln N z) c9 s9 Φ := by
  unfold fX6_endDays_b37 at h
  refine X_iconst (pc' := 38) dX6_endDays_37 rfl ?_
  obtain ⟨⟨r1, z1⟩, q1, h⟩ := bs h
  refine Y_callV [.int (iN (s1)), .int (iN (1))] (pc' := 41) dX6_endDays_38 rfl VX6_62 (by decide) (zlN hN (by decide)) (congrArg Prod.fst (sh151 ln)) rfl rfl rfl (cs rfl) (cs rfl) rfl (CX6_fails hN hz rs1 (inR_c (n := 1) rfl) q1) (Nat.zero_add _).symm (Nat.zero_add _).symm (fun f1 => ?_)
  refine X_if_eq dX6_endDays_41 (tgt := 46) rfl (pc' := 44) rfl (inR_b f1.1) (fun c2 => ?_) (fun c2 => ?_)
  · have h := if_t c2 h
    refine X_aload_n (pc' := 47) dX6_endDays_46 rfl rfl ?_
    obtain ⟨z3, q3, h⟩ := bs h
    refine Y_callVv [] (pc' := 50) dX6_endDays_47 rfl VX6_229 (by decide) (zlN hN (by decide)) (congrArg Prod.fst (sh151 ln)) rfl rfl rfl (cs rfl) (cs rfl) rfl (CX6_record hN f1.2 q3) (Nat.zero_add _).symm (Nat.zero_add _).symm (fun f3 => ?_)
    refine X_iconst (pc' := 51) dX6_endDays_50 rfl ?_
    refine X_istore_n (pc' := 52) dX6_endDays_51 rfl (cl rfl) (Or.inr rfl) (L' := [some (.ref (151)), some (.int (iN (v1))), some (.int (iN (0))), none]) rfl ?_
    refine X_iconst (pc' := 53) dX6_endDays_52 rfl ?_
    refine X_istore_n (pc' := 54) dX6_endDays_53 rfl (cl rfl) (Or.inr rfl) (L' := [some (.ref (151)), some (.int (iN (v1))), some (.int (iN (0))), some (.int (iN (0)))]) rfl ?_
    obtain ⟨⟨x4_v2, x4_z⟩, q4, h⟩ := bs h
    refine X_sub (sub_s (sub_s (sub_s (sub_s sub_0)))) (LX6_endDays_54 hN rv1 (fun x4_v2₁ x4_z₁ hh rx4_v2 hx4_z => ?_) FU _ _ _ (inR_c (n := 0) rfl) (inR_c (n := 0) rfl) f3 q4)
    cases hh
    refine X_iload_n (pc' := 73) dX6_endDays_72 rfl rfl ?_
    cases h
    exact X_iret dX6_endDays_73 rfl (k ⟨rx4_v2, hx4_z⟩)
  have h := if_f c2 h
  refine X_iconst (pc' := 45) dX6_endDays_44 rfl ?_
  cases h
  exact X_iret dX6_endDays_45 rfl (k ⟨(inR_c (n := 0) rfl), f1.2⟩)
def fX6_endDays_b36 (v1 : Int) (z : ZZ) : Option (Int × ZZ) := fX6_endDays_b37 (v1) (0) z
set_option maxRecDepth 100000 in
theorem BX6_endDays_36 {ln N : Nat} {z : ZZ} {v1 : Int} {c9 s9 : Nat} {Φ : xRes → xS → Prop} (hN : 159 ≤ N ∧ N < 999999) (hz : okz z) (rv1 : inR v1) {p : Int × ZZ} (h : fX6_endDays_b36 v1 z = some p) (k : Fin_wi Φ ln N p) : X mX6_endDays 36 [some (.ref (151)), some (.int (iN (v1))), none, none] [.ref (151)] (zmk ln N z) c9 s9 Φ := by
  unfold fX6_endDays_b36 at h
  refine X_iconst (pc' := 37) dX6_endDays_36 rfl ?_
  exact X_sub (sub_s (sub_s (sub_n (sub_n sub_0)))) (BX6_endDays_37 hN hz rv1 (inR_c (n := 0) rfl) h k)
def fX6_endDays (v1 : Int) (z : ZZ) : Option (Int × ZZ) := (zl (zup z 151 0 (0)) fun z1 => (Option.bind (fX6_in (v1) (1) (60) z1) fun r2 => (if (r2) = (0) then fX6_endDays_b36 (v1) z1 else (if inR (((z1 154 (3)) + v1)) then (if (9999) < (((z1 154 (3)) + v1)) then fX6_endDays_b36 (v1) z1 else fX6_endDays_b37 (v1) (1) z1) else none))))
set_option maxRecDepth 100000 in
theorem CX6_endDays {ln N : Nat} {z : ZZ} {v1 : Int} (hN : 159 ≤ N ∧ N < 999999) (hz : okz z) (rv1 : inR v1) {p : Int × ZZ} (h : fX6_endDays v1 z = some p) : X mX6_endDays 0 (xEnt [.ref (151), .int (iN (v1))] (xL mX6_endDays)) [] (zmk ln N z) (cc_wi p) (6 * cc_wi p) (Qd (fa_wi p) (rs_wi p) (st_wi ln N p)) := by
  have k : Fin_wi (Qd (fa_wi p) (rs_wi p) (st_wi ln N p)) ln N p := Fin_wi_i
  unfold fX6_endDays at h
  refine X_to (M := [some (.ref (151)), some (.int (iN (v1))), none, none]) (su := []) rfl rfl ?_
  refine X_aload_n (pc' := 1) dX6_endDays_0 rfl rfl ?_
  refine X_iconst (pc' := 2) dX6_endDays_1 rfl ?_
  refine Y_put (k := 0) (j := 0) (v := 0) (pc' := 5) dX6_endDays_2 rfl FX6_51 (zlN hN (by decide)) (congrArg Prod.fst (sh151 ln)) (fun r hr => by cases hr; rfl) (xFit_int _) rfl rfl ?_
  obtain ⟨z1, e1, hz1, h⟩ := zl_some (P := okz) h (okz_up hz (inR_c (n := 0) rfl))
  rw [e1]
  refine X_aload_n (pc' := 6) dX6_endDays_5 rfl rfl ?_
  refine X_iload_n (pc' := 7) dX6_endDays_6 rfl rfl ?_
  refine X_lI_i2l (pc' := 8) dX6_endDays_7 rfl rv1 ?_
  refine X_lI_const (pc' := 9) dX6_endDays_8 rfl (a := 1) rfl ?_
  refine X_ldc2 (pc' := 12) dX6_endDays_9 rfl tq1513 (n := 60) rfl ?_
  obtain ⟨r2, q2, h⟩ := bs h
  refine Y_callS [.long (lI (v1)), .long (lI (1)), .long (lI (60))] (pc' := 15) dX6_endDays_12 rfl SX6_66 (by decide) rfl (cs rfl) (cs rfl) rfl (CX6_in hN hz1 (inL_R rv1) (inL_c (n := 1) rfl) (inL_c (n := 60) rfl) q2) (Nat.zero_add _).symm (Nat.zero_add _).symm (fun f2 => ?_)
  refine X_if_eq dX6_endDays_15 (tgt := 36) rfl (pc' := 18) rfl (inR_b f2) (fun c3 => ?_) (fun c3 => ?_)
  · have h := if_t c3 h
    exact X_sub (sub_s (sub_s (sub_n (sub_n sub_0)))) (BX6_endDays_36 hN hz1 rv1 h k)
  have h := if_f c3 h
  refine X_aload_n (pc' := 19) dX6_endDays_18 rfl rfl ?_
  refine Y_get (pc' := 22) dX6_endDays_19 rfl FX6_16 (zlN hN (by decide)) (congrArg Prod.fst (sh151 ln)) (ct151_9 z1) ?_
  refine X_iconst (pc' := 23) dX6_endDays_22 rfl ?_
  refine Y_iald (pc' := 24) dX6_endDays_23 rfl (zlN hN (by decide)) (sh154 ln) (by decide) ⟨by decide, by decide⟩ ?_
  refine X_iload_n (pc' := 25) dX6_endDays_24 rfl rfl ?_
  refine X_iadd (pc' := 26) dX6_endDays_25 rfl ?_
  refine X_sipush (pc' := 29) dX6_endDays_26 rfl (by decide) ?_
  obtain ⟨g4, h⟩ := gs h
  refine X_icmp_gt dX6_endDays_29 (tgt := 36) rfl (pc' := 32) rfl ⟨g4.1, g4.2, (inR_c (n := 9999) rfl).1, (inR_c (n := 9999) rfl).2⟩ (fun c5 => ?_) (fun c5 => ?_)
  · have h := if_t c5 h
    exact X_sub (sub_s (sub_s (sub_n (sub_n sub_0)))) (BX6_endDays_36 hN hz1 rv1 h k)
  have h := if_f (Int.not_lt.mpr c5) h
  refine X_iconst (pc' := 33) dX6_endDays_32 rfl ?_
  refine X_goto dX6_endDays_33 (tgt := 37) rfl ?_
  exact X_sub (sub_s (sub_s (sub_n (sub_n sub_0)))) (BX6_endDays_37 hN hz1 rv1 (inR_c (n := 1) rfl) h k)
def fX6_mayEnroll_b55 (v1 : Int) (v2 : Int) (v3 : Int) (s0 : Int) (z : ZZ) : Option (Int) := (if (v3) = (0) then some (0) else (if (s0) = (0) then some (0) else (Option.bind (fX6_memberPart (v1) (2) z) fun r3 => (Option.bind (fX6_coursePart (v2) (2) z) fun r4 => (if (r3) < (r4) then some (0) else some (1))))))
set_option maxRecDepth 100000 in
theorem BX6_mayEnroll_55 {ln N : Nat} {z : ZZ} {v1 : Int} {v2 : Int} {v3 : Int} {s0 : Int} {c9 s9 : Nat} {Φ : xRes → xS → Prop} (hN : 159 ≤ N ∧ N < 999999) (hz : okz z) (rv1 : inR v1) (rv2 : inR v2) (rv3 : inR v3) (rs0 : inR s0) {p : Int} (h : fX6_mayEnroll_b55 v1 v2 v3 s0 z = some p) (k : Fin_b Φ ln N z p) : X mX6_mayEnroll 55 [some (.ref (151)), some (.int (iN (v1))), some (.int (iN (v2))), some (.int (iN (v3))), none] [.int (iN (s0))] (zmk ln N z) c9 s9 Φ := by
  unfold fX6_mayEnroll_b55 at h
  refine X_istore (pc' := 57) dX6_mayEnroll_55 rfl (cl rfl) (Or.inr rfl) (L' := [some (.ref (151)), some (.int (iN (v1))), some (.int (iN (v2))), some (.int (iN (v3))), some (.int (iN (s0)))]) rfl ?_
  refine X_iload_n (pc' := 58) dX6_mayEnroll_57 rfl rfl ?_
  refine X_if_eq dX6_mayEnroll_58 (tgt := 85) rfl (pc' := 61) rfl rv3 (fun c1 => ?_) (fun c1 => ?_)
  · have h := if_t c1 h
    refine X_iconst (pc' := 86) dX6_mayEnroll_85 rfl ?_
    cases h
    exact X_zret dX6_mayEnroll_86 rfl (Or.inl rfl) (k (Or.inl rfl))
  have h := if_f c1 h
  refine X_iload (pc' := 63) dX6_mayEnroll_61 rfl rfl ?_
  refine X_if_eq dX6_mayEnroll_63 (tgt := 85) rfl (pc' := 66) rfl rs0 (fun c2 => ?_) (fun c2 => ?_)
  · have h := if_t c2 h
    refine X_iconst (pc' := 86) dX6_mayEnroll_85 rfl ?_
    cases h
    exact X_zret dX6_mayEnroll_86 rfl (Or.inl rfl) (k (Or.inl rfl))
  have h := if_f c2 h
  refine X_aload_n (pc' := 67) dX6_mayEnroll_66 rfl rfl ?_
  refine X_iload_n (pc' := 68) dX6_mayEnroll_67 rfl rfl ?_
  refine X_iconst (pc' := 69) dX6_mayEnroll_68 rfl ?_
  obtain ⟨r3, q3, h⟩ := bs h
  refine Y_callV [.int (iN (v1)), .int (iN (2))] (pc' := 72) dX6_mayEnroll_69 rfl VX6_207 (by decide) (zlN hN (by decide)) (congrArg Prod.fst (sh151 ln)) rfl rfl rfl (cs rfl) (cs rfl) rfl (CX6_memberPart hN hz rv1 (inR_c (n := 2) rfl) q3) (Nat.zero_add _).symm (Nat.zero_add _).symm (fun f3 => ?_)
  refine X_aload_n (pc' := 73) dX6_mayEnroll_72 rfl rfl ?_
  refine X_iload_n (pc' := 74) dX6_mayEnroll_73 rfl rfl ?_
  refine X_iconst (pc' := 75) dX6_mayEnroll_74 rfl ?_
  obtain ⟨r4, q4, h⟩ := bs h
  refine Y_callV [.int (iN (v2)), .int (iN (2))] (pc' := 78) dX6_mayEnroll_75 rfl VX6_268 (by decide) (zlN hN (by decide)) (congrArg Prod.fst (sh151 ln)) rfl rfl rfl (cs rfl) (cs rfl) rfl (CX6_coursePart hN hz rv2 (inR_c (n := 2) rfl) q4) (Nat.zero_add _).symm (Nat.zero_add _).symm (fun f4 => ?_)
  refine X_icmp_lt dX6_mayEnroll_78 (tgt := 85) rfl (pc' := 81) rfl ⟨f3.1, f3.2, f4.1, f4.2⟩ (fun c5 => ?_) (fun c5 => ?_)
  · have h := if_t c5 h
    refine X_iconst (pc' := 86) dX6_mayEnroll_85 rfl ?_
    cases h
    exact X_zret dX6_mayEnroll_86 rfl (Or.inl rfl) (k (Or.inl rfl))
  have h := if_f (Int.not_lt.mpr c5) h
  refine X_iconst (pc' := 82) dX6_mayEnroll_81 rfl ?_
  refine X_goto dX6_mayEnroll_82 (tgt := 86) rfl ?_
  cases h
  exact X_zret dX6_mayEnroll_86 rfl (Or.inr rfl) (k (Or.inr rfl))
def fX6_mayEnroll_b54 (v1 : Int) (v2 : Int) (v3 : Int) (z : ZZ) : Option (Int) := fX6_mayEnroll_b55 (v1) (v2) (v3) (0) z
set_option maxRecDepth 100000 in
theorem BX6_mayEnroll_54 {ln N : Nat} {z : ZZ} {v1 : Int} {v2 : Int} {v3 : Int} {c9 s9 : Nat} {Φ : xRes → xS → Prop} (hN : 159 ≤ N ∧ N < 999999) (hz : okz z) (rv1 : inR v1) (rv2 : inR v2) (rv3 : inR v3) {p : Int} (h : fX6_mayEnroll_b54 v1 v2 v3 z = some p) (k : Fin_b Φ ln N z p) : X mX6_mayEnroll 54 [some (.ref (151)), some (.int (iN (v1))), some (.int (iN (v2))), some (.int (iN (v3))), none] [] (zmk ln N z) c9 s9 Φ := by
  unfold fX6_mayEnroll_b54 at h
  refine X_iconst (pc' := 55) dX6_mayEnroll_54 rfl ?_
  exact X_sub (sub_s (sub_s (sub_s (sub_s (sub_n sub_0))))) (BX6_mayEnroll_55 hN hz rv1 rv2 rv3 (inR_c (n := 0) rfl) h k)
def fX6_mayEnroll_b22 (v1 : Int) (v2 : Int) (s0 : Int) (z : ZZ) : Option (Int) := (Option.bind (fX6_memberPart (v1) (4) z) fun r1 => (if (r1) = ((-1)) then (Option.bind (fX6_inCourse (v2) z) fun r3 => (Option.bind (fX6_bits (r3) z) fun r4 => (Option.bind (fX6_coursePart (v2) (1) z) fun r5 => (if (r4) < (r5) then fX6_mayEnroll_b55 (v1) (v2) (s0) (1) z else fX6_mayEnroll_b54 (v1) (v2) (s0) z)))) else fX6_mayEnroll_b54 (v1) (v2) (s0) z))
set_option maxRecDepth 100000 in
theorem BX6_mayEnroll_22 {ln N : Nat} {z : ZZ} {v1 : Int} {v2 : Int} {s0 : Int} {c9 s9 : Nat} {Φ : xRes → xS → Prop} (hN : 159 ≤ N ∧ N < 999999) (hz : okz z) (rv1 : inR v1) (rv2 : inR v2) (rs0 : inR s0) {p : Int} (h : fX6_mayEnroll_b22 v1 v2 s0 z = some p) (k : Fin_b Φ ln N z p) : X mX6_mayEnroll 22 [some (.ref (151)), some (.int (iN (v1))), some (.int (iN (v2))), none, none] [.int (iN (s0))] (zmk ln N z) c9 s9 Φ := by
  unfold fX6_mayEnroll_b22 at h
  refine X_istore_n (pc' := 23) dX6_mayEnroll_22 rfl (cl rfl) (Or.inr rfl) (L' := [some (.ref (151)), some (.int (iN (v1))), some (.int (iN (v2))), some (.int (iN (s0))), none]) rfl ?_
  refine X_aload_n (pc' := 24) dX6_mayEnroll_23 rfl rfl ?_
  refine X_iload_n (pc' := 25) dX6_mayEnroll_24 rfl rfl ?_
  refine X_iconst (pc' := 26) dX6_mayEnroll_25 rfl ?_
  obtain ⟨r1, q1, h⟩ := bs h
  refine Y_callV [.int (iN (v1)), .int (iN (4))] (pc' := 29) dX6_mayEnroll_26 rfl VX6_207 (by decide) (zlN hN (by decide)) (congrArg Prod.fst (sh151 ln)) rfl rfl rfl (cs rfl) (cs rfl) rfl (CX6_memberPart hN hz rv1 (inR_c (n := 4) rfl) q1) (Nat.zero_add _).symm (Nat.zero_add _).symm (fun f1 => ?_)
  refine X_iconst (pc' := 30) dX6_mayEnroll_29 rfl ?_
  refine X_icmp_ne dX6_mayEnroll_30 (tgt := 54) rfl (pc' := 33) rfl ⟨f1.1, f1.2, (inR_c (n := (-1)) rfl).1, (inR_c (n := (-1)) rfl).2⟩ (fun c2 => ?_) (fun c2 => ?_)
  · have h := if_f c2 h
    exact X_sub (sub_s (sub_s (sub_s (sub_s (sub_n sub_0))))) (BX6_mayEnroll_54 hN hz rv1 rv2 rs0 h k)
  have h := if_t c2 h
  refine X_aload_n (pc' := 34) dX6_mayEnroll_33 rfl rfl ?_
  refine X_iload_n (pc' := 35) dX6_mayEnroll_34 rfl rfl ?_
  obtain ⟨r3, q3, h⟩ := bs h
  refine Y_callV [.int (iN (v2))] (pc' := 38) dX6_mayEnroll_35 rfl VX6_271 (by decide) (zlN hN (by decide)) (congrArg Prod.fst (sh151 ln)) rfl rfl rfl (cs rfl) (cs rfl) rfl (CX6_inCourse hN hz rv2 q3) (Nat.zero_add _).symm (Nat.zero_add _).symm (fun f3 => ?_)
  obtain ⟨r4, q4, h⟩ := bs h
  refine Y_callS [.int (iN (r3))] (pc' := 41) dX6_mayEnroll_38 rfl SX6_274 (by decide) rfl (cs rfl) (cs rfl) rfl (CX6_bits hN hz f3 q4) (Nat.zero_add _).symm (Nat.zero_add _).symm (fun f4 => ?_)
  refine X_aload_n (pc' := 42) dX6_mayEnroll_41 rfl rfl ?_
  refine X_iload_n (pc' := 43) dX6_mayEnroll_42 rfl rfl ?_
  refine X_iconst (pc' := 44) dX6_mayEnroll_43 rfl ?_
  obtain ⟨r5, q5, h⟩ := bs h
  refine Y_callV [.int (iN (v2)), .int (iN (1))] (pc' := 47) dX6_mayEnroll_44 rfl VX6_268 (by decide) (zlN hN (by decide)) (congrArg Prod.fst (sh151 ln)) rfl rfl rfl (cs rfl) (cs rfl) rfl (CX6_coursePart hN hz rv2 (inR_c (n := 1) rfl) q5) (Nat.zero_add _).symm (Nat.zero_add _).symm (fun f5 => ?_)
  refine X_icmp_ge dX6_mayEnroll_47 (tgt := 54) rfl (pc' := 50) rfl ⟨f4.1, f4.2, f5.1, f5.2⟩ (fun c6 => ?_) (fun c6 => ?_)
  · have h := if_f (Int.not_lt.mpr c6) h
    exact X_sub (sub_s (sub_s (sub_s (sub_s (sub_n sub_0))))) (BX6_mayEnroll_54 hN hz rv1 rv2 rs0 h k)
  have h := if_t c6 h
  refine X_iconst (pc' := 51) dX6_mayEnroll_50 rfl ?_
  refine X_goto dX6_mayEnroll_51 (tgt := 55) rfl ?_
  exact X_sub (sub_s (sub_s (sub_s (sub_s (sub_n sub_0))))) (BX6_mayEnroll_55 hN hz rv1 rv2 rs0 (inR_c (n := 1) rfl) h k)
def fX6_mayEnroll (v1 : Int) (v2 : Int) (z : ZZ) : Option (Int) := (Option.bind (fX6_memberPart (v1) (1) z) fun r1 => (Option.bind (fX6_coursePart (v2) (0) z) fun r2 => (if inR ((r2 - 1)) then (if (r1) = ((r2 - 1)) then fX6_mayEnroll_b22 (v1) (v2) (1) z else fX6_mayEnroll_b22 (v1) (v2) (0) z) else none)))
set_option maxRecDepth 100000 in
theorem CX6_mayEnroll {ln N : Nat} {z : ZZ} {v1 : Int} {v2 : Int} (hN : 159 ≤ N ∧ N < 999999) (hz : okz z) (rv1 : inR v1) (rv2 : inR v2) {p : Int} (h : fX6_mayEnroll v1 v2 z = some p) : X mX6_mayEnroll 0 (xEnt [.ref (151), .int (iN (v1)), .int (iN (v2))] (xL mX6_mayEnroll)) [] (zmk ln N z) (cc_b p) (6 * cc_b p) (Qd (fa_b p) (rs_b p) (st_b ln N z p)) := by
  have k : Fin_b (Qd (fa_b p) (rs_b p) (st_b ln N z p)) ln N z p := Fin_b_i
  unfold fX6_mayEnroll at h
  refine X_to (M := [some (.ref (151)), some (.int (iN (v1))), some (.int (iN (v2))), none, none]) (su := []) rfl rfl ?_
  refine X_aload_n (pc' := 1) dX6_mayEnroll_0 rfl rfl ?_
  refine X_iload_n (pc' := 2) dX6_mayEnroll_1 rfl rfl ?_
  refine X_iconst (pc' := 3) dX6_mayEnroll_2 rfl ?_
  obtain ⟨r1, q1, h⟩ := bs h
  refine Y_callV [.int (iN (v1)), .int (iN (1))] (pc' := 6) dX6_mayEnroll_3 rfl VX6_207 (by decide) (zlN hN (by decide)) (congrArg Prod.fst (sh151 ln)) rfl rfl rfl (cs rfl) (cs rfl) rfl (CX6_memberPart hN hz rv1 (inR_c (n := 1) rfl) q1) (Nat.zero_add _).symm (Nat.zero_add _).symm (fun f1 => ?_)
  refine X_aload_n (pc' := 7) dX6_mayEnroll_6 rfl rfl ?_
  refine X_iload_n (pc' := 8) dX6_mayEnroll_7 rfl rfl ?_
  refine X_iconst (pc' := 9) dX6_mayEnroll_8 rfl ?_
  obtain ⟨r2, q2, h⟩ := bs h
  refine Y_callV [.int (iN (v2)), .int (iN (0))] (pc' := 12) dX6_mayEnroll_9 rfl VX6_268 (by decide) (zlN hN (by decide)) (congrArg Prod.fst (sh151 ln)) rfl rfl rfl (cs rfl) (cs rfl) rfl (CX6_coursePart hN hz rv2 (inR_c (n := 0) rfl) q2) (Nat.zero_add _).symm (Nat.zero_add _).symm (fun f2 => ?_)
  refine X_iconst (pc' := 13) dX6_mayEnroll_12 rfl ?_
  refine X_isub (pc' := 14) dX6_mayEnroll_13 rfl ?_
  obtain ⟨g3, h⟩ := gs h
  refine X_icmp_ne dX6_mayEnroll_14 (tgt := 21) rfl (pc' := 17) rfl ⟨f1.1, f1.2, g3.1, g3.2⟩ (fun c4 => ?_) (fun c4 => ?_)
  · have h := if_f c4 h
    refine X_iconst (pc' := 22) dX6_mayEnroll_21 rfl ?_
    exact X_sub (sub_s (sub_s (sub_s (sub_n (sub_n sub_0))))) (BX6_mayEnroll_22 hN hz rv1 rv2 (inR_c (n := 0) rfl) h k)
  have h := if_t c4 h
  refine X_iconst (pc' := 18) dX6_mayEnroll_17 rfl ?_
  refine X_goto dX6_mayEnroll_18 (tgt := 22) rfl ?_
  exact X_sub (sub_s (sub_s (sub_s (sub_n (sub_n sub_0))))) (BX6_mayEnroll_22 hN hz rv1 rv2 (inR_c (n := 1) rfl) h k)
def fX6_enroll_b27 (v1 : Int) (v2 : Int) (s1 : Int) (z : ZZ) : Option (Int × ZZ) := (Option.bind (fX6_fails (s1) (1) z) fun q1 => match q1 with | (r1, z1) => (if (r1) = (0) then (Option.bind (fX6_mayEnroll (v1) (v2) z1) fun r3 => (Option.bind (fX6_fails (r3) (2) z1) fun q4 => match q4 with | (r4, z4) => (if (r4) = (0) then (Option.bind (fX6_record z4) fun z6 => (Option.bind (fX6_setMember (v1) (4) (v2) z6) fun z7 => (Option.bind (fX6_inCourse (v2) z7) fun r8 => (Option.bind (fX6_bits (r8) z7) fun r9 => some (r9, z7))))) else some (0, z4)))) else some (0, z1)))
set_option maxRecDepth 100000 in
theorem BX6_enroll_27 {ln N : Nat} {z : ZZ} {v1 : Int} {v2 : Int} {s1 : Int} {c9 s9 : Nat} {Φ : xRes → xS → Prop} (hN : 159 ≤ N ∧ N < 999999) (hz : okz z) (rv1 : inR v1) (rv2 : inR v2) (rs1 : inR s1) {p : Int × ZZ} (h : fX6_enroll_b27 v1 v2 s1 z = some p) (k : Fin_wi Φ ln N p) : X mX6_enroll 27 [some (.ref (151)), some (.int (iN (v1))), some (.int (iN (v2)))] [.int (iN (s1)), .ref (151)] (zmk ln N z) c9 s9 Φ := by
  unfold fX6_enroll_b27 at h
  refine X_iconst (pc' := 28) dX6_enroll_27 rfl ?_
  obtain ⟨⟨r1, z1⟩, q1, h⟩ := bs h
  refine Y_callV [.int (iN (s1)), .int (iN (1))] (pc' := 31) dX6_enroll_28 rfl VX6_62 (by decide) (zlN hN (by decide)) (congrArg Prod.fst (sh151 ln)) rfl rfl rfl (cs rfl) (cs rfl) rfl (CX6_fails hN hz rs1 (inR_c (n := 1) rfl) q1) (Nat.zero_add _).symm (Nat.zero_add _).symm (fun f1 => ?_)
  refine X_if_ne dX6_enroll_31 (tgt := 48) rfl (pc' := 34) rfl (inR_b f1.1) (fun c2 => ?_) (fun c2 => ?_)
  · have h := if_f c2 h
    refine X_iconst (pc' := 49) dX6_enroll_48 rfl ?_
    cases h
    exact X_iret dX6_enroll_49 rfl (k ⟨(inR_c (n := 0) rfl), f1.2⟩)
  have h := if_t c2 h
  refine X_aload_n (pc' := 35) dX6_enroll_34 rfl rfl ?_
  refine X_aload_n (pc' := 36) dX6_enroll_35 rfl rfl ?_
  refine X_iload_n (pc' := 37) dX6_enroll_36 rfl rfl ?_
  refine X_iload_n (pc' := 38) dX6_enroll_37 rfl rfl ?_
  obtain ⟨r3, q3, h⟩ := bs h
  refine Y_callV [.int (iN (v1)), .int (iN (v2))] (pc' := 41) dX6_enroll_38 rfl VX6_280 (by decide) (zlN hN (by decide)) (congrArg Prod.fst (sh151 ln)) rfl rfl rfl (cs rfl) (cs rfl) rfl (CX6_mayEnroll hN f1.2 rv1 rv2 q3) (Nat.zero_add _).symm (Nat.zero_add _).symm (fun f3 => ?_)
  refine X_iconst (pc' := 42) dX6_enroll_41 rfl ?_
  obtain ⟨⟨r4, z4⟩, q4, h⟩ := bs h
  refine Y_callV [.int (iN (r3)), .int (iN (2))] (pc' := 45) dX6_enroll_42 rfl VX6_62 (by decide) (zlN hN (by decide)) (congrArg Prod.fst (sh151 ln)) rfl rfl rfl (cs rfl) (cs rfl) rfl (CX6_fails hN f1.2 (inR_b f3) (inR_c (n := 2) rfl) q4) (Nat.zero_add _).symm (Nat.zero_add _).symm (fun f4 => ?_)
  refine X_if_eq dX6_enroll_45 (tgt := 50) rfl (pc' := 48) rfl (inR_b f4.1) (fun c5 => ?_) (fun c5 => ?_)
  · have h := if_t c5 h
    refine X_aload_n (pc' := 51) dX6_enroll_50 rfl rfl ?_
    obtain ⟨z6, q6, h⟩ := bs h
    refine Y_callVv [] (pc' := 54) dX6_enroll_51 rfl VX6_229 (by decide) (zlN hN (by decide)) (congrArg Prod.fst (sh151 ln)) rfl rfl rfl (cs rfl) (cs rfl) rfl (CX6_record hN f4.2 q6) (Nat.zero_add _).symm (Nat.zero_add _).symm (fun f6 => ?_)
    refine X_aload_n (pc' := 55) dX6_enroll_54 rfl rfl ?_
    refine X_iload_n (pc' := 56) dX6_enroll_55 rfl rfl ?_
    refine X_iconst (pc' := 57) dX6_enroll_56 rfl ?_
    refine X_iload_n (pc' := 58) dX6_enroll_57 rfl rfl ?_
    obtain ⟨z7, q7, h⟩ := bs h
    refine Y_callVv [.int (iN (v1)), .int (iN (4)), .int (iN (v2))] (pc' := 61) dX6_enroll_58 rfl VX6_250 (by decide) (zlN hN (by decide)) (congrArg Prod.fst (sh151 ln)) rfl rfl rfl (cs rfl) (cs rfl) rfl (CX6_setMember hN f6 rv1 (inR_c (n := 4) rfl) rv2 q7) (Nat.zero_add _).symm (Nat.zero_add _).symm (fun f7 => ?_)
    refine X_aload_n (pc' := 62) dX6_enroll_61 rfl rfl ?_
    refine X_iload_n (pc' := 63) dX6_enroll_62 rfl rfl ?_
    obtain ⟨r8, q8, h⟩ := bs h
    refine Y_callV [.int (iN (v2))] (pc' := 66) dX6_enroll_63 rfl VX6_271 (by decide) (zlN hN (by decide)) (congrArg Prod.fst (sh151 ln)) rfl rfl rfl (cs rfl) (cs rfl) rfl (CX6_inCourse hN f7 rv2 q8) (Nat.zero_add _).symm (Nat.zero_add _).symm (fun f8 => ?_)
    obtain ⟨r9, q9, h⟩ := bs h
    refine Y_callS [.int (iN (r8))] (pc' := 69) dX6_enroll_66 rfl SX6_274 (by decide) rfl (cs rfl) (cs rfl) rfl (CX6_bits hN f7 f8 q9) (Nat.zero_add _).symm (Nat.zero_add _).symm (fun f9 => ?_)
    cases h
    exact X_iret dX6_enroll_69 rfl (k ⟨f9, f7⟩)
  have h := if_f c5 h
  refine X_iconst (pc' := 49) dX6_enroll_48 rfl ?_
  cases h
  exact X_iret dX6_enroll_49 rfl (k ⟨(inR_c (n := 0) rfl), f4.2⟩)
def fX6_enroll_b26 (v1 : Int) (v2 : Int) (z : ZZ) : Option (Int × ZZ) := fX6_enroll_b27 (v1) (v2) (0) z
set_option maxRecDepth 100000 in
theorem BX6_enroll_26 {ln N : Nat} {z : ZZ} {v1 : Int} {v2 : Int} {c9 s9 : Nat} {Φ : xRes → xS → Prop} (hN : 159 ≤ N ∧ N < 999999) (hz : okz z) (rv1 : inR v1) (rv2 : inR v2) {p : Int × ZZ} (h : fX6_enroll_b26 v1 v2 z = some p) (k : Fin_wi Φ ln N p) : X mX6_enroll 26 [some (.ref (151)), some (.int (iN (v1))), some (.int (iN (v2)))] [.ref (151)] (zmk ln N z) c9 s9 Φ := by
  unfold fX6_enroll_b26 at h
  refine X_iconst (pc' := 27) dX6_enroll_26 rfl ?_
  exact X_sub (sub_s (sub_s (sub_s sub_0))) (BX6_enroll_27 hN hz rv1 rv2 (inR_c (n := 0) rfl) h k)
def fX6_enroll (v1 : Int) (v2 : Int) (z : ZZ) : Option (Int × ZZ) := (zl (zup z 151 0 (0)) fun z1 => (Option.bind (fX6_isMember (v1) z1) fun r2 => (if (r2) = (0) then fX6_enroll_b26 (v1) (v2) z1 else (Option.bind (fX6_isCourse (v2) z1) fun r4 => (if (r4) = (0) then fX6_enroll_b26 (v1) (v2) z1 else fX6_enroll_b27 (v1) (v2) (1) z1)))))
set_option maxRecDepth 100000 in
theorem CX6_enroll {ln N : Nat} {z : ZZ} {v1 : Int} {v2 : Int} (hN : 159 ≤ N ∧ N < 999999) (hz : okz z) (rv1 : inR v1) (rv2 : inR v2) {p : Int × ZZ} (h : fX6_enroll v1 v2 z = some p) : X mX6_enroll 0 (xEnt [.ref (151), .int (iN (v1)), .int (iN (v2))] (xL mX6_enroll)) [] (zmk ln N z) (cc_wi p) (6 * cc_wi p) (Qd (fa_wi p) (rs_wi p) (st_wi ln N p)) := by
  have k : Fin_wi (Qd (fa_wi p) (rs_wi p) (st_wi ln N p)) ln N p := Fin_wi_i
  unfold fX6_enroll at h
  refine X_to (M := [some (.ref (151)), some (.int (iN (v1))), some (.int (iN (v2)))]) (su := []) rfl rfl ?_
  refine X_aload_n (pc' := 1) dX6_enroll_0 rfl rfl ?_
  refine X_iconst (pc' := 2) dX6_enroll_1 rfl ?_
  refine Y_put (k := 0) (j := 0) (v := 0) (pc' := 5) dX6_enroll_2 rfl FX6_51 (zlN hN (by decide)) (congrArg Prod.fst (sh151 ln)) (fun r hr => by cases hr; rfl) (xFit_int _) rfl rfl ?_
  obtain ⟨z1, e1, hz1, h⟩ := zl_some (P := okz) h (okz_up hz (inR_c (n := 0) rfl))
  rw [e1]
  refine X_aload_n (pc' := 6) dX6_enroll_5 rfl rfl ?_
  refine X_aload_n (pc' := 7) dX6_enroll_6 rfl rfl ?_
  refine X_iload_n (pc' := 8) dX6_enroll_7 rfl rfl ?_
  obtain ⟨r2, q2, h⟩ := bs h
  refine Y_callV [.int (iN (v1))] (pc' := 11) dX6_enroll_8 rfl VX6_244 (by decide) (zlN hN (by decide)) (congrArg Prod.fst (sh151 ln)) rfl rfl rfl (cs rfl) (cs rfl) rfl (CX6_isMember hN hz1 rv1 q2) (Nat.zero_add _).symm (Nat.zero_add _).symm (fun f2 => ?_)
  refine X_if_eq dX6_enroll_11 (tgt := 26) rfl (pc' := 14) rfl (inR_b f2) (fun c3 => ?_) (fun c3 => ?_)
  · have h := if_t c3 h
    exact X_sub (sub_s (sub_s (sub_s sub_0))) (BX6_enroll_26 hN hz1 rv1 rv2 h k)
  have h := if_f c3 h
  refine X_aload_n (pc' := 15) dX6_enroll_14 rfl rfl ?_
  refine X_iload_n (pc' := 16) dX6_enroll_15 rfl rfl ?_
  obtain ⟨r4, q4, h⟩ := bs h
  refine Y_callV [.int (iN (v2))] (pc' := 19) dX6_enroll_16 rfl VX6_277 (by decide) (zlN hN (by decide)) (congrArg Prod.fst (sh151 ln)) rfl rfl rfl (cs rfl) (cs rfl) rfl (CX6_isCourse hN hz1 rv2 q4) (Nat.zero_add _).symm (Nat.zero_add _).symm (fun f4 => ?_)
  refine X_if_eq dX6_enroll_19 (tgt := 26) rfl (pc' := 22) rfl (inR_b f4) (fun c5 => ?_) (fun c5 => ?_)
  · have h := if_t c5 h
    exact X_sub (sub_s (sub_s (sub_s sub_0))) (BX6_enroll_26 hN hz1 rv1 rv2 h k)
  have h := if_f c5 h
  refine X_iconst (pc' := 23) dX6_enroll_22 rfl ?_
  refine X_goto dX6_enroll_23 (tgt := 27) rfl ?_
  exact X_sub (sub_s (sub_s (sub_s sub_0))) (BX6_enroll_27 hN hz1 rv1 rv2 (inR_c (n := 1) rfl) h k)
def fX6_takeNumber_b43 (v1 : Int) (z : ZZ) : Option (Int × ZZ) := (Option.bind (fX6_fail z) fun z1 => some (v1, z1))
set_option maxRecDepth 100000 in
theorem BX6_takeNumber_43 {ln N : Nat} {z : ZZ} {v1 : Int} {c9 s9 : Nat} {Φ : xRes → xS → Prop} (hN : 159 ≤ N ∧ N < 999999) (hz : okz z) (rv1 : inR v1) {p : Int × ZZ} (h : fX6_takeNumber_b43 v1 z = some p) (k : Fin_wi Φ ln N p) : X mX6_takeNumber 43 [some (.ref (151)), some (.int (iN (v1))), none, none] [] (zmk ln N z) c9 s9 Φ := by
  unfold fX6_takeNumber_b43 at h
  refine X_aload_n (pc' := 44) dX6_takeNumber_43 rfl rfl ?_
  obtain ⟨z1, q1, h⟩ := bs h
  refine Y_callVv [] (pc' := 47) dX6_takeNumber_44 rfl VX6_115 (by decide) (zlN hN (by decide)) (congrArg Prod.fst (sh151 ln)) rfl rfl rfl (cs rfl) (cs rfl) rfl (CX6_fail hN hz q1) (Nat.zero_add _).symm (Nat.zero_add _).symm (fun f1 => ?_)
  refine X_iload_n (pc' := 48) dX6_takeNumber_47 rfl rfl ?_
  cases h
  exact X_iret dX6_takeNumber_48 rfl (k ⟨rv1, f1⟩)
def fX6_takeNumber (v1 : Int) (v2 : Int) (z : ZZ) : Option (Int × ZZ) := (Option.bind (fX6_isGood z) fun r1 => (if (r1) = (0) then fX6_takeNumber_b43 (v1) z else (if ((z 151 5)) = (2) then (if inR (((z 151 3) - (z 151 4))) then (if (3) < (((z 151 3) - (z 151 4))) then fX6_takeNumber_b43 (v1) z else (Option.bind (fX6_in ((z 151 6)) (v1) (v2) z) fun r6 => (if (r6) = (0) then fX6_takeNumber_b43 (v1) z else (Option.bind (fX6_step z) fun z8 => some ((z 151 6), z8))))) else none) else fX6_takeNumber_b43 (v1) z)))
set_option maxRecDepth 100000 in
theorem CX6_takeNumber {ln N : Nat} {z : ZZ} {v1 : Int} {v2 : Int} (hN : 159 ≤ N ∧ N < 999999) (hz : okz z) (rv1 : inR v1) (rv2 : inR v2) {p : Int × ZZ} (h : fX6_takeNumber v1 v2 z = some p) : X mX6_takeNumber 0 (xEnt [.ref (151), .int (iN (v1)), .int (iN (v2))] (xL mX6_takeNumber)) [] (zmk ln N z) (cc_wi p) (6 * cc_wi p) (Qd (fa_wi p) (rs_wi p) (st_wi ln N p)) := by
  have k : Fin_wi (Qd (fa_wi p) (rs_wi p) (st_wi ln N p)) ln N p := Fin_wi_i
  unfold fX6_takeNumber at h
  refine X_to (M := [some (.ref (151)), some (.int (iN (v1))), some (.int (iN (v2))), none]) (su := []) rfl rfl ?_
  refine X_aload_n (pc' := 1) dX6_takeNumber_0 rfl rfl ?_
  obtain ⟨r1, q1, h⟩ := bs h
  refine Y_callV [] (pc' := 4) dX6_takeNumber_1 rfl VX6_102 (by decide) (zlN hN (by decide)) (congrArg Prod.fst (sh151 ln)) rfl rfl rfl (cs rfl) (cs rfl) rfl (CX6_isGood hN hz q1) (Nat.zero_add _).symm (Nat.zero_add _).symm (fun f1 => ?_)
  refine X_if_eq dX6_takeNumber_4 (tgt := 43) rfl (pc' := 7) rfl (inR_b f1) (fun c2 => ?_) (fun c2 => ?_)
  · have h := if_t c2 h
    exact X_sub (sub_s (sub_s (sub_n (sub_n sub_0)))) (BX6_takeNumber_43 hN hz rv1 h k)
  have h := if_f c2 h
  refine X_aload_n (pc' := 8) dX6_takeNumber_7 rfl rfl ?_
  refine Y_get (pc' := 11) dX6_takeNumber_8 rfl FX6_87 (zlN hN (by decide)) (congrArg Prod.fst (sh151 ln)) (ct151_5 z) ?_
  refine X_iconst (pc' := 12) dX6_takeNumber_11 rfl ?_
  refine X_icmp_ne dX6_takeNumber_12 (tgt := 43) rfl (pc' := 15) rfl ⟨(hz 151 5 (by decide)).1, (hz 151 5 (by decide)).2, (inR_c (n := 2) rfl).1, (inR_c (n := 2) rfl).2⟩ (fun c3 => ?_) (fun c3 => ?_)
  · have h := if_f c3 h
    exact X_sub (sub_s (sub_s (sub_n (sub_n sub_0)))) (BX6_takeNumber_43 hN hz rv1 h k)
  have h := if_t c3 h
  refine X_aload_n (pc' := 16) dX6_takeNumber_15 rfl rfl ?_
  refine Y_get (pc' := 19) dX6_takeNumber_16 rfl FX6_70 (zlN hN (by decide)) (congrArg Prod.fst (sh151 ln)) (ct151_3 z) ?_
  refine X_aload_n (pc' := 20) dX6_takeNumber_19 rfl rfl ?_
  refine Y_get (pc' := 23) dX6_takeNumber_20 rfl FX6_77 (zlN hN (by decide)) (congrArg Prod.fst (sh151 ln)) (ct151_4 z) ?_
  refine X_isub (pc' := 24) dX6_takeNumber_23 rfl ?_
  refine X_iconst (pc' := 25) dX6_takeNumber_24 rfl ?_
  obtain ⟨g4, h⟩ := gs h
  refine X_icmp_gt dX6_takeNumber_25 (tgt := 43) rfl (pc' := 28) rfl ⟨g4.1, g4.2, (inR_c (n := 3) rfl).1, (inR_c (n := 3) rfl).2⟩ (fun c5 => ?_) (fun c5 => ?_)
  · have h := if_t c5 h
    exact X_sub (sub_s (sub_s (sub_n (sub_n sub_0)))) (BX6_takeNumber_43 hN hz rv1 h k)
  have h := if_f (Int.not_lt.mpr c5) h
  refine X_aload_n (pc' := 29) dX6_takeNumber_28 rfl rfl ?_
  refine Y_get (pc' := 32) dX6_takeNumber_29 rfl FX6_90 (zlN hN (by decide)) (congrArg Prod.fst (sh151 ln)) (ct151_6 z) ?_
  refine X_lI_i2l (pc' := 33) dX6_takeNumber_32 rfl (hz 151 6 (by decide)) ?_
  refine X_iload_n (pc' := 34) dX6_takeNumber_33 rfl rfl ?_
  refine X_lI_i2l (pc' := 35) dX6_takeNumber_34 rfl rv1 ?_
  refine X_iload_n (pc' := 36) dX6_takeNumber_35 rfl rfl ?_
  refine X_lI_i2l (pc' := 37) dX6_takeNumber_36 rfl rv2 ?_
  obtain ⟨r6, q6, h⟩ := bs h
  refine Y_callS [.long (lI ((z 151 6))), .long (lI (v1)), .long (lI (v2))] (pc' := 40) dX6_takeNumber_37 rfl SX6_66 (by decide) rfl (cs rfl) (cs rfl) rfl (CX6_in hN hz (inL_R (hz 151 6 (by decide))) (inL_R rv1) (inL_R rv2) q6) (Nat.zero_add _).symm (Nat.zero_add _).symm (fun f6 => ?_)
  refine X_if_ne dX6_takeNumber_40 (tgt := 49) rfl (pc' := 43) rfl (inR_b f6) (fun c7 => ?_) (fun c7 => ?_)
  · have h := if_f c7 h
    refine X_aload_n (pc' := 50) dX6_takeNumber_49 rfl rfl ?_
    refine Y_get (pc' := 53) dX6_takeNumber_50 rfl FX6_90 (zlN hN (by decide)) (congrArg Prod.fst (sh151 ln)) (ct151_6 z) ?_
    refine X_istore_n (pc' := 54) dX6_takeNumber_53 rfl (cl rfl) (Or.inr rfl) (L' := [some (.ref (151)), some (.int (iN (v1))), some (.int (iN (v2))), some (.int (iN ((z 151 6))))]) rfl ?_
    refine X_aload_n (pc' := 55) dX6_takeNumber_54 rfl rfl ?_
    obtain ⟨z8, q8, h⟩ := bs h
    refine Y_callVv [] (pc' := 58) dX6_takeNumber_55 rfl VX6_118 (by decide) (zlN hN (by decide)) (congrArg Prod.fst (sh151 ln)) rfl rfl rfl (cs rfl) (cs rfl) rfl (CX6_step hN hz q8) (Nat.zero_add _).symm (Nat.zero_add _).symm (fun f8 => ?_)
    refine X_iload_n (pc' := 59) dX6_takeNumber_58 rfl rfl ?_
    cases h
    exact X_iret dX6_takeNumber_59 rfl (k ⟨(hz 151 6 (by decide)), f8⟩)
  have h := if_t c7 h
  exact X_sub (sub_s (sub_s (sub_n (sub_n sub_0)))) (BX6_takeNumber_43 hN hz rv1 h k)
def fX6_readWall (v1 : Int) (v2 : Int) (v3 : Int) (z : ZZ) : Option (ZZ) := (if (0 : Int) ≤ (((5 + (4 * (z 153 (4)))) + 0)) ∧ (((5 + (4 * (z 153 (4)))) + 0)) < (765 : Int) then (zl (zup z 153 (((5 + (4 * (z 153 (4)))) + 0)) (v1)) fun z2 => (if (0 : Int) ≤ (((5 + (4 * (z 153 (4)))) + 1)) ∧ (((5 + (4 * (z 153 (4)))) + 1)) < (765 : Int) then (zl (zup z2 153 (((5 + (4 * (z 153 (4)))) + 1)) (v2)) fun z4 => (if (0 : Int) ≤ (((5 + (4 * (z 153 (4)))) + 2)) ∧ (((5 + (4 * (z 153 (4)))) + 2)) < (765 : Int) then (zl (zup z4 153 (((5 + (4 * (z 153 (4)))) + 2)) (v3)) fun z6 => (if (0 : Int) ≤ (((5 + (4 * (z 153 (4)))) + 3)) ∧ (((5 + (4 * (z 153 (4)))) + 3)) < (765 : Int) then (zl (zup z6 153 (((5 + (4 * (z 153 (4)))) + 3)) (v3)) fun z8 => (if inR (((z8 153 (4)) + 1)) then (zl (zup z8 153 (4) (((z8 153 (4)) + 1))) fun z10 => some z10) else none)) else none)) else none)) else none)) else none)
set_option maxRecDepth 100000 in
theorem CX6_readWall {ln N : Nat} {z : ZZ} {v1 : Int} {v2 : Int} {v3 : Int} (hN : 159 ≤ N ∧ N < 999999) (hz : okz z) (rv1 : inR v1) (rv2 : inR v2) (rv3 : inR v3) {p : ZZ} (h : fX6_readWall v1 v2 v3 z = some p) : X mX6_readWall 0 (xEnt [.ref (151), .int (iN (v1)), .int (iN (v2)), .int (iN (v3))] (xL mX6_readWall)) [] (zmk ln N z) (cc_w p) (6 * cc_w p) (Qd (fa_w p) (rs_w p) (st_w ln N p)) := by
  have k : Fin_w (Qd (fa_w p) (rs_w p) (st_w ln N p)) ln N p := Fin_w_i
  unfold fX6_readWall at h
  refine X_to (M := [some (.ref (151)), some (.int (iN (v1))), some (.int (iN (v2))), some (.int (iN (v3))), none]) (su := []) rfl rfl ?_
  refine X_iconst (pc' := 1) dX6_readWall_0 rfl ?_
  refine X_iconst (pc' := 2) dX6_readWall_1 rfl ?_
  refine X_aload_n (pc' := 3) dX6_readWall_2 rfl rfl ?_
  refine Y_get (pc' := 6) dX6_readWall_3 rfl FX6_13 (zlN hN (by decide)) (congrArg Prod.fst (sh151 ln)) (ct151_8 z) ?_
  refine X_iconst (pc' := 7) dX6_readWall_6 rfl ?_
  refine Y_iald (pc' := 8) dX6_readWall_7 rfl (zlN hN (by decide)) (sh153 ln) (by decide) ⟨by decide, by decide⟩ ?_
  refine X_imul (pc' := 9) dX6_readWall_8 rfl ?_
  refine X_iadd (pc' := 10) dX6_readWall_9 rfl ?_
  refine X_istore (pc' := 12) dX6_readWall_10 rfl (cl rfl) (Or.inr rfl) (L' := [some (.ref (151)), some (.int (iN (v1))), some (.int (iN (v2))), some (.int (iN (v3))), some (.int (iN ((5 + (4 * (z 153 (4)))))))]) rfl ?_
  refine X_aload_n (pc' := 13) dX6_readWall_12 rfl rfl ?_
  refine Y_get (pc' := 16) dX6_readWall_13 rfl FX6_13 (zlN hN (by decide)) (congrArg Prod.fst (sh151 ln)) (ct151_8 z) ?_
  refine X_iload (pc' := 18) dX6_readWall_16 rfl rfl ?_
  refine X_iconst (pc' := 19) dX6_readWall_18 rfl ?_
  refine X_iadd (pc' := 20) dX6_readWall_19 rfl ?_
  refine X_iload_n (pc' := 21) dX6_readWall_20 rfl rfl ?_
  obtain ⟨g1, h⟩ := gs h
  refine Y_iast (pc' := 22) dX6_readWall_21 rfl (zlN hN (by decide)) (sh153 ln) (by decide) g1 ?_
  obtain ⟨z2, e2, hz2, h⟩ := zl_some (P := okz) h (okz_up hz rv1)
  rw [e2]
  refine X_aload_n (pc' := 23) dX6_readWall_22 rfl rfl ?_
  refine Y_get (pc' := 26) dX6_readWall_23 rfl FX6_13 (zlN hN (by decide)) (congrArg Prod.fst (sh151 ln)) (ct151_8 z2) ?_
  refine X_iload (pc' := 28) dX6_readWall_26 rfl rfl ?_
  refine X_iconst (pc' := 29) dX6_readWall_28 rfl ?_
  refine X_iadd (pc' := 30) dX6_readWall_29 rfl ?_
  refine X_iload_n (pc' := 31) dX6_readWall_30 rfl rfl ?_
  obtain ⟨g3, h⟩ := gs h
  refine Y_iast (pc' := 32) dX6_readWall_31 rfl (zlN hN (by decide)) (sh153 ln) (by decide) g3 ?_
  obtain ⟨z4, e4, hz4, h⟩ := zl_some (P := okz) h (okz_up hz2 rv2)
  rw [e4]
  refine X_aload_n (pc' := 33) dX6_readWall_32 rfl rfl ?_
  refine Y_get (pc' := 36) dX6_readWall_33 rfl FX6_13 (zlN hN (by decide)) (congrArg Prod.fst (sh151 ln)) (ct151_8 z4) ?_
  refine X_iload (pc' := 38) dX6_readWall_36 rfl rfl ?_
  refine X_iconst (pc' := 39) dX6_readWall_38 rfl ?_
  refine X_iadd (pc' := 40) dX6_readWall_39 rfl ?_
  refine X_iload_n (pc' := 41) dX6_readWall_40 rfl rfl ?_
  obtain ⟨g5, h⟩ := gs h
  refine Y_iast (pc' := 42) dX6_readWall_41 rfl (zlN hN (by decide)) (sh153 ln) (by decide) g5 ?_
  obtain ⟨z6, e6, hz6, h⟩ := zl_some (P := okz) h (okz_up hz4 rv3)
  rw [e6]
  refine X_aload_n (pc' := 43) dX6_readWall_42 rfl rfl ?_
  refine Y_get (pc' := 46) dX6_readWall_43 rfl FX6_13 (zlN hN (by decide)) (congrArg Prod.fst (sh151 ln)) (ct151_8 z6) ?_
  refine X_iload (pc' := 48) dX6_readWall_46 rfl rfl ?_
  refine X_iconst (pc' := 49) dX6_readWall_48 rfl ?_
  refine X_iadd (pc' := 50) dX6_readWall_49 rfl ?_
  refine X_iload_n (pc' := 51) dX6_readWall_50 rfl rfl ?_
  obtain ⟨g7, h⟩ := gs h
  refine Y_iast (pc' := 52) dX6_readWall_51 rfl (zlN hN (by decide)) (sh153 ln) (by decide) g7 ?_
  obtain ⟨z8, e8, hz8, h⟩ := zl_some (P := okz) h (okz_up hz6 rv3)
  rw [e8]
  refine X_aload_n (pc' := 53) dX6_readWall_52 rfl rfl ?_
  refine Y_get (pc' := 56) dX6_readWall_53 rfl FX6_13 (zlN hN (by decide)) (congrArg Prod.fst (sh151 ln)) (ct151_8 z8) ?_
  refine X_iconst (pc' := 57) dX6_readWall_56 rfl ?_
  refine X_dup2 (pc' := 58) dX6_readWall_57 rfl rfl rfl ?_
  refine Y_iald (pc' := 59) dX6_readWall_58 rfl (zlN hN (by decide)) (sh153 ln) (by decide) ⟨by decide, by decide⟩ ?_
  refine X_iconst (pc' := 60) dX6_readWall_59 rfl ?_
  refine X_iadd (pc' := 61) dX6_readWall_60 rfl ?_
  obtain ⟨g9, h⟩ := gs h
  refine Y_iast (pc' := 62) dX6_readWall_61 rfl (zlN hN (by decide)) (sh153 ln) (by decide) ⟨by decide, by decide⟩ ?_
  obtain ⟨z10, e10, hz10, h⟩ := zl_some (P := okz) h (okz_up hz8 g9)
  rw [e10]
  cases h
  exact X_vret dX6_readWall_62 rfl (k hz10)
def fX6_readHarness (v1 : Int) (v2 : Int) (z : ZZ) : Option (ZZ) := (if (0 : Int) ≤ (((471 + (5 * (z 153 (470)))) + 0)) ∧ (((471 + (5 * (z 153 (470)))) + 0)) < (765 : Int) then (zl (zup z 153 (((471 + (5 * (z 153 (470)))) + 0)) (v1)) fun z2 => (if (0 : Int) ≤ (((471 + (5 * (z 153 (470)))) + 1)) ∧ (((471 + (5 * (z 153 (470)))) + 1)) < (765 : Int) then (zl (zup z2 153 (((471 + (5 * (z 153 (470)))) + 1)) (v2)) fun z4 => (if (0 : Int) ≤ (((471 + (5 * (z 153 (470)))) + 2)) ∧ (((471 + (5 * (z 153 (470)))) + 2)) < (765 : Int) then (zl (zup z4 153 (((471 + (5 * (z 153 (470)))) + 2)) (0)) fun z6 => (if (0 : Int) ≤ (((471 + (5 * (z 153 (470)))) + 3)) ∧ (((471 + (5 * (z 153 (470)))) + 3)) < (765 : Int) then (zl (zup z6 153 (((471 + (5 * (z 153 (470)))) + 3)) (0)) fun z8 => (if (0 : Int) ≤ (((471 + (5 * (z 153 (470)))) + 4)) ∧ (((471 + (5 * (z 153 (470)))) + 4)) < (765 : Int) then (zl (zup z8 153 (((471 + (5 * (z 153 (470)))) + 4)) (0)) fun z10 => (if inR (((z10 153 (470)) + 1)) then (zl (zup z10 153 (470) (((z10 153 (470)) + 1))) fun z12 => some z12) else none)) else none)) else none)) else none)) else none)) else none)
set_option maxRecDepth 100000 in
theorem CX6_readHarness {ln N : Nat} {z : ZZ} {v1 : Int} {v2 : Int} (hN : 159 ≤ N ∧ N < 999999) (hz : okz z) (rv1 : inR v1) (rv2 : inR v2) {p : ZZ} (h : fX6_readHarness v1 v2 z = some p) : X mX6_readHarness 0 (xEnt [.ref (151), .int (iN (v1)), .int (iN (v2))] (xL mX6_readHarness)) [] (zmk ln N z) (cc_w p) (6 * cc_w p) (Qd (fa_w p) (rs_w p) (st_w ln N p)) := by
  have k : Fin_w (Qd (fa_w p) (rs_w p) (st_w ln N p)) ln N p := Fin_w_i
  unfold fX6_readHarness at h
  refine X_to (M := [some (.ref (151)), some (.int (iN (v1))), some (.int (iN (v2))), none]) (su := []) rfl rfl ?_
  refine X_sipush (pc' := 3) dX6_readHarness_0 rfl (by decide) ?_
  refine X_iconst (pc' := 4) dX6_readHarness_3 rfl ?_
  refine X_aload_n (pc' := 5) dX6_readHarness_4 rfl rfl ?_
  refine Y_get (pc' := 8) dX6_readHarness_5 rfl FX6_13 (zlN hN (by decide)) (congrArg Prod.fst (sh151 ln)) (ct151_8 z) ?_
  refine X_sipush (pc' := 11) dX6_readHarness_8 rfl (by decide) ?_
  refine Y_iald (pc' := 12) dX6_readHarness_11 rfl (zlN hN (by decide)) (sh153 ln) (by decide) ⟨by decide, by decide⟩ ?_
  refine X_imul (pc' := 13) dX6_readHarness_12 rfl ?_
  refine X_iadd (pc' := 14) dX6_readHarness_13 rfl ?_
  refine X_istore_n (pc' := 15) dX6_readHarness_14 rfl (cl rfl) (Or.inr rfl) (L' := [some (.ref (151)), some (.int (iN (v1))), some (.int (iN (v2))), some (.int (iN ((471 + (5 * (z 153 (470)))))))]) rfl ?_
  refine X_aload_n (pc' := 16) dX6_readHarness_15 rfl rfl ?_
  refine Y_get (pc' := 19) dX6_readHarness_16 rfl FX6_13 (zlN hN (by decide)) (congrArg Prod.fst (sh151 ln)) (ct151_8 z) ?_
  refine X_iload_n (pc' := 20) dX6_readHarness_19 rfl rfl ?_
  refine X_iconst (pc' := 21) dX6_readHarness_20 rfl ?_
  refine X_iadd (pc' := 22) dX6_readHarness_21 rfl ?_
  refine X_iload_n (pc' := 23) dX6_readHarness_22 rfl rfl ?_
  obtain ⟨g1, h⟩ := gs h
  refine Y_iast (pc' := 24) dX6_readHarness_23 rfl (zlN hN (by decide)) (sh153 ln) (by decide) g1 ?_
  obtain ⟨z2, e2, hz2, h⟩ := zl_some (P := okz) h (okz_up hz rv1)
  rw [e2]
  refine X_aload_n (pc' := 25) dX6_readHarness_24 rfl rfl ?_
  refine Y_get (pc' := 28) dX6_readHarness_25 rfl FX6_13 (zlN hN (by decide)) (congrArg Prod.fst (sh151 ln)) (ct151_8 z2) ?_
  refine X_iload_n (pc' := 29) dX6_readHarness_28 rfl rfl ?_
  refine X_iconst (pc' := 30) dX6_readHarness_29 rfl ?_
  refine X_iadd (pc' := 31) dX6_readHarness_30 rfl ?_
  refine X_iload_n (pc' := 32) dX6_readHarness_31 rfl rfl ?_
  obtain ⟨g3, h⟩ := gs h
  refine Y_iast (pc' := 33) dX6_readHarness_32 rfl (zlN hN (by decide)) (sh153 ln) (by decide) g3 ?_
  obtain ⟨z4, e4, hz4, h⟩ := zl_some (P := okz) h (okz_up hz2 rv2)
  rw [e4]
  refine X_aload_n (pc' := 34) dX6_readHarness_33 rfl rfl ?_
  refine Y_get (pc' := 37) dX6_readHarness_34 rfl FX6_13 (zlN hN (by decide)) (congrArg Prod.fst (sh151 ln)) (ct151_8 z4) ?_
  refine X_iload_n (pc' := 38) dX6_readHarness_37 rfl rfl ?_
  refine X_iconst (pc' := 39) dX6_readHarness_38 rfl ?_
  refine X_iadd (pc' := 40) dX6_readHarness_39 rfl ?_
  refine X_iconst (pc' := 41) dX6_readHarness_40 rfl ?_
  obtain ⟨g5, h⟩ := gs h
  refine Y_iast (pc' := 42) dX6_readHarness_41 rfl (zlN hN (by decide)) (sh153 ln) (by decide) g5 ?_
  obtain ⟨z6, e6, hz6, h⟩ := zl_some (P := okz) h (okz_up hz4 (inR_c (n := 0) rfl))
  rw [e6]
  refine X_aload_n (pc' := 43) dX6_readHarness_42 rfl rfl ?_
  refine Y_get (pc' := 46) dX6_readHarness_43 rfl FX6_13 (zlN hN (by decide)) (congrArg Prod.fst (sh151 ln)) (ct151_8 z6) ?_
  refine X_iload_n (pc' := 47) dX6_readHarness_46 rfl rfl ?_
  refine X_iconst (pc' := 48) dX6_readHarness_47 rfl ?_
  refine X_iadd (pc' := 49) dX6_readHarness_48 rfl ?_
  refine X_iconst (pc' := 50) dX6_readHarness_49 rfl ?_
  obtain ⟨g7, h⟩ := gs h
  refine Y_iast (pc' := 51) dX6_readHarness_50 rfl (zlN hN (by decide)) (sh153 ln) (by decide) g7 ?_
  obtain ⟨z8, e8, hz8, h⟩ := zl_some (P := okz) h (okz_up hz6 (inR_c (n := 0) rfl))
  rw [e8]
  refine X_aload_n (pc' := 52) dX6_readHarness_51 rfl rfl ?_
  refine Y_get (pc' := 55) dX6_readHarness_52 rfl FX6_13 (zlN hN (by decide)) (congrArg Prod.fst (sh151 ln)) (ct151_8 z8) ?_
  refine X_iload_n (pc' := 56) dX6_readHarness_55 rfl rfl ?_
  refine X_iconst (pc' := 57) dX6_readHarness_56 rfl ?_
  refine X_iadd (pc' := 58) dX6_readHarness_57 rfl ?_
  refine X_iconst (pc' := 59) dX6_readHarness_58 rfl ?_
  obtain ⟨g9, h⟩ := gs h
  refine Y_iast (pc' := 60) dX6_readHarness_59 rfl (zlN hN (by decide)) (sh153 ln) (by decide) g9 ?_
  obtain ⟨z10, e10, hz10, h⟩ := zl_some (P := okz) h (okz_up hz8 (inR_c (n := 0) rfl))
  rw [e10]
  refine X_aload_n (pc' := 61) dX6_readHarness_60 rfl rfl ?_
  refine Y_get (pc' := 64) dX6_readHarness_61 rfl FX6_13 (zlN hN (by decide)) (congrArg Prod.fst (sh151 ln)) (ct151_8 z10) ?_
  refine X_sipush (pc' := 67) dX6_readHarness_64 rfl (by decide) ?_
  refine X_dup2 (pc' := 68) dX6_readHarness_67 rfl rfl rfl ?_
  refine Y_iald (pc' := 69) dX6_readHarness_68 rfl (zlN hN (by decide)) (sh153 ln) (by decide) ⟨by decide, by decide⟩ ?_
  refine X_iconst (pc' := 70) dX6_readHarness_69 rfl ?_
  refine X_iadd (pc' := 71) dX6_readHarness_70 rfl ?_
  obtain ⟨g11, h⟩ := gs h
  refine Y_iast (pc' := 72) dX6_readHarness_71 rfl (zlN hN (by decide)) (sh153 ln) (by decide) ⟨by decide, by decide⟩ ?_
  obtain ⟨z12, e12, hz12, h⟩ := zl_some (P := okz) h (okz_up hz10 g11)
  rw [e12]
  cases h
  exact X_vret dX6_readHarness_72 rfl (k hz12)
def fX6_readMember (v1 : Int) (v2 : Int) (z : ZZ) : Option (ZZ) := (if (0 : Int) ≤ (((547 + (6 * (z 153 (546)))) + 0)) ∧ (((547 + (6 * (z 153 (546)))) + 0)) < (765 : Int) then (zl (zup z 153 (((547 + (6 * (z 153 (546)))) + 0)) (v1)) fun z2 => (if (0 : Int) ≤ (((547 + (6 * (z 153 (546)))) + 1)) ∧ (((547 + (6 * (z 153 (546)))) + 1)) < (765 : Int) then (zl (zup z2 153 (((547 + (6 * (z 153 (546)))) + 1)) (v2)) fun z4 => (if (0 : Int) ≤ (((547 + (6 * (z 153 (546)))) + 2)) ∧ (((547 + (6 * (z 153 (546)))) + 2)) < (765 : Int) then (zl (zup z4 153 (((547 + (6 * (z 153 (546)))) + 2)) (0)) fun z6 => (if (0 : Int) ≤ (((547 + (6 * (z 153 (546)))) + 3)) ∧ (((547 + (6 * (z 153 (546)))) + 3)) < (765 : Int) then (zl (zup z6 153 (((547 + (6 * (z 153 (546)))) + 3)) ((-1))) fun z8 => (if (0 : Int) ≤ (((547 + (6 * (z 153 (546)))) + 4)) ∧ (((547 + (6 * (z 153 (546)))) + 4)) < (765 : Int) then (zl (zup z8 153 (((547 + (6 * (z 153 (546)))) + 4)) ((-1))) fun z10 => (if (0 : Int) ≤ (((547 + (6 * (z 153 (546)))) + 5)) ∧ (((547 + (6 * (z 153 (546)))) + 5)) < (765 : Int) then (zl (zup z10 153 (((547 + (6 * (z 153 (546)))) + 5)) (0)) fun z12 => (if inR (((z12 153 (546)) + 1)) then (zl (zup z12 153 (546) (((z12 153 (546)) + 1))) fun z14 => some z14) else none)) else none)) else none)) else none)) else none)) else none)) else none)
set_option maxRecDepth 100000 in
theorem CX6_readMember {ln N : Nat} {z : ZZ} {v1 : Int} {v2 : Int} (hN : 159 ≤ N ∧ N < 999999) (hz : okz z) (rv1 : inR v1) (rv2 : inR v2) {p : ZZ} (h : fX6_readMember v1 v2 z = some p) : X mX6_readMember 0 (xEnt [.ref (151), .int (iN (v1)), .int (iN (v2))] (xL mX6_readMember)) [] (zmk ln N z) (cc_w p) (6 * cc_w p) (Qd (fa_w p) (rs_w p) (st_w ln N p)) := by
  have k : Fin_w (Qd (fa_w p) (rs_w p) (st_w ln N p)) ln N p := Fin_w_i
  unfold fX6_readMember at h
  refine X_to (M := [some (.ref (151)), some (.int (iN (v1))), some (.int (iN (v2))), none]) (su := []) rfl rfl ?_
  refine X_sipush (pc' := 3) dX6_readMember_0 rfl (by decide) ?_
  refine X_bipush (pc' := 5) dX6_readMember_3 rfl (by decide) ?_
  refine X_aload_n (pc' := 6) dX6_readMember_5 rfl rfl ?_
  refine Y_get (pc' := 9) dX6_readMember_6 rfl FX6_13 (zlN hN (by decide)) (congrArg Prod.fst (sh151 ln)) (ct151_8 z) ?_
  refine X_sipush (pc' := 12) dX6_readMember_9 rfl (by decide) ?_
  refine Y_iald (pc' := 13) dX6_readMember_12 rfl (zlN hN (by decide)) (sh153 ln) (by decide) ⟨by decide, by decide⟩ ?_
  refine X_imul (pc' := 14) dX6_readMember_13 rfl ?_
  refine X_iadd (pc' := 15) dX6_readMember_14 rfl ?_
  refine X_istore_n (pc' := 16) dX6_readMember_15 rfl (cl rfl) (Or.inr rfl) (L' := [some (.ref (151)), some (.int (iN (v1))), some (.int (iN (v2))), some (.int (iN ((547 + (6 * (z 153 (546)))))))]) rfl ?_
  refine X_aload_n (pc' := 17) dX6_readMember_16 rfl rfl ?_
  refine Y_get (pc' := 20) dX6_readMember_17 rfl FX6_13 (zlN hN (by decide)) (congrArg Prod.fst (sh151 ln)) (ct151_8 z) ?_
  refine X_iload_n (pc' := 21) dX6_readMember_20 rfl rfl ?_
  refine X_iconst (pc' := 22) dX6_readMember_21 rfl ?_
  refine X_iadd (pc' := 23) dX6_readMember_22 rfl ?_
  refine X_iload_n (pc' := 24) dX6_readMember_23 rfl rfl ?_
  obtain ⟨g1, h⟩ := gs h
  refine Y_iast (pc' := 25) dX6_readMember_24 rfl (zlN hN (by decide)) (sh153 ln) (by decide) g1 ?_
  obtain ⟨z2, e2, hz2, h⟩ := zl_some (P := okz) h (okz_up hz rv1)
  rw [e2]
  refine X_aload_n (pc' := 26) dX6_readMember_25 rfl rfl ?_
  refine Y_get (pc' := 29) dX6_readMember_26 rfl FX6_13 (zlN hN (by decide)) (congrArg Prod.fst (sh151 ln)) (ct151_8 z2) ?_
  refine X_iload_n (pc' := 30) dX6_readMember_29 rfl rfl ?_
  refine X_iconst (pc' := 31) dX6_readMember_30 rfl ?_
  refine X_iadd (pc' := 32) dX6_readMember_31 rfl ?_
  refine X_iload_n (pc' := 33) dX6_readMember_32 rfl rfl ?_
  obtain ⟨g3, h⟩ := gs h
  refine Y_iast (pc' := 34) dX6_readMember_33 rfl (zlN hN (by decide)) (sh153 ln) (by decide) g3 ?_
  obtain ⟨z4, e4, hz4, h⟩ := zl_some (P := okz) h (okz_up hz2 rv2)
  rw [e4]
  refine X_aload_n (pc' := 35) dX6_readMember_34 rfl rfl ?_
  refine Y_get (pc' := 38) dX6_readMember_35 rfl FX6_13 (zlN hN (by decide)) (congrArg Prod.fst (sh151 ln)) (ct151_8 z4) ?_
  refine X_iload_n (pc' := 39) dX6_readMember_38 rfl rfl ?_
  refine X_iconst (pc' := 40) dX6_readMember_39 rfl ?_
  refine X_iadd (pc' := 41) dX6_readMember_40 rfl ?_
  refine X_iconst (pc' := 42) dX6_readMember_41 rfl ?_
  obtain ⟨g5, h⟩ := gs h
  refine Y_iast (pc' := 43) dX6_readMember_42 rfl (zlN hN (by decide)) (sh153 ln) (by decide) g5 ?_
  obtain ⟨z6, e6, hz6, h⟩ := zl_some (P := okz) h (okz_up hz4 (inR_c (n := 0) rfl))
  rw [e6]
  refine X_aload_n (pc' := 44) dX6_readMember_43 rfl rfl ?_
  refine Y_get (pc' := 47) dX6_readMember_44 rfl FX6_13 (zlN hN (by decide)) (congrArg Prod.fst (sh151 ln)) (ct151_8 z6) ?_
  refine X_iload_n (pc' := 48) dX6_readMember_47 rfl rfl ?_
  refine X_iconst (pc' := 49) dX6_readMember_48 rfl ?_
  refine X_iadd (pc' := 50) dX6_readMember_49 rfl ?_
  refine X_iconst (pc' := 51) dX6_readMember_50 rfl ?_
  obtain ⟨g7, h⟩ := gs h
  refine Y_iast (pc' := 52) dX6_readMember_51 rfl (zlN hN (by decide)) (sh153 ln) (by decide) g7 ?_
  obtain ⟨z8, e8, hz8, h⟩ := zl_some (P := okz) h (okz_up hz6 (inR_c (n := (-1)) rfl))
  rw [e8]
  refine X_aload_n (pc' := 53) dX6_readMember_52 rfl rfl ?_
  refine Y_get (pc' := 56) dX6_readMember_53 rfl FX6_13 (zlN hN (by decide)) (congrArg Prod.fst (sh151 ln)) (ct151_8 z8) ?_
  refine X_iload_n (pc' := 57) dX6_readMember_56 rfl rfl ?_
  refine X_iconst (pc' := 58) dX6_readMember_57 rfl ?_
  refine X_iadd (pc' := 59) dX6_readMember_58 rfl ?_
  refine X_iconst (pc' := 60) dX6_readMember_59 rfl ?_
  obtain ⟨g9, h⟩ := gs h
  refine Y_iast (pc' := 61) dX6_readMember_60 rfl (zlN hN (by decide)) (sh153 ln) (by decide) g9 ?_
  obtain ⟨z10, e10, hz10, h⟩ := zl_some (P := okz) h (okz_up hz8 (inR_c (n := (-1)) rfl))
  rw [e10]
  refine X_aload_n (pc' := 62) dX6_readMember_61 rfl rfl ?_
  refine Y_get (pc' := 65) dX6_readMember_62 rfl FX6_13 (zlN hN (by decide)) (congrArg Prod.fst (sh151 ln)) (ct151_8 z10) ?_
  refine X_iload_n (pc' := 66) dX6_readMember_65 rfl rfl ?_
  refine X_iconst (pc' := 67) dX6_readMember_66 rfl ?_
  refine X_iadd (pc' := 68) dX6_readMember_67 rfl ?_
  refine X_iconst (pc' := 69) dX6_readMember_68 rfl ?_
  obtain ⟨g11, h⟩ := gs h
  refine Y_iast (pc' := 70) dX6_readMember_69 rfl (zlN hN (by decide)) (sh153 ln) (by decide) g11 ?_
  obtain ⟨z12, e12, hz12, h⟩ := zl_some (P := okz) h (okz_up hz10 (inR_c (n := 0) rfl))
  rw [e12]
  refine X_aload_n (pc' := 71) dX6_readMember_70 rfl rfl ?_
  refine Y_get (pc' := 74) dX6_readMember_71 rfl FX6_13 (zlN hN (by decide)) (congrArg Prod.fst (sh151 ln)) (ct151_8 z12) ?_
  refine X_sipush (pc' := 77) dX6_readMember_74 rfl (by decide) ?_
  refine X_dup2 (pc' := 78) dX6_readMember_77 rfl rfl rfl ?_
  refine Y_iald (pc' := 79) dX6_readMember_78 rfl (zlN hN (by decide)) (sh153 ln) (by decide) ⟨by decide, by decide⟩ ?_
  refine X_iconst (pc' := 80) dX6_readMember_79 rfl ?_
  refine X_iadd (pc' := 81) dX6_readMember_80 rfl ?_
  obtain ⟨g13, h⟩ := gs h
  refine Y_iast (pc' := 82) dX6_readMember_81 rfl (zlN hN (by decide)) (sh153 ln) (by decide) ⟨by decide, by decide⟩ ?_
  obtain ⟨z14, e14, hz14, h⟩ := zl_some (P := okz) h (okz_up hz12 g13)
  rw [e14]
  cases h
  exact X_vret dX6_readMember_82 rfl (k hz14)
def fX6_readCourse (v1 : Int) (v2 : Int) (v3 : Int) (z : ZZ) : Option (ZZ) := (if (0 : Int) ≤ (((620 + (3 * (z 153 (619)))) + 0)) ∧ (((620 + (3 * (z 153 (619)))) + 0)) < (765 : Int) then (zl (zup z 153 (((620 + (3 * (z 153 (619)))) + 0)) (v1)) fun z2 => (if (0 : Int) ≤ (((620 + (3 * (z 153 (619)))) + 1)) ∧ (((620 + (3 * (z 153 (619)))) + 1)) < (765 : Int) then (zl (zup z2 153 (((620 + (3 * (z 153 (619)))) + 1)) (v2)) fun z4 => (if (0 : Int) ≤ (((620 + (3 * (z 153 (619)))) + 2)) ∧ (((620 + (3 * (z 153 (619)))) + 2)) < (765 : Int) then (zl (zup z4 153 (((620 + (3 * (z 153 (619)))) + 2)) (v3)) fun z6 => (if inR (((z6 153 (619)) + 1)) then (zl (zup z6 153 (619) (((z6 153 (619)) + 1))) fun z8 => some z8) else none)) else none)) else none)) else none)
set_option maxRecDepth 100000 in
theorem CX6_readCourse {ln N : Nat} {z : ZZ} {v1 : Int} {v2 : Int} {v3 : Int} (hN : 159 ≤ N ∧ N < 999999) (hz : okz z) (rv1 : inR v1) (rv2 : inR v2) (rv3 : inR v3) {p : ZZ} (h : fX6_readCourse v1 v2 v3 z = some p) : X mX6_readCourse 0 (xEnt [.ref (151), .int (iN (v1)), .int (iN (v2)), .int (iN (v3))] (xL mX6_readCourse)) [] (zmk ln N z) (cc_w p) (6 * cc_w p) (Qd (fa_w p) (rs_w p) (st_w ln N p)) := by
  have k : Fin_w (Qd (fa_w p) (rs_w p) (st_w ln N p)) ln N p := Fin_w_i
  unfold fX6_readCourse at h
  refine X_to (M := [some (.ref (151)), some (.int (iN (v1))), some (.int (iN (v2))), some (.int (iN (v3))), none]) (su := []) rfl rfl ?_
  refine X_sipush (pc' := 3) dX6_readCourse_0 rfl (by decide) ?_
  refine X_iconst (pc' := 4) dX6_readCourse_3 rfl ?_
  refine X_aload_n (pc' := 5) dX6_readCourse_4 rfl rfl ?_
  refine Y_get (pc' := 8) dX6_readCourse_5 rfl FX6_13 (zlN hN (by decide)) (congrArg Prod.fst (sh151 ln)) (ct151_8 z) ?_
  refine X_sipush (pc' := 11) dX6_readCourse_8 rfl (by decide) ?_
  refine Y_iald (pc' := 12) dX6_readCourse_11 rfl (zlN hN (by decide)) (sh153 ln) (by decide) ⟨by decide, by decide⟩ ?_
  refine X_imul (pc' := 13) dX6_readCourse_12 rfl ?_
  refine X_iadd (pc' := 14) dX6_readCourse_13 rfl ?_
  refine X_istore (pc' := 16) dX6_readCourse_14 rfl (cl rfl) (Or.inr rfl) (L' := [some (.ref (151)), some (.int (iN (v1))), some (.int (iN (v2))), some (.int (iN (v3))), some (.int (iN ((620 + (3 * (z 153 (619)))))))]) rfl ?_
  refine X_aload_n (pc' := 17) dX6_readCourse_16 rfl rfl ?_
  refine Y_get (pc' := 20) dX6_readCourse_17 rfl FX6_13 (zlN hN (by decide)) (congrArg Prod.fst (sh151 ln)) (ct151_8 z) ?_
  refine X_iload (pc' := 22) dX6_readCourse_20 rfl rfl ?_
  refine X_iconst (pc' := 23) dX6_readCourse_22 rfl ?_
  refine X_iadd (pc' := 24) dX6_readCourse_23 rfl ?_
  refine X_iload_n (pc' := 25) dX6_readCourse_24 rfl rfl ?_
  obtain ⟨g1, h⟩ := gs h
  refine Y_iast (pc' := 26) dX6_readCourse_25 rfl (zlN hN (by decide)) (sh153 ln) (by decide) g1 ?_
  obtain ⟨z2, e2, hz2, h⟩ := zl_some (P := okz) h (okz_up hz rv1)
  rw [e2]
  refine X_aload_n (pc' := 27) dX6_readCourse_26 rfl rfl ?_
  refine Y_get (pc' := 30) dX6_readCourse_27 rfl FX6_13 (zlN hN (by decide)) (congrArg Prod.fst (sh151 ln)) (ct151_8 z2) ?_
  refine X_iload (pc' := 32) dX6_readCourse_30 rfl rfl ?_
  refine X_iconst (pc' := 33) dX6_readCourse_32 rfl ?_
  refine X_iadd (pc' := 34) dX6_readCourse_33 rfl ?_
  refine X_iload_n (pc' := 35) dX6_readCourse_34 rfl rfl ?_
  obtain ⟨g3, h⟩ := gs h
  refine Y_iast (pc' := 36) dX6_readCourse_35 rfl (zlN hN (by decide)) (sh153 ln) (by decide) g3 ?_
  obtain ⟨z4, e4, hz4, h⟩ := zl_some (P := okz) h (okz_up hz2 rv2)
  rw [e4]
  refine X_aload_n (pc' := 37) dX6_readCourse_36 rfl rfl ?_
  refine Y_get (pc' := 40) dX6_readCourse_37 rfl FX6_13 (zlN hN (by decide)) (congrArg Prod.fst (sh151 ln)) (ct151_8 z4) ?_
  refine X_iload (pc' := 42) dX6_readCourse_40 rfl rfl ?_
  refine X_iconst (pc' := 43) dX6_readCourse_42 rfl ?_
  refine X_iadd (pc' := 44) dX6_readCourse_43 rfl ?_
  refine X_iload_n (pc' := 45) dX6_readCourse_44 rfl rfl ?_
  obtain ⟨g5, h⟩ := gs h
  refine Y_iast (pc' := 46) dX6_readCourse_45 rfl (zlN hN (by decide)) (sh153 ln) (by decide) g5 ?_
  obtain ⟨z6, e6, hz6, h⟩ := zl_some (P := okz) h (okz_up hz4 rv3)
  rw [e6]
  refine X_aload_n (pc' := 47) dX6_readCourse_46 rfl rfl ?_
  refine Y_get (pc' := 50) dX6_readCourse_47 rfl FX6_13 (zlN hN (by decide)) (congrArg Prod.fst (sh151 ln)) (ct151_8 z6) ?_
  refine X_sipush (pc' := 53) dX6_readCourse_50 rfl (by decide) ?_
  refine X_dup2 (pc' := 54) dX6_readCourse_53 rfl rfl rfl ?_
  refine Y_iald (pc' := 55) dX6_readCourse_54 rfl (zlN hN (by decide)) (sh153 ln) (by decide) ⟨by decide, by decide⟩ ?_
  refine X_iconst (pc' := 56) dX6_readCourse_55 rfl ?_
  refine X_iadd (pc' := 57) dX6_readCourse_56 rfl ?_
  obtain ⟨g7, h⟩ := gs h
  refine Y_iast (pc' := 58) dX6_readCourse_57 rfl (zlN hN (by decide)) (sh153 ln) (by decide) ⟨by decide, by decide⟩ ?_
  obtain ⟨z8, e8, hz8, h⟩ := zl_some (P := okz) h (okz_up hz6 g7)
  rw [e8]
  cases h
  exact X_vret dX6_readCourse_58 rfl (k hz8)
def fX6_readStatement_b271 (s2 : Int) (z : ZZ) : Option (ZZ) := (Option.bind (fX6_begins 1000131 (s2) z) fun q1 => match q1 with | (r1, z1) => (if (r1) = (0) then (Option.bind (fX6_fail z1) fun z3 => some z3) else (Option.bind (fX6_takeNumber (1) (5) z1) fun q4 => match q4 with | (r4, z4) => (Option.bind (fX6_takeNumber (1) (12) z4) fun q5 => match q5 with | (r5, z5) => (Option.bind (fX6_takeNumber (0) (200) z5) fun q6 => match q6 with | (r6, z6) => (Option.bind (fX6_isGood z6) fun r7 => (if (r7) = (0) then some z6 else (Option.bind (fX6_readCourse (r4) (r5) (r6) z6) fun z9 => some z9))))))))
set_option maxRecDepth 100000 in
theorem BX6_readStatement_271 {ln N : Nat} {z : ZZ} {s2 : Int} {c9 s9 : Nat} {Φ : xRes → xS → Prop} (hN : 159 ≤ N ∧ N < 999999) (hz : okz z) (rs2 : inR s2) {p : ZZ} (h : fX6_readStatement_b271 s2 z = some p) (k : Fin_w Φ ln N p) : X mX6_readStatement 271 [some (.ref (151)), none, none, none] [.int (iN (s2)), .ref (1000131), .ref (151)] (zmk ln N z) c9 s9 Φ := by
  unfold fX6_readStatement_b271 at h
  obtain ⟨⟨r1, z1⟩, q1, h⟩ := bs h
  refine Y_callV [.ref (1000131), .int (iN (s2))] (pc' := 274) dX6_readStatement_271 rfl VX6_131 (by decide) (zlN hN (by decide)) (congrArg Prod.fst (sh151 ln)) rfl rfl rfl (cs rfl) (cs rfl) rfl (CX6_begins hN hz (wW1000131) rs2 q1) (Nat.zero_add _).symm (Nat.zero_add _).symm (fun f1 => ?_)
  refine X_if_eq dX6_readStatement_274 (tgt := 318) rfl (pc' := 277) rfl (inR_b f1.1) (fun c2 => ?_) (fun c2 => ?_)
  · have h := if_t c2 h
    refine X_aload_n (pc' := 319) dX6_readStatement_318 rfl rfl ?_
    obtain ⟨z3, q3, h⟩ := bs h
    refine Y_callVv [] (pc' := 322) dX6_readStatement_319 rfl VX6_115 (by decide) (zlN hN (by decide)) (congrArg Prod.fst (sh151 ln)) rfl rfl rfl (cs rfl) (cs rfl) rfl (CX6_fail hN f1.2 q3) (Nat.zero_add _).symm (Nat.zero_add _).symm (fun f3 => ?_)
    cases h
    exact X_vret dX6_readStatement_322 rfl (k f3)
  have h := if_f c2 h
  refine X_aload_n (pc' := 278) dX6_readStatement_277 rfl rfl ?_
  refine X_iconst (pc' := 279) dX6_readStatement_278 rfl ?_
  refine X_iconst (pc' := 280) dX6_readStatement_279 rfl ?_
  obtain ⟨⟨r4, z4⟩, q4, h⟩ := bs h
  refine Y_callV [.int (iN (1)), .int (iN (5))] (pc' := 283) dX6_readStatement_280 rfl VX6_135 (by decide) (zlN hN (by decide)) (congrArg Prod.fst (sh151 ln)) rfl rfl rfl (cs rfl) (cs rfl) rfl (CX6_takeNumber hN f1.2 (inR_c (n := 1) rfl) (inR_c (n := 5) rfl) q4) (Nat.zero_add _).symm (Nat.zero_add _).symm (fun f4 => ?_)
  refine X_istore_n (pc' := 284) dX6_readStatement_283 rfl (cl rfl) (Or.inr rfl) (L' := [some (.ref (151)), some (.int (iN (r4))), none, none]) rfl ?_
  refine X_aload_n (pc' := 285) dX6_readStatement_284 rfl rfl ?_
  refine X_iconst (pc' := 286) dX6_readStatement_285 rfl ?_
  refine X_bipush (pc' := 288) dX6_readStatement_286 rfl (by decide) ?_
  obtain ⟨⟨r5, z5⟩, q5, h⟩ := bs h
  refine Y_callV [.int (iN (1)), .int (iN (12))] (pc' := 291) dX6_readStatement_288 rfl VX6_135 (by decide) (zlN hN (by decide)) (congrArg Prod.fst (sh151 ln)) rfl rfl rfl (cs rfl) (cs rfl) rfl (CX6_takeNumber hN f4.2 (inR_c (n := 1) rfl) (inR_c (n := 12) rfl) q5) (Nat.zero_add _).symm (Nat.zero_add _).symm (fun f5 => ?_)
  refine X_istore_n (pc' := 292) dX6_readStatement_291 rfl (cl rfl) (Or.inr rfl) (L' := [some (.ref (151)), some (.int (iN (r4))), some (.int (iN (r5))), none]) rfl ?_
  refine X_aload_n (pc' := 293) dX6_readStatement_292 rfl rfl ?_
  refine X_iconst (pc' := 294) dX6_readStatement_293 rfl ?_
  refine X_sipush (pc' := 297) dX6_readStatement_294 rfl (by decide) ?_
  obtain ⟨⟨r6, z6⟩, q6, h⟩ := bs h
  refine Y_callV [.int (iN (0)), .int (iN (200))] (pc' := 300) dX6_readStatement_297 rfl VX6_135 (by decide) (zlN hN (by decide)) (congrArg Prod.fst (sh151 ln)) rfl rfl rfl (cs rfl) (cs rfl) rfl (CX6_takeNumber hN f5.2 (inR_c (n := 0) rfl) (inR_c (n := 200) rfl) q6) (Nat.zero_add _).symm (Nat.zero_add _).symm (fun f6 => ?_)
  refine X_istore_n (pc' := 301) dX6_readStatement_300 rfl (cl rfl) (Or.inr rfl) (L' := [some (.ref (151)), some (.int (iN (r4))), some (.int (iN (r5))), some (.int (iN (r6)))]) rfl ?_
  refine X_aload_n (pc' := 302) dX6_readStatement_301 rfl rfl ?_
  obtain ⟨r7, q7, h⟩ := bs h
  refine Y_callV [] (pc' := 305) dX6_readStatement_302 rfl VX6_102 (by decide) (zlN hN (by decide)) (congrArg Prod.fst (sh151 ln)) rfl rfl rfl (cs rfl) (cs rfl) rfl (CX6_isGood hN f6.2 q7) (Nat.zero_add _).symm (Nat.zero_add _).symm (fun f7 => ?_)
  refine X_if_eq dX6_readStatement_305 (tgt := 315) rfl (pc' := 308) rfl (inR_b f7) (fun c8 => ?_) (fun c8 => ?_)
  · have h := if_t c8 h
    refine X_goto dX6_readStatement_315 (tgt := 322) rfl ?_
    cases h
    exact X_vret dX6_readStatement_322 rfl (k f6.2)
  have h := if_f c8 h
  refine X_aload_n (pc' := 309) dX6_readStatement_308 rfl rfl ?_
  refine X_iload_n (pc' := 310) dX6_readStatement_309 rfl rfl ?_
  refine X_iload_n (pc' := 311) dX6_readStatement_310 rfl rfl ?_
  refine X_iload_n (pc' := 312) dX6_readStatement_311 rfl rfl ?_
  obtain ⟨z9, q9, h⟩ := bs h
  refine Y_callVv [.int (iN (r4)), .int (iN (r5)), .int (iN (r6))] (pc' := 315) dX6_readStatement_312 rfl VX6_45 (by decide) (zlN hN (by decide)) (congrArg Prod.fst (sh151 ln)) rfl rfl rfl (cs rfl) (cs rfl) rfl (CX6_readCourse hN f6.2 f4.1 f5.1 f6.1 q9) (Nat.zero_add _).symm (Nat.zero_add _).symm (fun f9 => ?_)
  refine X_goto dX6_readStatement_315 (tgt := 322) rfl ?_
  cases h
  exact X_vret dX6_readStatement_322 rfl (k f9)
def fX6_readStatement_b214 (s2 : Int) (z : ZZ) : Option (ZZ) := (Option.bind (fX6_begins 1000130 (s2) z) fun q1 => match q1 with | (r1, z1) => (if (r1) = (0) then (if ((z1 153 (619))) < (8) then fX6_readStatement_b271 (1) z1 else fX6_readStatement_b271 (0) z1) else (Option.bind (fX6_takeNumber (0) (3) z1) fun q4 => match q4 with | (r4, z4) => (Option.bind (fX6_takeNumber (0) (5) z4) fun q5 => match q5 with | (r5, z5) => (Option.bind (fX6_isGood z5) fun r6 => (if (r6) = (0) then some z5 else (Option.bind (fX6_readMember (r4) (r5) z5) fun z8 => some z8)))))))
set_option maxRecDepth 100000 in
theorem BX6_readStatement_214 {ln N : Nat} {z : ZZ} {s2 : Int} {c9 s9 : Nat} {Φ : xRes → xS → Prop} (hN : 159 ≤ N ∧ N < 999999) (hz : okz z) (rs2 : inR s2) {p : ZZ} (h : fX6_readStatement_b214 s2 z = some p) (k : Fin_w Φ ln N p) : X mX6_readStatement 214 [some (.ref (151)), none, none, none] [.int (iN (s2)), .ref (1000130), .ref (151)] (zmk ln N z) c9 s9 Φ := by
  unfold fX6_readStatement_b214 at h
  obtain ⟨⟨r1, z1⟩, q1, h⟩ := bs h
  refine Y_callV [.ref (1000130), .int (iN (s2))] (pc' := 217) dX6_readStatement_214 rfl VX6_131 (by decide) (zlN hN (by decide)) (congrArg Prod.fst (sh151 ln)) rfl rfl rfl (cs rfl) (cs rfl) rfl (CX6_begins hN hz (wW1000130) rs2 q1) (Nat.zero_add _).symm (Nat.zero_add _).symm (fun f1 => ?_)
  refine X_if_eq dX6_readStatement_217 (tgt := 250) rfl (pc' := 220) rfl (inR_b f1.1) (fun c2 => ?_) (fun c2 => ?_)
  · have h := if_t c2 h
    refine X_aload_n (pc' := 251) dX6_readStatement_250 rfl rfl ?_
    refine X_ldcS (pc' := 253) dX6_readStatement_251 rfl strX6_144 (by decide) ?_
    refine X_aload_n (pc' := 254) dX6_readStatement_253 rfl rfl ?_
    refine Y_get (pc' := 257) dX6_readStatement_254 rfl FX6_13 (zlN hN (by decide)) (congrArg Prod.fst (sh151 ln)) (ct151_8 z1) ?_
    refine X_sipush (pc' := 260) dX6_readStatement_257 rfl (by decide) ?_
    refine Y_iald (pc' := 261) dX6_readStatement_260 rfl (zlN hN (by decide)) (sh153 ln) (by decide) ⟨by decide, by decide⟩ ?_
    refine X_bipush (pc' := 263) dX6_readStatement_261 rfl (by decide) ?_
    refine X_icmp_ge dX6_readStatement_263 (tgt := 270) rfl (pc' := 266) rfl ⟨(f1.2 153 (619) (by decide)).1, (f1.2 153 (619) (by decide)).2, (inR_c (n := 8) rfl).1, (inR_c (n := 8) rfl).2⟩ (fun c3 => ?_) (fun c3 => ?_)
    · have h := if_f (Int.not_lt.mpr c3) h
      refine X_iconst (pc' := 271) dX6_readStatement_270 rfl ?_
      exact X_sub (sub_s (sub_n (sub_n (sub_n sub_0)))) (BX6_readStatement_271 hN f1.2 (inR_c (n := 0) rfl) h k)
    have h := if_t c3 h
    refine X_iconst (pc' := 267) dX6_readStatement_266 rfl ?_
    refine X_goto dX6_readStatement_267 (tgt := 271) rfl ?_
    exact X_sub (sub_s (sub_n (sub_n (sub_n sub_0)))) (BX6_readStatement_271 hN f1.2 (inR_c (n := 1) rfl) h k)
  have h := if_f c2 h
  refine X_aload_n (pc' := 221) dX6_readStatement_220 rfl rfl ?_
  refine X_iconst (pc' := 222) dX6_readStatement_221 rfl ?_
  refine X_iconst (pc' := 223) dX6_readStatement_222 rfl ?_
  obtain ⟨⟨r4, z4⟩, q4, h⟩ := bs h
  refine Y_callV [.int (iN (0)), .int (iN (3))] (pc' := 226) dX6_readStatement_223 rfl VX6_135 (by decide) (zlN hN (by decide)) (congrArg Prod.fst (sh151 ln)) rfl rfl rfl (cs rfl) (cs rfl) rfl (CX6_takeNumber hN f1.2 (inR_c (n := 0) rfl) (inR_c (n := 3) rfl) q4) (Nat.zero_add _).symm (Nat.zero_add _).symm (fun f4 => ?_)
  refine X_istore_n (pc' := 227) dX6_readStatement_226 rfl (cl rfl) (Or.inr rfl) (L' := [some (.ref (151)), some (.int (iN (r4))), none, none]) rfl ?_
  refine X_aload_n (pc' := 228) dX6_readStatement_227 rfl rfl ?_
  refine X_iconst (pc' := 229) dX6_readStatement_228 rfl ?_
  refine X_iconst (pc' := 230) dX6_readStatement_229 rfl ?_
  obtain ⟨⟨r5, z5⟩, q5, h⟩ := bs h
  refine Y_callV [.int (iN (0)), .int (iN (5))] (pc' := 233) dX6_readStatement_230 rfl VX6_135 (by decide) (zlN hN (by decide)) (congrArg Prod.fst (sh151 ln)) rfl rfl rfl (cs rfl) (cs rfl) rfl (CX6_takeNumber hN f4.2 (inR_c (n := 0) rfl) (inR_c (n := 5) rfl) q5) (Nat.zero_add _).symm (Nat.zero_add _).symm (fun f5 => ?_)
  refine X_istore_n (pc' := 234) dX6_readStatement_233 rfl (cl rfl) (Or.inr rfl) (L' := [some (.ref (151)), some (.int (iN (r4))), some (.int (iN (r5))), none]) rfl ?_
  refine X_aload_n (pc' := 235) dX6_readStatement_234 rfl rfl ?_
  obtain ⟨r6, q6, h⟩ := bs h
  refine Y_callV [] (pc' := 238) dX6_readStatement_235 rfl VX6_102 (by decide) (zlN hN (by decide)) (congrArg Prod.fst (sh151 ln)) rfl rfl rfl (cs rfl) (cs rfl) rfl (CX6_isGood hN f5.2 q6) (Nat.zero_add _).symm (Nat.zero_add _).symm (fun f6 => ?_)
  refine X_if_eq dX6_readStatement_238 (tgt := 247) rfl (pc' := 241) rfl (inR_b f6) (fun c7 => ?_) (fun c7 => ?_)
  · have h := if_t c7 h
    refine X_goto dX6_readStatement_247 (tgt := 322) rfl ?_
    cases h
    exact X_vret dX6_readStatement_322 rfl (k f5.2)
  have h := if_f c7 h
  refine X_aload_n (pc' := 242) dX6_readStatement_241 rfl rfl ?_
  refine X_iload_n (pc' := 243) dX6_readStatement_242 rfl rfl ?_
  refine X_iload_n (pc' := 244) dX6_readStatement_243 rfl rfl ?_
  obtain ⟨z8, q8, h⟩ := bs h
  refine Y_callVv [.int (iN (r4)), .int (iN (r5))] (pc' := 247) dX6_readStatement_244 rfl VX6_42 (by decide) (zlN hN (by decide)) (congrArg Prod.fst (sh151 ln)) rfl rfl rfl (cs rfl) (cs rfl) rfl (CX6_readMember hN f5.2 f4.1 f5.1 q8) (Nat.zero_add _).symm (Nat.zero_add _).symm (fun f8 => ?_)
  refine X_goto dX6_readStatement_247 (tgt := 322) rfl ?_
  cases h
  exact X_vret dX6_readStatement_322 rfl (k f8)
def fX6_readStatement_b155 (s2 : Int) (z : ZZ) : Option (ZZ) := (Option.bind (fX6_begins 1000129 (s2) z) fun q1 => match q1 with | (r1, z1) => (if (r1) = (0) then (if ((z1 153 (546))) < (12) then fX6_readStatement_b214 (1) z1 else fX6_readStatement_b214 (0) z1) else (Option.bind (fX6_takeNumber (0) (3) z1) fun q4 => match q4 with | (r4, z4) => (Option.bind (fX6_takeNumber (1) (365) z4) fun q5 => match q5 with | (r5, z5) => (Option.bind (fX6_isGood z5) fun r6 => (if (r6) = (0) then some z5 else (Option.bind (fX6_readHarness (r4) (r5) z5) fun z8 => some z8)))))))
set_option maxRecDepth 100000 in
theorem BX6_readStatement_155 {ln N : Nat} {z : ZZ} {s2 : Int} {c9 s9 : Nat} {Φ : xRes → xS → Prop} (hN : 159 ≤ N ∧ N < 999999) (hz : okz z) (rs2 : inR s2) {p : ZZ} (h : fX6_readStatement_b155 s2 z = some p) (k : Fin_w Φ ln N p) : X mX6_readStatement 155 [some (.ref (151)), none, none, none] [.int (iN (s2)), .ref (1000129), .ref (151)] (zmk ln N z) c9 s9 Φ := by
  unfold fX6_readStatement_b155 at h
  obtain ⟨⟨r1, z1⟩, q1, h⟩ := bs h
  refine Y_callV [.ref (1000129), .int (iN (s2))] (pc' := 158) dX6_readStatement_155 rfl VX6_131 (by decide) (zlN hN (by decide)) (congrArg Prod.fst (sh151 ln)) rfl rfl rfl (cs rfl) (cs rfl) rfl (CX6_begins hN hz (wW1000129) rs2 q1) (Nat.zero_add _).symm (Nat.zero_add _).symm (fun f1 => ?_)
  refine X_if_eq dX6_readStatement_158 (tgt := 193) rfl (pc' := 161) rfl (inR_b f1.1) (fun c2 => ?_) (fun c2 => ?_)
  · have h := if_t c2 h
    refine X_aload_n (pc' := 194) dX6_readStatement_193 rfl rfl ?_
    refine X_ldcS (pc' := 196) dX6_readStatement_194 rfl strX6_142 (by decide) ?_
    refine X_aload_n (pc' := 197) dX6_readStatement_196 rfl rfl ?_
    refine Y_get (pc' := 200) dX6_readStatement_197 rfl FX6_13 (zlN hN (by decide)) (congrArg Prod.fst (sh151 ln)) (ct151_8 z1) ?_
    refine X_sipush (pc' := 203) dX6_readStatement_200 rfl (by decide) ?_
    refine Y_iald (pc' := 204) dX6_readStatement_203 rfl (zlN hN (by decide)) (sh153 ln) (by decide) ⟨by decide, by decide⟩ ?_
    refine X_bipush (pc' := 206) dX6_readStatement_204 rfl (by decide) ?_
    refine X_icmp_ge dX6_readStatement_206 (tgt := 213) rfl (pc' := 209) rfl ⟨(f1.2 153 (546) (by decide)).1, (f1.2 153 (546) (by decide)).2, (inR_c (n := 12) rfl).1, (inR_c (n := 12) rfl).2⟩ (fun c3 => ?_) (fun c3 => ?_)
    · have h := if_f (Int.not_lt.mpr c3) h
      refine X_iconst (pc' := 214) dX6_readStatement_213 rfl ?_
      exact X_sub (sub_s (sub_n (sub_n (sub_n sub_0)))) (BX6_readStatement_214 hN f1.2 (inR_c (n := 0) rfl) h k)
    have h := if_t c3 h
    refine X_iconst (pc' := 210) dX6_readStatement_209 rfl ?_
    refine X_goto dX6_readStatement_210 (tgt := 214) rfl ?_
    exact X_sub (sub_s (sub_n (sub_n (sub_n sub_0)))) (BX6_readStatement_214 hN f1.2 (inR_c (n := 1) rfl) h k)
  have h := if_f c2 h
  refine X_aload_n (pc' := 162) dX6_readStatement_161 rfl rfl ?_
  refine X_iconst (pc' := 163) dX6_readStatement_162 rfl ?_
  refine X_iconst (pc' := 164) dX6_readStatement_163 rfl ?_
  obtain ⟨⟨r4, z4⟩, q4, h⟩ := bs h
  refine Y_callV [.int (iN (0)), .int (iN (3))] (pc' := 167) dX6_readStatement_164 rfl VX6_135 (by decide) (zlN hN (by decide)) (congrArg Prod.fst (sh151 ln)) rfl rfl rfl (cs rfl) (cs rfl) rfl (CX6_takeNumber hN f1.2 (inR_c (n := 0) rfl) (inR_c (n := 3) rfl) q4) (Nat.zero_add _).symm (Nat.zero_add _).symm (fun f4 => ?_)
  refine X_istore_n (pc' := 168) dX6_readStatement_167 rfl (cl rfl) (Or.inr rfl) (L' := [some (.ref (151)), some (.int (iN (r4))), none, none]) rfl ?_
  refine X_aload_n (pc' := 169) dX6_readStatement_168 rfl rfl ?_
  refine X_iconst (pc' := 170) dX6_readStatement_169 rfl ?_
  refine X_sipush (pc' := 173) dX6_readStatement_170 rfl (by decide) ?_
  obtain ⟨⟨r5, z5⟩, q5, h⟩ := bs h
  refine Y_callV [.int (iN (1)), .int (iN (365))] (pc' := 176) dX6_readStatement_173 rfl VX6_135 (by decide) (zlN hN (by decide)) (congrArg Prod.fst (sh151 ln)) rfl rfl rfl (cs rfl) (cs rfl) rfl (CX6_takeNumber hN f4.2 (inR_c (n := 1) rfl) (inR_c (n := 365) rfl) q5) (Nat.zero_add _).symm (Nat.zero_add _).symm (fun f5 => ?_)
  refine X_istore_n (pc' := 177) dX6_readStatement_176 rfl (cl rfl) (Or.inr rfl) (L' := [some (.ref (151)), some (.int (iN (r4))), some (.int (iN (r5))), none]) rfl ?_
  refine X_aload_n (pc' := 178) dX6_readStatement_177 rfl rfl ?_
  obtain ⟨r6, q6, h⟩ := bs h
  refine Y_callV [] (pc' := 181) dX6_readStatement_178 rfl VX6_102 (by decide) (zlN hN (by decide)) (congrArg Prod.fst (sh151 ln)) rfl rfl rfl (cs rfl) (cs rfl) rfl (CX6_isGood hN f5.2 q6) (Nat.zero_add _).symm (Nat.zero_add _).symm (fun f6 => ?_)
  refine X_if_eq dX6_readStatement_181 (tgt := 190) rfl (pc' := 184) rfl (inR_b f6) (fun c7 => ?_) (fun c7 => ?_)
  · have h := if_t c7 h
    refine X_goto dX6_readStatement_190 (tgt := 322) rfl ?_
    cases h
    exact X_vret dX6_readStatement_322 rfl (k f5.2)
  have h := if_f c7 h
  refine X_aload_n (pc' := 185) dX6_readStatement_184 rfl rfl ?_
  refine X_iload_n (pc' := 186) dX6_readStatement_185 rfl rfl ?_
  refine X_iload_n (pc' := 187) dX6_readStatement_186 rfl rfl ?_
  obtain ⟨z8, q8, h⟩ := bs h
  refine Y_callVv [.int (iN (r4)), .int (iN (r5))] (pc' := 190) dX6_readStatement_187 rfl VX6_38 (by decide) (zlN hN (by decide)) (congrArg Prod.fst (sh151 ln)) rfl rfl rfl (cs rfl) (cs rfl) rfl (CX6_readHarness hN f5.2 f4.1 f5.1 q8) (Nat.zero_add _).symm (Nat.zero_add _).symm (fun f8 => ?_)
  refine X_goto dX6_readStatement_190 (tgt := 322) rfl ?_
  cases h
  exact X_vret dX6_readStatement_322 rfl (k f8)
def fX6_readStatement_b88 (s2 : Int) (z : ZZ) : Option (ZZ) := (Option.bind (fX6_begins 1000128 (s2) z) fun q1 => match q1 with | (r1, z1) => (if (r1) = (0) then (if ((z1 153 (470))) < (15) then fX6_readStatement_b155 (1) z1 else fX6_readStatement_b155 (0) z1) else (Option.bind (fX6_takeNumber (3) (30) z1) fun q4 => match q4 with | (r4, z4) => (Option.bind (fX6_takeNumber (0) (5) z4) fun q5 => match q5 with | (r5, z5) => (Option.bind (fX6_takeNumber (1) (60) z5) fun q6 => match q6 with | (r6, z6) => (Option.bind (fX6_isGood z6) fun r7 => (if (r7) = (0) then some z6 else (Option.bind (fX6_readWall (r4) (r5) (r6) z6) fun z9 => some z9))))))))
set_option maxRecDepth 100000 in
theorem BX6_readStatement_88 {ln N : Nat} {z : ZZ} {s2 : Int} {c9 s9 : Nat} {Φ : xRes → xS → Prop} (hN : 159 ≤ N ∧ N < 999999) (hz : okz z) (rs2 : inR s2) {p : ZZ} (h : fX6_readStatement_b88 s2 z = some p) (k : Fin_w Φ ln N p) : X mX6_readStatement 88 [some (.ref (151)), none, none, none] [.int (iN (s2)), .ref (1000128), .ref (151)] (zmk ln N z) c9 s9 Φ := by
  unfold fX6_readStatement_b88 at h
  obtain ⟨⟨r1, z1⟩, q1, h⟩ := bs h
  refine Y_callV [.ref (1000128), .int (iN (s2))] (pc' := 91) dX6_readStatement_88 rfl VX6_131 (by decide) (zlN hN (by decide)) (congrArg Prod.fst (sh151 ln)) rfl rfl rfl (cs rfl) (cs rfl) rfl (CX6_begins hN hz (wW1000128) rs2 q1) (Nat.zero_add _).symm (Nat.zero_add _).symm (fun f1 => ?_)
  refine X_if_eq dX6_readStatement_91 (tgt := 134) rfl (pc' := 94) rfl (inR_b f1.1) (fun c2 => ?_) (fun c2 => ?_)
  · have h := if_t c2 h
    refine X_aload_n (pc' := 135) dX6_readStatement_134 rfl rfl ?_
    refine X_ldcS (pc' := 137) dX6_readStatement_135 rfl strX6_140 (by decide) ?_
    refine X_aload_n (pc' := 138) dX6_readStatement_137 rfl rfl ?_
    refine Y_get (pc' := 141) dX6_readStatement_138 rfl FX6_13 (zlN hN (by decide)) (congrArg Prod.fst (sh151 ln)) (ct151_8 z1) ?_
    refine X_sipush (pc' := 144) dX6_readStatement_141 rfl (by decide) ?_
    refine Y_iald (pc' := 145) dX6_readStatement_144 rfl (zlN hN (by decide)) (sh153 ln) (by decide) ⟨by decide, by decide⟩ ?_
    refine X_bipush (pc' := 147) dX6_readStatement_145 rfl (by decide) ?_
    refine X_icmp_ge dX6_readStatement_147 (tgt := 154) rfl (pc' := 150) rfl ⟨(f1.2 153 (470) (by decide)).1, (f1.2 153 (470) (by decide)).2, (inR_c (n := 15) rfl).1, (inR_c (n := 15) rfl).2⟩ (fun c3 => ?_) (fun c3 => ?_)
    · have h := if_f (Int.not_lt.mpr c3) h
      refine X_iconst (pc' := 155) dX6_readStatement_154 rfl ?_
      exact X_sub (sub_s (sub_n (sub_n (sub_n sub_0)))) (BX6_readStatement_155 hN f1.2 (inR_c (n := 0) rfl) h k)
    have h := if_t c3 h
    refine X_iconst (pc' := 151) dX6_readStatement_150 rfl ?_
    refine X_goto dX6_readStatement_151 (tgt := 155) rfl ?_
    exact X_sub (sub_s (sub_n (sub_n (sub_n sub_0)))) (BX6_readStatement_155 hN f1.2 (inR_c (n := 1) rfl) h k)
  have h := if_f c2 h
  refine X_aload_n (pc' := 95) dX6_readStatement_94 rfl rfl ?_
  refine X_iconst (pc' := 96) dX6_readStatement_95 rfl ?_
  refine X_bipush (pc' := 98) dX6_readStatement_96 rfl (by decide) ?_
  obtain ⟨⟨r4, z4⟩, q4, h⟩ := bs h
  refine Y_callV [.int (iN (3)), .int (iN (30))] (pc' := 101) dX6_readStatement_98 rfl VX6_135 (by decide) (zlN hN (by decide)) (congrArg Prod.fst (sh151 ln)) rfl rfl rfl (cs rfl) (cs rfl) rfl (CX6_takeNumber hN f1.2 (inR_c (n := 3) rfl) (inR_c (n := 30) rfl) q4) (Nat.zero_add _).symm (Nat.zero_add _).symm (fun f4 => ?_)
  refine X_istore_n (pc' := 102) dX6_readStatement_101 rfl (cl rfl) (Or.inr rfl) (L' := [some (.ref (151)), some (.int (iN (r4))), none, none]) rfl ?_
  refine X_aload_n (pc' := 103) dX6_readStatement_102 rfl rfl ?_
  refine X_iconst (pc' := 104) dX6_readStatement_103 rfl ?_
  refine X_iconst (pc' := 105) dX6_readStatement_104 rfl ?_
  obtain ⟨⟨r5, z5⟩, q5, h⟩ := bs h
  refine Y_callV [.int (iN (0)), .int (iN (5))] (pc' := 108) dX6_readStatement_105 rfl VX6_135 (by decide) (zlN hN (by decide)) (congrArg Prod.fst (sh151 ln)) rfl rfl rfl (cs rfl) (cs rfl) rfl (CX6_takeNumber hN f4.2 (inR_c (n := 0) rfl) (inR_c (n := 5) rfl) q5) (Nat.zero_add _).symm (Nat.zero_add _).symm (fun f5 => ?_)
  refine X_istore_n (pc' := 109) dX6_readStatement_108 rfl (cl rfl) (Or.inr rfl) (L' := [some (.ref (151)), some (.int (iN (r4))), some (.int (iN (r5))), none]) rfl ?_
  refine X_aload_n (pc' := 110) dX6_readStatement_109 rfl rfl ?_
  refine X_iconst (pc' := 111) dX6_readStatement_110 rfl ?_
  refine X_bipush (pc' := 113) dX6_readStatement_111 rfl (by decide) ?_
  obtain ⟨⟨r6, z6⟩, q6, h⟩ := bs h
  refine Y_callV [.int (iN (1)), .int (iN (60))] (pc' := 116) dX6_readStatement_113 rfl VX6_135 (by decide) (zlN hN (by decide)) (congrArg Prod.fst (sh151 ln)) rfl rfl rfl (cs rfl) (cs rfl) rfl (CX6_takeNumber hN f5.2 (inR_c (n := 1) rfl) (inR_c (n := 60) rfl) q6) (Nat.zero_add _).symm (Nat.zero_add _).symm (fun f6 => ?_)
  refine X_istore_n (pc' := 117) dX6_readStatement_116 rfl (cl rfl) (Or.inr rfl) (L' := [some (.ref (151)), some (.int (iN (r4))), some (.int (iN (r5))), some (.int (iN (r6)))]) rfl ?_
  refine X_aload_n (pc' := 118) dX6_readStatement_117 rfl rfl ?_
  obtain ⟨r7, q7, h⟩ := bs h
  refine Y_callV [] (pc' := 121) dX6_readStatement_118 rfl VX6_102 (by decide) (zlN hN (by decide)) (congrArg Prod.fst (sh151 ln)) rfl rfl rfl (cs rfl) (cs rfl) rfl (CX6_isGood hN f6.2 q7) (Nat.zero_add _).symm (Nat.zero_add _).symm (fun f7 => ?_)
  refine X_if_eq dX6_readStatement_121 (tgt := 131) rfl (pc' := 124) rfl (inR_b f7) (fun c8 => ?_) (fun c8 => ?_)
  · have h := if_t c8 h
    refine X_goto dX6_readStatement_131 (tgt := 322) rfl ?_
    cases h
    exact X_vret dX6_readStatement_322 rfl (k f6.2)
  have h := if_f c8 h
  refine X_aload_n (pc' := 125) dX6_readStatement_124 rfl rfl ?_
  refine X_iload_n (pc' := 126) dX6_readStatement_125 rfl rfl ?_
  refine X_iload_n (pc' := 127) dX6_readStatement_126 rfl rfl ?_
  refine X_iload_n (pc' := 128) dX6_readStatement_127 rfl rfl ?_
  obtain ⟨z9, q9, h⟩ := bs h
  refine Y_callVv [.int (iN (r4)), .int (iN (r5)), .int (iN (r6))] (pc' := 131) dX6_readStatement_128 rfl VX6_34 (by decide) (zlN hN (by decide)) (congrArg Prod.fst (sh151 ln)) rfl rfl rfl (cs rfl) (cs rfl) rfl (CX6_readWall hN f6.2 f4.1 f5.1 f6.1 q9) (Nat.zero_add _).symm (Nat.zero_add _).symm (fun f9 => ?_)
  refine X_goto dX6_readStatement_131 (tgt := 322) rfl ?_
  cases h
  exact X_vret dX6_readStatement_322 rfl (k f9)
def fX6_readStatement_b15 (s2 : Int) (z : ZZ) : Option (ZZ) := (Option.bind (fX6_begins 1000127 (s2) z) fun q1 => match q1 with | (r1, z1) => (if (r1) = (0) then (if ((z1 153 (4))) < (8) then fX6_readStatement_b88 (1) z1 else fX6_readStatement_b88 (0) z1) else (zl (zup z1 151 14 (1)) fun z4 => (Option.bind (fX6_takeNumber (0) (40) z4) fun q5 => match q5 with | (r5, z5) => (zl (zup z5 153 (0) (r5)) fun z6 => (Option.bind (fX6_takeNumber (0) (10) z6) fun q7 => match q7 with | (r7, z7) => (zl (zup z7 153 (1) (r7)) fun z8 => (Option.bind (fX6_takeNumber (1) (200) z8) fun q9 => match q9 with | (r9, z9) => (zl (zup z9 153 (2) (r9)) fun z10 => some z10)))))))))
set_option maxRecDepth 100000 in
theorem BX6_readStatement_15 {ln N : Nat} {z : ZZ} {s2 : Int} {c9 s9 : Nat} {Φ : xRes → xS → Prop} (hN : 159 ≤ N ∧ N < 999999) (hz : okz z) (rs2 : inR s2) {p : ZZ} (h : fX6_readStatement_b15 s2 z = some p) (k : Fin_w Φ ln N p) : X mX6_readStatement 15 [some (.ref (151)), none, none, none] [.int (iN (s2)), .ref (1000127), .ref (151)] (zmk ln N z) c9 s9 Φ := by
  unfold fX6_readStatement_b15 at h
  obtain ⟨⟨r1, z1⟩, q1, h⟩ := bs h
  refine Y_callV [.ref (1000127), .int (iN (s2))] (pc' := 18) dX6_readStatement_15 rfl VX6_131 (by decide) (zlN hN (by decide)) (congrArg Prod.fst (sh151 ln)) rfl rfl rfl (cs rfl) (cs rfl) rfl (CX6_begins hN hz (wW1000127) rs2 q1) (Nat.zero_add _).symm (Nat.zero_add _).symm (fun f1 => ?_)
  refine X_if_eq dX6_readStatement_18 (tgt := 69) rfl (pc' := 21) rfl (inR_b f1.1) (fun c2 => ?_) (fun c2 => ?_)
  · have h := if_t c2 h
    refine X_aload_n (pc' := 70) dX6_readStatement_69 rfl rfl ?_
    refine X_ldcS (pc' := 72) dX6_readStatement_70 rfl strX6_138 (by decide) ?_
    refine X_aload_n (pc' := 73) dX6_readStatement_72 rfl rfl ?_
    refine Y_get (pc' := 76) dX6_readStatement_73 rfl FX6_13 (zlN hN (by decide)) (congrArg Prod.fst (sh151 ln)) (ct151_8 z1) ?_
    refine X_iconst (pc' := 77) dX6_readStatement_76 rfl ?_
    refine Y_iald (pc' := 78) dX6_readStatement_77 rfl (zlN hN (by decide)) (sh153 ln) (by decide) ⟨by decide, by decide⟩ ?_
    refine X_bipush (pc' := 80) dX6_readStatement_78 rfl (by decide) ?_
    refine X_icmp_ge dX6_readStatement_80 (tgt := 87) rfl (pc' := 83) rfl ⟨(f1.2 153 (4) (by decide)).1, (f1.2 153 (4) (by decide)).2, (inR_c (n := 8) rfl).1, (inR_c (n := 8) rfl).2⟩ (fun c3 => ?_) (fun c3 => ?_)
    · have h := if_f (Int.not_lt.mpr c3) h
      refine X_iconst (pc' := 88) dX6_readStatement_87 rfl ?_
      exact X_sub (sub_s (sub_n (sub_n (sub_n sub_0)))) (BX6_readStatement_88 hN f1.2 (inR_c (n := 0) rfl) h k)
    have h := if_t c3 h
    refine X_iconst (pc' := 84) dX6_readStatement_83 rfl ?_
    refine X_goto dX6_readStatement_84 (tgt := 88) rfl ?_
    exact X_sub (sub_s (sub_n (sub_n (sub_n sub_0)))) (BX6_readStatement_88 hN f1.2 (inR_c (n := 1) rfl) h k)
  have h := if_f c2 h
  refine X_aload_n (pc' := 22) dX6_readStatement_21 rfl rfl ?_
  refine X_iconst (pc' := 23) dX6_readStatement_22 rfl ?_
  refine Y_put (k := 14) (j := 14) (v := 1) (pc' := 26) dX6_readStatement_23 rfl FX6_121 (zlN hN (by decide)) (congrArg Prod.fst (sh151 ln)) (fun r hr => by cases hr; rfl) (xFit_bool (Or.inr rfl)) rfl rfl ?_
  obtain ⟨z4, e4, hz4, h⟩ := zl_some (P := okz) h (okz_up f1.2 (inR_b (Or.inr rfl)))
  rw [e4]
  refine X_aload_n (pc' := 27) dX6_readStatement_26 rfl rfl ?_
  refine Y_get (pc' := 30) dX6_readStatement_27 rfl FX6_13 (zlN hN (by decide)) (congrArg Prod.fst (sh151 ln)) (ct151_8 z4) ?_
  refine X_iconst (pc' := 31) dX6_readStatement_30 rfl ?_
  refine X_aload_n (pc' := 32) dX6_readStatement_31 rfl rfl ?_
  refine X_iconst (pc' := 33) dX6_readStatement_32 rfl ?_
  refine X_bipush (pc' := 35) dX6_readStatement_33 rfl (by decide) ?_
  obtain ⟨⟨r5, z5⟩, q5, h⟩ := bs h
  refine Y_callV [.int (iN (0)), .int (iN (40))] (pc' := 38) dX6_readStatement_35 rfl VX6_135 (by decide) (zlN hN (by decide)) (congrArg Prod.fst (sh151 ln)) rfl rfl rfl (cs rfl) (cs rfl) rfl (CX6_takeNumber hN hz4 (inR_c (n := 0) rfl) (inR_c (n := 40) rfl) q5) (Nat.zero_add _).symm (Nat.zero_add _).symm (fun f5 => ?_)
  refine Y_iast (pc' := 39) dX6_readStatement_38 rfl (zlN hN (by decide)) (sh153 ln) (by decide) ⟨by decide, by decide⟩ ?_
  obtain ⟨z6, e6, hz6, h⟩ := zl_some (P := okz) h (okz_up f5.2 f5.1)
  rw [e6]
  refine X_aload_n (pc' := 40) dX6_readStatement_39 rfl rfl ?_
  refine Y_get (pc' := 43) dX6_readStatement_40 rfl FX6_13 (zlN hN (by decide)) (congrArg Prod.fst (sh151 ln)) (ct151_8 z6) ?_
  refine X_iconst (pc' := 44) dX6_readStatement_43 rfl ?_
  refine X_aload_n (pc' := 45) dX6_readStatement_44 rfl rfl ?_
  refine X_iconst (pc' := 46) dX6_readStatement_45 rfl ?_
  refine X_bipush (pc' := 48) dX6_readStatement_46 rfl (by decide) ?_
  obtain ⟨⟨r7, z7⟩, q7, h⟩ := bs h
  refine Y_callV [.int (iN (0)), .int (iN (10))] (pc' := 51) dX6_readStatement_48 rfl VX6_135 (by decide) (zlN hN (by decide)) (congrArg Prod.fst (sh151 ln)) rfl rfl rfl (cs rfl) (cs rfl) rfl (CX6_takeNumber hN hz6 (inR_c (n := 0) rfl) (inR_c (n := 10) rfl) q7) (Nat.zero_add _).symm (Nat.zero_add _).symm (fun f7 => ?_)
  refine Y_iast (pc' := 52) dX6_readStatement_51 rfl (zlN hN (by decide)) (sh153 ln) (by decide) ⟨by decide, by decide⟩ ?_
  obtain ⟨z8, e8, hz8, h⟩ := zl_some (P := okz) h (okz_up f7.2 f7.1)
  rw [e8]
  refine X_aload_n (pc' := 53) dX6_readStatement_52 rfl rfl ?_
  refine Y_get (pc' := 56) dX6_readStatement_53 rfl FX6_13 (zlN hN (by decide)) (congrArg Prod.fst (sh151 ln)) (ct151_8 z8) ?_
  refine X_iconst (pc' := 57) dX6_readStatement_56 rfl ?_
  refine X_aload_n (pc' := 58) dX6_readStatement_57 rfl rfl ?_
  refine X_iconst (pc' := 59) dX6_readStatement_58 rfl ?_
  refine X_sipush (pc' := 62) dX6_readStatement_59 rfl (by decide) ?_
  obtain ⟨⟨r9, z9⟩, q9, h⟩ := bs h
  refine Y_callV [.int (iN (1)), .int (iN (200))] (pc' := 65) dX6_readStatement_62 rfl VX6_135 (by decide) (zlN hN (by decide)) (congrArg Prod.fst (sh151 ln)) rfl rfl rfl (cs rfl) (cs rfl) rfl (CX6_takeNumber hN hz8 (inR_c (n := 1) rfl) (inR_c (n := 200) rfl) q9) (Nat.zero_add _).symm (Nat.zero_add _).symm (fun f9 => ?_)
  refine Y_iast (pc' := 66) dX6_readStatement_65 rfl (zlN hN (by decide)) (sh153 ln) (by decide) ⟨by decide, by decide⟩ ?_
  obtain ⟨z10, e10, hz10, h⟩ := zl_some (P := okz) h (okz_up f9.2 f9.1)
  rw [e10]
  refine X_goto dX6_readStatement_66 (tgt := 322) rfl ?_
  cases h
  exact X_vret dX6_readStatement_322 rfl (k hz10)
def fX6_readStatement (z : ZZ) : Option (ZZ) := (if ((z 151 14)) = (0) then fX6_readStatement_b15 (1) z else fX6_readStatement_b15 (0) z)
set_option maxRecDepth 100000 in
theorem CX6_readStatement {ln N : Nat} {z : ZZ} (hN : 159 ≤ N ∧ N < 999999) (hz : okz z) {p : ZZ} (h : fX6_readStatement z = some p) : X mX6_readStatement 0 (xEnt [.ref (151)] (xL mX6_readStatement)) [] (zmk ln N z) (cc_w p) (6 * cc_w p) (Qd (fa_w p) (rs_w p) (st_w ln N p)) := by
  have k : Fin_w (Qd (fa_w p) (rs_w p) (st_w ln N p)) ln N p := Fin_w_i
  unfold fX6_readStatement at h
  refine X_to (M := [some (.ref (151)), none, none, none]) (su := []) rfl rfl ?_
  refine X_aload_n (pc' := 1) dX6_readStatement_0 rfl rfl ?_
  refine X_ldcS (pc' := 3) dX6_readStatement_1 rfl strX6_129 (by decide) ?_
  refine X_aload_n (pc' := 4) dX6_readStatement_3 rfl rfl ?_
  refine Y_get (pc' := 7) dX6_readStatement_4 rfl FX6_121 (zlN hN (by decide)) (congrArg Prod.fst (sh151 ln)) (ct151_14 z) ?_
  refine X_if_ne dX6_readStatement_7 (tgt := 14) rfl (pc' := 10) rfl (hz 151 14 (by decide)) (fun c1 => ?_) (fun c1 => ?_)
  · have h := if_f c1 h
    refine X_iconst (pc' := 15) dX6_readStatement_14 rfl ?_
    exact X_sub (sub_s (sub_n (sub_n (sub_n sub_0)))) (BX6_readStatement_15 hN hz (inR_c (n := 0) rfl) h k)
  have h := if_t c1 h
  refine X_iconst (pc' := 11) dX6_readStatement_10 rfl ?_
  refine X_goto dX6_readStatement_11 (tgt := 15) rfl ?_
  exact X_sub (sub_s (sub_n (sub_n (sub_n sub_0)))) (BX6_readStatement_15 hN hz (inR_c (n := 1) rfl) h k)
def fX6_parse_s22 (z : ZZ) : Option ((ZZ) ⊕ (ZZ)) := (Option.bind (fX6_isGood z) fun r1 => (if (r1) = (0) then some (.inr z) else (if ((z 151 5)) = (3) then (if (0 : Int) ≤ ((z 151 4)) ∧ ((z 151 4)) < (600 : Int) then (if ((z 152 ((z 151 4)))) = (59) then (Option.bind (fX6_step z) fun z6 => (Option.bind (fX6_readStatement z6) fun z7 => some (.inl z7))) else some (.inr z)) else none) else some (.inr z))))
set_option maxRecDepth 100000 in
theorem SX6_parse_22 {ln N : Nat} {z : ZZ} {c9 s9 : Nat} {Φ : xRes → xS → Prop} (hN : 159 ≤ N ∧ N < 999999) (hz : okz z) {p : (ZZ) ⊕ (ZZ)} (h : fX6_parse_s22 z = some p) (k1 : ∀ (z' : ZZ), p = .inl z' → okz z' → X mX6_parse 22 [some (.ref (151))] [] (zmk ln N z') c9 s9 Φ) (k2 : ∀ (z' : ZZ), p = .inr z' → okz z' → X mX6_parse 62 [some (.ref (151))] [] (zmk ln N z') c9 s9 Φ) : X mX6_parse 22 [some (.ref (151))] [] (zmk ln N z) c9 s9 Φ := by
  unfold fX6_parse_s22 at h
  refine X_aload_n (pc' := 23) dX6_parse_22 rfl rfl ?_
  obtain ⟨r1, q1, h⟩ := bs h
  refine Y_callV [] (pc' := 26) dX6_parse_23 rfl VX6_102 (by decide) (zlN hN (by decide)) (congrArg Prod.fst (sh151 ln)) rfl rfl rfl (cs rfl) (cs rfl) rfl (CX6_isGood hN hz q1) (Nat.zero_add _).symm (Nat.zero_add _).symm (fun f1 => ?_)
  refine X_if_eq dX6_parse_26 (tgt := 62) rfl (pc' := 29) rfl (inR_b f1) (fun c2 => ?_) (fun c2 => ?_)
  · have h := if_t c2 h
    cases h
    exact X_sub (sub_s sub_0) (k2 _ rfl hz)
  have h := if_f c2 h
  refine X_aload_n (pc' := 30) dX6_parse_29 rfl rfl ?_
  refine Y_get (pc' := 33) dX6_parse_30 rfl FX6_87 (zlN hN (by decide)) (congrArg Prod.fst (sh151 ln)) (ct151_5 z) ?_
  refine X_iconst (pc' := 34) dX6_parse_33 rfl ?_
  refine X_icmp_ne dX6_parse_34 (tgt := 62) rfl (pc' := 37) rfl ⟨(hz 151 5 (by decide)).1, (hz 151 5 (by decide)).2, (inR_c (n := 3) rfl).1, (inR_c (n := 3) rfl).2⟩ (fun c3 => ?_) (fun c3 => ?_)
  · have h := if_f c3 h
    cases h
    exact X_sub (sub_s sub_0) (k2 _ rfl hz)
  have h := if_t c3 h
  refine X_aload_n (pc' := 38) dX6_parse_37 rfl rfl ?_
  refine Y_get (pc' := 41) dX6_parse_38 rfl FX6_9 (zlN hN (by decide)) (congrArg Prod.fst (sh151 ln)) (ct151_1 z) ?_
  refine X_aload_n (pc' := 42) dX6_parse_41 rfl rfl ?_
  refine Y_get (pc' := 45) dX6_parse_42 rfl FX6_77 (zlN hN (by decide)) (congrArg Prod.fst (sh151 ln)) (ct151_4 z) ?_
  obtain ⟨g4, h⟩ := gs h
  refine Y_iald (pc' := 46) dX6_parse_45 rfl (zlN hN (by decide)) (sh152 ln) (by decide) g4 ?_
  refine X_bipush (pc' := 48) dX6_parse_46 rfl (by decide) ?_
  refine X_icmp_ne dX6_parse_48 (tgt := 62) rfl (pc' := 51) rfl ⟨(hz 152 ((z 151 4)) (by decide)).1, (hz 152 ((z 151 4)) (by decide)).2, (inR_c (n := 59) rfl).1, (inR_c (n := 59) rfl).2⟩ (fun c5 => ?_) (fun c5 => ?_)
  · have h := if_f c5 h
    cases h
    exact X_sub (sub_s sub_0) (k2 _ rfl hz)
  have h := if_t c5 h
  refine X_aload_n (pc' := 52) dX6_parse_51 rfl rfl ?_
  obtain ⟨z6, q6, h⟩ := bs h
  refine Y_callVv [] (pc' := 55) dX6_parse_52 rfl VX6_118 (by decide) (zlN hN (by decide)) (congrArg Prod.fst (sh151 ln)) rfl rfl rfl (cs rfl) (cs rfl) rfl (CX6_step hN hz q6) (Nat.zero_add _).symm (Nat.zero_add _).symm (fun f6 => ?_)
  refine X_aload_n (pc' := 56) dX6_parse_55 rfl rfl ?_
  obtain ⟨z7, q7, h⟩ := bs h
  refine Y_callVv [] (pc' := 59) dX6_parse_56 rfl VX6_146 (by decide) (zlN hN (by decide)) (congrArg Prod.fst (sh151 ln)) rfl rfl rfl (cs rfl) (cs rfl) rfl (CX6_readStatement hN f6 q7) (Nat.zero_add _).symm (Nat.zero_add _).symm (fun f7 => ?_)
  refine X_goto dX6_parse_59 (tgt := 22) rfl ?_
  cases h
  exact X_sub (sub_s sub_0) (k1 _ rfl f7)
theorem LX6_parse_22 {ln N : Nat} {c9 s9 : Nat} {Φ : xRes → xS → Prop} (hN : 159 ≤ N ∧ N < 999999) {r : ZZ} (k2 : ∀ (z' : ZZ), r = z' → okz z' → X mX6_parse 62 [some (.ref (151))] [] (zmk ln N z') c9 s9 Φ) : ∀ (n : Nat) (z : ZZ), okz z → zlp (fun q => fX6_parse_s22 q) n z = some r → X mX6_parse 22 [some (.ref (151))] [] (zmk ln N z) c9 s9 Φ := by
  intro n
  induction n with
  | zero => intro z hz h; cases h
  | succ n ih =>
    intro z hz h
    rcases zlp_s h with ⟨z', e, h'⟩ | e
    · exact SX6_parse_22 hN hz e (fun z₁ hh f0 => by cases hh; exact ih _ f0 h') (fun z₁ hh f0 => by cases hh)
    · exact SX6_parse_22 hN hz e (fun z₁ hh f0 => by cases hh) (fun z₁ hh f0 => by cases hh; exact k2 _ rfl f0)
def fX6_parse (z : ZZ) : Option (Int × ZZ) := (zl (zup z 151 3 (0)) fun z1 => (zl (zup z1 151 7 ((-1))) fun z2 => (Option.bind (fX6_begin z2) fun z3 => (Option.bind (fX6_step z3) fun z4 => (Option.bind (fX6_readStatement z4) fun z5 => (Option.bind (zlp (fun q => fX6_parse_s22 q) FU z5) fun x6_z => (Option.bind (fX6_isGood x6_z) fun r7 => (if (r7) = (0) then some ((x6_z 151 7), x6_z) else (if ((x6_z 151 5)) = (0) then some ((x6_z 151 7), x6_z) else (Option.bind (fX6_fail x6_z) fun z10 => some ((z10 151 7), z10)))))))))))
set_option maxRecDepth 100000 in
theorem CX6_parse {ln N : Nat} {z : ZZ} (hN : 159 ≤ N ∧ N < 999999) (hz : okz z) {p : Int × ZZ} (h : fX6_parse z = some p) : X mX6_parse 0 (xEnt [.ref (151)] (xL mX6_parse)) [] (zmk ln N z) (cc_wi p) (6 * cc_wi p) (Qd (fa_wi p) (rs_wi p) (st_wi ln N p)) := by
  have k : Fin_wi (Qd (fa_wi p) (rs_wi p) (st_wi ln N p)) ln N p := Fin_wi_i
  unfold fX6_parse at h
  refine X_to (M := [some (.ref (151))]) (su := []) rfl rfl ?_
  refine X_aload_n (pc' := 1) dX6_parse_0 rfl rfl ?_
  refine X_iconst (pc' := 2) dX6_parse_1 rfl ?_
  refine Y_put (k := 3) (j := 3) (v := 0) (pc' := 5) dX6_parse_2 rfl FX6_70 (zlN hN (by decide)) (congrArg Prod.fst (sh151 ln)) (fun r hr => by cases hr; rfl) (xFit_int _) rfl rfl ?_
  obtain ⟨z1, e1, hz1, h⟩ := zl_some (P := okz) h (okz_up hz (inR_c (n := 0) rfl))
  rw [e1]
  refine X_aload_n (pc' := 6) dX6_parse_5 rfl rfl ?_
  refine X_iconst (pc' := 7) dX6_parse_6 rfl ?_
  refine Y_put (k := 7) (j := 7) (v := (-1)) (pc' := 10) dX6_parse_7 rfl FX6_99 (zlN hN (by decide)) (congrArg Prod.fst (sh151 ln)) (fun r hr => by cases hr; rfl) (xFit_int _) rfl rfl ?_
  obtain ⟨z2, e2, hz2, h⟩ := zl_some (P := okz) h (okz_up hz1 (inR_c (n := (-1)) rfl))
  rw [e2]
  refine X_aload_n (pc' := 11) dX6_parse_10 rfl rfl ?_
  obtain ⟨z3, q3, h⟩ := bs h
  refine Y_callVv [] (pc' := 14) dX6_parse_11 rfl VX6_31 (by decide) (zlN hN (by decide)) (congrArg Prod.fst (sh151 ln)) rfl rfl rfl (cs rfl) (cs rfl) rfl (CX6_begin hN hz2 q3) (Nat.zero_add _).symm (Nat.zero_add _).symm (fun f3 => ?_)
  refine X_aload_n (pc' := 15) dX6_parse_14 rfl rfl ?_
  obtain ⟨z4, q4, h⟩ := bs h
  refine Y_callVv [] (pc' := 18) dX6_parse_15 rfl VX6_118 (by decide) (zlN hN (by decide)) (congrArg Prod.fst (sh151 ln)) rfl rfl rfl (cs rfl) (cs rfl) rfl (CX6_step hN f3 q4) (Nat.zero_add _).symm (Nat.zero_add _).symm (fun f4 => ?_)
  refine X_aload_n (pc' := 19) dX6_parse_18 rfl rfl ?_
  obtain ⟨z5, q5, h⟩ := bs h
  refine Y_callVv [] (pc' := 22) dX6_parse_19 rfl VX6_146 (by decide) (zlN hN (by decide)) (congrArg Prod.fst (sh151 ln)) rfl rfl rfl (cs rfl) (cs rfl) rfl (CX6_readStatement hN f4 q5) (Nat.zero_add _).symm (Nat.zero_add _).symm (fun f5 => ?_)
  obtain ⟨x6_z, q6, h⟩ := bs h
  refine X_sub (sub_s sub_0) (LX6_parse_22 hN (fun x6_z₁ hh hx6_z => ?_) FU _ f5 q6)
  cases hh
  refine X_aload_n (pc' := 63) dX6_parse_62 rfl rfl ?_
  obtain ⟨r7, q7, h⟩ := bs h
  refine Y_callV [] (pc' := 66) dX6_parse_63 rfl VX6_102 (by decide) (zlN hN (by decide)) (congrArg Prod.fst (sh151 ln)) rfl rfl rfl (cs rfl) (cs rfl) rfl (CX6_isGood hN hx6_z q7) (Nat.zero_add _).symm (Nat.zero_add _).symm (fun f7 => ?_)
  refine X_if_eq dX6_parse_66 (tgt := 80) rfl (pc' := 69) rfl (inR_b f7) (fun c8 => ?_) (fun c8 => ?_)
  · have h := if_t c8 h
    refine X_aload_n (pc' := 81) dX6_parse_80 rfl rfl ?_
    refine Y_get (pc' := 84) dX6_parse_81 rfl FX6_99 (zlN hN (by decide)) (congrArg Prod.fst (sh151 ln)) (ct151_7 x6_z) ?_
    cases h
    exact X_iret dX6_parse_84 rfl (k ⟨(hx6_z 151 7 (by decide)), hx6_z⟩)
  have h := if_f c8 h
  refine X_aload_n (pc' := 70) dX6_parse_69 rfl rfl ?_
  refine Y_get (pc' := 73) dX6_parse_70 rfl FX6_87 (zlN hN (by decide)) (congrArg Prod.fst (sh151 ln)) (ct151_5 x6_z) ?_
  refine X_if_eq dX6_parse_73 (tgt := 80) rfl (pc' := 76) rfl (hx6_z 151 5 (by decide)) (fun c9 => ?_) (fun c9 => ?_)
  · have h := if_t c9 h
    refine X_aload_n (pc' := 81) dX6_parse_80 rfl rfl ?_
    refine Y_get (pc' := 84) dX6_parse_81 rfl FX6_99 (zlN hN (by decide)) (congrArg Prod.fst (sh151 ln)) (ct151_7 x6_z) ?_
    cases h
    exact X_iret dX6_parse_84 rfl (k ⟨(hx6_z 151 7 (by decide)), hx6_z⟩)
  have h := if_f c9 h
  refine X_aload_n (pc' := 77) dX6_parse_76 rfl rfl ?_
  obtain ⟨z10, q10, h⟩ := bs h
  refine Y_callVv [] (pc' := 80) dX6_parse_77 rfl VX6_115 (by decide) (zlN hN (by decide)) (congrArg Prod.fst (sh151 ln)) rfl rfl rfl (cs rfl) (cs rfl) rfl (CX6_fail hN hx6_z q10) (Nat.zero_add _).symm (Nat.zero_add _).symm (fun f10 => ?_)
  refine X_aload_n (pc' := 81) dX6_parse_80 rfl rfl ?_
  refine Y_get (pc' := 84) dX6_parse_81 rfl FX6_99 (zlN hN (by decide)) (congrArg Prod.fst (sh151 ln)) (ct151_7 z10) ?_
  cases h
  exact X_iret dX6_parse_84 rfl (k ⟨(f10 151 7 (by decide)), f10⟩)
def fX6_errorPosition (z : ZZ) : Option (Int × ZZ) := (zl (zup z 151 0 (0)) fun z1 => (Option.bind (fX6_parse z1) fun q2 => match q2 with | (r2, z2) => some (r2, z2)))
set_option maxRecDepth 100000 in
theorem CX6_errorPosition {ln N : Nat} {z : ZZ} (hN : 159 ≤ N ∧ N < 999999) (hz : okz z) {p : Int × ZZ} (h : fX6_errorPosition z = some p) : X mX6_errorPosition 0 (xEnt [.ref (151)] (xL mX6_errorPosition)) [] (zmk ln N z) (cc_wi p) (6 * cc_wi p) (Qd (fa_wi p) (rs_wi p) (st_wi ln N p)) := by
  have k : Fin_wi (Qd (fa_wi p) (rs_wi p) (st_wi ln N p)) ln N p := Fin_wi_i
  unfold fX6_errorPosition at h
  refine X_to (M := [some (.ref (151))]) (su := []) rfl rfl ?_
  refine X_aload_n (pc' := 1) dX6_errorPosition_0 rfl rfl ?_
  refine X_iconst (pc' := 2) dX6_errorPosition_1 rfl ?_
  refine Y_put (k := 0) (j := 0) (v := 0) (pc' := 5) dX6_errorPosition_2 rfl FX6_51 (zlN hN (by decide)) (congrArg Prod.fst (sh151 ln)) (fun r hr => by cases hr; rfl) (xFit_int _) rfl rfl ?_
  obtain ⟨z1, e1, hz1, h⟩ := zl_some (P := okz) h (okz_up hz (inR_c (n := 0) rfl))
  rw [e1]
  refine X_aload_n (pc' := 6) dX6_errorPosition_5 rfl rfl ?_
  obtain ⟨⟨r2, z2⟩, q2, h⟩ := bs h
  refine Y_callV [] (pc' := 9) dX6_errorPosition_6 rfl VX6_149 (by decide) (zlN hN (by decide)) (congrArg Prod.fst (sh151 ln)) rfl rfl rfl (cs rfl) (cs rfl) rfl (CX6_parse hN hz1 q2) (Nat.zero_add _).symm (Nat.zero_add _).symm (fun f2 => ?_)
  cases h
  exact X_iret dX6_errorPosition_9 rfl (k ⟨f2.1, f2.2⟩)
def fX6_has (v0 : Int) (v1 : Int) (z : ZZ) : Option (Int) := (if ((zand (zshr v0 v1) 1)) = (1) then some (1) else some (0))
set_option maxRecDepth 100000 in
theorem CX6_has {ln N : Nat} {z : ZZ} {v0 : Int} {v1 : Int} (hN : 159 ≤ N ∧ N < 999999) (hz : okz z) (rv0 : inR v0) (rv1 : inR v1) {p : Int} (h : fX6_has v0 v1 z = some p) : X mX6_has 0 (xEnt [.int (iN (v0)), .int (iN (v1))] (xL mX6_has)) [] (zmk ln N z) (cc_b p) (6 * cc_b p) (Qd (fa_b p) (rs_b p) (st_b ln N z p)) := by
  have k : Fin_b (Qd (fa_b p) (rs_b p) (st_b ln N z p)) ln N z p := Fin_b_i
  unfold fX6_has at h
  refine X_to (M := [some (.int (iN (v0))), some (.int (iN (v1)))]) (su := []) rfl rfl ?_
  refine X_iload_n (pc' := 1) dX6_has_0 rfl rfl ?_
  refine X_iload_n (pc' := 2) dX6_has_1 rfl rfl ?_
  refine X_ishr (pc' := 3) dX6_has_2 rfl ?_
  refine X_iconst (pc' := 4) dX6_has_3 rfl ?_
  refine X_iand (pc' := 5) dX6_has_4 rfl ?_
  refine X_iconst (pc' := 6) dX6_has_5 rfl ?_
  refine X_icmp_ne dX6_has_6 (tgt := 13) rfl (pc' := 9) rfl ⟨(inR_zand _ _).1, (inR_zand _ _).2, (inR_c (n := 1) rfl).1, (inR_c (n := 1) rfl).2⟩ (fun c1 => ?_) (fun c1 => ?_)
  · have h := if_f c1 h
    refine X_iconst (pc' := 14) dX6_has_13 rfl ?_
    cases h
    exact X_zret dX6_has_14 rfl (Or.inl rfl) (k (Or.inl rfl))
  have h := if_t c1 h
  refine X_iconst (pc' := 10) dX6_has_9 rfl ?_
  refine X_goto dX6_has_10 (tgt := 14) rfl ?_
  cases h
  exact X_zret dX6_has_14 rfl (Or.inr rfl) (k (Or.inr rfl))
def fX6_finish_b89 (v1 : Int) (v2 : Int) (v3 : Int) (v4 : Int) (z : ZZ) : Option ((Int × Int × ZZ) ⊕ (Int × ZZ)) := (if inR ((v4 + 1)) then some (.inl (v3, (v4 + 1), z)) else none)
set_option maxRecDepth 100000 in
theorem BX6_finish_89 {ln N : Nat} {z : ZZ} {v1 : Int} {v2 : Int} {v3 : Int} {v4 : Int} {c9 s9 : Nat} {Φ : xRes → xS → Prop} (hN : 159 ≤ N ∧ N < 999999) (hz : okz z) (rv1 : inR v1) (rv2 : inR v2) (rv3 : inR v3) (rv4 : inR v4) {p : (Int × Int × ZZ) ⊕ (Int × ZZ)} (h : fX6_finish_b89 v1 v2 v3 v4 z = some p) (k1 : ∀ (v3' : Int) (v4' : Int) (z' : ZZ), p = .inl (v3', v4', z') → inR v3' → inR v4' → okz z' → X mX6_finish 29 [some (.ref (151)), some (.int (iN (v1))), some (.int (iN (v2))), some (.int (iN (v3'))), some (.int (iN (v4')))] [] (zmk ln N z') c9 s9 Φ) (k2 : ∀ (v3' : Int) (z' : ZZ), p = .inr (v3', z') → inR v3' → okz z' → X mX6_finish 95 [none, none, none, some (.int (iN (v3'))), none] [] (zmk ln N z') c9 s9 Φ) : X mX6_finish 89 [some (.ref (151)), some (.int (iN (v1))), some (.int (iN (v2))), some (.int (iN (v3))), some (.int (iN (v4)))] [] (zmk ln N z) c9 s9 Φ := by
  unfold fX6_finish_b89 at h
  refine X_iinc (pc' := 92) dX6_finish_89 rfl rfl (Or.inr rfl) (L' := [some (.ref (151)), some (.int (iN (v1))), some (.int (iN (v2))), some (.int (iN (v3))), some (.int (iN (v4 + 1)))]) rfl ?_
  refine X_goto dX6_finish_92 (tgt := 29) rfl ?_
  obtain ⟨g1, h⟩ := gs h
  cases h
  exact X_sub (sub_s (sub_s (sub_s (sub_s (sub_s sub_0))))) (k1 _ _ _ rfl rv3 g1 hz)
def fX6_finish_s29 (v1 : Int) (v2 : Int) (v3 : Int) (v4 : Int) (z : ZZ) : Option ((Int × Int × ZZ) ⊕ (Int × ZZ)) := (if (v4) < ((z 154 (546))) then (Option.bind (fX6_memberPart (v4) (4) z) fun r2 => (if (r2) = (v1) then (Option.bind (fX6_setMember (v4) (4) ((-1)) z) fun z4 => (Option.bind (fX6_has (v2) (v4) z4) fun r5 => (if (r5) = (0) then fX6_finish_b89 (v1) (v2) (v3) (v4) z4 else (Option.bind (fX6_coursePart (v1) (0) z4) fun r7 => (Option.bind (fX6_setMember (v4) (1) (r7) z4) fun z8 => (if inR ((v3 + 1)) then fX6_finish_b89 (v1) (v2) ((v3 + 1)) (v4) z8 else none)))))) else fX6_finish_b89 (v1) (v2) (v3) (v4) z)) else some (.inr (v3, z)))
set_option maxRecDepth 100000 in
theorem SX6_finish_29 {ln N : Nat} {z : ZZ} {v1 : Int} {v2 : Int} {v3 : Int} {v4 : Int} {c9 s9 : Nat} {Φ : xRes → xS → Prop} (hN : 159 ≤ N ∧ N < 999999) (hz : okz z) (rv1 : inR v1) (rv2 : inR v2) (rv3 : inR v3) (rv4 : inR v4) {p : (Int × Int × ZZ) ⊕ (Int × ZZ)} (h : fX6_finish_s29 v1 v2 v3 v4 z = some p) (k1 : ∀ (v3' : Int) (v4' : Int) (z' : ZZ), p = .inl (v3', v4', z') → inR v3' → inR v4' → okz z' → X mX6_finish 29 [some (.ref (151)), some (.int (iN (v1))), some (.int (iN (v2))), some (.int (iN (v3'))), some (.int (iN (v4')))] [] (zmk ln N z') c9 s9 Φ) (k2 : ∀ (v3' : Int) (z' : ZZ), p = .inr (v3', z') → inR v3' → okz z' → X mX6_finish 95 [none, none, none, some (.int (iN (v3'))), none] [] (zmk ln N z') c9 s9 Φ) : X mX6_finish 29 [some (.ref (151)), some (.int (iN (v1))), some (.int (iN (v2))), some (.int (iN (v3))), some (.int (iN (v4)))] [] (zmk ln N z) c9 s9 Φ := by
  unfold fX6_finish_s29 at h
  refine X_iload (pc' := 31) dX6_finish_29 rfl rfl ?_
  refine X_aload_n (pc' := 32) dX6_finish_31 rfl rfl ?_
  refine Y_get (pc' := 35) dX6_finish_32 rfl FX6_16 (zlN hN (by decide)) (congrArg Prod.fst (sh151 ln)) (ct151_9 z) ?_
  refine X_sipush (pc' := 38) dX6_finish_35 rfl (by decide) ?_
  refine Y_iald (pc' := 39) dX6_finish_38 rfl (zlN hN (by decide)) (sh154 ln) (by decide) ⟨by decide, by decide⟩ ?_
  refine X_icmp_ge dX6_finish_39 (tgt := 95) rfl (pc' := 42) rfl ⟨rv4.1, rv4.2, (hz 154 (546) (by decide)).1, (hz 154 (546) (by decide)).2⟩ (fun c1 => ?_) (fun c1 => ?_)
  · have h := if_f (Int.not_lt.mpr c1) h
    cases h
    exact X_sub (sub_n (sub_n (sub_n (sub_s (sub_n sub_0))))) (k2 _ _ rfl rv3 hz)
  have h := if_t c1 h
  refine X_aload_n (pc' := 43) dX6_finish_42 rfl rfl ?_
  refine X_iload (pc' := 45) dX6_finish_43 rfl rfl ?_
  refine X_iconst (pc' := 46) dX6_finish_45 rfl ?_
  obtain ⟨r2, q2, h⟩ := bs h
  refine Y_callV [.int (iN (v4)), .int (iN (4))] (pc' := 49) dX6_finish_46 rfl VX6_207 (by decide) (zlN hN (by decide)) (congrArg Prod.fst (sh151 ln)) rfl rfl rfl (cs rfl) (cs rfl) rfl (CX6_memberPart hN hz rv4 (inR_c (n := 4) rfl) q2) (Nat.zero_add _).symm (Nat.zero_add _).symm (fun f2 => ?_)
  refine X_iload_n (pc' := 50) dX6_finish_49 rfl rfl ?_
  refine X_icmp_eq dX6_finish_50 (tgt := 56) rfl (pc' := 53) rfl ⟨f2.1, f2.2, rv1.1, rv1.2⟩ (fun c3 => ?_) (fun c3 => ?_)
  · have h := if_t c3 h
    refine X_aload_n (pc' := 57) dX6_finish_56 rfl rfl ?_
    refine X_iload (pc' := 59) dX6_finish_57 rfl rfl ?_
    refine X_iconst (pc' := 60) dX6_finish_59 rfl ?_
    refine X_iconst (pc' := 61) dX6_finish_60 rfl ?_
    obtain ⟨z4, q4, h⟩ := bs h
    refine Y_callVv [.int (iN (v4)), .int (iN (4)), .int (iN ((-1)))] (pc' := 64) dX6_finish_61 rfl VX6_250 (by decide) (zlN hN (by decide)) (congrArg Prod.fst (sh151 ln)) rfl rfl rfl (cs rfl) (cs rfl) rfl (CX6_setMember hN hz rv4 (inR_c (n := 4) rfl) (inR_c (n := (-1)) rfl) q4) (Nat.zero_add _).symm (Nat.zero_add _).symm (fun f4 => ?_)
    refine X_iload_n (pc' := 65) dX6_finish_64 rfl rfl ?_
    refine X_iload (pc' := 67) dX6_finish_65 rfl rfl ?_
    obtain ⟨r5, q5, h⟩ := bs h
    refine Y_callS [.int (iN (v2)), .int (iN (v4))] (pc' := 70) dX6_finish_67 rfl SX6_253 (by decide) rfl (cs rfl) (cs rfl) rfl (CX6_has hN f4 rv2 rv4 q5) (Nat.zero_add _).symm (Nat.zero_add _).symm (fun f5 => ?_)
    refine X_if_eq dX6_finish_70 (tgt := 89) rfl (pc' := 73) rfl (inR_b f5) (fun c6 => ?_) (fun c6 => ?_)
    · have h := if_t c6 h
      exact X_sub (sub_s (sub_s (sub_s (sub_s (sub_s sub_0))))) (BX6_finish_89 hN f4 rv1 rv2 rv3 rv4 h k1 k2)
    have h := if_f c6 h
    refine X_aload_n (pc' := 74) dX6_finish_73 rfl rfl ?_
    refine X_iload (pc' := 76) dX6_finish_74 rfl rfl ?_
    refine X_iconst (pc' := 77) dX6_finish_76 rfl ?_
    refine X_aload_n (pc' := 78) dX6_finish_77 rfl rfl ?_
    refine X_iload_n (pc' := 79) dX6_finish_78 rfl rfl ?_
    refine X_iconst (pc' := 80) dX6_finish_79 rfl ?_
    obtain ⟨r7, q7, h⟩ := bs h
    refine Y_callV [.int (iN (v1)), .int (iN (0))] (pc' := 83) dX6_finish_80 rfl VX6_268 (by decide) (zlN hN (by decide)) (congrArg Prod.fst (sh151 ln)) rfl rfl rfl (cs rfl) (cs rfl) rfl (CX6_coursePart hN f4 rv1 (inR_c (n := 0) rfl) q7) (Nat.zero_add _).symm (Nat.zero_add _).symm (fun f7 => ?_)
    obtain ⟨z8, q8, h⟩ := bs h
    refine Y_callVv [.int (iN (v4)), .int (iN (1)), .int (iN (r7))] (pc' := 86) dX6_finish_83 rfl VX6_250 (by decide) (zlN hN (by decide)) (congrArg Prod.fst (sh151 ln)) rfl rfl rfl (cs rfl) (cs rfl) rfl (CX6_setMember hN f4 rv4 (inR_c (n := 1) rfl) f7 q8) (Nat.zero_add _).symm (Nat.zero_add _).symm (fun f8 => ?_)
    refine X_iinc (pc' := 89) dX6_finish_86 rfl rfl (Or.inr rfl) (L' := [some (.ref (151)), some (.int (iN (v1))), some (.int (iN (v2))), some (.int (iN (v3 + 1))), some (.int (iN (v4)))]) rfl ?_
    obtain ⟨g9, h⟩ := gs h
    exact X_sub (sub_s (sub_s (sub_s (sub_s (sub_s sub_0))))) (BX6_finish_89 hN f8 rv1 rv2 g9 rv4 h k1 k2)
  have h := if_f c3 h
  refine X_goto dX6_finish_53 (tgt := 89) rfl ?_
  exact X_sub (sub_s (sub_s (sub_s (sub_s (sub_s sub_0))))) (BX6_finish_89 hN hz rv1 rv2 rv3 rv4 h k1 k2)
theorem LX6_finish_29 {ln N : Nat} {v1 : Int} {v2 : Int} {c9 s9 : Nat} {Φ : xRes → xS → Prop} (hN : 159 ≤ N ∧ N < 999999) (rv1 : inR v1) (rv2 : inR v2) {r : Int × ZZ} (k2 : ∀ (v3' : Int) (z' : ZZ), r = (v3', z') → inR v3' → okz z' → X mX6_finish 95 [none, none, none, some (.int (iN (v3'))), none] [] (zmk ln N z') c9 s9 Φ) : ∀ (n : Nat) (v3 : Int) (v4 : Int) (z : ZZ), inR v3 → inR v4 → okz z → zlp (fun q => fX6_finish_s29 v1 v2 q.1 q.2.1 q.2.2) n (v3, v4, z) = some r → X mX6_finish 29 [some (.ref (151)), some (.int (iN (v1))), some (.int (iN (v2))), some (.int (iN (v3))), some (.int (iN (v4)))] [] (zmk ln N z) c9 s9 Φ := by
  intro n
  induction n with
  | zero => intro v3 v4 z rv3 rv4 hz h; cases h
  | succ n ih =>
    intro v3 v4 z rv3 rv4 hz h
    rcases zlp_s h with ⟨⟨v3', v4', z'⟩, e, h'⟩ | e
    · exact SX6_finish_29 hN hz rv1 rv2 rv3 rv4 e (fun v3₁ v4₁ z₁ hh f0 f1 f2 => by cases hh; exact ih _ _ _ f0 f1 f2 h') (fun v3₁ z₁ hh f0 f1 => by cases hh)
    · exact SX6_finish_29 hN hz rv1 rv2 rv3 rv4 e (fun v3₁ v4₁ z₁ hh f0 f1 f2 => by cases hh) (fun v3₁ z₁ hh f0 f1 => by cases hh; exact k2 _ _ rfl f0 f1)
def fX6_finish (v1 : Int) (v2 : Int) (z : ZZ) : Option (Int × ZZ) := (zl (zup z 151 0 (0)) fun z1 => (Option.bind (fX6_isCourse (v1) z1) fun r2 => (Option.bind (fX6_fails (r2) (1) z1) fun q3 => match q3 with | (r3, z3) => (if (r3) = (0) then (Option.bind (fX6_record z3) fun z5 => (Option.bind (zlp (fun q => fX6_finish_s29 (v1) (v2) q.1 q.2.1 q.2.2) FU (0, 0, z5)) fun q6 => match q6 with | (x6_v3, x6_z) => some (x6_v3, x6_z))) else some (0, z3)))))
set_option maxRecDepth 100000 in
theorem CX6_finish {ln N : Nat} {z : ZZ} {v1 : Int} {v2 : Int} (hN : 159 ≤ N ∧ N < 999999) (hz : okz z) (rv1 : inR v1) (rv2 : inR v2) {p : Int × ZZ} (h : fX6_finish v1 v2 z = some p) : X mX6_finish 0 (xEnt [.ref (151), .int (iN (v1)), .int (iN (v2))] (xL mX6_finish)) [] (zmk ln N z) (cc_wi p) (6 * cc_wi p) (Qd (fa_wi p) (rs_wi p) (st_wi ln N p)) := by
  have k : Fin_wi (Qd (fa_wi p) (rs_wi p) (st_wi ln N p)) ln N p := Fin_wi_i
  unfold fX6_finish at h
  refine X_to (M := [some (.ref (151)), some (.int (iN (v1))), some (.int (iN (v2))), none, none]) (su := []) rfl rfl ?_
  refine X_aload_n (pc' := 1) dX6_finish_0 rfl rfl ?_
  refine X_iconst (pc' := 2) dX6_finish_1 rfl ?_
  refine Y_put (k := 0) (j := 0) (v := 0) (pc' := 5) dX6_finish_2 rfl FX6_51 (zlN hN (by decide)) (congrArg Prod.fst (sh151 ln)) (fun r hr => by cases hr; rfl) (xFit_int _) rfl rfl ?_
  obtain ⟨z1, e1, hz1, h⟩ := zl_some (P := okz) h (okz_up hz (inR_c (n := 0) rfl))
  rw [e1]
  refine X_aload_n (pc' := 6) dX6_finish_5 rfl rfl ?_
  refine X_aload_n (pc' := 7) dX6_finish_6 rfl rfl ?_
  refine X_iload_n (pc' := 8) dX6_finish_7 rfl rfl ?_
  obtain ⟨r2, q2, h⟩ := bs h
  refine Y_callV [.int (iN (v1))] (pc' := 11) dX6_finish_8 rfl VX6_277 (by decide) (zlN hN (by decide)) (congrArg Prod.fst (sh151 ln)) rfl rfl rfl (cs rfl) (cs rfl) rfl (CX6_isCourse hN hz1 rv1 q2) (Nat.zero_add _).symm (Nat.zero_add _).symm (fun f2 => ?_)
  refine X_iconst (pc' := 12) dX6_finish_11 rfl ?_
  obtain ⟨⟨r3, z3⟩, q3, h⟩ := bs h
  refine Y_callV [.int (iN (r2)), .int (iN (1))] (pc' := 15) dX6_finish_12 rfl VX6_62 (by decide) (zlN hN (by decide)) (congrArg Prod.fst (sh151 ln)) rfl rfl rfl (cs rfl) (cs rfl) rfl (CX6_fails hN hz1 (inR_b f2) (inR_c (n := 1) rfl) q3) (Nat.zero_add _).symm (Nat.zero_add _).symm (fun f3 => ?_)
  refine X_if_eq dX6_finish_15 (tgt := 20) rfl (pc' := 18) rfl (inR_b f3.1) (fun c4 => ?_) (fun c4 => ?_)
  · have h := if_t c4 h
    refine X_aload_n (pc' := 21) dX6_finish_20 rfl rfl ?_
    obtain ⟨z5, q5, h⟩ := bs h
    refine Y_callVv [] (pc' := 24) dX6_finish_21 rfl VX6_229 (by decide) (zlN hN (by decide)) (congrArg Prod.fst (sh151 ln)) rfl rfl rfl (cs rfl) (cs rfl) rfl (CX6_record hN f3.2 q5) (Nat.zero_add _).symm (Nat.zero_add _).symm (fun f5 => ?_)
    refine X_iconst (pc' := 25) dX6_finish_24 rfl ?_
    refine X_istore_n (pc' := 26) dX6_finish_25 rfl (cl rfl) (Or.inr rfl) (L' := [some (.ref (151)), some (.int (iN (v1))), some (.int (iN (v2))), some (.int (iN (0))), none]) rfl ?_
    refine X_iconst (pc' := 27) dX6_finish_26 rfl ?_
    refine X_istore (pc' := 29) dX6_finish_27 rfl (cl rfl) (Or.inr rfl) (L' := [some (.ref (151)), some (.int (iN (v1))), some (.int (iN (v2))), some (.int (iN (0))), some (.int (iN (0)))]) rfl ?_
    obtain ⟨⟨x6_v3, x6_z⟩, q6, h⟩ := bs h
    refine X_sub (sub_s (sub_s (sub_s (sub_s (sub_s sub_0))))) (LX6_finish_29 hN rv1 rv2 (fun x6_v3₁ x6_z₁ hh rx6_v3 hx6_z => ?_) FU _ _ _ (inR_c (n := 0) rfl) (inR_c (n := 0) rfl) f5 q6)
    cases hh
    refine X_iload_n (pc' := 96) dX6_finish_95 rfl rfl ?_
    cases h
    exact X_iret dX6_finish_96 rfl (k ⟨rx6_v3, hx6_z⟩)
  have h := if_f c4 h
  refine X_iconst (pc' := 19) dX6_finish_18 rfl ?_
  cases h
  exact X_iret dX6_finish_19 rfl (k ⟨(inR_c (n := 0) rfl), f3.2⟩)
def fX6_giveBack_b34 (v1 : Int) (s1 : Int) (z : ZZ) : Option (Int × ZZ) := (Option.bind (fX6_fails (s1) (2) z) fun q1 => match q1 with | (r1, z1) => (if (r1) = (0) then (Option.bind (fX6_record z1) fun z3 => (Option.bind (fX6_memberPart (v1) (3) z3) fun r4 => (Option.bind (fX6_setMember (v1) (3) ((-1)) z3) fun z5 => (Option.bind (fX6_setHarness (r4) (4) (0) z5) fun z6 => some (r4, z6))))) else some (0, z1)))
set_option maxRecDepth 100000 in
theorem BX6_giveBack_34 {ln N : Nat} {z : ZZ} {v1 : Int} {s1 : Int} {c9 s9 : Nat} {Φ : xRes → xS → Prop} (hN : 159 ≤ N ∧ N < 999999) (hz : okz z) (rv1 : inR v1) (rs1 : inR s1) {p : Int × ZZ} (h : fX6_giveBack_b34 v1 s1 z = some p) (k : Fin_wi Φ ln N p) : X mX6_giveBack 34 [some (.ref (151)), some (.int (iN (v1))), none] [.int (iN (s1)), .ref (151)] (zmk ln N z) c9 s9 Φ := by
  unfold fX6_giveBack_b34 at h
  refine X_iconst (pc' := 35) dX6_giveBack_34 rfl ?_
  obtain ⟨⟨r1, z1⟩, q1, h⟩ := bs h
  refine Y_callV [.int (iN (s1)), .int (iN (2))] (pc' := 38) dX6_giveBack_35 rfl VX6_62 (by decide) (zlN hN (by decide)) (congrArg Prod.fst (sh151 ln)) rfl rfl rfl (cs rfl) (cs rfl) rfl (CX6_fails hN hz rs1 (inR_c (n := 2) rfl) q1) (Nat.zero_add _).symm (Nat.zero_add _).symm (fun f1 => ?_)
  refine X_if_eq dX6_giveBack_38 (tgt := 43) rfl (pc' := 41) rfl (inR_b f1.1) (fun c2 => ?_) (fun c2 => ?_)
  · have h := if_t c2 h
    refine X_aload_n (pc' := 44) dX6_giveBack_43 rfl rfl ?_
    obtain ⟨z3, q3, h⟩ := bs h
    refine Y_callVv [] (pc' := 47) dX6_giveBack_44 rfl VX6_229 (by decide) (zlN hN (by decide)) (congrArg Prod.fst (sh151 ln)) rfl rfl rfl (cs rfl) (cs rfl) rfl (CX6_record hN f1.2 q3) (Nat.zero_add _).symm (Nat.zero_add _).symm (fun f3 => ?_)
    refine X_aload_n (pc' := 48) dX6_giveBack_47 rfl rfl ?_
    refine X_iload_n (pc' := 49) dX6_giveBack_48 rfl rfl ?_
    refine X_iconst (pc' := 50) dX6_giveBack_49 rfl ?_
    obtain ⟨r4, q4, h⟩ := bs h
    refine Y_callV [.int (iN (v1)), .int (iN (3))] (pc' := 53) dX6_giveBack_50 rfl VX6_207 (by decide) (zlN hN (by decide)) (congrArg Prod.fst (sh151 ln)) rfl rfl rfl (cs rfl) (cs rfl) rfl (CX6_memberPart hN f3 rv1 (inR_c (n := 3) rfl) q4) (Nat.zero_add _).symm (Nat.zero_add _).symm (fun f4 => ?_)
    refine X_istore_n (pc' := 54) dX6_giveBack_53 rfl (cl rfl) (Or.inr rfl) (L' := [some (.ref (151)), some (.int (iN (v1))), some (.int (iN (r4)))]) rfl ?_
    refine X_aload_n (pc' := 55) dX6_giveBack_54 rfl rfl ?_
    refine X_iload_n (pc' := 56) dX6_giveBack_55 rfl rfl ?_
    refine X_iconst (pc' := 57) dX6_giveBack_56 rfl ?_
    refine X_iconst (pc' := 58) dX6_giveBack_57 rfl ?_
    obtain ⟨z5, q5, h⟩ := bs h
    refine Y_callVv [.int (iN (v1)), .int (iN (3)), .int (iN ((-1)))] (pc' := 61) dX6_giveBack_58 rfl VX6_250 (by decide) (zlN hN (by decide)) (congrArg Prod.fst (sh151 ln)) rfl rfl rfl (cs rfl) (cs rfl) rfl (CX6_setMember hN f3 rv1 (inR_c (n := 3) rfl) (inR_c (n := (-1)) rfl) q5) (Nat.zero_add _).symm (Nat.zero_add _).symm (fun f5 => ?_)
    refine X_aload_n (pc' := 62) dX6_giveBack_61 rfl rfl ?_
    refine X_iload_n (pc' := 63) dX6_giveBack_62 rfl rfl ?_
    refine X_iconst (pc' := 64) dX6_giveBack_63 rfl ?_
    refine X_iconst (pc' := 65) dX6_giveBack_64 rfl ?_
    obtain ⟨z6, q6, h⟩ := bs h
    refine Y_callVv [.int (iN (r4)), .int (iN (4)), .int (iN (0))] (pc' := 68) dX6_giveBack_65 rfl VX6_265 (by decide) (zlN hN (by decide)) (congrArg Prod.fst (sh151 ln)) rfl rfl rfl (cs rfl) (cs rfl) rfl (CX6_setHarness hN f5 f4 (inR_c (n := 4) rfl) (inR_c (n := 0) rfl) q6) (Nat.zero_add _).symm (Nat.zero_add _).symm (fun f6 => ?_)
    refine X_iload_n (pc' := 69) dX6_giveBack_68 rfl rfl ?_
    cases h
    exact X_iret dX6_giveBack_69 rfl (k ⟨f4, f6⟩)
  have h := if_f c2 h
  refine X_iconst (pc' := 42) dX6_giveBack_41 rfl ?_
  cases h
  exact X_iret dX6_giveBack_42 rfl (k ⟨(inR_c (n := 0) rfl), f1.2⟩)
def fX6_giveBack (v1 : Int) (z : ZZ) : Option (Int × ZZ) := (zl (zup z 151 0 (0)) fun z1 => (Option.bind (fX6_isMember (v1) z1) fun r2 => (Option.bind (fX6_fails (r2) (1) z1) fun q3 => match q3 with | (r3, z3) => (if (r3) = (0) then (Option.bind (fX6_memberPart (v1) (3) z3) fun r5 => (if (r5) = ((-1)) then fX6_giveBack_b34 (v1) (0) z3 else fX6_giveBack_b34 (v1) (1) z3)) else some (0, z3)))))
set_option maxRecDepth 100000 in
theorem CX6_giveBack {ln N : Nat} {z : ZZ} {v1 : Int} (hN : 159 ≤ N ∧ N < 999999) (hz : okz z) (rv1 : inR v1) {p : Int × ZZ} (h : fX6_giveBack v1 z = some p) : X mX6_giveBack 0 (xEnt [.ref (151), .int (iN (v1))] (xL mX6_giveBack)) [] (zmk ln N z) (cc_wi p) (6 * cc_wi p) (Qd (fa_wi p) (rs_wi p) (st_wi ln N p)) := by
  have k : Fin_wi (Qd (fa_wi p) (rs_wi p) (st_wi ln N p)) ln N p := Fin_wi_i
  unfold fX6_giveBack at h
  refine X_to (M := [some (.ref (151)), some (.int (iN (v1))), none]) (su := []) rfl rfl ?_
  refine X_aload_n (pc' := 1) dX6_giveBack_0 rfl rfl ?_
  refine X_iconst (pc' := 2) dX6_giveBack_1 rfl ?_
  refine Y_put (k := 0) (j := 0) (v := 0) (pc' := 5) dX6_giveBack_2 rfl FX6_51 (zlN hN (by decide)) (congrArg Prod.fst (sh151 ln)) (fun r hr => by cases hr; rfl) (xFit_int _) rfl rfl ?_
  obtain ⟨z1, e1, hz1, h⟩ := zl_some (P := okz) h (okz_up hz (inR_c (n := 0) rfl))
  rw [e1]
  refine X_aload_n (pc' := 6) dX6_giveBack_5 rfl rfl ?_
  refine X_aload_n (pc' := 7) dX6_giveBack_6 rfl rfl ?_
  refine X_iload_n (pc' := 8) dX6_giveBack_7 rfl rfl ?_
  obtain ⟨r2, q2, h⟩ := bs h
  refine Y_callV [.int (iN (v1))] (pc' := 11) dX6_giveBack_8 rfl VX6_244 (by decide) (zlN hN (by decide)) (congrArg Prod.fst (sh151 ln)) rfl rfl rfl (cs rfl) (cs rfl) rfl (CX6_isMember hN hz1 rv1 q2) (Nat.zero_add _).symm (Nat.zero_add _).symm (fun f2 => ?_)
  refine X_iconst (pc' := 12) dX6_giveBack_11 rfl ?_
  obtain ⟨⟨r3, z3⟩, q3, h⟩ := bs h
  refine Y_callV [.int (iN (r2)), .int (iN (1))] (pc' := 15) dX6_giveBack_12 rfl VX6_62 (by decide) (zlN hN (by decide)) (congrArg Prod.fst (sh151 ln)) rfl rfl rfl (cs rfl) (cs rfl) rfl (CX6_fails hN hz1 (inR_b f2) (inR_c (n := 1) rfl) q3) (Nat.zero_add _).symm (Nat.zero_add _).symm (fun f3 => ?_)
  refine X_if_ne dX6_giveBack_15 (tgt := 41) rfl (pc' := 18) rfl (inR_b f3.1) (fun c4 => ?_) (fun c4 => ?_)
  · have h := if_f c4 h
    refine X_iconst (pc' := 42) dX6_giveBack_41 rfl ?_
    cases h
    exact X_iret dX6_giveBack_42 rfl (k ⟨(inR_c (n := 0) rfl), f3.2⟩)
  have h := if_t c4 h
  refine X_aload_n (pc' := 19) dX6_giveBack_18 rfl rfl ?_
  refine X_aload_n (pc' := 20) dX6_giveBack_19 rfl rfl ?_
  refine X_iload_n (pc' := 21) dX6_giveBack_20 rfl rfl ?_
  refine X_iconst (pc' := 22) dX6_giveBack_21 rfl ?_
  obtain ⟨r5, q5, h⟩ := bs h
  refine Y_callV [.int (iN (v1)), .int (iN (3))] (pc' := 25) dX6_giveBack_22 rfl VX6_207 (by decide) (zlN hN (by decide)) (congrArg Prod.fst (sh151 ln)) rfl rfl rfl (cs rfl) (cs rfl) rfl (CX6_memberPart hN f3.2 rv1 (inR_c (n := 3) rfl) q5) (Nat.zero_add _).symm (Nat.zero_add _).symm (fun f5 => ?_)
  refine X_iconst (pc' := 26) dX6_giveBack_25 rfl ?_
  refine X_icmp_eq dX6_giveBack_26 (tgt := 33) rfl (pc' := 29) rfl ⟨f5.1, f5.2, (inR_c (n := (-1)) rfl).1, (inR_c (n := (-1)) rfl).2⟩ (fun c6 => ?_) (fun c6 => ?_)
  · have h := if_t c6 h
    refine X_iconst (pc' := 34) dX6_giveBack_33 rfl ?_
    exact X_sub (sub_s (sub_s (sub_n sub_0))) (BX6_giveBack_34 hN f3.2 rv1 (inR_c (n := 0) rfl) h k)
  have h := if_f c6 h
  refine X_iconst (pc' := 30) dX6_giveBack_29 rfl ?_
  refine X_goto dX6_giveBack_30 (tgt := 34) rfl ?_
  exact X_sub (sub_s (sub_s (sub_n sub_0))) (BX6_giveBack_34 hN f3.2 rv1 (inR_c (n := 1) rfl) h k)
def fX6_grade (v1 : Int) (z : ZZ) : Option (Int × ZZ) := (zl (zup z 151 0 (0)) fun z1 => (Option.bind (fX6_isRoute (v1) z1) fun r2 => (Option.bind (fX6_fails (r2) (1) z1) fun q3 => match q3 with | (r3, z3) => (if (r3) = (0) then (Option.bind (fX6_gradeOf (v1) z3) fun q5 => match q5 with | (r5, z5) => some (r5, z5)) else some (0, z3)))))
set_option maxRecDepth 100000 in
theorem CX6_grade {ln N : Nat} {z : ZZ} {v1 : Int} (hN : 159 ≤ N ∧ N < 999999) (hz : okz z) (rv1 : inR v1) {p : Int × ZZ} (h : fX6_grade v1 z = some p) : X mX6_grade 0 (xEnt [.ref (151), .int (iN (v1))] (xL mX6_grade)) [] (zmk ln N z) (cc_wi p) (6 * cc_wi p) (Qd (fa_wi p) (rs_wi p) (st_wi ln N p)) := by
  have k : Fin_wi (Qd (fa_wi p) (rs_wi p) (st_wi ln N p)) ln N p := Fin_wi_i
  unfold fX6_grade at h
  refine X_to (M := [some (.ref (151)), some (.int (iN (v1)))]) (su := []) rfl rfl ?_
  refine X_aload_n (pc' := 1) dX6_grade_0 rfl rfl ?_
  refine X_iconst (pc' := 2) dX6_grade_1 rfl ?_
  refine Y_put (k := 0) (j := 0) (v := 0) (pc' := 5) dX6_grade_2 rfl FX6_51 (zlN hN (by decide)) (congrArg Prod.fst (sh151 ln)) (fun r hr => by cases hr; rfl) (xFit_int _) rfl rfl ?_
  obtain ⟨z1, e1, hz1, h⟩ := zl_some (P := okz) h (okz_up hz (inR_c (n := 0) rfl))
  rw [e1]
  refine X_aload_n (pc' := 6) dX6_grade_5 rfl rfl ?_
  refine X_aload_n (pc' := 7) dX6_grade_6 rfl rfl ?_
  refine X_iload_n (pc' := 8) dX6_grade_7 rfl rfl ?_
  obtain ⟨r2, q2, h⟩ := bs h
  refine Y_callV [.int (iN (v1))] (pc' := 11) dX6_grade_8 rfl VX6_238 (by decide) (zlN hN (by decide)) (congrArg Prod.fst (sh151 ln)) rfl rfl rfl (cs rfl) (cs rfl) rfl (CX6_isRoute hN hz1 rv1 q2) (Nat.zero_add _).symm (Nat.zero_add _).symm (fun f2 => ?_)
  refine X_iconst (pc' := 12) dX6_grade_11 rfl ?_
  obtain ⟨⟨r3, z3⟩, q3, h⟩ := bs h
  refine Y_callV [.int (iN (r2)), .int (iN (1))] (pc' := 15) dX6_grade_12 rfl VX6_62 (by decide) (zlN hN (by decide)) (congrArg Prod.fst (sh151 ln)) rfl rfl rfl (cs rfl) (cs rfl) rfl (CX6_fails hN hz1 (inR_b f2) (inR_c (n := 1) rfl) q3) (Nat.zero_add _).symm (Nat.zero_add _).symm (fun f3 => ?_)
  refine X_if_eq dX6_grade_15 (tgt := 22) rfl (pc' := 18) rfl (inR_b f3.1) (fun c4 => ?_) (fun c4 => ?_)
  · have h := if_t c4 h
    refine X_aload_n (pc' := 23) dX6_grade_22 rfl rfl ?_
    refine X_iload_n (pc' := 24) dX6_grade_23 rfl rfl ?_
    obtain ⟨⟨r5, z5⟩, q5, h⟩ := bs h
    refine Y_callV [.int (iN (v1))] (pc' := 27) dX6_grade_24 rfl VX6_232 (by decide) (zlN hN (by decide)) (congrArg Prod.fst (sh151 ln)) rfl rfl rfl (cs rfl) (cs rfl) rfl (CX6_gradeOf hN f3.2 rv1 q5) (Nat.zero_add _).symm (Nat.zero_add _).symm (fun f5 => ?_)
    cases h
    exact X_iret dX6_grade_27 rfl (k ⟨f5.1, f5.2⟩)
  have h := if_f c4 h
  refine X_iconst (pc' := 19) dX6_grade_18 rfl ?_
  refine X_goto dX6_grade_19 (tgt := 27) rfl ?_
  cases h
  exact X_iret dX6_grade_27 rfl (k ⟨(inR_c (n := 0) rfl), f3.2⟩)
def fX6_isGrade (v0 : Int) (z : ZZ) : Option (Int) := (Option.bind (fX6_in (v0) (0) (29) z) fun r1 => some (r1))
set_option maxRecDepth 100000 in
theorem CX6_isGrade {ln N : Nat} {z : ZZ} {v0 : Int} (hN : 159 ≤ N ∧ N < 999999) (hz : okz z) (rv0 : inR v0) {p : Int} (h : fX6_isGrade v0 z = some p) : X mX6_isGrade 0 (xEnt [.int (iN (v0))] (xL mX6_isGrade)) [] (zmk ln N z) (cc_b p) (6 * cc_b p) (Qd (fa_b p) (rs_b p) (st_b ln N z p)) := by
  have k : Fin_b (Qd (fa_b p) (rs_b p) (st_b ln N z p)) ln N z p := Fin_b_i
  unfold fX6_isGrade at h
  refine X_to (M := [some (.int (iN (v0)))]) (su := []) rfl rfl ?_
  refine X_iload_n (pc' := 1) dX6_isGrade_0 rfl rfl ?_
  refine X_lI_i2l (pc' := 2) dX6_isGrade_1 rfl rv0 ?_
  refine X_lI_const (pc' := 3) dX6_isGrade_2 rfl (a := 0) rfl ?_
  refine X_ldc2 (pc' := 6) dX6_isGrade_3 rfl tq1333 (n := 29) rfl ?_
  obtain ⟨r1, q1, h⟩ := bs h
  refine Y_callS [.long (lI (v0)), .long (lI (0)), .long (lI (29))] (pc' := 9) dX6_isGrade_6 rfl SX6_66 (by decide) rfl (cs rfl) (cs rfl) rfl (CX6_in hN hz (inL_R rv0) (inL_c (n := 0) rfl) (inL_c (n := 29) rfl) q1) (Nat.zero_add _).symm (Nat.zero_add _).symm (fun f1 => ?_)
  cases h
  exact X_zret dX6_isGrade_9 rfl f1 (k f1)
def fX6_gradeWith_b43 (v1 : Int) (v2 : Int) (v3 : Int) (s1 : Int) (z : ZZ) : Option (Int × ZZ) := (Option.bind (fX6_fails (s1) (2) z) fun q1 => match q1 with | (r1, z1) => (if (r1) = (0) then (Option.bind (fX6_gradeBy (v1) (v2) (v3) z1) fun q3 => match q3 with | (r3, z3) => some (r3, z3)) else some (0, z1)))
set_option maxRecDepth 100000 in
theorem BX6_gradeWith_43 {ln N : Nat} {z : ZZ} {v1 : Int} {v2 : Int} {v3 : Int} {s1 : Int} {c9 s9 : Nat} {Φ : xRes → xS → Prop} (hN : 159 ≤ N ∧ N < 999999) (hz : okz z) (rv1 : inR v1) (rv2 : inR v2) (rv3 : inR v3) (rs1 : inR s1) {p : Int × ZZ} (h : fX6_gradeWith_b43 v1 v2 v3 s1 z = some p) (k : Fin_wi Φ ln N p) : X mX6_gradeWith 43 [some (.ref (151)), some (.int (iN (v1))), some (.int (iN (v2))), some (.int (iN (v3)))] [.int (iN (s1)), .ref (151)] (zmk ln N z) c9 s9 Φ := by
  unfold fX6_gradeWith_b43 at h
  refine X_iconst (pc' := 44) dX6_gradeWith_43 rfl ?_
  obtain ⟨⟨r1, z1⟩, q1, h⟩ := bs h
  refine Y_callV [.int (iN (s1)), .int (iN (2))] (pc' := 47) dX6_gradeWith_44 rfl VX6_62 (by decide) (zlN hN (by decide)) (congrArg Prod.fst (sh151 ln)) rfl rfl rfl (cs rfl) (cs rfl) rfl (CX6_fails hN hz rs1 (inR_c (n := 2) rfl) q1) (Nat.zero_add _).symm (Nat.zero_add _).symm (fun f1 => ?_)
  refine X_if_eq dX6_gradeWith_47 (tgt := 52) rfl (pc' := 50) rfl (inR_b f1.1) (fun c2 => ?_) (fun c2 => ?_)
  · have h := if_t c2 h
    refine X_aload_n (pc' := 53) dX6_gradeWith_52 rfl rfl ?_
    refine X_iload_n (pc' := 54) dX6_gradeWith_53 rfl rfl ?_
    refine X_iload_n (pc' := 55) dX6_gradeWith_54 rfl rfl ?_
    refine X_iload_n (pc' := 56) dX6_gradeWith_55 rfl rfl ?_
    obtain ⟨⟨r3, z3⟩, q3, h⟩ := bs h
    refine Y_callV [.int (iN (v1)), .int (iN (v2)), .int (iN (v3))] (pc' := 59) dX6_gradeWith_56 rfl VX6_189 (by decide) (zlN hN (by decide)) (congrArg Prod.fst (sh151 ln)) rfl rfl rfl (cs rfl) (cs rfl) rfl (CX6_gradeBy hN f1.2 rv1 rv2 rv3 q3) (Nat.zero_add _).symm (Nat.zero_add _).symm (fun f3 => ?_)
    cases h
    exact X_iret dX6_gradeWith_59 rfl (k ⟨f3.1, f3.2⟩)
  have h := if_f c2 h
  refine X_iconst (pc' := 51) dX6_gradeWith_50 rfl ?_
  cases h
  exact X_iret dX6_gradeWith_51 rfl (k ⟨(inR_c (n := 0) rfl), f1.2⟩)
def fX6_gradeWith_b42 (v1 : Int) (v2 : Int) (v3 : Int) (z : ZZ) : Option (Int × ZZ) := fX6_gradeWith_b43 (v1) (v2) (v3) (0) z
set_option maxRecDepth 100000 in
theorem BX6_gradeWith_42 {ln N : Nat} {z : ZZ} {v1 : Int} {v2 : Int} {v3 : Int} {c9 s9 : Nat} {Φ : xRes → xS → Prop} (hN : 159 ≤ N ∧ N < 999999) (hz : okz z) (rv1 : inR v1) (rv2 : inR v2) (rv3 : inR v3) {p : Int × ZZ} (h : fX6_gradeWith_b42 v1 v2 v3 z = some p) (k : Fin_wi Φ ln N p) : X mX6_gradeWith 42 [some (.ref (151)), some (.int (iN (v1))), some (.int (iN (v2))), some (.int (iN (v3)))] [.ref (151)] (zmk ln N z) c9 s9 Φ := by
  unfold fX6_gradeWith_b42 at h
  refine X_iconst (pc' := 43) dX6_gradeWith_42 rfl ?_
  exact X_sub (sub_s (sub_s (sub_s (sub_s sub_0)))) (BX6_gradeWith_43 hN hz rv1 rv2 rv3 (inR_c (n := 0) rfl) h k)
def fX6_gradeWith (v1 : Int) (v2 : Int) (v3 : Int) (z : ZZ) : Option (Int × ZZ) := (zl (zup z 151 0 (0)) fun z1 => (Option.bind (fX6_isRoute (v1) z1) fun r2 => (Option.bind (fX6_fails (r2) (1) z1) fun q3 => match q3 with | (r3, z3) => (if (r3) = (0) then (Option.bind (fX6_isGrade (v2) z3) fun r5 => (if (r5) = (0) then fX6_gradeWith_b42 (v1) (v2) (v3) z3 else (Option.bind (fX6_in (v3) (1) (20) z3) fun r7 => (if (r7) = (0) then fX6_gradeWith_b42 (v1) (v2) (v3) z3 else fX6_gradeWith_b43 (v1) (v2) (v3) (1) z3)))) else some (0, z3)))))
set_option maxRecDepth 100000 in
theorem CX6_gradeWith {ln N : Nat} {z : ZZ} {v1 : Int} {v2 : Int} {v3 : Int} (hN : 159 ≤ N ∧ N < 999999) (hz : okz z) (rv1 : inR v1) (rv2 : inR v2) (rv3 : inR v3) {p : Int × ZZ} (h : fX6_gradeWith v1 v2 v3 z = some p) : X mX6_gradeWith 0 (xEnt [.ref (151), .int (iN (v1)), .int (iN (v2)), .int (iN (v3))] (xL mX6_gradeWith)) [] (zmk ln N z) (cc_wi p) (6 * cc_wi p) (Qd (fa_wi p) (rs_wi p) (st_wi ln N p)) := by
  have k : Fin_wi (Qd (fa_wi p) (rs_wi p) (st_wi ln N p)) ln N p := Fin_wi_i
  unfold fX6_gradeWith at h
  refine X_to (M := [some (.ref (151)), some (.int (iN (v1))), some (.int (iN (v2))), some (.int (iN (v3)))]) (su := []) rfl rfl ?_
  refine X_aload_n (pc' := 1) dX6_gradeWith_0 rfl rfl ?_
  refine X_iconst (pc' := 2) dX6_gradeWith_1 rfl ?_
  refine Y_put (k := 0) (j := 0) (v := 0) (pc' := 5) dX6_gradeWith_2 rfl FX6_51 (zlN hN (by decide)) (congrArg Prod.fst (sh151 ln)) (fun r hr => by cases hr; rfl) (xFit_int _) rfl rfl ?_
  obtain ⟨z1, e1, hz1, h⟩ := zl_some (P := okz) h (okz_up hz (inR_c (n := 0) rfl))
  rw [e1]
  refine X_aload_n (pc' := 6) dX6_gradeWith_5 rfl rfl ?_
  refine X_aload_n (pc' := 7) dX6_gradeWith_6 rfl rfl ?_
  refine X_iload_n (pc' := 8) dX6_gradeWith_7 rfl rfl ?_
  obtain ⟨r2, q2, h⟩ := bs h
  refine Y_callV [.int (iN (v1))] (pc' := 11) dX6_gradeWith_8 rfl VX6_238 (by decide) (zlN hN (by decide)) (congrArg Prod.fst (sh151 ln)) rfl rfl rfl (cs rfl) (cs rfl) rfl (CX6_isRoute hN hz1 rv1 q2) (Nat.zero_add _).symm (Nat.zero_add _).symm (fun f2 => ?_)
  refine X_iconst (pc' := 12) dX6_gradeWith_11 rfl ?_
  obtain ⟨⟨r3, z3⟩, q3, h⟩ := bs h
  refine Y_callV [.int (iN (r2)), .int (iN (1))] (pc' := 15) dX6_gradeWith_12 rfl VX6_62 (by decide) (zlN hN (by decide)) (congrArg Prod.fst (sh151 ln)) rfl rfl rfl (cs rfl) (cs rfl) rfl (CX6_fails hN hz1 (inR_b f2) (inR_c (n := 1) rfl) q3) (Nat.zero_add _).symm (Nat.zero_add _).symm (fun f3 => ?_)
  refine X_if_ne dX6_gradeWith_15 (tgt := 50) rfl (pc' := 18) rfl (inR_b f3.1) (fun c4 => ?_) (fun c4 => ?_)
  · have h := if_f c4 h
    refine X_iconst (pc' := 51) dX6_gradeWith_50 rfl ?_
    cases h
    exact X_iret dX6_gradeWith_51 rfl (k ⟨(inR_c (n := 0) rfl), f3.2⟩)
  have h := if_t c4 h
  refine X_aload_n (pc' := 19) dX6_gradeWith_18 rfl rfl ?_
  refine X_iload_n (pc' := 20) dX6_gradeWith_19 rfl rfl ?_
  obtain ⟨r5, q5, h⟩ := bs h
  refine Y_callS [.int (iN (v2))] (pc' := 23) dX6_gradeWith_20 rfl SX6_223 (by decide) rfl (cs rfl) (cs rfl) rfl (CX6_isGrade hN f3.2 rv2 q5) (Nat.zero_add _).symm (Nat.zero_add _).symm (fun f5 => ?_)
  refine X_if_eq dX6_gradeWith_23 (tgt := 42) rfl (pc' := 26) rfl (inR_b f5) (fun c6 => ?_) (fun c6 => ?_)
  · have h := if_t c6 h
    exact X_sub (sub_s (sub_s (sub_s (sub_s sub_0)))) (BX6_gradeWith_42 hN f3.2 rv1 rv2 rv3 h k)
  have h := if_f c6 h
  refine X_iload_n (pc' := 27) dX6_gradeWith_26 rfl rfl ?_
  refine X_lI_i2l (pc' := 28) dX6_gradeWith_27 rfl rv3 ?_
  refine X_lI_const (pc' := 29) dX6_gradeWith_28 rfl (a := 1) rfl ?_
  refine X_ldc2 (pc' := 32) dX6_gradeWith_29 rfl tq1585 (n := 20) rfl ?_
  obtain ⟨r7, q7, h⟩ := bs h
  refine Y_callS [.long (lI (v3)), .long (lI (1)), .long (lI (20))] (pc' := 35) dX6_gradeWith_32 rfl SX6_66 (by decide) rfl (cs rfl) (cs rfl) rfl (CX6_in hN f3.2 (inL_R rv3) (inL_c (n := 1) rfl) (inL_c (n := 20) rfl) q7) (Nat.zero_add _).symm (Nat.zero_add _).symm (fun f7 => ?_)
  refine X_if_eq dX6_gradeWith_35 (tgt := 42) rfl (pc' := 38) rfl (inR_b f7) (fun c8 => ?_) (fun c8 => ?_)
  · have h := if_t c8 h
    exact X_sub (sub_s (sub_s (sub_s (sub_s sub_0)))) (BX6_gradeWith_42 hN f3.2 rv1 rv2 rv3 h k)
  have h := if_f c8 h
  refine X_iconst (pc' := 39) dX6_gradeWith_38 rfl ?_
  refine X_goto dX6_gradeWith_39 (tgt := 43) rfl ?_
  exact X_sub (sub_s (sub_s (sub_s (sub_s sub_0)))) (BX6_gradeWith_43 hN f3.2 rv1 rv2 rv3 (inR_c (n := 1) rfl) h k)
def fX6_isWall (v1 : Int) (z : ZZ) : Option (Int) := (if inR (((z 154 (4)) - 1)) then (Option.bind (fX6_in (v1) (0) (((z 154 (4)) - 1)) z) fun r2 => some (r2)) else none)
set_option maxRecDepth 100000 in
theorem CX6_isWall {ln N : Nat} {z : ZZ} {v1 : Int} (hN : 159 ≤ N ∧ N < 999999) (hz : okz z) (rv1 : inR v1) {p : Int} (h : fX6_isWall v1 z = some p) : X mX6_isWall 0 (xEnt [.ref (151), .int (iN (v1))] (xL mX6_isWall)) [] (zmk ln N z) (cc_b p) (6 * cc_b p) (Qd (fa_b p) (rs_b p) (st_b ln N z p)) := by
  have k : Fin_b (Qd (fa_b p) (rs_b p) (st_b ln N z p)) ln N z p := Fin_b_i
  unfold fX6_isWall at h
  refine X_to (M := [some (.ref (151)), some (.int (iN (v1)))]) (su := []) rfl rfl ?_
  refine X_iload_n (pc' := 1) dX6_isWall_0 rfl rfl ?_
  refine X_lI_i2l (pc' := 2) dX6_isWall_1 rfl rv1 ?_
  refine X_lI_const (pc' := 3) dX6_isWall_2 rfl (a := 0) rfl ?_
  refine X_aload_n (pc' := 4) dX6_isWall_3 rfl rfl ?_
  refine Y_get (pc' := 7) dX6_isWall_4 rfl FX6_16 (zlN hN (by decide)) (congrArg Prod.fst (sh151 ln)) (ct151_9 z) ?_
  refine X_iconst (pc' := 8) dX6_isWall_7 rfl ?_
  refine Y_iald (pc' := 9) dX6_isWall_8 rfl (zlN hN (by decide)) (sh154 ln) (by decide) ⟨by decide, by decide⟩ ?_
  refine X_iconst (pc' := 10) dX6_isWall_9 rfl ?_
  refine X_isub (pc' := 11) dX6_isWall_10 rfl ?_
  obtain ⟨g1, h⟩ := gs h
  refine X_lI_i2l (pc' := 12) dX6_isWall_11 rfl g1 ?_
  obtain ⟨r2, q2, h⟩ := bs h
  refine Y_callS [.long (lI (v1)), .long (lI (0)), .long (lI (((z 154 (4)) - 1)))] (pc' := 15) dX6_isWall_12 rfl SX6_66 (by decide) rfl (cs rfl) (cs rfl) rfl (CX6_in hN hz (inL_R rv1) (inL_c (n := 0) rfl) (inL_R g1) q2) (Nat.zero_add _).symm (Nat.zero_add _).symm (fun f2 => ?_)
  cases h
  exact X_zret dX6_isWall_15 rfl f2 (k f2)
def fX6_hardest_b74 (v1 : Int) (v2 : Int) (v3 : Int) (v4 : Int) (z : ZZ) : Option ((Int × Int × Int × ZZ) ⊕ (Int × ZZ)) := (if inR ((v4 + 1)) then some (.inl (v2, v3, (v4 + 1), z)) else none)
set_option maxRecDepth 100000 in
theorem BX6_hardest_74 {ln N : Nat} {z : ZZ} {v1 : Int} {v2 : Int} {v3 : Int} {v4 : Int} {c9 s9 : Nat} {Φ : xRes → xS → Prop} (hN : 159 ≤ N ∧ N < 999999) (hz : okz z) (rv1 : inR v1) (rv2 : inR v2) (rv3 : inR v3) (rv4 : inR v4) {p : (Int × Int × Int × ZZ) ⊕ (Int × ZZ)} (h : fX6_hardest_b74 v1 v2 v3 v4 z = some p) (k1 : ∀ (v2' : Int) (v3' : Int) (v4' : Int) (z' : ZZ), p = .inl (v2', v3', v4', z') → inR v2' → inR v3' → inR v4' → okz z' → X mX6_hardest 27 [some (.ref (151)), some (.int (iN (v1))), some (.int (iN (v2'))), some (.int (iN (v3'))), some (.int (iN (v4'))), none] [] (zmk ln N z') c9 s9 Φ) (k2 : ∀ (v2' : Int) (z' : ZZ), p = .inr (v2', z') → inR v2' → okz z' → X mX6_hardest 80 [some (.ref (151)), none, some (.int (iN (v2'))), none, none, none] [] (zmk ln N z') c9 s9 Φ) : X mX6_hardest 74 [some (.ref (151)), some (.int (iN (v1))), some (.int (iN (v2))), some (.int (iN (v3))), some (.int (iN (v4))), none] [] (zmk ln N z) c9 s9 Φ := by
  unfold fX6_hardest_b74 at h
  refine X_iinc (pc' := 77) dX6_hardest_74 rfl rfl (Or.inr rfl) (L' := [some (.ref (151)), some (.int (iN (v1))), some (.int (iN (v2))), some (.int (iN (v3))), some (.int (iN (v4 + 1))), none]) rfl ?_
  refine X_goto dX6_hardest_77 (tgt := 27) rfl ?_
  obtain ⟨g1, h⟩ := gs h
  cases h
  exact X_sub (sub_s (sub_s (sub_s (sub_s (sub_s (sub_n sub_0)))))) (k1 _ _ _ _ rfl rv2 rv3 g1 hz)
def fX6_hardest_b60 (v1 : Int) (v2 : Int) (v3 : Int) (v4 : Int) (s0 : Int) (z : ZZ) : Option ((Int × Int × Int × ZZ) ⊕ (Int × ZZ)) := (if (v3) < (s0) then fX6_hardest_b74 (v1) (v4) (s0) (v4) z else fX6_hardest_b74 (v1) (v2) (v3) (v4) z)
set_option maxRecDepth 100000 in
theorem BX6_hardest_60 {ln N : Nat} {z : ZZ} {v1 : Int} {v2 : Int} {v3 : Int} {v4 : Int} {s0 : Int} {c9 s9 : Nat} {Φ : xRes → xS → Prop} (hN : 159 ≤ N ∧ N < 999999) (hz : okz z) (rv1 : inR v1) (rv2 : inR v2) (rv3 : inR v3) (rv4 : inR v4) (rs0 : inR s0) {p : (Int × Int × Int × ZZ) ⊕ (Int × ZZ)} (h : fX6_hardest_b60 v1 v2 v3 v4 s0 z = some p) (k1 : ∀ (v2' : Int) (v3' : Int) (v4' : Int) (z' : ZZ), p = .inl (v2', v3', v4', z') → inR v2' → inR v3' → inR v4' → okz z' → X mX6_hardest 27 [some (.ref (151)), some (.int (iN (v1))), some (.int (iN (v2'))), some (.int (iN (v3'))), some (.int (iN (v4'))), none] [] (zmk ln N z') c9 s9 Φ) (k2 : ∀ (v2' : Int) (z' : ZZ), p = .inr (v2', z') → inR v2' → okz z' → X mX6_hardest 80 [some (.ref (151)), none, some (.int (iN (v2'))), none, none, none] [] (zmk ln N z') c9 s9 Φ) : X mX6_hardest 60 [some (.ref (151)), some (.int (iN (v1))), some (.int (iN (v2))), some (.int (iN (v3))), some (.int (iN (v4))), none] [.int (iN (s0))] (zmk ln N z) c9 s9 Φ := by
  unfold fX6_hardest_b60 at h
  refine X_istore (pc' := 62) dX6_hardest_60 rfl (cl rfl) (Or.inr rfl) (L' := [some (.ref (151)), some (.int (iN (v1))), some (.int (iN (v2))), some (.int (iN (v3))), some (.int (iN (v4))), some (.int (iN (s0)))]) rfl ?_
  refine X_iload (pc' := 64) dX6_hardest_62 rfl rfl ?_
  refine X_iload_n (pc' := 65) dX6_hardest_64 rfl rfl ?_
  refine X_icmp_le dX6_hardest_65 (tgt := 74) rfl (pc' := 68) rfl ⟨rs0.1, rs0.2, rv3.1, rv3.2⟩ (fun c1 => ?_) (fun c1 => ?_)
  · have h := if_f (Int.not_lt.mpr c1) h
    exact X_sub (sub_s (sub_s (sub_s (sub_s (sub_s (sub_n sub_0)))))) (BX6_hardest_74 hN hz rv1 rv2 rv3 rv4 h k1 k2)
  have h := if_t c1 h
  refine X_iload (pc' := 70) dX6_hardest_68 rfl rfl ?_
  refine X_istore_n (pc' := 71) dX6_hardest_70 rfl (cl rfl) (Or.inr rfl) (L' := [some (.ref (151)), some (.int (iN (v1))), some (.int (iN (v4))), some (.int (iN (v3))), some (.int (iN (v4))), some (.int (iN (s0)))]) rfl ?_
  refine X_iload (pc' := 73) dX6_hardest_71 rfl rfl ?_
  refine X_istore_n (pc' := 74) dX6_hardest_73 rfl (cl rfl) (Or.inr rfl) (L' := [some (.ref (151)), some (.int (iN (v1))), some (.int (iN (v4))), some (.int (iN (s0))), some (.int (iN (v4))), some (.int (iN (s0)))]) rfl ?_
  exact X_sub (sub_s (sub_s (sub_s (sub_s (sub_s (sub_n sub_0)))))) (BX6_hardest_74 hN hz rv1 rv4 rs0 rv4 h k1 k2)
def fX6_hardest_s27 (v1 : Int) (v2 : Int) (v3 : Int) (v4 : Int) (z : ZZ) : Option ((Int × Int × Int × ZZ) ⊕ (Int × ZZ)) := (if (v4) < ((z 154 (37))) then (Option.bind (fX6_routePart (v4) (0) z) fun r2 => (if (r2) = (v1) then (Option.bind (fX6_gradeOf (v4) z) fun q4 => match q4 with | (r4, z4) => fX6_hardest_b60 (v1) (v2) (v3) (v4) (r4) z4) else fX6_hardest_b60 (v1) (v2) (v3) (v4) ((-1)) z)) else some (.inr (v2, z)))
set_option maxRecDepth 100000 in
theorem SX6_hardest_27 {ln N : Nat} {z : ZZ} {v1 : Int} {v2 : Int} {v3 : Int} {v4 : Int} {c9 s9 : Nat} {Φ : xRes → xS → Prop} (hN : 159 ≤ N ∧ N < 999999) (hz : okz z) (rv1 : inR v1) (rv2 : inR v2) (rv3 : inR v3) (rv4 : inR v4) {p : (Int × Int × Int × ZZ) ⊕ (Int × ZZ)} (h : fX6_hardest_s27 v1 v2 v3 v4 z = some p) (k1 : ∀ (v2' : Int) (v3' : Int) (v4' : Int) (z' : ZZ), p = .inl (v2', v3', v4', z') → inR v2' → inR v3' → inR v4' → okz z' → X mX6_hardest 27 [some (.ref (151)), some (.int (iN (v1))), some (.int (iN (v2'))), some (.int (iN (v3'))), some (.int (iN (v4'))), none] [] (zmk ln N z') c9 s9 Φ) (k2 : ∀ (v2' : Int) (z' : ZZ), p = .inr (v2', z') → inR v2' → okz z' → X mX6_hardest 80 [some (.ref (151)), none, some (.int (iN (v2'))), none, none, none] [] (zmk ln N z') c9 s9 Φ) : X mX6_hardest 27 [some (.ref (151)), some (.int (iN (v1))), some (.int (iN (v2))), some (.int (iN (v3))), some (.int (iN (v4))), none] [] (zmk ln N z) c9 s9 Φ := by
  unfold fX6_hardest_s27 at h
  refine X_iload (pc' := 29) dX6_hardest_27 rfl rfl ?_
  refine X_aload_n (pc' := 30) dX6_hardest_29 rfl rfl ?_
  refine Y_get (pc' := 33) dX6_hardest_30 rfl FX6_16 (zlN hN (by decide)) (congrArg Prod.fst (sh151 ln)) (ct151_9 z) ?_
  refine X_bipush (pc' := 35) dX6_hardest_33 rfl (by decide) ?_
  refine Y_iald (pc' := 36) dX6_hardest_35 rfl (zlN hN (by decide)) (sh154 ln) (by decide) ⟨by decide, by decide⟩ ?_
  refine X_icmp_ge dX6_hardest_36 (tgt := 80) rfl (pc' := 39) rfl ⟨rv4.1, rv4.2, (hz 154 (37) (by decide)).1, (hz 154 (37) (by decide)).2⟩ (fun c1 => ?_) (fun c1 => ?_)
  · have h := if_f (Int.not_lt.mpr c1) h
    cases h
    exact X_sub (sub_s (sub_n (sub_s (sub_n (sub_n (sub_n sub_0)))))) (k2 _ _ rfl rv2 hz)
  have h := if_t c1 h
  refine X_aload_n (pc' := 40) dX6_hardest_39 rfl rfl ?_
  refine X_iload (pc' := 42) dX6_hardest_40 rfl rfl ?_
  refine X_iconst (pc' := 43) dX6_hardest_42 rfl ?_
  obtain ⟨r2, q2, h⟩ := bs h
  refine Y_callV [.int (iN (v4)), .int (iN (0))] (pc' := 46) dX6_hardest_43 rfl VX6_163 (by decide) (zlN hN (by decide)) (congrArg Prod.fst (sh151 ln)) rfl rfl rfl (cs rfl) (cs rfl) rfl (CX6_routePart hN hz rv4 (inR_c (n := 0) rfl) q2) (Nat.zero_add _).symm (Nat.zero_add _).symm (fun f2 => ?_)
  refine X_iload_n (pc' := 47) dX6_hardest_46 rfl rfl ?_
  refine X_icmp_ne dX6_hardest_47 (tgt := 59) rfl (pc' := 50) rfl ⟨f2.1, f2.2, rv1.1, rv1.2⟩ (fun c3 => ?_) (fun c3 => ?_)
  · have h := if_f c3 h
    refine X_iconst (pc' := 60) dX6_hardest_59 rfl ?_
    exact X_sub (sub_s (sub_s (sub_s (sub_s (sub_s (sub_n sub_0)))))) (BX6_hardest_60 hN hz rv1 rv2 rv3 rv4 (inR_c (n := (-1)) rfl) h k1 k2)
  have h := if_t c3 h
  refine X_aload_n (pc' := 51) dX6_hardest_50 rfl rfl ?_
  refine X_iload (pc' := 53) dX6_hardest_51 rfl rfl ?_
  obtain ⟨⟨r4, z4⟩, q4, h⟩ := bs h
  refine Y_callV [.int (iN (v4))] (pc' := 56) dX6_hardest_53 rfl VX6_232 (by decide) (zlN hN (by decide)) (congrArg Prod.fst (sh151 ln)) rfl rfl rfl (cs rfl) (cs rfl) rfl (CX6_gradeOf hN hz rv4 q4) (Nat.zero_add _).symm (Nat.zero_add _).symm (fun f4 => ?_)
  refine X_goto dX6_hardest_56 (tgt := 60) rfl ?_
  exact X_sub (sub_s (sub_s (sub_s (sub_s (sub_s (sub_n sub_0)))))) (BX6_hardest_60 hN f4.2 rv1 rv2 rv3 rv4 f4.1 h k1 k2)
theorem LX6_hardest_27 {ln N : Nat} {v1 : Int} {c9 s9 : Nat} {Φ : xRes → xS → Prop} (hN : 159 ≤ N ∧ N < 999999) (rv1 : inR v1) {r : Int × ZZ} (k2 : ∀ (v2' : Int) (z' : ZZ), r = (v2', z') → inR v2' → okz z' → X mX6_hardest 80 [some (.ref (151)), none, some (.int (iN (v2'))), none, none, none] [] (zmk ln N z') c9 s9 Φ) : ∀ (n : Nat) (v2 : Int) (v3 : Int) (v4 : Int) (z : ZZ), inR v2 → inR v3 → inR v4 → okz z → zlp (fun q => fX6_hardest_s27 v1 q.1 q.2.1 q.2.2.1 q.2.2.2) n (v2, v3, v4, z) = some r → X mX6_hardest 27 [some (.ref (151)), some (.int (iN (v1))), some (.int (iN (v2))), some (.int (iN (v3))), some (.int (iN (v4))), none] [] (zmk ln N z) c9 s9 Φ := by
  intro n
  induction n with
  | zero => intro v2 v3 v4 z rv2 rv3 rv4 hz h; cases h
  | succ n ih =>
    intro v2 v3 v4 z rv2 rv3 rv4 hz h
    rcases zlp_s h with ⟨⟨v2', v3', v4', z'⟩, e, h'⟩ | e
    · exact SX6_hardest_27 hN hz rv1 rv2 rv3 rv4 e (fun v2₁ v3₁ v4₁ z₁ hh f0 f1 f2 f3 => by cases hh; exact ih _ _ _ _ f0 f1 f2 f3 h') (fun v2₁ z₁ hh f0 f1 => by cases hh)
    · exact SX6_hardest_27 hN hz rv1 rv2 rv3 rv4 e (fun v2₁ v3₁ v4₁ z₁ hh f0 f1 f2 f3 => by cases hh) (fun v2₁ z₁ hh f0 f1 => by cases hh; exact k2 _ _ rfl f0 f1)
def fX6_hardest_b91 (v2 : Int) (s1 : Int) (z : ZZ) : Option (Int × ZZ) := (Option.bind (fX6_fails (s1) (2) z) fun q1 => match q1 with | (r1, z1) => (if (r1) = (0) then some (v2, z1) else some (0, z1)))
set_option maxRecDepth 100000 in
theorem BX6_hardest_91 {ln N : Nat} {z : ZZ} {v2 : Int} {s1 : Int} {c9 s9 : Nat} {Φ : xRes → xS → Prop} (hN : 159 ≤ N ∧ N < 999999) (hz : okz z) (rv2 : inR v2) (rs1 : inR s1) {p : Int × ZZ} (h : fX6_hardest_b91 v2 s1 z = some p) (k : Fin_wi Φ ln N p) : X mX6_hardest 91 [none, none, some (.int (iN (v2))), none, none, none] [.int (iN (s1)), .ref (151)] (zmk ln N z) c9 s9 Φ := by
  unfold fX6_hardest_b91 at h
  refine X_iconst (pc' := 92) dX6_hardest_91 rfl ?_
  obtain ⟨⟨r1, z1⟩, q1, h⟩ := bs h
  refine Y_callV [.int (iN (s1)), .int (iN (2))] (pc' := 95) dX6_hardest_92 rfl VX6_62 (by decide) (zlN hN (by decide)) (congrArg Prod.fst (sh151 ln)) rfl rfl rfl (cs rfl) (cs rfl) rfl (CX6_fails hN hz rs1 (inR_c (n := 2) rfl) q1) (Nat.zero_add _).symm (Nat.zero_add _).symm (fun f1 => ?_)
  refine X_if_eq dX6_hardest_95 (tgt := 102) rfl (pc' := 98) rfl (inR_b f1.1) (fun c2 => ?_) (fun c2 => ?_)
  · have h := if_t c2 h
    refine X_iload_n (pc' := 103) dX6_hardest_102 rfl rfl ?_
    cases h
    exact X_iret dX6_hardest_103 rfl (k ⟨rv2, f1.2⟩)
  have h := if_f c2 h
  refine X_iconst (pc' := 99) dX6_hardest_98 rfl ?_
  refine X_goto dX6_hardest_99 (tgt := 103) rfl ?_
  cases h
  exact X_iret dX6_hardest_103 rfl (k ⟨(inR_c (n := 0) rfl), f1.2⟩)
def fX6_hardest (v1 : Int) (z : ZZ) : Option (Int × ZZ) := (zl (zup z 151 0 (0)) fun z1 => (Option.bind (fX6_isWall (v1) z1) fun r2 => (Option.bind (fX6_fails (r2) (1) z1) fun q3 => match q3 with | (r3, z3) => (if (r3) = (0) then (Option.bind (zlp (fun q => fX6_hardest_s27 (v1) q.1 q.2.1 q.2.2.1 q.2.2.2) FU ((-1), (-1), 0, z3)) fun q5 => match q5 with | (x5_v2, x5_z) => (if (x5_v2) = ((-1)) then fX6_hardest_b91 (x5_v2) (0) x5_z else fX6_hardest_b91 (x5_v2) (1) x5_z)) else some (0, z3)))))
set_option maxRecDepth 100000 in
theorem CX6_hardest {ln N : Nat} {z : ZZ} {v1 : Int} (hN : 159 ≤ N ∧ N < 999999) (hz : okz z) (rv1 : inR v1) {p : Int × ZZ} (h : fX6_hardest v1 z = some p) : X mX6_hardest 0 (xEnt [.ref (151), .int (iN (v1))] (xL mX6_hardest)) [] (zmk ln N z) (cc_wi p) (6 * cc_wi p) (Qd (fa_wi p) (rs_wi p) (st_wi ln N p)) := by
  have k : Fin_wi (Qd (fa_wi p) (rs_wi p) (st_wi ln N p)) ln N p := Fin_wi_i
  unfold fX6_hardest at h
  refine X_to (M := [some (.ref (151)), some (.int (iN (v1))), none, none, none, none]) (su := []) rfl rfl ?_
  refine X_aload_n (pc' := 1) dX6_hardest_0 rfl rfl ?_
  refine X_iconst (pc' := 2) dX6_hardest_1 rfl ?_
  refine Y_put (k := 0) (j := 0) (v := 0) (pc' := 5) dX6_hardest_2 rfl FX6_51 (zlN hN (by decide)) (congrArg Prod.fst (sh151 ln)) (fun r hr => by cases hr; rfl) (xFit_int _) rfl rfl ?_
  obtain ⟨z1, e1, hz1, h⟩ := zl_some (P := okz) h (okz_up hz (inR_c (n := 0) rfl))
  rw [e1]
  refine X_aload_n (pc' := 6) dX6_hardest_5 rfl rfl ?_
  refine X_aload_n (pc' := 7) dX6_hardest_6 rfl rfl ?_
  refine X_iload_n (pc' := 8) dX6_hardest_7 rfl rfl ?_
  obtain ⟨r2, q2, h⟩ := bs h
  refine Y_callV [.int (iN (v1))] (pc' := 11) dX6_hardest_8 rfl VX6_220 (by decide) (zlN hN (by decide)) (congrArg Prod.fst (sh151 ln)) rfl rfl rfl (cs rfl) (cs rfl) rfl (CX6_isWall hN hz1 rv1 q2) (Nat.zero_add _).symm (Nat.zero_add _).symm (fun f2 => ?_)
  refine X_iconst (pc' := 12) dX6_hardest_11 rfl ?_
  obtain ⟨⟨r3, z3⟩, q3, h⟩ := bs h
  refine Y_callV [.int (iN (r2)), .int (iN (1))] (pc' := 15) dX6_hardest_12 rfl VX6_62 (by decide) (zlN hN (by decide)) (congrArg Prod.fst (sh151 ln)) rfl rfl rfl (cs rfl) (cs rfl) rfl (CX6_fails hN hz1 (inR_b f2) (inR_c (n := 1) rfl) q3) (Nat.zero_add _).symm (Nat.zero_add _).symm (fun f3 => ?_)
  refine X_if_eq dX6_hardest_15 (tgt := 20) rfl (pc' := 18) rfl (inR_b f3.1) (fun c4 => ?_) (fun c4 => ?_)
  · have h := if_t c4 h
    refine X_iconst (pc' := 21) dX6_hardest_20 rfl ?_
    refine X_istore_n (pc' := 22) dX6_hardest_21 rfl (cl rfl) (Or.inr rfl) (L' := [some (.ref (151)), some (.int (iN (v1))), some (.int (iN ((-1)))), none, none, none]) rfl ?_
    refine X_iconst (pc' := 23) dX6_hardest_22 rfl ?_
    refine X_istore_n (pc' := 24) dX6_hardest_23 rfl (cl rfl) (Or.inr rfl) (L' := [some (.ref (151)), some (.int (iN (v1))), some (.int (iN ((-1)))), some (.int (iN ((-1)))), none, none]) rfl ?_
    refine X_iconst (pc' := 25) dX6_hardest_24 rfl ?_
    refine X_istore (pc' := 27) dX6_hardest_25 rfl (cl rfl) (Or.inr rfl) (L' := [some (.ref (151)), some (.int (iN (v1))), some (.int (iN ((-1)))), some (.int (iN ((-1)))), some (.int (iN (0))), none]) rfl ?_
    obtain ⟨⟨x5_v2, x5_z⟩, q5, h⟩ := bs h
    refine X_sub (sub_s (sub_s (sub_s (sub_s (sub_s (sub_n sub_0)))))) (LX6_hardest_27 hN rv1 (fun x5_v2₁ x5_z₁ hh rx5_v2 hx5_z => ?_) FU _ _ _ _ (inR_c (n := (-1)) rfl) (inR_c (n := (-1)) rfl) (inR_c (n := 0) rfl) f3.2 q5)
    cases hh
    refine X_aload_n (pc' := 81) dX6_hardest_80 rfl rfl ?_
    refine X_iload_n (pc' := 82) dX6_hardest_81 rfl rfl ?_
    refine X_iconst (pc' := 83) dX6_hardest_82 rfl ?_
    refine X_icmp_eq dX6_hardest_83 (tgt := 90) rfl (pc' := 86) rfl ⟨rx5_v2.1, rx5_v2.2, (inR_c (n := (-1)) rfl).1, (inR_c (n := (-1)) rfl).2⟩ (fun c6 => ?_) (fun c6 => ?_)
    · have h := if_t c6 h
      refine X_iconst (pc' := 91) dX6_hardest_90 rfl ?_
      exact X_sub (sub_n (sub_n (sub_s (sub_n (sub_n (sub_n sub_0)))))) (BX6_hardest_91 hN hx5_z rx5_v2 (inR_c (n := 0) rfl) h k)
    have h := if_f c6 h
    refine X_iconst (pc' := 87) dX6_hardest_86 rfl ?_
    refine X_goto dX6_hardest_87 (tgt := 91) rfl ?_
    exact X_sub (sub_n (sub_n (sub_s (sub_n (sub_n (sub_n sub_0)))))) (BX6_hardest_91 hN hx5_z rx5_v2 (inR_c (n := 1) rfl) h k)
  have h := if_f c4 h
  refine X_iconst (pc' := 19) dX6_hardest_18 rfl ?_
  cases h
  exact X_iret dX6_hardest_19 rfl (k ⟨(inR_c (n := 0) rfl), f3.2⟩)
def fX6_harness (v1 : Int) (v2 : Int) (z : ZZ) : Option (Int × ZZ) := (zl (zup z 151 0 (0)) fun z1 => (Option.bind (fX6_isHarness (v1) z1) fun r2 => (Option.bind (fX6_fails (r2) (1) z1) fun q3 => match q3 with | (r3, z3) => (if (r3) = (0) then (Option.bind (fX6_in (v2) (0) (5) z3) fun r5 => (Option.bind (fX6_fails (r5) (2) z3) fun q6 => match q6 with | (r6, z6) => (if (r6) = (0) then (if (v2) = 3 then (Option.bind (fX6_lapse (v1) z6) fun r9 => some (r9, z6)) else (if (v2) = 4 then (Option.bind (fX6_isRetired (v1) z6) fun r11 => (if (r11) = (0) then (Option.bind (fX6_isLent (v1) z6) fun r13 => (if (r13) = (0) then some (0, z6) else some (1, z6))) else some (2, z6))) else (if (v2) = 5 then (Option.bind (fX6_isInForce (v1) ((z6 154 (3))) z6) fun r16 => (if (r16) = (0) then some (0, z6) else some (1, z6))) else (Option.bind (fX6_harnessPart (v1) (v2) z6) fun r18 => some (r18, z6))))) else some (0, z6)))) else some (0, z3)))))
set_option maxRecDepth 100000 in
theorem CX6_harness {ln N : Nat} {z : ZZ} {v1 : Int} {v2 : Int} (hN : 159 ≤ N ∧ N < 999999) (hz : okz z) (rv1 : inR v1) (rv2 : inR v2) {p : Int × ZZ} (h : fX6_harness v1 v2 z = some p) : X mX6_harness 0 (xEnt [.ref (151), .int (iN (v1)), .int (iN (v2))] (xL mX6_harness)) [] (zmk ln N z) (cc_wi p) (6 * cc_wi p) (Qd (fa_wi p) (rs_wi p) (st_wi ln N p)) := by
  have k : Fin_wi (Qd (fa_wi p) (rs_wi p) (st_wi ln N p)) ln N p := Fin_wi_i
  unfold fX6_harness at h
  refine X_to (M := [some (.ref (151)), some (.int (iN (v1))), some (.int (iN (v2)))]) (su := []) rfl rfl ?_
  refine X_aload_n (pc' := 1) dX6_harness_0 rfl rfl ?_
  refine X_iconst (pc' := 2) dX6_harness_1 rfl ?_
  refine Y_put (k := 0) (j := 0) (v := 0) (pc' := 5) dX6_harness_2 rfl FX6_51 (zlN hN (by decide)) (congrArg Prod.fst (sh151 ln)) (fun r hr => by cases hr; rfl) (xFit_int _) rfl rfl ?_
  obtain ⟨z1, e1, hz1, h⟩ := zl_some (P := okz) h (okz_up hz (inR_c (n := 0) rfl))
  rw [e1]
  refine X_aload_n (pc' := 6) dX6_harness_5 rfl rfl ?_
  refine X_aload_n (pc' := 7) dX6_harness_6 rfl rfl ?_
  refine X_iload_n (pc' := 8) dX6_harness_7 rfl rfl ?_
  obtain ⟨r2, q2, h⟩ := bs h
  refine Y_callV [.int (iN (v1))] (pc' := 11) dX6_harness_8 rfl VX6_259 (by decide) (zlN hN (by decide)) (congrArg Prod.fst (sh151 ln)) rfl rfl rfl (cs rfl) (cs rfl) rfl (CX6_isHarness hN hz1 rv1 q2) (Nat.zero_add _).symm (Nat.zero_add _).symm (fun f2 => ?_)
  refine X_iconst (pc' := 12) dX6_harness_11 rfl ?_
  obtain ⟨⟨r3, z3⟩, q3, h⟩ := bs h
  refine Y_callV [.int (iN (r2)), .int (iN (1))] (pc' := 15) dX6_harness_12 rfl VX6_62 (by decide) (zlN hN (by decide)) (congrArg Prod.fst (sh151 ln)) rfl rfl rfl (cs rfl) (cs rfl) rfl (CX6_fails hN hz1 (inR_b f2) (inR_c (n := 1) rfl) q3) (Nat.zero_add _).symm (Nat.zero_add _).symm (fun f3 => ?_)
  refine X_if_ne dX6_harness_15 (tgt := 35) rfl (pc' := 18) rfl (inR_b f3.1) (fun c4 => ?_) (fun c4 => ?_)
  · have h := if_f c4 h
    refine X_iconst (pc' := 36) dX6_harness_35 rfl ?_
    cases h
    exact X_iret dX6_harness_36 rfl (k ⟨(inR_c (n := 0) rfl), f3.2⟩)
  have h := if_t c4 h
  refine X_aload_n (pc' := 19) dX6_harness_18 rfl rfl ?_
  refine X_iload_n (pc' := 20) dX6_harness_19 rfl rfl ?_
  refine X_lI_i2l (pc' := 21) dX6_harness_20 rfl rv2 ?_
  refine X_lI_const (pc' := 22) dX6_harness_21 rfl (a := 0) rfl ?_
  refine X_ldc2 (pc' := 25) dX6_harness_22 rfl tq1530 (n := 5) rfl ?_
  obtain ⟨r5, q5, h⟩ := bs h
  refine Y_callS [.long (lI (v2)), .long (lI (0)), .long (lI (5))] (pc' := 28) dX6_harness_25 rfl SX6_66 (by decide) rfl (cs rfl) (cs rfl) rfl (CX6_in hN f3.2 (inL_R rv2) (inL_c (n := 0) rfl) (inL_c (n := 5) rfl) q5) (Nat.zero_add _).symm (Nat.zero_add _).symm (fun f5 => ?_)
  refine X_iconst (pc' := 29) dX6_harness_28 rfl ?_
  obtain ⟨⟨r6, z6⟩, q6, h⟩ := bs h
  refine Y_callV [.int (iN (r5)), .int (iN (2))] (pc' := 32) dX6_harness_29 rfl VX6_62 (by decide) (zlN hN (by decide)) (congrArg Prod.fst (sh151 ln)) rfl rfl rfl (cs rfl) (cs rfl) rfl (CX6_fails hN f3.2 (inR_b f5) (inR_c (n := 2) rfl) q6) (Nat.zero_add _).symm (Nat.zero_add _).symm (fun f6 => ?_)
  refine X_if_eq dX6_harness_32 (tgt := 37) rfl (pc' := 35) rfl (inR_b f6.1) (fun c7 => ?_) (fun c7 => ?_)
  · have h := if_t c7 h
    refine X_iload_n (pc' := 38) dX6_harness_37 rfl rfl ?_
    by_cases c8 : (v2) = 3
    · refine X_tableIn dX6_harness_38 (off := 26) (tgt := 64) rv2 (by rw [c8]; decide) (by rw [c8]; decide) (by rw [c8]; rfl) rfl ?_
      have h := if_t c8 h
      refine X_aload_n (pc' := 65) dX6_harness_64 rfl rfl ?_
      refine X_iload_n (pc' := 66) dX6_harness_65 rfl rfl ?_
      obtain ⟨r9, q9, h⟩ := bs h
      refine Y_callV [.int (iN (v1))] (pc' := 69) dX6_harness_66 rfl VX6_204 (by decide) (zlN hN (by decide)) (congrArg Prod.fst (sh151 ln)) rfl rfl rfl (cs rfl) (cs rfl) rfl (CX6_lapse hN f6.2 rv1 q9) (Nat.zero_add _).symm (Nat.zero_add _).symm (fun f9 => ?_)
      cases h
      exact X_iret dX6_harness_69 rfl (k ⟨f9, f6.2⟩)
    have h := if_f c8 h
    by_cases c10 : (v2) = 4
    · refine X_tableIn dX6_harness_38 (off := 32) (tgt := 70) rv2 (by rw [c10]; decide) (by rw [c10]; decide) (by rw [c10]; rfl) rfl ?_
      have h := if_t c10 h
      refine X_aload_n (pc' := 71) dX6_harness_70 rfl rfl ?_
      refine X_iload_n (pc' := 72) dX6_harness_71 rfl rfl ?_
      obtain ⟨r11, q11, h⟩ := bs h
      refine Y_callV [.int (iN (v1))] (pc' := 75) dX6_harness_72 rfl VX6_201 (by decide) (zlN hN (by decide)) (congrArg Prod.fst (sh151 ln)) rfl rfl rfl (cs rfl) (cs rfl) rfl (CX6_isRetired hN f6.2 rv1 q11) (Nat.zero_add _).symm (Nat.zero_add _).symm (fun f11 => ?_)
      refine X_if_eq dX6_harness_75 (tgt := 82) rfl (pc' := 78) rfl (inR_b f11) (fun c12 => ?_) (fun c12 => ?_)
      · have h := if_t c12 h
        refine X_aload_n (pc' := 83) dX6_harness_82 rfl rfl ?_
        refine X_iload_n (pc' := 84) dX6_harness_83 rfl rfl ?_
        obtain ⟨r13, q13, h⟩ := bs h
        refine Y_callV [.int (iN (v1))] (pc' := 87) dX6_harness_84 rfl VX6_256 (by decide) (zlN hN (by decide)) (congrArg Prod.fst (sh151 ln)) rfl rfl rfl (cs rfl) (cs rfl) rfl (CX6_isLent hN f6.2 rv1 q13) (Nat.zero_add _).symm (Nat.zero_add _).symm (fun f13 => ?_)
        refine X_if_eq dX6_harness_87 (tgt := 94) rfl (pc' := 90) rfl (inR_b f13) (fun c14 => ?_) (fun c14 => ?_)
        · have h := if_t c14 h
          refine X_iconst (pc' := 95) dX6_harness_94 rfl ?_
          cases h
          exact X_iret dX6_harness_95 rfl (k ⟨(inR_c (n := 0) rfl), f6.2⟩)
        have h := if_f c14 h
        refine X_iconst (pc' := 91) dX6_harness_90 rfl ?_
        refine X_goto dX6_harness_91 (tgt := 95) rfl ?_
        cases h
        exact X_iret dX6_harness_95 rfl (k ⟨(inR_c (n := 1) rfl), f6.2⟩)
      have h := if_f c12 h
      refine X_iconst (pc' := 79) dX6_harness_78 rfl ?_
      refine X_goto dX6_harness_79 (tgt := 95) rfl ?_
      cases h
      exact X_iret dX6_harness_95 rfl (k ⟨(inR_c (n := 2) rfl), f6.2⟩)
    have h := if_f c10 h
    by_cases c15 : (v2) = 5
    · refine X_tableIn dX6_harness_38 (off := 58) (tgt := 96) rv2 (by rw [c15]; decide) (by rw [c15]; decide) (by rw [c15]; rfl) rfl ?_
      have h := if_t c15 h
      refine X_aload_n (pc' := 97) dX6_harness_96 rfl rfl ?_
      refine X_iload_n (pc' := 98) dX6_harness_97 rfl rfl ?_
      refine X_aload_n (pc' := 99) dX6_harness_98 rfl rfl ?_
      refine Y_get (pc' := 102) dX6_harness_99 rfl FX6_16 (zlN hN (by decide)) (congrArg Prod.fst (sh151 ln)) (ct151_9 z6) ?_
      refine X_iconst (pc' := 103) dX6_harness_102 rfl ?_
      refine Y_iald (pc' := 104) dX6_harness_103 rfl (zlN hN (by decide)) (sh154 ln) (by decide) ⟨by decide, by decide⟩ ?_
      obtain ⟨r16, q16, h⟩ := bs h
      refine Y_callV [.int (iN (v1)), .int (iN ((z6 154 (3))))] (pc' := 107) dX6_harness_104 rfl VX6_210 (by decide) (zlN hN (by decide)) (congrArg Prod.fst (sh151 ln)) rfl rfl rfl (cs rfl) (cs rfl) rfl (CX6_isInForce hN f6.2 rv1 (f6.2 154 (3) (by decide)) q16) (Nat.zero_add _).symm (Nat.zero_add _).symm (fun f16 => ?_)
      refine X_if_eq dX6_harness_107 (tgt := 114) rfl (pc' := 110) rfl (inR_b f16) (fun c17 => ?_) (fun c17 => ?_)
      · have h := if_t c17 h
        refine X_iconst (pc' := 115) dX6_harness_114 rfl ?_
        cases h
        exact X_iret dX6_harness_115 rfl (k ⟨(inR_c (n := 0) rfl), f6.2⟩)
      have h := if_f c17 h
      refine X_iconst (pc' := 111) dX6_harness_110 rfl ?_
      refine X_goto dX6_harness_111 (tgt := 115) rfl ?_
      cases h
      exact X_iret dX6_harness_115 rfl (k ⟨(inR_c (n := 1) rfl), f6.2⟩)
    have h := if_f c15 h
    refine X_tableOut dX6_harness_38 (tgt := 116) rv2 (by omega) rfl ?_
    refine X_aload_n (pc' := 117) dX6_harness_116 rfl rfl ?_
    refine X_iload_n (pc' := 118) dX6_harness_117 rfl rfl ?_
    refine X_iload_n (pc' := 119) dX6_harness_118 rfl rfl ?_
    obtain ⟨r18, q18, h⟩ := bs h
    refine Y_callV [.int (iN (v1)), .int (iN (v2))] (pc' := 122) dX6_harness_119 rfl VX6_198 (by decide) (zlN hN (by decide)) (congrArg Prod.fst (sh151 ln)) rfl rfl rfl (cs rfl) (cs rfl) rfl (CX6_harnessPart hN f6.2 rv1 rv2 q18) (Nat.zero_add _).symm (Nat.zero_add _).symm (fun f18 => ?_)
    cases h
    exact X_iret dX6_harness_122 rfl (k ⟨f18, f6.2⟩)
  have h := if_f c7 h
  refine X_iconst (pc' := 36) dX6_harness_35 rfl ?_
  cases h
  exact X_iret dX6_harness_36 rfl (k ⟨(inR_c (n := 0) rfl), f6.2⟩)
def fX6_isClosedOn (v1 : Int) (v2 : Int) (z : ZZ) : Option (Int) := (Option.bind (fX6_wallPart (v1) (3) z) fun r1 => (if inR ((v2 - r1)) then (if ((v2 - r1)) < (0) then some (0) else (Option.bind (fX6_wallPart (v1) (2) z) fun r4 => (if (0 : Int) ≤ ((v2 - r1)) ∧ (0 : Int) < (r4) then (if (((v2 - r1) % r4)) = (0) then some (1) else some (0)) else none))) else none))
set_option maxRecDepth 100000 in
theorem CX6_isClosedOn {ln N : Nat} {z : ZZ} {v1 : Int} {v2 : Int} (hN : 159 ≤ N ∧ N < 999999) (hz : okz z) (rv1 : inR v1) (rv2 : inR v2) {p : Int} (h : fX6_isClosedOn v1 v2 z = some p) : X mX6_isClosedOn 0 (xEnt [.ref (151), .int (iN (v1)), .int (iN (v2))] (xL mX6_isClosedOn)) [] (zmk ln N z) (cc_b p) (6 * cc_b p) (Qd (fa_b p) (rs_b p) (st_b ln N z p)) := by
  have k : Fin_b (Qd (fa_b p) (rs_b p) (st_b ln N z p)) ln N z p := Fin_b_i
  unfold fX6_isClosedOn at h
  refine X_to (M := [some (.ref (151)), some (.int (iN (v1))), some (.int (iN (v2))), none]) (su := []) rfl rfl ?_
  refine X_iload_n (pc' := 1) dX6_isClosedOn_0 rfl rfl ?_
  refine X_aload_n (pc' := 2) dX6_isClosedOn_1 rfl rfl ?_
  refine X_iload_n (pc' := 3) dX6_isClosedOn_2 rfl rfl ?_
  refine X_iconst (pc' := 4) dX6_isClosedOn_3 rfl ?_
  obtain ⟨r1, q1, h⟩ := bs h
  refine Y_callV [.int (iN (v1)), .int (iN (3))] (pc' := 7) dX6_isClosedOn_4 rfl VX6_195 (by decide) (zlN hN (by decide)) (congrArg Prod.fst (sh151 ln)) rfl rfl rfl (cs rfl) (cs rfl) rfl (CX6_wallPart hN hz rv1 (inR_c (n := 3) rfl) q1) (Nat.zero_add _).symm (Nat.zero_add _).symm (fun f1 => ?_)
  refine X_isub (pc' := 8) dX6_isClosedOn_7 rfl ?_
  refine X_istore_n (pc' := 9) dX6_isClosedOn_8 rfl (cl rfl) (Or.inr rfl) (L' := [some (.ref (151)), some (.int (iN (v1))), some (.int (iN (v2))), some (.int (iN ((v2 - r1))))]) rfl ?_
  refine X_iload_n (pc' := 10) dX6_isClosedOn_9 rfl rfl ?_
  obtain ⟨g2, h⟩ := gs h
  refine X_if_lt dX6_isClosedOn_10 (tgt := 28) rfl (pc' := 13) rfl g2 (fun c3 => ?_) (fun c3 => ?_)
  · have h := if_t c3 h
    refine X_iconst (pc' := 29) dX6_isClosedOn_28 rfl ?_
    cases h
    exact X_zret dX6_isClosedOn_29 rfl (Or.inl rfl) (k (Or.inl rfl))
  have h := if_f (Int.not_lt.mpr c3) h
  refine X_iload_n (pc' := 14) dX6_isClosedOn_13 rfl rfl ?_
  refine X_aload_n (pc' := 15) dX6_isClosedOn_14 rfl rfl ?_
  refine X_iload_n (pc' := 16) dX6_isClosedOn_15 rfl rfl ?_
  refine X_iconst (pc' := 17) dX6_isClosedOn_16 rfl ?_
  obtain ⟨r4, q4, h⟩ := bs h
  refine Y_callV [.int (iN (v1)), .int (iN (2))] (pc' := 20) dX6_isClosedOn_17 rfl VX6_195 (by decide) (zlN hN (by decide)) (congrArg Prod.fst (sh151 ln)) rfl rfl rfl (cs rfl) (cs rfl) rfl (CX6_wallPart hN hz rv1 (inR_c (n := 2) rfl) q4) (Nat.zero_add _).symm (Nat.zero_add _).symm (fun f4 => ?_)
  obtain ⟨g5, h⟩ := gs h
  refine X_irem (pc' := 21) dX6_isClosedOn_20 rfl ⟨g5.1, g2.2, g5.2, f4.2⟩ ?_
  refine X_if_ne dX6_isClosedOn_21 (tgt := 28) rfl (pc' := 24) rfl (inR_mod g5 f4) (fun c6 => ?_) (fun c6 => ?_)
  · have h := if_f c6 h
    refine X_iconst (pc' := 29) dX6_isClosedOn_28 rfl ?_
    cases h
    exact X_zret dX6_isClosedOn_29 rfl (Or.inl rfl) (k (Or.inl rfl))
  have h := if_t c6 h
  refine X_iconst (pc' := 25) dX6_isClosedOn_24 rfl ?_
  refine X_goto dX6_isClosedOn_25 (tgt := 29) rfl ?_
  cases h
  exact X_zret dX6_isClosedOn_29 rfl (Or.inr rfl) (k (Or.inr rfl))
def fX6_isAlone_b38 (v1 : Int) (v2 : Int) (v4 : Int) (s0 : Int) (s1 : Int) (z : ZZ) : Option ((Int × Int) ⊕ (Int)) := (if inR ((v4 + 1)) then some (.inl ((zand s0 s1), (v4 + 1))) else none)
set_option maxRecDepth 100000 in
theorem BX6_isAlone_38 {ln N : Nat} {z : ZZ} {v1 : Int} {v2 : Int} {v4 : Int} {s0 : Int} {s1 : Int} {c9 s9 : Nat} {Φ : xRes → xS → Prop} (hN : 159 ≤ N ∧ N < 999999) (hz : okz z) (rv1 : inR v1) (rv2 : inR v2) (rv4 : inR v4) (rs0 : inR s0) (rs1 : inR s1) {p : (Int × Int) ⊕ (Int)} (h : fX6_isAlone_b38 v1 v2 v4 s0 s1 z = some p) (k1 : ∀ (v3' : Int) (v4' : Int), p = .inl (v3', v4') → inR v3' → inR v4' → X mX6_isAlone 5 [some (.ref (151)), some (.int (iN (v1))), some (.int (iN (v2))), some (.int (iN (v3'))), some (.int (iN (v4')))] [] (zmk ln N z) c9 s9 Φ) (k2 : ∀ (v3' : Int), p = .inr v3' → inR v3' → X mX6_isAlone 46 [none, none, none, some (.int (iN (v3'))), none] [] (zmk ln N z) c9 s9 Φ) : X mX6_isAlone 38 [some (.ref (151)), some (.int (iN (v1))), some (.int (iN (v2))), none, some (.int (iN (v4)))] [.int (iN (s1)), .int (iN (s0))] (zmk ln N z) c9 s9 Φ := by
  unfold fX6_isAlone_b38 at h
  refine X_iand (pc' := 39) dX6_isAlone_38 rfl ?_
  refine X_istore_n (pc' := 40) dX6_isAlone_39 rfl (cl rfl) (Or.inr rfl) (L' := [some (.ref (151)), some (.int (iN (v1))), some (.int (iN (v2))), some (.int (iN ((zand s0 s1)))), some (.int (iN (v4)))]) rfl ?_
  refine X_iinc (pc' := 43) dX6_isAlone_40 rfl rfl (Or.inr rfl) (L' := [some (.ref (151)), some (.int (iN (v1))), some (.int (iN (v2))), some (.int (iN ((zand s0 s1)))), some (.int (iN (v4 + 1)))]) rfl ?_
  refine X_goto dX6_isAlone_43 (tgt := 5) rfl ?_
  obtain ⟨g1, h⟩ := gs h
  cases h
  exact X_sub (sub_s (sub_s (sub_s (sub_s (sub_s sub_0))))) (k1 _ _ rfl (inR_zand _ _) g1)
def fX6_isAlone_b33 (v1 : Int) (v2 : Int) (v4 : Int) (s0 : Int) (z : ZZ) : Option ((Int × Int) ⊕ (Int)) := fX6_isAlone_b38 (v1) (v2) (v4) (s0) (1) z
set_option maxRecDepth 100000 in
theorem BX6_isAlone_33 {ln N : Nat} {z : ZZ} {v1 : Int} {v2 : Int} {v4 : Int} {s0 : Int} {c9 s9 : Nat} {Φ : xRes → xS → Prop} (hN : 159 ≤ N ∧ N < 999999) (hz : okz z) (rv1 : inR v1) (rv2 : inR v2) (rv4 : inR v4) (rs0 : inR s0) {p : (Int × Int) ⊕ (Int)} (h : fX6_isAlone_b33 v1 v2 v4 s0 z = some p) (k1 : ∀ (v3' : Int) (v4' : Int), p = .inl (v3', v4') → inR v3' → inR v4' → X mX6_isAlone 5 [some (.ref (151)), some (.int (iN (v1))), some (.int (iN (v2))), some (.int (iN (v3'))), some (.int (iN (v4')))] [] (zmk ln N z) c9 s9 Φ) (k2 : ∀ (v3' : Int), p = .inr v3' → inR v3' → X mX6_isAlone 46 [none, none, none, some (.int (iN (v3'))), none] [] (zmk ln N z) c9 s9 Φ) : X mX6_isAlone 33 [some (.ref (151)), some (.int (iN (v1))), some (.int (iN (v2))), none, some (.int (iN (v4)))] [.int (iN (s0))] (zmk ln N z) c9 s9 Φ := by
  unfold fX6_isAlone_b33 at h
  refine X_iconst (pc' := 34) dX6_isAlone_33 rfl ?_
  refine X_goto dX6_isAlone_34 (tgt := 38) rfl ?_
  exact X_sub (sub_s (sub_s (sub_s (sub_n (sub_s sub_0))))) (BX6_isAlone_38 hN hz rv1 rv2 rv4 rs0 (inR_c (n := 1) rfl) h k1 k2)
def fX6_isAlone_s5 (v1 : Int) (v2 : Int) (v3 : Int) (v4 : Int) (z : ZZ) : Option ((Int × Int) ⊕ (Int)) := (if (v4) < ((z 154 (4))) then (if (v4) = (v1) then fX6_isAlone_b33 (v1) (v2) (v4) (v3) z else (Option.bind (fX6_isClosedOn (v4) (v2) z) fun r3 => (if (r3) = (0) then fX6_isAlone_b33 (v1) (v2) (v4) (v3) z else fX6_isAlone_b38 (v1) (v2) (v4) (v3) (0) z))) else some (.inr v3))
set_option maxRecDepth 100000 in
theorem SX6_isAlone_5 {ln N : Nat} {z : ZZ} {v1 : Int} {v2 : Int} {v3 : Int} {v4 : Int} {c9 s9 : Nat} {Φ : xRes → xS → Prop} (hN : 159 ≤ N ∧ N < 999999) (hz : okz z) (rv1 : inR v1) (rv2 : inR v2) (rv3 : inR v3) (rv4 : inR v4) {p : (Int × Int) ⊕ (Int)} (h : fX6_isAlone_s5 v1 v2 v3 v4 z = some p) (k1 : ∀ (v3' : Int) (v4' : Int), p = .inl (v3', v4') → inR v3' → inR v4' → X mX6_isAlone 5 [some (.ref (151)), some (.int (iN (v1))), some (.int (iN (v2))), some (.int (iN (v3'))), some (.int (iN (v4')))] [] (zmk ln N z) c9 s9 Φ) (k2 : ∀ (v3' : Int), p = .inr v3' → inR v3' → X mX6_isAlone 46 [none, none, none, some (.int (iN (v3'))), none] [] (zmk ln N z) c9 s9 Φ) : X mX6_isAlone 5 [some (.ref (151)), some (.int (iN (v1))), some (.int (iN (v2))), some (.int (iN (v3))), some (.int (iN (v4)))] [] (zmk ln N z) c9 s9 Φ := by
  unfold fX6_isAlone_s5 at h
  refine X_iload (pc' := 7) dX6_isAlone_5 rfl rfl ?_
  refine X_aload_n (pc' := 8) dX6_isAlone_7 rfl rfl ?_
  refine Y_get (pc' := 11) dX6_isAlone_8 rfl FX6_16 (zlN hN (by decide)) (congrArg Prod.fst (sh151 ln)) (ct151_9 z) ?_
  refine X_iconst (pc' := 12) dX6_isAlone_11 rfl ?_
  refine Y_iald (pc' := 13) dX6_isAlone_12 rfl (zlN hN (by decide)) (sh154 ln) (by decide) ⟨by decide, by decide⟩ ?_
  refine X_icmp_ge dX6_isAlone_13 (tgt := 46) rfl (pc' := 16) rfl ⟨rv4.1, rv4.2, (hz 154 (4) (by decide)).1, (hz 154 (4) (by decide)).2⟩ (fun c1 => ?_) (fun c1 => ?_)
  · have h := if_f (Int.not_lt.mpr c1) h
    cases h
    exact X_sub (sub_n (sub_n (sub_n (sub_s (sub_n sub_0))))) (k2 _ rfl rv3)
  have h := if_t c1 h
  refine X_iload_n (pc' := 17) dX6_isAlone_16 rfl rfl ?_
  refine X_iload (pc' := 19) dX6_isAlone_17 rfl rfl ?_
  refine X_iload_n (pc' := 20) dX6_isAlone_19 rfl rfl ?_
  refine X_icmp_eq dX6_isAlone_20 (tgt := 33) rfl (pc' := 23) rfl ⟨rv4.1, rv4.2, rv1.1, rv1.2⟩ (fun c2 => ?_) (fun c2 => ?_)
  · have h := if_t c2 h
    exact X_sub (sub_s (sub_s (sub_s (sub_n (sub_s sub_0))))) (BX6_isAlone_33 hN hz rv1 rv2 rv4 rv3 h k1 k2)
  have h := if_f c2 h
  refine X_aload_n (pc' := 24) dX6_isAlone_23 rfl rfl ?_
  refine X_iload (pc' := 26) dX6_isAlone_24 rfl rfl ?_
  refine X_iload_n (pc' := 27) dX6_isAlone_26 rfl rfl ?_
  obtain ⟨r3, q3, h⟩ := bs h
  refine Y_callV [.int (iN (v4)), .int (iN (v2))] (pc' := 30) dX6_isAlone_27 rfl VX6_320 (by decide) (zlN hN (by decide)) (congrArg Prod.fst (sh151 ln)) rfl rfl rfl (cs rfl) (cs rfl) rfl (CX6_isClosedOn hN hz rv4 rv2 q3) (Nat.zero_add _).symm (Nat.zero_add _).symm (fun f3 => ?_)
  refine X_if_ne dX6_isAlone_30 (tgt := 37) rfl (pc' := 33) rfl (inR_b f3) (fun c4 => ?_) (fun c4 => ?_)
  · have h := if_f c4 h
    refine X_iconst (pc' := 38) dX6_isAlone_37 rfl ?_
    exact X_sub (sub_s (sub_s (sub_s (sub_n (sub_s sub_0))))) (BX6_isAlone_38 hN hz rv1 rv2 rv4 rv3 (inR_c (n := 0) rfl) h k1 k2)
  have h := if_t c4 h
  exact X_sub (sub_s (sub_s (sub_s (sub_n (sub_s sub_0))))) (BX6_isAlone_33 hN hz rv1 rv2 rv4 rv3 h k1 k2)
theorem LX6_isAlone_5 {ln N : Nat} {z : ZZ} {v1 : Int} {v2 : Int} {c9 s9 : Nat} {Φ : xRes → xS → Prop} (hN : 159 ≤ N ∧ N < 999999) (hz : okz z) (rv1 : inR v1) (rv2 : inR v2) {r : Int} (k2 : ∀ (v3' : Int), r = v3' → inR v3' → X mX6_isAlone 46 [none, none, none, some (.int (iN (v3'))), none] [] (zmk ln N z) c9 s9 Φ) : ∀ (n : Nat) (v3 : Int) (v4 : Int), inR v3 → inR v4 → zlp (fun q => fX6_isAlone_s5 v1 v2 q.1 q.2 z) n (v3, v4) = some r → X mX6_isAlone 5 [some (.ref (151)), some (.int (iN (v1))), some (.int (iN (v2))), some (.int (iN (v3))), some (.int (iN (v4)))] [] (zmk ln N z) c9 s9 Φ := by
  intro n
  induction n with
  | zero => intro v3 v4 rv3 rv4 h; cases h
  | succ n ih =>
    intro v3 v4 rv3 rv4 h
    rcases zlp_s h with ⟨⟨v3', v4'⟩, e, h'⟩ | e
    · exact SX6_isAlone_5 hN hz rv1 rv2 rv3 rv4 e (fun v3₁ v4₁ hh f0 f1 => by cases hh; exact ih _ _ f0 f1 h') (fun v3₁ hh f0 => by cases hh)
    · exact SX6_isAlone_5 hN hz rv1 rv2 rv3 rv4 e (fun v3₁ v4₁ hh f0 f1 => by cases hh) (fun v3₁ hh f0 => by cases hh; exact k2 _ rfl f0)
def fX6_isAlone (v1 : Int) (v2 : Int) (z : ZZ) : Option (Int) := (Option.bind (zlp (fun q => fX6_isAlone_s5 (v1) (v2) q.1 q.2 z) FU (1, 0)) fun x1_v3 => (if (x1_v3) = 0 ∨ (x1_v3) = 1 then some (x1_v3) else none))
set_option maxRecDepth 100000 in
theorem CX6_isAlone {ln N : Nat} {z : ZZ} {v1 : Int} {v2 : Int} (hN : 159 ≤ N ∧ N < 999999) (hz : okz z) (rv1 : inR v1) (rv2 : inR v2) {p : Int} (h : fX6_isAlone v1 v2 z = some p) : X mX6_isAlone 0 (xEnt [.ref (151), .int (iN (v1)), .int (iN (v2))] (xL mX6_isAlone)) [] (zmk ln N z) (cc_b p) (6 * cc_b p) (Qd (fa_b p) (rs_b p) (st_b ln N z p)) := by
  have k : Fin_b (Qd (fa_b p) (rs_b p) (st_b ln N z p)) ln N z p := Fin_b_i
  unfold fX6_isAlone at h
  refine X_to (M := [some (.ref (151)), some (.int (iN (v1))), some (.int (iN (v2))), none, none]) (su := []) rfl rfl ?_
  refine X_iconst (pc' := 1) dX6_isAlone_0 rfl ?_
  refine X_istore_n (pc' := 2) dX6_isAlone_1 rfl (cl rfl) (Or.inr rfl) (L' := [some (.ref (151)), some (.int (iN (v1))), some (.int (iN (v2))), some (.int (iN (1))), none]) rfl ?_
  refine X_iconst (pc' := 3) dX6_isAlone_2 rfl ?_
  refine X_istore (pc' := 5) dX6_isAlone_3 rfl (cl rfl) (Or.inr rfl) (L' := [some (.ref (151)), some (.int (iN (v1))), some (.int (iN (v2))), some (.int (iN (1))), some (.int (iN (0)))]) rfl ?_
  obtain ⟨x1_v3, q1, h⟩ := bs h
  refine X_sub (sub_s (sub_s (sub_s (sub_s (sub_s sub_0))))) (LX6_isAlone_5 hN hz rv1 rv2 (fun x1_v3₁ hh rx1_v3 => ?_) FU _ _ (inR_c (n := 1) rfl) (inR_c (n := 0) rfl) q1)
  cases hh
  refine X_iload_n (pc' := 47) dX6_isAlone_46 rfl rfl ?_
  obtain ⟨g2, h⟩ := gs h
  cases h
  exact X_zret dX6_isAlone_47 rfl g2 (k g2)
def fX6_needOf_b63 (v1 : Int) (v3 : Int) (s0 : Int) (z : ZZ) : Option ((Int × Int) ⊕ (Int)) := (if inR ((v3 + 1)) then some (.inl (s0, (v3 + 1))) else none)
set_option maxRecDepth 100000 in
theorem BX6_needOf_63 {ln N : Nat} {z : ZZ} {v1 : Int} {v3 : Int} {s0 : Int} {c9 s9 : Nat} {Φ : xRes → xS → Prop} (hN : 159 ≤ N ∧ N < 999999) (hz : okz z) (rv1 : inR v1) (rv3 : inR v3) (rs0 : inR s0) {p : (Int × Int) ⊕ (Int)} (h : fX6_needOf_b63 v1 v3 s0 z = some p) (k1 : ∀ (v2' : Int) (v3' : Int), p = .inl (v2', v3') → inR v2' → inR v3' → X mX6_needOf 4 [some (.ref (151)), some (.int (iN (v1))), some (.int (iN (v2'))), some (.int (iN (v3'))), none] [] (zmk ln N z) c9 s9 Φ) (k2 : ∀ (v2' : Int), p = .inr v2' → inR v2' → X mX6_needOf 70 [none, none, some (.int (iN (v2'))), none, none] [] (zmk ln N z) c9 s9 Φ) : X mX6_needOf 63 [some (.ref (151)), some (.int (iN (v1))), none, some (.int (iN (v3))), none] [.int (iN (s0))] (zmk ln N z) c9 s9 Φ := by
  unfold fX6_needOf_b63 at h
  refine X_istore_n (pc' := 64) dX6_needOf_63 rfl (cl rfl) (Or.inr rfl) (L' := [some (.ref (151)), some (.int (iN (v1))), some (.int (iN (s0))), some (.int (iN (v3))), none]) rfl ?_
  refine X_iinc (pc' := 67) dX6_needOf_64 rfl rfl (Or.inr rfl) (L' := [some (.ref (151)), some (.int (iN (v1))), some (.int (iN (s0))), some (.int (iN (v3 + 1))), none]) rfl ?_
  refine X_goto dX6_needOf_67 (tgt := 4) rfl ?_
  obtain ⟨g1, h⟩ := gs h
  cases h
  exact X_sub (sub_s (sub_s (sub_s (sub_s (sub_n sub_0))))) (k1 _ _ rfl rs0 g1)
def fX6_needOf_b46 (v1 : Int) (v2 : Int) (v3 : Int) (s0 : Int) (z : ZZ) : Option ((Int × Int) ⊕ (Int)) := (if (s0) = (0) then fX6_needOf_b63 (v1) (v3) (v2) z else (Option.bind (fX6_coursePart (v3) (2) z) fun r2 => fX6_needOf_b63 (v1) (v3) (r2) z))
set_option maxRecDepth 100000 in
theorem BX6_needOf_46 {ln N : Nat} {z : ZZ} {v1 : Int} {v2 : Int} {v3 : Int} {s0 : Int} {c9 s9 : Nat} {Φ : xRes → xS → Prop} (hN : 159 ≤ N ∧ N < 999999) (hz : okz z) (rv1 : inR v1) (rv2 : inR v2) (rv3 : inR v3) (rs0 : inR s0) {p : (Int × Int) ⊕ (Int)} (h : fX6_needOf_b46 v1 v2 v3 s0 z = some p) (k1 : ∀ (v2' : Int) (v3' : Int), p = .inl (v2', v3') → inR v2' → inR v3' → X mX6_needOf 4 [some (.ref (151)), some (.int (iN (v1))), some (.int (iN (v2'))), some (.int (iN (v3'))), none] [] (zmk ln N z) c9 s9 Φ) (k2 : ∀ (v2' : Int), p = .inr v2' → inR v2' → X mX6_needOf 70 [none, none, some (.int (iN (v2'))), none, none] [] (zmk ln N z) c9 s9 Φ) : X mX6_needOf 46 [some (.ref (151)), some (.int (iN (v1))), some (.int (iN (v2))), some (.int (iN (v3))), none] [.int (iN (s0))] (zmk ln N z) c9 s9 Φ := by
  unfold fX6_needOf_b46 at h
  refine X_istore (pc' := 48) dX6_needOf_46 rfl (cl rfl) (Or.inr rfl) (L' := [some (.ref (151)), some (.int (iN (v1))), some (.int (iN (v2))), some (.int (iN (v3))), some (.int (iN (s0)))]) rfl ?_
  refine X_iload (pc' := 50) dX6_needOf_48 rfl rfl ?_
  refine X_if_eq dX6_needOf_50 (tgt := 62) rfl (pc' := 53) rfl rs0 (fun c1 => ?_) (fun c1 => ?_)
  · have h := if_t c1 h
    refine X_iload_n (pc' := 63) dX6_needOf_62 rfl rfl ?_
    exact X_sub (sub_s (sub_s (sub_n (sub_s (sub_n sub_0))))) (BX6_needOf_63 hN hz rv1 rv3 rv2 h k1 k2)
  have h := if_f c1 h
  refine X_aload_n (pc' := 54) dX6_needOf_53 rfl rfl ?_
  refine X_iload_n (pc' := 55) dX6_needOf_54 rfl rfl ?_
  refine X_iconst (pc' := 56) dX6_needOf_55 rfl ?_
  obtain ⟨r2, q2, h⟩ := bs h
  refine Y_callV [.int (iN (v3)), .int (iN (2))] (pc' := 59) dX6_needOf_56 rfl VX6_268 (by decide) (zlN hN (by decide)) (congrArg Prod.fst (sh151 ln)) rfl rfl rfl (cs rfl) (cs rfl) rfl (CX6_coursePart hN hz rv3 (inR_c (n := 2) rfl) q2) (Nat.zero_add _).symm (Nat.zero_add _).symm (fun f2 => ?_)
  refine X_goto dX6_needOf_59 (tgt := 63) rfl ?_
  exact X_sub (sub_s (sub_s (sub_n (sub_s (sub_n sub_0))))) (BX6_needOf_63 hN hz rv1 rv3 f2 h k1 k2)
def fX6_needOf_b45 (v1 : Int) (v2 : Int) (v3 : Int) (z : ZZ) : Option ((Int × Int) ⊕ (Int)) := fX6_needOf_b46 (v1) (v2) (v3) (0) z
set_option maxRecDepth 100000 in
theorem BX6_needOf_45 {ln N : Nat} {z : ZZ} {v1 : Int} {v2 : Int} {v3 : Int} {c9 s9 : Nat} {Φ : xRes → xS → Prop} (hN : 159 ≤ N ∧ N < 999999) (hz : okz z) (rv1 : inR v1) (rv2 : inR v2) (rv3 : inR v3) {p : (Int × Int) ⊕ (Int)} (h : fX6_needOf_b45 v1 v2 v3 z = some p) (k1 : ∀ (v2' : Int) (v3' : Int), p = .inl (v2', v3') → inR v2' → inR v3' → X mX6_needOf 4 [some (.ref (151)), some (.int (iN (v1))), some (.int (iN (v2'))), some (.int (iN (v3'))), none] [] (zmk ln N z) c9 s9 Φ) (k2 : ∀ (v2' : Int), p = .inr v2' → inR v2' → X mX6_needOf 70 [none, none, some (.int (iN (v2'))), none, none] [] (zmk ln N z) c9 s9 Φ) : X mX6_needOf 45 [some (.ref (151)), some (.int (iN (v1))), some (.int (iN (v2))), some (.int (iN (v3))), none] [] (zmk ln N z) c9 s9 Φ := by
  unfold fX6_needOf_b45 at h
  refine X_iconst (pc' := 46) dX6_needOf_45 rfl ?_
  exact X_sub (sub_s (sub_s (sub_s (sub_s (sub_n sub_0))))) (BX6_needOf_46 hN hz rv1 rv2 rv3 (inR_c (n := 0) rfl) h k1 k2)
def fX6_needOf_b41 (v1 : Int) (v2 : Int) (v3 : Int) (z : ZZ) : Option ((Int × Int) ⊕ (Int)) := fX6_needOf_b46 (v1) (v2) (v3) (1) z
set_option maxRecDepth 100000 in
theorem BX6_needOf_41 {ln N : Nat} {z : ZZ} {v1 : Int} {v2 : Int} {v3 : Int} {c9 s9 : Nat} {Φ : xRes → xS → Prop} (hN : 159 ≤ N ∧ N < 999999) (hz : okz z) (rv1 : inR v1) (rv2 : inR v2) (rv3 : inR v3) {p : (Int × Int) ⊕ (Int)} (h : fX6_needOf_b41 v1 v2 v3 z = some p) (k1 : ∀ (v2' : Int) (v3' : Int), p = .inl (v2', v3') → inR v2' → inR v3' → X mX6_needOf 4 [some (.ref (151)), some (.int (iN (v1))), some (.int (iN (v2'))), some (.int (iN (v3'))), none] [] (zmk ln N z) c9 s9 Φ) (k2 : ∀ (v2' : Int), p = .inr v2' → inR v2' → X mX6_needOf 70 [none, none, some (.int (iN (v2'))), none, none] [] (zmk ln N z) c9 s9 Φ) : X mX6_needOf 41 [some (.ref (151)), some (.int (iN (v1))), some (.int (iN (v2))), some (.int (iN (v3))), none] [] (zmk ln N z) c9 s9 Φ := by
  unfold fX6_needOf_b41 at h
  refine X_iconst (pc' := 42) dX6_needOf_41 rfl ?_
  refine X_goto dX6_needOf_42 (tgt := 46) rfl ?_
  exact X_sub (sub_s (sub_s (sub_s (sub_s (sub_n sub_0))))) (BX6_needOf_46 hN hz rv1 rv2 rv3 (inR_c (n := 1) rfl) h k1 k2)
def fX6_needOf_s4 (v1 : Int) (v2 : Int) (v3 : Int) (z : ZZ) : Option ((Int × Int) ⊕ (Int)) := (if (v3) < ((z 154 (619))) then (Option.bind (fX6_coursePart (v3) (0) z) fun r2 => (if (r2) = (v1) then (if (v2) = ((-1)) then fX6_needOf_b41 (v1) (v2) (v3) z else (Option.bind (fX6_coursePart (v3) (2) z) fun r5 => (if (r5) < (v2) then fX6_needOf_b41 (v1) (v2) (v3) z else fX6_needOf_b45 (v1) (v2) (v3) z))) else fX6_needOf_b45 (v1) (v2) (v3) z)) else some (.inr v2))
set_option maxRecDepth 100000 in
theorem SX6_needOf_4 {ln N : Nat} {z : ZZ} {v1 : Int} {v2 : Int} {v3 : Int} {c9 s9 : Nat} {Φ : xRes → xS → Prop} (hN : 159 ≤ N ∧ N < 999999) (hz : okz z) (rv1 : inR v1) (rv2 : inR v2) (rv3 : inR v3) {p : (Int × Int) ⊕ (Int)} (h : fX6_needOf_s4 v1 v2 v3 z = some p) (k1 : ∀ (v2' : Int) (v3' : Int), p = .inl (v2', v3') → inR v2' → inR v3' → X mX6_needOf 4 [some (.ref (151)), some (.int (iN (v1))), some (.int (iN (v2'))), some (.int (iN (v3'))), none] [] (zmk ln N z) c9 s9 Φ) (k2 : ∀ (v2' : Int), p = .inr v2' → inR v2' → X mX6_needOf 70 [none, none, some (.int (iN (v2'))), none, none] [] (zmk ln N z) c9 s9 Φ) : X mX6_needOf 4 [some (.ref (151)), some (.int (iN (v1))), some (.int (iN (v2))), some (.int (iN (v3))), none] [] (zmk ln N z) c9 s9 Φ := by
  unfold fX6_needOf_s4 at h
  refine X_iload_n (pc' := 5) dX6_needOf_4 rfl rfl ?_
  refine X_aload_n (pc' := 6) dX6_needOf_5 rfl rfl ?_
  refine Y_get (pc' := 9) dX6_needOf_6 rfl FX6_16 (zlN hN (by decide)) (congrArg Prod.fst (sh151 ln)) (ct151_9 z) ?_
  refine X_sipush (pc' := 12) dX6_needOf_9 rfl (by decide) ?_
  refine Y_iald (pc' := 13) dX6_needOf_12 rfl (zlN hN (by decide)) (sh154 ln) (by decide) ⟨by decide, by decide⟩ ?_
  refine X_icmp_ge dX6_needOf_13 (tgt := 70) rfl (pc' := 16) rfl ⟨rv3.1, rv3.2, (hz 154 (619) (by decide)).1, (hz 154 (619) (by decide)).2⟩ (fun c1 => ?_) (fun c1 => ?_)
  · have h := if_f (Int.not_lt.mpr c1) h
    cases h
    exact X_sub (sub_n (sub_n (sub_s (sub_n (sub_n sub_0))))) (k2 _ rfl rv2)
  have h := if_t c1 h
  refine X_aload_n (pc' := 17) dX6_needOf_16 rfl rfl ?_
  refine X_iload_n (pc' := 18) dX6_needOf_17 rfl rfl ?_
  refine X_iconst (pc' := 19) dX6_needOf_18 rfl ?_
  obtain ⟨r2, q2, h⟩ := bs h
  refine Y_callV [.int (iN (v3)), .int (iN (0))] (pc' := 22) dX6_needOf_19 rfl VX6_268 (by decide) (zlN hN (by decide)) (congrArg Prod.fst (sh151 ln)) rfl rfl rfl (cs rfl) (cs rfl) rfl (CX6_coursePart hN hz rv3 (inR_c (n := 0) rfl) q2) (Nat.zero_add _).symm (Nat.zero_add _).symm (fun f2 => ?_)
  refine X_iload_n (pc' := 23) dX6_needOf_22 rfl rfl ?_
  refine X_icmp_ne dX6_needOf_23 (tgt := 45) rfl (pc' := 26) rfl ⟨f2.1, f2.2, rv1.1, rv1.2⟩ (fun c3 => ?_) (fun c3 => ?_)
  · have h := if_f c3 h
    exact X_sub (sub_s (sub_s (sub_s (sub_s (sub_n sub_0))))) (BX6_needOf_45 hN hz rv1 rv2 rv3 h k1 k2)
  have h := if_t c3 h
  refine X_iload_n (pc' := 27) dX6_needOf_26 rfl rfl ?_
  refine X_iconst (pc' := 28) dX6_needOf_27 rfl ?_
  refine X_icmp_eq dX6_needOf_28 (tgt := 41) rfl (pc' := 31) rfl ⟨rv2.1, rv2.2, (inR_c (n := (-1)) rfl).1, (inR_c (n := (-1)) rfl).2⟩ (fun c4 => ?_) (fun c4 => ?_)
  · have h := if_t c4 h
    exact X_sub (sub_s (sub_s (sub_s (sub_s (sub_n sub_0))))) (BX6_needOf_41 hN hz rv1 rv2 rv3 h k1 k2)
  have h := if_f c4 h
  refine X_aload_n (pc' := 32) dX6_needOf_31 rfl rfl ?_
  refine X_iload_n (pc' := 33) dX6_needOf_32 rfl rfl ?_
  refine X_iconst (pc' := 34) dX6_needOf_33 rfl ?_
  obtain ⟨r5, q5, h⟩ := bs h
  refine Y_callV [.int (iN (v3)), .int (iN (2))] (pc' := 37) dX6_needOf_34 rfl VX6_268 (by decide) (zlN hN (by decide)) (congrArg Prod.fst (sh151 ln)) rfl rfl rfl (cs rfl) (cs rfl) rfl (CX6_coursePart hN hz rv3 (inR_c (n := 2) rfl) q5) (Nat.zero_add _).symm (Nat.zero_add _).symm (fun f5 => ?_)
  refine X_iload_n (pc' := 38) dX6_needOf_37 rfl rfl ?_
  refine X_icmp_ge dX6_needOf_38 (tgt := 45) rfl (pc' := 41) rfl ⟨f5.1, f5.2, rv2.1, rv2.2⟩ (fun c6 => ?_) (fun c6 => ?_)
  · have h := if_f (Int.not_lt.mpr c6) h
    exact X_sub (sub_s (sub_s (sub_s (sub_s (sub_n sub_0))))) (BX6_needOf_45 hN hz rv1 rv2 rv3 h k1 k2)
  have h := if_t c6 h
  exact X_sub (sub_s (sub_s (sub_s (sub_s (sub_n sub_0))))) (BX6_needOf_41 hN hz rv1 rv2 rv3 h k1 k2)
theorem LX6_needOf_4 {ln N : Nat} {z : ZZ} {v1 : Int} {c9 s9 : Nat} {Φ : xRes → xS → Prop} (hN : 159 ≤ N ∧ N < 999999) (hz : okz z) (rv1 : inR v1) {r : Int} (k2 : ∀ (v2' : Int), r = v2' → inR v2' → X mX6_needOf 70 [none, none, some (.int (iN (v2'))), none, none] [] (zmk ln N z) c9 s9 Φ) : ∀ (n : Nat) (v2 : Int) (v3 : Int), inR v2 → inR v3 → zlp (fun q => fX6_needOf_s4 v1 q.1 q.2 z) n (v2, v3) = some r → X mX6_needOf 4 [some (.ref (151)), some (.int (iN (v1))), some (.int (iN (v2))), some (.int (iN (v3))), none] [] (zmk ln N z) c9 s9 Φ := by
  intro n
  induction n with
  | zero => intro v2 v3 rv2 rv3 h; cases h
  | succ n ih =>
    intro v2 v3 rv2 rv3 h
    rcases zlp_s h with ⟨⟨v2', v3'⟩, e, h'⟩ | e
    · exact SX6_needOf_4 hN hz rv1 rv2 rv3 e (fun v2₁ v3₁ hh f0 f1 => by cases hh; exact ih _ _ f0 f1 h') (fun v2₁ hh f0 => by cases hh)
    · exact SX6_needOf_4 hN hz rv1 rv2 rv3 e (fun v2₁ v3₁ hh f0 f1 => by cases hh) (fun v2₁ hh f0 => by cases hh; exact k2 _ rfl f0)
def fX6_needOf (v1 : Int) (z : ZZ) : Option (Int) := (Option.bind (zlp (fun q => fX6_needOf_s4 (v1) q.1 q.2 z) FU ((-1), 0)) fun x1_v2 => some (x1_v2))
set_option maxRecDepth 100000 in
theorem CX6_needOf {ln N : Nat} {z : ZZ} {v1 : Int} (hN : 159 ≤ N ∧ N < 999999) (hz : okz z) (rv1 : inR v1) {p : Int} (h : fX6_needOf v1 z = some p) : X mX6_needOf 0 (xEnt [.ref (151), .int (iN (v1))] (xL mX6_needOf)) [] (zmk ln N z) (cc_r p) (6 * cc_r p) (Qd (fa_r p) (rs_r p) (st_r ln N z p)) := by
  have k : Fin_r (Qd (fa_r p) (rs_r p) (st_r ln N z p)) ln N z p := Fin_r_i
  unfold fX6_needOf at h
  refine X_to (M := [some (.ref (151)), some (.int (iN (v1))), none, none, none]) (su := []) rfl rfl ?_
  refine X_iconst (pc' := 1) dX6_needOf_0 rfl ?_
  refine X_istore_n (pc' := 2) dX6_needOf_1 rfl (cl rfl) (Or.inr rfl) (L' := [some (.ref (151)), some (.int (iN (v1))), some (.int (iN ((-1)))), none, none]) rfl ?_
  refine X_iconst (pc' := 3) dX6_needOf_2 rfl ?_
  refine X_istore_n (pc' := 4) dX6_needOf_3 rfl (cl rfl) (Or.inr rfl) (L' := [some (.ref (151)), some (.int (iN (v1))), some (.int (iN ((-1)))), some (.int (iN (0))), none]) rfl ?_
  obtain ⟨x1_v2, q1, h⟩ := bs h
  refine X_sub (sub_s (sub_s (sub_s (sub_s (sub_n sub_0))))) (LX6_needOf_4 hN hz rv1 (fun x1_v2₁ hh rx1_v2 => ?_) FU _ _ (inR_c (n := (-1)) rfl) (inR_c (n := 0) rfl) q1)
  cases hh
  refine X_iload_n (pc' := 71) dX6_needOf_70 rfl rfl ?_
  cases h
  exact X_iret dX6_needOf_71 rfl (k rx1_v2)
def fX6_ladder_b75 (v1 : Int) (v2 : Int) (v3 : Int) (v4 : Int) (v5 : Int) (s1 : Int) (z : ZZ) : Option ((Int × Int × ZZ) ⊕ ((Int × ZZ) ⊕ (Int × ZZ))) := (Option.bind (fX6_fails (s1) (3) z) fun q1 => match q1 with | (r1, z1) => (if (r1) = (0) then (Option.bind (fX6_memberPart (v1) (2) z1) fun r3 => (if inR ((v5 - r3)) then (if inR ((v4 + 1)) then some (.inl ((max (v3) ((v5 - r3))), (v4 + 1), z1)) else none) else none)) else some (.inr (.inr ((0, z1))))))
set_option maxRecDepth 100000 in
theorem BX6_ladder_75 {ln N : Nat} {z : ZZ} {v1 : Int} {v2 : Int} {v3 : Int} {v4 : Int} {v5 : Int} {s1 : Int} {c9 s9 : Nat} {Φ : xRes → xS → Prop} (hN : 159 ≤ N ∧ N < 999999) (hz : okz z) (rv1 : inR v1) (rv2 : inR v2) (rv3 : inR v3) (rv4 : inR v4) (rv5 : inR v5) (rs1 : inR s1) {p : (Int × Int × ZZ) ⊕ ((Int × ZZ) ⊕ (Int × ZZ))} (h : fX6_ladder_b75 v1 v2 v3 v4 v5 s1 z = some p) (k1 : ∀ (v3' : Int) (v4' : Int) (z' : ZZ), p = .inl (v3', v4', z') → inR v3' → inR v4' → okz z' → X mX6_ladder 49 [some (.ref (151)), some (.int (iN (v1))), some (.int (iN (v2))), some (.int (iN (v3'))), some (.int (iN (v4'))), none] [] (zmk ln N z') c9 s9 Φ) (k2 : ∀ (v3' : Int) (z' : ZZ), p = .inr (.inl (v3', z')) → inR v3' → okz z' → X mX6_ladder 104 [none, none, none, some (.int (iN (v3'))), none, none] [] (zmk ln N z') c9 s9 Φ) (k3 : ∀ t, p = .inr (.inr t) → Fin_wi Φ ln N t) : X mX6_ladder 75 [some (.ref (151)), some (.int (iN (v1))), some (.int (iN (v2))), some (.int (iN (v3))), some (.int (iN (v4))), some (.int (iN (v5)))] [.int (iN (s1)), .ref (151)] (zmk ln N z) c9 s9 Φ := by
  unfold fX6_ladder_b75 at h
  refine X_iconst (pc' := 76) dX6_ladder_75 rfl ?_
  obtain ⟨⟨r1, z1⟩, q1, h⟩ := bs h
  refine Y_callV [.int (iN (s1)), .int (iN (3))] (pc' := 79) dX6_ladder_76 rfl VX6_62 (by decide) (zlN hN (by decide)) (congrArg Prod.fst (sh151 ln)) rfl rfl rfl (cs rfl) (cs rfl) rfl (CX6_fails hN hz rs1 (inR_c (n := 3) rfl) q1) (Nat.zero_add _).symm (Nat.zero_add _).symm (fun f1 => ?_)
  refine X_if_eq dX6_ladder_79 (tgt := 84) rfl (pc' := 82) rfl (inR_b f1.1) (fun c2 => ?_) (fun c2 => ?_)
  · have h := if_t c2 h
    refine X_iload_n (pc' := 85) dX6_ladder_84 rfl rfl ?_
    refine X_iload (pc' := 87) dX6_ladder_85 rfl rfl ?_
    refine X_aload_n (pc' := 88) dX6_ladder_87 rfl rfl ?_
    refine X_iload_n (pc' := 89) dX6_ladder_88 rfl rfl ?_
    refine X_iconst (pc' := 90) dX6_ladder_89 rfl ?_
    obtain ⟨r3, q3, h⟩ := bs h
    refine Y_callV [.int (iN (v1)), .int (iN (2))] (pc' := 93) dX6_ladder_90 rfl VX6_207 (by decide) (zlN hN (by decide)) (congrArg Prod.fst (sh151 ln)) rfl rfl rfl (cs rfl) (cs rfl) rfl (CX6_memberPart hN f1.2 rv1 (inR_c (n := 2) rfl) q3) (Nat.zero_add _).symm (Nat.zero_add _).symm (fun f3 => ?_)
    refine X_isub (pc' := 94) dX6_ladder_93 rfl ?_
    obtain ⟨g4, h⟩ := gs h
    refine X_mmax (pc' := 97) dX6_ladder_94 rfl tq1389 tq68 tq5 tq69 (cs rfl) ⟨rv3.1, rv3.2, g4.1, g4.2⟩ ?_
    refine X_istore_n (pc' := 98) dX6_ladder_97 rfl (cl rfl) (Or.inr rfl) (L' := [some (.ref (151)), some (.int (iN (v1))), some (.int (iN (v2))), some (.int (iN ((max (v3) ((v5 - r3)))))), some (.int (iN (v4))), some (.int (iN (v5)))]) rfl ?_
    refine X_iinc (pc' := 101) dX6_ladder_98 rfl rfl (Or.inr rfl) (L' := [some (.ref (151)), some (.int (iN (v1))), some (.int (iN (v2))), some (.int (iN ((max (v3) ((v5 - r3)))))), some (.int (iN (v4 + 1))), some (.int (iN (v5)))]) rfl ?_
    refine X_goto dX6_ladder_101 (tgt := 49) rfl ?_
    obtain ⟨g5, h⟩ := gs h
    cases h
    exact X_sub (sub_s (sub_s (sub_s (sub_s (sub_s (sub_n sub_0)))))) (k1 _ _ _ rfl (inR_max rv3 g4) g5 f1.2)
  have h := if_f c2 h
  refine X_iconst (pc' := 83) dX6_ladder_82 rfl ?_
  cases h
  exact X_iret dX6_ladder_83 rfl ((k3 _ rfl) ⟨(inR_c (n := 0) rfl), f1.2⟩)
def fX6_ladder_s49 (v1 : Int) (v2 : Int) (v3 : Int) (v4 : Int) (z : ZZ) : Option ((Int × Int × ZZ) ⊕ ((Int × ZZ) ⊕ (Int × ZZ))) := (if (v2) < (v4) then some (.inr (.inl (v3, z))) else (Option.bind (fX6_needOf (v4) z) fun r2 => (if (r2) = ((-1)) then fX6_ladder_b75 (v1) (v2) (v3) (v4) (r2) (0) z else fX6_ladder_b75 (v1) (v2) (v3) (v4) (r2) (1) z)))
set_option maxRecDepth 100000 in
theorem SX6_ladder_49 {ln N : Nat} {z : ZZ} {v1 : Int} {v2 : Int} {v3 : Int} {v4 : Int} {c9 s9 : Nat} {Φ : xRes → xS → Prop} (hN : 159 ≤ N ∧ N < 999999) (hz : okz z) (rv1 : inR v1) (rv2 : inR v2) (rv3 : inR v3) (rv4 : inR v4) {p : (Int × Int × ZZ) ⊕ ((Int × ZZ) ⊕ (Int × ZZ))} (h : fX6_ladder_s49 v1 v2 v3 v4 z = some p) (k1 : ∀ (v3' : Int) (v4' : Int) (z' : ZZ), p = .inl (v3', v4', z') → inR v3' → inR v4' → okz z' → X mX6_ladder 49 [some (.ref (151)), some (.int (iN (v1))), some (.int (iN (v2))), some (.int (iN (v3'))), some (.int (iN (v4'))), none] [] (zmk ln N z') c9 s9 Φ) (k2 : ∀ (v3' : Int) (z' : ZZ), p = .inr (.inl (v3', z')) → inR v3' → okz z' → X mX6_ladder 104 [none, none, none, some (.int (iN (v3'))), none, none] [] (zmk ln N z') c9 s9 Φ) (k3 : ∀ t, p = .inr (.inr t) → Fin_wi Φ ln N t) : X mX6_ladder 49 [some (.ref (151)), some (.int (iN (v1))), some (.int (iN (v2))), some (.int (iN (v3))), some (.int (iN (v4))), none] [] (zmk ln N z) c9 s9 Φ := by
  unfold fX6_ladder_s49 at h
  refine X_iload (pc' := 51) dX6_ladder_49 rfl rfl ?_
  refine X_iload_n (pc' := 52) dX6_ladder_51 rfl rfl ?_
  refine X_icmp_gt dX6_ladder_52 (tgt := 104) rfl (pc' := 55) rfl ⟨rv4.1, rv4.2, rv2.1, rv2.2⟩ (fun c1 => ?_) (fun c1 => ?_)
  · have h := if_t c1 h
    cases h
    exact X_sub (sub_n (sub_n (sub_n (sub_s (sub_n (sub_n sub_0)))))) (k2 _ _ rfl rv3 hz)
  have h := if_f (Int.not_lt.mpr c1) h
  refine X_aload_n (pc' := 56) dX6_ladder_55 rfl rfl ?_
  refine X_iload (pc' := 58) dX6_ladder_56 rfl rfl ?_
  obtain ⟨r2, q2, h⟩ := bs h
  refine Y_callV [.int (iN (v4))] (pc' := 61) dX6_ladder_58 rfl VX6_342 (by decide) (zlN hN (by decide)) (congrArg Prod.fst (sh151 ln)) rfl rfl rfl (cs rfl) (cs rfl) rfl (CX6_needOf hN hz rv4 q2) (Nat.zero_add _).symm (Nat.zero_add _).symm (fun f2 => ?_)
  refine X_istore (pc' := 63) dX6_ladder_61 rfl (cl rfl) (Or.inr rfl) (L' := [some (.ref (151)), some (.int (iN (v1))), some (.int (iN (v2))), some (.int (iN (v3))), some (.int (iN (v4))), some (.int (iN (r2)))]) rfl ?_
  refine X_aload_n (pc' := 64) dX6_ladder_63 rfl rfl ?_
  refine X_iload (pc' := 66) dX6_ladder_64 rfl rfl ?_
  refine X_iconst (pc' := 67) dX6_ladder_66 rfl ?_
  refine X_icmp_eq dX6_ladder_67 (tgt := 74) rfl (pc' := 70) rfl ⟨f2.1, f2.2, (inR_c (n := (-1)) rfl).1, (inR_c (n := (-1)) rfl).2⟩ (fun c3 => ?_) (fun c3 => ?_)
  · have h := if_t c3 h
    refine X_iconst (pc' := 75) dX6_ladder_74 rfl ?_
    exact X_sub (sub_s (sub_s (sub_s (sub_s (sub_s (sub_s sub_0)))))) (BX6_ladder_75 hN hz rv1 rv2 rv3 rv4 f2 (inR_c (n := 0) rfl) h k1 k2 k3)
  have h := if_f c3 h
  refine X_iconst (pc' := 71) dX6_ladder_70 rfl ?_
  refine X_goto dX6_ladder_71 (tgt := 75) rfl ?_
  exact X_sub (sub_s (sub_s (sub_s (sub_s (sub_s (sub_s sub_0)))))) (BX6_ladder_75 hN hz rv1 rv2 rv3 rv4 f2 (inR_c (n := 1) rfl) h k1 k2 k3)
theorem LX6_ladder_49 {ln N : Nat} {v1 : Int} {v2 : Int} {c9 s9 : Nat} {Φ : xRes → xS → Prop} (hN : 159 ≤ N ∧ N < 999999) (rv1 : inR v1) (rv2 : inR v2) {r : (Int × ZZ) ⊕ (Int × ZZ)} (k2 : ∀ (v3' : Int) (z' : ZZ), r = .inl (v3', z') → inR v3' → okz z' → X mX6_ladder 104 [none, none, none, some (.int (iN (v3'))), none, none] [] (zmk ln N z') c9 s9 Φ) (k3 : ∀ t, r = .inr t → Fin_wi Φ ln N t) : ∀ (n : Nat) (v3 : Int) (v4 : Int) (z : ZZ), inR v3 → inR v4 → okz z → zlp (fun q => fX6_ladder_s49 v1 v2 q.1 q.2.1 q.2.2) n (v3, v4, z) = some r → X mX6_ladder 49 [some (.ref (151)), some (.int (iN (v1))), some (.int (iN (v2))), some (.int (iN (v3))), some (.int (iN (v4))), none] [] (zmk ln N z) c9 s9 Φ := by
  intro n
  induction n with
  | zero => intro v3 v4 z rv3 rv4 hz h; cases h
  | succ n ih =>
    intro v3 v4 z rv3 rv4 hz h
    rcases zlp_s h with ⟨⟨v3', v4', z'⟩, e, h'⟩ | e
    · exact SX6_ladder_49 hN hz rv1 rv2 rv3 rv4 e (fun v3₁ v4₁ z₁ hh f0 f1 f2 => by cases hh; exact ih _ _ _ f0 f1 f2 h') (fun v3₁ z₁ hh f0 f1 => by cases hh) (fun t hh => by cases hh)
    · exact SX6_ladder_49 hN hz rv1 rv2 rv3 rv4 e (fun v3₁ v4₁ z₁ hh f0 f1 f2 => by cases hh) (fun v3₁ z₁ hh f0 f1 => by cases hh; exact k2 _ _ rfl f0 f1) (fun t hh => by cases hh; exact k3 t rfl)
def fX6_ladder (v1 : Int) (v2 : Int) (z : ZZ) : Option (Int × ZZ) := (zl (zup z 151 0 (0)) fun z1 => (Option.bind (fX6_isMember (v1) z1) fun r2 => (Option.bind (fX6_fails (r2) (1) z1) fun q3 => match q3 with | (r3, z3) => (if (r3) = (0) then (Option.bind (fX6_in (v2) (0) (5) z3) fun r5 => (Option.bind (fX6_fails (r5) (2) z3) fun q6 => match q6 with | (r6, z6) => (if (r6) = (0) then (Option.bind (fX6_memberPart (v1) (1) z6) fun r8 => (if inR ((r8 + 1)) then (Option.bind (zlp (fun q => fX6_ladder_s49 (v1) (v2) q.1 q.2.1 q.2.2) FU (0, (r8 + 1), z6)) fun q10 => match q10 with | .inl (x10_v3, x10_z) => some (x10_v3, x10_z) | .inr y10 => some y10) else none)) else some (0, z6)))) else some (0, z3)))))
set_option maxRecDepth 100000 in
theorem CX6_ladder {ln N : Nat} {z : ZZ} {v1 : Int} {v2 : Int} (hN : 159 ≤ N ∧ N < 999999) (hz : okz z) (rv1 : inR v1) (rv2 : inR v2) {p : Int × ZZ} (h : fX6_ladder v1 v2 z = some p) : X mX6_ladder 0 (xEnt [.ref (151), .int (iN (v1)), .int (iN (v2))] (xL mX6_ladder)) [] (zmk ln N z) (cc_wi p) (6 * cc_wi p) (Qd (fa_wi p) (rs_wi p) (st_wi ln N p)) := by
  have k : Fin_wi (Qd (fa_wi p) (rs_wi p) (st_wi ln N p)) ln N p := Fin_wi_i
  unfold fX6_ladder at h
  refine X_to (M := [some (.ref (151)), some (.int (iN (v1))), some (.int (iN (v2))), none, none, none]) (su := []) rfl rfl ?_
  refine X_aload_n (pc' := 1) dX6_ladder_0 rfl rfl ?_
  refine X_iconst (pc' := 2) dX6_ladder_1 rfl ?_
  refine Y_put (k := 0) (j := 0) (v := 0) (pc' := 5) dX6_ladder_2 rfl FX6_51 (zlN hN (by decide)) (congrArg Prod.fst (sh151 ln)) (fun r hr => by cases hr; rfl) (xFit_int _) rfl rfl ?_
  obtain ⟨z1, e1, hz1, h⟩ := zl_some (P := okz) h (okz_up hz (inR_c (n := 0) rfl))
  rw [e1]
  refine X_aload_n (pc' := 6) dX6_ladder_5 rfl rfl ?_
  refine X_aload_n (pc' := 7) dX6_ladder_6 rfl rfl ?_
  refine X_iload_n (pc' := 8) dX6_ladder_7 rfl rfl ?_
  obtain ⟨r2, q2, h⟩ := bs h
  refine Y_callV [.int (iN (v1))] (pc' := 11) dX6_ladder_8 rfl VX6_244 (by decide) (zlN hN (by decide)) (congrArg Prod.fst (sh151 ln)) rfl rfl rfl (cs rfl) (cs rfl) rfl (CX6_isMember hN hz1 rv1 q2) (Nat.zero_add _).symm (Nat.zero_add _).symm (fun f2 => ?_)
  refine X_iconst (pc' := 12) dX6_ladder_11 rfl ?_
  obtain ⟨⟨r3, z3⟩, q3, h⟩ := bs h
  refine Y_callV [.int (iN (r2)), .int (iN (1))] (pc' := 15) dX6_ladder_12 rfl VX6_62 (by decide) (zlN hN (by decide)) (congrArg Prod.fst (sh151 ln)) rfl rfl rfl (cs rfl) (cs rfl) rfl (CX6_fails hN hz1 (inR_b f2) (inR_c (n := 1) rfl) q3) (Nat.zero_add _).symm (Nat.zero_add _).symm (fun f3 => ?_)
  refine X_if_ne dX6_ladder_15 (tgt := 35) rfl (pc' := 18) rfl (inR_b f3.1) (fun c4 => ?_) (fun c4 => ?_)
  · have h := if_f c4 h
    refine X_iconst (pc' := 36) dX6_ladder_35 rfl ?_
    cases h
    exact X_iret dX6_ladder_36 rfl (k ⟨(inR_c (n := 0) rfl), f3.2⟩)
  have h := if_t c4 h
  refine X_aload_n (pc' := 19) dX6_ladder_18 rfl rfl ?_
  refine X_iload_n (pc' := 20) dX6_ladder_19 rfl rfl ?_
  refine X_lI_i2l (pc' := 21) dX6_ladder_20 rfl rv2 ?_
  refine X_lI_const (pc' := 22) dX6_ladder_21 rfl (a := 0) rfl ?_
  refine X_ldc2 (pc' := 25) dX6_ladder_22 rfl tq1530 (n := 5) rfl ?_
  obtain ⟨r5, q5, h⟩ := bs h
  refine Y_callS [.long (lI (v2)), .long (lI (0)), .long (lI (5))] (pc' := 28) dX6_ladder_25 rfl SX6_66 (by decide) rfl (cs rfl) (cs rfl) rfl (CX6_in hN f3.2 (inL_R rv2) (inL_c (n := 0) rfl) (inL_c (n := 5) rfl) q5) (Nat.zero_add _).symm (Nat.zero_add _).symm (fun f5 => ?_)
  refine X_iconst (pc' := 29) dX6_ladder_28 rfl ?_
  obtain ⟨⟨r6, z6⟩, q6, h⟩ := bs h
  refine Y_callV [.int (iN (r5)), .int (iN (2))] (pc' := 32) dX6_ladder_29 rfl VX6_62 (by decide) (zlN hN (by decide)) (congrArg Prod.fst (sh151 ln)) rfl rfl rfl (cs rfl) (cs rfl) rfl (CX6_fails hN f3.2 (inR_b f5) (inR_c (n := 2) rfl) q6) (Nat.zero_add _).symm (Nat.zero_add _).symm (fun f6 => ?_)
  refine X_if_eq dX6_ladder_32 (tgt := 37) rfl (pc' := 35) rfl (inR_b f6.1) (fun c7 => ?_) (fun c7 => ?_)
  · have h := if_t c7 h
    refine X_iconst (pc' := 38) dX6_ladder_37 rfl ?_
    refine X_istore_n (pc' := 39) dX6_ladder_38 rfl (cl rfl) (Or.inr rfl) (L' := [some (.ref (151)), some (.int (iN (v1))), some (.int (iN (v2))), some (.int (iN (0))), none, none]) rfl ?_
    refine X_aload_n (pc' := 40) dX6_ladder_39 rfl rfl ?_
    refine X_iload_n (pc' := 41) dX6_ladder_40 rfl rfl ?_
    refine X_iconst (pc' := 42) dX6_ladder_41 rfl ?_
    obtain ⟨r8, q8, h⟩ := bs h
    refine Y_callV [.int (iN (v1)), .int (iN (1))] (pc' := 45) dX6_ladder_42 rfl VX6_207 (by decide) (zlN hN (by decide)) (congrArg Prod.fst (sh151 ln)) rfl rfl rfl (cs rfl) (cs rfl) rfl (CX6_memberPart hN f6.2 rv1 (inR_c (n := 1) rfl) q8) (Nat.zero_add _).symm (Nat.zero_add _).symm (fun f8 => ?_)
    refine X_iconst (pc' := 46) dX6_ladder_45 rfl ?_
    refine X_iadd (pc' := 47) dX6_ladder_46 rfl ?_
    refine X_istore (pc' := 49) dX6_ladder_47 rfl (cl rfl) (Or.inr rfl) (L' := [some (.ref (151)), some (.int (iN (v1))), some (.int (iN (v2))), some (.int (iN (0))), some (.int (iN ((r8 + 1)))), none]) rfl ?_
    obtain ⟨g9, h⟩ := gs h
    obtain ⟨⟨x10_v3, x10_z⟩ | y10, q10, h⟩ := bs h
    rotate_left
    · exact X_sub (sub_s (sub_s (sub_s (sub_s (sub_s (sub_n sub_0)))))) (LX6_ladder_49 hN rv1 rv2 (fun x10_v3₁ x10_z₁ hh rx10_v3 hx10_z => by cases hh) (fun t hh => by cases hh; cases h; exact k) FU _ _ _ (inR_c (n := 0) rfl) g9 f6.2 q10)
    refine X_sub (sub_s (sub_s (sub_s (sub_s (sub_s (sub_n sub_0)))))) (LX6_ladder_49 hN rv1 rv2 (fun x10_v3₁ x10_z₁ hh rx10_v3 hx10_z => ?_) (fun t hh => by cases hh) FU _ _ _ (inR_c (n := 0) rfl) g9 f6.2 q10)
    cases hh
    refine X_iload_n (pc' := 105) dX6_ladder_104 rfl rfl ?_
    cases h
    exact X_iret dX6_ladder_105 rfl (k ⟨rx10_v3, hx10_z⟩)
  have h := if_f c7 h
  refine X_iconst (pc' := 36) dX6_ladder_35 rfl ?_
  cases h
  exact X_iret dX6_ladder_36 rfl (k ⟨(inR_c (n := 0) rfl), f6.2⟩)

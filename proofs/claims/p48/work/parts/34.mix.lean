/-! exact room: calls that make nothing, and the cell that a thrown exception leaves -/
def djk (D : DD) : DD := (dT D + 1, dS D + 6, fun a => if a = dT D then (0, 0) else dH D a, fun a k => if a = dT D then 0 else dW D a k)
def djn : Nat → DD → DD
  | 0, D => D
  | n + 1, D => djk (djn n D)
theorem okS_low {D D' : DD} (hT : dT D ≤ dT D') (hH : ∀ a, a < dT D → dH D' a = dH D a) {s k : Nat} {v : Int} (hv : okS D s k v) : okS D' s k v := by
  have hE : ∀ v, gdE D v → gdE D' v := fun v h => by
    rcases h with h | ⟨h1, h2, h3⟩ | h
    · exact Or.inl h
    · exact Or.inr (Or.inl ⟨h1, Int.lt_of_lt_of_le h2 hT, by rw [hH v h2]; exact h3⟩)
    · exact Or.inr (Or.inr h)
  unfold okS at hv ⊢
  split
  · rw [if_pos (by assumption)] at hv; exact hE _ hv
  · rw [if_neg (by assumption)] at hv
    split
    · rw [if_pos (by assumption)] at hv; exact hv.elim (fun q => Or.inl (hE _ q)) Or.inr
    · rw [if_neg (by assumption)] at hv; exact hv
theorem djk_H {D : DD} {a : Int} (h : a < dT D) : dH (djk D) a = dH D a := if_neg (by omega)
theorem djk_W {D : DD} {a k : Int} (h : a ≠ dT D) : dW (djk D) a k = dW D a k := if_neg h
theorem okD_djk {D : DD} (h : okD D) (h1 : dT D < 600000) (h2 : dS D + 6 ≤ 7200000) : okD (djk D) := by
  obtain ⟨a1, a2, a3⟩ := h
  refine ⟨⟨by show 151 ≤ dT D + 1; omega, by show dT D + 1 ≤ 600000; omega⟩, ⟨by show 0 ≤ dS D + 6; omega, by show dS D + 6 ≤ 7200000; omega⟩, fun a q1 q2 => ?_⟩
  have q2 : a < dT D + 1 := q2
  by_cases c : a = dT D
  · have e : dH (djk D) a = (0, 0) := if_pos c
    rw [e]
    refine ⟨⟨Or.inr rfl, by decide⟩, fun k => ?_⟩
    have e2 : dW (djk D) a k = 0 := if_pos c
    rw [e2]
    exact okS_0 _ _ _
  · have q3 : a < dT D := by omega
    have := a3 a q1 q3
    rw [djk_H q3]
    refine ⟨this.1, fun k => ?_⟩
    rw [djk_W c]
    exact okS_low (show dT D ≤ dT D + 1 by omega) (fun a h => djk_H h) (this.2 k)
theorem okD_djn {D : DD} (h : okD D) : ∀ n : Nat, dT D + n ≤ 600000 → dS D + 6 * n ≤ 7200000 → okD (djn n D) ∧ dT (djn n D) = dT D + n ∧ dS (djn n D) = dS D + 6 * n
  | 0, _, _ => ⟨h, by show dT D = dT D + 0; omega, by show dS D = dS D + 6 * 0; omega⟩
  | n + 1, h1, h2 => by
    obtain ⟨a, b, c⟩ := okD_djn h n (by omega) (by omega)
    refine ⟨okD_djk a (by omega) (by omega), ?_, ?_⟩
    · show dT (djn n D) + 1 = _
      omega
    · show dS (djn n D) + 6 = _
      omega
section MX
variable {μ μ' : xM} {pc pc' : Nat} {L : List (Option Value)} {st : List Value} {ln : Nat} {D : DD} {z z' : ZZ} {c9 s9 : Nat} {Φ : xRes → xS → Prop}
abbrev X0 (μ : xM) (pc : Nat) (L : List (Option Value)) (st : List Value) (ln : Nat) (D : DD) (z : ZZ) (Φ : xRes → xS → Prop) : Prop := X μ pc L st (sD ln D z) 0 0 Φ
theorem xjunk_eq (hD : okD D) : ∀ g H, xRep g (zmk (ln, D) ((dT D).toNat + 1) z) H → xRep g (sD ln (djk D) z) H := by
  have hd := hD.1
  intro g H ⟨r1, r2, r3, r4⟩
  have eT : (dT (djk D)).toNat = (dT D).toNat + 1 := by show (dT D + 1).toNat = _; omega
  have hsh : ∀ b : Nat, zSH (ln, djk D) b = zSH (ln, D) b := by
    intro b
    unfold zSH
    by_cases c1 : b < 151
    · rw [if_pos c1, if_pos c1]
    · rw [if_neg c1, if_neg c1]
      by_cases c2 : b < 1000000
      · rw [if_pos c2, if_pos c2]
        show (if (b : Int) < dT D + 1 then (if (b : Int) = dT D then (0, 0) else dH D b) else (0, 0)) = if (b : Int) < dT D then dH D b else (0, 0)
        by_cases c3 : (b : Int) < dT D
        · rw [if_pos (by omega), if_pos c3, if_neg (by omega)]
        · rw [if_neg c3]
          by_cases c4 : (b : Int) = dT D
          · rw [if_pos (by omega), if_pos c4]
          · rw [if_neg (by omega)]
      · rw [if_neg c2, if_neg c2]
  have hct : ∀ b : Nat, b ≠ (dT D).toNat → zCD (ln, djk D) z b = zCD (ln, D) z b := by
    intro b hb
    funext k
    unfold zCD
    by_cases c : 151 ≤ b ∧ b < 1000000
    · rw [if_pos c, if_pos c, hsh b]
      show dcv _ k (if (b : Int) = dT D then 0 else dW D b k) = dcv _ k (dW D b k)
      rw [if_neg (by omega)]
    · rw [if_neg c, if_neg c]
  refine ⟨?_, ?_, fun b hb => ?_, fun b hb => ?_⟩
  · show H.size = gB g + (dT (djk D)).toNat
    rw [eT]
    exact r1
  · show (dT (djk D)).toNat ≤ 1000000
    omega
  · have hb' : b < (dT D).toNat + 1 := by rw [← eT]; exact hb
    have q := r3 b (show b < (dT D).toNat + 1 from hb')
    show xcell g (zSH (ln, djk D) b) (zCD (ln, djk D) z b) (gB g + b) H
    rw [hsh b]
    by_cases c : b = (dT D).toNat
    · refine Or.inl ?_
      subst c
      unfold zSH
      rw [if_neg (by omega), if_pos (by omega), if_neg (by show ¬ (((dT D).toNat : Nat) : Int) < dT D; omega)]
    · rw [hct b c]
      exact q
  · have q := r4 b hb
    refine ⟨(hsh b).trans q.1, ?_⟩
    rw [show (sD ln (djk D) z).2.2 b = zCD (ln, djk D) z b from rfl, hct b (by omega)]
    exact q.2
theorem hNm (hD : okD D) : tN (ln, D) ≤ (dT D).toNat ∧ (dT D).toNat < 999999 := by
  have := hD.1
  refine ⟨?_, by omega⟩
  show max 151 (dT D).toNat ≤ (dT D).toNat
  omega
theorem ebud0 (hD : okD D) {L : List (Option Value)} {st : List Value} (k9 : X μ pc' L st (sD ln D z') c9 s9 Φ) : ∃ u, xUse (sD ln D z) (sD ln D z') u ∧ (sD ln D z').1 - (sD ln D z).1 ≤ c9 ∧ u ≤ s9 ∧ X μ pc' L st (sD ln D z') (c9 - ((sD ln D z').1 - (sD ln D z).1)) (s9 - u) Φ := by
  have e1 : (sD ln D z').1 - (sD ln D z).1 = 0 := Nat.sub_self _
  have e2 : (dS D - dS D).toNat = 0 := by omega
  refine ⟨(dS D - dS D).toNat, xuse_D hD hD (DLe_refl D), by rw [e1]; exact Nat.zero_le _, by rw [e2]; exact Nat.zero_le _, ?_⟩
  rw [e1, e2]
  exact k9
theorem E0_callS {idx n : Nat} {F : Prop} {w : Option Value} (As : List Value) {st0 : List Value} (hd : decode (xB μ) pc = .ok (.invokestatic idx, 3)) (hp : pc + 3 = pc') (hL : xLSn (xY μ).cls idx μ' n) (hk : xK μ' < xK μ) (hn : As.length = n) (hA1 : ∀ v ∈ As, v.category = 1) (hA : As.length ≤ xL μ') (hs1 : ∀ v ∈ st, v.category = 1) (hs8 : st.length ≤ 8) (hst : As.reverse ++ st = st0) (hD : okD D)
    (hX : X0 μ' 0 (xEnt As (xL μ')) [] ln D z (Qd (FdD D D F) (.inl w) (sD ln D z'))) (k9 : okD D → DLe D D → F → X μ pc' L (w.toList ++ st) (sD ln D z') c9 s9 Φ) : X μ pc L st0 (sD ln D z) c9 s9 Φ :=
  X_callST As hd hp hL.1 hL.2.1 hL.2.2.1 hL.2.2.2 hk hn (by rw [cat_sum hA1]; exact hA) (by rw [cat_sum hs1]; exact hs8) hst hX ⟨Nat.zero_le _, Nat.zero_le _⟩ (fun h => ebud0 hD (k9 h.1 h.2.1 h.2.2))
theorem E0_callV {idx n : Nat} {e : Int} {C : String} {F : Prop} {w : Option Value} (As : List Value) {st0 : List Value} (hd : decode (xB μ) pc = .ok (.invokevirtual idx, 3)) (hp : pc + 3 = pc') (hL : xLVc (xY μ).cls idx μ' n C) (hk : xK μ' < xK μ) (he : 0 < e ∧ xIs (sD ln D z) e.toNat C) (hn : As.length = n) (hA1 : ∀ v ∈ As, v.category = 1) (hA : As.length + 1 ≤ xL μ') (hs1 : ∀ v ∈ st, v.category = 1) (hs8 : st.length ≤ 8) (hst : As.reverse ++ rV e :: st = st0) (hD : okD D)
    (hX : X0 μ' 0 (xEnt (rV e :: As) (xL μ')) [] ln D z (Qd (FdD D D F) (.inl w) (sD ln D z'))) (k9 : okD D → DLe D D → F → X μ pc' L (w.toList ++ st) (sD ln D z') c9 s9 Φ) : X μ pc L st0 (sD ln D z) c9 s9 Φ := by
  rw [rV_p he.1] at hst hX
  exact X_callVT As hd hp hL.1 hL.2.1 hL.2.2.1 hL.2.2.2.1 hL.2.2.2.2 hk he.2 hn (by rw [List.map_cons, List.sum_cons, cat_sum hA1]; show 1 + _ ≤ _; omega) (by rw [cat_sum hs1]; exact hs8) hst hX ⟨Nat.zero_le _, Nat.zero_le _⟩ (fun h => ebud0 hD (k9 h.1 h.2.1 h.2.2))
theorem X_ldcSw {idx a : Nat} {tx : String} {σ : xS} (hd : decode (xB μ) pc = .ok (.ldc_w idx, 3)) (hp : pc + 3 = pc') (hq : ((xY μ).cls, idx, tx, a) ∈ xstr) (ha : 1000000 ≤ a) (k9 : X μ pc' L (.ref a :: st) σ c9 s9 Φ) : X μ pc L st σ c9 s9 Φ := by
  subst hp
  intro g p l e R s m args below meth cd Q hC hE H locs cells slots ls hR hL hS hc hs9
  obtain ⟨t, he, hZ⟩ := hC.2.2.2.2.2.2.2.2.2.2.2.2.2.2.2.2.2.2.1 _ hq
  have k9 := (k9 g p l e R s m args below meth cd Q hC hE H locs cells slots ls hR hL hS hc hs9)
  rw [List.map_cons, xv_stat g ha] at k9
  rw [show gV g a = .ref t from he] at k9
  intro T hT X
  obtain ⟨t2, a1, b1⟩ := k9 T hT X
  exact ⟨t2, X.ldcStringW hC.1 hC.2.2.2.2.2.1 (text := tx) (a := t) hZ.1 hZ.2 (g := F0 m pc ls (st.map (xv g))) rfl (by rw [hC.2.1]; exact hd) t2 a1, b1⟩
theorem E_ldcSw {idx a : Nat} {tx : String} {σ : xS} (hd : decode (xB μ) pc = .ok (.ldc_w idx, 3)) (hp : pc + 3 = pc') (hq : ((xY μ).cls, idx, tx, a) ∈ xstr) (ha : 1000000 ≤ a) (k9 : X μ pc' L (rV (a : Int) :: st) σ c9 s9 Φ) : X μ pc L st σ c9 s9 Φ := X_ldcSw hd hp hq ha (by rw [← rV_n (a := a) (by omega)]; exact k9)
/-- the class's own methods, of the class object m -/
theorem E0_callM {idx n : Nat} {F : Prop} {w : Option Value} (As : List Value) {st0 : List Value} (hd : decode (xB μ) pc = .ok (.invokevirtual idx, 3)) (hp : pc + 3 = pc') (hL : xLV (xY μ).cls idx μ' n) (hk : xK μ' < xK μ) (hcl : (xY μ').cls = "ClimbingHall") (hn : As.length = n) (hA1 : ∀ v ∈ As, v.category = 1) (hA : As.length + 1 ≤ xL μ') (hs1 : ∀ v ∈ st, v.category = 1) (hs8 : st.length ≤ 8) (hst : As.reverse ++ .ref 0 :: st = st0) (hD : okD D)
    (hX : X μ' 0 (xEnt (.ref 0 :: As) (xL μ')) [] (zmk (ln, D) (dT D).toNat z) 0 0 (Qd F (.inl w) (zmk (ln, D) (dT D).toNat z'))) (k9 : F → X μ pc' L (w.toList ++ st) (sD ln D z') c9 s9 Φ) : X μ pc L st0 (sD ln D z) c9 s9 Φ := by
  have h0 := hD.1
  have h1 : ((Value.ref 0 :: As).map fun v => v.category).sum ≤ xL μ' := by rw [List.map_cons, List.sum_cons, cat_sum hA1]; show 1 + _ ≤ _; omega
  cases w with
  | some w => exact Y_callV As hd hp hL hk (c := 5) ⟨by omega, by omega⟩ rfl rfl hcl.symm hn h1 (by rw [cat_sum hs1]; exact hs8) hst hX (Nat.zero_add _).symm (Nat.zero_add _).symm k9
  | none => exact Y_callVv As hd hp hL hk (c := 5) ⟨by omega, by omega⟩ rfl rfl hcl.symm hn h1 (by rw [cat_sum hs1]; exact hs8) hst hX (Nat.zero_add _).symm (Nat.zero_add _).symm k9
theorem E0_callMH {idx n : Nat} {F : Prop} {w : Option Value} (As : List Value) {st0 : List Value} (hd : decode (xB μ) pc = .ok (.invokevirtual idx, 3)) (hp : pc + 3 = pc') (hL : xLV (xY μ).cls idx μ' n) (hk : xK μ' < xK μ) (hcl : (xY μ').cls = "ClimbingHall") (hn : As.length = n) (hA1 : ∀ v ∈ As, v.category = 1) (hA : As.length + 1 ≤ xL μ') (hs1 : ∀ v ∈ st, v.category = 1) (hs8 : st.length ≤ 8) (hst : As.reverse ++ .ref 0 :: st = st0) (hD : okD D)
    (hX : X μ' 0 (xEnt (.ref 0 :: As) (xL μ')) [] (zmk (ln, D) (dT D).toNat z) 0 0 (Qd F (.inl w) (zmk (ln, D) (dT D).toNat z'))) (k9 : F → X μ pc' L (w.toList ++ st) (sD ln D z') c9 s9 Φ) : X μ pc L st0 (sD ln D z) c9 s9 Φ := by
  have h0 := hD.1
  have h1 : ((Value.ref 0 :: As).map fun v => v.category).sum ≤ xL μ' := by rw [List.map_cons, List.sum_cons, cat_sum hA1]; show 1 + _ ≤ _; omega
  exact X_callVH As hd hp hL.1 hL.2.1 hL.2.2.1 hL.2.2.2.1 hL.2.2.2.2 hk (a := 0) (c := 5) (show 0 < (dT D).toNat by omega) rfl rfl hcl.symm hn h1 (by rw [cat_sum hs1]; exact hs8) hst hX (Nat.zero_add _).symm (Nat.zero_add _).symm (fun v τ' h => by obtain ⟨hF, h1, rfl⟩ := h; cases h1; exact k9 hF) (fun E τ h => by cases h.2.1)
theorem E0_callMx {idx n E i to : Nat} {F : Prop} (As : List Value) {st0 : List Value} (hd : decode (xB μ) pc = .ok (.invokevirtual idx, 3)) (hp : pc + 3 = pc') (hL : xLV (xY μ).cls idx μ' n) (hk : xK μ' < xK μ) (hcl : (xY μ').cls = "ClimbingHall") (hn : As.length = n) (hA1 : ∀ v ∈ As, v.category = 1) (hA : As.length + 1 ≤ xL μ') (hs1 : ∀ v ∈ st, v.category = 1) (hs8 : st.length ≤ 8) (hst : As.reverse ++ .ref 0 :: st = st0) (hD : okD D)
    (hX : X μ' 0 (xEnt (.ref 0 :: As) (xL μ')) [] (zmk (ln, D) (dT D).toNat z) 1 6 (Qd F (.inr E) (zmk (ln, D) ((dT D).toNat + 1) z'))) (hh : xHan μ E pc i to) (hi : i = 0 ∨ xC1 L[i - 1]? = true) (k9 : F → X μ to (L.set i none) [] (sD ln (djk D) z') 0 0 Φ) : X μ pc L st0 (sD ln D z) 1 6 Φ := by
  have h0 := hD.1
  have h1 : ((Value.ref 0 :: As).map fun v => v.category).sum ≤ xL μ' := by rw [List.map_cons, List.sum_cons, cat_sum hA1]; show 1 + _ ≤ _; omega
  exact X_callVH As hd hp hL.1 hL.2.1 hL.2.2.1 hL.2.2.2.1 hL.2.2.2.2 hk (a := 0) (c := 5) (show 0 < (dT D).toNat by omega) rfl rfl hcl.symm hn h1 (by rw [cat_sum hs1]; exact hs8) hst hX (c7 := 0) (s7 := 0) rfl rfl (fun v τ' h => by cases h.2.1) (fun E' τ' h => by obtain ⟨hF, h1, rfl⟩ := h; cases h1; exact ⟨i, to, hh, hi, X_from (xjunk_eq hD) (k9 hF)⟩)
/-- the law's own methods, with exact room -/
theorem E0_callJ {idx n k c7 : Nat} {F : Prop} {w : Value} {τ : xS} (As : List Value) {st0 : List Value} (hd : decode (xB μ) pc = .ok (.invokestatic idx, 3)) (hp : pc + 3 = pc') (hL : xLS (xY μ).cls idx μ' n) (hk : xK μ' < xK μ) (hn : As.length = n) (hA1 : ∀ v ∈ As, v.category = 1) (hA : As.length ≤ xL μ') (hs1 : ∀ v ∈ st, v.category = 1) (hs8 : st.length ≤ 8) (hst : As.reverse ++ st = st0)
    (hX : X μ' 0 (xEnt As (xL μ')) [] (sD ln D z) k (6 * k) (Qd F (.inl (some w)) τ)) (hc : c9 = k + c7) (k9 : F → X μ pc' L (w :: st) τ c7 (6 * c7) Φ) : X μ pc L st0 (sD ln D z) c9 (6 * c9) Φ :=
  Y_callS As hd hp hL hk hn (by rw [cat_sum hA1]; exact hA) (by rw [cat_sum hs1]; exact hs8) hst hX hc (by omega) k9
theorem E0_callH {idx n k c7 : Nat} {F : Prop} {w : Value} {τ : xS} (As : List Value) {st0 : List Value} (hd : decode (xB μ) pc = .ok (.invokestatic idx, 3)) (hp : pc + 3 = pc') (hL : xLH (xY μ).cls idx μ' n) (hk : xK μ' < xK μ) (hn : As.length = n) (hA1 : ∀ v ∈ As, v.category = 1) (hA : As.length ≤ xL μ') (hs1 : ∀ v ∈ st, v.category = 1) (hs8 : st.length ≤ 8) (hst : As.reverse ++ st = st0)
    (hX : X μ' 0 (xEnt As (xL μ')) [] (sD ln D z) k (6 * k) (Qd F (.inl (some w)) τ)) (hc : c9 = k + c7) (k9 : F → X μ pc' L (w :: st) τ c7 (6 * c7) Φ) : X μ pc L st0 (sD ln D z) c9 (6 * c9) Φ :=
  Y_callSH As hd hp hL hk hn (by rw [cat_sum hA1]; exact hA) (by rw [cat_sum hs1]; exact hs8) hst hX hc (by omega) k9
end MX
abbrev K_mi (Φ : xRes → xS → Prop) (ln : Nat) (D : DD) (p : Int × ZZ) : Prop := okz p.2 → inR p.1 → Φ (.inl (some (.int (iN p.1)))) (sD ln D p.2)
abbrev K_mb (Φ : xRes → xS → Prop) (ln : Nat) (D : DD) (p : Int × ZZ) : Prop := okz p.2 → (p.1 = 0 ∨ p.1 = 1) → Φ (.inl (some (.int (iN p.1)))) (sD ln D p.2)
abbrev K_mk (Φ : xRes → xS → Prop) (ln : Nat) (D : DD) (p : Int × ZZ × Nat) : Prop := okz p.2.1 → inR p.1 → Φ (.inl (some (.int (iN p.1)))) (sD ln D p.2.1)
theorem djnR {D : DD} (hD : okD D) (hJ : dT D + 19 ≤ 600000 ∧ dS D + 6 * 19 ≤ 7200000) (n : Nat) (hn : n < 19) : dT (djn n D) + 1 ≤ 600000 ∧ dS (djn n D) + 6 * 1 ≤ 7200000 := by
  obtain ⟨-, a, b⟩ := okD_djn hD n (by omega) (by omega)
  omega

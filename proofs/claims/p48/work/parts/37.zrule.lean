/-! what the law has made and the class's state together -/
def DLw (D D' : DD) : Prop := dT D ≤ dT D' ∧ ∀ a, a < dT D → dH D' a = dH D a
theorem DLe.w {D D' : DD} (h : DLe D D') : DLw D D' := ⟨h.1, h.2.1⟩
theorem DLw_refl (D : DD) : DLw D D := ⟨Int.le_refl _, fun _ _ => rfl⟩
theorem DLw_trans {A B C : DD} (h1 : DLw A B) (h2 : DLw B C) : DLw A C := ⟨Int.le_trans h1.1 h2.1, fun a h => (h2.2 a (Int.lt_of_lt_of_le h h1.1)).trans (h1.2 a h)⟩
theorem gdV_lw {D D' : DD} (h : DLw D D') {v : Int} (hv : gdV D v) : gdV D' v := by
  rcases hv with (hv | ⟨h1, h2, h3⟩ | hv) | hv
  · exact Or.inl (Or.inl hv)
  · exact Or.inl (Or.inr (Or.inl ⟨h1, Int.lt_of_lt_of_le h2 h.1, by rw [h.2 v h2]; exact h3⟩))
  · exact Or.inl (Or.inr (Or.inr hv))
  · exact Or.inr hv
theorem dO_lw {D D' : DD} {v : Int} {s : Nat} (h : DLw D D') (hv : dO D v s) : dO D' v s := ⟨hv.1, Int.lt_of_lt_of_le hv.2.1 h.1, by rw [h.2 v hv.2.1]; exact hv.2.2⟩
theorem DLw_djn {D : DD} (h : okD D) : ∀ n : Nat, dT D + n ≤ 600000 → dS D + 6 * n ≤ 7200000 → DLw D (djn n D)
  | 0, _, _ => DLw_refl D
  | n + 1, h1, h2 => by
    obtain ⟨-, b, -⟩ := okD_djn h n (by omega) (by omega)
    refine DLw_trans (DLw_djn h n (by omega) (by omega)) ⟨?_, fun a ha => djk_H ha⟩
    show dT (djn n D) ≤ dT (djn n D) + 1
    omega
abbrev K_zb (Φ : xRes → xS → Prop) (ln : Nat) (D : DD) (p : Int × ZZ × DD) : Prop := okD p.2.2 → DLe D p.2.2 → okz p.2.1 → (p.1 = 0 ∨ p.1 = 1) → Φ (.inl (some (.int (iN p.1)))) (sD ln p.2.2 p.2.1)
abbrev K_lb (Φ : xRes → xS → Prop) (ln : Nat) (D : DD) (p : Int × ZZ × DD) : Prop := okD p.2.2 → DLw D p.2.2 → okz p.2.1 → (p.1 = 0 ∨ p.1 = 1) → Φ (.inl (some (.int (iN p.1)))) (sD ln p.2.2 p.2.1)
section ZR
variable {μ μ' : xM} {pc pc' : Nat} {L : List (Option Value)} {st : List Value} {ln : Nat} {D : DD} {z z' : ZZ} {Φ : xRes → xS → Prop}
theorem jbud {k : Nat} (hD : okD D) (hG : dT D + k ≤ 600000 ∧ dS D + 6 * k ≤ 7200000) : bC D = k + bC (djn k D) ∧ bS D = 6 * k + bS (djn k D) := by
  obtain ⟨-, b, c⟩ := okD_djn hD k hG.1 hG.2
  have h1 := hD.1
  have h2 := hD.2.1
  unfold bC bS
  rw [b, c]
  omega
theorem E_jS {idx n k : Nat} {F : Prop} {w : Value} (As : List Value) {st0 : List Value} (hd : decode (xB μ) pc = .ok (.invokestatic idx, 3)) (hp : pc + 3 = pc') (hL : xLS (xY μ).cls idx μ' n) (hk : xK μ' < xK μ) (hn : As.length = n) (hA1 : ∀ v ∈ As, v.category = 1) (hA : As.length ≤ xL μ') (hs1 : ∀ v ∈ st, v.category = 1) (hs8 : st.length ≤ 8) (hst : As.reverse ++ st = st0) (hD : okD D) (hG : dT D + k ≤ 600000 ∧ dS D + 6 * k ≤ 7200000)
    (hX : X μ' 0 (xEnt As (xL μ')) [] (sD ln D z) k (6 * k) (Qd F (.inl (some w)) (sD ln (djn k D) z'))) (k9 : F → XD μ pc' L (w :: st) ln (djn k D) z' Φ) : XD μ pc L st0 ln D z Φ :=
  Y_callS As hd hp hL hk hn (by rw [cat_sum hA1]; exact hA) (by rw [cat_sum hs1]; exact hs8) hst hX (jbud hD hG).1 (jbud hD hG).2 k9
theorem E_jH {idx n k : Nat} {F : Prop} {w : Value} (As : List Value) {st0 : List Value} (hd : decode (xB μ) pc = .ok (.invokestatic idx, 3)) (hp : pc + 3 = pc') (hL : xLH (xY μ).cls idx μ' n) (hk : xK μ' < xK μ) (hn : As.length = n) (hA1 : ∀ v ∈ As, v.category = 1) (hA : As.length ≤ xL μ') (hs1 : ∀ v ∈ st, v.category = 1) (hs8 : st.length ≤ 8) (hst : As.reverse ++ st = st0) (hD : okD D) (hG : dT D + k ≤ 600000 ∧ dS D + 6 * k ≤ 7200000)
    (hX : X μ' 0 (xEnt As (xL μ')) [] (sD ln D z) k (6 * k) (Qd F (.inl (some w)) (sD ln (djn k D) z'))) (k9 : F → XD μ pc' L (w :: st) ln (djn k D) z' Φ) : XD μ pc L st0 ln D z Φ :=
  Y_callSH As hd hp hL hk hn (by rw [cat_sum hA1]; exact hA) (by rw [cat_sum hs1]; exact hs8) hst hX (jbud hD hG).1 (jbud hD hG).2 k9
end ZR

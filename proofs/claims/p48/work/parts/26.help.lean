/-! what the printed walks over the law's things lean on -/
abbrev K_r (Φ : xRes → xS → Prop) (ln : Nat) (D : DD) (z : ZZ) (p : Int) : Prop := inR p → Φ (.inl (some (.int (iN p)))) (sD ln D z)
abbrev K_b (Φ : xRes → xS → Prop) (ln : Nat) (D : DD) (z : ZZ) (p : Int) : Prop := (p = 0 ∨ p = 1) → Φ (.inl (some (.int (iN p)))) (sD ln D z)
abbrev K_R (Φ : xRes → xS → Prop) (ln : Nat) (D : DD) (z : ZZ) (p : Int) : Prop := gdV D p → Φ (.inl (some (rV p))) (sD ln D z)
abbrev K_v (Φ : xRes → xS → Prop) (ln : Nat) (D : DD) (z : ZZ) (_ : Unit) : Prop := True → Φ (.inl none) (sD ln D z)
abbrev K_w (Φ : xRes → xS → Prop) (ln : Nat) (D : DD) (z : ZZ) (p : DD) : Prop := okD p → DLe D p → True → Φ (.inl none) (sD ln p z)
abbrev K_wi (Φ : xRes → xS → Prop) (ln : Nat) (D : DD) (z : ZZ) (p : Int × DD) : Prop := okD p.2 → DLe D p.2 → inR p.1 → Φ (.inl (some (.int (iN p.1)))) (sD ln p.2 z)
abbrev K_wb (Φ : xRes → xS → Prop) (ln : Nat) (D : DD) (z : ZZ) (p : Int × DD) : Prop := okD p.2 → DLe D p.2 → (p.1 = 0 ∨ p.1 = 1) → Φ (.inl (some (.int (iN p.1)))) (sD ln p.2 z)
abbrev K_wR (Φ : xRes → xS → Prop) (ln : Nat) (D : DD) (z : ZZ) (p : Int × DD) : Prop := okD p.2 → DLe D p.2 → gdV p.2 p.1 → Φ (.inl (some (rV p.1))) (sD ln p.2 z)
theorem c1_f {x : Value} {vs : List Value} (hx : x.category = 1) (h : ∀ v ∈ vs, v.category = 1) : ∀ v ∈ (x :: vs), v.category = 1 := List.forall_mem_cons.mpr ⟨hx, h⟩
theorem gdV_str {D : DD} {v : Int} (h : isStr v) : gdV D v := Or.inl (Or.inr (Or.inr (Or.inl h)))
theorem gdV_box {D : DD} {v : Int} (h : isBox v) : gdV D v := Or.inl (Or.inr (Or.inr (Or.inr h)))
theorem box_of {j : Int} (h : 0 ≤ j ∧ j < 256) : isBox (1000300 + j) := ⟨by omega, by omega⟩
theorem box_in {v : Int} (h : isBox v) : inR (v - 1000428) := ⟨by have := h.1; omega, by have := h.2; omega⟩
theorem box_pos {v : Int} (h : isBox v) : 0 < v := by have := h.1; omega
theorem dO_pos {D : DD} {e : Int} {s : Nat} (h : dO D e s) : 0 < e := by have := h.1; omega
theorem okS_R {D : DD} {e v : Int} {s k : Nat} (hO : dO D e s) (hr : isRf s k = true) (hs : s < 20) (hv : gdV D v) : okS D (dH D e).1 k v := by
  rw [hO.2.2]
  unfold okS
  rw [if_neg (by omega), if_pos hr]
  exact hv
theorem okS_I {D : DD} {e v : Int} {s k : Nat} (hO : dO D e s) (hr : isRf s k = false) (hs : s < 20) (h5 : ¬ (s = 12 ∧ k = 5)) (hv : inR v) : okS D (dH D e).1 k v := by
  rw [hO.2.2]
  unfold okS
  rw [if_neg (by omega), hr, if_neg (by decide), if_neg h5, if_neg (by omega)]
  exact hv
theorem okS_B {D : DD} {e v : Int} (hO : dO D e 12) (b : v = 0 ∨ v = 1) : okS D (dH D e).1 5 v := by
  rw [hO.2.2]
  exact b
theorem okS_at20 {D : DD} {e v : Int} {k : Nat} (hO : dO D e 20) (hv : inR v) : okS D (dH D e).1 k v := by
  rw [hO.2.2]
  exact hv
theorem okS_at21 {D : DD} {e v : Int} {k : Nat} (hO : dO D e 21) (hv : -128 ≤ v ∧ v < 128) : okS D (dH D e).1 k v := by
  rw [hO.2.2]
  exact hv
theorem okS_at22 {D : DD} {e v : Int} {k : Nat} (hO : dO D e 22) (hv : gdE D v) : okS D (dH D e).1 k v := by
  rw [hO.2.2]
  exact hv
theorem okD_dupJ {D : DD} (h : okD D) {e j v : Int} (hj : 0 ≤ j) (hv : okS D (dH D e).1 j.toNat v) : okD (dup D e j v) := by
  have := okD_dup (k := j.toNat) h hv
  rw [Int.toNat_of_nonneg hj] at this
  exact this
theorem dO_dnew {D : DD} (h : okD D) {s n : Nat} : dO (dnew D s n) (dT D) s := by
  refine ⟨h.1.1, ?_, ?_⟩
  · show dT D < dT D + 1
    omega
  · show (if dT D = dT D then (s, n) else dH D (dT D)).1 = s
    rw [if_pos rfl]
theorem dH_dnew {D : DD} {s : Nat} {j : Int} (hj : 0 ≤ j) : ((dH (dnew D s j.toNat) (dT D)).2 : Int) = j := by
  show (((if dT D = dT D then (s, j.toNat) else dH D (dT D)).2 : Nat) : Int) = j
  rw [if_pos rfl]
  exact Int.toNat_of_nonneg hj
theorem dO_dcln {D : DD} (h : okD D) {e : Int} {n : Nat} : dO (dcln D e n) (dT D) 20 := by
  refine ⟨h.1.1, ?_, ?_⟩
  · show dT D < dT D + 1
    omega
  · show (if dT D = dT D then (20, n) else dH D (dT D)).1 = 20
    rw [if_pos rfl]
theorem dO_dclb {D : DD} (h : okD D) {e : Int} {n : Nat} : dO (dclb D e n) (dT D) 21 := by
  refine ⟨h.1.1, ?_, ?_⟩
  · show dT D < dT D + 1
    omega
  · show (if dT D = dT D then (21, n) else dH D (dT D)).1 = 21
    rw [if_pos rfl]
theorem sz_le {D : DD} (h : okD D) {e : Int} {s : Nat} (hO : dO D e s) : (dH D e).2 ≤ 1000000 := ((h.2.2 e hO.1 hO.2.1).1).2
theorem inR_byte {v : Int} (h : -128 ≤ v ∧ v < 128) : inR v := ⟨by omega, by omega⟩
theorem inR_ln {ln : Nat} (h : ln < 2147483648) : inR (ln : Int) := ⟨by omega, by omega⟩
theorem b_rng : ∀ n : Int, -128 ≤ n → n < 128 → (narrow .byte (.int (iN n)) = .int (iN n) ∧ fits .byte (.int (iN n)) = true) := by
  intro n h1 h2
  have e : (iN n).toInt8.toInt32 = iN n := i2b_iN ⟨h1, h2⟩
  refine ⟨?_, ?_⟩
  · show Value.int (iN n).toInt8.toInt32 = _
    rw [e]
  · have q : ∀ m : Nat, m < 256 → fits .byte (.int (iN ((m : Int) - 128))) = true := by decide +kernel
    have := q (n + 128).toNat (by omega)
    rw [show ((((n + 128).toNat : Nat) : Int) - 128) = n by omega] at this
    exact this
theorem xFit_byte {v : Int} (h : -128 ≤ v ∧ v < 128) : xFit .byte (.int (iN v)) := Or.inl ⟨iN v, rfl, (b_rng v h.1 h.2).1, (b_rng v h.1 h.2).2⟩
theorem getD_all {P : Int → Prop} {l : List Int} (h : ∀ x ∈ l, P x) (h0 : P 0) (k : Nat) : P (l.getD k 0) := by
  rw [List.getD_eq_getElem?_getD]
  cases e : l[k]? with
  | none => exact h0
  | some x => exact h x (List.mem_of_getElem? e)
theorem inR_K1000010 (k : Int) : inR (zKC 1000010 k) := by
  have q : ∀ x ∈ (zKCl.lookup 1000010).getD [], decide (-2147483648 ≤ x ∧ x < 2147483648) = true := by decide +kernel
  exact getD_all (P := fun x => inR x) (fun x hx => inR_c (q x hx)) (inR_c rfl) _
theorem inR_K1000011 (k : Int) : inR (zKC 1000011 k) := by
  have q : ∀ x ∈ (zKCl.lookup 1000011).getD [], decide (-2147483648 ≤ x ∧ x < 2147483648) = true := by decide +kernel
  exact getD_all (P := fun x => inR x) (fun x hx => inR_c (q x hx)) (inR_c rfl) _
theorem xSn {own : String} {idx : Nat} {μ' : xM} {n : Nat} (h : xLS own idx μ' n) : xLSn own idx μ' n := ⟨Or.inl h.1, h.2⟩
theorem xVc {own : String} {idx : Nat} {μ' : xM} {n : Nat} (h : xLV own idx μ' n) : xLVc own idx μ' n (xY μ').cls := ⟨h.1, h.2.1, Or.inl h.2.2.1, h.2.2.2⟩
/-! static texts and their bytes -/
abbrev stB (v : Int) : Prop := 1000200 ≤ v ∧ v < 1000248
def strV (D : DD) (v : Int) : Int := if isStr v then v + 100 else dW D v 0
def strC (D : DD) (v : Int) : Int := if isStr v then 0 else dW D v 1
abbrev isByt (D : DD) (v : Int) : Prop := stB v ∨ dO D v 21
def blen (D : DD) (v : Int) : Int := if stB v then ((zST v.toNat).2 : Int) else ((dH D v).2 : Int)
def bat (D : DD) (v j : Int) : Int := if stB v then zKC v.toNat j else dW D v j
abbrev isArr (D : DD) (v : Int) : Prop := v = 1000012 ∨ (151 ≤ v ∧ v < dT D ∧ 20 ≤ (dH D v).1)
def alen (D : DD) (v : Int) : Int := if v = 1000012 then 0 else ((dH D v).2 : Int)
def dcps (D : DD) (a0 a1 sp dp n : Int) : DD := (dT D, dS D, dH D, fun b j => if b = a1 ∧ dp ≤ j ∧ j < dp + n then bat D a0 (sp + (j - dp)) else dW D b j)
theorem DLe_dcps (D : DD) (a0 a1 sp dp n : Int) : DLe D (dcps D a0 a1 sp dp n) := DLe_same rfl rfl rfl
theorem stB_rng : ∀ i : Nat, i < 48 → (zST (1000200 + i)).1 = 32 ∧ (zST (1000200 + i)).2 ≤ 1000 ∧ ∀ x ∈ ((zKCl.lookup (1000200 + i)).getD []), (-128 ≤ x ∧ x < 128) := by decide +kernel
theorem stB_k {v : Int} (h : stB v) : (zST v.toNat).1 = 32 ∧ (zST v.toNat).2 ≤ 1000 ∧ ∀ k : Int, -128 ≤ zKC v.toNat k ∧ zKC v.toNat k < 128 := by
  have q := stB_rng (v.toNat - 1000200) (by omega)
  rw [show 1000200 + (v.toNat - 1000200) = v.toNat by omega] at q
  refine ⟨q.1, q.2.1, fun k => ?_⟩
  exact getD_all (P := fun x => -128 ≤ x ∧ x < 128) q.2.2 (by omega) _
theorem not_stB {D : DD} (hD : okD D) {v : Int} {s : Nat} (h : dO D v s) : ¬ stB v := by
  have := hD.1.2
  have := h.2.1
  omega
theorem not_isStr {D : DD} (hD : okD D) {v : Int} {s : Nat} (h : dO D v s) : ¬ isStr v := by
  have := hD.1.2
  have := h.2.1
  omega
section HB
variable {μ μ' : xM} {pc pc' tgt : Nat} {L L' : List (Option Value)} {st : List Value} {σ : xS} {c9 s9 : Nat} {ln : Nat} {D D' : DD} {z z' : ZZ} {Φ : xRes → xS → Prop}
theorem gd_strV {v : Int} (hD : okD D) (h : isStr v ∨ dO D v 18) : gdV D (strV D v) := by
  unfold strV
  rcases h with h | h
  · rw [if_pos h]
    exact Or.inr (Or.inr ⟨by omega, by omega⟩)
  · rw [if_neg (not_isStr hD h)]
    exact gd_slot (k := 0) hD h rfl (by decide)
theorem in_strC {v : Int} (hD : okD D) (h : isStr v ∨ dO D v 18) : inR (strC D v) := by
  unfold strC
  rcases h with h | h
  · rw [if_pos h]
    exact inR_c rfl
  · rw [if_neg (not_isStr hD h)]
    exact in_slot (k := 1) hD h rfl (by decide)
theorem zSH_st {a : Nat} (h : 1000000 < a) : zSH (ln, D) a = zST a := by
  unfold zSH
  rw [if_neg (by omega), if_neg (by omega), if_neg (by omega)]
theorem sD_st {a : Nat} (h : 1000000 < a) : (sD ln D z).2.1 a = zST a := zSH_st h
theorem sD_st2 {a k : Nat} (h : 1000000 < a) : (sD ln D z).2.2 a k = zcv (zST a).1 a k (z a k) := by
  show zCD (ln, D) z a k = _
  unfold zCD
  rw [if_neg (by omega)]
  unfold zCT
  rw [show zSH z0 a = zST a from zSH_st h]
theorem str_st {v : Int} (h : isStr v) : zST v.toNat = (31, 0) := by
  have := sD_str (ln := 0) (D := z0.2) (z := fun _ _ => 0) h
  rw [sD_st (by omega)] at this
  exact this
theorem E_strV {idx : Nat} {v : Int} (hd : decode (xB μ) pc = .ok (.getfield idx, 3)) (hp : pc + 3 = pc') (hw : Cond.fieldLink (xY μ).cls idx "java/lang/String" "value" "[B" ∈ lw_tbl) (hf : xFl (xY μ).cls idx 17 0) (hD : okD D) (h : isStr v ∨ dO D v 18) (k9 : X μ pc' L (rV (strV D v) :: st) (sD ln D z) c9 s9 Φ) : X μ pc L (rV v :: st) (sD ln D z) c9 s9 Φ := by
  unfold strV at k9
  rcases h with h | h
  · rw [if_pos h] at k9
    rw [rV_p (by omega)]
    refine X_getfS (k := 0) (n := 0) hd hp (Or.inl ⟨rfl, hw⟩) (by omega) (by rw [sD_st (by omega)]; exact str_st h) ?_ k9
    rw [sD_st2 (by omega), str_st h, rV_p (by omega)]
    show Value.ref (v.toNat + 100) = _
    rw [show (v + 100).toNat = v.toNat + 100 by omega]
  · rw [if_neg (not_isStr hD h)] at k9
    exact E_getR (j := 0) hd hp hf hD h rfl rfl k9
theorem E_strC {idx : Nat} {v : Int} (hd : decode (xB μ) pc = .ok (.getfield idx, 3)) (hp : pc + 3 = pc') (hw : Cond.fieldLink (xY μ).cls idx "java/lang/String" "coder" "B" ∈ lw_tbl) (hf : xFl (xY μ).cls idx 17 1) (hD : okD D) (h : isStr v ∨ dO D v 18) (k9 : X μ pc' L (.int (iN (strC D v)) :: st) (sD ln D z) c9 s9 Φ) : X μ pc L (rV v :: st) (sD ln D z) c9 s9 Φ := by
  unfold strC at k9
  rcases h with h | h
  · rw [if_pos h] at k9
    rw [rV_p (by omega)]
    refine X_getfS (k := 1) (n := 0) hd hp (Or.inr ⟨rfl, hw⟩) (by omega) (by rw [sD_st (by omega)]; exact str_st h) ?_ k9
    rw [sD_st2 (by omega), str_st h]
    rfl
  · rw [if_neg (not_isStr hD h)] at k9
    exact E_getI (j := 1) hd hp hf hD h rfl rfl k9
theorem str_recv {v : Int} (hD : okD D) (h : isStr v ∨ dO D v 18) : 0 < v ∧ xIs (sD ln D z) v.toNat "java/lang/String" := by
  rcases h with h | h
  · exact ⟨by omega, str_is h⟩
  · exact ⟨dO_pos h, dO_is hD h rfl⟩
theorem in_blen {v : Int} (hD : okD D) (h : isByt D v) : inR (blen D v) := by
  unfold blen
  rcases h with h | h
  · rw [if_pos h]
    have := (stB_k h).2.1
    constructor <;> omega
  · rw [if_neg (not_stB hD h)]
    have := sz_le hD h
    constructor <;> omega
theorem by_bat {v j : Int} (hD : okD D) (h : isByt D v) (hj : 0 ≤ j) : -128 ≤ bat D v j ∧ bat D v j < 128 := by
  unfold bat
  rcases h with h | h
  · rw [if_pos h]
    exact (stB_k h).2.2 j
  · rw [if_neg (not_stB hD h)]
    exact by_at hD h hj
theorem in_bat {v j : Int} (hD : okD D) (h : isByt D v) (hj : 0 ≤ j ∧ j < blen D v) : inR (bat D v j) := inR_byte (by_bat hD h hj.1)
theorem sD_byt {v : Int} (h : stB v) : (sD ln D z).2.1 v.toNat = (32, (zST v.toNat).2) := by
  rw [sD_st (by omega)]
  exact Prod.ext (stB_k h).1 rfl
theorem sD_byt2 {v : Int} (h : stB v) (k : Nat) : (sD ln D z).2.2 v.toNat k = .int (iN (zKC v.toNat k)) := by
  rw [sD_st2 (by omega), (stB_k h).1]
  rfl
theorem E_bytL {v : Int} (hd : decode (xB μ) pc = .ok (.arraylength, 1)) (hp : pc + 1 = pc') (hD : okD D) (h : isByt D v) (k9 : X μ pc' L (.int (iN (blen D v)) :: st) (sD ln D z) c9 s9 Φ) : X μ pc L (rV v :: st) (sD ln D z) c9 s9 Φ := by
  unfold blen at k9
  rcases h with h | h
  · rw [if_pos h] at k9
    rw [rV_p (by omega)]
    exact X_alenS (t := 32) hd hp (by omega) (sD_byt h) (Or.inr rfl) k9
  · rw [if_neg (not_stB hD h)] at k9
    exact E_alen hd hp hD ⟨h.1, h.2.1, by rw [h.2.2]; decide⟩ k9
theorem E_bytA {v j : Int} (hd : decode (xB μ) pc = .ok (.baload, 1)) (hp : pc + 1 = pc') (hD : okD D) (h : isByt D v) (hj : 0 ≤ j ∧ j < blen D v) (k9 : X μ pc' L (.int (iN (bat D v j)) :: st) (sD ln D z) c9 s9 Φ) : X μ pc L (.int (iN j) :: rV v :: st) (sD ln D z) c9 s9 Φ := by
  unfold bat at k9
  unfold blen at hj
  rcases h with h | h
  · rw [if_pos h] at k9 hj
    have := (stB_k h).2.1
    rw [rV_p (by omega)]
    exact X_baloadS (n := (zST v.toNat).2) hd hp (by omega) (sD_byt h) (by omega) hj (by rw [sD_byt2 h, Int.toNat_of_nonneg hj.1]) k9
  · rw [if_neg (not_stB hD h)] at k9 hj
    exact E_bald hd hp hD h hj k9
theorem in_alen {v : Int} (hD : okD D) (h : isArr D v) : inR (alen D v) := by
  unfold alen
  split
  · exact inR_c rfl
  · rcases h with h | h
    · exact absurd h (by assumption)
    · have := (hD.2.2 v h.1 h.2.1).1.2
      constructor <;> omega
theorem E_alenA {v : Int} (hd : decode (xB μ) pc = .ok (.arraylength, 1)) (hp : pc + 1 = pc') (hD : okD D) (h : isArr D v) (k9 : X μ pc' L (.int (iN (alen D v)) :: st) (sD ln D z) c9 s9 Φ) : X μ pc L (rV v :: st) (sD ln D z) c9 s9 Φ := by
  unfold alen at k9
  rcases h with h | h
  · subst h
    exact E_alen0 hd hp k9
  · rw [if_neg (by have := hD.1.2; have := h.2.1; omega)] at k9
    exact E_alen hd hp hD h k9
theorem okD_dcps {a0 a1 sp dp n : Int} (hD : okD D) (h0 : isByt D a0) (h1 : dO D a1 21) (hr : 0 ≤ sp ∧ 0 ≤ dp ∧ 0 ≤ n ∧ sp + n ≤ blen D a0 ∧ dp + n ≤ ((dH D a1).2 : Int)) : okD (dcps D a0 a1 sp dp n) := by
  have hd := hD
  obtain ⟨q1, q2, q3⟩ := hD
  refine ⟨q1, q2, fun a p1 p2 => ⟨(q3 a p1 p2).1, fun j => okS_le (DLe_dcps D a0 a1 sp dp n) ?_⟩⟩
  show okS D (dH D a).1 j (if a = a1 ∧ dp ≤ (j : Int) ∧ (j : Int) < dp + n then bat D a0 (sp + ((j : Int) - dp)) else dW D a j)
  by_cases c : a = a1 ∧ dp ≤ (j : Int) ∧ (j : Int) < dp + n
  · rw [if_pos c, c.1]
    exact okS_at21 h1 (by_bat hd h0 (by omega))
  · rw [if_neg c]
    exact (q3 a p1 p2).2 j
theorem dcps_D {a0 a1 sp dp n : Int} (hD : okD D) (h0 : dO D a0 21) : dcps D a0 a1 sp dp n = dcpy D a0 a1 sp dp n := by
  unfold dcps dcpy bat
  simp only [if_neg (not_stB hD h0)]
theorem dcps_eq {a0 a1 sp dp n : Int} (hD : okD D) (h0 : stB a0) (h1 : dO D a1 21) (hr : 0 ≤ sp ∧ 0 ≤ dp ∧ 0 ≤ n) : (((sD ln D z).1, (sD ln D z).2.1, fun b j => if b = a1.toNat ∧ dp.toNat ≤ j ∧ j < dp.toNat + n.toNat then (sD ln D z).2.2 a0.toNat (sp.toNat + (j - dp.toNat)) else (sD ln D z).2.2 b j) : xS) = sD ln (dcps D a0 a1 sp dp n) z := by
  have g1 := hD.1.2
  have g2 := h1.1
  have g3 := h1.2.1
  refine Prod.ext rfl (Prod.ext rfl ?_)
  funext b j
  show (if b = a1.toNat ∧ dp.toNat ≤ j ∧ j < dp.toNat + n.toNat then (sD ln D z).2.2 a0.toNat (sp.toNat + (j - dp.toNat)) else zCD (ln, D) z b j) = zCD (ln, dcps D a0 a1 sp dp n) z b j
  have hsh : zSH (ln, dcps D a0 a1 sp dp n) b = zSH (ln, D) b := rfl
  by_cases c : b = a1.toNat ∧ dp.toNat ≤ j ∧ j < dp.toNat + n.toNat
  · obtain ⟨rfl, c2, c3⟩ := c
    rw [if_pos ⟨rfl, c2, c3⟩, sD_byt2 h0]
    have e1 : ((a1.toNat : Nat) : Int) = a1 := Int.toNat_of_nonneg (by omega)
    unfold zCD
    rw [if_pos (by omega), hsh, show zSH (ln, D) a1.toNat = dH D a1 from sD_sh (ln := ln) (z := z) hD ⟨h1.1, h1.2.1⟩, h1.2.2]
    show _ = Value.int (iN (if ((a1.toNat : Nat) : Int) = a1 ∧ dp ≤ (j : Int) ∧ (j : Int) < dp + n then bat D a0 (sp + ((j : Int) - dp)) else dW D ((a1.toNat : Nat) : Int) j))
    rw [if_pos ⟨e1, by omega, by omega⟩]
    unfold bat
    rw [if_pos h0, show ((sp.toNat + (j - dp.toNat) : Nat) : Int) = sp + ((j : Int) - dp) by omega]
  · rw [if_neg c]
    unfold zCD
    by_cases hb : 151 ≤ b ∧ b < 1000000
    · rw [if_pos hb, if_pos hb, hsh]
      show _ = dcv _ j (if (b : Int) = a1 ∧ dp ≤ (j : Int) ∧ (j : Int) < dp + n then bat D a0 (sp + ((j : Int) - dp)) else dW D b j)
      rw [if_neg (fun q => c ⟨by omega, by omega, by omega⟩)]
    · rw [if_neg hb, if_neg hb]
theorem E_copyS {idx : Nat} {a0 a1 sp dp n : Int} (hd : decode (xB μ) pc = .ok (.invokestatic idx, 3)) (hp : pc + 3 = pc') (h1 : Cond.methodLink (xY μ).cls idx arraycopyName ∈ lw_tbl) (h2 : Cond.native arraycopyName ∈ lw_tbl) (h3 : Cond.static arraycopyName ∈ lw_tbl) (h4 : Cond.initialized "java/lang/System" ∈ lw_tbl) (hs1 : ∀ v ∈ st, v.category = 1) (hs8 : st.length ≤ 8) (hD : okD D)
    (ho0 : isByt D a0) (ho1 : dO D a1 21) (hr : 0 ≤ sp ∧ 0 ≤ dp ∧ 0 ≤ n ∧ sp + n ≤ blen D a0 ∧ dp + n ≤ ((dH D a1).2 : Int)) (k9 : XD μ pc' L st ln (dcps D a0 a1 sp dp n) z Φ) : XD μ pc L (.int (iN n) :: .int (iN dp) :: rV a1 :: .int (iN sp) :: rV a0 :: st) ln D z Φ := by
  rcases ho0 with ho0 | ho0
  · have n1 := sz_le hD ho1
    have n0 := (stB_k ho0).2.1
    unfold blen at hr
    rw [if_pos ho0] at hr
    rw [dO_rV ho1, rV_p (v := a0) (by omega)]
    refine X_acopySB (n0 := (zST a0.toNat).2) (n1 := (dH D a1).2) hd hp h1 h2 h3 h4 (by rw [cat_sum hs1]; have : nativeFrameWords "java/lang/System" "arraycopy" 5 ≤ 100 := (by decide); omega) (by omega) (sD_byt ho0) (sD_lt ⟨ho1.1, ho1.2.1⟩) (by rw [sD_sh hD ⟨ho1.1, ho1.2.1⟩]; exact Prod.ext ho1.2.2 rfl) (by omega) n1 hr (fun j hj => ⟨iN (zKC a0.toNat j), sD_byt2 ho0 j, (b_rng _ ((stB_k ho0).2.2 j).1 ((stB_k ho0).2.2 j).2).2⟩) ?_
    rw [dcps_eq hD ho0 ho1 ⟨hr.1, hr.2.1, hr.2.2.1⟩]
    exact k9
  · unfold blen at hr
    rw [if_neg (not_stB hD ho0)] at hr
    rw [dcps_D hD ho0] at k9
    exact E_copyB hd hp h1 h2 h3 h4 hs1 hs8 hD ho0 ho1 hr k9
theorem E_getC {idx : Nat} {e : Int} (hd : decode (xB μ) pc = .ok (.invokevirtual idx, 3)) (hp : pc + 3 = pc') (h1 : Cond.methodLink (xY μ).cls idx getClassName ∈ lw_tbl) (h2 : Cond.declares getClassName ∈ lw_tbl) (h3 : Cond.selects "[Ljava/lang/Object;" getClassName getClassName ∈ lw_tbl) (h4 : Cond.instanceMethod getClassName ∈ lw_tbl) (h5 : Cond.native getClassName ∈ lw_tbl) (hD : okD D) (hO : dO D e 22) (hs1 : ∀ v ∈ st, v.category = 1) (hs8 : st.length ≤ 8) (k : X μ pc' L (.ref 1000013 :: st) (sD ln D z) c9 s9 Φ) : X μ pc L (rV e :: st) (sD ln D z) c9 s9 Φ := by
  rw [dO_rV hO]
  exact X_getC hd hp h1 h2 h3 h4 h5 (dO_isO hD hO) (by rw [cat_sum hs1]; omega) k
theorem E_aret {v : Int} {ty : FieldType} (hd : decode (xB μ) pc = .ok (.areturn, 1)) (hr : xR μ = some ty) (ht : (∃ n, ty = .object n) ∨ ∃ t, ty = .array t) (k : Φ (.inl (some (rV v))) σ) : X μ pc L [rV v] σ c9 s9 Φ := by
  refine X_ret (v := some (rV v)) rfl ?_ k
  rcases rV_or v with e | ⟨a, e⟩ <;> rw [e] <;> exact ⟨⟨ty, hr, ht⟩, hd⟩
theorem n_char {a : Int} (h : 0 ≤ a ∧ a < 65536) : narrow .char (.int (iN a)) = .int (iN a) := by
  show Value.int (iN a).toUInt32.toUInt16.toUInt32.toInt32 = _
  have e : (iN a).toUInt32.toUInt16.toUInt32 = (iN a).toUInt32 := by
    apply UInt32.toNat_inj.mp
    have h1 : (iN a).toUInt32.toNat = a.toNat := by
      have h2 : (iN a).toInt = a := iN_toInt ⟨by omega, by omega⟩
      have h3 : (iN a).toInt = (iN a).toBitVec.toInt := rfl
      have h4 : (iN a).toUInt32.toNat = (iN a).toBitVec.toNat := rfl
      rw [BitVec.toInt_eq_toNat_cond] at h3
      have h5 : (iN a).toBitVec.toNat < 4294967296 := (iN a).toBitVec.isLt
      rw [h4]
      split at h3 <;> omega
    rw [UInt16.toNat_toUInt32, UInt32.toNat_toUInt16, h1]
    omega
  rw [e]
  congr 1
theorem E_cret {x : Int} (hd : decode (xB μ) pc = .ok (.ireturn, 1)) (hr : xR μ = some .char) (hx : 0 ≤ x ∧ x < 65536) (k : Φ (.inl (some (.int (iN x)))) σ) : X μ pc L [.int (iN x)] σ c9 s9 Φ := X_ret (v := some (.int (iN x))) rfl ⟨⟨_, hr, n_char hx⟩, hd⟩ k
theorem E_bret {x : Int} (hd : decode (xB μ) pc = .ok (.ireturn, 1)) (hr : xR μ = some .byte) (hx : -128 ≤ x ∧ x < 128) (k : Φ (.inl (some (.int (iN x)))) σ) : X μ pc L [.int (iN x)] σ c9 s9 Φ := X_ret (v := some (.int (iN x))) rfl ⟨⟨_, hr, (b_rng x hx.1 hx.2).1⟩, hd⟩ k
theorem X_ldcI {idx : Nat} {v : Int32} {n : Int} (hd : decode (xB μ) pc = .ok (.ldc idx, 2)) (hp : pc + 2 = pc') (hq : Cond.constant (xY μ).cls idx v ∈ lw_tbl) (hv : v = iN n) (k9 : X μ pc' L (.int (iN n) :: st) σ c9 s9 Φ) : X μ pc L st σ c9 s9 Φ := by
  subst hp
  subst hv
  intro g p l e R s m args below meth c Q hC hE H locs cells slots ls hR hL hS hc hs
  exact lv_ldc hC.1 hC.2.1 hC.2.2.2.2.2.1 (hC.2.2.2.2.2.2.2.1 _ (xWS_in hq rfl)) hd (k9 g p l e R s m args below meth c Q hC hE H locs cells slots ls hR hL hS hc hs)
end HB

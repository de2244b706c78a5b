/-! making, copying, calling -/
section EC
variable {μ μ' : xM} {pc pc' tgt : Nat} {L L' : List (Option Value)} {st : List Value} {ln : Nat} {D D' : DD} {z z' : ZZ} {Φ : xRes → xS → Prop}
theorem xdef : ∀ (c : Nat) (r : vw_C), xcl[c]? = some r → 6 ≤ c → ∀ k, k < r.2.2 → defaultValue (xct c k) = dcv (c + 1) k 0 :=
  xcl_cases (P := fun c r => 6 ≤ c → ∀ k, k < r.2.2 → defaultValue (xct c k) = dcv (c + 1) k 0) (fun h => absurd h (by decide)) (fun h => absurd h (by decide)) (fun h => absurd h (by decide)) (fun h => absurd h (by decide)) (fun h => absurd h (by decide)) (fun h => absurd h (by decide)) (fun _ => by decide +kernel) (fun _ => by decide +kernel) (fun _ => by decide +kernel) (fun _ => by decide +kernel) (fun _ => by decide +kernel) (fun _ => by decide +kernel) (fun _ => by decide +kernel) (fun _ => by decide +kernel) (fun _ => by decide +kernel) (fun _ => by decide +kernel) (fun _ => by decide +kernel) (fun _ => by decide +kernel)
theorem E_new {idx c n : Nat} {r : vw_C} (hd : decode (xB μ) pc = .ok (.new idx, 3)) (hp : pc + 3 = pc') (hr : xcl[c]? = some r) (hn : r.2.2 = n) (hc : 6 ≤ c) (h1 : Cond.classLink (xY μ).cls idx r.1 ∈ lw_tbl) (h2 : Cond.instantiable r.1 r.2.2 ∈ lw_tbl) (h3 : Cond.initialized r.1 ∈ lw_tbl) (hD : okD D) (hG : dT D < 600000 ∧ dS D + n ≤ 7200000) (k9 : XD μ pc' L (rV (dT D) :: st) ln (dnew D (c + 1) n) z Φ) : XD μ pc L st ln D z Φ := by
  subst hn
  have hb := hD.1
  have hs := hD.2.1
  have hc7 := xcl_lt hr
  refine X_new (c8 := bC (dnew D (c + 1) r.2.2)) (s8 := bS (dnew D (c + 1) r.2.2)) hd hp hr h1 h2 h3 (by show (dT D).toNat < 1000000; omega) (by show 600000 - (dT D).toNat = 600000 - (dT D + 1).toNat + 1; omega) (by show 7200000 - (dS D).toNat = 7200000 - (dS D + r.2.2).toNat + r.2.2; omega) ?_
  refine X_from (xnew_eq (D' := dnew D (c + 1) r.2.2) hD hG.1 rfl rfl (fun a k h => if_neg h) (fun k q1 q2 => ?_)) ?_
  · have e : dW (dnew D (c + 1) r.2.2) (dT D) k = 0 := if_pos rfl
    rw [e]
    exact xdef c r hr hc k (q2 r (by omega) (by rw [Nat.add_sub_cancel]; exact hr))
  · rw [rV_p (by omega)] at k9
    exact k9
theorem E_newI {j : Int} (hd : decode (xB μ) pc = .ok (.newarray .int, 2)) (hp : pc + 2 = pc') (h1 : Cond.arrayClass (newarray.typeOf .int) ∈ lw_tbl) (hD : okD D) (hG : (0 ≤ j ∧ j ≤ 1000000) ∧ dT D < 600000 ∧ dS D + j ≤ 7200000) (k9 : XD μ pc' L (rV (dT D) :: st) ln (dnew D 20 j.toNat) z Φ) : XD μ pc L (.int (iN j) :: st) ln D z Φ := by
  have hb := hD.1
  have hs := hD.2.1
  have ej : ((j.toNat : Nat) : Int) = j := Int.toNat_of_nonneg hG.1.1
  refine X_newarr_int (n := j.toNat) (c8 := bC (dnew D 20 j.toNat)) (s8 := bS (dnew D 20 j.toNat)) hd hp h1 ⟨hG.1.1, ej.symm, by omega⟩ (by show (dT D).toNat < 1000000; omega) (by show 600000 - (dT D).toNat = 600000 - (dT D + 1).toNat + 1; omega) (by show 7200000 - (dS D).toNat = 7200000 - (dS D + (j.toNat : Nat)).toNat + j.toNat; omega) ?_
  refine X_from (xnew_eq (D' := dnew D 20 j.toNat) hD hG.2.1 rfl rfl (fun a k h => if_neg h) (fun k q1 q2 => ?_)) ?_
  · have e : dW (dnew D 20 j.toNat) (dT D) k = 0 := if_pos rfl
    rw [e]
    rfl
  · rw [rV_p (by omega)] at k9
    exact k9
theorem E_newB {j : Int} (hd : decode (xB μ) pc = .ok (.newarray .byte, 2)) (hp : pc + 2 = pc') (h1 : Cond.arrayClass (newarray.typeOf .byte) ∈ lw_tbl) (hD : okD D) (hG : (0 ≤ j ∧ j ≤ 1000000) ∧ dT D < 600000 ∧ dS D + j ≤ 7200000) (k9 : XD μ pc' L (rV (dT D) :: st) ln (dnew D 21 j.toNat) z Φ) : XD μ pc L (.int (iN j) :: st) ln D z Φ := by
  have hb := hD.1
  have hs := hD.2.1
  have ej : ((j.toNat : Nat) : Int) = j := Int.toNat_of_nonneg hG.1.1
  refine X_newarr_byte (n := j.toNat) (c8 := bC (dnew D 21 j.toNat)) (s8 := bS (dnew D 21 j.toNat)) hd hp h1 ⟨hG.1.1, ej.symm, by omega⟩ (by show (dT D).toNat < 1000000; omega) (by show 600000 - (dT D).toNat = 600000 - (dT D + 1).toNat + 1; omega) (by show 7200000 - (dS D).toNat = 7200000 - (dS D + (j.toNat : Nat)).toNat + j.toNat; omega) ?_
  refine X_from (xnew_eq (D' := dnew D 21 j.toNat) hD hG.2.1 rfl rfl (fun a k h => if_neg h) (fun k q1 q2 => ?_)) ?_
  · have e : dW (dnew D 21 j.toNat) (dT D) k = 0 := if_pos rfl
    rw [e]
    rfl
  · rw [rV_p (by omega)] at k9
    exact k9
theorem E_newO {idx : Nat} {j : Int} (hd : decode (xB μ) pc = .ok (.anewarray idx, 3)) (hp : pc + 3 = pc') (h1 : Cond.classLink (xY μ).cls idx "java/lang/Object" ∈ lw_tbl) (hD : okD D) (hG : (0 ≤ j ∧ j ≤ 1000000) ∧ dT D < 600000 ∧ dS D + j ≤ 7200000) (k9 : XD μ pc' L (rV (dT D) :: st) ln (dnew D 22 j.toNat) z Φ) : XD μ pc L (.int (iN j) :: st) ln D z Φ := by
  have hb := hD.1
  have hs := hD.2.1
  have ej : ((j.toNat : Nat) : Int) = j := Int.toNat_of_nonneg hG.1.1
  refine X_anewarrO (n := j.toNat) (c8 := bC (dnew D 22 j.toNat)) (s8 := bS (dnew D 22 j.toNat)) hd hp h1 ⟨hG.1.1, ej.symm, by omega⟩ (by show (dT D).toNat < 1000000; omega) (by show 600000 - (dT D).toNat = 600000 - (dT D + 1).toNat + 1; omega) (by show 7200000 - (dS D).toNat = 7200000 - (dS D + (j.toNat : Nat)).toNat + j.toNat; omega) ?_
  refine X_from (xnew_eq (D' := dnew D 22 j.toNat) hD hG.2.1 rfl rfl (fun a k h => if_neg h) (fun k q1 q2 => ?_)) ?_
  · have e : dW (dnew D 22 j.toNat) (dT D) k = 0 := if_pos rfl
    rw [e]
    rfl
  · rw [rV_p (by omega)] at k9
    exact k9
theorem E_clone {idx : Nat} {e : Int} (hd : decode (xB μ) pc = .ok (.invokevirtual idx, 3)) (hp : pc + 3 = pc') (h1 : Cond.methodLink (xY μ).cls idx ⟨"[I", "clone", "()Ljava/lang/Object;"⟩ ∈ lw_tbl) (hs1 : ∀ v ∈ st, v.category = 1) (hs8 : st.length ≤ 8) (hD : okD D) (hO : dO D e 20) (hG : dT D < 600000 ∧ dS D + (dH D e).2 ≤ 7200000) (k9 : XD μ pc' L (rV (dT D) :: st) ln (dcln D e (dH D e).2) z Φ) : XD μ pc L (rV e :: st) ln D z Φ := by
  have hb := hD.1
  have hs := hD.2.1
  rw [dO_rV hO]
  refine X_cloneI (n := (dH D e).2) (c8 := bC (dcln D e (dH D e).2)) (s8 := bS (dcln D e (dH D e).2)) hd hp h1 tq528 tq529 tq530 tq531 tq532 (sD_lt ⟨hO.1, hO.2.1⟩) (by rw [sD_sh hD ⟨hO.1, hO.2.1⟩]; exact Prod.ext hO.2.2 rfl) (fun j hj => ⟨iN (dW D e j), by rw [sD_ct hD ⟨hO.1, hO.2.1⟩, hO.2.2]; rfl⟩) (by show (dT D).toNat < 1000000; omega) (by rw [cat_sum hs1]; omega) (by show 600000 - (dT D).toNat = 600000 - (dT D + 1).toNat + 1; omega) (by show 7200000 - (dS D).toNat = 7200000 - (dS D + (dH D e).2).toNat + (dH D e).2; omega) ?_
  refine X_from (xnew_eq (D' := dcln D e (dH D e).2) hD hG.1 rfl rfl (fun a k h => if_neg h) (fun k q1 q2 => ?_)) ?_
  · have e1 : dW (dcln D e (dH D e).2) (dT D) k = dW D e k := if_pos rfl
    rw [e1, sD_ct hD ⟨hO.1, hO.2.1⟩, hO.2.2]
  · rw [rV_p (by omega)] at k9
    exact k9
theorem fitB {n : Int} (h : -128 ≤ n ∧ n < 128) : fits .byte (.int (iN n)) = true := by
  have q : ∀ m : Nat, m < 256 → fits .byte (.int (iN ((m : Int) - 128))) = true := by decide +kernel
  have := q (n + 128).toNat (by omega)
  rw [show ((((n + 128).toNat : Nat) : Int) - 128) = n by omega] at this
  exact this
theorem E_cloneB {idx : Nat} {e : Int} (hd : decode (xB μ) pc = .ok (.invokevirtual idx, 3)) (hp : pc + 3 = pc') (h1 : Cond.methodLink (xY μ).cls idx ⟨"[B", "clone", "()Ljava/lang/Object;"⟩ ∈ lw_tbl) (hs1 : ∀ v ∈ st, v.category = 1) (hs8 : st.length ≤ 8) (hD : okD D) (hO : dO D e 21) (hG : dT D < 600000 ∧ dS D + (dH D e).2 ≤ 7200000) (k9 : XD μ pc' L (rV (dT D) :: st) ln (dclb D e (dH D e).2) z Φ) : XD μ pc L (rV e :: st) ln D z Φ := by
  have hb := hD.1
  have hs := hD.2.1
  rw [dO_rV hO]
  refine X_cloneB (n := (dH D e).2) (c8 := bC (dclb D e (dH D e).2)) (s8 := bS (dclb D e (dH D e).2)) hd hp h1 tq1172 tq529 tq530 tq1173 tq1174 (sD_lt ⟨hO.1, hO.2.1⟩) (by rw [sD_sh hD ⟨hO.1, hO.2.1⟩]; exact Prod.ext hO.2.2 rfl) (fun j hj => ⟨iN (dW D e j), by rw [sD_ct hD ⟨hO.1, hO.2.1⟩, hO.2.2]; rfl, fitB (by_at hD hO (by omega))⟩) (by show (dT D).toNat < 1000000; omega) (by rw [cat_sum hs1]; omega) (by show 600000 - (dT D).toNat = 600000 - (dT D + 1).toNat + 1; omega) (by show 7200000 - (dS D).toNat = 7200000 - (dS D + (dH D e).2).toNat + (dH D e).2; omega) ?_
  refine X_from (xnew_eq (D' := dclb D e (dH D e).2) hD hG.1 rfl rfl (fun a k h => if_neg h) (fun k q1 q2 => ?_)) ?_
  · have e1 : dW (dclb D e (dH D e).2) (dT D) k = dW D e k := if_pos rfl
    rw [e1, sD_ct hD ⟨hO.1, hO.2.1⟩, hO.2.2]
  · rw [rV_p (by omega)] at k9
    exact k9
theorem dcpy_eq {a0 a1 sp dp n : Int} {s : Nat} (hD : okD D) (h0 : dO D a0 s) (h1 : dO D a1 s) (hs : 20 ≤ s) (hr : 0 ≤ sp ∧ 0 ≤ dp ∧ 0 ≤ n) : (((sD ln D z).1, (sD ln D z).2.1, fun b j => if b = a1.toNat ∧ dp.toNat ≤ j ∧ j < dp.toNat + n.toNat then (sD ln D z).2.2 a0.toNat (sp.toNat + (j - dp.toNat)) else (sD ln D z).2.2 b j) : xS) = sD ln (dcpy D a0 a1 sp dp n) z := by
  refine Prod.ext rfl (Prod.ext rfl ?_)
  funext b j
  have e1 : ((a1.toNat : Nat) : Int) = a1 := Int.toNat_of_nonneg (by omega)
  have hb := hD.1
  show (if b = a1.toNat ∧ dp.toNat ≤ j ∧ j < dp.toNat + n.toNat then (sD ln D z).2.2 a0.toNat (sp.toNat + (j - dp.toNat)) else zCD (ln, D) z b j) = zCD (ln, dcpy D a0 a1 sp dp n) z b j
  have hsh : zSH (ln, dcpy D a0 a1 sp dp n) b = zSH (ln, D) b := rfl
  by_cases c : b = a1.toNat ∧ dp.toNat ≤ j ∧ j < dp.toNat + n.toNat
  · rw [if_pos c]
    obtain ⟨rfl, c1, c2⟩ := c
    rw [sD_ct hD ⟨h0.1, h0.2.1⟩, h0.2.2]
    unfold zCD
    rw [if_pos (by omega), hsh, show zSH (ln, D) a1.toNat = dH D a1 from sD_sh (ln := ln) (z := z) hD ⟨h1.1, h1.2.1⟩, h1.2.2]
    show _ = dcv s j (if ((a1.toNat : Nat) : Int) = a1 ∧ dp ≤ (j : Int) ∧ (j : Int) < dp + n then dW D a0 (sp + ((j : Int) - dp)) else dW D ((a1.toNat : Nat) : Int) j)
    rw [if_pos ⟨e1, by omega, by omega⟩, show ((sp.toNat + (j - dp.toNat) : Nat) : Int) = sp + ((j : Int) - dp) by omega]
    have r : ∀ k, isRf s k = (s == 22) := by
      intro k
      unfold isRf
      split <;> first | rfl | omega | skip
      next h => simp; omega
    unfold dcv
    rw [r, r]
  · rw [if_neg c]
    unfold zCD
    by_cases hb : 151 ≤ b ∧ b < 1000000
    · rw [if_pos hb, if_pos hb, hsh]
      show _ = dcv _ j (if (b : Int) = a1 ∧ dp ≤ (j : Int) ∧ (j : Int) < dp + n then dW D a0 (sp + ((j : Int) - dp)) else dW D b j)
      rw [if_neg (fun q => c ⟨by omega, by omega, by omega⟩)]
    · rw [if_neg hb, if_neg hb]
theorem E_copyB {idx : Nat} {a0 a1 sp dp n : Int} (hd : decode (xB μ) pc = .ok (.invokestatic idx, 3)) (hp : pc + 3 = pc') (h1 : Cond.methodLink (xY μ).cls idx arraycopyName ∈ lw_tbl) (h2 : Cond.native arraycopyName ∈ lw_tbl) (h3 : Cond.static arraycopyName ∈ lw_tbl) (h4 : Cond.initialized "java/lang/System" ∈ lw_tbl) (hs1 : ∀ v ∈ st, v.category = 1) (hs8 : st.length ≤ 8) (hD : okD D)
    (ho0 : dO D a0 21) (ho1 : dO D a1 21) (hr : 0 ≤ sp ∧ 0 ≤ dp ∧ 0 ≤ n ∧ sp + n ≤ ((dH D a0).2 : Int) ∧ dp + n ≤ ((dH D a1).2 : Int)) (k9 : XD μ pc' L st ln (dcpy D a0 a1 sp dp n) z Φ) : XD μ pc L (.int (iN n) :: .int (iN dp) :: rV a1 :: .int (iN sp) :: rV a0 :: st) ln D z Φ := by
  have n0 := ((hD.2.2 a0 ho0.1 ho0.2.1).1).2
  have n1 := ((hD.2.2 a1 ho1.1 ho1.2.1).1).2
  rw [dO_rV ho0, dO_rV ho1]
  refine X_acopyB (n0 := (dH D a0).2) (n1 := (dH D a1).2) hd hp h1 h2 h3 h4 (by rw [cat_sum hs1]; have : nativeFrameWords "java/lang/System" "arraycopy" 5 ≤ 100 := (by decide); omega) (sD_lt ⟨ho0.1, ho0.2.1⟩) (by rw [sD_sh hD ⟨ho0.1, ho0.2.1⟩]; exact Prod.ext ho0.2.2 rfl) (sD_lt ⟨ho1.1, ho1.2.1⟩) (by rw [sD_sh hD ⟨ho1.1, ho1.2.1⟩]; exact Prod.ext ho1.2.2 rfl) n0 n1 hr (fun j hj => ⟨iN (dW D a0 j), by rw [sD_ct hD ⟨ho0.1, ho0.2.1⟩, ho0.2.2]; rfl, fitB (by_at hD ho0 (by omega))⟩) ?_
  rw [dcpy_eq hD ho0 ho1 (by decide) ⟨hr.1, hr.2.1, hr.2.2.1⟩]
  exact k9
theorem E_copyO {idx : Nat} {a0 a1 sp dp n : Int} (hd : decode (xB μ) pc = .ok (.invokestatic idx, 3)) (hp : pc + 3 = pc') (h1 : Cond.methodLink (xY μ).cls idx arraycopyName ∈ lw_tbl) (h2 : Cond.native arraycopyName ∈ lw_tbl) (h3 : Cond.static arraycopyName ∈ lw_tbl) (h4 : Cond.initialized "java/lang/System" ∈ lw_tbl) (hs1 : ∀ v ∈ st, v.category = 1) (hs8 : st.length ≤ 8) (hD : okD D)
    (ho0 : dO D a0 22) (ho1 : dO D a1 22) (hr : 0 ≤ sp ∧ 0 ≤ dp ∧ 0 ≤ n ∧ sp + n ≤ ((dH D a0).2 : Int) ∧ dp + n ≤ ((dH D a1).2 : Int)) (k9 : XD μ pc' L st ln (dcpy D a0 a1 sp dp n) z Φ) : XD μ pc L (.int (iN n) :: .int (iN dp) :: rV a1 :: .int (iN sp) :: rV a0 :: st) ln D z Φ := by
  have n0 := ((hD.2.2 a0 ho0.1 ho0.2.1).1).2
  have n1 := ((hD.2.2 a1 ho1.1 ho1.2.1).1).2
  rw [dO_rV ho0, dO_rV ho1]
  refine X_acopyO (n0 := (dH D a0).2) (n1 := (dH D a1).2) hd hp h1 h2 h3 h4 (by rw [cat_sum hs1]; have : nativeFrameWords "java/lang/System" "arraycopy" 5 ≤ 100 := (by decide); omega) (sD_lt ⟨ho0.1, ho0.2.1⟩) (by rw [sD_sh hD ⟨ho0.1, ho0.2.1⟩]; exact Prod.ext ho0.2.2 rfl) (sD_lt ⟨ho1.1, ho1.2.1⟩) (by rw [sD_sh hD ⟨ho1.1, ho1.2.1⟩]; exact Prod.ext ho1.2.2 rfl) n0 n1 hr (fun j hj => ?_) ?_
  · have hg := gd_at hD ho0 (j := (j : Int)) (by omega)
    have e1 : (sD ln D z).2.2 a0.toNat j = rV (dW D a0 j) := by rw [sD_ct hD ⟨ho0.1, ho0.2.1⟩, ho0.2.2]; rfl
    rw [e1]
    by_cases h0 : dW D a0 j = 0
    · rw [h0]
      exact Or.inl rfl
    · obtain ⟨C, q1, q2⟩ := gdE_is (ln := ln) (z := z) hD hg h0
      exact Or.inr ⟨(dW D a0 j).toNat, C, rV_p (by rcases hg with q | q | q | q <;> omega), q1, q2⟩
  · rw [dcpy_eq hD ho0 ho1 (by decide) ⟨hr.1, hr.2.1, hr.2.2.1⟩]
    exact k9
/-- Object.<init> -/
theorem E_objInit {idx : Nat} {e : Int} (hd : decode (xB μ) pc = .ok (.invokespecial idx, 3)) (hp : pc + 3 = pc') (h1 : Cond.methodLink (xY μ).cls idx Lib.objectInit ∈ lw_tbl) (h2 : Cond.instanceMethod Lib.objectInit ∈ lw_tbl) (h3 : Cond.code Lib.objectInit ⟨#[0xb1]⟩ 1 none ∈ lw_tbl) (hD : okD D) (he : 151 ≤ e ∧ e < dT D) (hs1 : ∀ v ∈ st, v.category = 1) (hs8 : st.length ≤ 8) (k9 : XD μ pc' L st ln D z Φ) : XD μ pc L (rV e :: st) ln D z Φ := by
  have := hD.1
  rw [rV_p (by omega)]
  exact X_objInit hd hp h1 h2 h3 (by omega) (by rw [cat_sum hs1]; omega) k9
theorem ebud (hD : okD D) (hD' : okD D') (hle : DLe D D') {L : List (Option Value)} {st : List Value} (k9 : XD μ pc' L st ln D' z' Φ) : ∃ u, xUse (sD ln D z) (sD ln D' z') u ∧ (sD ln D' z').1 - (sD ln D z).1 ≤ bC D ∧ u ≤ bS D ∧ X μ pc' L st (sD ln D' z') (bC D - ((sD ln D' z').1 - (sD ln D z).1)) (bS D - u) Φ := by
  have a1 := hD.1
  have a2 := hD.2.1
  have b1 := hD'.1
  have b2 := hD'.2.1
  have h1 := hle.1
  have h4 := hle.2.2.2
  refine ⟨_, xuse_D hD hD' hle, by show (dT D').toNat - (dT D).toNat ≤ 600000 - (dT D).toNat; omega, by show (dS D' - dS D).toNat ≤ 7200000 - (dS D).toNat; omega, ?_⟩
  have e1 : bC D - ((sD ln D' z').1 - (sD ln D z).1) = bC D' := by
    show 600000 - (dT D).toNat - ((dT D').toNat - (dT D).toNat) = 600000 - (dT D').toNat
    omega
  have e2 : bS D - (dS D' - dS D).toNat = bS D' := by
    show 7200000 - (dS D).toNat - (dS D' - dS D).toNat = 7200000 - (dS D').toNat
    omega
  rw [e1, e2]
  exact k9
abbrev FdD (D D' : DD) (F : Prop) : Prop := okD D' ∧ DLe D D' ∧ F
/-- calls -/
theorem E_callS {idx n : Nat} {F : Prop} {w : Option Value} (As : List Value) {st0 : List Value} (hd : decode (xB μ) pc = .ok (.invokestatic idx, 3)) (hp : pc + 3 = pc') (hL : xLSn (xY μ).cls idx μ' n) (hk : xK μ' < xK μ) (hn : As.length = n) (hA1 : ∀ v ∈ As, v.category = 1) (hA : As.length ≤ xL μ') (hs1 : ∀ v ∈ st, v.category = 1) (hs8 : st.length ≤ 8) (hst : As.reverse ++ st = st0) (hD : okD D)
    (hX : XD μ' 0 (xEnt As (xL μ')) [] ln D z (Qd (FdD D D' F) (.inl w) (sD ln D' z'))) (k9 : okD D' → DLe D D' → F → XD μ pc' L (w.toList ++ st) ln D' z' Φ) : XD μ pc L st0 ln D z Φ :=
  X_callST As hd hp hL.1 hL.2.1 hL.2.2.1 hL.2.2.2 hk hn (by rw [cat_sum hA1]; exact hA) (by rw [cat_sum hs1]; exact hs8) hst hX ⟨Nat.le_refl _, Nat.le_refl _⟩ (fun h => ebud hD h.1 h.2.1 (k9 h.1 h.2.1 h.2.2))
theorem E_callV {idx n : Nat} {e : Int} {C : String} {F : Prop} {w : Option Value} (As : List Value) {st0 : List Value} (hd : decode (xB μ) pc = .ok (.invokevirtual idx, 3)) (hp : pc + 3 = pc') (hL : xLVc (xY μ).cls idx μ' n C) (hk : xK μ' < xK μ) (he : 0 < e ∧ xIs (sD ln D z) e.toNat C) (hn : As.length = n) (hA1 : ∀ v ∈ As, v.category = 1) (hA : As.length + 1 ≤ xL μ') (hs1 : ∀ v ∈ st, v.category = 1) (hs8 : st.length ≤ 8) (hst : As.reverse ++ rV e :: st = st0) (hD : okD D)
    (hX : XD μ' 0 (xEnt (rV e :: As) (xL μ')) [] ln D z (Qd (FdD D D' F) (.inl w) (sD ln D' z'))) (k9 : okD D' → DLe D D' → F → XD μ pc' L (w.toList ++ st) ln D' z' Φ) : XD μ pc L st0 ln D z Φ := by
  rw [rV_p he.1] at hst hX
  exact X_callVT As hd hp hL.1 hL.2.1 hL.2.2.1 hL.2.2.2.1 hL.2.2.2.2 hk he.2 hn (by rw [List.map_cons, List.sum_cons, cat_sum hA1]; show 1 + _ ≤ _; omega) (by rw [cat_sum hs1]; exact hs8) hst hX ⟨Nat.le_refl _, Nat.le_refl _⟩ (fun h => ebud hD h.1 h.2.1 (k9 h.1 h.2.1 h.2.2))
theorem E_callU {idx n : Nat} {e : Int} {C owner : String} {x : MethodName} {F : Prop} {w : Option Value} (As : List Value) {st0 : List Value} (hd : decode (xB μ) pc = .ok (.invokevirtual idx, 3)) (hp : pc + 3 = pc') (hL : xLU (xY μ).cls idx x owner μ' n C) (hk : xK μ' < xK μ) (he : 0 < e ∧ xIs (sD ln D z) e.toNat C) (hn : As.length = n) (hA1 : ∀ v ∈ As, v.category = 1) (hA : As.length + 1 ≤ xL μ') (hs1 : ∀ v ∈ st, v.category = 1) (hs8 : st.length ≤ 8) (hst : As.reverse ++ rV e :: st = st0) (hD : okD D)
    (hX : XD μ' 0 (xEnt (rV e :: As) (xL μ')) [] ln D z (Qd (FdD D D' F) (.inl w) (sD ln D' z'))) (k9 : okD D' → DLe D D' → F → XD μ pc' L (w.toList ++ st) ln D' z' Φ) : XD μ pc L st0 ln D z Φ := by
  rw [rV_p he.1] at hst hX
  exact X_callUT As hd hp hL.1 hL.2.1 hL.2.2.1 hL.2.2.2.1 hL.2.2.2.2.1 hL.2.2.2.2.2.1 hL.2.2.2.2.2.2.1 hL.2.2.2.2.2.2.2.1 hL.2.2.2.2.2.2.2.2 hk he.2 hn (by rw [List.map_cons, List.sum_cons, cat_sum hA1]; show 1 + _ ≤ _; omega) (by rw [cat_sum hs1]; exact hs8) hst hX ⟨Nat.le_refl _, Nat.le_refl _⟩ (fun h => ebud hD h.1 h.2.1 (k9 h.1 h.2.1 h.2.2))
theorem E_callF {idx cnt n : Nat} {e : Int} {C : String} {x : MethodName} {F : Prop} {w : Option Value} (As : List Value) {st0 : List Value} (hd : decode (xB μ) pc = .ok (.invokeinterface idx cnt, 5)) (hp : pc + 5 = pc') (hL : xLF (xY μ).cls idx x μ' n C) (hk : xK μ' < xK μ) (he : 0 < e ∧ xIs (sD ln D z) e.toNat C) (hn : As.length = n) (hA1 : ∀ v ∈ As, v.category = 1) (hA : As.length + 1 ≤ xL μ') (hs1 : ∀ v ∈ st, v.category = 1) (hs8 : st.length ≤ 8) (hst : As.reverse ++ rV e :: st = st0) (hD : okD D)
    (hX : XD μ' 0 (xEnt (rV e :: As) (xL μ')) [] ln D z (Qd (FdD D D' F) (.inl w) (sD ln D' z'))) (k9 : okD D' → DLe D D' → F → XD μ pc' L (w.toList ++ st) ln D' z' Φ) : XD μ pc L st0 ln D z Φ := by
  rw [rV_p he.1] at hst hX
  exact X_callFT As hd hp hL.1 hL.2.1 hL.2.2.1 hL.2.2.2.1 hL.2.2.2.2.1 hL.2.2.2.2.2.1 hL.2.2.2.2.2.2 hk he.2 hn (by rw [List.map_cons, List.sum_cons, cat_sum hA1]; show 1 + _ ≤ _; omega) (by rw [cat_sum hs1]; exact hs8) hst hX ⟨Nat.le_refl _, Nat.le_refl _⟩ (fun h => ebud hD h.1 h.2.1 (k9 h.1 h.2.1 h.2.2))
theorem E_callP {idx n : Nat} {e : Int} {C : String} {F : Prop} {w : Option Value} (As : List Value) {st0 : List Value} (hd : decode (xB μ) pc = .ok (.invokespecial idx, 3)) (hp : pc + 3 = pc') (hL : xLP (xY μ).cls idx μ' n) (hk : xK μ' < xK μ) (he : 0 < e ∧ xIs (sD ln D z) e.toNat C) (hn : As.length = n) (hA1 : ∀ v ∈ As, v.category = 1) (hA : As.length + 1 ≤ xL μ') (hs1 : ∀ v ∈ st, v.category = 1) (hs8 : st.length ≤ 8) (hst : As.reverse ++ rV e :: st = st0) (hD : okD D)
    (hX : XD μ' 0 (xEnt (rV e :: As) (xL μ')) [] ln D z (Qd (FdD D D' F) (.inl w) (sD ln D' z'))) (k9 : okD D' → DLe D D' → F → XD μ pc' L (w.toList ++ st) ln D' z' Φ) : XD μ pc L st0 ln D z Φ := by
  rw [rV_p he.1] at hst hX
  exact X_callPT As hd hp hL.1 hL.2.1 hL.2.2.1 hL.2.2.2.1 hL.2.2.2.2.1 hL.2.2.2.2.2.1 hL.2.2.2.2.2.2 hk he.2 hn (by rw [List.map_cons, List.sum_cons, cat_sum hA1]; show 1 + _ ≤ _; omega) (by rw [cat_sum hs1]; exact hs8) hst hX ⟨Nat.le_refl _, Nat.le_refl _⟩ (fun h => ebud hD h.1 h.2.1 (k9 h.1 h.2.1 h.2.2))
theorem E_callI {idx n : Nat} {e : Int} {F : Prop} {w : Option Value} (As : List Value) {st0 : List Value} (hd : decode (xB μ) pc = .ok (.invokespecial idx, 3)) (hp : pc + 3 = pc') (hl : Cond.methodLink (xY μ).cls idx (xY μ') ∈ lw_tbl) (hL : xLI (xY μ).cls idx μ' n) (hk : xK μ' < xK μ) (he : 151 ≤ e ∧ e < dT D) (hn : As.length = n) (hA1 : ∀ v ∈ As, v.category = 1) (hA : As.length + 1 ≤ xL μ') (hs1 : ∀ v ∈ st, v.category = 1) (hs8 : st.length ≤ 8) (hst : As.reverse ++ rV e :: st = st0) (hD : okD D)
    (hX : XD μ' 0 (xEnt (rV e :: As) (xL μ')) [] ln D z (Qd (FdD D D' F) (.inl w) (sD ln D' z'))) (k9 : okD D' → DLe D D' → F → XD μ pc' L (w.toList ++ st) ln D' z' Φ) : XD μ pc L st0 ln D z Φ := by
  rw [rV_p (by omega)] at hst hX
  exact X_callIT As hd hp hl hL.2.1 hL.2.2.1 hL.2.2.2.1 hL.2.2.2.2.1 hL.2.2.2.2.2 hk (sD_lt he) hn (by rw [List.map_cons, List.sum_cons, cat_sum hA1]; show 1 + _ ≤ _; omega) (by rw [cat_sum hs1]; exact hs8) hst hX ⟨Nat.le_refl _, Nat.le_refl _⟩ (fun h => ebud hD h.1 h.2.1 (k9 h.1 h.2.1 h.2.2))
end EC

/-! rows over the law's things -/
section ER
variable {μ μ' : xM} {pc pc' tgt : Nat} {L L' : List (Option Value)} {st : List Value} {σ : xS} {c9 s9 : Nat} {ln : Nat} {D D' : DD} {z z' : ZZ} {Φ : xRes → xS → Prop}
theorem xv_ors (g : xG) (hg : ∀ k, 1000000 ≤ k → gV g k = .null ∨ ∃ t, gV g k = .ref t) (v : Int) : xv g (rV v) = .null ∨ ∃ t, xv g (rV v) = .ref t := by
  rcases rV_or v with e | ⟨a, e⟩ <;> rw [e]
  · exact Or.inl rfl
  · by_cases ha : a < 1000000
    · exact Or.inr ⟨_, xv_ref g ha⟩
    · rw [xv_stat g (Nat.le_of_not_lt ha)]
      exact hg a (Nat.le_of_not_lt ha)
theorem E_aload_n {i : Fin 4} {v : Int} (hd : decode (xB μ) pc = .ok (.aload_n i, 1)) (hp : pc + 1 = pc') (hl : L[(i : Nat)]? = some (some (rV v))) (k : X μ pc' L (rV v :: st) σ c9 s9 Φ) : X μ pc L st σ c9 s9 Φ := by
  subst hp
  intro g p l e R s m args below meth c Q hC hE H locs cells slots ls hR hL hS hc hs
  have hg := hC.2.2.2.2.2.2.2.2.2.2.2.2.2.2.2.2.2.2.2.2.2.2.1
  have k := (k g p l e R s m args below meth c Q hC hE H locs cells slots ls hR hL hS hc hs)
  have hl := hL.2.2.2 _ _ hl
  rw [List.map_cons] at k
  rcases xv_ors g hg v with q | ⟨t, q⟩
  · rw [q] at hl k
    exact lv_aload_nN hC.1 hC.2.1 hd rfl hl k
  · rw [q] at hl k
    exact lv_aload_n hC.1 hC.2.1 hd rfl hl k
theorem E_aload {i : Nat} {v : Int} (hd : decode (xB μ) pc = .ok (.aload i, 2)) (hp : pc + 2 = pc') (hl : L[i]? = some (some (rV v))) (k : X μ pc' L (rV v :: st) σ c9 s9 Φ) : X μ pc L st σ c9 s9 Φ := by
  subst hp
  intro g p l e R s m args below meth c Q hC hE H locs cells slots ls hR hL hS hc hs
  have hg := hC.2.2.2.2.2.2.2.2.2.2.2.2.2.2.2.2.2.2.2.2.2.2.1
  have k := (k g p l e R s m args below meth c Q hC hE H locs cells slots ls hR hL hS hc hs)
  have hl := hL.2.2.2 _ _ hl
  rw [List.map_cons] at k
  rcases xv_ors g hg v with q | ⟨t, q⟩
  · rw [q] at hl k
    exact lv_aloadN hC.1 hC.2.1 hd hl k
  · rw [q] at hl k
    exact lv_aload hC.1 hC.2.1 hd hl k
theorem E_astore_n {i : Fin 4} {v : Int} (hd : decode (xB μ) pc = .ok (.astore_n i, 1)) (hp : pc + 1 = pc') (hi : (i : Nat) < L.length) (h1 : (i : Nat) = 0 ∨ xC1 L[(i : Nat) - 1]? = true) (hL' : L.set (i : Nat) (some (rV v)) = L') (k : X μ pc' L' st σ c9 s9 Φ) : X μ pc L (rV v :: st) σ c9 s9 Φ := by
  subst hp
  subst hL'
  intro g p l e R s m args below meth c Q hC hE H locs cells slots ls hR hL hS hc hs
  have hg := hC.2.2.2.2.2.2.2.2.2.2.2.2.2.2.2.2.2.2.2.2.2.2.1
  rw [List.map_cons]
  rcases xv_ors g hg v with q | ⟨t, q⟩
  · rw [q]
    exact lv_astore_nN hC.1 hC.2.1 hd rfl (xLv_has hL) (by rw [← hL.1]; exact hi) rfl (fun ls' h' => k g p l e R s m args below meth c Q hC hE H locs cells slots ls' hR (xLv_st1 (v := rV v) hg hL (by rw [← hL.1]; exact hi) h1 (by rw [q]; exact h')) hS hc hs)
  · rw [q]
    exact lv_astore_n hC.1 hC.2.1 hd rfl (xLv_has hL) (by rw [← hL.1]; exact hi) rfl (fun ls' h' => k g p l e R s m args below meth c Q hC hE H locs cells slots ls' hR (xLv_st1 (v := rV v) hg hL (by rw [← hL.1]; exact hi) h1 (by rw [q]; exact h')) hS hc hs)
theorem E_astore {i : Nat} {v : Int} (hd : decode (xB μ) pc = .ok (.astore i, 2)) (hp : pc + 2 = pc') (hi : i < L.length) (h1 : i = 0 ∨ xC1 L[i - 1]? = true) (hL' : L.set i (some (rV v)) = L') (k : X μ pc' L' st σ c9 s9 Φ) : X μ pc L (rV v :: st) σ c9 s9 Φ := by
  subst hp
  subst hL'
  intro g p l e R s m args below meth c Q hC hE H locs cells slots ls hR hL hS hc hs
  have hg := hC.2.2.2.2.2.2.2.2.2.2.2.2.2.2.2.2.2.2.2.2.2.2.1
  rw [List.map_cons]
  rcases xv_ors g hg v with q | ⟨t, q⟩
  · rw [q]
    exact lv_astoreN hC.1 hC.2.1 hd (xLv_has hL) (by rw [← hL.1]; exact hi) rfl (fun ls' h' => k g p l e R s m args below meth c Q hC hE H locs cells slots ls' hR (xLv_st1 (v := rV v) hg hL (by rw [← hL.1]; exact hi) h1 (by rw [q]; exact h')) hS hc hs)
  · rw [q]
    exact lv_astore hC.1 hC.2.1 hd (xLv_has hL) (by rw [← hL.1]; exact hi) rfl (fun ls' h' => k g p l e R s m args below meth c Q hC hE H locs cells slots ls' hR (xLv_st1 (v := rV v) hg hL (by rw [← hL.1]; exact hi) h1 (by rw [q]; exact h')) hS hc hs)
theorem E_null (hd : decode (xB μ) pc = .ok (.aconst_null, 1)) (hp : pc + 1 = pc') (k : X μ pc' L (rV 0 :: st) σ c9 s9 Φ) : X μ pc L st σ c9 s9 Φ := X_aconst_null hd hp k
/-- the arguments at a method's entry, where all are of one slot -/
theorem xEnt_1 : ∀ (As : List Value) (n : Nat), (∀ v ∈ As, v.category = 1) → xEnt As n = As.map some ++ List.replicate (n - As.length) none
  | [], n, _ => by simp [xEnt]
  | v :: vs, n, h => by
    rw [xEnt, if_neg (by rw [h v List.mem_cons_self]; decide), xEnt_1 vs (n - 1) (fun w hw => h w (List.mem_cons_of_mem _ hw))]
    simp only [List.map_cons, List.cons_append, List.length_cons]
    congr 3
    omega
theorem cat_sum : ∀ {As : List Value}, (∀ v ∈ As, v.category = 1) → (As.map fun v => v.category).sum = As.length
  | [], _ => rfl
  | v :: vs, h => by
    rw [List.map_cons, List.sum_cons, h v List.mem_cons_self, cat_sum (fun w hw => h w (List.mem_cons_of_mem _ hw)), List.length_cons]
    omega
theorem E_ent {As : List Value} {M : List (Option Value)} (h : ∀ v ∈ As, v.category = 1) (hM : As.map some ++ List.replicate (xL μ - As.length) none = M) (k : X μ 0 M [] σ c9 s9 Φ) : X μ 0 (xEnt As (xL μ)) [] σ c9 s9 Φ := by
  rw [xEnt_1 As _ h, hM]
  exact k
theorem c1_n : ∀ v ∈ ([] : List Value), v.category = 1 := fun _ h => nomatch h
theorem c1_i {x : Int32} {vs : List Value} (h : ∀ v ∈ vs, v.category = 1) : ∀ v ∈ (Value.int x :: vs), v.category = 1 := List.forall_mem_cons.mpr ⟨rfl, h⟩
theorem c1_r {x : Int} {vs : List Value} (h : ∀ v ∈ vs, v.category = 1) : ∀ v ∈ (rV x :: vs), v.category = 1 := List.forall_mem_cons.mpr ⟨rV_cat x, h⟩
theorem dO_rV {e : Int} {s : Nat} (hO : dO D e s) : rV e = .ref e.toNat := rV_p (by omega)
/-- fields -/
theorem E_getI {idx c k : Nat} {e j : Int} (hd : decode (xB μ) pc = .ok (.getfield idx, 3)) (hp : pc + 3 = pc') (hf : xFl (xY μ).cls idx c k) (hD : okD D) (hO : dO D e (c + 1)) (hr : isRf (c + 1) k = false) (hj : (k : Int) = j) (k9 : X μ pc' L (.int (iN (dW D e j)) :: st) (sD ln D z) c9 s9 Φ) : X μ pc L (rV e :: st) (sD ln D z) c9 s9 Φ := by
  subst hj
  rw [dO_rV hO]
  refine X_getf hd hp hf (sD_lt ⟨hO.1, hO.2.1⟩) (by rw [sD_sh hD ⟨hO.1, hO.2.1⟩]; exact hO.2.2) ?_ k9
  rw [sD_ct hD ⟨hO.1, hO.2.1⟩, hO.2.2]
  unfold dcv
  rw [hr]
  rfl
theorem E_getR {idx c k : Nat} {e j : Int} (hd : decode (xB μ) pc = .ok (.getfield idx, 3)) (hp : pc + 3 = pc') (hf : xFl (xY μ).cls idx c k) (hD : okD D) (hO : dO D e (c + 1)) (hr : isRf (c + 1) k = true) (hj : (k : Int) = j) (k9 : X μ pc' L (rV (dW D e j) :: st) (sD ln D z) c9 s9 Φ) : X μ pc L (rV e :: st) (sD ln D z) c9 s9 Φ := by
  subst hj
  rw [dO_rV hO]
  refine X_getf hd hp hf (sD_lt ⟨hO.1, hO.2.1⟩) (by rw [sD_sh hD ⟨hO.1, hO.2.1⟩]; exact hO.2.2) ?_ k9
  rw [sD_ct hD ⟨hO.1, hO.2.1⟩, hO.2.2]
  unfold dcv
  rw [hr]
  rfl
theorem E_putI {idx c k : Nat} {e j v : Int} (hd : decode (xB μ) pc = .ok (.putfield idx, 3)) (hp : pc + 3 = pc') (hf : xFl (xY μ).cls idx c k) (hD : okD D) (hO : dO D e (c + 1)) (hr : isRf (c + 1) k = false) (hfin : ∀ r : vw_C, xcl[c]? = some r → (r.2.1 k).2.2.2 = false ∨ ((xY μ).name = "<init>" ∧ (xY μ).cls = (r.2.1 k).1)) (hv : xFit (xct c k) (.int (iN v))) (hj : (k : Int) = j) (k9 : XD μ pc' L st ln (dup D e j v) z Φ) : XD μ pc L (.int (iN v) :: rV e :: st) ln D z Φ := by
  rw [dO_rV hO]
  refine X_putf hd hp hf (sD_lt ⟨hO.1, hO.2.1⟩) (by rw [sD_sh hD ⟨hO.1, hO.2.1⟩]; exact hO.2.2) hfin hv ?_
  rw [xset_eq hD ⟨hO.1, hO.2.1⟩ hj (v := v) (by rw [hO.2.2]; unfold dcv; rw [hr]; rfl)]
  exact k9
theorem E_putR {idx c k : Nat} {e j v : Int} (hd : decode (xB μ) pc = .ok (.putfield idx, 3)) (hp : pc + 3 = pc') (hf : xFl (xY μ).cls idx c k) (hD : okD D) (hO : dO D e (c + 1)) (hr : isRf (c + 1) k = true) (hfin : ∀ r : vw_C, xcl[c]? = some r → (r.2.1 k).2.2.2 = false ∨ ((xY μ).name = "<init>" ∧ (xY μ).cls = (r.2.1 k).1)) (ht : (∃ n, xct c k = .object n) ∨ ∃ t, xct c k = .array t) (hj : (k : Int) = j) (k9 : XD μ pc' L st ln (dup D e j v) z Φ) : XD μ pc L (rV v :: rV e :: st) ln D z Φ := by
  rw [dO_rV hO]
  refine X_putf hd hp hf (sD_lt ⟨hO.1, hO.2.1⟩) (by rw [sD_sh hD ⟨hO.1, hO.2.1⟩]; exact hO.2.2) hfin (Or.inr (Or.inl ⟨rV_or v, ht⟩)) ?_
  rw [xset_eq hD ⟨hO.1, hO.2.1⟩ hj (v := v) (by rw [hO.2.2]; unfold dcv; rw [hr]; rfl)]
  exact k9
/-- rows -/
theorem E_iald {e j : Int} (hd : decode (xB μ) pc = .ok (.iaload, 1)) (hp : pc + 1 = pc') (hD : okD D) (hO : dO D e 20) (hj : 0 ≤ j ∧ j < ((dH D e).2 : Int)) (k9 : X μ pc' L (.int (iN (dW D e j)) :: st) (sD ln D z) c9 s9 Φ) : X μ pc L (.int (iN j) :: rV e :: st) (sD ln D z) c9 s9 Φ := by
  have hn := ((hD.2.2 e hO.1 hO.2.1).1).2
  rw [dO_rV hO]
  refine X_iaload hd hp (sD_lt ⟨hO.1, hO.2.1⟩) (n := (dH D e).2) (by rw [sD_sh hD ⟨hO.1, hO.2.1⟩]; exact Prod.ext hO.2.2 rfl) (by omega) hj ?_ k9
  rw [sD_ct hD ⟨hO.1, hO.2.1⟩, hO.2.2, Int.toNat_of_nonneg hj.1]
  rfl
theorem E_bald {e j : Int} (hd : decode (xB μ) pc = .ok (.baload, 1)) (hp : pc + 1 = pc') (hD : okD D) (hO : dO D e 21) (hj : 0 ≤ j ∧ j < ((dH D e).2 : Int)) (k9 : X μ pc' L (.int (iN (dW D e j)) :: st) (sD ln D z) c9 s9 Φ) : X μ pc L (.int (iN j) :: rV e :: st) (sD ln D z) c9 s9 Φ := by
  have hn := ((hD.2.2 e hO.1 hO.2.1).1).2
  rw [dO_rV hO]
  refine X_baload hd hp (sD_lt ⟨hO.1, hO.2.1⟩) (n := (dH D e).2) (by rw [sD_sh hD ⟨hO.1, hO.2.1⟩]; exact Prod.ext hO.2.2 rfl) (by omega) hj ?_ k9
  rw [sD_ct hD ⟨hO.1, hO.2.1⟩, hO.2.2, Int.toNat_of_nonneg hj.1]
  rfl
theorem E_aald {e j : Int} (hd : decode (xB μ) pc = .ok (.aaload, 1)) (hp : pc + 1 = pc') (hD : okD D) (hO : dO D e 22) (hj : 0 ≤ j ∧ j < ((dH D e).2 : Int)) (k9 : X μ pc' L (rV (dW D e j) :: st) (sD ln D z) c9 s9 Φ) : X μ pc L (.int (iN j) :: rV e :: st) (sD ln D z) c9 s9 Φ := by
  have hn := ((hD.2.2 e hO.1 hO.2.1).1).2
  rw [dO_rV hO]
  refine X_aaloadO hd hp (sD_lt ⟨hO.1, hO.2.1⟩) (n := (dH D e).2) (by rw [sD_sh hD ⟨hO.1, hO.2.1⟩]; exact Prod.ext hO.2.2 rfl) (by omega) hj ?_ k9
  rw [sD_ct hD ⟨hO.1, hO.2.1⟩, hO.2.2, Int.toNat_of_nonneg hj.1]
  rfl
theorem E_iast {e j v : Int} (hd : decode (xB μ) pc = .ok (.iastore, 1)) (hp : pc + 1 = pc') (hD : okD D) (hO : dO D e 20) (hj : 0 ≤ j ∧ j < ((dH D e).2 : Int)) (k9 : XD μ pc' L st ln (dup D e j v) z Φ) : XD μ pc L (.int (iN v) :: .int (iN j) :: rV e :: st) ln D z Φ := by
  have hn := ((hD.2.2 e hO.1 hO.2.1).1).2
  rw [dO_rV hO]
  refine X_iastore hd hp (sD_lt ⟨hO.1, hO.2.1⟩) (n := (dH D e).2) (by rw [sD_sh hD ⟨hO.1, hO.2.1⟩]; exact Prod.ext hO.2.2 rfl) (by omega) hj ?_
  rw [xset_eq hD ⟨hO.1, hO.2.1⟩ (Int.toNat_of_nonneg hj.1) (v := v) (by rw [hO.2.2]; rfl)]
  exact k9
theorem E_bast {e j v : Int} (hd : decode (xB μ) pc = .ok (.bastore, 1)) (hp : pc + 1 = pc') (hD : okD D) (hO : dO D e 21) (hj : 0 ≤ j ∧ j < ((dH D e).2 : Int)) (hv : -128 ≤ v ∧ v < 128) (k9 : XD μ pc' L st ln (dup D e j v) z Φ) : XD μ pc L (.int (iN v) :: .int (iN j) :: rV e :: st) ln D z Φ := by
  have hn := ((hD.2.2 e hO.1 hO.2.1).1).2
  rw [dO_rV hO]
  refine X_bastore hd hp (sD_lt ⟨hO.1, hO.2.1⟩) (n := (dH D e).2) (by rw [sD_sh hD ⟨hO.1, hO.2.1⟩]; exact Prod.ext hO.2.2 rfl) (by omega) hj hv ?_
  rw [xset_eq hD ⟨hO.1, hO.2.1⟩ (Int.toNat_of_nonneg hj.1) (v := v) (by rw [hO.2.2]; rfl)]
  exact k9
/-- the classes of what an array may hold -/
theorem isW_rng : ∀ i, i < 48 → isW (1000100 + i) := by unfold isW; decide +kernel
theorem xcst : ∀ (c : Nat) (r : vw_C), xcl[c]? = some r → 6 ≤ c → Cond.castable r.1 "java/lang/Object" ∈ lw_tbl :=
  xcl_cases (P := fun c r => 6 ≤ c → Cond.castable r.1 "java/lang/Object" ∈ lw_tbl) (fun h => absurd h (by decide)) (fun h => absurd h (by decide)) (fun h => absurd h (by decide)) (fun h => absurd h (by decide)) (fun h => absurd h (by decide)) (fun h => absurd h (by decide)) (fun _ => tq2098) (fun _ => tq2105) (fun _ => tq2099) (fun _ => tq2100) (fun _ => tq2106) (fun _ => tq2110) (fun _ => tq2108) (fun _ => tq2107) (fun _ => tq2102) (fun _ => tq2101) (fun _ => tq2103) (fun _ => tq2104)
theorem sD_str {v : Int} (h : 1000100 ≤ v ∧ v < 1000148) : (sD ln D z).2.1 v.toNat = (31, 0) := by
  have h1 := isW_rng (v.toNat - 1000100) (by omega)
  rw [show 1000100 + (v.toNat - 1000100) = v.toNat by omega] at h1
  exact isW_sh h1 (ln, D)
theorem sD_box {v : Int} (h : 1000300 ≤ v ∧ v < 1000556) : (sD ln D z).2.1 v.toNat = (33, 0) := by
  show (if v.toNat < 151 then _ else if v.toNat < 1000000 then _ else if v.toNat = 1000000 then _ else zST v.toNat) = _
  rw [if_neg (by omega), if_neg (by omega), if_neg (by omega)]
  unfold zST
  rw [if_neg (by omega), if_neg (by omega), if_pos (by omega)]
theorem sD_boxv {v : Int} (h : 1000300 ≤ v ∧ v < 1000556) : (sD ln D z).2.2 v.toNat 0 = .int (iN (v - 1000428)) := by
  show zCD (ln, D) z v.toNat 0 = _
  rw [zCD_c (Or.inr (by omega))]
  show zcv (zSH z0 v.toNat).1 v.toNat 0 _ = _
  have e : (zSH z0 v.toNat).1 = 33 := congrArg Prod.fst (sD_box (ln := 0) (D := z0.2) (z := z) h)
  rw [e]
  show Value.int (iN ((v.toNat : Int) - 1000428)) = _
  rw [Int.toNat_of_nonneg (by omega)]
theorem dO_is {e : Int} {c : Nat} {r : vw_C} (hD : okD D) (hO : dO D e (c + 1)) (hr : xcl[c]? = some r) : xIs (sD ln D z) e.toNat r.1 :=
  Or.inl ⟨sD_lt ⟨hO.1, hO.2.1⟩, Or.inl ⟨c, r, by rw [sD_sh hD ⟨hO.1, hO.2.1⟩]; exact hO.2.2, hr, rfl⟩⟩
theorem dO_isI {e : Int} (hD : okD D) (hO : dO D e 20) : xIs (sD ln D z) e.toNat "[I" := Or.inl ⟨sD_lt ⟨hO.1, hO.2.1⟩, Or.inr (Or.inl ⟨by rw [sD_sh hD ⟨hO.1, hO.2.1⟩]; exact hO.2.2, rfl⟩)⟩
theorem dO_isB {e : Int} (hD : okD D) (hO : dO D e 21) : xIs (sD ln D z) e.toNat "[B" := Or.inl ⟨sD_lt ⟨hO.1, hO.2.1⟩, Or.inr (Or.inr (Or.inl ⟨by rw [sD_sh hD ⟨hO.1, hO.2.1⟩]; exact hO.2.2, rfl⟩))⟩
theorem dO_isO {e : Int} (hD : okD D) (hO : dO D e 22) : xIs (sD ln D z) e.toNat "[Ljava/lang/Object;" := Or.inl ⟨sD_lt ⟨hO.1, hO.2.1⟩, Or.inr (Or.inr (Or.inr ⟨by rw [sD_sh hD ⟨hO.1, hO.2.1⟩]; exact hO.2.2, rfl⟩))⟩
abbrev isBox (v : Int) : Prop := 1000300 ≤ v ∧ v < 1000556
abbrev isStr (v : Int) : Prop := 1000100 ≤ v ∧ v < 1000148
theorem box_is {v : Int} (h : isBox v) : xIs (sD ln D z) v.toNat "java/lang/Integer" := Or.inr ⟨by omega, Or.inl ⟨by rw [sD_box h], rfl⟩⟩
theorem str_is {v : Int} (h : isStr v) : xIs (sD ln D z) v.toNat "java/lang/String" := Or.inr ⟨by omega, Or.inr ⟨by rw [sD_str h], rfl⟩⟩
theorem gdE_is {v : Int} (hD : okD D) (h : gdE D v) (h0 : v ≠ 0) : ∃ C, xIs (sD ln D z) v.toNat C ∧ Cond.castable C "java/lang/Object" ∈ lw_tbl := by
  rcases h with h | ⟨h1, h2, h3, h4, h5⟩ | h | h
  · exact absurd h h0
  · have hO : dO D v (dH D v).1 := ⟨h1, h2, rfl⟩
    by_cases c1 : (dH D v).1 = 20
    · exact ⟨_, dO_isI hD ⟨h1, h2, c1⟩, tq2115⟩
    by_cases c2 : (dH D v).1 = 21
    · exact ⟨_, dO_isB hD ⟨h1, h2, c2⟩, tq2117⟩
    by_cases c3 : (dH D v).1 = 22
    · exact ⟨_, dO_isO hD ⟨h1, h2, c3⟩, tq2118⟩
    have hc : (dH D v).1 - 1 < 18 := by omega
    obtain ⟨r, hr⟩ : ∃ r, xcl[(dH D v).1 - 1]? = some r := ⟨_, List.getElem?_eq_getElem (by show (dH D v).1 - 1 < 18; exact hc)⟩
    exact ⟨r.1, dO_is hD (c := (dH D v).1 - 1) ⟨h1, h2, by omega⟩ hr, xcst _ r hr (by omega)⟩
  · exact ⟨_, str_is h, tq2104⟩
  · exact ⟨_, box_is h, tq2088⟩
theorem E_aast {e j v : Int} (hd : decode (xB μ) pc = .ok (.aastore, 1)) (hp : pc + 1 = pc') (hD : okD D) (hO : dO D e 22) (hj : 0 ≤ j ∧ j < ((dH D e).2 : Int)) (hv : gdE D v) (k9 : XD μ pc' L st ln (dup D e j v) z Φ) : XD μ pc L (rV v :: .int (iN j) :: rV e :: st) ln D z Φ := by
  have hn := ((hD.2.2 e hO.1 hO.2.1).1).2
  have hk := xset_eq (ln := ln) (z := z) hD ⟨hO.1, hO.2.1⟩ (Int.toNat_of_nonneg hj.1) (v := v) (w := rV v) (by rw [hO.2.2]; rfl)
  have hb := hD.1
  rw [dO_rV hO]
  by_cases h0 : v = 0
  · subst h0
    refine X_aastoreN hd hp (sD_lt ⟨hO.1, hO.2.1⟩) (n := (dH D e).2) (by rw [sD_sh hD ⟨hO.1, hO.2.1⟩]; exact Prod.ext hO.2.2 rfl) (by omega) hj ?_
    rw [rV_0] at hk
    rw [hk]
    exact k9
  · obtain ⟨C, h1, h2⟩ := gdE_is (ln := ln) (z := z) hD hv h0
    have hp0 : 0 < v := by rcases hv with hv | hv | hv | hv <;> omega
    rw [rV_p hp0] at hk ⊢
    refine X_aastoreO hd hp (sD_lt ⟨hO.1, hO.2.1⟩) (n := (dH D e).2) (by rw [sD_sh hD ⟨hO.1, hO.2.1⟩]; exact Prod.ext hO.2.2 rfl) (by omega) hj h1 h2 ?_
    rw [hk]
    exact k9
theorem E_alen {e : Int} (hd : decode (xB μ) pc = .ok (.arraylength, 1)) (hp : pc + 1 = pc') (hD : okD D) (hO : 151 ≤ e ∧ e < dT D ∧ 20 ≤ (dH D e).1) (k9 : X μ pc' L (.int (iN ((dH D e).2 : Int)) :: st) (sD ln D z) c9 s9 Φ) : X μ pc L (rV e :: st) (sD ln D z) c9 s9 Φ := by
  rw [rV_p (by omega)]
  exact X_alen hd hp (sD_lt ⟨hO.1, hO.2.1⟩) (t := (dH D e).1) (n := (dH D e).2) (by rw [sD_sh hD ⟨hO.1, hO.2.1⟩]) hO.2.2 k9
theorem E_alen0 (hd : decode (xB μ) pc = .ok (.arraylength, 1)) (hp : pc + 1 = pc') (k9 : X μ pc' L (.int (iN 0) :: st) (sD ln D z) c9 s9 Φ) : X μ pc L (rV 1000012 :: st) (sD ln D z) c9 s9 Φ := X_alenS35 (a := 1000012) (n := 0) hd hp (by omega) rfl k9
/-- references against null, against each other -/
theorem gdV_there {v : Int} (hD : okD D) (h : gdV D v) (h0 : v ≠ 0) : 0 < v ∧ xThere (sD ln D z) v.toNat := by
  have := hD.1
  rcases h with (h | ⟨h1, h2, -⟩ | h | h) | h | h
  · exact absurd h h0
  · exact ⟨by omega, Or.inl (sD_lt ⟨h1, h2⟩)⟩
  · exact ⟨by omega, Or.inr (Or.inl ⟨_, str_is h⟩)⟩
  · exact ⟨by omega, Or.inr (Or.inl ⟨_, box_is h⟩)⟩
  · subst h
    exact ⟨by omega, Or.inr (Or.inr (Or.inl rfl))⟩
  · refine ⟨by omega, Or.inr (Or.inr (Or.inr ⟨by omega, ?_⟩))⟩
    have q : ∀ i : Nat, i < 48 → (zST (1000200 + i)).1 = 32 := by decide +kernel
    have e : v.toNat = 1000200 + (v.toNat - 1000200) := by omega
    show (zSH (ln, D) v.toNat).1 = 32
    have q := q (v.toNat - 1000200) (by omega)
    rw [← e] at q
    unfold zSH
    rw [if_neg (by omega), if_neg (by omega), if_neg (by omega)]
    exact q
theorem E_ifnull {v : Int} {off : Int} (hd : decode (xB μ) pc = .ok (.ifnull off, 3)) (ht : (pc : Int) + off = (tgt : Int)) (hp : pc + 3 = pc') (hD : okD D) (hv : gdV D v) (kt : v = 0 → X μ tgt L st (sD ln D z) c9 s9 Φ) (kf : ¬ v = 0 → X μ pc' L st (sD ln D z) c9 s9 Φ) : X μ pc L (rV v :: st) (sD ln D z) c9 s9 Φ := by
  by_cases h : v = 0
  · subst h
    exact X_ifnullN hd ht (kt rfl)
  · obtain ⟨h1, h2⟩ := gdV_there (ln := ln) (z := z) hD hv h
    rw [rV_p h1]
    exact X_ifnull1 hd hp sD_k12 h2 (kf h)
theorem E_ifnonnull {v : Int} {off : Int} (hd : decode (xB μ) pc = .ok (.ifnonnull off, 3)) (ht : (pc : Int) + off = (tgt : Int)) (hp : pc + 3 = pc') (hD : okD D) (hv : gdV D v) (kt : ¬ v = 0 → X μ tgt L st (sD ln D z) c9 s9 Φ) (kf : v = 0 → X μ pc' L st (sD ln D z) c9 s9 Φ) : X μ pc L (rV v :: st) (sD ln D z) c9 s9 Φ := by
  by_cases h : v = 0
  · subst h
    exact X_ifnonnullN hd hp (kf rfl)
  · obtain ⟨h1, h2⟩ := gdV_there (ln := ln) (z := z) hD hv h
    rw [rV_p h1]
    exact X_ifnonnull1 hd ht sD_k12 h2 (kt h)
abbrev cmpV (D : DD) (v : Int) : Prop := v = 0 ∨ (151 ≤ v ∧ v < dT D) ∨ v = 1000012
theorem cmpV_x {v : Int} (h : cmpV D v) : 0 ≤ v ∧ xCmp (sD ln D z) (rV v) := by
  rcases h with h | h | h
  · subst h
    exact ⟨by omega, Or.inl rfl⟩
  · exact ⟨by omega, Or.inr ⟨v.toNat, rV_p (by omega), Or.inl (sD_lt h)⟩⟩
  · subst h
    exact ⟨by omega, Or.inr ⟨1000012, rfl, Or.inr rfl⟩⟩
theorem E_acmp_eq {u v : Int} {off : Int} (hd : decode (xB μ) pc = .ok (.if_acmp .eq off, 3)) (ht : (pc : Int) + off = (tgt : Int)) (hp : pc + 3 = pc') (hu : cmpV D u) (hv : cmpV D v) (kt : u = v → X μ tgt L st (sD ln D z) c9 s9 Φ) (kf : ¬ u = v → X μ pc' L st (sD ln D z) c9 s9 Φ) : X μ pc L (rV v :: rV u :: st) (sD ln D z) c9 s9 Φ := by
  obtain ⟨a1, a2⟩ := cmpV_x (ln := ln) (z := z) hu
  obtain ⟨b1, b2⟩ := cmpV_x (ln := ln) (z := z) hv
  exact X_acmp_eq hd ht hp sD_k12 a2 b2 (fun h => kt ((rV_inj a1 b1).mp h)) (fun h => kf (fun q => h ((rV_inj a1 b1).mpr q)))
theorem E_acmp_ne {u v : Int} {off : Int} (hd : decode (xB μ) pc = .ok (.if_acmp .ne off, 3)) (ht : (pc : Int) + off = (tgt : Int)) (hp : pc + 3 = pc') (hu : cmpV D u) (hv : cmpV D v) (kt : ¬ u = v → X μ tgt L st (sD ln D z) c9 s9 Φ) (kf : u = v → X μ pc' L st (sD ln D z) c9 s9 Φ) : X μ pc L (rV v :: rV u :: st) (sD ln D z) c9 s9 Φ := by
  obtain ⟨a1, a2⟩ := cmpV_x (ln := ln) (z := z) hu
  obtain ⟨b1, b2⟩ := cmpV_x (ln := ln) (z := z) hv
  exact X_acmp_ne hd ht hp sD_k12 a2 b2 (fun h => kt (fun q => h ((rV_inj a1 b1).mpr q))) (fun h => kf ((rV_inj a1 b1).mp h))
/-- casts -/
theorem E_cast {idx : Nat} {v : Int} {C : String} (hd : decode (xB μ) pc = .ok (.checkcast idx, 3)) (hp : pc + 3 = pc') (hl : Cond.classLink (xY μ).cls idx C ∈ lw_tbl) (h0 : 0 < v) (hi : xIs (sD ln D z) v.toNat C) (k : X μ pc' L (rV v :: st) (sD ln D z) c9 s9 Φ) : X μ pc L (rV v :: st) (sD ln D z) c9 s9 Φ := by
  rw [rV_p h0] at k ⊢
  exact X_castS hd hp hl hi k
theorem E_castY {idx : Nat} {v : Int} {C nm : String} (hd : decode (xB μ) pc = .ok (.checkcast idx, 3)) (hp : pc + 3 = pc') (hl : Cond.classLink (xY μ).cls idx nm ∈ lw_tbl) (hc : Cond.castable C nm ∈ lw_tbl) (h0 : 0 < v) (hi : xIs (sD ln D z) v.toNat C) (k : X μ pc' L (rV v :: st) (sD ln D z) c9 s9 Φ) : X μ pc L (rV v :: st) (sD ln D z) c9 s9 Φ := by
  rw [rV_p h0] at k ⊢
  exact X_castY hd hp hl hc hi k
/-- boxes -/
theorem E_boxv {idx : Nat} {v : Int} (hd : decode (xB μ) pc = .ok (.getfield idx, 3)) (hp : pc + 3 = pc') (hf : Cond.fieldLink (xY μ).cls idx "java/lang/Integer" "value" "I" ∈ lw_tbl) (h : isBox v) (k9 : X μ pc' L (.int (iN (v - 1000428)) :: st) (sD ln D z) c9 s9 Φ) : X μ pc L (rV v :: st) (sD ln D z) c9 s9 Φ := by
  rw [rV_p (by omega)]
  exact X_getfI hd hp hf (by omega) (sD_box h) (sD_boxv h) k9
theorem E_box {j : Int} (hd : decode (xB μ) pc = .ok (.aaload, 1)) (hp : pc + 1 = pc') (hj : 0 ≤ j ∧ j < 256) (k9 : X μ pc' L (rV (1000300 + j) :: st) (sD ln D z) c9 s9 Φ) : X μ pc L (.int (iN j) :: rV 1000299 :: st) (sD ln D z) c9 s9 Φ := by
  refine X_aaloadS (a := 1000299) (n := 256) hd hp (by omega) rfl (by omega) hj ?_ k9
  show zCD (ln, D) z 1000299 j.toNat = _
  rw [zCD_c (Or.inr (by omega)), rV_p (by omega)]
  rw [show (1000300 + j).toNat = 1000300 + j.toNat by omega]
  rfl
theorem E_gets {idx : Nat} {q : String × String × String × Value} {v : Int} (hd : decode (xB μ) pc = .ok (.getstatic idx, 3)) (hp : pc + 3 = pc') (hq : q ∈ xstat) (hf : Cond.fieldLink (xY μ).cls idx q.1 q.2.1 q.2.2.1 ∈ lw_tbl) (hv : q.2.2.2 = rV v) (k9 : X μ pc' L (rV v :: st) σ c9 s9 Φ) : X μ pc L st σ c9 s9 Φ := X_gets hd hp hq hf (by rw [hv]; exact k9)
theorem E_ldcS {idx a : Nat} {tx : String} (hd : decode (xB μ) pc = .ok (.ldc idx, 2)) (hp : pc + 2 = pc') (hq : ((xY μ).cls, idx, tx, a) ∈ xstr) (ha : 1000000 ≤ a) (k9 : X μ pc' L (rV (a : Int) :: st) σ c9 s9 Φ) : X μ pc L st σ c9 s9 Φ := X_ldcS hd hp hq ha (by rw [← rV_n (a := a) (by omega)]; exact k9)
theorem E_baldK {a n : Nat} {j : Int} (hd : decode (xB μ) pc = .ok (.baload, 1)) (hp : pc + 1 = pc') (ha : 1000001 ≤ a) (hs : zSH (ln, D) a = (32, n)) (hn : n < 2147483648) (hj : 0 ≤ j ∧ j < n) (k9 : X μ pc' L (.int (iN (zKC a j)) :: st) (sD ln D z) c9 s9 Φ) : X μ pc L (.int (iN j) :: rV (a : Int) :: st) (sD ln D z) c9 s9 Φ := by
  rw [rV_n (a := a) (by omega)]
  exact Y_baldK hd hp ha hs hn hj k9
end ER

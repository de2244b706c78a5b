/-! rows of further instructions -/
theorem iN_neg (a : Int) : -iN a = iN (-a) := (Int32.ofInt_neg a).symm
theorem i2b_iN {a : Int} (h : -128 ≤ a ∧ a < 128) : (iN a).toInt8.toInt32 = iN a := by
  apply Int32.toInt_inj.mp
  rw [Int8.toInt_toInt32, Int32.toInt_toInt8, iN_toInt ⟨by omega, by omega⟩]
  exact Int.bmod_eq_of_le (by omega) (by omega)
theorem i2c_iN {a : Int} (h : 0 ≤ a ∧ a < 65536) : ((iN a).toUInt32 % 65536).toInt32 = iN a := by
  have e : (iN a).toUInt32 % 65536 = (iN a).toUInt32 := by
    apply UInt32.toNat_inj.mp
    have h1 : (iN a).toUInt32.toNat = a.toNat := by
      have h2 : (iN a).toInt = a := iN_toInt ⟨by omega, by omega⟩
      have h3 : (iN a).toInt = (iN a).toBitVec.toInt := rfl
      have h4 : (iN a).toUInt32.toNat = (iN a).toBitVec.toNat := rfl
      rw [BitVec.toInt_eq_toNat_cond] at h3
      have h5 : (iN a).toBitVec.toNat < 4294967296 := (iN a).toBitVec.isLt
      rw [h4]
      split at h3 <;> omega
    rw [UInt32.toNat_mod, h1]
    show a.toNat % 65536 = a.toNat
    omega
  rw [e]
  exact Int32.toInt32_toUInt32 _
section XMo
variable {μ : xM} {pc pc' tgt : Nat} {L L' : List (Option Value)} {st : List Value} {σ : xS} {c9 s9 : Nat} {Φ : xRes → xS → Prop}
theorem X_ineg {a : Int} (hd : decode (xB μ) pc = .ok (.ineg, 1)) (hp : pc + 1 = pc') (k : X μ pc' L (.int (iN (-a)) :: st) σ c9 s9 Φ) : X μ pc L (.int (iN a) :: st) σ c9 s9 Φ := by
  subst hp
  rw [← iN_neg] at k
  intro g p l e R s m args below meth c Q hC hE H locs cells slots ls hR hL hS hc hs
  exact lv_ineg hC.1 hC.2.1 hd (k g p l e R s m args below meth c Q hC hE H locs cells slots ls hR hL hS hc hs)
theorem X_i2b {a : Int} (hd : decode (xB μ) pc = .ok (.i2b, 1)) (hp : pc + 1 = pc') (hr : -128 ≤ a ∧ a < 128) (k : X μ pc' L (.int (iN a) :: st) σ c9 s9 Φ) : X μ pc L (.int (iN a) :: st) σ c9 s9 Φ := by
  subst hp
  intro g p l e R s m args below meth c Q hC hE H locs cells slots ls hR hL hS hc hs
  exact lv_i2b hC.1 hC.2.1 hd (i2b_iN hr) (k g p l e R s m args below meth c Q hC hE H locs cells slots ls hR hL hS hc hs)
theorem X_i2cN {a : Int} (hd : decode (xB μ) pc = .ok (.i2c, 1)) (hp : pc + 1 = pc') (hr : 0 ≤ a ∧ a < 65536) (k : X μ pc' L (.int (iN a) :: st) σ c9 s9 Φ) : X μ pc L (.int (iN a) :: st) σ c9 s9 Φ := X_i2c hd hp (by rw [i2c_iN hr]; exact k)
theorem X_dup_x1 {a b : Value} (hd : decode (xB μ) pc = .ok (.dup_x1, 1)) (hp : pc + 1 = pc') (ha : a.category = 1) (hb : b.category = 1) (k : X μ pc' L (a :: b :: a :: st) σ c9 s9 Φ) : X μ pc L (a :: b :: st) σ c9 s9 Φ := by
  subst hp
  intro g p l e R s m args below meth c Q hC hE H locs cells slots ls hR hL hS hc hs
  have hg := hC.2.2.2.2.2.2.2.2.2.2.2.2.2.2.2.2.2.2.2.2.2.2.1
  exact lv_dup_x1 hC.1 hC.2.1 hd (by rw [xcat g a hg]; exact ha) (by rw [xcat g b hg]; exact hb) (k g p l e R s m args below meth c Q hC hE H locs cells slots ls hR hL hS hc hs)
theorem X_ifnullN {off : Int} (hd : decode (xB μ) pc = .ok (.ifnull off, 3)) (ht : (pc : Int) + off = (tgt : Int)) (k : X μ tgt L st σ c9 s9 Φ) : X μ pc L (.null :: st) σ c9 s9 Φ := by
  intro g p l e R s m args below meth c Q hC hE H locs cells slots ls hR hL hS hc hs
  exact lv_ifnullN hC.1 hC.2.1 hd ht (k g p l e R s m args below meth c Q hC hE H locs cells slots ls hR hL hS hc hs)
theorem X_ifnonnullN {off : Int} (hd : decode (xB μ) pc = .ok (.ifnonnull off, 3)) (hp : pc + 3 = pc') (k : X μ pc' L st σ c9 s9 Φ) : X μ pc L (.null :: st) σ c9 s9 Φ := by
  subst hp
  intro g p l e R s m args below meth c Q hC hE H locs cells slots ls hR hL hS hc hs
  exact lv_ifnonnullN hC.1 hC.2.1 hd (k g p l e R s m args below meth c Q hC hE H locs cells slots ls hR hL hS hc hs)
/-- a reference that is there -/
def xThere (σ : xS) (a : Nat) : Prop := a < σ.1 ∨ (∃ C, xIs σ a C) ∨ a = 1000012 ∨ (1000000 ≤ a ∧ (σ.2.1 a).1 = 32)
theorem xThere_ref {g : xG} {s : State} {H : Heap} {locs : List Loc} {a : Nat} (hR : xRep g σ H) (hS : va_S (xA g) s.heap H locs) (hSF : xSF g s s.heap) (hK : gS g 1000012 = (35, 0)) (h : xThere σ a) : ∃ t : Nat, xv g (.ref a) = .ref t ∧ ((a < σ.1 ∧ t = gB g + a) ∨ (1000000 ≤ a ∧ (a = 1000012 → t < gB g))) := by
  rcases h with h | ⟨C, h⟩ | rfl | ⟨h, h9⟩
  · exact ⟨_, xv_ref g (Nat.lt_of_lt_of_le h hR.2.1), Or.inl ⟨h, rfl⟩⟩
  · obtain ⟨t, cell, e, -⟩ := xIs_cell hR hS hSF h
    rcases h with ⟨h, -⟩ | ⟨h, h2⟩
    · exact ⟨_, xv_ref g (Nat.lt_of_lt_of_le h hR.2.1), Or.inl ⟨h, rfl⟩⟩
    · refine ⟨t, e, Or.inr ⟨h, fun h3 => ?_⟩⟩
      subst h3
      have h4 := (hR.2.2.2 1000012 (by omega)).1
      rw [h4, hK] at h2
      rcases h2 with ⟨h2, -⟩ | ⟨h2, -⟩ <;> cases h2
  · obtain ⟨t, e, cell, h1, h2, h3, h4, h5, h6, h7⟩ := (xS2of hSF).2.1 1000012 0 (by omega) hK
    refine ⟨t, by rw [xv_stat g (by omega)]; exact e, Or.inr ⟨by omega, fun _ => ?_⟩⟩
    unfold xA at h7
    omega
  · rw [(hR.2.2.2 a h).1] at h9
    obtain ⟨t, e, -⟩ := hSF.2.2.2.1 a (gS g a).2 h (Prod.ext h9 rfl)
    refine ⟨t, by rw [xv_stat g h]; exact e, Or.inr ⟨h, fun q => ?_⟩⟩
    rw [q, hK] at h9
    cases h9
/-- .. with what the walk's start says of the static row -/
def xk12 (σ : xS) : Prop := σ.2.1 1000012 = (35, 0)
theorem X_ifnull1 {x : Nat} {off : Int} (hd : decode (xB μ) pc = .ok (.ifnull off, 3)) (hp : pc + 3 = pc') (h12 : xk12 σ) (hx : xThere σ x) (k : X μ pc' L st σ c9 s9 Φ) : X μ pc L (.ref x :: st) σ c9 s9 Φ := by
  subst hp
  intro g p l e R s m args below meth c Q hC hE H locs cells slots ls hR hL hS hc hs
  obtain ⟨t, e1, -⟩ := xThere_ref hR hS hC.2.2.2.2.2.2.2.2.2.2.2.2 ((hR.2.2.2 1000012 (by omega)).1 ▸ h12) hx
  rw [List.map_cons, e1]
  exact lv_ifnull hC.1 hC.2.1 hd (k g p l e R s m args below meth c Q hC hE H locs cells slots ls hR hL hS hc hs)
theorem X_ifnonnull1 {x : Nat} {off : Int} (hd : decode (xB μ) pc = .ok (.ifnonnull off, 3)) (ht : (pc : Int) + off = (tgt : Int)) (h12 : xk12 σ) (hx : xThere σ x) (k : X μ tgt L st σ c9 s9 Φ) : X μ pc L (.ref x :: st) σ c9 s9 Φ := by
  intro g p l e R s m args below meth c Q hC hE H locs cells slots ls hR hL hS hc hs
  obtain ⟨t, e1, -⟩ := xThere_ref hR hS hC.2.2.2.2.2.2.2.2.2.2.2.2 ((hR.2.2.2 1000012 (by omega)).1 ▸ h12) hx
  rw [List.map_cons, e1]
  exact lv_ifnonnull hC.1 hC.2.1 hd ht (k g p l e R s m args below meth c Q hC hE H locs cells slots ls hR hL hS hc hs)
/-- references that can be compared: null, made ones, the empty row -/
def xCmp (σ : xS) (v : Value) : Prop := v = .null ∨ ∃ a : Nat, v = .ref a ∧ (a < σ.1 ∨ a = 1000012)
theorem xCmp_rf {g : xG} {s : State} {H : Heap} {locs : List Loc} {v : Value} (hR : xRep g σ H) (hS : va_S (xA g) s.heap H locs) (hSF : xSF g s s.heap) (hK : gS g 1000012 = (35, 0)) (h : xCmp σ v) : ∃ r : Option Nat, xv g v = va_rf r ∧ ((v = .null ∧ r = none) ∨ ∃ a t : Nat, v = .ref a ∧ r = some t ∧ ((a < σ.1 ∧ t = gB g + a) ∨ (a = 1000012 ∧ t < gB g))) := by
  rcases h with rfl | ⟨a, rfl, h⟩
  · exact ⟨none, rfl, Or.inl ⟨rfl, rfl⟩⟩
  · have hth : xThere σ a := by
      rcases h with h | h
      · exact Or.inl h
      · exact Or.inr (Or.inr (Or.inl h))
    obtain ⟨t, e, h1⟩ := xThere_ref hR hS hSF hK hth
    refine ⟨some t, e, Or.inr ⟨a, t, rfl, rfl, ?_⟩⟩
    rcases h with h | h
    · rcases h1 with h1 | ⟨h1, -⟩
      · exact Or.inl h1
      · have := hR.2.1
        omega
    · rcases h1 with ⟨h1, -⟩ | ⟨-, h1⟩
      · have := hR.2.1
        omega
      · exact Or.inr ⟨h, h1 h⟩
theorem xCmp_eq {g : xG} {s : State} {H : Heap} {locs : List Loc} {u v : Value} (hR : xRep g σ H) (hS : va_S (xA g) s.heap H locs) (hSF : xSF g s s.heap) (hK : gS g 1000012 = (35, 0)) (hu : xCmp σ u) (hv : xCmp σ v) : ∃ r1 r2 : Option Nat, xv g u = va_rf r1 ∧ xv g v = va_rf r2 ∧ (r1 = r2 ↔ u = v) := by
  obtain ⟨r1, e1, h1⟩ := xCmp_rf hR hS hSF hK hu
  obtain ⟨r2, e2, h2⟩ := xCmp_rf hR hS hSF hK hv
  refine ⟨r1, r2, e1, e2, ?_⟩
  have hB := hR.2.1
  rcases h1 with ⟨rfl, rfl⟩ | ⟨a, t, rfl, rfl, h1⟩ <;> rcases h2 with ⟨rfl, rfl⟩ | ⟨b, t', rfl, rfl, h2⟩
  · simp
  · simp
  · simp
  · constructor
    · intro h
      have h : t = t' := Option.some.inj h
      have : a = b := by
        rcases h1 with ⟨h1, q1⟩ | ⟨h1, q1⟩ <;> rcases h2 with ⟨h2, q2⟩ | ⟨h2, q2⟩ <;> omega
      rw [this]
    · intro h
      have h : a = b := by injection h
      subst h
      have : t = t' := by
        rcases h1 with ⟨h1, q1⟩ | ⟨h1, q1⟩ <;> rcases h2 with ⟨h2, q2⟩ | ⟨h2, q2⟩
        · omega
        · omega
        · omega
        · have k1 := e1.symm.trans e2
          have k2 : Value.ref t = Value.ref t' := k1
          injection k2
      rw [this]
theorem X_acmp_eq {u v : Value} {off : Int} (hd : decode (xB μ) pc = .ok (.if_acmp .eq off, 3)) (ht : (pc : Int) + off = (tgt : Int)) (hp : pc + 3 = pc') (h12 : xk12 σ) (hu : xCmp σ u) (hv : xCmp σ v) (kt : u = v → X μ tgt L st σ c9 s9 Φ) (kf : ¬ u = v → X μ pc' L st σ c9 s9 Φ) : X μ pc L (v :: u :: st) σ c9 s9 Φ := by
  subst hp
  intro g p l e R s m args below meth c Q hC hE H locs cells slots ls hR hL hS hc hs
  obtain ⟨r1, r2, e1, e2, he⟩ := xCmp_eq hR hS hC.2.2.2.2.2.2.2.2.2.2.2.2 ((hR.2.2.2 1000012 (by omega)).1 ▸ h12) hu hv
  rw [List.map_cons, List.map_cons, e1, e2]
  exact lv_acmp_eq hC.1 hC.2.1 hd ht (fun h => kt (he.mp h) g p l e R s m args below meth c Q hC hE H locs cells slots ls hR hL hS hc hs) (fun h => kf (fun q => h (he.mpr q)) g p l e R s m args below meth c Q hC hE H locs cells slots ls hR hL hS hc hs)
theorem X_acmp_ne {u v : Value} {off : Int} (hd : decode (xB μ) pc = .ok (.if_acmp .ne off, 3)) (ht : (pc : Int) + off = (tgt : Int)) (hp : pc + 3 = pc') (h12 : xk12 σ) (hu : xCmp σ u) (hv : xCmp σ v) (kt : ¬ u = v → X μ tgt L st σ c9 s9 Φ) (kf : u = v → X μ pc' L st σ c9 s9 Φ) : X μ pc L (v :: u :: st) σ c9 s9 Φ := by
  subst hp
  intro g p l e R s m args below meth c Q hC hE H locs cells slots ls hR hL hS hc hs
  obtain ⟨r1, r2, e1, e2, he⟩ := xCmp_eq hR hS hC.2.2.2.2.2.2.2.2.2.2.2.2 ((hR.2.2.2 1000012 (by omega)).1 ▸ h12) hu hv
  rw [List.map_cons, List.map_cons, e1, e2]
  exact lv_acmp_ne hC.1 hC.2.1 hd ht (fun h => kt (fun q => h (he.mpr q)) g p l e R s m args below meth c Q hC hE H locs cells slots ls hR hL hS hc hs) (fun h => kf (he.mp h) g p l e R s m args below meth c Q hC hE H locs cells slots ls hR hL hS hc hs)
/-- the class object of Object[], against itself -/
theorem X_acmp_mirror {off : Int} (hd : decode (xB μ) pc = .ok (.if_acmp .ne off, 3)) (ht : (pc : Int) + off = (tgt : Int)) (hp : pc + 3 = pc') (k : X μ pc' L st σ c9 s9 Φ) : X μ pc L (.ref 1000013 :: .ref 1000013 :: st) σ c9 s9 Φ := by
  subst hp
  intro g p l e R s m args below meth c Q hC hE H locs cells slots ls hR hL hS hc hs
  obtain ⟨mi, h1, h2⟩ := (xS2of hC.2.2.2.2.2.2.2.2.2.2.2.2).2.2.2.1
  rw [List.map_cons, List.map_cons, xv_stat g (by omega), h1]
  exact lv_acmp_ne (rx := some mi) (ry := some mi) hC.1 hC.2.1 hd ht (fun h => absurd rfl h) (fun _ => k g p l e R s m args below meth c Q hC hE H locs cells slots ls hR hL hS hc hs)
theorem X_ldcM {idx : Nat} (hd : decode (xB μ) pc = .ok (.ldc idx, 2)) (hp : pc + 2 = pc') (hl : Cond.classLink (xY μ).cls idx "[Ljava/lang/Object;" ∈ lw_tbl) (k : X μ pc' L (.ref 1000013 :: st) σ c9 s9 Φ) : X μ pc L st σ c9 s9 Φ := by
  subst hp
  intro g p l e R s m args below meth c Q hC hE H locs cells slots ls hR hL hS hc hs
  obtain ⟨mi, h1, h2⟩ := (xS2of hC.2.2.2.2.2.2.2.2.2.2.2.2).2.2.2.1
  have k := k g p l e R s m args below meth c Q hC hE H locs cells slots ls hR hL hS hc hs
  rw [List.map_cons, xv_stat g (by omega), h1] at k
  exact va_ldcM hC.1 hC.2.1 hC.2.2.2.2.2.1 (hC.2.2.2.2.2.2.2.1 _ (xWS_in hl rfl)) h2 hd k
def getClassName : MethodName := ⟨"java/lang/Object", "getClass", "()Ljava/lang/Class;"⟩
theorem X_getC {idx a : Nat} (hd : decode (xB μ) pc = .ok (.invokevirtual idx, 3)) (hp : pc + 3 = pc') (h1 : Cond.methodLink (xY μ).cls idx getClassName ∈ lw_tbl) (h2 : Cond.declares getClassName ∈ lw_tbl) (h3 : Cond.selects "[Ljava/lang/Object;" getClassName getClassName ∈ lw_tbl) (h4 : Cond.instanceMethod getClassName ∈ lw_tbl) (h5 : Cond.native getClassName ∈ lw_tbl) (ha : xIs σ a "[Ljava/lang/Object;") (hst : (st.map fun v => v.category).sum ≤ 100) (k : X μ pc' L (.ref 1000013 :: st) σ c9 s9 Φ) : X μ pc L (.ref a :: st) σ c9 s9 Φ := by
  subst hp
  intro g p l e R s m args below meth c Q hC hE H locs cells slots ls hR hL hS hc hs
  have hts := hC.2.2.2.2.2.2.2.1
  have hSF := hC.2.2.2.2.2.2.2.2.2.2.2.2
  have hg := hSF.2.2.2.2.2.2.2.2.2.2.1
  obtain ⟨mi, h6, h7⟩ := (xS2of hC.2.2.2.2.2.2.2.2.2.2.2.2).2.2.2.1
  have k := k g p l e R s m args below meth c Q hC hE H locs cells slots ls hR hL hS hc hs
  rw [List.map_cons, xv_stat g (by omega), h6] at k
  obtain ⟨t, cell, e0, q1, q2, q3⟩ := xIs_cell hR hS hSF ha
  rw [List.map_cons, e0]
  exact va_getC hC.1 hC.2.1 (by rw [hC.2.2.1, hL.2.1]) hC.2.2.2.2.2.1 (hts _ (xWS_in h1 rfl)) (va_Nw.use rfl (hSF.2.2.2.2.2.2.2.1 _ h2 rfl)) (hts _ (xWS_in h3 rfl)) (hts _ (xWS_in h4 rfl)) (hts _ (xWS_in h5 rfl)) h7 ⟨cell, q1, q2, q3⟩ (by rw [hC.2.2.2.2.2.2.2.2.2.2.1]; omega) (by rw [hC.2.2.2.2.2.2.2.2.2.2.2.1, xrest g hg]; omega) hd k
/-- a cast that holds: the class itself, or one above it by the tables -/
theorem X_castS {idx a : Nat} {C : String} (hd : decode (xB μ) pc = .ok (.checkcast idx, 3)) (hp : pc + 3 = pc') (hl : Cond.classLink (xY μ).cls idx C ∈ lw_tbl) (ha : xIs σ a C) (k : X μ pc' L (.ref a :: st) σ c9 s9 Φ) : X μ pc L (.ref a :: st) σ c9 s9 Φ := by
  subst hp
  intro g p l e R s m args below meth c Q hC hE H locs cells slots ls hR hL hS hc hs
  have k := k g p l e R s m args below meth c Q hC hE H locs cells slots ls hR hL hS hc hs
  obtain ⟨t, cell, e0, q1, q2, q3⟩ := xIs_cell hR hS hC.2.2.2.2.2.2.2.2.2.2.2.2 ha
  rw [List.map_cons, e0] at k ⊢
  intro T hT X9
  obtain ⟨vm', X', st'⟩ := X9.checkcastYes hC.1 hC.2.2.2.2.2.1 (hC.2.2.2.2.2.2.2.1 _ (xWS_in hl rfl)) (by rw [hT]; exact q1) q2 q3 (va_asg _ _) (g := F0 m pc ls (.ref t :: st.map (xv g))) rfl rfl (by rw [hC.2.1]; exact hd)
  obtain ⟨t1, a1, b1⟩ := k (T.setVm vm') hT X'
  exact ⟨t1, st' t1 a1, b1⟩
theorem X_castY {idx a : Nat} {C nm : String} (hd : decode (xB μ) pc = .ok (.checkcast idx, 3)) (hp : pc + 3 = pc') (hl : Cond.classLink (xY μ).cls idx nm ∈ lw_tbl) (hc1 : Cond.castable C nm ∈ lw_tbl) (ha : xIs σ a C) (k : X μ pc' L (.ref a :: st) σ c9 s9 Φ) : X μ pc L (.ref a :: st) σ c9 s9 Φ := by
  subst hp
  intro g p l e R s m args below meth c Q hC hE H locs cells slots ls hR hL hS hc hs
  have k := k g p l e R s m args below meth c Q hC hE H locs cells slots ls hR hL hS hc hs
  have hSF := hC.2.2.2.2.2.2.2.2.2.2.2.2
  obtain ⟨t, cell, e0, q1, q2, q3⟩ := xIs_cell hR hS hSF ha
  rw [List.map_cons, e0] at k ⊢
  exact va_castY hC.1 hC.2.1 hC.2.2.2.2.2.1 (hC.2.2.2.2.2.2.2.1 _ (xWS_in hl rfl)) (hSF.2.2.2.2.2.2.2.1 _ hc1 rfl) ⟨cell, q1, q2, q3⟩ hd k
theorem X_castN {idx : Nat} (hd : decode (xB μ) pc = .ok (.checkcast idx, 3)) (hp : pc + 3 = pc') (k : X μ pc' L (.null :: st) σ c9 s9 Φ) : X μ pc L (.null :: st) σ c9 s9 Φ := by
  subst hp
  intro g p l e R s m args below meth c Q hC hE H locs cells slots ls hR hL hS hc hs
  exact lv_castN hC.1 hC.2.1 hd (k g p l e R s m args below meth c Q hC hE H locs cells slots ls hR hL hS hc hs)
/-- an Integer of the cache -/
theorem X_getfI {idx a n : Nat} {v : Value} (hd : decode (xB μ) pc = .ok (.getfield idx, 3)) (hp : pc + 3 = pc') (hf : Cond.fieldLink (xY μ).cls idx "java/lang/Integer" "value" "I" ∈ lw_tbl) (ha : 1000000 ≤ a) (hs : σ.2.1 a = (33, n)) (hv : σ.2.2 a 0 = v) (k9 : X μ pc' L (v :: st) σ c9 s9 Φ) : X μ pc L (.ref a :: st) σ c9 s9 Φ := by
  subst hv
  subst hp
  intro g p l e R s m args below meth cd Q hC hE H locs cells slots ls hR hL hS hc hs9
  obtain ⟨z1, z2⟩ := hR.2.2.2 a ha
  rw [z1] at hs
  obtain ⟨t, he, -, h1⟩ := (xS2of hC.2.2.2.2.2.2.2.2.2.2.2.2).2.2.1 a n ha hs
  have k9 := (k9 g p l e R s m args below meth cd Q hC hE H locs cells slots ls hR hL hS hc hs9)
  rw [List.map_cons, xv_stat g ha, he]
  rw [z2] at k9
  exact vk_getf hC.1 hC.2.1 h1 hS hC.2.2.2.2.2.1 (hC.2.2.2.2.2.2.2.1 _ (xWS_in hf rfl)) (fun x h => h) hd k9
/-- a static row of references -/
theorem X_aaloadS {a n : Nat} {j : Int} {v : Value} (hd : decode (xB μ) pc = .ok (.aaload, 1)) (hp : pc + 1 = pc') (ha : 1000000 ≤ a) (hs : σ.2.1 a = (35, n)) (hn : n < 2147483648) (hj : 0 ≤ j ∧ j < n) (hv : σ.2.2 a j.toNat = v) (k9 : X μ pc' L (v :: st) σ c9 s9 Φ) : X μ pc L (.int (iN j) :: .ref a :: st) σ c9 s9 Φ := by
  subst hv
  subst hp
  intro g p l e R s m args below meth cd Q hC hE H locs cells slots ls hR hL hS hc hs9
  obtain ⟨z1, z2⟩ := hR.2.2.2 a ha
  rw [z1] at hs
  obtain ⟨t, he, hT⟩ := (xS2of hC.2.2.2.2.2.2.2.2.2.2.2.2).2.1 a n ha hs
  rw [List.map_cons, List.map_cons, xv_stat g ha, he]
  have hcl := clamp_iN (j := j) ⟨hj.1, by omega⟩
  have k9 := (k9 g p l e R s m args below meth cd Q hC hE H locs cells slots ls hR hL hS hc hs9)
  rw [z2] at k9
  obtain ⟨cell, h1, h2, h3, h4, h5, h6, h7⟩ := hT.kept hS.2.1
  have hsz : j.toNat < cell.slots.size := by omega
  refine W.aald hC.1 hC.2.1 h1 h2 (by unfold xsty; split <;> rfl) h3 (by
    rw [hcl]
    intro q
    rcases q with q | q
    · have := (iN_lt ⟨by omega, by omega⟩ (by constructor <;> decide : inR 0)).mp (show iN j < iN 0 from q)
      omega
    · omega) (v := xv g (gH g a j.toNat)) (by rw [hcl]; exact h6 _ (by omega)) rfl rfl hd k9
theorem X_alenS35 {a n : Nat} (hd : decode (xB μ) pc = .ok (.arraylength, 1)) (hp : pc + 1 = pc') (ha : 1000000 ≤ a) (hs : σ.2.1 a = (35, n)) (k9 : X μ pc' L (.int (iN (n : Int)) :: st) σ c9 s9 Φ) : X μ pc L (.ref a :: st) σ c9 s9 Φ := by
  subst hp
  intro g p l e R s m args below meth cd Q hC hE H locs cells slots ls hR hL hS hc hs9
  obtain ⟨z1, z2⟩ := hR.2.2.2 a ha
  rw [z1] at hs
  obtain ⟨t, he, hT⟩ := (xS2of hC.2.2.2.2.2.2.2.2.2.2.2.2).2.1 a n ha hs
  rw [List.map_cons, xv_stat g ha, he]
  exact va_tlen hC.1 hC.2.1 hT hS rfl hd (k9 g p l e R s m args below meth cd Q hC hE H locs cells slots ls hR hL hS hc hs9)

theorem X_baload {a n : Nat} {j : Int} {v : Value} (hd : decode (xB μ) pc = .ok (.baload, 1)) (hp : pc + 1 = pc') (ha : a < σ.1) (hs : σ.2.1 a = (21, n)) (hn : n < 2147483648) (hj : 0 ≤ j ∧ j < n) (hv : σ.2.2 a j.toNat = v) (k9 : X μ pc' L (v :: st) σ c9 s9 Φ) : X μ pc L (.int (iN j) :: .ref a :: st) σ c9 s9 Φ := by
  subst hv
  subst hp
  intro g p l e R s m args below meth cd Q hC hE H locs cells slots ls hR hL hS hc hs9
  have ha' : a < 1000000 := Nat.lt_of_lt_of_le ha hR.2.1
  obtain ⟨-, hcell⟩ := xarr hR ha hs (by omega)
  rw [List.map_cons, List.map_cons, xv_ref g ha']
  have hcl := clamp_iN (j := j) ⟨hj.1, by omega⟩
  exact W.bald hC.1 hC.2.1 hcell ((hC.2.2.2.2.2.2.2.2.2.2.2.2.2.1 21 (by omega) (by omega)).1 n _) (fun h => by cases h) (by rw [arrV_size]; exact vp_in_iN hj hn) (v := xv g (σ.2.2 a j.toNat)) (by rw [hcl]; exact arrV_read _ _ (by omega)) rfl rfl hd (k9 g p l e R s m args below meth cd Q hC hE H locs cells slots ls hR hL hS hc hs9)
theorem X_aaloadO {a n : Nat} {j : Int} {v : Value} (hd : decode (xB μ) pc = .ok (.aaload, 1)) (hp : pc + 1 = pc') (ha : a < σ.1) (hs : σ.2.1 a = (22, n)) (hn : n < 2147483648) (hj : 0 ≤ j ∧ j < n) (hv : σ.2.2 a j.toNat = v) (k9 : X μ pc' L (v :: st) σ c9 s9 Φ) : X μ pc L (.int (iN j) :: .ref a :: st) σ c9 s9 Φ := by
  subst hv
  subst hp
  intro g p l e R s m args below meth cd Q hC hE H locs cells slots ls hR hL hS hc hs9
  have ha' : a < 1000000 := Nat.lt_of_lt_of_le ha hR.2.1
  obtain ⟨-, hcell⟩ := xarr hR ha hs (by omega)
  rw [List.map_cons, List.map_cons, xv_ref g ha']
  have hcl := clamp_iN (j := j) ⟨hj.1, by omega⟩
  exact W.aald hC.1 hC.2.1 hcell ((hC.2.2.2.2.2.2.2.2.2.2.2.2.2.1 22 (by omega) (by omega)).1 n _) rfl (fun h => by cases h) (by rw [arrV_size]; exact vp_in_iN hj hn) (v := xv g (σ.2.2 a j.toNat)) (by rw [hcl]; exact arrV_read _ _ (by omega)) rfl rfl hd (k9 g p l e R s m args below meth cd Q hC hE H locs cells slots ls hR hL hS hc hs9)
theorem nar_byte {x : Int} (h : -128 ≤ x ∧ x < 128) : narrow .byte (.int (iN x)) = .int (iN x) := by
  show Value.int (iN x).toInt8.toInt32 = _
  rw [i2b_iN h]
theorem X_bastore {a n : Nat} {j x : Int} (hd : decode (xB μ) pc = .ok (.bastore, 1)) (hp : pc + 1 = pc') (ha : a < σ.1) (hs : σ.2.1 a = (21, n)) (hn : n < 2147483648) (hj : 0 ≤ j ∧ j < n) (hx : -128 ≤ x ∧ x < 128) (k9 : X μ pc' L st (xset σ a j.toNat (.int (iN x))) c9 s9 Φ) : X μ pc L (.int (iN x) :: .int (iN j) :: .ref a :: st) σ c9 s9 Φ := by
  subst hp
  intro g p l e R s m args below meth cd Q hC hE H locs cells slots ls hR hL hS hc hs9
  have ha' : a < 1000000 := Nat.lt_of_lt_of_le ha hR.2.1
  obtain ⟨ht, hcell⟩ := xarr hR ha hs (by omega)
  rw [List.map_cons, List.map_cons, List.map_cons, xv_ref g ha']
  have hcl := clamp_iN (j := j) ⟨hj.1, by omega⟩
  refine W.bast hC.1 hC.2.1 hcell ((hC.2.2.2.2.2.2.2.2.2.2.2.2.2.1 21 (by omega) (by omega)).1 n _) (fun h => by cases h) (by rw [arrV_size]; exact vp_in_iN hj hn) rfl rfl hd (fun H' e1 e2 e3 => k9 g p l e R s m args below meth cd Q hC hE H' _ cells slots ls (xRep_set hR ha e2 e3 (Or.inr (Or.inr ⟨by rw [hs]; show 20 ≤ 21; omega, by rw [hs]; exact ht, ?_⟩))) hL (xS_put hS e2 e3) hc hs9)
  rw [e1, hcl, hs, nar_byte hx, arrV_store]
  congr 2
  funext i
  simp only [updV]
  split <;> rfl
theorem X_aastoreO {a n b : Nat} {j : Int} {C : String} (hd : decode (xB μ) pc = .ok (.aastore, 1)) (hp : pc + 1 = pc') (ha : a < σ.1) (hs : σ.2.1 a = (22, n)) (hn : n < 2147483648) (hj : 0 ≤ j ∧ j < n) (hb : xIs σ b C) (hcs : Cond.castable C "java/lang/Object" ∈ lw_tbl) (k9 : X μ pc' L st (xset σ a j.toNat (.ref b)) c9 s9 Φ) : X μ pc L (.ref b :: .int (iN j) :: .ref a :: st) σ c9 s9 Φ := by
  subst hp
  intro g p l e R s m args below meth cd Q hC hE H locs cells slots ls hR hL hS hc hs9
  have ha' : a < 1000000 := Nat.lt_of_lt_of_le ha hR.2.1
  have hSF := hC.2.2.2.2.2.2.2.2.2.2.2.2
  obtain ⟨ht, hcell⟩ := xarr hR ha hs (by omega)
  obtain ⟨kA0, comp0, r1, r2, r3, hRA⟩ := (hSF.2.1 22 (by omega) (by omega)).2
  obtain ⟨t, cv, e0, q1, q2, q3⟩ := xIs_cell hR hS hSF hb
  obtain ⟨kV, hkV, -⟩ := Vm.findClass_spec q3
  obtain ⟨kE, hkE, -⟩ := Vm.findClass_spec r3
  obtain ⟨c0, t1, f1, f2, f3⟩ := Cond.castable_spec (va_Nw.use (A := args) rfl (hSF.2.2.2.2.2.2.2.1 _ hcs rfl))
  cases q3.symm.trans f1
  cases r3.symm.trans f2
  rw [List.map_cons, List.map_cons, List.map_cons, xv_ref g ha', e0]
  have hcl := clamp_iN (j := j) ⟨hj.1, by omega⟩
  refine W.aast hC.1 hC.2.1 hcell (fun q h => by cases h) (fun h => by cases h) r1 r2 rfl hkE ⟨?_, by rw [arrV_size, hcl]; omega⟩ q1 (fun q h => by rw [h] at q2; cases q2) hkV f3 rfl rfl hd (fun H' e1 e2 e3 => k9 g p l e R s m args below meth cd Q hC hE H' _ cells slots ls (xRep_set hR ha e2 e3 (Or.inr (Or.inr ⟨by rw [hs]; show 20 ≤ 22; omega, by rw [hs]; exact ht, ?_⟩))) hL (xS_put hS e2 e3) hc hs9)
  · intro q
    have := (iN_lt ⟨by omega, by omega⟩ (by constructor <;> decide : inR 0)).mp (show iN j < iN 0 from q)
    omega
  · rw [e1, hcl, hs, arrV_store]
    congr 2
    funext i
    simp only [updV]
    split
    · exact e0.symm
    · rfl
theorem X_aastoreN {a n : Nat} {j : Int} (hd : decode (xB μ) pc = .ok (.aastore, 1)) (hp : pc + 1 = pc') (ha : a < σ.1) (hs : σ.2.1 a = (22, n)) (hn : n < 2147483648) (hj : 0 ≤ j ∧ j < n) (k9 : X μ pc' L st (xset σ a j.toNat .null) c9 s9 Φ) : X μ pc L (.null :: .int (iN j) :: .ref a :: st) σ c9 s9 Φ := by
  subst hp
  intro g p l e R s m args below meth cd Q hC hE H locs cells slots ls hR hL hS hc hs9
  have ha' : a < 1000000 := Nat.lt_of_lt_of_le ha hR.2.1
  obtain ⟨ht, hcell⟩ := xarr hR ha hs (by omega)
  rw [List.map_cons, List.map_cons, List.map_cons, xv_ref g ha']
  have hcl := clamp_iN (j := j) ⟨hj.1, by omega⟩
  refine va_WaastN (C := "java/lang/Object") hC.1 hC.2.1 hcell ((hC.2.2.2.2.2.2.2.2.2.2.2.2.2.1 22 (by omega) (by omega)).1 n _) (fun h => by cases h) (by rw [arrV_size]; exact vp_in_iN hj hn) rfl rfl hd (fun H' e1 e2 e3 => k9 g p l e R s m args below meth cd Q hC hE H' _ cells slots ls (xRep_set hR ha e2 e3 (Or.inr (Or.inr ⟨by rw [hs]; show 20 ≤ 22; omega, by rw [hs]; exact ht, ?_⟩))) hL (xS_put hS e2 e3) hc hs9)
  rw [e1, hcl, hs, arrV_store]
  congr 2
  funext i
  simp only [updV]
  split <;> rfl
theorem X_anewarrO {idx : Nat} {j : Int} {n c8 s8 : Nat} (hd : decode (xB μ) pc = .ok (.anewarray idx, 3)) (hp : pc + 3 = pc') (h1 : Cond.classLink (xY μ).cls idx "java/lang/Object" ∈ lw_tbl) (hj : 0 ≤ j ∧ j = n ∧ n ≤ 1000000) (hN : σ.1 < 1000000) (hc9 : c9 = c8 + 1) (hs9 : s9 = s8 + n) (k9 : X μ pc' L (.ref σ.1 :: st) (xnew σ 22 n (fun _ => .null)) c8 s8 Φ) : X μ pc L (.int (iN j) :: st) σ c9 s9 Φ := by
  subst hc9
  subst hs9
  subst hp
  intro g p l e R s m args below meth cd Q hC hE H locs cells slots ls hR hL hS hc hs9
  have k9 := fun H hR hS => k9 g p l e R s m args below meth cd Q hC hE H locs (cells + 1) (slots + n) ls hR hL hS (by omega) (by omega)
  obtain ⟨kA0, comp0, -, -, -, hRA⟩ := (hC.2.2.2.2.2.2.2.2.2.2.2.2.2.1 22 (by omega) (by omega)).2
  rw [List.map_cons, xv_ref g hN] at k9
  have hcl := clamp_iN (j := j) ⟨by omega, by omega⟩
  have hjn : j.toNat = n := by omega
  refine W.anew hC.1 hC.2.1 hC.2.2.2.2.2.1 (hC.2.2.2.2.2.2.2.1 _ (xWS_in h1 rfl)) (va_AO.use (xS2of hC.2.2.2.2.2.2.2.2.2.2.2.2).1) rfl hd rfl ?_ (by rw [hcl]; omega) (by omega) (by rw [hcl, hjn]; omega) fun cA kA comp e1 e2 e3 e4 => ?_
  · intro q
    have := (iN_lt ⟨by omega, by omega⟩ (by constructor <;> decide : inR 0)).mp (show iN j < iN 0 from q)
    omega
  · have hcA : cA = gA g 22 := Option.some.inj (e1.symm.trans hRA)
    rw [hcl, hjn, hcA, arrV_new, hR.1]
    exact k9 _ (xRep_new hR hN (by simp) (fun q hq => by rw [Array.getElem?_push, if_neg (Nat.ne_of_lt hq)]) (Or.inr (Or.inr ⟨by show 20 ≤ 22; omega, by show 22 < 24; omega, by rw [← hR.1]; simp; rfl⟩))) (xS_new hS (by simp) (fun q hq => by rw [Array.getElem?_push, if_neg (Nat.ne_of_lt hq)]))
theorem X_newarr_byte {j : Int} {n c8 s8 : Nat} (hd : decode (xB μ) pc = .ok (.newarray .byte, 2)) (hp : pc + 2 = pc') (h1 : Cond.arrayClass (newarray.typeOf .byte) ∈ lw_tbl) (hj : 0 ≤ j ∧ j = n ∧ n ≤ 1000000) (hN : σ.1 < 1000000) (hc9 : c9 = c8 + 1) (hs9 : s9 = s8 + n) (k9 : X μ pc' L (.ref σ.1 :: st) (xnew σ 21 n (fun _ => .int 0)) c8 s8 Φ) : X μ pc L (.int (iN j) :: st) σ c9 s9 Φ := by
  subst hc9
  subst hs9
  subst hp
  intro g p l e R s m args below meth cd Q hC hE H locs cells slots ls hR hL hS hc hs9
  have k9 := fun H hR hS => k9 g p l e R s m args below meth cd Q hC hE H locs (cells + 1) (slots + n) ls hR hL hS (by omega) (by omega)
  have hRA := (hC.2.2.2.2.2.2.2.2.2.2.2.2.2.1 21 (by omega) (by omega)).2
  rw [List.map_cons, xv_ref g hN] at k9
  refine va_newaK hC.1 hC.2.1 (atype := .byte) (hC.2.2.2.2.2.2.2.1 _ (xWS_in h1 rfl)) rfl hd rfl ?_ (N := n) ?_ ?_ (by omega) (by omega) hR.1 fun H1 cA e1 z1 o1 hAr hNm => ?_
  · intro q
    have := (iN_lt ⟨by omega, by omega⟩ (by constructor <;> decide : inR 0)).mp (show iN j < iN 0 from q)
    omega
  · rw [clamp_iN ⟨by omega, by omega⟩]; omega
  · show n * 1 ≤ 536870912
    omega
  · have hcA : cA = gA g 21 := Option.some.inj (hNm.symm.trans hRA)
    rw [hcA] at e1
    rw [← hR.1] at o1 z1
    exact k9 H1 (xRep_new hR hN z1 o1 (Or.inr (Or.inr ⟨by show 20 ≤ 21; omega, by show 21 < 24; omega, e1⟩))) (xS_new hS z1 o1)
/-- clone() of an int row -/
theorem X_cloneI {idx a n c8 s8 : Nat} (hd : decode (xB μ) pc = .ok (.invokevirtual idx, 3)) (hp : pc + 3 = pc') (h1 : Cond.methodLink (xY μ).cls idx ⟨"[I", "clone", "()Ljava/lang/Object;"⟩ ∈ lw_tbl) (h2 : Cond.sameMethod "[I" "java/lang/Object" "clone" "()Ljava/lang/Object;" ∈ lw_tbl) (h3 : Cond.native ⟨"java/lang/Object", "clone", "()Ljava/lang/Object;"⟩ ∈ lw_tbl) (h4 : Cond.instanceMethod ⟨"java/lang/Object", "clone", "()Ljava/lang/Object;"⟩ ∈ lw_tbl) (h5 : Cond.selects "[I" ⟨"[I", "clone", "()Ljava/lang/Object;"⟩ ⟨"java/lang/Object", "clone", "()Ljava/lang/Object;"⟩ ∈ lw_tbl) (h6 : Cond.castable "[I" "java/lang/Cloneable" ∈ lw_tbl)
    (ha : a < σ.1) (hs : σ.2.1 a = (20, n)) (hint : ∀ j : Nat, j < n → ∃ x : Int32, σ.2.2 a j = .int x) (hN : σ.1 < 1000000) (hst : (st.map fun v => v.category).sum ≤ 100) (hc9 : c9 = c8 + 1) (hs9 : s9 = s8 + n) (k9 : X μ pc' L (.ref σ.1 :: st) (xnew σ 20 n (σ.2.2 a)) c8 s8 Φ) : X μ pc L (.ref a :: st) σ c9 s9 Φ := by
  subst hc9
  subst hs9
  subst hp
  intro g p l e R s m args below meth cd Q hC hE H locs cells slots ls hR hL hS hc hs9
  have hts := hC.2.2.2.2.2.2.2.1
  have hSF := hC.2.2.2.2.2.2.2.2.2.2.2.2
  have hg := hSF.2.2.2.2.2.2.2.2.2.2.1
  have k9 := fun H hR hS => k9 g p l e R s m args below meth cd Q hC hE H locs (cells + 1) (slots + n) ls hR hL hS (by omega) (by omega)
  have ha' : a < 1000000 := Nat.lt_of_lt_of_le ha hR.2.1
  obtain ⟨-, hcell⟩ := xarr hR ha hs (by omega)
  have hnm := va_nm_int (hSF.2.1 20 (by omega) (by omega)).2
  rw [List.map_cons, xv_ref g hN] at k9
  rw [List.map_cons, xv_ref g ha']
  obtain ⟨c0, t0', f1, f2, f3⟩ := Cond.castable_spec (va_Nw.use (A := args) rfl (hSF.2.2.2.2.2.2.2.1 _ h6 rfl))
  cases hnm.symm.trans f1
  intro T hT X9
  obtain ⟨-, kA, hkA, comp, hkind⟩ := State.isArrayOf_alike X9.warmed.alike ((hSF.2.1 20 (by omega) (by omega)).1 0 (fun _ => .null))
  obtain ⟨-, kS, hkS, compS, hkindS⟩ := (hSF.2.1 20 (by omega) (by omega)).1 0 (fun _ => .null)
  obtain ⟨vm', X', st'⟩ := X9.cloneArray hC.1 hC.2.2.2.2.2.1 (hts _ (xWS_in h1 rfl)) (hts _ (xWS_in h2 rfl)) (hts _ (xWS_in h3 rfl)) (hts _ (xWS_in h4 rfl)) (hts _ (xWS_in h5 rfl)) (a := gB g + a) (cell := arrV (gA g 20) n (fun j => xv g (σ.2.2 a j))) (by rw [hT]; exact hcell) (fun k h => by cases h) (fun h => by cases h) hnm f2 f3
    (fun i v hv => by
      have hk' : T.vm.classes[gA g 20]? = some kA := hkA
      have hf : fits (xty 20) v = true := va_fit (ty := .int) (fun i hi => by obtain ⟨x, e⟩ := hint i hi; show fits .int (xv g (σ.2.2 a i)) = true; rw [e]; rfl) i v hv
      have hcls : (arrV (gA g 20) n (fun j => xv g (σ.2.2 a j))).cls = gA g 20 := rfl
      rw [hcls]
      simpa [State.fitsSlot, State.slotType?, hk', hkind] using hf)
    (g := F0 m pc ls (.ref (gB g + a) :: st.map (xv g))) rfl (by rw [hC.2.2.1, hL.2.1]) rfl (by rw [hC.2.1]; exact hd) (by rw [hC.2.2.2.2.2.2.2.2.2.2.1]; omega) (by show 2 * 0 + _ + 14 ≤ _; rw [hC.2.2.2.2.2.2.2.2.2.2.2.1, xrest g hg]; omega) (by omega) (by rw [arrV_size]; omega) (hloader := Vm.clonesLoader_of_array hkS hkindS)
  rw [arrV_size] at X'
  have hcellE : ({ cls := (arrV (gA g 20) n (fun j => xv g (σ.2.2 a j))).cls, slots := (arrV (gA g 20) n (fun j => xv g (σ.2.2 a j))).slots } : Cell) = arrV (gA g 20) n (fun j => xv g (σ.2.2 a j)) := rfl
  rw [hcellE] at X'
  generalize hH1 : H.push (arrV (gA g 20) n (fun j => xv g (σ.2.2 a j))) = H1
  have z1 : H1.size = H.size + 1 := by rw [← hH1, Array.size_push]
  have e1 : H1[H.size]? = some (arrV (gA g 20) n (fun j => xv g (σ.2.2 a j))) := by rw [← hH1, Array.getElem?_push_size]
  have o1 : ∀ q : Nat, q < H.size → H1[q]? = H[q]? := fun q hq => by rw [← hH1, Array.getElem?_push, if_neg (Nat.ne_of_lt hq)]
  obtain ⟨t, b1, b2⟩ := k9 H1 (xRep_new hR hN z1 o1 (Or.inr (Or.inr ⟨by show 20 ≤ 20; omega, by show 20 < 24; omega, by rw [← hR.1]; exact e1⟩))) (xS_new hS z1 o1) ((T.setVm vm').pushCell (arrV (gA g 20) n (fun j => xv g (σ.2.2 a j)))) (by rw [← hH1, ← hT]; rfl) X'
  refine ⟨t, st' t ?_, b2⟩
  rw [hcellE, hT, hR.1]
  exact b1

theorem X_cloneB {idx a n c8 s8 : Nat} (hd : decode (xB μ) pc = .ok (.invokevirtual idx, 3)) (hp : pc + 3 = pc') (h1 : Cond.methodLink (xY μ).cls idx ⟨"[B", "clone", "()Ljava/lang/Object;"⟩ ∈ lw_tbl) (h2 : Cond.sameMethod "[B" "java/lang/Object" "clone" "()Ljava/lang/Object;" ∈ lw_tbl) (h3 : Cond.native ⟨"java/lang/Object", "clone", "()Ljava/lang/Object;"⟩ ∈ lw_tbl) (h4 : Cond.instanceMethod ⟨"java/lang/Object", "clone", "()Ljava/lang/Object;"⟩ ∈ lw_tbl) (h5 : Cond.selects "[B" ⟨"[B", "clone", "()Ljava/lang/Object;"⟩ ⟨"java/lang/Object", "clone", "()Ljava/lang/Object;"⟩ ∈ lw_tbl) (h6 : Cond.castable "[B" "java/lang/Cloneable" ∈ lw_tbl)
    (ha : a < σ.1) (hs : σ.2.1 a = (21, n)) (hint : ∀ j : Nat, j < n → ∃ x : Int32, σ.2.2 a j = .int x ∧ fits .byte (.int x) = true) (hN : σ.1 < 1000000) (hst : (st.map fun v => v.category).sum ≤ 100) (hc9 : c9 = c8 + 1) (hs9 : s9 = s8 + n) (k9 : X μ pc' L (.ref σ.1 :: st) (xnew σ 21 n (σ.2.2 a)) c8 s8 Φ) : X μ pc L (.ref a :: st) σ c9 s9 Φ := by
  subst hc9
  subst hs9
  subst hp
  intro g p l e R s m args below meth cd Q hC hE H locs cells slots ls hR hL hS hc hs9
  have hts := hC.2.2.2.2.2.2.2.1
  have hSF := hC.2.2.2.2.2.2.2.2.2.2.2.2
  have hg := hSF.2.2.2.2.2.2.2.2.2.2.1
  have k9 := fun H hR hS => k9 g p l e R s m args below meth cd Q hC hE H locs (cells + 1) (slots + n) ls hR hL hS (by omega) (by omega)
  have ha' : a < 1000000 := Nat.lt_of_lt_of_le ha hR.2.1
  obtain ⟨-, hcell⟩ := xarr hR ha hs (by omega)
  have hnm := va_nm_byte (hSF.2.1 21 (by omega) (by omega)).2
  rw [List.map_cons, xv_ref g hN] at k9
  rw [List.map_cons, xv_ref g ha']
  obtain ⟨c0, t0', f1, f2, f3⟩ := Cond.castable_spec (va_Nw.use (A := args) rfl (hSF.2.2.2.2.2.2.2.1 _ h6 rfl))
  cases hnm.symm.trans f1
  intro T hT X9
  obtain ⟨-, kA, hkA, comp, hkind⟩ := State.isArrayOf_alike X9.warmed.alike ((hSF.2.1 21 (by omega) (by omega)).1 0 (fun _ => .null))
  obtain ⟨-, kS, hkS, compS, hkindS⟩ := (hSF.2.1 21 (by omega) (by omega)).1 0 (fun _ => .null)
  obtain ⟨vm', X', st'⟩ := X9.cloneArray hC.1 hC.2.2.2.2.2.1 (hts _ (xWS_in h1 rfl)) (hts _ (xWS_in h2 rfl)) (hts _ (xWS_in h3 rfl)) (hts _ (xWS_in h4 rfl)) (hts _ (xWS_in h5 rfl)) (a := gB g + a) (cell := arrV (gA g 21) n (fun j => xv g (σ.2.2 a j))) (by rw [hT]; exact hcell) (fun k h => by cases h) (fun h => by cases h) hnm f2 f3
    (fun i v hv => by
      have hk' : T.vm.classes[gA g 21]? = some kA := hkA
      have hf : fits (xty 21) v = true := va_fit (ty := .byte) (fun i hi => by obtain ⟨x, e, e9⟩ := hint i hi; show fits .byte (xv g (σ.2.2 a i)) = true; rw [e]; exact e9) i v hv
      have hcls : (arrV (gA g 21) n (fun j => xv g (σ.2.2 a j))).cls = gA g 21 := rfl
      rw [hcls]
      simpa [State.fitsSlot, State.slotType?, hk', hkind] using hf)
    (g := F0 m pc ls (.ref (gB g + a) :: st.map (xv g))) rfl (by rw [hC.2.2.1, hL.2.1]) rfl (by rw [hC.2.1]; exact hd) (by rw [hC.2.2.2.2.2.2.2.2.2.2.1]; omega) (by show 2 * 0 + _ + 14 ≤ _; rw [hC.2.2.2.2.2.2.2.2.2.2.2.1, xrest g hg]; omega) (by omega) (by rw [arrV_size]; omega) (hloader := Vm.clonesLoader_of_array hkS hkindS)
  rw [arrV_size] at X'
  have hcellE : ({ cls := (arrV (gA g 21) n (fun j => xv g (σ.2.2 a j))).cls, slots := (arrV (gA g 21) n (fun j => xv g (σ.2.2 a j))).slots } : Cell) = arrV (gA g 21) n (fun j => xv g (σ.2.2 a j)) := rfl
  rw [hcellE] at X'
  generalize hH1 : H.push (arrV (gA g 21) n (fun j => xv g (σ.2.2 a j))) = H1
  have z1 : H1.size = H.size + 1 := by rw [← hH1, Array.size_push]
  have e1 : H1[H.size]? = some (arrV (gA g 21) n (fun j => xv g (σ.2.2 a j))) := by rw [← hH1, Array.getElem?_push_size]
  have o1 : ∀ q : Nat, q < H.size → H1[q]? = H[q]? := fun q hq => by rw [← hH1, Array.getElem?_push, if_neg (Nat.ne_of_lt hq)]
  obtain ⟨t, b1, b2⟩ := k9 H1 (xRep_new hR hN z1 o1 (Or.inr (Or.inr ⟨by show 20 ≤ 21; omega, by show 21 < 24; omega, by rw [← hR.1]; exact e1⟩))) (xS_new hS z1 o1) ((T.setVm vm').pushCell (arrV (gA g 21) n (fun j => xv g (σ.2.2 a j)))) (by rw [← hH1, ← hT]; rfl) X'
  refine ⟨t, st' t ?_, b2⟩
  rw [hcellE, hT, hR.1]
  exact b1
theorem X_acopyB {idx a0 a1 n0 n1 : Nat} {sp dp n : Int} (hd : decode (xB μ) pc = .ok (.invokestatic idx, 3)) (hp : pc + 3 = pc') (h1 : Cond.methodLink (xY μ).cls idx arraycopyName ∈ lw_tbl) (h2 : Cond.native arraycopyName ∈ lw_tbl) (h3 : Cond.static arraycopyName ∈ lw_tbl) (h4 : Cond.initialized "java/lang/System" ∈ lw_tbl) (hst : (st.map fun v => v.category).sum + (nativeFrameWords "java/lang/System" "arraycopy" 5 + 11) ≤ 200)
    (ha0 : a0 < σ.1) (hs0 : σ.2.1 a0 = (21, n0)) (ha1 : a1 < σ.1) (hs1 : σ.2.1 a1 = (21, n1)) (hn0 : n0 ≤ 1000000) (hn1 : n1 ≤ 1000000) (hr : 0 ≤ sp ∧ 0 ≤ dp ∧ 0 ≤ n ∧ sp + n ≤ n0 ∧ dp + n ≤ n1) (hint : ∀ j : Nat, j < n0 → ∃ x : Int32, σ.2.2 a0 j = .int x ∧ fits .byte (.int x) = true)
    (k9 : X μ pc' L st (σ.1, σ.2.1, fun b j => if b = a1 ∧ dp.toNat ≤ j ∧ j < dp.toNat + n.toNat then σ.2.2 a0 (sp.toNat + (j - dp.toNat)) else σ.2.2 b j) c9 s9 Φ) : X μ pc L (.int (iN n) :: .int (iN dp) :: .ref a1 :: .int (iN sp) :: .ref a0 :: st) σ c9 s9 Φ := by
  subst hp
  intro g p l e R s m args below meth cd Q hC hE H locs cells slots ls hR hL hS hc hs9
  have hg := hC.2.2.2.2.2.2.2.2.2.2.2.2.2.2.2.2.2.2.2.2.2.2.1
  have hb0 : a0 < 1000000 := Nat.lt_of_lt_of_le ha0 hR.2.1
  have hb1 : a1 < 1000000 := Nat.lt_of_lt_of_le ha1 hR.2.1
  obtain ⟨-, hc0⟩ := xarr hR ha0 hs0 (by omega)
  obtain ⟨-, hc1⟩ := xarr hR ha1 hs1 (by omega)
  have e1 := clamp_iN (j := sp) ⟨hr.1, by omega⟩
  have e2 := clamp_iN (j := dp) ⟨hr.2.1, by omega⟩
  have e3 := clamp_iN (j := n) ⟨hr.2.2.1, by omega⟩
  have nn : ∀ z : Int, 0 ≤ z → z < 2147483648 → ¬ iN z < 0 := fun z z1 z2 q => by
    have := (iN_lt (a := z) (b := 0) ⟨by omega, by omega⟩ ⟨by omega, by omega⟩).mp q
    omega
  obtain ⟨-, k0, hk0, cm0, hkk0⟩ := (hC.2.2.2.2.2.2.2.2.2.2.2.2.2.1 21 (by omega) (by omega)).1 n0 (fun j => xv g (σ.2.2 a0 j))
  have t1 : (iN sp).toInt = sp := iN_toInt ⟨by omega, by omega⟩
  have t2 : (iN dp).toInt = dp := iN_toInt ⟨by omega, by omega⟩
  have t3 : (iN n).toInt = n := iN_toInt ⟨by omega, by omega⟩
  intro T hT X9
  obtain ⟨vm', X', step⟩ := X9.arraycopy hC.1 hC.2.2.2.2.2.1 (hC.2.2.2.2.2.2.2.1 _ (xWS_in h1 rfl)) (hC.2.2.2.2.2.2.2.1 _ (xWS_in h2 rfl)) (hC.2.2.2.2.2.2.2.1 _ (xWS_in h3 rfl)) (hC.2.2.2.2.2.2.2.1 _ (xWS_in h4 rfl)) (src := gB g + a0) (dst := gB g + a1) (cs := arrV (gA g 21) n0 (fun j => xv g (σ.2.2 a0 j))) (cd := arrV (gA g 21) n1 (fun j => xv g (σ.2.2 a1 j))) (srcPos := iN sp) (destPos := iN dp) (n := iN n) (by rw [hT]; exact hc0) (by rw [hT]; exact hc1)
    (fun _ h => by cases h) (fun _ h => by cases h) (fun h => by cases h) (fun h => by cases h) hk0 hk0 hkk0 hkk0 (by simp [xty, refKind]) (nn sp hr.1 (by omega)) (nn dp hr.2.1 (by omega)) (nn n hr.2.2.1 (by omega))
    (by rw [t1, t3, arrV_size]; omega)
    (by rw [t2, t3, arrV_size]; omega)
    (fun vm₁ _ i hi => by
      rw [e3] at hi
      have e : (arrV (gA g 21) n0 (fun j => xv g (σ.2.2 a0 j))).slots.getD ((iN sp).toNatClampNeg + i) .null = xv g (σ.2.2 a0 (sp.toNat + i)) := by
        rw [Array.getD_eq_getD_getElem?, e1, arrV_read _ _ (by omega)]
        rfl
      obtain ⟨x, hx, hxf⟩ := hint (sp.toNat + i) (by omega)
      refine ⟨?_, ?_⟩
      · rw [e, hx]
        exact hxf
      · rw [e, hx]
        exact trivial)
    (g := F0 m pc ls ((.int (iN n) :: .int (iN dp) :: .ref a1 :: .int (iN sp) :: .ref a0 :: st).map (xv g))) rfl (by rw [hC.2.2.1, hL.2.1]) (rest := st.map (xv g)) (by simp only [List.map_cons, xv_ref g hb0, xv_ref g hb1, xv_int]) (by rw [hC.2.1]; exact hd) (by rw [hC.2.2.2.2.2.2.2.2.2.2.1]; omega) (by show 2 * 0 + _ + _ ≤ _; rw [hC.2.2.2.2.2.2.2.2.2.2.2.1, xrest g hg]; omega)
  have e9 : copied (arrV (gA g 21) n0 (fun j => xv g (σ.2.2 a0 j))) (arrV (gA g 21) n1 (fun j => xv g (σ.2.2 a1 j))) (iN sp) (iN dp) (iN n) = arrV (gA g 21) n1 (fun j => xv g (va_cpy (σ.2.2 a0) (σ.2.2 a1) (iN sp).toNatClampNeg (iN dp).toNatClampNeg (iN n).toNatClampNeg j)) := va_copied (xv g) (gA g 21) (gA g 21) (σ.2.2 a0) (σ.2.2 a1) (by rw [e1, e3]; omega)
  rw [e9, e1, e2, e3] at X' step
  have hl : gB g + a1 < H.size := (Array.getElem?_eq_some_iff.mp hc1).1
  generalize hZ : arrV (gA g 21) n1 (fun j => xv g (va_cpy (σ.2.2 a0) (σ.2.2 a1) sp.toNat dp.toNat n.toNat j)) = Z at X' step
  have hheap : ((T.setVm vm').setCell (gB g + a1) Z).heap = H.setIfInBounds (gB g + a1) Z := by rw [← hT]; rfl
  have oq : ∀ q : Nat, q ≠ gB g + a1 → (H.setIfInBounds (gB g + a1) Z)[q]? = H[q]? := fun q hq => by simp [Array.getElem?_setIfInBounds, Ne.symm hq]
  have hsf : (H.setIfInBounds (gB g + a1) Z)[gB g + a1]? = some Z := by simp [Array.getElem?_setIfInBounds, hl]
  obtain ⟨t, a9, b9⟩ := k9 g p l e R s m args below meth cd Q hC hE (H.setIfInBounds (gB g + a1) Z) _ cells slots ls ⟨by rw [Array.size_setIfInBounds]; exact hR.1, hR.2.1, fun b hb => by
      by_cases e : b = a1
      · subst e
        refine Or.inr (Or.inr ⟨by show 20 ≤ (σ.2.1 b).1; rw [hs1]; show 20 ≤ 21; omega, by show (σ.2.1 b).1 < 24; rw [hs1]; show 21 < 24; omega, ?_⟩)
        rw [hsf, ← hZ]
        show _ = some (arrV (gA g (σ.2.1 b).1) (σ.2.1 b).2 _)
        rw [hs1]
        congr 2
        funext j
        simp only [va_cpy, true_and]
      · have hh := (hR.2.2.1 b hb).kept (oq (gB g + b) (by omega))
        have ef : (fun j => if b = a1 ∧ dp.toNat ≤ j ∧ j < dp.toNat + n.toNat then σ.2.2 a0 (sp.toNat + (j - dp.toNat)) else σ.2.2 b j) = σ.2.2 b := by
          funext j
          simp [e]
        show xcell g (σ.2.1 b) (fun j => if b = a1 ∧ dp.toNat ≤ j ∧ j < dp.toNat + n.toNat then σ.2.2 a0 (sp.toNat + (j - dp.toNat)) else σ.2.2 b j) (gB g + b) _
        rw [ef]
        exact hh, fun b hb => ⟨(hR.2.2.2 b hb).1, by
        have e : ¬ b = a1 := by omega
        have ef : (fun j => if b = a1 ∧ dp.toNat ≤ j ∧ j < dp.toNat + n.toNat then σ.2.2 a0 (sp.toNat + (j - dp.toNat)) else σ.2.2 b j) = σ.2.2 b := by
          funext j
          simp [e]
        show (fun j => if b = a1 ∧ dp.toNat ≤ j ∧ j < dp.toNat + n.toNat then σ.2.2 a0 (sp.toNat + (j - dp.toNat)) else σ.2.2 b j) = _
        rw [ef]
        exact (hR.2.2.2 b hb).2⟩⟩ hL ⟨by rw [Array.size_setIfInBounds]; exact hS.1, fun q g1 g2 => by
      rw [oq q (fun e => g2 (by rw [e]; exact Nat.le_add_right _ _))]
      exact hS.2.1 q g1 g2, fun q hq => by
      rcases List.mem_append.mp hq with h | h
      · exact hS.2.2 q h
      · obtain ⟨z, -, hz⟩ := List.mem_map.mp h
        rw [← hz]
        exact Nat.le_add_right _ _⟩ hc hs9 _ hheap X'
  exact ⟨t, step t a9, b9⟩
theorem X_acopyO {idx a0 a1 n0 n1 : Nat} {sp dp n : Int} (hd : decode (xB μ) pc = .ok (.invokestatic idx, 3)) (hp : pc + 3 = pc') (h1 : Cond.methodLink (xY μ).cls idx arraycopyName ∈ lw_tbl) (h2 : Cond.native arraycopyName ∈ lw_tbl) (h3 : Cond.static arraycopyName ∈ lw_tbl) (h4 : Cond.initialized "java/lang/System" ∈ lw_tbl) (hst : (st.map fun v => v.category).sum + (nativeFrameWords "java/lang/System" "arraycopy" 5 + 11) ≤ 200)
    (ha0 : a0 < σ.1) (hs0 : σ.2.1 a0 = (22, n0)) (ha1 : a1 < σ.1) (hs1 : σ.2.1 a1 = (22, n1)) (hn0 : n0 ≤ 1000000) (hn1 : n1 ≤ 1000000) (hr : 0 ≤ sp ∧ 0 ≤ dp ∧ 0 ≤ n ∧ sp + n ≤ n0 ∧ dp + n ≤ n1) (hel : ∀ j : Nat, j < n0 → σ.2.2 a0 j = .null ∨ ∃ b C, σ.2.2 a0 j = .ref b ∧ xIs σ b C ∧ Cond.castable C "java/lang/Object" ∈ lw_tbl)
    (k9 : X μ pc' L st (σ.1, σ.2.1, fun b j => if b = a1 ∧ dp.toNat ≤ j ∧ j < dp.toNat + n.toNat then σ.2.2 a0 (sp.toNat + (j - dp.toNat)) else σ.2.2 b j) c9 s9 Φ) : X μ pc L (.int (iN n) :: .int (iN dp) :: .ref a1 :: .int (iN sp) :: .ref a0 :: st) σ c9 s9 Φ := by
  subst hp
  intro g p l e R s m args below meth cd Q hC hE H locs cells slots ls hR hL hS hc hs9
  have hg := hC.2.2.2.2.2.2.2.2.2.2.2.2.2.2.2.2.2.2.2.2.2.2.1
  have hb0 : a0 < 1000000 := Nat.lt_of_lt_of_le ha0 hR.2.1
  have hb1 : a1 < 1000000 := Nat.lt_of_lt_of_le ha1 hR.2.1
  obtain ⟨-, hc0⟩ := xarr hR ha0 hs0 (by omega)
  obtain ⟨-, hc1⟩ := xarr hR ha1 hs1 (by omega)
  have e1 := clamp_iN (j := sp) ⟨hr.1, by omega⟩
  have e2 := clamp_iN (j := dp) ⟨hr.2.1, by omega⟩
  have e3 := clamp_iN (j := n) ⟨hr.2.2.1, by omega⟩
  have nn : ∀ z : Int, 0 ≤ z → z < 2147483648 → ¬ iN z < 0 := fun z z1 z2 q => by
    have := (iN_lt (a := z) (b := 0) ⟨by omega, by omega⟩ ⟨by omega, by omega⟩).mp q
    omega
  obtain ⟨-, k0, hk0, cm0, hkk0⟩ := (hC.2.2.2.2.2.2.2.2.2.2.2.2.2.1 22 (by omega) (by omega)).1 n0 (fun j => xv g (σ.2.2 a0 j))
  have t1 : (iN sp).toInt = sp := iN_toInt ⟨by omega, by omega⟩
  have t2 : (iN dp).toInt = dp := iN_toInt ⟨by omega, by omega⟩
  have t3 : (iN n).toInt = n := iN_toInt ⟨by omega, by omega⟩
  intro T hT X9
  obtain ⟨vm', X', step⟩ := X9.arraycopy hC.1 hC.2.2.2.2.2.1 (hC.2.2.2.2.2.2.2.1 _ (xWS_in h1 rfl)) (hC.2.2.2.2.2.2.2.1 _ (xWS_in h2 rfl)) (hC.2.2.2.2.2.2.2.1 _ (xWS_in h3 rfl)) (hC.2.2.2.2.2.2.2.1 _ (xWS_in h4 rfl)) (src := gB g + a0) (dst := gB g + a1) (cs := arrV (gA g 22) n0 (fun j => xv g (σ.2.2 a0 j))) (cd := arrV (gA g 22) n1 (fun j => xv g (σ.2.2 a1 j))) (srcPos := iN sp) (destPos := iN dp) (n := iN n) (by rw [hT]; exact hc0) (by rw [hT]; exact hc1)
    (fun _ h => by cases h) (fun _ h => by cases h) (fun h => by cases h) (fun h => by cases h) hk0 hk0 hkk0 hkk0 (by simp [xty, refKind]) (nn sp hr.1 (by omega)) (nn dp hr.2.1 (by omega)) (nn n hr.2.2.1 (by omega))
    (by rw [t1, t3, arrV_size]; omega)
    (by rw [t2, t3, arrV_size]; omega)
    (fun vm₁ hal i hi => by
      rw [e3] at hi
      have e : (arrV (gA g 22) n0 (fun j => xv g (σ.2.2 a0 j))).slots.getD ((iN sp).toNatClampNeg + i) .null = xv g (σ.2.2 a0 (sp.toNat + i)) := by
        rw [Array.getD_eq_getD_getElem?, e1, arrV_read _ _ (by omega)]
        rfl
      rw [e]
      rcases hel (sp.toNat + i) (by omega) with hx | ⟨b, C, hx, hb, hcs⟩
      · rw [hx]
        exact ⟨rfl, trivial⟩
      · obtain ⟨t, cellV, e0, g1, g2, g3⟩ := xIs_cell hR hS hC.2.2.2.2.2.2.2.2.2.2.2.2 hb
        rw [hx, e0]
        obtain ⟨kA, comp, r1, r2, r3, -⟩ := (hC.2.2.2.2.2.2.2.2.2.2.2.2.2.1 22 (by omega) (by omega)).2
        cases hk0.symm.trans r1
        cases hkk0.symm.trans r2
        obtain ⟨c0, t1, f1, f2, f3⟩ := Cond.castable_spec (va_Nw.use (A := args) rfl (hC.2.2.2.2.2.2.2.2.2.2.2.2.2.2.2.2.2.2.2.1 _ hcs rfl))
        cases g3.symm.trans f1
        cases r3.symm.trans f2
        obtain ⟨kC, hkC, -⟩ := Vm.findClass_spec g3
        obtain ⟨kE, hkE, -⟩ := Vm.findClass_spec r3
        obtain ⟨kC', hkC', -⟩ := hal.2.2 _ _ hkC
        obtain ⟨kE', hkE', -⟩ := hal.2.2 _ _ hkE
        refine ⟨rfl, cellV, (show T.heap[t]? = some cellV by rw [hT]; exact g1), (fun q h => by rw [h] at g2; cases g2), ⟨kC', hkC'⟩, ⟨kE', hkE'⟩, ?_⟩
        show vm₁.assignable _ _ = true
        rw [hal.assignable]
        exact f3)
    (g := F0 m pc ls ((.int (iN n) :: .int (iN dp) :: .ref a1 :: .int (iN sp) :: .ref a0 :: st).map (xv g))) rfl (by rw [hC.2.2.1, hL.2.1]) (rest := st.map (xv g)) (by simp only [List.map_cons, xv_ref g hb0, xv_ref g hb1, xv_int]) (by rw [hC.2.1]; exact hd) (by rw [hC.2.2.2.2.2.2.2.2.2.2.1]; omega) (by show 2 * 0 + _ + _ ≤ _; rw [hC.2.2.2.2.2.2.2.2.2.2.2.1, xrest g hg]; omega)
  have e9 : copied (arrV (gA g 22) n0 (fun j => xv g (σ.2.2 a0 j))) (arrV (gA g 22) n1 (fun j => xv g (σ.2.2 a1 j))) (iN sp) (iN dp) (iN n) = arrV (gA g 22) n1 (fun j => xv g (va_cpy (σ.2.2 a0) (σ.2.2 a1) (iN sp).toNatClampNeg (iN dp).toNatClampNeg (iN n).toNatClampNeg j)) := va_copied (xv g) (gA g 22) (gA g 22) (σ.2.2 a0) (σ.2.2 a1) (by rw [e1, e3]; omega)
  rw [e9, e1, e2, e3] at X' step
  have hl : gB g + a1 < H.size := (Array.getElem?_eq_some_iff.mp hc1).1
  generalize hZ : arrV (gA g 22) n1 (fun j => xv g (va_cpy (σ.2.2 a0) (σ.2.2 a1) sp.toNat dp.toNat n.toNat j)) = Z at X' step
  have hheap : ((T.setVm vm').setCell (gB g + a1) Z).heap = H.setIfInBounds (gB g + a1) Z := by rw [← hT]; rfl
  have oq : ∀ q : Nat, q ≠ gB g + a1 → (H.setIfInBounds (gB g + a1) Z)[q]? = H[q]? := fun q hq => by simp [Array.getElem?_setIfInBounds, Ne.symm hq]
  have hsf : (H.setIfInBounds (gB g + a1) Z)[gB g + a1]? = some Z := by simp [Array.getElem?_setIfInBounds, hl]
  obtain ⟨t, a9, b9⟩ := k9 g p l e R s m args below meth cd Q hC hE (H.setIfInBounds (gB g + a1) Z) _ cells slots ls ⟨by rw [Array.size_setIfInBounds]; exact hR.1, hR.2.1, fun b hb => by
      by_cases e : b = a1
      · subst e
        refine Or.inr (Or.inr ⟨by show 20 ≤ (σ.2.1 b).1; rw [hs1]; show 20 ≤ 22; omega, by show (σ.2.1 b).1 < 24; rw [hs1]; show 22 < 24; omega, ?_⟩)
        rw [hsf, ← hZ]
        show _ = some (arrV (gA g (σ.2.1 b).1) (σ.2.1 b).2 _)
        rw [hs1]
        congr 2
        funext j
        simp only [va_cpy, true_and]
      · have hh := (hR.2.2.1 b hb).kept (oq (gB g + b) (by omega))
        have ef : (fun j => if b = a1 ∧ dp.toNat ≤ j ∧ j < dp.toNat + n.toNat then σ.2.2 a0 (sp.toNat + (j - dp.toNat)) else σ.2.2 b j) = σ.2.2 b := by
          funext j
          simp [e]
        show xcell g (σ.2.1 b) (fun j => if b = a1 ∧ dp.toNat ≤ j ∧ j < dp.toNat + n.toNat then σ.2.2 a0 (sp.toNat + (j - dp.toNat)) else σ.2.2 b j) (gB g + b) _
        rw [ef]
        exact hh, fun b hb => ⟨(hR.2.2.2 b hb).1, by
        have e : ¬ b = a1 := by omega
        have ef : (fun j => if b = a1 ∧ dp.toNat ≤ j ∧ j < dp.toNat + n.toNat then σ.2.2 a0 (sp.toNat + (j - dp.toNat)) else σ.2.2 b j) = σ.2.2 b := by
          funext j
          simp [e]
        show (fun j => if b = a1 ∧ dp.toNat ≤ j ∧ j < dp.toNat + n.toNat then σ.2.2 a0 (sp.toNat + (j - dp.toNat)) else σ.2.2 b j) = _
        rw [ef]
        exact (hR.2.2.2 b hb).2⟩⟩ hL ⟨by rw [Array.size_setIfInBounds]; exact hS.1, fun q g1 g2 => by
      rw [oq q (fun e => g2 (by rw [e]; exact Nat.le_add_right _ _))]
      exact hS.2.1 q g1 g2, fun q hq => by
      rcases List.mem_append.mp hq with h | h
      · exact hS.2.2 q h
      · obtain ⟨z, -, hz⟩ := List.mem_map.mp h
        rw [← hz]
        exact Nat.le_add_right _ _⟩ hc hs9 _ hheap X'
  exact ⟨t, step t a9, b9⟩
theorem X_acopySB {idx a0 a1 n0 n1 : Nat} {sp dp n : Int} (hd : decode (xB μ) pc = .ok (.invokestatic idx, 3)) (hp : pc + 3 = pc') (h1 : Cond.methodLink (xY μ).cls idx arraycopyName ∈ lw_tbl) (h2 : Cond.native arraycopyName ∈ lw_tbl) (h3 : Cond.static arraycopyName ∈ lw_tbl) (h4 : Cond.initialized "java/lang/System" ∈ lw_tbl) (hst : (st.map fun v => v.category).sum + (nativeFrameWords "java/lang/System" "arraycopy" 5 + 11) ≤ 200)
    (ha0 : 1000000 ≤ a0) (hs0 : σ.2.1 a0 = (32, n0)) (ha1 : a1 < σ.1) (hs1 : σ.2.1 a1 = (21, n1)) (hn0 : n0 ≤ 1000000) (hn1 : n1 ≤ 1000000) (hr : 0 ≤ sp ∧ 0 ≤ dp ∧ 0 ≤ n ∧ sp + n ≤ n0 ∧ dp + n ≤ n1) (hint : ∀ j : Nat, j < n0 → ∃ x : Int32, σ.2.2 a0 j = .int x ∧ fits .byte (.int x) = true)
    (k9 : X μ pc' L st (σ.1, σ.2.1, fun b j => if b = a1 ∧ dp.toNat ≤ j ∧ j < dp.toNat + n.toNat then σ.2.2 a0 (sp.toNat + (j - dp.toNat)) else σ.2.2 b j) c9 s9 Φ) : X μ pc L (.int (iN n) :: .int (iN dp) :: .ref a1 :: .int (iN sp) :: .ref a0 :: st) σ c9 s9 Φ := by
  subst hp
  intro g p l e R s m args below meth cd Q hC hE H locs cells slots ls hR hL hS hc hs9
  have hg := hC.2.2.2.2.2.2.2.2.2.2.2.2.2.2.2.2.2.2.2.2.2.2.1
  have hb1 : a1 < 1000000 := Nat.lt_of_lt_of_le ha1 hR.2.1
  obtain ⟨z1, z2⟩ := hR.2.2.2 a0 ha0
  rw [z1] at hs0
  obtain ⟨t0, he0, scr, hq1, ⟨hq2, k0, hk0, cm0, hkk0⟩, hq3, hq4, hq5, hq6, hq7⟩ := hC.2.2.2.2.2.2.2.2.2.2.2.2.2.2.2.1 a0 n0 ha0 hs0
  have hc0 : H[t0]? = some scr := by rw [hS.2.1 t0 (Array.getElem?_eq_some_iff.mp hq1).1 hq7]; exact hq1
  obtain ⟨-, hc1⟩ := xarr hR ha1 hs1 (by omega)
  have e1 := clamp_iN (j := sp) ⟨hr.1, by omega⟩
  have e2 := clamp_iN (j := dp) ⟨hr.2.1, by omega⟩
  have e3 := clamp_iN (j := n) ⟨hr.2.2.1, by omega⟩
  have nn : ∀ z : Int, 0 ≤ z → z < 2147483648 → ¬ iN z < 0 := fun z z1 z2 q => by
    have := (iN_lt (a := z) (b := 0) ⟨by omega, by omega⟩ ⟨by omega, by omega⟩).mp q
    omega
  obtain ⟨-, k1, hk1, cm1, hkk1⟩ := (hC.2.2.2.2.2.2.2.2.2.2.2.2.2.1 21 (by omega) (by omega)).1 n1 (fun j => xv g (σ.2.2 a1 j))
  have t1 : (iN sp).toInt = sp := iN_toInt ⟨by omega, by omega⟩
  have t2 : (iN dp).toInt = dp := iN_toInt ⟨by omega, by omega⟩
  have t3 : (iN n).toInt = n := iN_toInt ⟨by omega, by omega⟩
  intro T hT X9
  obtain ⟨vm', X', step⟩ := X9.arraycopy hC.1 hC.2.2.2.2.2.1 (hC.2.2.2.2.2.2.2.1 _ (xWS_in h1 rfl)) (hC.2.2.2.2.2.2.2.1 _ (xWS_in h2 rfl)) (hC.2.2.2.2.2.2.2.1 _ (xWS_in h3 rfl)) (hC.2.2.2.2.2.2.2.1 _ (xWS_in h4 rfl)) (src := t0) (dst := gB g + a1) (cs := scr) (cd := arrV (gA g 21) n1 (fun j => xv g (σ.2.2 a1 j))) (srcPos := iN sp) (destPos := iN dp) (n := iN n) (by rw [hT]; exact hc0) (by rw [hT]; exact hc1)
    hq2 (fun _ h => by cases h) hq3 (fun h => by cases h) hk0 hk1 hkk0 hkk1 (by simp [xty, refKind]) (nn sp hr.1 (by omega)) (nn dp hr.2.1 (by omega)) (nn n hr.2.2.1 (by omega))
    (by rw [t1, t3]; omega)
    (by rw [t2, t3, arrV_size]; omega)
    (fun vm₁ _ i hi => by
      rw [e3] at hi
      have e : scr.slots.getD ((iN sp).toNatClampNeg + i) .null = xv g (σ.2.2 a0 (sp.toNat + i)) := by
        rw [Array.getD_eq_getD_getElem?, e1, hq6 _ (by omega), z2]
        rfl
      obtain ⟨x, hx, hxf⟩ := hint (sp.toNat + i) (by omega)
      refine ⟨?_, ?_⟩
      · rw [e, hx]
        exact hxf
      · rw [e, hx]
        exact trivial)
    (g := F0 m pc ls ((.int (iN n) :: .int (iN dp) :: .ref a1 :: .int (iN sp) :: .ref a0 :: st).map (xv g))) rfl (by rw [hC.2.2.1, hL.2.1]) (rest := st.map (xv g)) (by simp only [List.map_cons, xv_stat g ha0, he0, xv_ref g hb1, xv_int]) (by rw [hC.2.1]; exact hd) (by rw [hC.2.2.2.2.2.2.2.2.2.2.1]; omega) (by show 2 * 0 + _ + _ ≤ _; rw [hC.2.2.2.2.2.2.2.2.2.2.2.1, xrest g hg]; omega)
  have e9 : copied scr (arrV (gA g 21) n1 (fun j => xv g (σ.2.2 a1 j))) (iN sp) (iN dp) (iN n) = arrV (gA g 21) n1 (fun j => xv g (va_cpy (σ.2.2 a0) (σ.2.2 a1) (iN sp).toNatClampNeg (iN dp).toNatClampNeg (iN n).toNatClampNeg j)) := va_copiedX (xv g) scr (gA g 21) (σ.2.2 a0) (σ.2.2 a1) (n0 := n0) (fun j hj => by rw [hq6 j hj, z2]) (by rw [e1, e3]; omega)
  rw [e9, e1, e2, e3] at X' step
  have hl : gB g + a1 < H.size := (Array.getElem?_eq_some_iff.mp hc1).1
  generalize hZ : arrV (gA g 21) n1 (fun j => xv g (va_cpy (σ.2.2 a0) (σ.2.2 a1) sp.toNat dp.toNat n.toNat j)) = Z at X' step
  have hheap : ((T.setVm vm').setCell (gB g + a1) Z).heap = H.setIfInBounds (gB g + a1) Z := by rw [← hT]; rfl
  have oq : ∀ q : Nat, q ≠ gB g + a1 → (H.setIfInBounds (gB g + a1) Z)[q]? = H[q]? := fun q hq => by simp [Array.getElem?_setIfInBounds, Ne.symm hq]
  have hsf : (H.setIfInBounds (gB g + a1) Z)[gB g + a1]? = some Z := by simp [Array.getElem?_setIfInBounds, hl]
  obtain ⟨t, a9, b9⟩ := k9 g p l e R s m args below meth cd Q hC hE (H.setIfInBounds (gB g + a1) Z) _ cells slots ls ⟨by rw [Array.size_setIfInBounds]; exact hR.1, hR.2.1, fun b hb => by
      by_cases e : b = a1
      · subst e
        refine Or.inr (Or.inr ⟨by show 20 ≤ (σ.2.1 b).1; rw [hs1]; show 20 ≤ 21; omega, by show (σ.2.1 b).1 < 24; rw [hs1]; show 21 < 24; omega, ?_⟩)
        rw [hsf, ← hZ]
        show _ = some (arrV (gA g (σ.2.1 b).1) (σ.2.1 b).2 _)
        rw [hs1]
        congr 2
        funext j
        simp only [va_cpy, true_and]
      · have hh := (hR.2.2.1 b hb).kept (oq (gB g + b) (by omega))
        have ef : (fun j => if b = a1 ∧ dp.toNat ≤ j ∧ j < dp.toNat + n.toNat then σ.2.2 a0 (sp.toNat + (j - dp.toNat)) else σ.2.2 b j) = σ.2.2 b := by
          funext j
          simp [e]
        show xcell g (σ.2.1 b) (fun j => if b = a1 ∧ dp.toNat ≤ j ∧ j < dp.toNat + n.toNat then σ.2.2 a0 (sp.toNat + (j - dp.toNat)) else σ.2.2 b j) (gB g + b) _
        rw [ef]
        exact hh, fun b hb => ⟨(hR.2.2.2 b hb).1, by
        have e : ¬ b = a1 := by omega
        have ef : (fun j => if b = a1 ∧ dp.toNat ≤ j ∧ j < dp.toNat + n.toNat then σ.2.2 a0 (sp.toNat + (j - dp.toNat)) else σ.2.2 b j) = σ.2.2 b := by
          funext j
          simp [e]
        show (fun j => if b = a1 ∧ dp.toNat ≤ j ∧ j < dp.toNat + n.toNat then σ.2.2 a0 (sp.toNat + (j - dp.toNat)) else σ.2.2 b j) = _
        rw [ef]
        exact (hR.2.2.2 b hb).2⟩⟩ hL ⟨by rw [Array.size_setIfInBounds]; exact hS.1, fun q g1 g2 => by
      rw [oq q (fun e => g2 (by rw [e]; exact Nat.le_add_right _ _))]
      exact hS.2.1 q g1 g2, fun q hq => by
      rcases List.mem_append.mp hq with h | h
      · exact hS.2.2 q h
      · obtain ⟨z, -, hz⟩ := List.mem_map.mp h
        rw [← hz]
        exact Nat.le_add_right _ _⟩ hc hs9 _ hheap X'
  exact ⟨t, step t a9, b9⟩
end XMo

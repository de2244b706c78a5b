def iN (z : Int) : Int32 := Int32.ofInt z
theorem iN_add (a b : Int) : iN a + iN b = iN (a + b) := (Int32.ofInt_add a b).symm
theorem iN_sub (a b : Int) : iN a - iN b = iN (a - b) := (Int32.ofInt_sub a b).symm
theorem iN_mul (a b : Int) : iN a * iN b = iN (a * b) := (Int32.ofInt_mul a b).symm
abbrev inR (z : Int) : Prop := -2147483648 ≤ z ∧ z < 2147483648
theorem iN_toInt {a : Int} (h : inR a) : (iN a).toInt = a := Int32.toInt_ofInt_of_le h.1 h.2
theorem iN_of (x : Int32) : iN x.toInt = x := Int32.ofInt_toInt x
theorem inR_of (x : Int32) : inR x.toInt := ⟨Int32.le_toInt x, Int32.toInt_lt x⟩
theorem iN_eq {a b : Int} (ha : inR a) (hb : inR b) : iN a = iN b ↔ a = b := ⟨fun h => by rw [← iN_toInt ha, ← iN_toInt hb, h], fun h => by rw [h]⟩
theorem iN_lt {a b : Int} (ha : inR a) (hb : inR b) : iN a < iN b ↔ a < b := by rw [Int32.lt_iff_toInt_lt, iN_toInt ha, iN_toInt hb]
theorem iN_le {a b : Int} (ha : inR a) (hb : inR b) : iN a ≤ iN b ↔ a ≤ b := by rw [Int32.le_iff_toInt_le, iN_toInt ha, iN_toInt hb]
theorem iN_0 : iN 0 = 0 := rfl
theorem iN_div {a b : Int} (ha : 0 ≤ a ∧ a < 2147483648) (hb : 0 < b ∧ b < 2147483648) : iN a / iN b = iN (a / b) := by
  have h1 : a / b ≤ a := Int.ediv_le_self b ha.1
  have h2 : 0 ≤ a / b := Int.ediv_nonneg ha.1 (Int.le_of_lt hb.1)
  apply Int32.toInt_inj.mp
  rw [Int32.toInt_div_of_ne_right _ _ (fun h => by
    have h3 := congrArg Int32.toInt h
    rw [iN_toInt ⟨by omega, hb.2⟩] at h3
    have h4 : (-1 : Int32).toInt = -1 := by decide
    omega), iN_toInt ⟨by omega, ha.2⟩, iN_toInt ⟨by omega, hb.2⟩, iN_toInt ⟨by omega, by omega⟩]
  exact Int.tdiv_eq_ediv_of_nonneg ha.1
theorem iN_rem {a b : Int} (ha : 0 ≤ a ∧ a < 2147483648) (hb : 0 < b ∧ b < 2147483648) : iN a - iN a / iN b * iN b = iN (a % b) := by
  rw [iN_div ha hb, iN_mul, iN_sub]
  congr 1
  have := Int.emod_add_mul_ediv a b
  have e : a / b * b = b * (a / b) := Int.mul_comm _ _
  omega
def zshl (a b : Int) : Int := (iN a <<< (iN b &&& 31)).toInt
def zshr (a b : Int) : Int := (iN a >>> (iN b &&& 31)).toInt
def zushr (a b : Int) : Int := ((iN a).toUInt32 >>> ((iN b).toUInt32 &&& Int32.toUInt32 31)).toInt32.toInt
def zand (a b : Int) : Int := (iN a &&& iN b).toInt
def zor (a b : Int) : Int := (iN a ||| iN b).toInt
theorem inR_zshl (a b : Int) : inR (zshl a b) := inR_of _
theorem inR_zshr (a b : Int) : inR (zshr a b) := inR_of _
theorem inR_zushr (a b : Int) : inR (zushr a b) := inR_of _
theorem inR_zand (a b : Int) : inR (zand a b) := inR_of _
theorem inR_zor (a b : Int) : inR (zor a b) := inR_of _
/-- the locals as pairs -/
def xP (g : xG) (L : List (Option Value)) : List (Nat × Value) := (List.range L.length).filterMap (fun i => match L[i]? with
  | some (some v) => some (i, xv g v)
  | _ => none)
theorem xP_in {g : xG} {L : List (Option Value)} {i : Nat} {w : Value} : (i, w) ∈ xP g L ↔ ∃ v, L[i]? = some (some v) ∧ w = xv g v := by
  constructor
  · intro h
    obtain ⟨j, hj, e⟩ := List.mem_filterMap.mp h
    match h1 : L[j]? with
    | some (some v) =>
      rw [h1] at e
      cases e
      exact ⟨v, h1, rfl⟩
    | some none => rw [h1] at e; cases e
    | none => rw [h1] at e; cases e
  · rintro ⟨v, h, rfl⟩
    refine List.mem_filterMap.mpr ⟨i, List.mem_range.mpr (List.getElem?_eq_some_iff.mp h).1, ?_⟩
    rw [h]
theorem xLv_has {g : xG} {nL : Nat} {L : List (Option Value)} {ls : Array Slot} (h : xLv g nL L ls) : lv_has ls nL (xP g L) := ⟨h.2.1, h.2.2.1, fun q hq => by
  obtain ⟨v, h1, h2⟩ := xP_in.mp (show (q.1, q.2) ∈ xP g L from hq)
  rw [h2]
  exact h.2.2.2 _ _ h1⟩
/-- the place ahead holds no value of two slots -/
def xC1 : Option (Option Value) → Bool
  | some (some v) => v.category == 1
  | _ => true
theorem xLv_st1 {g : xG} (hg : ∀ k, 1000000 ≤ k → gV g k = .null ∨ ∃ t, gV g k = .ref t) {nL : Nat} {L : List (Option Value)} {ls ls' : Array Slot} {i : Nat} {v : Value} (h : xLv g nL L ls) (hi : i < nL) (h1 : i = 0 ∨ xC1 L[i - 1]? = true)
    (h' : lv_has ls' nL ((i, xv g v) :: (xP g L).filter (fun q => !(q.1 == i) && !(q.1 + 1 == i && q.2.category == 2)))) : xLv g nL (L.set i (some v)) ls' := by
  obtain ⟨a, b, c⟩ := h'
  refine ⟨by rw [List.length_set]; exact h.1, a, b, fun j w hj => ?_⟩
  by_cases hij : i = j
  · subst hij
    rw [List.getElem?_set_self (by rw [h.1]; exact hi)] at hj
    cases hj
    exact c _ List.mem_cons_self
  · rw [List.getElem?_set_ne hij] at hj
    refine c (j, xv g w) (List.mem_cons_of_mem _ (List.mem_filter.mpr ⟨xP_in.mpr ⟨w, hj, rfl⟩, ?_⟩))
    have e1 : (j == i) = false := by simp; omega
    have e2 : (j + 1 == i && (xv g w).category == 2) = false := by
      by_cases e : j + 1 = i
      · rcases h1 with h1 | h1
        · omega
        · rw [show i - 1 = j by omega, hj] at h1
          have h3 : w.category = 1 := by simpa [xC1] using h1
          rw [xcat g w hg, h3]
          simp
      · simp [e]
    simp only [e1, e2]
    rfl
theorem xLv_st2 {g : xG} (hg : ∀ k, 1000000 ≤ k → gV g k = .null ∨ ∃ t, gV g k = .ref t) {nL : Nat} {L : List (Option Value)} {ls ls' : Array Slot} {i : Nat} {v : Value} (h : xLv g nL L ls) (hi : i + 1 < nL) (h1 : i = 0 ∨ xC1 L[i - 1]? = true)
    (h' : lv_has ls' nL ((i, xv g v) :: (xP g L).filter (fun q => !(q.1 == i) && (!(q.1 == i + 1) && !(q.1 + 1 == i && q.2.category == 2))))) : xLv g nL ((L.set i (some v)).set (i + 1) none) ls' := by
  obtain ⟨a, b, c⟩ := h'
  refine ⟨by rw [List.length_set, List.length_set]; exact h.1, a, b, fun j w hj => ?_⟩
  by_cases hi1 : i + 1 = j
  · subst hi1
    rw [List.getElem?_set_self (by rw [List.length_set, h.1]; exact hi)] at hj
    cases hj
  rw [List.getElem?_set_ne hi1] at hj
  by_cases hij : i = j
  · subst hij
    rw [List.getElem?_set_self (by rw [h.1]; omega)] at hj
    cases hj
    exact c _ List.mem_cons_self
  · rw [List.getElem?_set_ne hij] at hj
    refine c (j, xv g w) (List.mem_cons_of_mem _ (List.mem_filter.mpr ⟨xP_in.mpr ⟨w, hj, rfl⟩, ?_⟩))
    have e0 : (j == i) = false := by simp; omega
    have e1 : (j == i + 1) = false := by simp; omega
    have e2 : (j + 1 == i && (xv g w).category == 2) = false := by
      by_cases e : j + 1 = i
      · rcases h1 with h1 | h1
        · omega
        · rw [show i - 1 = j by omega, hj] at h1
          have h3 : w.category = 1 := by simpa [xC1] using h1
          rw [xcat g w hg, h3]
          simp
      · simp [e]
    simp only [e0, e1, e2]
    rfl
theorem xLv_no {g : xG} {nL : Nat} {L : List (Option Value)} {ls : Array Slot} (h : xLv g nL L ls) (i : Nat) : xLv g nL (L.set i none) ls := by
  refine ⟨by rw [List.length_set]; exact h.1, h.2.1, h.2.2.1, fun j w hj => ?_⟩
  by_cases hij : i = j
  · subst hij
    by_cases hl : i < L.length
    · rw [List.getElem?_set_self hl] at hj; cases hj
    · rw [List.getElem?_eq_none (by rw [List.length_set]; omega)] at hj; cases hj
  · rw [List.getElem?_set_ne hij] at hj
    exact h.2.2.2 _ _ hj
section XR
variable {μ : xM} {pc pc' tgt : Nat} {L L' : List (Option Value)} {st : List Value} {σ : xS} {c9 s9 : Nat} {Φ : xRes → xS → Prop}
theorem X_to {M : List (Option Value)} {su : List Value} (hL : L = M) (hs : st = su) (k : X μ pc M su σ c9 s9 Φ) : X μ pc L st σ c9 s9 Φ := by
  subst hL; subst hs; exact k
theorem X_mono {Ψ : xRes → xS → Prop} (h : ∀ r τ, Ψ r τ → Φ r τ) (k : X μ pc L st σ c9 s9 Ψ) : X μ pc L st σ c9 s9 Φ := by
  intro g p l e R s m args below meth c Q hC hE
  exact k g p l e R s m args below meth c Q hC ⟨fun v τ H locs cells slots ls pc hΦ => hE.1 v τ H locs cells slots ls pc (h _ _ hΦ), fun E τ H locs cells slots ls pc rest q ce hΦ => hE.2 E τ H locs cells slots ls pc rest q ce (h _ _ hΦ)⟩
theorem X_room {c8 s8 : Nat} (h1 : c8 ≤ c9) (h2 : s8 ≤ s9) (k : X μ pc L st σ c8 s8 Φ) : X μ pc L st σ c9 s9 Φ := by
  intro g p l e R s m args below meth c Q hC hE H locs cells slots ls hR hL hS hc hs
  exact k g p l e R s m args below meth c Q hC hE H locs cells slots ls hR hL hS (by omega) (by omega)

theorem X_iconst {n : Int} (hd : decode (xB μ) pc = .ok (.iconst n, 1)) (hp : pc + 1 = pc') (k : X μ pc' L (.int (iN n) :: st) σ c9 s9 Φ) : X μ pc L (st) σ c9 s9 Φ := by
  subst hp
  intro g p l e R s m args below meth c Q hC hE H locs cells slots ls hR hL hS hc hs
  exact lv_iconst hC.1 hC.2.1 hd rfl (k g p l e R s m args below meth c Q hC hE H locs cells slots ls hR hL hS hc hs)

theorem X_bipush {n : Int} (hd : decode (xB μ) pc = .ok (.bipush n, 2)) (hp : pc + 2 = pc') (hv : (Int8.ofInt n).toInt32 = iN n) (k : X μ pc' L (.int (iN n) :: st) σ c9 s9 Φ) : X μ pc L (st) σ c9 s9 Φ := by
  subst hp
  intro g p l e R s m args below meth c Q hC hE H locs cells slots ls hR hL hS hc hs
  exact lv_bipush hC.1 hC.2.1 hd hv (k g p l e R s m args below meth c Q hC hE H locs cells slots ls hR hL hS hc hs)

theorem X_sipush {n : Int} (hd : decode (xB μ) pc = .ok (.sipush n, 3)) (hp : pc + 3 = pc') (hv : (Int16.ofInt n).toInt32 = iN n) (k : X μ pc' L (.int (iN n) :: st) σ c9 s9 Φ) : X μ pc L (st) σ c9 s9 Φ := by
  subst hp
  intro g p l e R s m args below meth c Q hC hE H locs cells slots ls hR hL hS hc hs
  exact lv_sipush hC.1 hC.2.1 hd hv (k g p l e R s m args below meth c Q hC hE H locs cells slots ls hR hL hS hc hs)

theorem X_lconst {n : Fin 2} (hd : decode (xB μ) pc = .ok (.lconst n, 1)) (hp : pc + 1 = pc') (k : X μ pc' L (.long (Int64.ofNat (n : Nat)) :: st) σ c9 s9 Φ) : X μ pc L (st) σ c9 s9 Φ := by
  subst hp
  intro g p l e R s m args below meth c Q hC hE H locs cells slots ls hR hL hS hc hs
  exact lv_lconst hC.1 hC.2.1 hd rfl (k g p l e R s m args below meth c Q hC hE H locs cells slots ls hR hL hS hc hs)

theorem X_iadd {a b : Int} (hd : decode (xB μ) pc = .ok (.iadd, 1)) (hp : pc + 1 = pc') (k : X μ pc' L (.int (iN (a + b)) :: st) σ c9 s9 Φ) : X μ pc L (.int (iN b) :: .int (iN a) :: st) σ c9 s9 Φ := by
  subst hp
  intro g p l e R s m args below meth c Q hC hE H locs cells slots ls hR hL hS hc hs
  refine lv_iadd hC.1 hC.2.1 hd ?_
  rw [iN_add]
  exact (k g p l e R s m args below meth c Q hC hE H locs cells slots ls hR hL hS hc hs)

theorem X_isub {a b : Int} (hd : decode (xB μ) pc = .ok (.isub, 1)) (hp : pc + 1 = pc') (k : X μ pc' L (.int (iN (a - b)) :: st) σ c9 s9 Φ) : X μ pc L (.int (iN b) :: .int (iN a) :: st) σ c9 s9 Φ := by
  subst hp
  intro g p l e R s m args below meth c Q hC hE H locs cells slots ls hR hL hS hc hs
  refine lv_isub hC.1 hC.2.1 hd ?_
  rw [iN_sub]
  exact (k g p l e R s m args below meth c Q hC hE H locs cells slots ls hR hL hS hc hs)

theorem X_imul {a b : Int} (hd : decode (xB μ) pc = .ok (.imul, 1)) (hp : pc + 1 = pc') (k : X μ pc' L (.int (iN (a * b)) :: st) σ c9 s9 Φ) : X μ pc L (.int (iN b) :: .int (iN a) :: st) σ c9 s9 Φ := by
  subst hp
  intro g p l e R s m args below meth c Q hC hE H locs cells slots ls hR hL hS hc hs
  refine lv_imul hC.1 hC.2.1 hd ?_
  rw [iN_mul]
  exact (k g p l e R s m args below meth c Q hC hE H locs cells slots ls hR hL hS hc hs)

theorem X_iand {a b : Int} (hd : decode (xB μ) pc = .ok (.iand, 1)) (hp : pc + 1 = pc') (k : X μ pc' L (.int (iN (zand a b)) :: st) σ c9 s9 Φ) : X μ pc L (.int (iN b) :: .int (iN a) :: st) σ c9 s9 Φ := by
  subst hp
  intro g p l e R s m args below meth c Q hC hE H locs cells slots ls hR hL hS hc hs
  refine lv_iand hC.1 hC.2.1 hd ?_
  have k := (k g p l e R s m args below meth c Q hC hE H locs cells slots ls hR hL hS hc hs)
  rw [zand, iN_of] at k
  exact k

theorem X_ior {a b : Int} (hd : decode (xB μ) pc = .ok (.ior, 1)) (hp : pc + 1 = pc') (k : X μ pc' L (.int (iN (zor a b)) :: st) σ c9 s9 Φ) : X μ pc L (.int (iN b) :: .int (iN a) :: st) σ c9 s9 Φ := by
  subst hp
  intro g p l e R s m args below meth c Q hC hE H locs cells slots ls hR hL hS hc hs
  refine lv_ior hC.1 hC.2.1 hd ?_
  have k := (k g p l e R s m args below meth c Q hC hE H locs cells slots ls hR hL hS hc hs)
  rw [zor, iN_of] at k
  exact k

theorem X_ishl {a b : Int} (hd : decode (xB μ) pc = .ok (.ishl, 1)) (hp : pc + 1 = pc') (k : X μ pc' L (.int (iN (zshl a b)) :: st) σ c9 s9 Φ) : X μ pc L (.int (iN b) :: .int (iN a) :: st) σ c9 s9 Φ := by
  subst hp
  intro g p l e R s m args below meth c Q hC hE H locs cells slots ls hR hL hS hc hs
  refine lv_ishl hC.1 hC.2.1 hd ?_
  have k := (k g p l e R s m args below meth c Q hC hE H locs cells slots ls hR hL hS hc hs)
  rw [zshl, iN_of] at k
  exact k

theorem X_ishr {a b : Int} (hd : decode (xB μ) pc = .ok (.ishr, 1)) (hp : pc + 1 = pc') (k : X μ pc' L (.int (iN (zshr a b)) :: st) σ c9 s9 Φ) : X μ pc L (.int (iN b) :: .int (iN a) :: st) σ c9 s9 Φ := by
  subst hp
  intro g p l e R s m args below meth c Q hC hE H locs cells slots ls hR hL hS hc hs
  refine lv_ishr hC.1 hC.2.1 hd ?_
  have k := (k g p l e R s m args below meth c Q hC hE H locs cells slots ls hR hL hS hc hs)
  rw [zshr, iN_of] at k
  exact k

theorem X_iushr {a b : Int} (hd : decode (xB μ) pc = .ok (.iushr, 1)) (hp : pc + 1 = pc') (k : X μ pc' L (.int (iN (zushr a b)) :: st) σ c9 s9 Φ) : X μ pc L (.int (iN b) :: .int (iN a) :: st) σ c9 s9 Φ := by
  subst hp
  intro g p l e R s m args below meth c Q hC hE H locs cells slots ls hR hL hS hc hs
  refine lv_iushr hC.1 hC.2.1 hd rfl ?_
  have k := (k g p l e R s m args below meth c Q hC hE H locs cells slots ls hR hL hS hc hs)
  rw [zushr, iN_of] at k
  exact k
theorem X_idiv {a b : Int} (hd : decode (xB μ) pc = .ok (.idiv, 1)) (hp : pc + 1 = pc') (hr : 0 ≤ a ∧ a < 2147483648 ∧ 0 < b ∧ b < 2147483648) (k : X μ pc' L (.int (iN (a / b)) :: st) σ c9 s9 Φ) : X μ pc L (.int (iN b) :: .int (iN a) :: st) σ c9 s9 Φ := by
  subst hp
  intro g p l e R s m args below meth c Q hC hE H locs cells slots ls hR hL hS hc hs
  refine lv_idiv hC.1 hC.2.1 hd (fun h => ?_) ?_
  · rw [← iN_0, iN_eq ⟨by omega, by omega⟩ ⟨by omega, by omega⟩] at h
    omega
  · rw [iN_div ⟨hr.1, hr.2.1⟩ ⟨hr.2.2.1, hr.2.2.2⟩]
    exact (k g p l e R s m args below meth c Q hC hE H locs cells slots ls hR hL hS hc hs)
theorem X_irem {a b : Int} (hd : decode (xB μ) pc = .ok (.irem, 1)) (hp : pc + 1 = pc') (hr : 0 ≤ a ∧ a < 2147483648 ∧ 0 < b ∧ b < 2147483648) (k : X μ pc' L (.int (iN (a % b)) :: st) σ c9 s9 Φ) : X μ pc L (.int (iN b) :: .int (iN a) :: st) σ c9 s9 Φ := by
  subst hp
  intro g p l e R s m args below meth c Q hC hE H locs cells slots ls hR hL hS hc hs
  refine lv_irem hC.1 hC.2.1 hd (fun h => ?_) ?_
  · rw [← iN_0, iN_eq ⟨by omega, by omega⟩ ⟨by omega, by omega⟩] at h
    omega
  · rw [iN_rem ⟨hr.1, hr.2.1⟩ ⟨hr.2.2.1, hr.2.2.2⟩]
    exact (k g p l e R s m args below meth c Q hC hE H locs cells slots ls hR hL hS hc hs)

theorem X_i2l {x : Int32} (hd : decode (xB μ) pc = .ok (.i2l, 1)) (hp : pc + 1 = pc') (k : X μ pc' L (.long x.toInt64 :: st) σ c9 s9 Φ) : X μ pc L (.int x :: st) σ c9 s9 Φ := by
  subst hp
  intro g p l e R s m args below meth c Q hC hE H locs cells slots ls hR hL hS hc hs
  exact lv_i2l hC.1 hC.2.1 hd rfl (k g p l e R s m args below meth c Q hC hE H locs cells slots ls hR hL hS hc hs)

theorem X_l2i {x : Int64} (hd : decode (xB μ) pc = .ok (.l2i, 1)) (hp : pc + 1 = pc') (k : X μ pc' L (.int x.toInt32 :: st) σ c9 s9 Φ) : X μ pc L (.long x :: st) σ c9 s9 Φ := by
  subst hp
  intro g p l e R s m args below meth c Q hC hE H locs cells slots ls hR hL hS hc hs
  exact lv_l2i hC.1 hC.2.1 hd rfl (k g p l e R s m args below meth c Q hC hE H locs cells slots ls hR hL hS hc hs)

theorem X_i2c {x : Int32} (hd : decode (xB μ) pc = .ok (.i2c, 1)) (hp : pc + 1 = pc') (k : X μ pc' L (.int (x.toUInt32 % 65536).toInt32 :: st) σ c9 s9 Φ) : X μ pc L (.int x :: st) σ c9 s9 Φ := by
  subst hp
  intro g p l e R s m args below meth c Q hC hE H locs cells slots ls hR hL hS hc hs
  exact lv_i2c hC.1 hC.2.1 hd rfl (k g p l e R s m args below meth c Q hC hE H locs cells slots ls hR hL hS hc hs)

theorem X_ladd {x y : Int64} (hd : decode (xB μ) pc = .ok (.ladd, 1)) (hp : pc + 1 = pc') (k : X μ pc' L (.long (x + y) :: st) σ c9 s9 Φ) : X μ pc L (.long y :: .long x :: st) σ c9 s9 Φ := by
  subst hp
  intro g p l e R s m args below meth c Q hC hE H locs cells slots ls hR hL hS hc hs
  exact lv_ladd hC.1 hC.2.1 hd (k g p l e R s m args below meth c Q hC hE H locs cells slots ls hR hL hS hc hs)

theorem X_lmul {x y : Int64} (hd : decode (xB μ) pc = .ok (.lmul, 1)) (hp : pc + 1 = pc') (k : X μ pc' L (.long (x * y) :: st) σ c9 s9 Φ) : X μ pc L (.long y :: .long x :: st) σ c9 s9 Φ := by
  subst hp
  intro g p l e R s m args below meth c Q hC hE H locs cells slots ls hR hL hS hc hs
  exact lv_lmul hC.1 hC.2.1 hd (k g p l e R s m args below meth c Q hC hE H locs cells slots ls hR hL hS hc hs)

theorem X_i2d {x : Int32} (hd : decode (xB μ) pc = .ok (.i2d, 1)) (hp : pc + 1 = pc') (k : X μ pc' L (.double (FP.i2d x) :: st) σ c9 s9 Φ) : X μ pc L (.int x :: st) σ c9 s9 Φ := by
  subst hp
  intro g p l e R s m args below meth c Q hC hE H locs cells slots ls hR hL hS hc hs
  exact lv_i2d hC.1 hC.2.1 hd (k g p l e R s m args below meth c Q hC hE H locs cells slots ls hR hL hS hc hs)

theorem X_dadd {x y : UInt64} (hd : decode (xB μ) pc = .ok (.dadd, 1)) (hp : pc + 1 = pc') (hn : vf_n64 (FP.dadd x y)) (k : X μ pc' L (.double (FP.dadd x y) :: st) σ c9 s9 Φ) : X μ pc L (.double y :: .double x :: st) σ c9 s9 Φ := by
  subst hp
  intro g p l e R s m args below meth c Q hC hE H locs cells slots ls hR hL hS hc hs
  exact lv_dadd hC.1 hC.2.1 hd hn (k g p l e R s m args below meth c Q hC hE H locs cells slots ls hR hL hS hc hs)

theorem X_ddiv {x y : UInt64} (hd : decode (xB μ) pc = .ok (.ddiv, 1)) (hp : pc + 1 = pc') (hn : vf_n64 (FP.ddiv x y)) (k : X μ pc' L (.double (FP.ddiv x y) :: st) σ c9 s9 Φ) : X μ pc L (.double y :: .double x :: st) σ c9 s9 Φ := by
  subst hp
  intro g p l e R s m args below meth c Q hC hE H locs cells slots ls hR hL hS hc hs
  exact lv_ddiv hC.1 hC.2.1 hd hn (k g p l e R s m args below meth c Q hC hE H locs cells slots ls hR hL hS hc hs)

theorem X_dconst0 (hd : decode (xB μ) pc = .ok (.dconst 0, 1)) (hp : pc + 1 = pc') (k : X μ pc' L (.double 0 :: st) σ c9 s9 Φ) : X μ pc L (st) σ c9 s9 Φ := by
  subst hp
  intro g p l e R s m args below meth c Q hC hE H locs cells slots ls hR hL hS hc hs
  exact lv_dconst0 hC.1 hC.2.1 hd (k g p l e R s m args below meth c Q hC hE H locs cells slots ls hR hL hS hc hs)

theorem X_aconst_null (hd : decode (xB μ) pc = .ok (.aconst_null, 1)) (hp : pc + 1 = pc') (k : X μ pc' L (.null :: st) σ c9 s9 Φ) : X μ pc L (st) σ c9 s9 Φ := by
  subst hp
  intro g p l e R s m args below meth c Q hC hE H locs cells slots ls hR hL hS hc hs
  exact lv_null hC.1 hC.2.1 hd (k g p l e R s m args below meth c Q hC hE H locs cells slots ls hR hL hS hc hs)

theorem X_dup {v : Value} (hd : decode (xB μ) pc = .ok (.dup, 1)) (hp : pc + 1 = pc') (hv : v.category = 1) (k : X μ pc' L (v :: v :: st) σ c9 s9 Φ) : X μ pc L (v :: st) σ c9 s9 Φ := by
  subst hp
  intro g p l e R s m args below meth c Q hC hE H locs cells slots ls hR hL hS hc hs
  have hg := hC.2.2.2.2.2.2.2.2.2.2.2.2.2.2.2.2.2.2.2.2.2.2.1
  exact lv_dup hC.1 hC.2.1 hd (by rw [xcat g v hg]; exact hv) (k g p l e R s m args below meth c Q hC hE H locs cells slots ls hR hL hS hc hs)
theorem X_pop {v : Value} (hd : decode (xB μ) pc = .ok (.pop, 1)) (hp : pc + 1 = pc') (hv : v.category = 1) (k : X μ pc' L st σ c9 s9 Φ) : X μ pc L (v :: st) σ c9 s9 Φ := by
  subst hp
  intro g p l e R s m args below meth c Q hC hE H locs cells slots ls hR hL hS hc hs
  have hg := hC.2.2.2.2.2.2.2.2.2.2.2.2.2.2.2.2.2.2.2.2.2.2.1
  exact lv_pop hC.1 hC.2.1 hd (by rw [xcat g v hg]; exact hv) (k g p l e R s m args below meth c Q hC hE H locs cells slots ls hR hL hS hc hs)
theorem X_dup2 {v w : Value} (hd : decode (xB μ) pc = .ok (.dup2, 1)) (hp : pc + 1 = pc') (hv : v.category = 1) (hw : w.category = 1) (k : X μ pc' L (v :: w :: v :: w :: st) σ c9 s9 Φ) : X μ pc L (v :: w :: st) σ c9 s9 Φ := by
  subst hp
  intro g p l e R s m args below meth c Q hC hE H locs cells slots ls hR hL hS hc hs
  have hg := hC.2.2.2.2.2.2.2.2.2.2.2.2.2.2.2.2.2.2.2.2.2.2.1
  exact lv_dup2_11 hC.1 hC.2.1 hd (by rw [xcat g v hg]; exact hv) (by rw [xcat g w hg]; exact hw) (k g p l e R s m args below meth c Q hC hE H locs cells slots ls hR hL hS hc hs)

theorem X_iload_n {i : Fin 4} {x : Int32} (hd : decode (xB μ) pc = .ok (.iload_n i, 1)) (hp : pc + 1 = pc') (hl : L[(i : Nat)]? = some (some (.int x))) (k : X μ pc' L (.int x :: st) σ c9 s9 Φ) : X μ pc L st σ c9 s9 Φ := by
  subst hp
  intro g p l e R s m args below meth c Q hC hE H locs cells slots ls hR hL hS hc hs
  exact lv_iload_n hC.1 hC.2.1 hd rfl (hL.2.2.2 _ _ hl) (k g p l e R s m args below meth c Q hC hE H locs cells slots ls hR hL hS hc hs)

theorem X_iload {i : Nat} {x : Int32} (hd : decode (xB μ) pc = .ok (.iload i, 2)) (hp : pc + 2 = pc') (hl : L[i]? = some (some (.int x))) (k : X μ pc' L (.int x :: st) σ c9 s9 Φ) : X μ pc L st σ c9 s9 Φ := by
  subst hp
  intro g p l e R s m args below meth c Q hC hE H locs cells slots ls hR hL hS hc hs
  exact lv_iload hC.1 hC.2.1 hd (hL.2.2.2 _ _ hl) (k g p l e R s m args below meth c Q hC hE H locs cells slots ls hR hL hS hc hs)

theorem X_lload_n {i : Fin 4} {x : Int64} (hd : decode (xB μ) pc = .ok (.lload_n i, 1)) (hp : pc + 1 = pc') (hl : L[(i : Nat)]? = some (some (.long x))) (k : X μ pc' L (.long x :: st) σ c9 s9 Φ) : X μ pc L st σ c9 s9 Φ := by
  subst hp
  intro g p l e R s m args below meth c Q hC hE H locs cells slots ls hR hL hS hc hs
  exact lv_lload_n hC.1 hC.2.1 hd rfl (hL.2.2.2 _ _ hl) (k g p l e R s m args below meth c Q hC hE H locs cells slots ls hR hL hS hc hs)

theorem X_lload {i : Nat} {x : Int64} (hd : decode (xB μ) pc = .ok (.lload i, 2)) (hp : pc + 2 = pc') (hl : L[i]? = some (some (.long x))) (k : X μ pc' L (.long x :: st) σ c9 s9 Φ) : X μ pc L st σ c9 s9 Φ := by
  subst hp
  intro g p l e R s m args below meth c Q hC hE H locs cells slots ls hR hL hS hc hs
  exact lv_lload hC.1 hC.2.1 hd (hL.2.2.2 _ _ hl) (k g p l e R s m args below meth c Q hC hE H locs cells slots ls hR hL hS hc hs)

theorem X_dload_n {i : Fin 4} {x : UInt64} (hd : decode (xB μ) pc = .ok (.dload_n i, 1)) (hp : pc + 1 = pc') (hl : L[(i : Nat)]? = some (some (.double x))) (k : X μ pc' L (.double x :: st) σ c9 s9 Φ) : X μ pc L st σ c9 s9 Φ := by
  subst hp
  intro g p l e R s m args below meth c Q hC hE H locs cells slots ls hR hL hS hc hs
  exact lv_dload_n hC.1 hC.2.1 hd rfl (hL.2.2.2 _ _ hl) (k g p l e R s m args below meth c Q hC hE H locs cells slots ls hR hL hS hc hs)

theorem X_dload {i : Nat} {x : UInt64} (hd : decode (xB μ) pc = .ok (.dload i, 2)) (hp : pc + 2 = pc') (hl : L[i]? = some (some (.double x))) (k : X μ pc' L (.double x :: st) σ c9 s9 Φ) : X μ pc L st σ c9 s9 Φ := by
  subst hp
  intro g p l e R s m args below meth c Q hC hE H locs cells slots ls hR hL hS hc hs
  exact lv_dload hC.1 hC.2.1 hd (hL.2.2.2 _ _ hl) (k g p l e R s m args below meth c Q hC hE H locs cells slots ls hR hL hS hc hs)

theorem X_aload_n {i : Fin 4} {x : Nat} (hd : decode (xB μ) pc = .ok (.aload_n i, 1)) (hp : pc + 1 = pc') (hl : L[(i : Nat)]? = some (some (.ref x))) (k : X μ pc' L (.ref x :: st) σ c9 s9 Φ) : X μ pc L st σ c9 s9 Φ := by
  subst hp
  intro g p l e R s m args below meth c Q hC hE H locs cells slots ls hR hL hS hc hs
  have hg := hC.2.2.2.2.2.2.2.2.2.2.2.2.2.2.2.2.2.2.2.2.2.2.1
  have k := (k g p l e R s m args below meth c Q hC hE H locs cells slots ls hR hL hS hc hs)
  have hl := hL.2.2.2 _ _ hl
  rw [List.map_cons] at k
  by_cases hx : x < 1000000
  · rw [xv_ref g hx] at hl k
    exact lv_aload_n hC.1 hC.2.1 hd rfl hl k
  · rw [xv_stat g (Nat.le_of_not_lt hx)] at hl k
    rcases hg x (Nat.le_of_not_lt hx) with e | ⟨t, e⟩
    · rw [e] at hl k
      exact lv_aload_nN hC.1 hC.2.1 hd rfl hl k
    · rw [e] at hl k
      exact lv_aload_n hC.1 hC.2.1 hd rfl hl k

theorem X_aload {i : Nat} {x : Nat} (hd : decode (xB μ) pc = .ok (.aload i, 2)) (hp : pc + 2 = pc') (hl : L[i]? = some (some (.ref x))) (k : X μ pc' L (.ref x :: st) σ c9 s9 Φ) : X μ pc L st σ c9 s9 Φ := by
  subst hp
  intro g p l e R s m args below meth c Q hC hE H locs cells slots ls hR hL hS hc hs
  have hg := hC.2.2.2.2.2.2.2.2.2.2.2.2.2.2.2.2.2.2.2.2.2.2.1
  have k := (k g p l e R s m args below meth c Q hC hE H locs cells slots ls hR hL hS hc hs)
  have hl := hL.2.2.2 _ _ hl
  rw [List.map_cons] at k
  by_cases hx : x < 1000000
  · rw [xv_ref g hx] at hl k
    exact lv_aload hC.1 hC.2.1 hd hl k
  · rw [xv_stat g (Nat.le_of_not_lt hx)] at hl k
    rcases hg x (Nat.le_of_not_lt hx) with e | ⟨t, e⟩
    · rw [e] at hl k
      exact lv_aloadN hC.1 hC.2.1 hd hl k
    · rw [e] at hl k
      exact lv_aload hC.1 hC.2.1 hd hl k

theorem X_istore_n {i : Fin 4} {x : Int32} (hd : decode (xB μ) pc = .ok (.istore_n i, 1)) (hp : pc + 1 = pc') (hi : (i : Nat) < L.length) (h1 : (i : Nat) = 0 ∨ xC1 L[(i : Nat) - 1]? = true) (hL' : L.set (i : Nat) (some (.int x)) = L') (k : X μ pc' L' st σ c9 s9 Φ) : X μ pc L (.int x :: st) σ c9 s9 Φ := by
  subst hp
  subst hL'
  intro g p l e R s m args below meth c Q hC hE H locs cells slots ls hR hL hS hc hs
  have hg := hC.2.2.2.2.2.2.2.2.2.2.2.2.2.2.2.2.2.2.2.2.2.2.1
  exact lv_istore_n hC.1 hC.2.1 hd rfl (xLv_has hL) (by rw [← hL.1]; exact hi) rfl (fun ls' h' => k g p l e R s m args below meth c Q hC hE H locs cells slots ls' hR (xLv_st1 hg hL (by rw [← hL.1]; exact hi) h1 h') hS hc hs)

theorem X_istore {i : Nat} {x : Int32} (hd : decode (xB μ) pc = .ok (.istore i, 2)) (hp : pc + 2 = pc') (hi : i < L.length) (h1 : i = 0 ∨ xC1 L[i - 1]? = true) (hL' : L.set i (some (.int x)) = L') (k : X μ pc' L' st σ c9 s9 Φ) : X μ pc L (.int x :: st) σ c9 s9 Φ := by
  subst hp
  subst hL'
  intro g p l e R s m args below meth c Q hC hE H locs cells slots ls hR hL hS hc hs
  have hg := hC.2.2.2.2.2.2.2.2.2.2.2.2.2.2.2.2.2.2.2.2.2.2.1
  exact lv_istore hC.1 hC.2.1 hd (xLv_has hL) (by rw [← hL.1]; exact hi) rfl (fun ls' h' => k g p l e R s m args below meth c Q hC hE H locs cells slots ls' hR (xLv_st1 hg hL (by rw [← hL.1]; exact hi) h1 h') hS hc hs)

theorem X_lstore_n {i : Fin 4} {x : Int64} (hd : decode (xB μ) pc = .ok (.lstore_n i, 1)) (hp : pc + 1 = pc') (hi : (i : Nat) + 1 < L.length) (h1 : (i : Nat) = 0 ∨ xC1 L[(i : Nat) - 1]? = true) (hL' : (L.set (i : Nat) (some (.long x))).set ((i : Nat) + 1) none = L') (k : X μ pc' L' st σ c9 s9 Φ) : X μ pc L (.long x :: st) σ c9 s9 Φ := by
  subst hp
  subst hL'
  intro g p l e R s m args below meth c Q hC hE H locs cells slots ls hR hL hS hc hs
  have hg := hC.2.2.2.2.2.2.2.2.2.2.2.2.2.2.2.2.2.2.2.2.2.2.1
  exact lv_lstore_n hC.1 hC.2.1 hd rfl (xLv_has hL) (by rw [← hL.1]; exact hi) rfl (fun ls' h' => k g p l e R s m args below meth c Q hC hE H locs cells slots ls' hR (xLv_st2 hg hL (by rw [← hL.1]; exact hi) h1 h') hS hc hs)

theorem X_lstore {i : Nat} {x : Int64} (hd : decode (xB μ) pc = .ok (.lstore i, 2)) (hp : pc + 2 = pc') (hi : i + 1 < L.length) (h1 : i = 0 ∨ xC1 L[i - 1]? = true) (hL' : (L.set i (some (.long x))).set (i + 1) none = L') (k : X μ pc' L' st σ c9 s9 Φ) : X μ pc L (.long x :: st) σ c9 s9 Φ := by
  subst hp
  subst hL'
  intro g p l e R s m args below meth c Q hC hE H locs cells slots ls hR hL hS hc hs
  have hg := hC.2.2.2.2.2.2.2.2.2.2.2.2.2.2.2.2.2.2.2.2.2.2.1
  exact lv_lstore hC.1 hC.2.1 hd (xLv_has hL) (by rw [← hL.1]; exact hi) rfl (fun ls' h' => k g p l e R s m args below meth c Q hC hE H locs cells slots ls' hR (xLv_st2 hg hL (by rw [← hL.1]; exact hi) h1 h') hS hc hs)

theorem X_dstore_n {i : Fin 4} {x : UInt64} (hd : decode (xB μ) pc = .ok (.dstore_n i, 1)) (hp : pc + 1 = pc') (hi : (i : Nat) + 1 < L.length) (h1 : (i : Nat) = 0 ∨ xC1 L[(i : Nat) - 1]? = true) (hL' : (L.set (i : Nat) (some (.double x))).set ((i : Nat) + 1) none = L') (k : X μ pc' L' st σ c9 s9 Φ) : X μ pc L (.double x :: st) σ c9 s9 Φ := by
  subst hp
  subst hL'
  intro g p l e R s m args below meth c Q hC hE H locs cells slots ls hR hL hS hc hs
  have hg := hC.2.2.2.2.2.2.2.2.2.2.2.2.2.2.2.2.2.2.2.2.2.2.1
  exact lv_dstore_n hC.1 hC.2.1 hd rfl (xLv_has hL) (by rw [← hL.1]; exact hi) rfl (fun ls' h' => k g p l e R s m args below meth c Q hC hE H locs cells slots ls' hR (xLv_st2 hg hL (by rw [← hL.1]; exact hi) h1 h') hS hc hs)

theorem X_dstore {i : Nat} {x : UInt64} (hd : decode (xB μ) pc = .ok (.dstore i, 2)) (hp : pc + 2 = pc') (hi : i + 1 < L.length) (h1 : i = 0 ∨ xC1 L[i - 1]? = true) (hL' : (L.set i (some (.double x))).set (i + 1) none = L') (k : X μ pc' L' st σ c9 s9 Φ) : X μ pc L (.double x :: st) σ c9 s9 Φ := by
  subst hp
  subst hL'
  intro g p l e R s m args below meth c Q hC hE H locs cells slots ls hR hL hS hc hs
  have hg := hC.2.2.2.2.2.2.2.2.2.2.2.2.2.2.2.2.2.2.2.2.2.2.1
  exact lv_dstore hC.1 hC.2.1 hd (xLv_has hL) (by rw [← hL.1]; exact hi) rfl (fun ls' h' => k g p l e R s m args below meth c Q hC hE H locs cells slots ls' hR (xLv_st2 hg hL (by rw [← hL.1]; exact hi) h1 h') hS hc hs)

theorem X_astore_n {i : Fin 4} {x : Nat} (hd : decode (xB μ) pc = .ok (.astore_n i, 1)) (hp : pc + 1 = pc') (hi : (i : Nat) < L.length) (h1 : (i : Nat) = 0 ∨ xC1 L[(i : Nat) - 1]? = true) (hx : x < 1000000) (hL' : L.set (i : Nat) (some (.ref x)) = L') (k : X μ pc' L' st σ c9 s9 Φ) : X μ pc L (.ref x :: st) σ c9 s9 Φ := by
  subst hp
  subst hL'
  intro g p l e R s m args below meth c Q hC hE H locs cells slots ls hR hL hS hc hs
  have hg := hC.2.2.2.2.2.2.2.2.2.2.2.2.2.2.2.2.2.2.2.2.2.2.1
  rw [List.map_cons, xv_ref g hx]
  exact lv_astore_n hC.1 hC.2.1 hd rfl (xLv_has hL) (by rw [← hL.1]; exact hi) rfl (fun ls' h' => k g p l e R s m args below meth c Q hC hE H locs cells slots ls' hR (xLv_st1 (v := .ref x) hg hL (by rw [← hL.1]; exact hi) h1 (by rw [xv_ref g hx]; exact h')) hS hc hs)

theorem X_astore {i : Nat} {x : Nat} (hd : decode (xB μ) pc = .ok (.astore i, 2)) (hp : pc + 2 = pc') (hi : i < L.length) (h1 : i = 0 ∨ xC1 L[i - 1]? = true) (hx : x < 1000000) (hL' : L.set i (some (.ref x)) = L') (k : X μ pc' L' st σ c9 s9 Φ) : X μ pc L (.ref x :: st) σ c9 s9 Φ := by
  subst hp
  subst hL'
  intro g p l e R s m args below meth c Q hC hE H locs cells slots ls hR hL hS hc hs
  have hg := hC.2.2.2.2.2.2.2.2.2.2.2.2.2.2.2.2.2.2.2.2.2.2.1
  rw [List.map_cons, xv_ref g hx]
  exact lv_astore hC.1 hC.2.1 hd (xLv_has hL) (by rw [← hL.1]; exact hi) rfl (fun ls' h' => k g p l e R s m args below meth c Q hC hE H locs cells slots ls' hR (xLv_st1 (v := .ref x) hg hL (by rw [← hL.1]; exact hi) h1 (by rw [xv_ref g hx]; exact h')) hS hc hs)

theorem X_iinc {i : Nat} {n a : Int} (hd : decode (xB μ) pc = .ok (.iinc i n, 3)) (hp : pc + 3 = pc') (hl : L[i]? = some (some (.int (iN a)))) (h1 : i = 0 ∨ xC1 L[i - 1]? = true) (hL' : L.set i (some (.int (iN (a + n)))) = L') (k : X μ pc' L' st σ c9 s9 Φ) : X μ pc L st σ c9 s9 Φ := by
  subst hp
  subst hL'
  intro g p l e R s m args below meth c Q hC hE H locs cells slots ls hR hL hS hc hs
  have hg := hC.2.2.2.2.2.2.2.2.2.2.2.2.2.2.2.2.2.2.2.2.2.2.1
  have hi : i < xL μ := by rw [← hL.1]; exact (List.getElem?_eq_some_iff.mp hl).1
  obtain ⟨kk, hkk⟩ := List.getElem?_of_mem (xP_in.mpr ⟨_, hl, rfl⟩ : (i, xv g (.int (iN a))) ∈ xP g L)
  exact lv_iinc hC.1 hC.2.1 hd (xLv_has hL) hkk (iN_add a n) hi rfl (fun ls' h' => k g p l e R s m args below meth c Q hC hE H locs cells slots ls' hR (xLv_st1 (v := .int (iN (a + n))) hg hL hi h1 h') hS hc hs)

theorem X_icmp_eq {a b : Int} {off : Int} (hd : decode (xB μ) pc = .ok (.if_icmp .eq off, 3)) (ht : (pc : Int) + off = (tgt : Int)) (hp : pc + 3 = pc') (hr : -2147483648 ≤ a ∧ a < 2147483648 ∧ -2147483648 ≤ b ∧ b < 2147483648) (kt : a = b → X μ tgt L st σ c9 s9 Φ) (kf : ¬ a = b → X μ pc' L st σ c9 s9 Φ) : X μ pc L (.int (iN b) :: .int (iN a) :: st) σ c9 s9 Φ := by
  subst hp
  intro g p l e R s m args below meth c Q hC hE H locs cells slots ls hR hL hS hc hs
  have hlem := iN_eq ⟨hr.1, hr.2.1⟩ ⟨hr.2.2.1, hr.2.2.2⟩
  exact lv_icmp_eq hC.1 hC.2.1 hd ht (fun h => kt (hlem.mp h) g p l e R s m args below meth c Q hC hE H locs cells slots ls hR hL hS hc hs) (fun h => kf (fun q => h (hlem.mpr q)) g p l e R s m args below meth c Q hC hE H locs cells slots ls hR hL hS hc hs)

theorem X_if_eq {a : Int} {off : Int} (hd : decode (xB μ) pc = .ok (.ifCond .eq off, 3)) (ht : (pc : Int) + off = (tgt : Int)) (hp : pc + 3 = pc') (hr : -2147483648 ≤ a ∧ a < 2147483648) (kt : a = 0 → X μ tgt L st σ c9 s9 Φ) (kf : ¬ a = 0 → X μ pc' L st σ c9 s9 Φ) : X μ pc L (.int (iN a) :: st) σ c9 s9 Φ := by
  subst hp
  intro g p l e R s m args below meth c Q hC hE H locs cells slots ls hR hL hS hc hs
  have hlem := iN_eq ⟨hr.1, hr.2⟩ (by constructor <;> decide : inR 0)
  rw [iN_0] at hlem
  exact lv_if_eq hC.1 hC.2.1 hd ht (fun h => kt (hlem.mp h) g p l e R s m args below meth c Q hC hE H locs cells slots ls hR hL hS hc hs) (fun h => kf (fun q => h (hlem.mpr q)) g p l e R s m args below meth c Q hC hE H locs cells slots ls hR hL hS hc hs)

theorem X_icmp_ne {a b : Int} {off : Int} (hd : decode (xB μ) pc = .ok (.if_icmp .ne off, 3)) (ht : (pc : Int) + off = (tgt : Int)) (hp : pc + 3 = pc') (hr : -2147483648 ≤ a ∧ a < 2147483648 ∧ -2147483648 ≤ b ∧ b < 2147483648) (kt : ¬ a = b → X μ tgt L st σ c9 s9 Φ) (kf : a = b → X μ pc' L st σ c9 s9 Φ) : X μ pc L (.int (iN b) :: .int (iN a) :: st) σ c9 s9 Φ := by
  subst hp
  intro g p l e R s m args below meth c Q hC hE H locs cells slots ls hR hL hS hc hs
  have hlem := iN_eq ⟨hr.1, hr.2.1⟩ ⟨hr.2.2.1, hr.2.2.2⟩
  exact lv_icmp_ne hC.1 hC.2.1 hd ht (fun h => kt (fun q => h (hlem.mpr q)) g p l e R s m args below meth c Q hC hE H locs cells slots ls hR hL hS hc hs) (fun h => kf (hlem.mp h) g p l e R s m args below meth c Q hC hE H locs cells slots ls hR hL hS hc hs)

theorem X_if_ne {a : Int} {off : Int} (hd : decode (xB μ) pc = .ok (.ifCond .ne off, 3)) (ht : (pc : Int) + off = (tgt : Int)) (hp : pc + 3 = pc') (hr : -2147483648 ≤ a ∧ a < 2147483648) (kt : ¬ a = 0 → X μ tgt L st σ c9 s9 Φ) (kf : a = 0 → X μ pc' L st σ c9 s9 Φ) : X μ pc L (.int (iN a) :: st) σ c9 s9 Φ := by
  subst hp
  intro g p l e R s m args below meth c Q hC hE H locs cells slots ls hR hL hS hc hs
  have hlem := iN_eq ⟨hr.1, hr.2⟩ (by constructor <;> decide : inR 0)
  rw [iN_0] at hlem
  exact lv_if_ne hC.1 hC.2.1 hd ht (fun h => kt (fun q => h (hlem.mpr q)) g p l e R s m args below meth c Q hC hE H locs cells slots ls hR hL hS hc hs) (fun h => kf (hlem.mp h) g p l e R s m args below meth c Q hC hE H locs cells slots ls hR hL hS hc hs)

theorem X_icmp_lt {a b : Int} {off : Int} (hd : decode (xB μ) pc = .ok (.if_icmp .lt off, 3)) (ht : (pc : Int) + off = (tgt : Int)) (hp : pc + 3 = pc') (hr : -2147483648 ≤ a ∧ a < 2147483648 ∧ -2147483648 ≤ b ∧ b < 2147483648) (kt : a < b → X μ tgt L st σ c9 s9 Φ) (kf : b ≤ a → X μ pc' L st σ c9 s9 Φ) : X μ pc L (.int (iN b) :: .int (iN a) :: st) σ c9 s9 Φ := by
  subst hp
  intro g p l e R s m args below meth c Q hC hE H locs cells slots ls hR hL hS hc hs
  have hlem := iN_lt ⟨hr.1, hr.2.1⟩ ⟨hr.2.2.1, hr.2.2.2⟩
  exact lv_icmp_lt hC.1 hC.2.1 hd ht (fun h => kt (hlem.mp h) g p l e R s m args below meth c Q hC hE H locs cells slots ls hR hL hS hc hs) (fun h => kf (Int.not_lt.mp fun q => h (hlem.mpr q)) g p l e R s m args below meth c Q hC hE H locs cells slots ls hR hL hS hc hs)

theorem X_if_lt {a : Int} {off : Int} (hd : decode (xB μ) pc = .ok (.ifCond .lt off, 3)) (ht : (pc : Int) + off = (tgt : Int)) (hp : pc + 3 = pc') (hr : -2147483648 ≤ a ∧ a < 2147483648) (kt : a < 0 → X μ tgt L st σ c9 s9 Φ) (kf : 0 ≤ a → X μ pc' L st σ c9 s9 Φ) : X μ pc L (.int (iN a) :: st) σ c9 s9 Φ := by
  subst hp
  intro g p l e R s m args below meth c Q hC hE H locs cells slots ls hR hL hS hc hs
  have hlem := iN_lt ⟨hr.1, hr.2⟩ (by constructor <;> decide : inR 0)
  rw [iN_0] at hlem
  exact lv_if_lt hC.1 hC.2.1 hd ht (fun h => kt (hlem.mp h) g p l e R s m args below meth c Q hC hE H locs cells slots ls hR hL hS hc hs) (fun h => kf (Int.not_lt.mp fun q => h (hlem.mpr q)) g p l e R s m args below meth c Q hC hE H locs cells slots ls hR hL hS hc hs)

theorem X_icmp_ge {a b : Int} {off : Int} (hd : decode (xB μ) pc = .ok (.if_icmp .ge off, 3)) (ht : (pc : Int) + off = (tgt : Int)) (hp : pc + 3 = pc') (hr : -2147483648 ≤ a ∧ a < 2147483648 ∧ -2147483648 ≤ b ∧ b < 2147483648) (kt : b ≤ a → X μ tgt L st σ c9 s9 Φ) (kf : a < b → X μ pc' L st σ c9 s9 Φ) : X μ pc L (.int (iN b) :: .int (iN a) :: st) σ c9 s9 Φ := by
  subst hp
  intro g p l e R s m args below meth c Q hC hE H locs cells slots ls hR hL hS hc hs
  have hlem := iN_le ⟨hr.2.2.1, hr.2.2.2⟩ ⟨hr.1, hr.2.1⟩
  exact lv_icmp_ge hC.1 hC.2.1 hd ht (fun h => kt (hlem.mp h) g p l e R s m args below meth c Q hC hE H locs cells slots ls hR hL hS hc hs) (fun h => kf (Int.not_le.mp fun q => h (hlem.mpr q)) g p l e R s m args below meth c Q hC hE H locs cells slots ls hR hL hS hc hs)

theorem X_if_ge {a : Int} {off : Int} (hd : decode (xB μ) pc = .ok (.ifCond .ge off, 3)) (ht : (pc : Int) + off = (tgt : Int)) (hp : pc + 3 = pc') (hr : -2147483648 ≤ a ∧ a < 2147483648) (kt : 0 ≤ a → X μ tgt L st σ c9 s9 Φ) (kf : a < 0 → X μ pc' L st σ c9 s9 Φ) : X μ pc L (.int (iN a) :: st) σ c9 s9 Φ := by
  subst hp
  intro g p l e R s m args below meth c Q hC hE H locs cells slots ls hR hL hS hc hs
  have hlem := iN_le (by constructor <;> decide : inR 0) ⟨hr.1, hr.2⟩
  rw [iN_0] at hlem
  exact lv_if_ge hC.1 hC.2.1 hd ht (fun h => kt (hlem.mp h) g p l e R s m args below meth c Q hC hE H locs cells slots ls hR hL hS hc hs) (fun h => kf (Int.not_le.mp fun q => h (hlem.mpr q)) g p l e R s m args below meth c Q hC hE H locs cells slots ls hR hL hS hc hs)

theorem X_icmp_gt {a b : Int} {off : Int} (hd : decode (xB μ) pc = .ok (.if_icmp .gt off, 3)) (ht : (pc : Int) + off = (tgt : Int)) (hp : pc + 3 = pc') (hr : -2147483648 ≤ a ∧ a < 2147483648 ∧ -2147483648 ≤ b ∧ b < 2147483648) (kt : b < a → X μ tgt L st σ c9 s9 Φ) (kf : a ≤ b → X μ pc' L st σ c9 s9 Φ) : X μ pc L (.int (iN b) :: .int (iN a) :: st) σ c9 s9 Φ := by
  subst hp
  intro g p l e R s m args below meth c Q hC hE H locs cells slots ls hR hL hS hc hs
  have hlem := iN_lt ⟨hr.2.2.1, hr.2.2.2⟩ ⟨hr.1, hr.2.1⟩
  exact lv_icmp_gt hC.1 hC.2.1 hd ht (fun h => kt (hlem.mp h) g p l e R s m args below meth c Q hC hE H locs cells slots ls hR hL hS hc hs) (fun h => kf (Int.not_lt.mp fun q => h (hlem.mpr q)) g p l e R s m args below meth c Q hC hE H locs cells slots ls hR hL hS hc hs)

theorem X_if_gt {a : Int} {off : Int} (hd : decode (xB μ) pc = .ok (.ifCond .gt off, 3)) (ht : (pc : Int) + off = (tgt : Int)) (hp : pc + 3 = pc') (hr : -2147483648 ≤ a ∧ a < 2147483648) (kt : 0 < a → X μ tgt L st σ c9 s9 Φ) (kf : a ≤ 0 → X μ pc' L st σ c9 s9 Φ) : X μ pc L (.int (iN a) :: st) σ c9 s9 Φ := by
  subst hp
  intro g p l e R s m args below meth c Q hC hE H locs cells slots ls hR hL hS hc hs
  have hlem := iN_lt (by constructor <;> decide : inR 0) ⟨hr.1, hr.2⟩
  rw [iN_0] at hlem
  exact lv_if_gt hC.1 hC.2.1 hd ht (fun h => kt (hlem.mp h) g p l e R s m args below meth c Q hC hE H locs cells slots ls hR hL hS hc hs) (fun h => kf (Int.not_lt.mp fun q => h (hlem.mpr q)) g p l e R s m args below meth c Q hC hE H locs cells slots ls hR hL hS hc hs)

theorem X_icmp_le {a b : Int} {off : Int} (hd : decode (xB μ) pc = .ok (.if_icmp .le off, 3)) (ht : (pc : Int) + off = (tgt : Int)) (hp : pc + 3 = pc') (hr : -2147483648 ≤ a ∧ a < 2147483648 ∧ -2147483648 ≤ b ∧ b < 2147483648) (kt : a ≤ b → X μ tgt L st σ c9 s9 Φ) (kf : b < a → X μ pc' L st σ c9 s9 Φ) : X μ pc L (.int (iN b) :: .int (iN a) :: st) σ c9 s9 Φ := by
  subst hp
  intro g p l e R s m args below meth c Q hC hE H locs cells slots ls hR hL hS hc hs
  have hlem := iN_le ⟨hr.1, hr.2.1⟩ ⟨hr.2.2.1, hr.2.2.2⟩
  exact lv_icmp_le hC.1 hC.2.1 hd ht (fun h => kt (hlem.mp h) g p l e R s m args below meth c Q hC hE H locs cells slots ls hR hL hS hc hs) (fun h => kf (Int.not_le.mp fun q => h (hlem.mpr q)) g p l e R s m args below meth c Q hC hE H locs cells slots ls hR hL hS hc hs)

theorem X_if_le {a : Int} {off : Int} (hd : decode (xB μ) pc = .ok (.ifCond .le off, 3)) (ht : (pc : Int) + off = (tgt : Int)) (hp : pc + 3 = pc') (hr : -2147483648 ≤ a ∧ a < 2147483648) (kt : a ≤ 0 → X μ tgt L st σ c9 s9 Φ) (kf : 0 < a → X μ pc' L st σ c9 s9 Φ) : X μ pc L (.int (iN a) :: st) σ c9 s9 Φ := by
  subst hp
  intro g p l e R s m args below meth c Q hC hE H locs cells slots ls hR hL hS hc hs
  have hlem := iN_le ⟨hr.1, hr.2⟩ (by constructor <;> decide : inR 0)
  rw [iN_0] at hlem
  exact lv_if_le hC.1 hC.2.1 hd ht (fun h => kt (hlem.mp h) g p l e R s m args below meth c Q hC hE H locs cells slots ls hR hL hS hc hs) (fun h => kf (Int.not_le.mp fun q => h (hlem.mpr q)) g p l e R s m args below meth c Q hC hE H locs cells slots ls hR hL hS hc hs)

theorem X_goto {off : Int} (hd : decode (xB μ) pc = .ok (.goto off, 3)) (ht : (pc : Int) + off = (tgt : Int)) (k : X μ tgt L st σ c9 s9 Φ) : X μ pc L st σ c9 s9 Φ := by
  intro g p l e R s m args below meth c Q hC hE H locs cells slots ls hR hL hS hc hs
  exact lv_goto hC.1 hC.2.1 hd ht (k g p l e R s m args below meth c Q hC hE H locs cells slots ls hR hL hS hc hs)
theorem X_ifnull {x : Nat} {off : Int} (hd : decode (xB μ) pc = .ok (.ifnull off, 3)) (hp : pc + 3 = pc') (hx : x < 1000000) (k : X μ pc' L st σ c9 s9 Φ) : X μ pc L (.ref x :: st) σ c9 s9 Φ := by
  subst hp
  intro g p l e R s m args below meth c Q hC hE H locs cells slots ls hR hL hS hc hs
  rw [List.map_cons, xv_ref g hx]
  exact lv_ifnull hC.1 hC.2.1 hd (k g p l e R s m args below meth c Q hC hE H locs cells slots ls hR hL hS hc hs)
theorem X_tableIn {dflt lo hi : Int} {offs : Array Int} {len : Nat} {a off : Int} (hd : decode (xB μ) pc = .ok (.tableswitch dflt lo hi offs, len)) (hr : -2147483648 ≤ a ∧ a < 2147483648) (h1 : lo ≤ a) (h2 : a ≤ hi) (ho : offs[(a - lo).toNat]? = some off) (ht : (pc : Int) + off = (tgt : Int)) (k : X μ tgt L st σ c9 s9 Φ) : X μ pc L (.int (iN a) :: st) σ c9 s9 Φ := by
  intro g p l e R s m args below meth c Q hC hE H locs cells slots ls hR hL hS hc hs
  exact lv_tableIn hC.1 hC.2.1 hd (by rw [iN_toInt hr]; omega) (by rw [iN_toInt hr]; omega) (by rw [iN_toInt hr]; exact ho) ht (k g p l e R s m args below meth c Q hC hE H locs cells slots ls hR hL hS hc hs)
theorem X_tableOut {dflt lo hi : Int} {offs : Array Int} {len : Nat} {a : Int} (hd : decode (xB μ) pc = .ok (.tableswitch dflt lo hi offs, len)) (hr : -2147483648 ≤ a ∧ a < 2147483648) (h1 : a < lo ∨ hi < a) (ht : (pc : Int) + dflt = (tgt : Int)) (k : X μ tgt L st σ c9 s9 Φ) : X μ pc L (.int (iN a) :: st) σ c9 s9 Φ := by
  intro g p l e R s m args below meth c Q hC hE H locs cells slots ls hR hL hS hc hs
  exact lv_tableOut hC.1 hC.2.1 hd (by rw [iN_toInt hr]; exact h1) ht (k g p l e R s m args below meth c Q hC hE H locs cells slots ls hR hL hS hc hs)
theorem X_lookup {dflt : Int} {ps : Array (Int × Int)} {len : Nat} {a off : Int} (hd : decode (xB μ) pc = .ok (.lookupswitch dflt ps, len)) (hr : -2147483648 ≤ a ∧ a < 2147483648) (hp : (ps.toList.zip (ps.toList.drop 1)).all (fun (a, next) => a.1 < next.1) = true) (ho : Op.lookupswitch.offset ps.toList dflt a = off) (ht : (pc : Int) + off = (tgt : Int)) (k : X μ tgt L st σ c9 s9 Φ) : X μ pc L (.int (iN a) :: st) σ c9 s9 Φ := by
  intro g p l e R s m args below meth c Q hC hE H locs cells slots ls hR hL hS hc hs
  exact lv_lookup hC.1 hC.2.1 hd hp (by rw [iN_toInt hr]; exact ho) ht (k g p l e R s m args below meth c Q hC hE H locs cells slots ls hR hL hS hc hs)
theorem X_ret {v : Option Value} (hst : v.toList = st) (h : xRet μ pc v) (k : Φ (.inl v) σ) : X μ pc L st σ c9 s9 Φ := by
  subst hst
  intro g p l e R s m args below meth c Q hC hE H locs cells slots ls hR hL hS hc hs
  exact hE.1 v σ H locs cells slots ls pc k hR hS (by omega) (by omega) h
theorem X_iret {x : Int32} (hd : decode (xB μ) pc = .ok (.ireturn, 1)) (hr : xR μ = some .int) (k : Φ (.inl (some (.int x))) σ) : X μ pc L [.int x] σ c9 s9 Φ := X_ret (v := some (.int x)) rfl ⟨⟨_, hr, rfl⟩, hd⟩ k
theorem X_zret {x : Int} (hd : decode (xB μ) pc = .ok (.ireturn, 1)) (hr : xR μ = some .boolean) (hx : x = 0 ∨ x = 1) (k : Φ (.inl (some (.int (iN x)))) σ) : X μ pc L [.int (iN x)] σ c9 s9 Φ := X_ret (v := some (.int (iN x))) rfl ⟨⟨_, hr, by rcases hx with rfl | rfl <;> rfl⟩, hd⟩ k
theorem X_vret (hd : decode (xB μ) pc = .ok (.return_, 1)) (hr : xR μ = none) (k : Φ (.inl none) σ) : X μ pc L [] σ c9 s9 Φ := X_ret (v := none) rfl ⟨hr, hd⟩ k
theorem X_dret {x : UInt64} (hd : decode (xB μ) pc = .ok (.dreturn, 1)) (hr : xR μ = some .double) (k : Φ (.inl (some (.double x))) σ) : X μ pc L [.double x] σ c9 s9 Φ := X_ret (v := some (.double x)) rfl ⟨hr, hd⟩ k
theorem X_aret {x : Nat} {C : String} (hd : decode (xB μ) pc = .ok (.areturn, 1)) (hr : xR μ = some (.object C)) (k : Φ (.inl (some (.ref x))) σ) : X μ pc L [.ref x] σ c9 s9 Φ := X_ret (v := some (.ref x)) rfl ⟨⟨_, hr, Or.inl ⟨_, rfl⟩⟩, hd⟩ k

end XR

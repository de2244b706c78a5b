/-! arrays, static rows, longs, texts -/
def lI (z : Int) : Int64 := Int64.ofInt z
abbrev inL (z : Int) : Prop := -9223372036854775808 ≤ z ∧ z < 9223372036854775808
theorem lI_add (a b : Int) : lI a + lI b = lI (a + b) := (Int64.ofInt_add a b).symm
theorem lI_mul (a b : Int) : lI a * lI b = lI (a * b) := (Int64.ofInt_mul a b).symm
theorem lI_toInt {a : Int} (h : inL a) : (lI a).toInt = a := Int64.toInt_ofInt_of_le h.1 h.2
theorem lI_eq {a b : Int} (ha : inL a) (hb : inL b) : lI a = lI b ↔ a = b := ⟨fun h => by rw [← lI_toInt ha, ← lI_toInt hb, h], fun h => by rw [h]⟩
theorem lI_lt {a b : Int} (ha : inL a) (hb : inL b) : lI a < lI b ↔ a < b := by rw [Int64.lt_iff_toInt_lt, lI_toInt ha, lI_toInt hb]
theorem lI_i2l {a : Int} (h : inR a) : (iN a).toInt64 = lI a := by
  apply Int64.toInt_inj.mp
  rw [Int32.toInt_toInt64, iN_toInt h, lI_toInt ⟨by omega, by omega⟩]
theorem lI_l2i {a : Int} : (lI a).toInt32 = iN a := by
  apply Int32.toInt_inj.mp
  rw [lI, iN, Int64.toInt32_ofInt]
def zcmp (a b : Int) : Int := if b < a then 1 else if a = b then 0 else -1
theorem lI_cmp {a b : Int} (ha : inL a) (hb : inL b) : lg_cmp (lI a) (lI b) = iN (zcmp a b) := by
  unfold lg_cmp zcmp
  simp only [lI_lt hb ha, lI_eq ha hb]
  split
  · rfl
  · split <;> rfl
/-- an index in its row -/
theorem vp_in_iN {j : Int} {n : Nat} (h : 0 ≤ j ∧ j < n) (hn : n < 2147483648) : vp_in (iN j) n := by
  rw [vp_in_iff, iN_toInt ⟨by omega, by omega⟩]
  exact h
theorem clamp_iN {j : Int} (h : 0 ≤ j ∧ j < 2147483648) : (iN j).toNatClampNeg = j.toNat := by
  show (iN j).toInt.toNat = j.toNat
  rw [iN_toInt ⟨by omega, by omega⟩]
section XAr
variable {μ : xM} {pc pc' tgt : Nat} {L L' : List (Option Value)} {st : List Value} {σ : xS} {c9 s9 : Nat} {Φ : xRes → xS → Prop}
theorem xarr {g : xG} {σ : xS} {H : Heap} (hR : xRep g σ H) {a t n : Nat} (ha : a < σ.1) (hs : σ.2.1 a = (t, n)) (ht : 20 ≤ t) : t < 24 ∧ H[gB g + a]? = some (arrV (gA g t) n (fun j => xv g (σ.2.2 a j))) := by
  rcases hR.2.2.1 a ha with h0 | ⟨-, h, -⟩ | ⟨-, h, h2⟩
  · rw [hs] at h0; simp only at h0; omega
  · rw [hs] at h; simp only at h; omega
  · rw [hs] at h h2
    exact ⟨h, h2⟩

theorem X_iaload {a n : Nat} {j : Int} {v : Value} (hd : decode (xB μ) pc = .ok (.iaload, 1)) (hp : pc + 1 = pc') (ha : a < σ.1) (hs : σ.2.1 a = (20, n)) (hn : n < 2147483648) (hj : 0 ≤ j ∧ j < n) (hv : σ.2.2 a j.toNat = v) (k9 : X μ pc' L (v :: st) σ c9 s9 Φ) : X μ pc L (.int (iN j) :: .ref a :: st) σ c9 s9 Φ := by
  subst hv
  subst hp
  intro g p l e R s m args below meth cd Q hC hE H locs cells slots ls hR hL hS hc hs9
  have ha' : a < 1000000 := Nat.lt_of_lt_of_le ha hR.2.1
  obtain ⟨-, hcell⟩ := xarr hR ha hs (by omega)
  rw [List.map_cons, List.map_cons, xv_ref g ha']
  have hcl := clamp_iN (j := j) ⟨hj.1, by omega⟩
  exact W.iald hC.1 hC.2.1 hcell ((hC.2.2.2.2.2.2.2.2.2.2.2.2.2.1 20 (by omega) (by omega)).1 n _) (fun h => by cases h) (by rw [arrV_size]; exact vp_in_iN hj hn) (v := xv g (σ.2.2 a j.toNat)) (by rw [hcl]; exact arrV_read _ _ (by omega)) rfl rfl hd (k9 g p l e R s m args below meth cd Q hC hE H locs cells slots ls hR hL hS hc hs9)

theorem X_aaload {a n : Nat} {j : Int} {v : Value} (hd : decode (xB μ) pc = .ok (.aaload, 1)) (hp : pc + 1 = pc') (ha : a < σ.1) (hs : σ.2.1 a = (23, n)) (hn : n < 2147483648) (hj : 0 ≤ j ∧ j < n) (hv : σ.2.2 a j.toNat = v) (k9 : X μ pc' L (v :: st) σ c9 s9 Φ) : X μ pc L (.int (iN j) :: .ref a :: st) σ c9 s9 Φ := by
  subst hv
  subst hp
  intro g p l e R s m args below meth cd Q hC hE H locs cells slots ls hR hL hS hc hs9
  have ha' : a < 1000000 := Nat.lt_of_lt_of_le ha hR.2.1
  obtain ⟨-, hcell⟩ := xarr hR ha hs (by omega)
  rw [List.map_cons, List.map_cons, xv_ref g ha']
  have hcl := clamp_iN (j := j) ⟨hj.1, by omega⟩
  exact W.aald hC.1 hC.2.1 hcell ((hC.2.2.2.2.2.2.2.2.2.2.2.2.2.1 23 (by omega) (by omega)).1 n _) rfl (fun h => by cases h) (by rw [arrV_size]; exact vp_in_iN hj hn) (v := xv g (σ.2.2 a j.toNat)) (by rw [hcl]; exact arrV_read _ _ (by omega)) rfl rfl hd (k9 g p l e R s m args below meth cd Q hC hE H locs cells slots ls hR hL hS hc hs9)

theorem X_iastore {a n : Nat} {j : Int} {x : Int32} (hd : decode (xB μ) pc = .ok (.iastore, 1)) (hp : pc + 1 = pc') (ha : a < σ.1) (hs : σ.2.1 a = (20, n)) (hn : n < 2147483648) (hj : 0 ≤ j ∧ j < n) (k9 : X μ pc' L st (xset σ a j.toNat (.int x)) c9 s9 Φ) : X μ pc L (.int x :: .int (iN j) :: .ref a :: st) σ c9 s9 Φ := by
  subst hp
  intro g p l e R s m args below meth cd Q hC hE H locs cells slots ls hR hL hS hc hs9
  have ha' : a < 1000000 := Nat.lt_of_lt_of_le ha hR.2.1
  obtain ⟨ht, hcell⟩ := xarr hR ha hs (by omega)
  rw [List.map_cons, List.map_cons, List.map_cons, xv_ref g ha']
  have hcl := clamp_iN (j := j) ⟨hj.1, by omega⟩
  refine W.iast hC.1 hC.2.1 hcell ((hC.2.2.2.2.2.2.2.2.2.2.2.2.2.1 20 (by omega) (by omega)).1 n _) (fun h => by cases h) (by rw [arrV_size]; exact vp_in_iN hj hn) rfl rfl hd (fun H' e1 e2 e3 => k9 g p l e R s m args below meth cd Q hC hE H' _ cells slots ls (xRep_set hR ha e2 e3 (Or.inr (Or.inr ⟨by rw [hs]; show 20 ≤ 20; omega, by rw [hs]; exact ht, ?_⟩))) hL (xS_put hS e2 e3) hc hs9)
  rw [e1, hcl, hs, arrV_store]
  congr 2
  funext i
  simp only [updV]
  split <;> rfl

theorem X_alen {a n t : Nat} (hd : decode (xB μ) pc = .ok (.arraylength, 1)) (hp : pc + 1 = pc') (ha : a < σ.1) (hs : σ.2.1 a = (t, n)) (ht : 20 ≤ t) (k9 : X μ pc' L (.int (iN (n : Int)) :: st) σ c9 s9 Φ) : X μ pc L (.ref a :: st) σ c9 s9 Φ := by
  subst hp
  intro g p l e R s m args below meth cd Q hC hE H locs cells slots ls hR hL hS hc hs9
  have ha' : a < 1000000 := Nat.lt_of_lt_of_le ha hR.2.1
  obtain ⟨ht', hcell⟩ := xarr hR ha hs ht
  rw [List.map_cons, xv_ref g ha']
  exact W.alen hC.1 hC.2.1 hcell ((hC.2.2.2.2.2.2.2.2.2.2.2.2.2.1 t ht ht').1 n _) (by rw [arrV_size]; rfl) rfl rfl hd (k9 g p l e R s m args below meth cd Q hC hE H locs cells slots ls hR hL hS hc hs9)
/-- a row that was there before -/
theorem X_ialoadS {a n : Nat} {j : Int} {v : Value} (hd : decode (xB μ) pc = .ok (.iaload, 1)) (hp : pc + 1 = pc') (ha : 1000000 ≤ a) (hs : σ.2.1 a = (30, n)) (hn : n < 2147483648) (hj : 0 ≤ j ∧ j < n) (hv : σ.2.2 a j.toNat = v) (k9 : X μ pc' L (v :: st) σ c9 s9 Φ) : X μ pc L (.int (iN j) :: .ref a :: st) σ c9 s9 Φ := by
  subst hv
  subst hp
  intro g p l e R s m args below meth cd Q hC hE H locs cells slots ls hR hL hS hc hs9
  obtain ⟨z1, z2⟩ := hR.2.2.2 a ha
  rw [z1] at hs
  obtain ⟨t, he, hT⟩ := hC.2.2.2.2.2.2.2.2.2.2.2.2.2.2.1 a n ha hs
  rw [List.map_cons, List.map_cons, xv_stat g ha, he]
  have hcl := clamp_iN (j := j) ⟨hj.1, by omega⟩
  exact va_ti hC.1 hC.2.1 hT hS (vp_in_iN hj hn) (by rw [hcl, z2]) hd (k9 g p l e R s m args below meth cd Q hC hE H locs cells slots ls hR hL hS hc hs9)
theorem X_baloadS {a n : Nat} {j : Int} {v : Value} (hd : decode (xB μ) pc = .ok (.baload, 1)) (hp : pc + 1 = pc') (ha : 1000000 ≤ a) (hs : σ.2.1 a = (32, n)) (hn : n < 2147483648) (hj : 0 ≤ j ∧ j < n) (hv : σ.2.2 a j.toNat = v) (k9 : X μ pc' L (v :: st) σ c9 s9 Φ) : X μ pc L (.int (iN j) :: .ref a :: st) σ c9 s9 Φ := by
  subst hv
  subst hp
  intro g p l e R s m args below meth cd Q hC hE H locs cells slots ls hR hL hS hc hs9
  obtain ⟨z1, z2⟩ := hR.2.2.2 a ha
  rw [z1] at hs
  obtain ⟨t, he, hT⟩ := hC.2.2.2.2.2.2.2.2.2.2.2.2.2.2.2.1 a n ha hs
  rw [List.map_cons, List.map_cons, xv_stat g ha, he]
  have hcl := clamp_iN (j := j) ⟨hj.1, by omega⟩
  exact va_tb hC.1 hC.2.1 hT hS (vp_in_iN hj hn) (by rw [hcl, z2]) hd (k9 g p l e R s m args below meth cd Q hC hE H locs cells slots ls hR hL hS hc hs9)
theorem X_alenS {a n t : Nat} (hd : decode (xB μ) pc = .ok (.arraylength, 1)) (hp : pc + 1 = pc') (ha : 1000000 ≤ a) (hs : σ.2.1 a = (t, n)) (ht : t = 30 ∨ t = 32) (k9 : X μ pc' L (.int (iN (n : Int)) :: st) σ c9 s9 Φ) : X μ pc L (.ref a :: st) σ c9 s9 Φ := by
  subst hp
  intro g p l e R s m args below meth cd Q hC hE H locs cells slots ls hR hL hS hc hs9
  obtain ⟨z1, z2⟩ := hR.2.2.2 a ha
  rw [z1] at hs
  rw [List.map_cons, xv_stat g ha]
  have k9 := (k9 g p l e R s m args below meth cd Q hC hE H locs cells slots ls hR hL hS hc hs9)
  rcases ht with rfl | rfl
  · obtain ⟨t, he, hT⟩ := hC.2.2.2.2.2.2.2.2.2.2.2.2.2.2.1 a n ha hs
    rw [he]
    exact va_tlen hC.1 hC.2.1 hT hS rfl hd k9
  · obtain ⟨t, he, hT⟩ := hC.2.2.2.2.2.2.2.2.2.2.2.2.2.2.2.1 a n ha hs
    rw [he]
    exact va_tlen hC.1 hC.2.1 hT hS rfl hd k9
/-- a String constant's fields: value 0, coder 1 -/
theorem X_getfS {idx k a n : Nat} {v : Value} (hd : decode (xB μ) pc = .ok (.getfield idx, 3)) (hp : pc + 3 = pc') (hf : (k = 0 ∧ Cond.fieldLink (xY μ).cls idx "java/lang/String" "value" "[B" ∈ lw_tbl) ∨ (k = 1 ∧ Cond.fieldLink (xY μ).cls idx "java/lang/String" "coder" "B" ∈ lw_tbl)) (ha : 1000000 ≤ a) (hs : σ.2.1 a = (31, n)) (hv : σ.2.2 a k = v) (k9 : X μ pc' L (v :: st) σ c9 s9 Φ) : X μ pc L (.ref a :: st) σ c9 s9 Φ := by
  subst hv
  subst hp
  intro g p l e R s m args below meth cd Q hC hE H locs cells slots ls hR hL hS hc hs9
  obtain ⟨z1, z2⟩ := hR.2.2.2 a ha
  rw [z1] at hs
  obtain ⟨t, he, -, h1, h2⟩ := hC.2.2.2.2.2.2.2.2.2.2.2.2.2.2.2.2.1 a n ha hs
  have k9 := (k9 g p l e R s m args below meth cd Q hC hE H locs cells slots ls hR hL hS hc hs9)
  rw [List.map_cons, xv_stat g ha, he]
  rw [z2] at k9
  rcases hf with ⟨rfl, hf⟩ | ⟨rfl, hf⟩
  · exact vk_getf hC.1 hC.2.1 h1 hS hC.2.2.2.2.2.1 (hC.2.2.2.2.2.2.2.1 _ (xWS_in hf rfl)) (fun x h => h) hd k9
  · exact vk_getf hC.1 hC.2.1 h2 hS hC.2.2.2.2.2.1 (hC.2.2.2.2.2.2.2.1 _ (xWS_in hf rfl)) (fun x h => h) hd k9
theorem X_gets {idx : Nat} {q : String × String × String × Value} (hd : decode (xB μ) pc = .ok (.getstatic idx, 3)) (hp : pc + 3 = pc') (hq : q ∈ xstat) (hf : Cond.fieldLink (xY μ).cls idx q.1 q.2.1 q.2.2.1 ∈ lw_tbl) (k9 : X μ pc' L (q.2.2.2 :: st) σ c9 s9 Φ) : X μ pc L st σ c9 s9 Φ := by
  subst hp
  intro g p l e R s m args below meth cd Q hC hE H locs cells slots ls hR hL hS hc hs9
  exact va_gets hC.1 hC.2.1 (hC.2.2.2.2.2.2.2.2.2.2.2.2.2.2.2.2.2.1 q hq) hS hC.2.2.2.2.2.1 (hC.2.2.2.2.2.2.2.1 _ (xWS_in hf rfl)) (fun x h => h) hd (k9 g p l e R s m args below meth cd Q hC hE H locs cells slots ls hR hL hS hc hs9)
theorem X_ldcS {idx a : Nat} {tx : String} (hd : decode (xB μ) pc = .ok (.ldc idx, 2)) (hp : pc + 2 = pc') (hq : ((xY μ).cls, idx, tx, a) ∈ xstr) (ha : 1000000 ≤ a) (k9 : X μ pc' L (.ref a :: st) σ c9 s9 Φ) : X μ pc L st σ c9 s9 Φ := by
  subst hp
  intro g p l e R s m args below meth cd Q hC hE H locs cells slots ls hR hL hS hc hs9
  obtain ⟨t, he, hZ⟩ := hC.2.2.2.2.2.2.2.2.2.2.2.2.2.2.2.2.2.2.1 _ hq
  have k9 := (k9 g p l e R s m args below meth cd Q hC hE H locs cells slots ls hR hL hS hc hs9)
  rw [List.map_cons, xv_stat g ha] at k9
  rw [show gV g a = .ref t from he] at k9
  exact va_ldcS hC.1 hC.2.1 hC.2.2.2.2.2.1 hZ hd k9
theorem X_ldcw {idx : Nat} {v : Int32} {n : Int} (hd : decode (xB μ) pc = .ok (.ldc_w idx, 3)) (hp : pc + 3 = pc') (hq : Cond.constant (xY μ).cls idx v ∈ lw_tbl) (hv : v = iN n) (k9 : X μ pc' L (.int (iN n) :: st) σ c9 s9 Φ) : X μ pc L st σ c9 s9 Φ := by
  subst hv
  subst hp
  intro g p l e R s m args below meth cd Q hC hE H locs cells slots ls hR hL hS hc hs9
  exact lv_ldcw hC.1 hC.2.1 hC.2.2.2.2.2.1 (hC.2.2.2.2.2.2.2.1 _ (xWS_in hq rfl)) hd (k9 g p l e R s m args below meth cd Q hC hE H locs cells slots ls hR hL hS hc hs9)
theorem X_ldc2 {idx : Nat} {v : Int64} {n : Int} (hd : decode (xB μ) pc = .ok (.ldc2_w idx, 3)) (hp : pc + 3 = pc') (hq : Cond.constantLong (xY μ).cls idx v ∈ lw_tbl) (hv : v = lI n) (k9 : X μ pc' L (.long (lI n) :: st) σ c9 s9 Φ) : X μ pc L st σ c9 s9 Φ := by
  subst hv
  subst hp
  intro g p l e R s m args below meth cd Q hC hE H locs cells slots ls hR hL hS hc hs9
  exact lv_ldc2 hC.1 hC.2.1 hC.2.2.2.2.2.1 (hC.2.2.2.2.2.2.2.1 _ (xWS_in hq rfl)) hd (k9 g p l e R s m args below meth cd Q hC hE H locs cells slots ls hR hL hS hc hs9)
theorem X_lI_i2l {a : Int} (hd : decode (xB μ) pc = .ok (.i2l, 1)) (hp : pc + 1 = pc') (hr : -2147483648 ≤ a ∧ a < 2147483648) (k9 : X μ pc' L (.long (lI a) :: st) σ c9 s9 Φ) : X μ pc L (.int (iN a) :: st) σ c9 s9 Φ := X_i2l hd hp (by rw [lI_i2l hr]; exact k9)
theorem X_lI_l2i {a : Int} (hd : decode (xB μ) pc = .ok (.l2i, 1)) (hp : pc + 1 = pc') (k9 : X μ pc' L (.int (iN a) :: st) σ c9 s9 Φ) : X μ pc L (.long (lI a) :: st) σ c9 s9 Φ := X_l2i hd hp (by rw [lI_l2i]; exact k9)
theorem X_lI_add {a b : Int} (hd : decode (xB μ) pc = .ok (.ladd, 1)) (hp : pc + 1 = pc') (k9 : X μ pc' L (.long (lI (a + b)) :: st) σ c9 s9 Φ) : X μ pc L (.long (lI b) :: .long (lI a) :: st) σ c9 s9 Φ := X_ladd hd hp (by rw [lI_add]; exact k9)
theorem X_lI_mul {a b : Int} (hd : decode (xB μ) pc = .ok (.lmul, 1)) (hp : pc + 1 = pc') (k9 : X μ pc' L (.long (lI (a * b)) :: st) σ c9 s9 Φ) : X μ pc L (.long (lI b) :: .long (lI a) :: st) σ c9 s9 Φ := X_lmul hd hp (by rw [lI_mul]; exact k9)
theorem X_lI_const {n : Fin 2} {a : Int} (hd : decode (xB μ) pc = .ok (.lconst n, 1)) (hp : pc + 1 = pc') (hv : Int64.ofNat (n : Nat) = lI a) (k9 : X μ pc' L (.long (lI a) :: st) σ c9 s9 Φ) : X μ pc L st σ c9 s9 Φ := X_lconst hd hp (by rw [hv]; exact k9)
theorem X_lcmp {a b : Int} (hd : decode (xB μ) pc = .ok (.lcmp, 1)) (hp : pc + 1 = pc') (hr : -9223372036854775808 ≤ a ∧ a < 9223372036854775808 ∧ -9223372036854775808 ≤ b ∧ b < 9223372036854775808) (k9 : X μ pc' L (.int (iN (zcmp a b)) :: st) σ c9 s9 Φ) : X μ pc L (.long (lI b) :: .long (lI a) :: st) σ c9 s9 Φ := by
  subst hp
  intro g p l e R s m args below meth cd Q hC hE H locs cells slots ls hR hL hS hc hs9
  refine W.lcmp hC.1 hC.2.1 hd ?_
  rw [lI_cmp ⟨hr.1, hr.2.1⟩ ⟨hr.2.2.1, hr.2.2.2⟩]
  exact (k9 g p l e R s m args below meth cd Q hC hE H locs cells slots ls hR hL hS hc hs9)
theorem X_dcmp {x y : UInt64} {op : CmpOp} (hd : decode (xB μ) pc = .ok (.dcmp op, 1)) (hp : pc + 1 = pc') (k9 : X μ pc' L (.int (Op.cmpValue (FP.dcmp x y) op) :: st) σ c9 s9 Φ) : X μ pc L (.double y :: .double x :: st) σ c9 s9 Φ := by
  subst hp
  intro g p l e R s m args below meth cd Q hC hE H locs cells slots ls hR hL hS hc hs9
  exact lv_dcmp hC.1 hC.2.1 hd (k9 g p l e R s m args below meth cd Q hC hE H locs cells slots ls hR hL hS hc hs9)

theorem X_newarr_int {j : Int} {n c8 s8 : Nat} (hd : decode (xB μ) pc = .ok (.newarray .int, 2)) (hp : pc + 2 = pc') (h1 : Cond.arrayClass (newarray.typeOf .int) ∈ lw_tbl) (hj : 0 ≤ j ∧ j = n ∧ n ≤ 1000000) (hN : σ.1 < 1000000) (hc9 : c9 = c8 + 1) (hs9 : s9 = s8 + n) (k9 : X μ pc' L (.ref σ.1 :: st) (xnew σ 20 n (fun _ => .int 0)) c8 s8 Φ) : X μ pc L (.int (iN j) :: st) σ c9 s9 Φ := by
  subst hc9
  subst hs9
  subst hp
  intro g p l e R s m args below meth cd Q hC hE H locs cells slots ls hR hL hS hc hs9
  have k9 := fun H hR hS => k9 g p l e R s m args below meth cd Q hC hE H locs (cells + 1) (slots + n) ls hR hL hS (by omega) (by omega)
  have hRA := (hC.2.2.2.2.2.2.2.2.2.2.2.2.2.1 20 (by omega) (by omega)).2
  rw [List.map_cons, xv_ref g hN] at k9
  refine va_newaK hC.1 hC.2.1 (atype := .int) (hC.2.2.2.2.2.2.2.1 _ (xWS_in h1 rfl)) rfl hd rfl ?_ (N := n) ?_ ?_ (by omega) (by omega) hR.1 fun H1 cA e1 z1 o1 hAr hNm => ?_
  · intro q
    have := (iN_lt ⟨by omega, by omega⟩ (by constructor <;> decide : inR 0)).mp (show iN j < iN 0 from q)
    omega
  · rw [clamp_iN ⟨by omega, by omega⟩]; omega
  · show n * _ ≤ _
    have : n * 8 ≤ 8000000 := by omega
    first | (show n * 4 ≤ 536870912; omega) | (show n * 8 ≤ 536870912; omega)
  · have hcA : cA = gA g 20 := Option.some.inj (hNm.symm.trans hRA)
    rw [hcA] at e1
    rw [← hR.1] at o1 z1
    exact k9 H1 (xRep_new hR hN z1 o1 (Or.inr (Or.inr ⟨by show 20 ≤ 20; omega, by show 20 < 24; omega, e1⟩))) (xS_new hS z1 o1)

theorem X_anewarr {idx : Nat} {j : Int} {n c8 s8 : Nat} (hd : decode (xB μ) pc = .ok (.anewarray idx, 3)) (hp : pc + 3 = pc') (h1 : Cond.classLink (xY μ).cls idx RX1 ∈ lw_tbl) (hj : 0 ≤ j ∧ j = n ∧ n ≤ 1000000) (hN : σ.1 < 1000000) (hc9 : c9 = c8 + 1) (hs9 : s9 = s8 + n) (k9 : X μ pc' L (.ref σ.1 :: st) (xnew σ 23 n (fun _ => .null)) c8 s8 Φ) : X μ pc L (.int (iN j) :: st) σ c9 s9 Φ := by
  subst hc9
  subst hs9
  subst hp
  intro g p l e R s m args below meth cd Q hC hE H locs cells slots ls hR hL hS hc hs9
  have k9 := fun H hR hS => k9 g p l e R s m args below meth cd Q hC hE H locs (cells + 1) (slots + n) ls hR hL hS (by omega) (by omega)
  obtain ⟨kA0, comp0, -, -, -, hRA⟩ := (hC.2.2.2.2.2.2.2.2.2.2.2.2.2.1 23 (by omega) (by omega)).2
  rw [List.map_cons, xv_ref g hN] at k9
  have hcl := clamp_iN (j := j) ⟨by omega, by omega⟩
  have hjn : j.toNat = n := by omega
  refine W.anew hC.1 hC.2.1 hC.2.2.2.2.2.1 (hC.2.2.2.2.2.2.2.1 _ (xWS_in h1 rfl)) (va_AO.use hC.2.2.2.2.2.2.2.2.2.2.2.2.2.2.2.2.2.2.2.2.2.2.2.2.1) rfl hd rfl ?_ (by rw [hcl]; omega) (by omega) (by rw [hcl, hjn]; omega) fun cA kA comp e1 e2 e3 e4 => ?_
  · intro q
    have := (iN_lt ⟨by omega, by omega⟩ (by constructor <;> decide : inR 0)).mp (show iN j < iN 0 from q)
    omega
  · have hcA : cA = gA g 23 := Option.some.inj (e1.symm.trans hRA)
    rw [hcl, hjn, hcA, arrV_new, hR.1]
    exact k9 _ (xRep_new hR hN (by simp) (fun q hq => by rw [Array.getElem?_push, if_neg (Nat.ne_of_lt hq)]) (Or.inr (Or.inr ⟨by show 20 ≤ 23; omega, by show 23 < 24; omega, by rw [← hR.1]; simp; rfl⟩))) (xS_new hS (by simp) (fun q hq => by rw [Array.getElem?_push, if_neg (Nat.ne_of_lt hq)]))
theorem X_aastore {a n b : Nat} {j : Int} (hd : decode (xB μ) pc = .ok (.aastore, 1)) (hp : pc + 1 = pc') (ha : a < σ.1) (hs : σ.2.1 a = (23, n)) (hn : n < 2147483648) (hj : 0 ≤ j ∧ j < n) (hb : b < σ.1) (hsb : (σ.2.1 b).1 = 2) (k9 : X μ pc' L st (xset σ a j.toNat (.ref b)) c9 s9 Φ) : X μ pc L (.ref b :: .int (iN j) :: .ref a :: st) σ c9 s9 Φ := by
  subst hp
  intro g p l e R s m args below meth cd Q hC hE H locs cells slots ls hR hL hS hc hs9
  have ha' : a < 1000000 := Nat.lt_of_lt_of_le ha hR.2.1
  have hb' : b < 1000000 := Nat.lt_of_lt_of_le hb hR.2.1
  obtain ⟨ht, hcell⟩ := xarr hR ha hs (by omega)
  obtain ⟨kA0, comp0, r1, r2, r3, hRA⟩ := (hC.2.2.2.2.2.2.2.2.2.2.2.2.2.1 23 (by omega) (by omega)).2
  obtain ⟨hS1, hfc1, kH, hkH, -⟩ := hC.2.2.2.2.2.2.2.2.2.2.2.2.1 1 (RX1, TX1, 11) rfl
  have hce : comp0 = gC g 1 := Option.some.inj (r3.symm.trans hfc1)
  rw [List.map_cons, List.map_cons, List.map_cons, xv_ref g ha', xv_ref g hb']
  have hcl := clamp_iN (j := j) ⟨hj.1, by omega⟩
  rcases hR.2.2.1 b hb with h0 | ⟨-, -, r', hr', hOB, -⟩ | ⟨h20, -, -⟩
  · omega
  · rw [hsb] at hr' hOB
    obtain ⟨cv, q1, q2, q3, -⟩ := hOB
    refine W.aast hC.1 hC.2.1 hcell (fun q h => by cases h) (fun h => by cases h) r1 r2 rfl (by rw [hce]; exact hkH) ⟨?_, by rw [arrV_size, hcl]; omega⟩ q1 (by rw [q3]; exact fun q h => by cases h) (by rw [q2]; exact hkH) (by rw [q2, hce]; exact va_asg _ _) rfl rfl hd (fun H' e1 e2 e3 => k9 g p l e R s m args below meth cd Q hC hE H' _ cells slots ls (xRep_set hR ha e2 e3 (Or.inr (Or.inr ⟨by rw [hs]; show 20 ≤ 23; omega, by rw [hs]; exact ht, ?_⟩))) hL (xS_put hS e2 e3) hc hs9)
    · intro q
      have := (iN_lt ⟨by omega, by omega⟩ (by constructor <;> decide : inR 0)).mp (show iN j < iN 0 from q)
      omega
    · rw [e1, hcl, hs, arrV_store]
      congr 2
      funext i
      simp only [updV]
      split
      · exact (xv_ref g hb').symm
      · rfl
  · omega
theorem X_mmax {idx : Nat} {a b : Int} (hd : decode (xB μ) pc = .ok (.invokestatic idx, 3)) (hp : pc + 3 = pc') (h1 : Cond.methodLink (xY μ).cls idx Lib.Math.max.name ∈ lw_tbl) (h2 : Cond.static Lib.Math.max.name ∈ lw_tbl) (h3 : Cond.initialized "java/lang/Math" ∈ lw_tbl) (h4 : Cond.code Lib.Math.max.name Lib.Math.max.code 2 (some .int) ∈ lw_tbl) (hst : (st.map fun v => v.category).sum ≤ 100) (hr : -2147483648 ≤ a ∧ a < 2147483648 ∧ -2147483648 ≤ b ∧ b < 2147483648) (k9 : X μ pc' L (.int (iN (max a b)) :: st) σ c9 s9 Φ) : X μ pc L (.int (iN b) :: .int (iN a) :: st) σ c9 s9 Φ := by
  subst hp
  intro g p l e R s m args below meth cd Q hC hE H locs cells slots ls hR hL hS hc hs9
  have hg := hC.2.2.2.2.2.2.2.2.2.2.2.2.2.2.2.2.2.2.2.2.2.2.1
  have k9 := (k9 g p l e R s m args below meth cd Q hC hE H locs cells slots ls hR hL hS hc hs9)
  refine va_mmax hC.1 hC.2.1 (by rw [hC.2.2.1, hL.2.1]) hC.2.2.2.2.2.1 (hC.2.2.2.2.2.2.2.1 _ (xWS_in h1 rfl)) (hC.2.2.2.2.2.2.2.1 _ (xWS_in h2 rfl)) (hC.2.2.2.2.2.2.2.1 _ (xWS_in h3 rfl)) (hC.2.2.2.2.2.2.2.1 _ (xWS_in h4 rfl)) (by rw [hC.2.2.2.2.2.2.2.2.2.2.1]; omega) (by rw [hC.2.2.2.2.2.2.2.2.2.2.2.1, xrest g hg]; omega) (by omega) (by omega) hd ?_
  have e : (if iN a < iN b then iN b else iN a) = iN (max a b) := by
    by_cases h : a < b
    · rw [if_pos ((iN_lt ⟨hr.1, hr.2.1⟩ ⟨hr.2.2.1, hr.2.2.2⟩).mpr h), Int.max_eq_right (Int.le_of_lt h)]
    · rw [if_neg (fun q => h ((iN_lt ⟨hr.1, hr.2.1⟩ ⟨hr.2.2.1, hr.2.2.2⟩).mp q)), Int.max_eq_left (Int.not_lt.mp h)]
  rw [e]
  exact k9
theorem X_mmin {idx : Nat} {a b : Int} (hd : decode (xB μ) pc = .ok (.invokestatic idx, 3)) (hp : pc + 3 = pc') (h1 : Cond.methodLink (xY μ).cls idx Lib.Math.min.name ∈ lw_tbl) (h2 : Cond.static Lib.Math.min.name ∈ lw_tbl) (h3 : Cond.initialized "java/lang/Math" ∈ lw_tbl) (h4 : Cond.code Lib.Math.min.name Lib.Math.min.code 2 (some .int) ∈ lw_tbl) (hst : (st.map fun v => v.category).sum ≤ 100) (hr : -2147483648 ≤ a ∧ a < 2147483648 ∧ -2147483648 ≤ b ∧ b < 2147483648) (k9 : X μ pc' L (.int (iN (min a b)) :: st) σ c9 s9 Φ) : X μ pc L (.int (iN b) :: .int (iN a) :: st) σ c9 s9 Φ := by
  subst hp
  intro g p l e R s m args below meth cd Q hC hE H locs cells slots ls hR hL hS hc hs9
  have hg := hC.2.2.2.2.2.2.2.2.2.2.2.2.2.2.2.2.2.2.2.2.2.2.1
  have k9 := (k9 g p l e R s m args below meth cd Q hC hE H locs cells slots ls hR hL hS hc hs9)
  refine va_mmin hC.1 hC.2.1 (by rw [hC.2.2.1, hL.2.1]) hC.2.2.2.2.2.1 (hC.2.2.2.2.2.2.2.1 _ (xWS_in h1 rfl)) (hC.2.2.2.2.2.2.2.1 _ (xWS_in h2 rfl)) (hC.2.2.2.2.2.2.2.1 _ (xWS_in h3 rfl)) (hC.2.2.2.2.2.2.2.1 _ (xWS_in h4 rfl)) (by rw [hC.2.2.2.2.2.2.2.2.2.2.1]; omega) (by rw [hC.2.2.2.2.2.2.2.2.2.2.2.1, xrest g hg]; omega) (by omega) (by omega) hd ?_
  have e : (if iN b < iN a then iN b else iN a) = iN (min a b) := by
    by_cases h : b < a
    · rw [if_pos ((iN_lt ⟨hr.2.2.1, hr.2.2.2⟩ ⟨hr.1, hr.2.1⟩).mpr h), Int.min_eq_right (Int.le_of_lt h)]
    · rw [if_neg (fun q => h ((iN_lt ⟨hr.2.2.1, hr.2.2.2⟩ ⟨hr.1, hr.2.1⟩).mp q)), Int.min_eq_left (Int.not_lt.mp h)]
  rw [e]
  exact k9
/-- System.arraycopy between two int rows -/
theorem X_acopy {idx a0 a1 n0 n1 : Nat} {sp dp n : Int} (hd : decode (xB μ) pc = .ok (.invokestatic idx, 3)) (hp : pc + 3 = pc') (h1 : Cond.methodLink (xY μ).cls idx arraycopyName ∈ lw_tbl) (h2 : Cond.native arraycopyName ∈ lw_tbl) (h3 : Cond.static arraycopyName ∈ lw_tbl) (h4 : Cond.initialized "java/lang/System" ∈ lw_tbl) (hst : (st.map fun v => v.category).sum + (nativeFrameWords "java/lang/System" "arraycopy" 5 + 11) ≤ 200)
    (ha0 : a0 < σ.1) (hs0 : σ.2.1 a0 = (20, n0)) (ha1 : a1 < σ.1) (hs1 : σ.2.1 a1 = (20, n1)) (hn0 : n0 ≤ 1000000) (hn1 : n1 ≤ 1000000) (hr : 0 ≤ sp ∧ 0 ≤ dp ∧ 0 ≤ n ∧ sp + n ≤ n0 ∧ dp + n ≤ n1) (hint : ∀ j : Nat, j < n0 → ∃ x : Int32, σ.2.2 a0 j = .int x)
    (k9 : X μ pc' L st (σ.1, σ.2.1, fun b j => if b = a1 ∧ dp.toNat ≤ j ∧ j < dp.toNat + n.toNat then σ.2.2 a0 (sp.toNat + (j - dp.toNat)) else σ.2.2 b j) c9 s9 Φ) : X μ pc L (.int (iN n) :: .int (iN dp) :: .ref a1 :: .int (iN sp) :: .ref a0 :: st) σ c9 s9 Φ := by
  subst hp
  intro g p l e R s m args below meth cd Q hC hE H locs cells slots ls hR hL hS hc hs9
  have hg := hC.2.2.2.2.2.2.2.2.2.2.2.2.2.2.2.2.2.2.2.2.2.2.1
  have hb0 : a0 < 1000000 := Nat.lt_of_lt_of_le ha0 hR.2.1
  have hb1 : a1 < 1000000 := Nat.lt_of_lt_of_le ha1 hR.2.1
  obtain ⟨-, hc0⟩ := xarr hR ha0 hs0 (by omega)
  obtain ⟨-, hc1⟩ := xarr hR ha1 hs1 (by omega)
  have e1 := clamp_iN (j := sp) ⟨hr.1, by omega⟩
  have e2 := clamp_iN (j := dp) ⟨hr.2.1, by omega⟩
  have e3 := clamp_iN (j := n) ⟨hr.2.2.1, by omega⟩
  have nn : ∀ z : Int, 0 ≤ z → z < 2147483648 → ¬ iN z < 0 := fun z z1 z2 q => by
    have := (iN_lt (a := z) (b := 0) ⟨by omega, by omega⟩ ⟨by omega, by omega⟩).mp q
    omega
  obtain ⟨-, k0, hk0, cm0, hkk0⟩ := (hC.2.2.2.2.2.2.2.2.2.2.2.2.2.1 20 (by omega) (by omega)).1 n0 (fun j => xv g (σ.2.2 a0 j))
  have t1 : (iN sp).toInt = sp := iN_toInt ⟨by omega, by omega⟩
  have t2 : (iN dp).toInt = dp := iN_toInt ⟨by omega, by omega⟩
  have t3 : (iN n).toInt = n := iN_toInt ⟨by omega, by omega⟩
  intro T hT X9
  obtain ⟨vm', X', step⟩ := X9.arraycopy hC.1 hC.2.2.2.2.2.1 (hC.2.2.2.2.2.2.2.1 _ (xWS_in h1 rfl)) (hC.2.2.2.2.2.2.2.1 _ (xWS_in h2 rfl)) (hC.2.2.2.2.2.2.2.1 _ (xWS_in h3 rfl)) (hC.2.2.2.2.2.2.2.1 _ (xWS_in h4 rfl)) (src := gB g + a0) (dst := gB g + a1) (cs := arrV (gA g 20) n0 (fun j => xv g (σ.2.2 a0 j))) (cd := arrV (gA g 20) n1 (fun j => xv g (σ.2.2 a1 j))) (srcPos := iN sp) (destPos := iN dp) (n := iN n) (by rw [hT]; exact hc0) (by rw [hT]; exact hc1)
    (fun _ h => by cases h) (fun _ h => by cases h) (fun h => by cases h) (fun h => by cases h) hk0 hk0 hkk0 hkk0 (by simp [xty, refKind]) (nn sp hr.1 (by omega)) (nn dp hr.2.1 (by omega)) (nn n hr.2.2.1 (by omega))
    (by rw [t1, t3, arrV_size]; omega)
    (by rw [t2, t3, arrV_size]; omega)
    (fun vm₁ _ i hi => by
      rw [e3] at hi
      have e : (arrV (gA g 20) n0 (fun j => xv g (σ.2.2 a0 j))).slots.getD ((iN sp).toNatClampNeg + i) .null = xv g (σ.2.2 a0 (sp.toNat + i)) := by
        rw [Array.getD_eq_getD_getElem?, e1, arrV_read _ _ (by omega)]
        rfl
      obtain ⟨x, hx⟩ := hint (sp.toNat + i) (by omega)
      refine ⟨?_, ?_⟩
      · rw [e, hx]
        rfl
      · rw [e, hx]
        exact trivial)
    (g := F0 m pc ls ((.int (iN n) :: .int (iN dp) :: .ref a1 :: .int (iN sp) :: .ref a0 :: st).map (xv g))) rfl (by rw [hC.2.2.1, hL.2.1]) (rest := st.map (xv g)) (by simp only [List.map_cons, xv_ref g hb0, xv_ref g hb1, xv_int]) (by rw [hC.2.1]; exact hd) (by rw [hC.2.2.2.2.2.2.2.2.2.2.1]; omega) (by show 2 * 0 + _ + _ ≤ _; rw [hC.2.2.2.2.2.2.2.2.2.2.2.1, xrest g hg]; omega)
  have e9 : copied (arrV (gA g 20) n0 (fun j => xv g (σ.2.2 a0 j))) (arrV (gA g 20) n1 (fun j => xv g (σ.2.2 a1 j))) (iN sp) (iN dp) (iN n) = arrV (gA g 20) n1 (fun j => xv g (va_cpy (σ.2.2 a0) (σ.2.2 a1) (iN sp).toNatClampNeg (iN dp).toNatClampNeg (iN n).toNatClampNeg j)) := va_copied (xv g) (gA g 20) (gA g 20) (σ.2.2 a0) (σ.2.2 a1) (by rw [e1, e3]; omega)
  rw [e9, e1, e2, e3] at X' step
  have hl : gB g + a1 < H.size := (Array.getElem?_eq_some_iff.mp hc1).1
  generalize hZ : arrV (gA g 20) n1 (fun j => xv g (va_cpy (σ.2.2 a0) (σ.2.2 a1) sp.toNat dp.toNat n.toNat j)) = Z at X' step
  have hheap : ((T.setVm vm').setCell (gB g + a1) Z).heap = H.setIfInBounds (gB g + a1) Z := by rw [← hT]; rfl
  have oq : ∀ q : Nat, q ≠ gB g + a1 → (H.setIfInBounds (gB g + a1) Z)[q]? = H[q]? := fun q hq => by simp [Array.getElem?_setIfInBounds, Ne.symm hq]
  have hsf : (H.setIfInBounds (gB g + a1) Z)[gB g + a1]? = some Z := by simp [Array.getElem?_setIfInBounds, hl]
  obtain ⟨t, a9, b9⟩ := k9 g p l e R s m args below meth cd Q hC hE (H.setIfInBounds (gB g + a1) Z) _ cells slots ls ⟨by rw [Array.size_setIfInBounds]; exact hR.1, hR.2.1, fun b hb => by
      by_cases e : b = a1
      · subst e
        refine Or.inr (Or.inr ⟨by show 20 ≤ (σ.2.1 b).1; rw [hs1]; show 20 ≤ 20; omega, by show (σ.2.1 b).1 < 24; rw [hs1]; show 20 < 24; omega, ?_⟩)
        rw [hsf, ← hZ]
        show _ = some (arrV (gA g (σ.2.1 b).1) (σ.2.1 b).2 _)
        rw [hs1]
        congr 2
        funext j
        simp only [va_cpy, true_and]
      · have hh := (hR.2.2.1 b hb).kept (oq (gB g + b) (by omega))
        have ef : (fun j => if b = a1 ∧ dp.toNat ≤ j ∧ j < dp.toNat + n.toNat then σ.2.2 a0 (sp.toNat + (j - dp.toNat)) else σ.2.2 b j) = σ.2.2 b := by
          funext j
          simp [e]
        show xcell g (σ.2.1 b) (fun j => if b = a1 ∧ dp.toNat ≤ j ∧ j < dp.toNat + n.toNat then σ.2.2 a0 (sp.toNat + (j - dp.toNat)) else σ.2.2 b j) (gB g + b) _
        rw [ef]
        exact hh, fun b hb => ⟨(hR.2.2.2 b hb).1, by
        have e : ¬ b = a1 := by omega
        have ef : (fun j => if b = a1 ∧ dp.toNat ≤ j ∧ j < dp.toNat + n.toNat then σ.2.2 a0 (sp.toNat + (j - dp.toNat)) else σ.2.2 b j) = σ.2.2 b := by
          funext j
          simp [e]
        show (fun j => if b = a1 ∧ dp.toNat ≤ j ∧ j < dp.toNat + n.toNat then σ.2.2 a0 (sp.toNat + (j - dp.toNat)) else σ.2.2 b j) = _
        rw [ef]
        exact (hR.2.2.2 b hb).2⟩⟩ hL ⟨by rw [Array.size_setIfInBounds]; exact hS.1, fun q g1 g2 => by
      rw [oq q (fun e => g2 (by rw [e]; exact Nat.le_add_right _ _))]
      exact hS.2.1 q g1 g2, fun q hq => by
      rcases List.mem_append.mp hq with h | h
      · exact hS.2.2 q h
      · obtain ⟨z, -, hz⟩ := List.mem_map.mp h
        rw [← hz]
        exact Nat.le_add_right _ _⟩ hc hs9 _ hheap X'
  exact ⟨t, step t a9, b9⟩
end XAr


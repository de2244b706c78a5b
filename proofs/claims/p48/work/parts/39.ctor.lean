/-! the constructors: a state in which a row or a part that is fixed in the end may still be unset (its number is then 0) -/
def zfix (s k : Nat) : Bool := match s with
  | 1 => k == 0
  | 2 => decide (k < 7)
  | 3 => k == 0 || k == 3
  | 4 => k == 0 || k == 2 || k == 3
  | 5 => decide (k < 3)
  | 6 => decide (k < 3)
  | 23 => decide (k < 8)
  | _ => false
def zdef (s k : Nat) : Value := if s = 5 ∧ k < 2 then .int (iN 0) else .null
def zcvC (s a k : Nat) (v : Int) : Value := if zfix s k = true ∧ v = 0 then zdef s k else zcv s a k v
def zCTC (z : ZZ) (a k : Nat) : Value := zcvC (zSH z0 a).1 a k (z a k)
def zmkC (ln : ZR) (N : Nat) (z : ZZ) : xS := (N, zSH ln, zCTC z)
/-- what a thing's numbers are when its constructor is through -/
def zini (s : Nat) (k : Int) : Int := if 0 ≤ k ∧ zfix s k.toNat = true then 1 else if s = 2 ∧ k = 8 then 20 else if s = 2 ∧ k = 9 then 2 else if s = 2 ∧ k = 10 then 50 else 0
def zfill (z : ZZ) (b e : Nat) : ZZ := fun a k => if b ≤ a ∧ a < e then zini (zSH z0 a).1 k else z a k
def Zr (z : ZZ) (N : Nat) : Prop := ∀ a, N ≤ a → a < 151 → ∀ k, z a k = 0
theorem Zr_up {z : ZZ} {N a : Nat} {k v : Int} (h : Zr z N) (ha : a < N) : Zr (zup z a k v) N := by
  intro b h1 h2 j
  simp only [zup]
  rw [if_neg (fun q => by omega)]
  exact h b h1 h2 j
theorem Zr_mono {z : ZZ} {N M : Nat} (h : Zr z N) (hm : N ≤ M) : Zr z M := fun a h1 h2 k => h a (by omega) h2 k
theorem Zr_fill {z : ZZ} {N M b : Nat} (h : Zr z N) (hm : N ≤ M) : Zr (zfill z b M) M := by
  intro a h1 h2 k
  simp only [zfill]
  rw [if_neg (fun q => by omega)]
  exact h a (by omega) h2 k
theorem zmkC_up {ln : ZR} {N : Nat} {z : ZZ} {a k : Nat} {j v : Int} {w : Value} (hj : (k : Int) = j) (hw : w = zcvC (zSH z0 a).1 a k v) : xset (zmkC ln N z) a k w = zmkC ln N (zup z a j v) := by
  subst hj
  refine Prod.ext rfl (Prod.ext rfl ?_)
  funext b i
  show (if b = a ∧ i = k then w else zCTC z b i) = zcvC (zSH z0 b).1 b i (zup z a k v b i)
  by_cases h : b = a ∧ i = k
  · obtain ⟨rfl, rfl⟩ := h
    simp only [zup, and_self, if_true]
    exact hw
  · rw [if_neg h]
    have : zup z a k v b i = z b i := by
      simp only [zup]
      rw [if_neg (fun q => h ⟨q.1, by have := q.2; omega⟩)]
    rw [this]
    rfl
section YC
variable {μ μ' : xM} {pc pc' tgt : Nat} {L L' : List (Option Value)} {st : List Value} {ln : ZR} {N : Nat} {z : ZZ} {c9 s9 : Nat} {Φ : xRes → xS → Prop}
theorem C_put {idx c k a : Nat} {j w : Int} {v : Value} (hd : decode (xB μ) pc = .ok (.putfield idx, 3)) (hp : pc + 3 = pc') (hf : xFl (xY μ).cls idx c k) (ha : a < N) (hs : (zSH ln a).1 = c + 1) (hfin : ∀ r : vw_C, xcl[c]? = some r → (r.2.1 k).2.2.2 = false ∨ ((xY μ).name = "<init>" ∧ (xY μ).cls = (r.2.1 k).1)) (hv : xFit (xct c k) v) (hj : (k : Int) = j) (hw : v = zcvC (zSH z0 a).1 a k w) (k9 : X μ pc' L st (zmkC ln N (zup z a j w)) c9 s9 Φ) : X μ pc L (v :: .ref a :: st) (zmkC ln N z) c9 s9 Φ :=
  X_putf hd hp hf ha hs hfin hv (by rw [zmkC_up hj hw]; exact k9)
theorem C_get {idx c k a : Nat} {v : Value} (hd : decode (xB μ) pc = .ok (.getfield idx, 3)) (hp : pc + 3 = pc') (hf : xFl (xY μ).cls idx c k) (ha : a < N) (hs : (zSH ln a).1 = c + 1) (hv : zCTC z a k = v) (k9 : X μ pc' L (v :: st) (zmkC ln N z) c9 s9 Φ) : X μ pc L (.ref a :: st) (zmkC ln N z) c9 s9 Φ :=
  X_getf hd hp hf ha hs hv k9
theorem C_new {idx c c8 s8 : Nat} {r : vw_C} (hd : decode (xB μ) pc = .ok (.new idx, 3)) (hp : pc + 3 = pc') (hr : xcl[c]? = some r) (h1 : Cond.classLink (xY μ).cls idx r.1 ∈ lw_tbl) (h2 : Cond.instantiable r.1 r.2.2 ∈ lw_tbl) (h3 : Cond.initialized r.1 ∈ lw_tbl) (hN : N < 151) (hsh : (zSH ln N).1 = c + 1) (hsz : (zSH ln N).2 = r.2.2) (hz : Zr z N) (hdf : ∀ j, j < r.2.2 → defaultValue (xct c j) = zcvC (c + 1) N j 0) (hc9 : c9 = c8 + 1) (hs9 : s9 = s8 + r.2.2) (k9 : X μ pc' L (.ref N :: st) (zmkC ln (N + 1) z) c8 s8 Φ) : X μ pc L st (zmkC ln N z) c9 s9 Φ := by
  have hc7 := xcl_lt hr
  refine X_new hd hp hr h1 h2 h3 (show N < 1000000 by omega) hc9 hs9 (X_from (fun g H h => ?_) k9)
  obtain ⟨a, b, d, e⟩ := h
  refine ⟨a, b, fun k hk => ?_, fun k hk => ?_⟩
  · by_cases ek : k = N
    · subst ek
      have := d k hk
      have e1 : (xnew (zmkC ln k z) (c + 1) r.2.2 fun j => defaultValue (xct c j)).2.1 k = (c + 1, r.2.2) := by show (if k = k then _ else _) = _; rw [if_pos rfl]
      have e2 : (xnew (zmkC ln k z) (c + 1) r.2.2 fun j => defaultValue (xct c j)).2.2 k = fun j => defaultValue (xct c j) := by funext j; show (if k = k then _ else _) = _; rw [if_pos rfl]
      rw [e1, e2] at this
      show xcell g (zSH ln k) (zCTC z k) (gB g + k) H
      rcases this with h0 | ⟨-, -, r', hr', hOB, hSZ⟩ | ⟨h20, -, -⟩
      · simp at h0
      · refine Or.inr (Or.inl ⟨by omega, by omega, r', by rw [hsh]; exact hr', ?_, by rw [hsz]; exact hSZ⟩)
        rw [hsh]
        rw [Nat.add_sub_cancel] at hr' hOB ⊢
        cases hr.symm.trans hr'
        refine hOB.to (fun j hj => ?_)
        have hz0 := hz k (Nat.le_refl _) hN (j : Nat)
        show xv g (defaultValue (xct c j)) = xv g (zcvC (zSH z0 k).1 k j (z k (j : Nat)))
        rw [hdf j hj, hz0, ← zSH_1 ln (Or.inl hN), hsh]
      · simp only at h20; omega
    · have := d k hk
      have e1 : (xnew (zmkC ln N z) (c + 1) r.2.2 fun j => defaultValue (xct c j)).2.1 k = zSH ln k := by show (if k = N then _ else zSH ln k) = _; rw [if_neg ek]
      have e2 : (xnew (zmkC ln N z) (c + 1) r.2.2 fun j => defaultValue (xct c j)).2.2 k = zCTC z k := by funext j; show (if k = N then _ else zCTC z k j) = _; rw [if_neg ek]
      rw [e1, e2] at this
      exact this
  · have ek : ¬ k = N := by omega
    have := e k hk
    have e1 : (xnew (zmkC ln N z) (c + 1) r.2.2 fun j => defaultValue (xct c j)).2.1 k = zSH ln k := by show (if k = N then _ else zSH ln k) = _; rw [if_neg ek]
    have e2 : (xnew (zmkC ln N z) (c + 1) r.2.2 fun j => defaultValue (xct c j)).2.2 k = zCTC z k := by funext j; show (if k = N then _ else zCTC z k j) = _; rw [if_neg ek]
    rw [e1, e2] at this
    exact this
theorem C_xnew {n c : Nat} {v : Value} (hN : N < 151) (hsh : zSH ln N = (c, n)) (hv : ∀ j, v = zcvC c N j 0) (hz : Zr z N) : xnew (zmkC ln N z) c n (fun _ => v) = zmkC ln (N + 1) z := by
  refine Prod.ext rfl (Prod.ext ?_ ?_)
  · funext b
    show (if b = N then (c, n) else zSH ln b) = zSH ln b
    split
    · next h => rw [h, hsh]
    · rfl
  · funext b j
    show (if b = N then v else zCTC z b j) = zCTC z b j
    split
    · next h =>
      subst h
      show v = zcvC (zSH z0 b).1 b j (z b j)
      rw [hz b (Nat.le_refl _) hN, ← zSH_1 ln (Or.inl hN), hsh]
      exact hv j
    · rfl
theorem C_newi {j : Int} {n c8 s8 : Nat} (hd : decode (xB μ) pc = .ok (.newarray .int, 2)) (hp : pc + 2 = pc') (h1 : Cond.arrayClass (newarray.typeOf .int) ∈ lw_tbl) (hj : 0 ≤ j ∧ j = n ∧ n ≤ 1000000) (hN : N < 151) (hsh : zSH ln N = (20, n)) (hz : Zr z N) (hc9 : c9 = c8 + 1) (hs9 : s9 = s8 + n) (k9 : X μ pc' L (.ref N :: st) (zmkC ln (N + 1) z) c8 s8 Φ) : X μ pc L (.int (iN j) :: st) (zmkC ln N z) c9 s9 Φ :=
  X_newarr_int hd hp h1 hj (show N < 1000000 by omega) hc9 hs9 (by rw [C_xnew (v := .int 0) hN hsh (fun j => rfl) hz]; exact k9)
theorem C_newq {idx : Nat} {j : Int} {c8 s8 : Nat} (hd : decode (xB μ) pc = .ok (.anewarray idx, 3)) (hp : pc + 3 = pc') (h1 : Cond.classLink (xY μ).cls idx RX1 ∈ lw_tbl) (hj : j = 8) (hN : N < 151) (hsh : zSH ln N = (23, 8)) (hz : Zr z N) (hc9 : c9 = c8 + 1) (hs9 : s9 = s8 + 8) (k9 : X μ pc' L (.ref N :: st) (zmkC ln (N + 1) z) c8 s8 Φ) : X μ pc L (.int (iN j) :: st) (zmkC ln N z) c9 s9 Φ :=
  X_anewarr hd hp h1 (by omega) (show N < 1000000 by omega) hc9 hs9 (by
    rw [C_xnew hN hsh (fun j => ?_) hz]
    · exact k9
    · unfold zcvC
      by_cases h : j < 8
      · rw [if_pos ⟨by simp [zfix, h], rfl⟩]; rfl
      · rw [if_neg (fun q => h (by have := q.1; simpa [zfix] using this))]
        show Value.null = if j < 8 then _ else Value.null
        rw [if_neg h])
theorem C_callI {idx a n c8 s8 c7 s7 : Nat} {F : Prop} {τ : xS} (As : List Value) {st0 : List Value} (hd : decode (xB μ) pc = .ok (.invokespecial idx, 3)) (hp : pc + 3 = pc') (hL : xLI (xY μ).cls idx μ' n) (hk : xK μ' < xK μ) (ha : a < N) (hn : As.length = n) (hA : ((.ref a :: As).map fun v => v.category).sum ≤ xL μ') (hrest : (st.map fun v => v.category).sum ≤ 8) (hst : As.reverse ++ .ref a :: st = st0)
    (hX : X μ' 0 (xEnt (.ref a :: As) (xL μ')) [] (zmkC ln N z) c8 s8 (Qd F (.inl none) τ)) (hc9 : c9 = c8 + c7) (hs9 : s9 = s8 + s7) (k9 : F → X μ pc' L st τ c7 s7 Φ) : X μ pc L st0 (zmkC ln N z) c9 s9 Φ :=
  X_callI As hd hp hL.1 hL.2.1 hL.2.2.1 hL.2.2.2.1 hL.2.2.2.2.1 hL.2.2.2.2.2 hk ha hn hA hrest hst hX hc9 hs9 (Or.inr fun E τ h => by cases h.2.1) (fun v τ' h => by obtain ⟨hF, h1, rfl⟩ := h; cases h1; exact k9 hF) (fun E τ h => by cases h.2.1)
end YC
theorem zrep_C {g : xG} {H : Heap} {ln : ZR} {N : Nat} {z : ZZ} (h : ∀ a, a < N → ∀ k, zfix (zSH z0 a).1 k = true → z a k ≠ 0) (hN : N ≤ 151) (hR : xRep g (zmkC ln N z) H) : xRep g (zmk ln N z) H := by
  have e : ∀ a, a < N ∨ 1000000 ≤ a → zCTC z a = zCD ln z a := by
    intro a ha
    funext k
    rw [zCD_c (by omega)]
    unfold zCTC zCT zcvC
    rw [if_neg]
    rintro ⟨h1, h2⟩
    rcases ha with ha | ha
    · exact h a ha k h1 h2
    · have : zSH z0 a = (if a = 1000000 then (30, 0) else zST a) := by unfold zSH; rw [if_neg (by omega), if_neg (by omega)]; rfl
      have h3 : ∀ s, zfix s k = true → s < 24 ∧ (s < 8 ∨ s = 23) := by
        intro s hs
        unfold zfix at hs
        split at hs <;> first | omega | cases hs
      have h4 : 30 ≤ (zSH z0 a).1 ∨ (zSH z0 a).1 = 0 := by
        rw [this]
        split
        · exact Or.inl (by decide)
        unfold zST
        split
        · exact Or.inl (by decide)
        split
        · exact Or.inl (by decide)
        split
        · exact Or.inl (by decide)
        · cases hl : zSTl.lookup a with
          | none => exact Or.inr rfl
          | some q =>
            have hm : (a, q) ∈ zSTl := by
              have := List.lookup_eq_some_iff.mp hl
              obtain ⟨l1, l2, h5, -⟩ := this
              rw [h5]; simp
            have h6 : ∀ q ∈ zSTl, 30 ≤ q.2.1 := by decide +kernel
            exact Or.inl (h6 _ hm)
      have h5 := h3 _ h1
      rcases h4 with h4 | h4
      · omega
      · rw [h4] at h1
        cases h1
  obtain ⟨a, b, c, d⟩ := hR
  refine ⟨a, b, fun k hk => ?_, fun k hk => ⟨(d k hk).1, ?_⟩⟩
  · have := c k hk
    have e1 : (zmkC ln N z).2.2 k = (zmk ln N z).2.2 k := e k (Or.inl hk)
    rw [e1] at this
    exact this
  · rw [← (d k hk).2]
    exact (e k (Or.inr hk)).symm
theorem zini_T (k : Int) : zini 5 k = if k = 0 ∨ k = 1 ∨ k = 2 then 1 else 0 := by
  unfold zini zfix
  by_cases h : k = 0 ∨ k = 1 ∨ k = 2
  · rw [if_pos h, if_pos ⟨by omega, by simp; omega⟩]
  · rw [if_neg h, if_neg (fun q => h (by have := q.2; simp at this; omega)), if_neg (by omega), if_neg (by omega), if_neg (by omega)]
theorem zini_20 (k : Int) : zini 20 k = 0 := by
  unfold zini zfix
  rw [if_neg (by simp), if_neg (by omega), if_neg (by omega), if_neg (by omega)]
theorem zini_B (k : Int) : zini 1 k = if k = 0 then 1 else 0 := by
  unfold zini
  by_cases h : k = 0
  · rw [if_pos h, if_pos ⟨by omega, by simp [zfix]; omega⟩]
  · rw [if_neg h, if_neg (fun q => h (by have := q.2; simp [zfix] at this; omega)), if_neg (by omega), if_neg (by omega), if_neg (by omega)]
theorem zini_Hi (k : Int) : zini 3 k = if k = 0 ∨ k = 3 then 1 else 0 := by
  unfold zini
  by_cases h : k = 0 ∨ k = 3
  · rw [if_pos h, if_pos ⟨by omega, by simp [zfix]; omega⟩]
  · rw [if_neg h, if_neg (fun q => h (by have := q.2; simp [zfix] at this; omega)), if_neg (by omega), if_neg (by omega), if_neg (by omega)]
theorem zini_S (k : Int) : zini 4 k = if k = 0 ∨ k = 2 ∨ k = 3 then 1 else 0 := by
  unfold zini
  by_cases h : k = 0 ∨ k = 2 ∨ k = 3
  · rw [if_pos h, if_pos ⟨by omega, by simp [zfix]; omega⟩]
  · rw [if_neg h, if_neg (fun q => h (by have := q.2; simp [zfix] at this; omega)), if_neg (by omega), if_neg (by omega), if_neg (by omega)]
theorem zini_C (k : Int) : zini 6 k = if 0 ≤ k ∧ k < 3 then 1 else 0 := by
  unfold zini
  by_cases h : 0 ≤ k ∧ k < 3
  · rw [if_pos h, if_pos ⟨by omega, by simp [zfix]; omega⟩]
  · rw [if_neg h, if_neg (fun q => h (by have := q.2; simp [zfix] at this; omega)), if_neg (by omega), if_neg (by omega), if_neg (by omega)]
theorem zini_q (k : Int) : zini 23 k = if 0 ≤ k ∧ k < 8 then 1 else 0 := by
  unfold zini
  by_cases h : 0 ≤ k ∧ k < 8
  · rw [if_pos h, if_pos ⟨by omega, by simp [zfix]; omega⟩]
  · rw [if_neg h, if_neg (fun q => h (by have := q.2; simp [zfix] at this; omega)), if_neg (by omega), if_neg (by omega), if_neg (by omega)]
theorem isT_sz {t : Nat} (h : isT t) (ln : ZR) : (zSH ln t).2 = 4 := by
  have : ∀ t, t < 151 → (zSHl.getD t (0, 0)).1 = 5 → (zSHl.getD t (0, 0)).2 = 4 := by decide +kernel
  unfold zSH
  rw [if_pos (by have := h.1; omega)]
  exact this t h.1 h.2
theorem dfX0 (N : Nat) : ∀ j, j < 4 → defaultValue (xct 0 j) = zcvC 1 N j 0 := fun j hj => match j, hj with
  | 0, _ => rfl
  | 1, _ => rfl
  | 2, _ => rfl
  | 3, _ => rfl
  | j + 4, h => absurd h (by omega)
theorem dfX1 (N : Nat) : ∀ j, j < 11 → defaultValue (xct 1 j) = zcvC 2 N j 0 := fun j hj => match j, hj with
  | 0, _ => rfl
  | 1, _ => rfl
  | 2, _ => rfl
  | 3, _ => rfl
  | 4, _ => rfl
  | 5, _ => rfl
  | 6, _ => rfl
  | 7, _ => rfl
  | 8, _ => rfl
  | 9, _ => rfl
  | 10, _ => rfl
  | j + 11, h => absurd h (by omega)
theorem dfX2 (N : Nat) : ∀ j, j < 5 → defaultValue (xct 2 j) = zcvC 3 N j 0 := fun j hj => match j, hj with
  | 0, _ => rfl
  | 1, _ => rfl
  | 2, _ => rfl
  | 3, _ => rfl
  | 4, _ => rfl
  | j + 5, h => absurd h (by omega)
theorem dfX3 (N : Nat) : ∀ j, j < 7 → defaultValue (xct 3 j) = zcvC 4 N j 0 := fun j hj => match j, hj with
  | 0, _ => rfl
  | 1, _ => rfl
  | 2, _ => rfl
  | 3, _ => rfl
  | 4, _ => rfl
  | 5, _ => rfl
  | 6, _ => rfl
  | j + 7, h => absurd h (by omega)
theorem dfX4 (N : Nat) : ∀ j, j < 4 → defaultValue (xct 4 j) = zcvC 5 N j 0 := fun j hj => match j, hj with
  | 0, _ => rfl
  | 1, _ => rfl
  | 2, _ => rfl
  | 3, _ => rfl
  | j + 4, h => absurd h (by omega)
theorem dfX5 (N : Nat) : ∀ j, j < 3 → defaultValue (xct 5 j) = zcvC 6 N j 0 := fun j hj => match j, hj with
  | 0, _ => rfl
  | 1, _ => rfl
  | 2, _ => rfl
  | j + 3, h => absurd h (by omega)
set_option maxRecDepth 100000 in
theorem zT_fill {z : ZZ} {t : Nat} (ht : isT t) (hz : Zr z t) : zup (zup (zup (zup z t 3 0) t 0 1) t 1 1) t 2 1 = zfill z t (t + 2) := by
  have hlt := isT_all t ht.1 ht.2
  funext a k
  unfold zfill
  by_cases e : a = t
  · subst e
    rw [if_pos ⟨Nat.le_refl _, by omega⟩, isT_sh ht, zini_T]
    have h0 := hz a (Nat.le_refl _) (by omega) k
    simp only [zup, true_and]
    repeat (first | (split <;> first | omega | skip))
    all_goals first | omega | rfl
  · by_cases e1 : a = t + 1
    · subst e1
      rw [if_pos ⟨by omega, by omega⟩, isT_sh1 ht, zini_20]
      have h0 := hz (t + 1) (by omega) (by omega) k
      simp only [zup]
      rw [if_neg (by omega), if_neg (by omega), if_neg (by omega), if_neg (by omega)]
      exact h0
    · rw [if_neg (by omega)]
      simp only [zup]
      rw [if_neg (by omega), if_neg (by omega), if_neg (by omega), if_neg (by omega)]

set_option maxRecDepth 100000 in
theorem CX4_init {ln : ZR} {z : ZZ} {t : Nat} {v1 v2 : Int} (ht : isT t) (hz : Zr z t) (h1 : v1 = zMR t) (h2 : v2 = zCO t) : X mX4_init 0 (xEnt [.ref t, .int (iN v1), .int (iN v2)] (xL mX4_init)) [] (zmkC ln (t + 1) z) 1 (zTS t) (Qd True (.inl none) (zmkC ln (t + 2) (zfill z t (t + 2)))) := by
  have hall := isT_all t ht.1 ht.2
  subst h1 h2
  refine X_to (M := [some (.ref t), some (.int (iN (zMR t))), some (.int (iN (zCO t)))]) (su := []) rfl rfl ?_
  refine X_aload_n (pc' := 1) dX4_init_0 rfl rfl ?_
  refine X_objInit (pc' := 4) dX4_init_1 rfl tq87 tq53 tq54 (by omega) (cs rfl) ?_
  refine X_aload_n (pc' := 5) dX4_init_4 rfl rfl ?_
  refine X_iconst (pc' := 6) dX4_init_5 rfl ?_
  refine C_put (k := 3) (j := 3) (w := 0) (pc' := 9) dX4_init_6 rfl FX4_9 (Nat.lt_succ_self _) (isT_sh ht ln) (fun r hr => by cases hr; exact Or.inr ⟨rfl, rfl⟩) (xFit_int _) rfl (by rw [isT_sh ht]; rfl) ?_
  refine X_aload_n (pc' := 10) dX4_init_9 rfl rfl ?_
  refine X_iload_n (pc' := 11) dX4_init_10 rfl rfl ?_
  refine C_put (k := 0) (j := 0) (w := 1) (pc' := 14) dX4_init_11 rfl FX4_15 (Nat.lt_succ_self _) (isT_sh ht ln) (fun r hr => by cases hr; exact Or.inr ⟨rfl, rfl⟩) (xFit_int _) rfl (by rw [isT_sh ht]; rfl) ?_
  refine X_aload_n (pc' := 15) dX4_init_14 rfl rfl ?_
  refine X_iload_n (pc' := 16) dX4_init_15 rfl rfl ?_
  refine C_put (k := 1) (j := 1) (w := 1) (pc' := 19) dX4_init_16 rfl FX4_18 (Nat.lt_succ_self _) (isT_sh ht ln) (fun r hr => by cases hr; exact Or.inr ⟨rfl, rfl⟩) (xFit_int _) rfl (by rw [isT_sh ht]; rfl) ?_
  refine X_aload_n (pc' := 20) dX4_init_19 rfl rfl ?_
  refine X_iconst (pc' := 21) dX4_init_20 rfl ?_
  refine X_iload_n (pc' := 22) dX4_init_21 rfl rfl ?_
  refine X_iload_n (pc' := 23) dX4_init_22 rfl rfl ?_
  refine X_imul (pc' := 24) dX4_init_23 rfl ?_
  refine X_mmax (pc' := 27) dX4_init_24 rfl tq88 tq89 tq5 tq90 (cs rfl) ⟨by omega, by omega, by rw [hall.2.2.2.2.2.2.2]; omega, by rw [hall.2.2.2.2.2.2.2]; omega⟩ ?_
  have hr : Zr (zup (zup (zup z t 3 0) t 0 1) t 1 1) (t + 1) := Zr_up (Zr_up (Zr_up (Zr_mono hz (by omega)) (by omega)) (by omega)) (by omega)
  refine C_newi (n := zTS t) (c8 := 0) (s8 := 0) (pc' := 29) dX4_init_27 rfl tq75 ⟨by omega, by rw [hall.2.2.2.2.2.2.2]; omega, by omega⟩ (by omega) (isT_sh1 ht ln) hr rfl (Nat.zero_add _).symm ?_
  refine C_put (k := 2) (j := 2) (w := 1) (pc' := 32) dX4_init_29 rfl FX4_27 (show t < t + 1 + 1 by omega) (isT_sh ht ln) (fun r hr => by cases hr; exact Or.inr ⟨rfl, rfl⟩) (xFit_ref (by omega) (Or.inr ⟨_, rfl⟩)) rfl (by rw [isT_sh ht]; rfl) ?_
  rw [zT_fill ht hz]
  exact X_vret dX4_init_32 rfl ⟨trivial, rfl, rfl⟩
theorem zB_fill {z : ZZ} (hz : Zr z 1) : zup (zup (zup (zup z 1 0 1) 1 1 0) 1 2 0) 1 3 0 = zfill z 1 3 := by
  funext a k
  unfold zfill
  by_cases e : a = 1
  · subst e
    rw [if_pos (by omega), sh1, zini_B]
    have h0 := hz 1 (by omega) (by omega) k
    simp only [zup, true_and]
    repeat (first | (split <;> first | omega | skip))
    all_goals first | omega | rfl
  · by_cases e1 : a = 2
    · subst e1
      rw [if_pos (by omega), sh2, zini_20]
      have h0 := hz 2 (by omega) (by omega) k
      simp only [zup]
      rw [if_neg (by omega), if_neg (by omega), if_neg (by omega), if_neg (by omega)]
      exact h0
    · rw [if_neg (by omega)]
      simp only [zup]
      rw [if_neg (by omega), if_neg (by omega), if_neg (by omega), if_neg (by omega)]
set_option maxRecDepth 100000 in
theorem CX0_init {ln : ZR} {z : ZZ} (hz : Zr z 1) : X mX0_init 0 (xEnt [.ref 1] (xL mX0_init)) [] (zmkC ln 2 z) 1 30 (Qd True (.inl none) (zmkC ln 3 (zfill z 1 3))) := by
  refine X_to (M := [some (.ref 1)]) (su := []) rfl rfl ?_
  refine X_aload_n (pc' := 1) dX0_init_0 rfl rfl ?_
  refine X_objInit (pc' := 4) dX0_init_1 rfl tq60 tq53 tq54 (by decide) (cs rfl) ?_
  refine X_aload_n (pc' := 5) dX0_init_4 rfl rfl ?_
  refine X_bipush (pc' := 7) dX0_init_5 rfl (by decide) ?_
  refine C_newi (n := 30) (c8 := 0) (s8 := 0) (pc' := 9) dX0_init_7 rfl tq75 ⟨by decide, rfl, by decide⟩ (by decide) (sh2 ln) (Zr_mono hz (by decide)) rfl rfl ?_
  refine C_put (k := 0) (j := 0) (w := 1) (pc' := 12) dX0_init_9 rfl FX0_9 (by decide) (congrArg Prod.fst (sh1 ln)) (fun r hr => by cases hr; exact Or.inr ⟨rfl, rfl⟩) (xFit_ref (by decide) (Or.inr ⟨_, rfl⟩)) rfl rfl ?_
  refine X_aload_n (pc' := 13) dX0_init_12 rfl rfl ?_
  refine X_iconst (pc' := 14) dX0_init_13 rfl ?_
  refine C_put (k := 1) (j := 1) (w := 0) (pc' := 17) dX0_init_14 rfl FX0_15 (by decide) (congrArg Prod.fst (sh1 ln)) (fun r hr => by cases hr; exact Or.inr ⟨rfl, rfl⟩) (xFit_int _) rfl rfl ?_
  refine X_aload_n (pc' := 18) dX0_init_17 rfl rfl ?_
  refine X_iconst (pc' := 19) dX0_init_18 rfl ?_
  refine C_put (k := 2) (j := 2) (w := 0) (pc' := 22) dX0_init_19 rfl FX0_19 (by decide) (congrArg Prod.fst (sh1 ln)) (fun r hr => by cases hr; exact Or.inr ⟨rfl, rfl⟩) (xFit_int _) rfl rfl ?_
  refine X_aload_n (pc' := 23) dX0_init_22 rfl rfl ?_
  refine X_iconst (pc' := 24) dX0_init_23 rfl ?_
  refine C_put (k := 3) (j := 3) (w := 0) (pc' := 27) dX0_init_24 rfl FX0_22 (by decide) (congrArg Prod.fst (sh1 ln)) (fun r hr => by cases hr; exact Or.inr ⟨rfl, rfl⟩) (xFit_int _) rfl rfl ?_
  rw [zB_fill hz]
  exact X_vret dX0_init_27 rfl ⟨trivial, rfl, rfl⟩
set_option maxRecDepth 100000 in
set_option maxHeartbeats 4000000 in
theorem zH_fill {z : ZZ} {hl : Nat} (hh : isH hl) (hz : Zr z hl) : zup (zup (zup (zup (zup (zup (zfill (zup (zfill (zup (zfill (zup (zfill (zup (zfill (zup (zfill z (hl + 1) (hl + 3)) hl 0 1) (hl + 3) (hl + 5)) hl 1 1) (hl + 5) (hl + 7)) hl 2 1) (hl + 7) (hl + 9)) hl 3 1) (hl + 9) (hl + 11)) hl 4 1) (hl + 11) (hl + 13)) hl 5 1) hl 7 0) hl 8 20) hl 9 2) hl 10 50) hl 6 1 = zfill z hl (hl + 13) := by
  have hlt := (isH_all hl hh).1.1
  funext a k
  unfold zfill
  by_cases e : a = hl
  · subst e
    rw [if_pos ⟨Nat.le_refl _, by omega⟩, isH_sh hh]
    have h0 := hz a (Nat.le_refl _) (by omega) k
    simp only [zup, true_and]
    rw [if_neg (show ¬ (a + 11 ≤ a ∧ a < a + 13) by omega), if_neg (show ¬ (a + 9 ≤ a ∧ a < a + 11) by omega), if_neg (show ¬ (a + 7 ≤ a ∧ a < a + 9) by omega), if_neg (show ¬ (a + 5 ≤ a ∧ a < a + 7) by omega), if_neg (show ¬ (a + 3 ≤ a ∧ a < a + 5) by omega), if_neg (show ¬ (a + 1 ≤ a ∧ a < a + 3) by omega), h0]
    by_cases hk : 0 ≤ k ∧ k < 11
    · have : ∀ n : Nat, n < 11 → (if (n : Int) = 6 then (1 : Int) else if (n : Int) = 10 then 50 else if (n : Int) = 9 then 2 else if (n : Int) = 8 then 20 else if (n : Int) = 7 then 0 else if (n : Int) = 5 then 1 else if (n : Int) = 4 then 1 else if (n : Int) = 3 then 1 else if (n : Int) = 2 then 1 else if (n : Int) = 1 then 1 else if (n : Int) = 0 then 1 else 0) = zini 2 n := by decide +kernel
      have h1 := this k.toNat (by omega)
      rw [Int.toNat_of_nonneg hk.1] at h1
      exact h1
    · rw [if_neg (by omega), if_neg (by omega), if_neg (by omega), if_neg (by omega), if_neg (by omega), if_neg (by omega), if_neg (by omega), if_neg (by omega), if_neg (by omega), if_neg (by omega), if_neg (by omega)]
      unfold zini zfix
      rw [if_neg (fun q => hk (by have := q.2; simp at this; omega)), if_neg (by omega), if_neg (by omega), if_neg (by omega)]
  · simp only [zup, e, false_and, if_false]
    by_cases e1 : hl ≤ a ∧ a < hl + 13
    · rw [if_pos e1]
      repeat (first | (split <;> first | rfl | skip))
      all_goals omega
    · rw [if_neg e1, if_neg (by omega), if_neg (by omega), if_neg (by omega), if_neg (by omega), if_neg (by omega), if_neg (by omega)]

theorem hMR0 {hl : Nat} (hh : isH hl) : ((8 : Int)) = zMR (hl + 1) := by revert hl; unfold isH; decide +kernel
theorem hCO0 {hl : Nat} (hh : isH hl) : ((4 : Int)) = zCO (hl + 1) := by revert hl; unfold isH; decide +kernel
theorem hTS0 {hl : Nat} (hh : isH hl) : zTS (hl + 1) = 32 := by revert hl; unfold isH; decide +kernel
theorem hMR1 {hl : Nat} (hh : isH hl) : ((24 : Int)) = zMR (hl + 3) := by revert hl; unfold isH; decide +kernel
theorem hCO1 {hl : Nat} (hh : isH hl) : ((18 : Int)) = zCO (hl + 3) := by revert hl; unfold isH; decide +kernel
theorem hTS1 {hl : Nat} (hh : isH hl) : zTS (hl + 3) = 432 := by revert hl; unfold isH; decide +kernel
theorem hMR2 {hl : Nat} (hh : isH hl) : ((30 : Int)) = zMR (hl + 5) := by revert hl; unfold isH; decide +kernel
theorem hCO2 {hl : Nat} (hh : isH hl) : ((4 : Int)) = zCO (hl + 5) := by revert hl; unfold isH; decide +kernel
theorem hTS2 {hl : Nat} (hh : isH hl) : zTS (hl + 5) = 120 := by revert hl; unfold isH; decide +kernel
theorem hMR3 {hl : Nat} (hh : isH hl) : ((15 : Int)) = zMR (hl + 7) := by revert hl; unfold isH; decide +kernel
theorem hCO3 {hl : Nat} (hh : isH hl) : ((4 : Int)) = zCO (hl + 7) := by revert hl; unfold isH; decide +kernel
theorem hTS3 {hl : Nat} (hh : isH hl) : zTS (hl + 7) = 60 := by revert hl; unfold isH; decide +kernel
theorem hMR4 {hl : Nat} (hh : isH hl) : ((12 : Int)) = zMR (hl + 9) := by revert hl; unfold isH; decide +kernel
theorem hCO4 {hl : Nat} (hh : isH hl) : ((6 : Int)) = zCO (hl + 9) := by revert hl; unfold isH; decide +kernel
theorem hTS4 {hl : Nat} (hh : isH hl) : zTS (hl + 9) = 72 := by revert hl; unfold isH; decide +kernel
theorem hMR5 {hl : Nat} (hh : isH hl) : ((8 : Int)) = zMR (hl + 11) := by revert hl; unfold isH; decide +kernel
theorem hCO5 {hl : Nat} (hh : isH hl) : ((3 : Int)) = zCO (hl + 11) := by revert hl; unfold isH; decide +kernel
theorem hTS5 {hl : Nat} (hh : isH hl) : zTS (hl + 11) = 24 := by revert hl; unfold isH; decide +kernel
set_option maxRecDepth 100000 in
theorem CX1_init {ln : ZR} {z : ZZ} {hl : Nat} (hh : isH hl) (hz : Zr z hl) : X mX1_init 0 (xEnt [.ref hl, .ref 1] (xL mX1_init)) [] (zmkC ln (hl + 1) z) 12 764 (Qd True (.inl none) (zmkC ln (hl + 13) (zfill z hl (hl + 13)))) := by
  have hall := isH_all hl hh
  have hlt := hall.1.1
  have hlt' : hl + 12 < 151 := by have := isT_all _ hall.2.2.2.2.2.2.1 hall.2.2.2.2.2.2.2; omega
  refine X_to (M := [some (.ref hl), some (.ref 1)]) (su := []) rfl rfl ?_
  refine X_aload_n (pc' := 1) dX1_init_0 rfl rfl ?_
  refine X_objInit (pc' := 4) dX1_init_1 rfl tq81 tq53 tq54 (by omega) (cs rfl) ?_
  have hz0 : Zr z (hl + 1) := Zr_mono hz (by omega)
  refine X_aload_n (pc' := 5) dX1_init_4 rfl rfl ?_
  refine C_new (c := 4) (r := (RX4, TX4, 4)) (c8 := 11) (s8 := 760) (pc' := 8) dX1_init_5 rfl rfl tq82 tq83 tq4 (by omega) (isT_sh hall.2.1 ln) (isT_sz hall.2.1 ln) hz0 (dfX4 _) rfl rfl ?_
  refine X_dup (pc' := 9) dX1_init_8 rfl rfl ?_
  refine X_bipush (pc' := 11) dX1_init_9 rfl (by decide) ?_
  refine X_iconst (pc' := 12) dX1_init_11 rfl ?_
  refine C_callI [.int (iN 8), .int (iN 4)] (pc' := 15) dX1_init_12 rfl IX1_11 (by decide) (Nat.lt_succ_self _) rfl (cs rfl) (cs rfl) rfl (CX4_init hall.2.1 hz0 (hMR0 hh) (hCO0 hh)) (c7 := 10) (s7 := 728) rfl (by rw [hTS0 hh]) (fun _ => ?_)
  refine C_put (k := 0) (j := 0) (w := 1) (pc' := 18) dX1_init_15 rfl FX1_14 (by show hl < hl + 3; omega) (isH_sh hh ln) (fun r hr => by cases hr; exact Or.inr ⟨rfl, rfl⟩) (xFit_ref (by omega) (Or.inl ⟨_, rfl⟩)) rfl (by rw [isH_sh hh]; rfl) ?_
  have hz1 : Zr (zup (zfill z (hl + 1) (hl + 3)) hl 0 1) (hl + 3) := Zr_up (Zr_fill hz0 (by omega)) (by omega)
  refine X_aload_n (pc' := 19) dX1_init_18 rfl rfl ?_
  refine C_new (c := 4) (r := (RX4, TX4, 4)) (c8 := 9) (s8 := 724) (pc' := 22) dX1_init_19 rfl rfl tq82 tq83 tq4 (by omega) (isT_sh hall.2.2.1 ln) (isT_sz hall.2.2.1 ln) hz1 (dfX4 _) rfl rfl ?_
  refine X_dup (pc' := 23) dX1_init_22 rfl rfl ?_
  refine X_bipush (pc' := 25) dX1_init_23 rfl (by decide) ?_
  refine X_bipush (pc' := 27) dX1_init_25 rfl (by decide) ?_
  refine C_callI [.int (iN 24), .int (iN 18)] (pc' := 30) dX1_init_27 rfl IX1_11 (by decide) (Nat.lt_succ_self _) rfl (cs rfl) (cs rfl) rfl (CX4_init hall.2.2.1 hz1 (hMR1 hh) (hCO1 hh)) (c7 := 8) (s7 := 292) rfl (by rw [hTS1 hh]) (fun _ => ?_)
  refine C_put (k := 1) (j := 1) (w := 1) (pc' := 33) dX1_init_30 rfl FX1_20 (by show hl < hl + 5; omega) (isH_sh hh ln) (fun r hr => by cases hr; exact Or.inr ⟨rfl, rfl⟩) (xFit_ref (by omega) (Or.inl ⟨_, rfl⟩)) rfl (by rw [isH_sh hh]; rfl) ?_
  have hz2 : Zr (zup (zfill (zup (zfill z (hl + 1) (hl + 3)) hl 0 1) (hl + 3) (hl + 5)) hl 1 1) (hl + 5) := Zr_up (Zr_fill hz1 (by omega)) (by omega)
  refine X_aload_n (pc' := 34) dX1_init_33 rfl rfl ?_
  refine C_new (c := 4) (r := (RX4, TX4, 4)) (c8 := 7) (s8 := 288) (pc' := 37) dX1_init_34 rfl rfl tq82 tq83 tq4 (by omega) (isT_sh hall.2.2.2.1 ln) (isT_sz hall.2.2.2.1 ln) hz2 (dfX4 _) rfl rfl ?_
  refine X_dup (pc' := 38) dX1_init_37 rfl rfl ?_
  refine X_bipush (pc' := 40) dX1_init_38 rfl (by decide) ?_
  refine X_iconst (pc' := 41) dX1_init_40 rfl ?_
  refine C_callI [.int (iN 30), .int (iN 4)] (pc' := 44) dX1_init_41 rfl IX1_11 (by decide) (Nat.lt_succ_self _) rfl (cs rfl) (cs rfl) rfl (CX4_init hall.2.2.2.1 hz2 (hMR2 hh) (hCO2 hh)) (c7 := 6) (s7 := 168) rfl (by rw [hTS2 hh]) (fun _ => ?_)
  refine C_put (k := 2) (j := 2) (w := 1) (pc' := 47) dX1_init_44 rfl FX1_23 (by show hl < hl + 7; omega) (isH_sh hh ln) (fun r hr => by cases hr; exact Or.inr ⟨rfl, rfl⟩) (xFit_ref (by omega) (Or.inl ⟨_, rfl⟩)) rfl (by rw [isH_sh hh]; rfl) ?_
  have hz3 : Zr (zup (zfill (zup (zfill (zup (zfill z (hl + 1) (hl + 3)) hl 0 1) (hl + 3) (hl + 5)) hl 1 1) (hl + 5) (hl + 7)) hl 2 1) (hl + 7) := Zr_up (Zr_fill hz2 (by omega)) (by omega)
  refine X_aload_n (pc' := 48) dX1_init_47 rfl rfl ?_
  refine C_new (c := 4) (r := (RX4, TX4, 4)) (c8 := 5) (s8 := 164) (pc' := 51) dX1_init_48 rfl rfl tq82 tq83 tq4 (by omega) (isT_sh hall.2.2.2.2.1 ln) (isT_sz hall.2.2.2.2.1 ln) hz3 (dfX4 _) rfl rfl ?_
  refine X_dup (pc' := 52) dX1_init_51 rfl rfl ?_
  refine X_bipush (pc' := 54) dX1_init_52 rfl (by decide) ?_
  refine X_iconst (pc' := 55) dX1_init_54 rfl ?_
  refine C_callI [.int (iN 15), .int (iN 4)] (pc' := 58) dX1_init_55 rfl IX1_11 (by decide) (Nat.lt_succ_self _) rfl (cs rfl) (cs rfl) rfl (CX4_init hall.2.2.2.2.1 hz3 (hMR3 hh) (hCO3 hh)) (c7 := 4) (s7 := 104) rfl (by rw [hTS3 hh]) (fun _ => ?_)
  refine C_put (k := 3) (j := 3) (w := 1) (pc' := 61) dX1_init_58 rfl FX1_26 (by show hl < hl + 9; omega) (isH_sh hh ln) (fun r hr => by cases hr; exact Or.inr ⟨rfl, rfl⟩) (xFit_ref (by omega) (Or.inl ⟨_, rfl⟩)) rfl (by rw [isH_sh hh]; rfl) ?_
  have hz4 : Zr (zup (zfill (zup (zfill (zup (zfill (zup (zfill z (hl + 1) (hl + 3)) hl 0 1) (hl + 3) (hl + 5)) hl 1 1) (hl + 5) (hl + 7)) hl 2 1) (hl + 7) (hl + 9)) hl 3 1) (hl + 9) := Zr_up (Zr_fill hz3 (by omega)) (by omega)
  refine X_aload_n (pc' := 62) dX1_init_61 rfl rfl ?_
  refine C_new (c := 4) (r := (RX4, TX4, 4)) (c8 := 3) (s8 := 100) (pc' := 65) dX1_init_62 rfl rfl tq82 tq83 tq4 (by omega) (isT_sh hall.2.2.2.2.2.1 ln) (isT_sz hall.2.2.2.2.2.1 ln) hz4 (dfX4 _) rfl rfl ?_
  refine X_dup (pc' := 66) dX1_init_65 rfl rfl ?_
  refine X_bipush (pc' := 68) dX1_init_66 rfl (by decide) ?_
  refine X_bipush (pc' := 70) dX1_init_68 rfl (by decide) ?_
  refine C_callI [.int (iN 12), .int (iN 6)] (pc' := 73) dX1_init_70 rfl IX1_11 (by decide) (Nat.lt_succ_self _) rfl (cs rfl) (cs rfl) rfl (CX4_init hall.2.2.2.2.2.1 hz4 (hMR4 hh) (hCO4 hh)) (c7 := 2) (s7 := 28) rfl (by rw [hTS4 hh]) (fun _ => ?_)
  refine C_put (k := 4) (j := 4) (w := 1) (pc' := 76) dX1_init_73 rfl FX1_29 (by show hl < hl + 11; omega) (isH_sh hh ln) (fun r hr => by cases hr; exact Or.inr ⟨rfl, rfl⟩) (xFit_ref (by omega) (Or.inl ⟨_, rfl⟩)) rfl (by rw [isH_sh hh]; rfl) ?_
  have hz5 : Zr (zup (zfill (zup (zfill (zup (zfill (zup (zfill (zup (zfill z (hl + 1) (hl + 3)) hl 0 1) (hl + 3) (hl + 5)) hl 1 1) (hl + 5) (hl + 7)) hl 2 1) (hl + 7) (hl + 9)) hl 3 1) (hl + 9) (hl + 11)) hl 4 1) (hl + 11) := Zr_up (Zr_fill hz4 (by omega)) (by omega)
  refine X_aload_n (pc' := 77) dX1_init_76 rfl rfl ?_
  refine C_new (c := 4) (r := (RX4, TX4, 4)) (c8 := 1) (s8 := 24) (pc' := 80) dX1_init_77 rfl rfl tq82 tq83 tq4 (by omega) (isT_sh hall.2.2.2.2.2.2 ln) (isT_sz hall.2.2.2.2.2.2 ln) hz5 (dfX4 _) rfl rfl ?_
  refine X_dup (pc' := 81) dX1_init_80 rfl rfl ?_
  refine X_bipush (pc' := 83) dX1_init_81 rfl (by decide) ?_
  refine X_iconst (pc' := 84) dX1_init_83 rfl ?_
  refine C_callI [.int (iN 8), .int (iN 3)] (pc' := 87) dX1_init_84 rfl IX1_11 (by decide) (Nat.lt_succ_self _) rfl (cs rfl) (cs rfl) rfl (CX4_init hall.2.2.2.2.2.2 hz5 (hMR5 hh) (hCO5 hh)) (c7 := 0) (s7 := 0) rfl (by rw [hTS5 hh]) (fun _ => ?_)
  refine C_put (k := 5) (j := 5) (w := 1) (pc' := 90) dX1_init_87 rfl FX1_32 (by show hl < hl + 13; omega) (isH_sh hh ln) (fun r hr => by cases hr; exact Or.inr ⟨rfl, rfl⟩) (xFit_ref (by omega) (Or.inl ⟨_, rfl⟩)) rfl (by rw [isH_sh hh]; rfl) ?_
  have hz6 : Zr (zup (zfill (zup (zfill (zup (zfill (zup (zfill (zup (zfill (zup (zfill z (hl + 1) (hl + 3)) hl 0 1) (hl + 3) (hl + 5)) hl 1 1) (hl + 5) (hl + 7)) hl 2 1) (hl + 7) (hl + 9)) hl 3 1) (hl + 9) (hl + 11)) hl 4 1) (hl + 11) (hl + 13)) hl 5 1) (hl + 13) := Zr_up (Zr_fill hz5 (by omega)) (by omega)
  refine X_aload_n (pc' := 91) dX1_init_90 rfl rfl ?_
  refine X_iconst (pc' := 92) dX1_init_91 rfl ?_
  refine C_put (k := 7) (j := 7) (w := 0) (pc' := 95) dX1_init_92 rfl FX1_35 (by show hl < hl + 13; omega) (isH_sh hh ln) (fun r hr => by cases hr; exact Or.inr ⟨rfl, rfl⟩) (xFit_int _) rfl (by rw [isH_sh hh]; rfl) ?_
  refine X_aload_n (pc' := 96) dX1_init_95 rfl rfl ?_
  refine X_bipush (pc' := 98) dX1_init_96 rfl (by decide) ?_
  refine C_put (k := 8) (j := 8) (w := 20) (pc' := 101) dX1_init_98 rfl FX1_39 (by show hl < hl + 13; omega) (isH_sh hh ln) (fun r hr => by cases hr; exact Or.inr ⟨rfl, rfl⟩) (xFit_int _) rfl (by rw [isH_sh hh]; rfl) ?_
  refine X_aload_n (pc' := 102) dX1_init_101 rfl rfl ?_
  refine X_iconst (pc' := 103) dX1_init_102 rfl ?_
  refine C_put (k := 9) (j := 9) (w := 2) (pc' := 106) dX1_init_103 rfl FX1_42 (by show hl < hl + 13; omega) (isH_sh hh ln) (fun r hr => by cases hr; exact Or.inr ⟨rfl, rfl⟩) (xFit_int _) rfl (by rw [isH_sh hh]; rfl) ?_
  refine X_aload_n (pc' := 107) dX1_init_106 rfl rfl ?_
  refine X_bipush (pc' := 109) dX1_init_107 rfl (by decide) ?_
  refine C_put (k := 10) (j := 10) (w := 50) (pc' := 112) dX1_init_109 rfl FX1_45 (by show hl < hl + 13; omega) (isH_sh hh ln) (fun r hr => by cases hr; exact Or.inr ⟨rfl, rfl⟩) (xFit_int _) rfl (by rw [isH_sh hh]; rfl) ?_
  refine X_aload_n (pc' := 113) dX1_init_112 rfl rfl ?_
  refine X_aload_n (pc' := 114) dX1_init_113 rfl rfl ?_
  refine C_put (k := 6) (j := 6) (w := 1) (pc' := 117) dX1_init_114 rfl FX1_48 (by show hl < hl + 13; omega) (isH_sh hh ln) (fun r hr => by cases hr; exact Or.inr ⟨rfl, rfl⟩) (xFit_ref (by decide) (Or.inl ⟨_, rfl⟩)) rfl (by rw [isH_sh hh]; rfl) ?_
  have e := zH_fill hh hz
  rw [e]
  exact X_vret dX1_init_117 rfl ⟨trivial, rfl, rfl⟩

theorem xEnt_len (g : xG) (hg : ∀ k, 1000000 ≤ k → gV g k = .null ∨ ∃ t, gV g k = .ref t) : ∀ (As : List Value) (n : Nat), (lg_sl (As.map (xv g))).length ≤ n → (xEnt As n).length = n
  | [], n, _ => by simp [xEnt]
  | v :: vs, n, h => by
    have e : lg_sl ((v :: vs).map (xv g)) = (if (xv g v).category = 2 then [.val (xv g v), .second] else [.val (xv g v)]) ++ lg_sl (vs.map (xv g)) := by simp [lg_sl]
    rw [e, xcat g v hg, List.length_append] at h
    by_cases hc : v.category = 2
    · rw [if_pos hc] at h
      have h' : 2 + (lg_sl (vs.map (xv g))).length ≤ n := h
      have := xEnt_len g hg vs (n - 2) (by omega)
      simp only [xEnt, if_pos hc, List.length_cons, this]
      omega
    · rw [if_neg hc] at h
      have h' : 1 + (lg_sl (vs.map (xv g))).length ≤ n := h
      have := xEnt_len g hg vs (n - 1) (by omega)
      simp only [xEnt, if_neg hc, List.length_cons, this]
      omega
theorem xEnt_in (g : xG) (hg : ∀ k, 1000000 ≤ k → gV g k = .null ∨ ∃ t, gV g k = .ref t) : ∀ (As : List Value) (n off i : Nat) (v : Value), (xEnt As n)[i]? = some (some v) → (off + i, xv g v) ∈ lv_args off (As.map (xv g))
  | [], n, off, i, v, h => by
    exfalso
    have h1 := List.mem_of_getElem? h
    rw [xEnt] at h1
    have h2 := List.eq_of_mem_replicate h1
    cases h2
  | w :: ws, n, off, i, v, h => by
    show (off + i, xv g v) ∈ (off, xv g w) :: lv_args (if (xv g w).category = 2 then off + 2 else off + 1) (ws.map (xv g))
    rw [xcat g w hg]
    cases i with
    | zero =>
      simp only [xEnt, List.getElem?_cons_zero] at h
      cases h
      exact List.mem_cons_self
    | succ i =>
      refine List.mem_cons_of_mem _ ?_
      by_cases hc : w.category = 2
      · rw [if_pos hc]
        simp only [xEnt, if_pos hc, List.getElem?_cons_succ] at h
        cases i with
        | zero => simp at h
        | succ i =>
          rw [List.getElem?_cons_succ] at h
          have := xEnt_in g hg ws (n - 2) (off + 2) i v h
          rwa [show off + (i + 1 + 1) = off + 2 + i by omega]
      · rw [if_neg hc]
        simp only [xEnt, if_neg hc, List.getElem?_cons_succ] at h
        have := xEnt_in g hg ws (n - 1) (off + 1) i v h
        rwa [show off + (i + 1) = off + 1 + i by omega]
theorem xLv_entry (g : xG) (hg : ∀ k, 1000000 ≤ k → gV g k = .null ∨ ∃ t, gV g k = .ref t) (As : List Value) {n : Nat} (h : (lg_sl (As.map (xv g))).length ≤ n) : xLv g n (xEnt As n) ((lg_sl (As.map (xv g)) ++ List.replicate (n - (lg_sl (As.map (xv g))).length) Slot.unset).toArray) := by
  obtain ⟨h1, h2, h3⟩ := lv_entry (As.map (xv g)) h
  refine ⟨xEnt_len g hg As n h, h1, h2, fun i v hi => ?_⟩
  have := xEnt_in g hg As n 0 i v hi
  rw [Nat.zero_add] at this
  exact h3 _ this
theorem xsl_len (g : xG) (hg : ∀ k, 1000000 ≤ k → gV g k = .null ∨ ∃ t, gV g k = .ref t) (As : List Value) : (lg_sl (As.map (xv g))).length = (As.map fun v => v.category).sum := by
  induction As with
  | nil => rfl
  | cons v vs ih =>
    have e : lg_sl ((v :: vs).map (xv g)) = (if (xv g v).category = 2 then [.val (xv g v), .second] else [.val (xv g v)]) ++ lg_sl (vs.map (xv g)) := by simp [lg_sl]
    rw [e, xcat g v hg, List.length_append, ih, List.map_cons, List.sum_cons]
    rcases lv_cat v with hc | hc <;> simp [hc]
theorem xrest (g : xG) (hg : ∀ k, 1000000 ≤ k → gV g k = .null ∨ ∃ t, gV g k = .ref t) (st : List Value) : ((st.map (xv g)).map fun v => v.category).sum = (st.map fun v => v.category).sum := by
  rw [List.map_map]
  congr 1
  exact List.map_congr_left fun v _ => xcat g v hg
/-- a method's contract, out of its body's walk -/
def xPc (g : xG) (As : List Value) (σ : xS) : Array Value → State → Prop := va_Pc (As.map (xv g)) (fun U => xRep g σ U.heap ∧ xSF g U U.heap)
def xQc (g : xG) (Φ : xRes → xS → Prop) : Array Value → State → Outcome → State → Prop := fun _ st oc t => (∃ (v : Option Value) (σ : xS), oc = .returned (v.map (xv g)) ∧ Φ (.inl v) σ ∧ xRep g σ t.heap) ∧ va_F (xA g) st t
def xXC (g : xG) (Φ : xRes → xS → Prop) : String → State → State → Prop := fun E st t => ∃ (n : Nat) (σ : xS), E = xE n ∧ Φ (.inr n) σ ∧ xRep g σ t.heap ∧ va_F (xA g) st t
/-- what is known of a method by the tables: with n parameters -/
def xOk (μ : xM) (n : Nat) : Prop := xW μ ∈ lw_tbl ∧ goodWord (xW μ) = true ∧ Cond.initialized (xY μ).cls ∈ lw_tbl ∧ plainName (xY μ).cls = true ∧ ((xY μ).cls ≠ "java/lang/invoke/MethodHandle" ∧ (xY μ).cls ≠ "java/lang/invoke/VarHandle" ∧ (parseMethodDescriptor (xY μ).desc).map (fun d => d.parameters.length) = some n) ∧ xL μ ≤ 41
theorem xGood (μ : xM) {n : Nat} (h : xOk μ n) {Ts : List Cond} (hT : ∀ w ∈ xWS, w ∈ Ts) : GoodIn Ts (xws μ) := by
  intro w hw
  rcases List.mem_cons.mp hw with rfl | hw
  · exact ⟨hT _ (xWS_in h.1 h.2.1), good_of_word h.2.1⟩
  · exact ⟨hT _ hw, good_of_word (List.mem_filter.mp hw).2⟩
theorem xF_refl (A : Nat → Prop) (st : State) : va_F A st st := ⟨Nat.le_refl _, fun _ _ _ => rfl⟩
theorem xEnd_MQ {μ : xM} {g : xG} {p : Program} {l : Launch} {e : Env} {R : Room} {s : State} {m : MethodId} {args : Array Value} {below : List Frame} {meth : Method} {c : Code} {Φ : xRes → xS → Prop} (hC : xCx μ g p l R s m args meth c) {c9 s9 : Nat} (hc9 : R.cells = c9) (hs9 : R.slots = s9) :
    xEnd μ g p l e R s m args below meth c (vx_MQ below (xQc g Φ) (xXC g Φ) args s c9 s9 (xA g)) Φ := by
  obtain ⟨hx, hb, hml, hr, hlocks, hown, hin, hts, htab, htr, hfr, hlo, hSF⟩ := hC
  have hg := hSF.2.2.2.2.2.2.2.2.2.2.1
  subst hc9
  subst hs9
  refine ⟨fun v σ H locs cells slots ls pc hΦ hRep hS hc hs hret => ?_, fun E σ H locs cells slots ls pc rest q ce hΦ hRep hS hc hs hq hv hcl hout => ?_⟩
  · have hf : ∀ q ∈ locs, xA g q.base := hS.2.2
    refine W.widen hc hs (vx_ret ?_)
    match v, hret, hΦ with
    | none, hret, hΦ => exact W.vret hx hb (hr.trans hret.1) (fun t ht _ => ⟨⟨none, σ, rfl, hΦ, by rw [ht]; exact hRep⟩, hS.F ht⟩) hf hret.2 hlocks
    | some (.int x), hret, hΦ =>
      obtain ⟨⟨ty, h1, h2⟩, h3⟩ := hret
      exact W.zret hx hb (hr.trans h1) h2 (fun t ht _ => ⟨⟨some (.int x), σ, rfl, hΦ, by rw [ht]; exact hRep⟩, hS.F ht⟩) hf h3 hlocks
    | some (.double x), hret, hΦ => exact W.dret hx hb (hr.trans hret.1) (fun t ht _ => ⟨⟨some (.double x), σ, rfl, hΦ, by rw [ht]; exact hRep⟩, hS.F ht⟩) hf hret.2 hlocks
    | some (.ref a), hret, hΦ =>
      obtain ⟨⟨ty, h1, h2⟩, h3⟩ := hret
      refine W.aret hx hb (hr.trans h1) h2 ?_ (fun t ht _ => ⟨⟨some (.ref a), σ, rfl, hΦ, by rw [ht]; exact hRep⟩, hS.F ht⟩) hf h3 hlocks
      by_cases ha : a < 1000000
      · exact Or.inr ⟨_, xv_ref g ha⟩
      · rw [xv_stat g (Nat.le_of_not_lt ha)]
        exact hg a (Nat.le_of_not_lt ha)
    | some .null, hret, hΦ =>
      obtain ⟨⟨ty, h1, h2⟩, h3⟩ := hret
      exact W.aret hx hb (hr.trans h1) h2 (Or.inl rfl) (fun t ht _ => ⟨⟨some .null, σ, rfl, hΦ, by rw [ht]; exact hRep⟩, hS.F ht⟩) hf h3 hlocks
    | some (.long _), hret, _ => exact hret.elim
    | some (.float _), hret, _ => exact hret.elim
    | some (.retAddr _), hret, _ => exact hret.elim
  · exact vx_out (fun x hx => hout x (by rw [← htab]; exact hx)) hlocks hq hv hcl (fun t ht _ => ⟨E, σ, rfl, hΦ, by rw [ht]; exact hRep, hS.F ht⟩) hS.2.2 hc hs
theorem xMet {μ : xM} {σ : xS} {As : List Value} {c9 s9 n : Nat} {Φ : xRes → xS → Prop} (hX : X μ 0 (xEnt As (xL μ)) [] σ c9 s9 Φ) (hok : xOk μ n) (hH : xH μ = []) (hA : (As.map fun v => v.category).sum ≤ xL μ) {l : Launch} (htr : l.stackTraces = false) (g : xG) :
    vx_Met l (xY μ) (xws μ) (xrm μ c9 s9) (xPc g As σ) (xQc g Φ) (xXC g Φ) c9 s9 (xA g) := by
  have hWe : xW μ = .code (xY μ) (xB μ) (xL μ) (xR μ) := by rw [xW, hH]
  refine vx_ofW (cc := xB μ) (maxL := xL μ) (ret := xR μ) (ws' := xWS) hok.2.2.2.1 (by rw [xws, hWe]) ?_
  intro p e s m args below meth c s₁ B hml ht hP
  obtain ⟨rfl, hRep, hSF⟩ := hP
  have hg := hSF.2.2.2.2.2.2.2.2.2.2.1
  have htl : c.exceptionTable.toList = tableOf (xH μ) := by
    rw [hH]
    cases h : c.exceptionTable.toList with
    | nil => rfl
    | cons x xs => exact (ht x (by rw [h]; exact List.mem_cons_self)).elim
  have hts := atoms_spec (ws := xws μ) B.pre
  have hC : xCx μ g p l (headSpec (xws μ) (xrm μ c9 s9)).room s m ((As.map (xv g)).toArray) meth c :=
    ⟨B.exec, B.bytes, hml, B.returns, B.notSynchronized, findClass_of_methodNamed B.named, (name_of_methodNamed B.named B.method).1, fun w hw => hts w (List.mem_cons_of_mem _ hw), htl, htr, rfl, rfl, hSF⟩
  have hl := xLv_entry g hg As (n := xL μ) (by rw [xsl_len g hg]; exact hA)
  rw [lg_entry_eq]
  exact hX g p l e _ s m _ below meth c _ hC (xEnd_MQ hC rfl rfl) s.heap [] 0 0 _ hRep hl va_S.rf (by show 0 + c9 ≤ c9; omega) (by show 0 + s9 ≤ s9; omega)
theorem xMetH {μ : xM} {σ : xS} {As : List Value} {c9 s9 n : Nat} {Φ : xRes → xS → Prop} (hX : X μ 0 (xEnt As (xL μ)) [] σ c9 s9 Φ) (hok : xOk μ n) (hW : xW μ = .codeWith (xY μ) (xB μ) (xL μ) (xR μ) (xH μ)) (hA : (As.map fun v => v.category).sum ≤ xL μ) {l : Launch} (htr : l.stackTraces = false) (g : xG) :
    vx_Met l (xY μ) (xws μ) (xrm μ c9 s9) (xPc g As σ) (xQc g Φ) (xXC g Φ) c9 s9 (xA g) := by
  refine vx_ofWH (cc := xB μ) (maxL := xL μ) (ret := xR μ) (hh := xH μ) (ws' := xWS) hok.2.2.2.1 (by rw [xws, hW]) ?_
  intro p e s m args below meth c s₁ B hml hP
  obtain ⟨rfl, hRep, hSF⟩ := hP
  have hg := hSF.2.2.2.2.2.2.2.2.2.2.1
  have hts := atoms_spec (ws := xws μ) B.pre
  have htl : c.exceptionTable.toList = tableOf (xH μ) := vx_table (x := xY μ) B (by have h := hts _ List.mem_cons_self; rw [hW] at h; exact h)
  have hC : xCx μ g p l (headSpec (xws μ) (xrm μ c9 s9)).room s m ((As.map (xv g)).toArray) meth c :=
    ⟨B.exec, B.bytes, hml, B.returns, B.notSynchronized, findClass_of_methodNamed B.named, (name_of_methodNamed B.named B.method).1, fun w hw => hts w (List.mem_cons_of_mem _ hw), htl, htr, rfl, rfl, hSF⟩
  have hl := xLv_entry g hg As (n := xL μ) (by rw [xsl_len g hg]; exact hA)
  rw [lg_entry_eq]
  exact hX g p l e _ s m _ below meth c _ hC (xEnd_MQ hC rfl rfl) s.heap [] 0 0 _ hRep hl va_S.rf (by show 0 + c9 ≤ c9; omega) (by show 0 + s9 ≤ s9; omega)

/-! calls, throws, handlers -/
def xjunk (σ : xS) : xS := xnew σ 0 0 (fun _ => .null)
theorem xPc_blind (g : xG) (As : List Value) (σ : xS) : FrameBlind (xPc g As σ) := fun a U fg mk q => ⟨q.1, q.2.1, xSF.moved (U := U.calling fg mk a) (State.WarmedH.refl U) q.2.2⟩
theorem xPc_of {g : xG} {As : List Value} {σ : xS} {s : State} {H : Heap} {locs : List Loc} (hR : xRep g σ H) (hS : va_S (xA g) s.heap H locs) (hSF : xSF g s s.heap) : ∀ U : State, U.heap = H → s.WarmedH U.vm → xPc g As σ (As.map (xv g)).toArray U := by
  intro U hU hW
  refine ⟨rfl, by rw [hU]; exact hR, ?_⟩
  rw [hU]
  exact xSF.moved hW (xSF.kept hS.1 hS.2.1 hSF)
section XCa
variable {μ μ' : xM} {pc pc' tgt : Nat} {L L' : List (Option Value)} {st : List Value} {σ : xS} {c9 s9 : Nat} {Φ Ψ : xRes → xS → Prop}
theorem xcall {g : xG} {p : Program} {l : Launch} {e : Env} {R : Room} {s : State} {m : MethodId} {args : Array Value} {below : List Frame} {meth : Method} {cd : Code} {Q : State → Prop} {H : Heap} {locs : List Loc} {cells slots c8 s8 c7 s7 : Nat} {ls : Array Slot} {a9 : Array Value} {st0 : List Value}
    (hC : xCx μ g p l R s m args meth cd) (hE : xEnd μ g p l e R s m args below meth cd Q Φ) (hL : xLv g (xL μ) L ls) (hS : va_S (xA g) s.heap H locs) (hc : cells + c8 + c7 ≤ R.cells) (hs9 : slots + s8 + s7 ≤ R.slots)
    (hr : vx_Run p l e R s m args below meth cd H locs cells slots c8 s8 (F0 m pc ls st0) (st.map (xv g)) (xQc g Ψ a9) (xXC g Ψ) (xA g))
    (k9 : ∀ v τ, Ψ (.inl v) τ → X μ (pc + 3) L (v.toList ++ st) τ c7 s7 Φ)
    (kx : ∀ (E : Nat) (τ : xS) (q : Nat) (ce : Cell) (H1 : Heap) (locs1 : List Loc), Ψ (.inr E) τ → xRep g τ H1 → va_S (xA g) s.heap H1 locs1 → H1[q]? = some ce → ce.vm = .none → s.vm.findClass (xE E) = some ce.cls → vx_W p l e R s m args below meth cd H1 locs1 (cells + c8) (slots + s8) Q (F0 m pc ls (st.map (xv g))) q) :
    W p l e R s m args below meth cd H locs cells slots Q (F0 m pc ls st0) := by
  intro T hT X9
  rcases hr T hT X9 with ⟨v, st₀, t, T', L1, h0, X', hL1, e1, e2, ⟨⟨v', τ, hv, hΨ, hRep⟩, hF⟩, hst⟩ | ⟨q, st₀, t, T', L1, E, ce, h0, X', hL1, e1, e2, ⟨n9, τ, hE', hΨ, hRep, hF⟩, hce, hcv, hcl, hst⟩
  · cases hv
    obtain ⟨k1, k2, k3⟩ := vx_keep h0 e1 hS (fun _ _ h => h) (fun _ h => h) hL1 hF
    obtain ⟨t2, a1, b1⟩ := k9 v' τ hΨ g p l e R s m args below meth cd Q hC hE T'.heap (locs ++ L1) (cells + c8) (slots + s8) ls (by rw [e1]; exact hRep) hL k3 hc hs9 T' rfl X'
    refine ⟨t2, hst t2 ?_, b1⟩
    have e9 : (v'.toList ++ st).map (xv g) = (v'.map (xv g)).toList ++ st.map (xv g) := by cases v' <;> rfl
    rw [e9] at a1
    exact a1
  · subst hE'
    obtain ⟨k1, k2, k3⟩ := vx_keep h0 e1 hS (fun _ _ h => h) (fun _ h => h) hL1 hF
    obtain ⟨t2, a1, b1⟩ := kx n9 τ q ce T'.heap (locs ++ L1) hΨ (by rw [e1]; exact hRep) k3 (by rw [e1]; exact hce) hcv hcl T' rfl X'
    exact ⟨t2, hst.trans a1, b1⟩
theorem xfixed {g : xG} {p : Program} {l : Launch} {R : Room} {s : State} {m : MethodId} {args : Array Value} {meth : Method} {cd : Code} (hC : xCx μ g p l R s m args meth cd) : CallFix p m cd (xB μ) (xL μ) s args xWS (xY μ).cls := ⟨hC.1, hC.2.1, hC.2.2.1, hC.2.2.2.2.2.1, hC.2.2.2.2.2.2.2.1⟩
theorem xcallB {g : xG} {p : Program} {l : Launch} {R : Room} {s : State} {m : MethodId} {args : Array Value} {meth : Method} {cd : Code} {idx n c8 s8 : Nat} (hC : xCx μ g p l R s m args meth cd) (h1 : Cond.methodLink (xY μ).cls idx (xY μ') ∈ lw_tbl) (hok : xOk μ' n) (hH : xH μ' = []) (hk : xK μ' < xK μ) :
    CallB R s args (xY μ).cls idx (xY μ') (xB μ') (xL μ') (xR μ') (xws μ') (xrm μ' c8 s8) c8 s8 n := by
  have hts := hC.2.2.2.2.2.2.2.1
  have hWe : xW μ' = .code (xY μ') (xB μ') (xL μ') (xR μ') := by rw [xW, hH]
  have hw : xW μ' ∈ xWS := xWS_in hok.1 hok.2.1
  refine ⟨rfl, rfl, ?_, ?_, pay_in hts (xGood μ' hok (fun _ h => h)), by rw [← hWe]; exact List.mem_cons_self, by rw [← hWe]; exact hts _ hw, hts _ (xWS_in hok.2.2.1 rfl), ⟨hok.2.2.2.2.1.1, hok.2.2.2.2.1.2.1⟩, fun sig h => ?_, hts _ (xWS_in h1 rfl)⟩
  · rw [hC.2.2.2.2.2.2.2.2.2.2.1]
    show xK μ' + 8 + 1 ≤ xK μ + 8
    omega
  · rw [hC.2.2.2.2.2.2.2.2.2.2.2.1]
    show 8 + (xL μ' + 11) + (60 * xK μ' + 200) ≤ 60 * xK μ + 200
    have := hok.2.2.2.2.2
    omega
  · have h2 := hok.2.2.2.2.1.2.2
    rw [h] at h2
    exact (Option.some.inj h2).symm
theorem xthrough {g : xG} {p : Program} {l : Launch} {e : Env} {R : Room} {s : State} {m : MethodId} {args : Array Value} {below : List Frame} {meth : Method} {cd : Code} {Q : State → Prop} {cells slots : Nat} {ls : Array Slot} {su : List Value} (hE : xEnd μ g p l e R s m args below meth cd Q Φ) (hn : xH μ = [] ∨ ∀ E τ, ¬ Ψ (.inr E) τ) (hc : cells ≤ R.cells) (hs : slots ≤ R.slots)
    (kx : ∀ E τ, Ψ (.inr E) τ → Φ (.inr E) τ) : ∀ (E : Nat) (τ : xS) (q : Nat) (ce : Cell) (H1 : Heap) (locs1 : List Loc), Ψ (.inr E) τ → xRep g τ H1 → va_S (xA g) s.heap H1 locs1 → H1[q]? = some ce → ce.vm = .none → s.vm.findClass (xE E) = some ce.cls → vx_W p l e R s m args below meth cd H1 locs1 cells slots Q (F0 m pc ls su) q := by
  intro E τ q ce H1 locs1 hΨ hR hS hq hv hcl
  rcases hn with hn | hn
  · exact hE.2 E τ H1 locs1 cells slots ls pc su q ce (kx E τ hΨ) hR hS hc hs hq hv hcl (by rw [hn]; intro x hx; cases hx)
  · exact (hn E τ hΨ).elim
/-- invokevirtual of a method of ours, of the receiver's own class -/
theorem X_callV {idx a c n c8 s8 c7 s7 : Nat} {r : vw_C} (As : List Value) {st0 : List Value} (hd : decode (xB μ) pc = .ok (.invokevirtual idx, 3)) (hp : pc + 3 = pc') (h1 : Cond.methodLink (xY μ).cls idx (xY μ') ∈ lw_tbl) (h2 : Cond.instanceMethod (xY μ') ∈ lw_tbl) (h3 : Cond.selects (xY μ').cls (xY μ') (xY μ') ∈ lw_tbl) (hok : xOk μ' n) (hH : xH μ' = []) (hk : xK μ' < xK μ)
    (ha : a < σ.1) (hsh : (σ.2.1 a).1 = c + 1) (hr : xcl[c]? = some r) (hcl : r.1 = (xY μ').cls) (hn : As.length = n) (hA : ((.ref a :: As).map fun v => v.category).sum ≤ xL μ') (hrest : (st.map fun v => v.category).sum ≤ 8) (hst : As.reverse ++ .ref a :: st = st0)
    (hX : X μ' 0 (xEnt (.ref a :: As) (xL μ')) [] σ c8 s8 Ψ) (hc9 : c9 = c8 + c7) (hs9 : s9 = s8 + s7) (hno : xH μ = [] ∨ ∀ E τ, ¬ Ψ (.inr E) τ)
    (k9 : ∀ v τ, Ψ (.inl v) τ → X μ pc' L (v.toList ++ st) τ c7 s7 Φ) (kx : ∀ E τ, Ψ (.inr E) τ → Φ (.inr E) τ) : X μ pc L st0 σ c9 s9 Φ := by
  subst hp
  subst hst
  subst hc9
  subst hs9
  intro g p l e R s m args below meth cd Q hC hE H locs cells slots ls hR hL hS hc hs9
  have hts := hC.2.2.2.2.2.2.2.1
  have hSF := hC.2.2.2.2.2.2.2.2.2.2.2.2
  have hg := hSF.2.2.2.2.2.2.2.2.2.2.1
  have ha' : a < 1000000 := Nat.lt_of_lt_of_le ha hR.2.1
  have hcB : ∃ cellB : Cell, H[gB g + a]? = some cellB ∧ cellB.vm.isStatics = false ∧ s.vm.findClass (xY μ').cls = some cellB.cls := by
    have hc7 := xcl_lt hr
    rcases hR.2.2.1 a ha with h0 | ⟨-, -, r', hr', ⟨cell, q1, q2, q3, -⟩, -⟩ | ⟨h20, -, -⟩
    · omega
    · rw [hsh, Nat.add_sub_cancel] at hr' q2
      cases hr.symm.trans hr'
      exact ⟨cell, q1, by rw [q3]; rfl, by rw [q2, ← hcl]; exact (hSF.1 c r hr).2.1⟩
    · omega
  have e1 : (As.reverse ++ .ref a :: st).map (xv g) = (As.map (xv g)).reverse ++ .ref (gB g + a) :: st.map (xv g) := by simp [xv_ref g ha']
  rw [e1]
  have hM := xMet hX hok hH hA hC.2.2.2.2.2.2.2.2.2.1 g
  have e2 : (Value.ref (gB g + a) :: As.map (xv g)).toArray = ((.ref a :: As).map (xv g)).toArray := by rw [List.map_cons, xv_ref g ha']
  refine xcall hC hE hL hS (by omega) (by omega) (vx_runV (xfixed hC) hM ⟨xcallB hC h1 hok hH hk, hts _ (xWS_in h2 rfl), hts _ (xWS_in h3 rfl)⟩ ⟨xPc_blind g _ σ, hcB, fun U hU hW => by rw [e2]; exact xPc_of hR hS hSF U hU hW⟩ rfl (by rw [List.length_map]; exact hn) hL.2.1 rfl (by show 2 * 0 + _ ≤ 8; rw [xrest g hg]; omega) hd ⟨by omega, by omega⟩) k9 (xthrough hE hno (by omega) (by omega) kx)
/-- .. of a String constant -/
theorem X_callVS {idx a z n c8 s8 c7 s7 : Nat} (As : List Value) {st0 : List Value} (hd : decode (xB μ) pc = .ok (.invokevirtual idx, 3)) (hp : pc + 3 = pc') (h1 : Cond.methodLink (xY μ).cls idx (xY μ') ∈ lw_tbl) (h2 : Cond.instanceMethod (xY μ') ∈ lw_tbl) (h3 : Cond.selects (xY μ').cls (xY μ') (xY μ') ∈ lw_tbl) (hok : xOk μ' n) (hH : xH μ' = []) (hk : xK μ' < xK μ)
    (ha : 1000000 ≤ a) (hsh : σ.2.1 a = (31, z)) (hcl : (xY μ').cls = "java/lang/String") (hn : As.length = n) (hA : ((.ref a :: As).map fun v => v.category).sum ≤ xL μ') (hrest : (st.map fun v => v.category).sum ≤ 8) (hst : As.reverse ++ .ref a :: st = st0)
    (hX : X μ' 0 (xEnt (.ref a :: As) (xL μ')) [] σ c8 s8 Ψ) (hc9 : c9 = c8 + c7) (hs9 : s9 = s8 + s7) (hno : xH μ = [] ∨ ∀ E τ, ¬ Ψ (.inr E) τ)
    (k9 : ∀ v τ, Ψ (.inl v) τ → X μ pc' L (v.toList ++ st) τ c7 s7 Φ) (kx : ∀ E τ, Ψ (.inr E) τ → Φ (.inr E) τ) : X μ pc L st0 σ c9 s9 Φ := by
  subst hp
  subst hst
  subst hc9
  subst hs9
  intro g p l e R s m args below meth cd Q hC hE H locs cells slots ls hR hL hS hc hs9
  have hts := hC.2.2.2.2.2.2.2.1
  have hSF := hC.2.2.2.2.2.2.2.2.2.2.2.2
  have hg := hSF.2.2.2.2.2.2.2.2.2.2.1
  obtain ⟨z1, z2⟩ := hR.2.2.2 a ha
  rw [z1] at hsh
  obtain ⟨t, he, hO, -, -⟩ := hSF.2.2.2.2.1 a z ha hsh
  have hcB : ∃ cellB : Cell, H[t]? = some cellB ∧ cellB.vm.isStatics = false ∧ s.vm.findClass (xY μ').cls = some cellB.cls := by
    obtain ⟨cell, q1, q2, q3, -⟩ := hO.kept hS.2.1
    exact ⟨cell, q1, q2, by rw [hcl]; exact q3⟩
  have e0 : xv g (.ref a) = .ref t := by rw [xv_stat g ha, he]
  have e1 : (As.reverse ++ .ref a :: st).map (xv g) = (As.map (xv g)).reverse ++ .ref t :: st.map (xv g) := by simp [e0]
  rw [e1]
  have hM := xMet hX hok hH hA hC.2.2.2.2.2.2.2.2.2.1 g
  have e2 : (Value.ref t :: As.map (xv g)).toArray = ((.ref a :: As).map (xv g)).toArray := by rw [List.map_cons, e0]
  refine xcall hC hE hL hS (by omega) (by omega) (vx_runV (xfixed hC) hM ⟨xcallB hC h1 hok hH hk, hts _ (xWS_in h2 rfl), hts _ (xWS_in h3 rfl)⟩ ⟨xPc_blind g _ σ, hcB, fun U hU hW => by rw [e2]; exact xPc_of hR hS hSF U hU hW⟩ rfl (by rw [List.length_map]; exact hn) hL.2.1 rfl (by show 2 * 0 + _ ≤ 8; rw [xrest g hg]; omega) hd ⟨by omega, by omega⟩) k9 (xthrough hE hno (by omega) (by omega) kx)
theorem X_callS {idx n c8 s8 c7 s7 : Nat} (As : List Value) {st0 : List Value} (hd : decode (xB μ) pc = .ok (.invokestatic idx, 3)) (hp : pc + 3 = pc') (h1 : Cond.methodLink (xY μ).cls idx (xY μ') ∈ lw_tbl) (h2 : Cond.static (xY μ') ∈ lw_tbl) (hok : xOk μ' n) (hH : xH μ' = []) (hk : xK μ' < xK μ)
    (hn : As.length = n) (hA : (As.map fun v => v.category).sum ≤ xL μ') (hrest : (st.map fun v => v.category).sum ≤ 8) (hst : As.reverse ++ st = st0)
    (hX : X μ' 0 (xEnt As (xL μ')) [] σ c8 s8 Ψ) (hc9 : c9 = c8 + c7) (hs9 : s9 = s8 + s7) (hno : xH μ = [] ∨ ∀ E τ, ¬ Ψ (.inr E) τ)
    (k9 : ∀ v τ, Ψ (.inl v) τ → X μ pc' L (v.toList ++ st) τ c7 s7 Φ) (kx : ∀ E τ, Ψ (.inr E) τ → Φ (.inr E) τ) : X μ pc L st0 σ c9 s9 Φ := by
  subst hp
  subst hst
  subst hc9
  subst hs9
  intro g p l e R s m args below meth cd Q hC hE H locs cells slots ls hR hL hS hc hs9
  have hts := hC.2.2.2.2.2.2.2.1
  have hSF := hC.2.2.2.2.2.2.2.2.2.2.2.2
  have hg := hSF.2.2.2.2.2.2.2.2.2.2.1
  have e1 : (As.reverse ++ st).map (xv g) = (As.map (xv g)).reverse ++ st.map (xv g) := by simp
  rw [e1]
  have hM := xMet hX hok hH hA hC.2.2.2.2.2.2.2.2.2.1 g
  refine xcall hC hE hL hS (by omega) (by omega) (vx_runS (xfixed hC) hM ⟨xcallB hC h1 hok hH hk, hts _ (xWS_in h2 rfl)⟩ ⟨xPc_blind g _ σ, xPc_of hR hS hSF⟩ rfl (by rw [List.length_map]; exact hn) hL.2.1 rfl (by show 2 * 0 + _ ≤ 8; rw [xrest g hg]; omega) hd ⟨by omega, by omega⟩) k9 (xthrough hE hno (by omega) (by omega) kx)
/-- a static method with a table of its own -/
theorem X_callSH {idx n c8 s8 c7 s7 : Nat} (As : List Value) {st0 : List Value} (hd : decode (xB μ) pc = .ok (.invokestatic idx, 3)) (hp : pc + 3 = pc') (h1 : Cond.methodLink (xY μ).cls idx (xY μ') ∈ lw_tbl) (h2 : Cond.static (xY μ') ∈ lw_tbl) (hok : xOk μ' n) (hW : xW μ' = .codeWith (xY μ') (xB μ') (xL μ') (xR μ') (xH μ')) (hk : xK μ' < xK μ)
    (hn : As.length = n) (hA : (As.map fun v => v.category).sum ≤ xL μ') (hrest : (st.map fun v => v.category).sum ≤ 8) (hst : As.reverse ++ st = st0)
    (hX : X μ' 0 (xEnt As (xL μ')) [] σ c8 s8 Ψ) (hc9 : c9 = c8 + c7) (hs9 : s9 = s8 + s7) (hno : xH μ = [] ∨ ∀ E τ, ¬ Ψ (.inr E) τ)
    (k9 : ∀ v τ, Ψ (.inl v) τ → X μ pc' L (v.toList ++ st) τ c7 s7 Φ) (kx : ∀ E τ, Ψ (.inr E) τ → Φ (.inr E) τ) : X μ pc L st0 σ c9 s9 Φ := by
  subst hp
  subst hst
  subst hc9
  subst hs9
  subst hn
  intro g p l e R s m args below meth cd Q hC hE H locs cells slots ls hR hL hS hc hs9
  have hts := hC.2.2.2.2.2.2.2.1
  have hSF := hC.2.2.2.2.2.2.2.2.2.2.2.2
  have hg := hSF.2.2.2.2.2.2.2.2.2.2.1
  have e1 : (As.reverse ++ st).map (xv g) = (As.map (xv g)).reverse ++ st.map (xv g) := by simp
  rw [e1]
  have hM := xMetH hX hok hW hA hC.2.2.2.2.2.2.2.2.2.1 g
  have hw : xW μ' ∈ xWS := xWS_in hok.1 hok.2.1
  refine xcall hC hE hL hS (by omega) (by omega) (vx_runSX (hh := xH μ') (xfixed hC) hM (ret := xR μ') (bytes := xB μ') (maxL := xL μ') ⟨⟨rfl, rfl, ?_, ?_, pay_in hts (xGood μ' hok (fun _ h => h)), by rw [← hW]; exact List.mem_cons_self⟩, by rw [← hW]; exact hts _ hw, hts _ (xWS_in hok.2.2.1 rfl), ⟨hok.2.2.2.2.1.1, hok.2.2.2.2.1.2.1⟩, fun sig h => ?_, hts _ (xWS_in h1 rfl), hts _ (xWS_in h2 rfl)⟩ ⟨xPc_blind g _ σ, xPc_of hR hS hSF⟩ rfl (by rw [List.length_map]) hL.2.1 rfl (by show 2 * 0 + _ ≤ 8; rw [xrest g hg]; omega) hd ⟨by omega, by omega⟩) k9 (xthrough hE hno (by omega) (by omega) kx)
  · rw [hC.2.2.2.2.2.2.2.2.2.2.1]
    show xK μ' + 8 + 1 ≤ xK μ + 8
    omega
  · rw [hC.2.2.2.2.2.2.2.2.2.2.2.1]
    show 8 + (xL μ' + 11) + (60 * xK μ' + 200) ≤ 60 * xK μ + 200
    have := hok.2.2.2.2.2
    omega
  · have h2 := hok.2.2.2.2.1.2.2
    rw [h] at h2
    exact (Option.some.inj h2).symm
/-- a constructor of ours; of a nest mate too -/
theorem X_callI {idx a n c8 s8 c7 s7 : Nat} (As : List Value) {st0 : List Value} (hd : decode (xB μ) pc = .ok (.invokespecial idx, 3)) (hp : pc + 3 = pc') (h1 : Cond.methodLink (xY μ).cls idx (xY μ') ∈ lw_tbl ∨ ∃ host, Cond.methodLinkNest (xY μ).cls idx (xY μ') host ∈ lw_tbl) (h2 : Cond.instanceMethod (xY μ') ∈ lw_tbl) (hin : (xY μ').name = "<init>") (hok : xOk μ' n) (hH : xH μ' = []) (hrn : xR μ' = none) (hk : xK μ' < xK μ)
    (ha : a < σ.1) (hn : As.length = n) (hA : ((.ref a :: As).map fun v => v.category).sum ≤ xL μ') (hrest : (st.map fun v => v.category).sum ≤ 8) (hst : As.reverse ++ .ref a :: st = st0)
    (hX : X μ' 0 (xEnt (.ref a :: As) (xL μ')) [] σ c8 s8 Ψ) (hc9 : c9 = c8 + c7) (hs9 : s9 = s8 + s7) (hno : xH μ = [] ∨ ∀ E τ, ¬ Ψ (.inr E) τ)
    (k9 : ∀ v τ, Ψ (.inl v) τ → X μ pc' L (v.toList ++ st) τ c7 s7 Φ) (kx : ∀ E τ, Ψ (.inr E) τ → Φ (.inr E) τ) : X μ pc L st0 σ c9 s9 Φ := by
  subst hp
  subst hst
  subst hc9
  subst hs9
  subst hn
  intro g p l e R s m args below meth cd Q hC hE H locs cells slots ls hR hL hS hc hs9
  have hts := hC.2.2.2.2.2.2.2.1
  have hSF := hC.2.2.2.2.2.2.2.2.2.2.2.2
  have hg := hSF.2.2.2.2.2.2.2.2.2.2.1
  have ha' : a < 1000000 := Nat.lt_of_lt_of_le ha hR.2.1
  have e1 : (As.reverse ++ .ref a :: st).map (xv g) = (As.map (xv g)).reverse ++ .ref (gB g + a) :: st.map (xv g) := by simp [xv_ref g ha']
  rw [e1]
  have hM := xMet hX hok hH hA hC.2.2.2.2.2.2.2.2.2.1 g
  have e2 : (Value.ref (gB g + a) :: As.map (xv g)) = ((.ref a :: As).map (xv g)) := by rw [List.map_cons, xv_ref g ha']
  have hWe : xW μ' = .code (xY μ') (xB μ') (xL μ') none := by rw [xW, hH, hrn]
  have hw : xW μ' ∈ xWS := xWS_in hok.1 hok.2.1
  rcases h1 with h1 | ⟨host, h1⟩
  · have hB := xcallB (c8 := c8) (s8 := s8) hC h1 hok hH hk
    rw [hrn] at hB
    refine xcall hC hE hL hS (by omega) (by omega) (vx_runI (xfixed hC) hM ⟨hB, hin, hts _ (xWS_in h2 rfl)⟩ ⟨xPc_blind g _ σ, fun U hU hW => by rw [e2]; exact xPc_of hR hS hSF U hU hW⟩ rfl (by rw [List.length_map]) hL.2.1 rfl (by show 2 * 0 + _ ≤ 8; rw [xrest g hg]; omega) hd ⟨by omega, by omega⟩) k9 (xthrough hE hno (by omega) (by omega) kx)
  · refine xcall hC hE hL hS (by omega) (by omega) (vx_runIN (xfixed hC) hM (bytes := xB μ') (maxL := xL μ') (host := host) ⟨⟨⟨rfl, rfl, ?_, ?_, pay_in hts (xGood μ' hok (fun _ h => h)), by rw [← hWe]; exact List.mem_cons_self⟩, by rw [← hWe]; exact hts _ hw, hts _ (xWS_in hok.2.2.1 rfl), ⟨hok.2.2.2.2.1.1, hok.2.2.2.2.1.2.1⟩, fun sig h => ?_, va_Nw.use rfl (hSF.2.2.2.2.2.2.2.1 _ h1 rfl)⟩, hin, hts _ (xWS_in h2 rfl)⟩ ⟨xPc_blind g _ σ, fun U hU hW => by rw [e2]; exact xPc_of hR hS hSF U hU hW⟩ rfl (by rw [List.length_map]) hL.2.1 rfl (by show 2 * 0 + _ ≤ 8; rw [xrest g hg]; omega) hd ⟨by omega, by omega⟩) k9 (xthrough hE hno (by omega) (by omega) kx)
    · rw [hC.2.2.2.2.2.2.2.2.2.2.1]
      show xK μ' + 8 + 1 ≤ xK μ + 8
      omega
    · rw [hC.2.2.2.2.2.2.2.2.2.2.2.1]
      show 8 + (xL μ' + 11) + (60 * xK μ' + 200) ≤ 60 * xK μ + 200
      have := hok.2.2.2.2.2
      omega
    · have h2 := hok.2.2.2.2.1.2.2
      rw [h] at h2
      exact (Option.some.inj h2).symm
/-- Object.<init> -/
theorem X_objInit {idx a : Nat} (hd : decode (xB μ) pc = .ok (.invokespecial idx, 3)) (hp : pc + 3 = pc') (h1 : Cond.methodLink (xY μ).cls idx Lib.objectInit ∈ lw_tbl) (h2 : Cond.instanceMethod Lib.objectInit ∈ lw_tbl) (h3 : Cond.code Lib.objectInit ⟨#[0xb1]⟩ 1 none ∈ lw_tbl) (ha : a < 1000000) (hrest : (st.map fun v => v.category).sum ≤ 100) (k9 : X μ pc' L st σ c9 s9 Φ) : X μ pc L (.ref a :: st) σ c9 s9 Φ := by
  subst hp
  intro g p l e R s m args below meth cd Q hC hE H locs cells slots ls hR hL hS hc hs9
  have hts := hC.2.2.2.2.2.2.2.1
  have hg := hC.2.2.2.2.2.2.2.2.2.2.2.2.2.2.2.2.2.2.2.2.2.2.1
  rw [List.map_cons, xv_ref g ha]
  exact W.objInit hC.1 hC.2.1 hC.2.2.2.2.2.1 (hts _ (xWS_in h1 rfl)) (hts _ (xWS_in h2 rfl)) (hts _ (xWS_in h3 rfl)) rfl (by rw [hC.2.2.1]; exact hL.2.1) rfl hd (by rw [hC.2.2.2.2.2.2.2.2.2.2.1]; omega) (by rw [hC.2.2.2.2.2.2.2.2.2.2.2.1]; show 2 * 0 + _ + 12 ≤ _; rw [xrest g hg]; omega) (k9 g p l e R s m args below meth cd Q hC hE H locs cells slots ls hR hL hS hc hs9)
/-- 'new E(text)' on the stack; the text by a short or a wide index -/
theorem xmakeE {p : Program} {l : Launch} {e : Env} {R : Room} {s : State} {m : MethodId} {args : Array Value} {below : List Frame} {meth : Method} {c : Code} {H : Heap} {locs : List Loc} {cells slots : Nat} {Q : State → Prop} {ls : Array Slot} {rest : List Value} {cc : ByteArray} {pc w ix : Nat} {rx : ByteArray} (x0 : decode rx 0 = .ok (.aload_n 0, 1)) (x1 : decode rx 1 = .ok (.aload_n 1, 1)) (x2 : decode rx 2 = .ok (.invokespecial ix, 3)) (x5 : decode rx 5 = .ok (.return_, 1)) (hexec : p.tables.exec = Jvm.exec) (hb : c.code = cc) (hl : l.stackTraces = false) {own cls text : String} {names : List String} {ik is ic sa : Nat} {A : Nat → Prop}
    (hown : s.vm.findClass own = some m.cls) (hcls : Bundle.fit cls = true) (hnames : ∀ n ∈ names, Bundle.fit n = true)
    (hk : (Cond.classLink own ik cls).before args s = true) (hini : (Cond.initialized cls).before args s = true) (hstr : vk_R own is text sa s) (hat : ∀ w ∈ (xAtX own ic cls ix rx names).filter vx_no, w.before args s = true)
    (hgood : ∀ w ∈ Cond.classLink own ik cls :: Cond.initialized cls :: (xAtX own ic cls ix rx names).filter vx_no, vx_ot w = true)
    (hU : vx_Zq Bundle.tN "UNASSIGNED_STACK" Bundle.steD A s s.heap) (hN : vx_Zq Bundle.tN "SUPPRESSED_SENTINEL" Bundle.listD A s s.heap) (hS : va_S A s.heap H locs) (hsize : ls.size = c.maxLocals)
    (d0 : decode cc pc = .ok (.new ik, 3)) (d3 : decode cc (pc + 3) = .ok (.dup, 1)) (d4 : (w = 2 ∧ decode cc (pc + 4) = .ok (.ldc is, 2)) ∨ (w = 3 ∧ decode cc (pc + 4) = .ok (.ldc_w is, 3))) (d6 : decode cc (pc + 4 + w) = .ok (.invokespecial ic, 3))
    (hRframes : names.length + 3 < R.frames) (hRlocals : (rest.map fun v => v.category).sum + (13 * (names.length + 1) + 43) ≤ R.locals) (hRcells : cells + 1 ≤ R.cells) (hRslots : slots + 6 ≤ R.slots)
    (kk : ∀ (H1 : Heap) (ce : Cell), H1.size = H.size + 1 → (∀ q : Nat, q < H.size → H1[q]? = H[q]?) → H1[H.size]? = some ce → ce.vm = .none → s.vm.findClass cls = some ce.cls → va_S A s.heap H1 locs → W p l e R s m args below meth c H1 locs (cells + 1) (slots + 6) Q (F0 m (pc + 4 + w + 3) ls (.ref H.size :: rest))) :
    W p l e R s m args below meth c H locs cells slots Q (F0 m pc ls rest) := by
  intro T hT X
  subst hT
  have htr : e.platform.stackTraces = false := (show e.platform.stackTraces = l.stackTraces by rw [X.admits.platform]).trans hl
  have Y := vx_rebase X (R' := { frames := R.frames, locals := R.locals, cells := 1, slots := 6 }) (Nat.le_refl _) (Nat.le_refl _) hRcells hRslots
  obtain ⟨s', hA'⟩ : ∃ z, z = (T.setVm s.vm).setFrames (.invoking m args :: below) := ⟨_, rfl⟩
  rw [← hA'] at Y
  have hvm : s'.vm = s.vm := by rw [hA']; rfl
  have hhp : s'.heap = T.heap := by rw [hA']; rfl
  have hW0 : s.WarmedH s'.vm := by rw [hvm]; exact State.WarmedH.refl s
  have hat' : ∀ w ∈ (xAtX own ic cls ix rx names).filter vx_no, w.before args s' = true := fun w hw => vx_ot_at hW0 hvm.symm (hgood w (List.mem_cons_of_mem _ (List.mem_cons_of_mem _ hw))) (hat w hw)
  have hk' : (Cond.classLink own ik cls).before args s' = true := vx_ot_at hW0 hvm.symm (hgood _ List.mem_cons_self) hk
  have hini' : (Cond.initialized cls).before args s' = true := vx_ot_at hW0 hvm.symm (hgood _ (List.mem_cons_of_mem _ List.mem_cons_self)) hini
  have hU' : vx_Zq Bundle.tN "UNASSIGNED_STACK" Bundle.steD A s' s'.heap := by rw [hhp]; exact vx_Zq.moved hW0.alike (hU.kept hS.2.1)
  have hN' : vx_Zq Bundle.tN "SUPPRESSED_SENTINEL" Bundle.listD A s' s'.heap := by rw [hhp]; exact vx_Zq.moved hW0.alike (hN.kept hS.2.1)
  have h : ∀ w ∈ xAtX own ic cls ix rx names, w.before args s' = true := vx_own hat' (vx_isRefq hU'.1) (vx_isRefq hN'.1) hU'.2.word hN'.2.word
  have hown' : s'.vm.findClass own = some m.cls := by rw [hvm]; exact hown
  have hins : (Cond.instantiable cls 6).before args s' = true := h _ (by simp [xAtX])
  obtain ⟨vm₁, cX, kX, hfX, hkX, -, -, X₁, st1⟩ := Y.newCold hexec (own := own) (C := cls) (index := ik) (n := 6) hown' hk' hins hini'
    (g := F0 m pc ls rest) rfl (by rw [hb]; exact d0) (Nat.le_refl _) (Nat.le_refl _)
  generalize hT1 : (T.setVm vm₁).pushCell { cls := cX, slots := kX.instanceTypes.map defaultValue, vm := .none } = T1 at X₁ st1
  have hcat : (Value.ref T.heap.size).category = 1 := rfl
  have hcellA : T1.heap[T.heap.size]? = some (freshCell cX kX) := by rw [← hT1]; exact State.heap_pushCell_size _ _
  have d3' : decode c.code (pc + 3) = .ok (.dup, 1) := by rw [hb]; exact d3
  have hstr' : vk_R own is text sa s' := vk_R.warm hW0 hstr
  obtain ⟨V, ce, L, Z, hL, hlt, hcl9, hvm9, st⟩ := xctorMadeX X₁ hexec htr x0 x1 x2 x5 (own := own) (cls := cls) (names := names) (ic := ic) hown' hcls hnames h (fun x hx => nomatch hx) hfX hkX hcellA (by rw [hhp]; exact Nat.le_refl _) (msg := .ref sa) rfl
    (g := { method := m, pc := pc + 4 + w, locals := ls, stack := .ref sa :: .ref T.heap.size :: .ref T.heap.size :: rest, locked := none }) rfl hsize (rest := rest) rfl
    (by rw [hb]; exact d6) hRframes (by simp only [List.map_cons, List.sum_cons, hcat]; omega)
  have Z0 := Stand.forget (locs := []) Z (fun y hy => by rw [hL y hy, hhp]; exact Nat.le_refl _)
  obtain ⟨f1, f2⟩ := vx_frame Z0.same
  have f0 : (V.setCell T.heap.size ce).heap.size ≤ s'.heap.size + (0 + 1) := Z0.same.2.2.1
  rw [hhp] at f1 f2 f0
  have hh : (V.setCell T.heap.size ce).heap[T.heap.size]? = some ce := heapAt_setCell_self (s := V) ce hlt
  have hsz : (V.setCell T.heap.size ce).heap.size = T.heap.size + 1 := by
    have := (Array.getElem?_eq_some_iff.mp hh).1
    omega
  have hcl : s.vm.findClass cls = some ce.cls := by
    rw [hvm] at hfX
    rw [hcl9]
    exact hfX
  subst hA'
  have X5 := vx_back9 X Y Z0
  have X6 : Stand p l e R s m args below meth c (V.setCell T.heap.size ce) locs (cells + 1) (slots + 6) := { X5 with same := X5.same.mono (by omega) (by omega) }
  have g2 : ∀ q : Nat, q < T.heap.size → (V.setCell T.heap.size ce).heap[q]? = T.heap[q]? := fun q hq => f2 q hq (fun z hz => nomatch hz)
  obtain ⟨t, a1, b1⟩ := kk (V.setCell T.heap.size ce).heap ce hsz g2 hh hvm9 hcl ⟨Nat.le_trans hS.1 f1, fun q h1 h2 => (g2 q (Nat.lt_of_lt_of_le h1 hS.1)).trans (hS.2.1 q h1 h2), hS.2.2⟩ _ rfl X6
  refine ⟨t, st1 _ ?_, b1⟩
  show Steps p.tables e below (T1.setTop { method := m, pc := pc + 3, locals := ls, stack := .ref T.heap.size :: rest, locked := none }) _
  jvm_step X₁.here [X₁.here.top, hexec, d3', Value.category]
  rcases d4 with ⟨rfl, d4⟩ | ⟨rfl, d4⟩
  · exact X₁.ldcString hexec (own := own) (text := text) (index := is) (a := sa) hown' hstr'.1 hstr'.2
      (g := { method := m, pc := pc + 4, locals := ls, stack := .ref T.heap.size :: .ref T.heap.size :: rest, locked := none }) rfl (by rw [hb]; exact d4) _ (st _ a1)
  · exact X₁.ldcStringW hexec (own := own) (text := text) (index := is) (a := sa) hown' hstr'.1 hstr'.2
      (g := { method := m, pc := pc + 4, locals := ls, stack := .ref T.heap.size :: .ref T.heap.size :: rest, locked := none }) rfl (by rw [hb]; exact d4) _ (st _ a1)
def xnames : List String := ["java/lang/RuntimeException", "java/lang/Exception"]
/-- the tables' words for a throw of E out of class own by the pool's rows ik, ic -/
def xix (E : Nat) : Nat := if E = 3 then 7 else 7
def xrx (E : Nat) : ByteArray := if E = 3 then Bundle.six else Bundle.six
theorem xrx_ok (E : Nat) : decode (xrx E) 0 = .ok (.aload_n 0, 1) ∧ decode (xrx E) 1 = .ok (.aload_n 1, 1) ∧ decode (xrx E) 2 = .ok (.invokespecial (xix E), 3) ∧ decode (xrx E) 5 = .ok (.return_, 1) := by
  unfold xrx xix
  by_cases h : E = 3
  · rw [if_pos h, if_pos h]
    exact ⟨by decide +kernel, by decide +kernel, by decide +kernel, by decide +kernel⟩
  · rw [if_neg h, if_neg h]
    exact ⟨by decide +kernel, by decide +kernel, by decide +kernel, by decide +kernel⟩
def xTh (own : String) (E ik ic : Nat) : Prop := Bundle.fit (xE E) = true ∧ Cond.classLink own ik (xE E) ∈ lw_tbl ∧ Cond.initialized (xE E) ∈ lw_tbl ∧ ((xAtX own ic (xE E) (xix E) (xrx E) xnames).filter vx_no).all (fun w => decide (w ∈ lw_tbl) && (goodWord w || xnw w)) = true
theorem xnw_ot {w : Cond} (h : goodWord w = true ∨ xnw w = true) : vx_ot w = true := by
  rcases h with h | h
  · simp [vx_ot, h]
  · cases w <;> first | rfl | (cases h; done)
theorem X_throw {E ik is ic a w : Nat} {tx : String} (hd0 : decode (xB μ) pc = .ok (.new ik, 3)) (hd3 : decode (xB μ) (pc + 3) = .ok (.dup, 1)) (hd4 : (w = 2 ∧ decode (xB μ) (pc + 4) = .ok (.ldc is, 2)) ∨ (w = 3 ∧ decode (xB μ) (pc + 4) = .ok (.ldc_w is, 3))) (hd6 : decode (xB μ) (pc + 4 + w) = .ok (.invokespecial ic, 3)) (hd9 : decode (xB μ) (pc + 4 + w + 3) = .ok (.athrow, 1))
    (hT : xTh (xY μ).cls E ik ic) (hq : ((xY μ).cls, is, tx, a) ∈ xstr) (hrest : (st.map fun v => v.category).sum ≤ 8) (hN : σ.1 < 1000000) (hc9 : 1 ≤ c9) (hs9 : 6 ≤ s9) (hH : xH μ = []) (k9 : Φ (.inr E) (xjunk σ)) : X μ pc L st σ c9 s9 Φ := by
  intro g p l e R s m args below meth cd Q hC hE H locs cells slots ls hR hL hS hc hs'
  have hts := hC.2.2.2.2.2.2.2.1
  have hSF := hC.2.2.2.2.2.2.2.2.2.2.2.2
  have hg := hSF.2.2.2.2.2.2.2.2.2.2.1
  obtain ⟨hfit, h1, h2, h3⟩ := hT
  obtain ⟨t, -, hZ⟩ := hSF.2.2.2.2.2.2.1 _ hq
  have hw : ∀ w ∈ (xAtX (xY μ).cls ic (xE E) (xix E) (xrx E) xnames).filter vx_no, w ∈ lw_tbl ∧ (goodWord w = true ∨ xnw w = true) := by
    intro w hw
    have h4 := List.all_eq_true.mp h3 w hw
    simp only [Bool.and_eq_true, Bool.or_eq_true, decide_eq_true_eq] at h4
    exact h4
  refine xmakeE (ix := xix E) (rx := xrx E) (xrx_ok E).1 (xrx_ok E).2.1 (xrx_ok E).2.2.1 (xrx_ok E).2.2.2 hC.1 hC.2.1 hC.2.2.2.2.2.2.2.2.2.1 (names := xnames) (w := w) hC.2.2.2.2.2.1 hfit (by decide +kernel) (hts _ (xWS_in h1 rfl)) (hts _ (xWS_in h2 rfl)) hZ (fun w h => ?_) (fun w h => ?_) hSF.2.2.2.2.2.2.2.2.2.1.1 hSF.2.2.2.2.2.2.2.2.2.1.2 hS (by rw [hC.2.2.1]; exact hL.2.1) hd0 hd3 hd4 hd6 (by rw [hC.2.2.2.2.2.2.2.2.2.2.1]; show 2 + 3 < xK μ + 8; omega) (by rw [hC.2.2.2.2.2.2.2.2.2.2.2.1, xrest g hg]; show _ + (13 * (2 + 1) + 43) ≤ _; omega) (by omega) (by omega) (fun H1 ce z1 o1 q1 hv hcl hS1 => ?_)
  · obtain ⟨h4, h5 | h5⟩ := hw w h
    · exact hts _ (xWS_in h4 h5)
    · refine va_Nw.use ?_ (hSF.2.2.2.2.2.2.2.1 _ h4 h5)
      cases w <;> first | rfl | (cases h5; done)
  · rcases List.mem_cons.mp h with rfl | h
    · exact xnw_ot (Or.inl rfl)
    · rcases List.mem_cons.mp h with rfl | h
      · exact xnw_ot (Or.inl rfl)
      · exact xnw_ot (hw w h).2
  · refine vx_athrow hC.1 hC.2.1 hd9 ?_
    exact hE.2 E (xjunk σ) H1 locs (cells + 1) (slots + 6) ls _ _ _ ce k9 (xRep_new hR hN z1 o1 (Or.inl rfl)) hS1 (by omega) (by omega) q1 hv hcl (by rw [hH]; intro x hx; cases hx)
theorem xLv_stN {g : xG} (hg : ∀ k, 1000000 ≤ k → gV g k = .null ∨ ∃ t, gV g k = .ref t) {nL : Nat} {L : List (Option Value)} {ls ls' : Array Slot} {i : Nat} {w : Value} (h : xLv g nL L ls) (h1 : i = 0 ∨ xC1 L[i - 1]? = true)
    (h' : lv_has ls' nL ((i, w) :: (xP g L).filter (fun q => !(q.1 == i) && !(q.1 + 1 == i && q.2.category == 2)))) : xLv g nL (L.set i none) ls' := by
  obtain ⟨a, b, c⟩ := h'
  refine ⟨by rw [List.length_set]; exact h.1, a, b, fun j w hj => ?_⟩
  by_cases hij : i = j
  · subst hij
    by_cases hl : i < L.length
    · rw [List.getElem?_set_self hl] at hj; cases hj
    · rw [List.getElem?_eq_none (by rw [List.length_set]; omega)] at hj; cases hj
  · rw [List.getElem?_set_ne hij] at hj
    refine c (j, xv g w) (List.mem_cons_of_mem _ (List.mem_filter.mpr ⟨xP_in.mpr ⟨w, hj, rfl⟩, ?_⟩))
    have e1 : (j == i) = false := by simp; omega
    have e2 : (j + 1 == i && (xv g w).category == 2) = false := by
      by_cases e : j + 1 = i
      · rcases h1 with h1 | h1
        · omega
        · rw [show i - 1 = j by omega, hj] at h1
          have h3 : w.category = 1 := by simpa [xC1] using h1
          rw [xcat g w hg, h3]
          simp
      · simp [e]
    simp only [e1, e2]
    rfl
/-- E, thrown at pc, is taken by the row x of the table, whose handler stores it in place i and goes on at 'to' -/
def xHan (μ : xM) (E pc i to : Nat) : Prop := ∃ (pre : List ExceptionTableEntry) (x : ExceptionTableEntry) (suf : List ExceptionTableEntry), tableOf (xH μ) = pre ++ x :: suf ∧ (∀ z ∈ pre, covers z pc = false ∨ (z.catchType ≠ 0 ∧ ∃ nm : String, Cond.classLink (xY μ).cls z.catchType nm ∈ lw_tbl ∧ (xE E, nm) ∈ xnc)) ∧ covers x pc = true ∧ x.catchType ≠ 0 ∧
  (∃ nm : String, Cond.classLink (xY μ).cls x.catchType nm ∈ lw_tbl ∧ Cond.castable (xE E) nm ∈ lw_tbl) ∧ i < xL μ ∧ ((∃ k : Fin 4, (k : Nat) = i ∧ decode (xB μ) x.handlerPc = .ok (.astore_n k, 1) ∧ x.handlerPc + 1 = to) ∨ (decode (xB μ) x.handlerPc = .ok (.astore i, 2) ∧ x.handlerPc + 2 = to))
/-- a call of ours with handlers round it -/
theorem X_callVH {idx a c n c8 s8 c7 s7 : Nat} {r : vw_C} (As : List Value) {st0 : List Value} (hd : decode (xB μ) pc = .ok (.invokevirtual idx, 3)) (hp : pc + 3 = pc') (h1 : Cond.methodLink (xY μ).cls idx (xY μ') ∈ lw_tbl) (h2 : Cond.instanceMethod (xY μ') ∈ lw_tbl) (h3 : Cond.selects (xY μ').cls (xY μ') (xY μ') ∈ lw_tbl) (hok : xOk μ' n) (hH : xH μ' = []) (hk : xK μ' < xK μ)
    (ha : a < σ.1) (hsh : (σ.2.1 a).1 = c + 1) (hr : xcl[c]? = some r) (hcl : r.1 = (xY μ').cls) (hn : As.length = n) (hA : ((.ref a :: As).map fun v => v.category).sum ≤ xL μ') (hrest : (st.map fun v => v.category).sum ≤ 8) (hst : As.reverse ++ .ref a :: st = st0)
    (hX : X μ' 0 (xEnt (.ref a :: As) (xL μ')) [] σ c8 s8 Ψ) (hc9 : c9 = c8 + c7) (hs9 : s9 = s8 + s7)
    (k9 : ∀ v τ, Ψ (.inl v) τ → X μ pc' L (v.toList ++ st) τ c7 s7 Φ) (kx : ∀ E τ, Ψ (.inr E) τ → ∃ i to, xHan μ E pc i to ∧ (i = 0 ∨ xC1 L[i - 1]? = true) ∧ X μ to (L.set i none) [] τ c7 s7 Φ) : X μ pc L st0 σ c9 s9 Φ := by
  subst hp
  subst hst
  subst hc9
  subst hs9
  intro g p l e R s m args below meth cd Q hC hE H locs cells slots ls hR hL hS hc hs9
  have hts := hC.2.2.2.2.2.2.2.1
  have hSF := hC.2.2.2.2.2.2.2.2.2.2.2.2
  have hg := hSF.2.2.2.2.2.2.2.2.2.2.1
  have ha' : a < 1000000 := Nat.lt_of_lt_of_le ha hR.2.1
  have hcB : ∃ cellB : Cell, H[gB g + a]? = some cellB ∧ cellB.vm.isStatics = false ∧ s.vm.findClass (xY μ').cls = some cellB.cls := by
    have hc7 := xcl_lt hr
    rcases hR.2.2.1 a ha with h0 | ⟨-, -, r', hr', ⟨cell, q1, q2, q3, -⟩, -⟩ | ⟨h20, -, -⟩
    · omega
    · rw [hsh, Nat.add_sub_cancel] at hr' q2
      cases hr.symm.trans hr'
      exact ⟨cell, q1, by rw [q3]; rfl, by rw [q2, ← hcl]; exact (hSF.1 c r hr).2.1⟩
    · omega
  have e1 : (As.reverse ++ .ref a :: st).map (xv g) = (As.map (xv g)).reverse ++ .ref (gB g + a) :: st.map (xv g) := by simp [xv_ref g ha']
  rw [e1]
  have hM := xMet hX hok hH hA hC.2.2.2.2.2.2.2.2.2.1 g
  have e2 : (Value.ref (gB g + a) :: As.map (xv g)).toArray = ((.ref a :: As).map (xv g)).toArray := by rw [List.map_cons, xv_ref g ha']
  refine xcall hC hE hL hS (by omega) (by omega) (vx_runV (xfixed hC) hM ⟨xcallB hC h1 hok hH hk, hts _ (xWS_in h2 rfl), hts _ (xWS_in h3 rfl)⟩ ⟨xPc_blind g _ σ, hcB, fun U hU hW => by rw [e2]; exact xPc_of hR hS hSF U hU hW⟩ rfl (by rw [List.length_map]; exact hn) hL.2.1 rfl (by show 2 * 0 + _ ≤ 8; rw [xrest g hg]; omega) hd ⟨by omega, by omega⟩) k9 (fun E τ q ce H1 locs1 hΨ hR1 hS1 hq hv hcl1 => ?_)
  obtain ⟨i, to, ⟨pre, x, suf, htb, hpre, hcov, hct, ⟨nm, hl1, hca⟩, hi, hst⟩, hi1, kX⟩ := kx E τ hΨ
  have htab := hC.2.2.2.2.2.2.2.2.1
  refine vx_catch (name := nm) hC.2.2.2.2.2.1 pre x suf (by rw [htab]; exact htb) (fun z hz => ?_) hcov hct (hts _ (xWS_in hl1 rfl)) (va_Nw.use rfl (hSF.2.2.2.2.2.2.2.1 _ hca rfl)) hq hv hcl1 ?_
  · rcases hpre z hz with h | ⟨h, nm', h4, h5⟩
    · exact Or.inl h
    · exact Or.inr ⟨h, nm', hts _ (xWS_in h4 rfl), hSF.2.2.2.2.2.2.2.2.1 _ h5⟩
  · rcases hst with ⟨k, rfl, hda, rfl⟩ | ⟨hda, rfl⟩
    · exact lv_astore_n hC.1 hC.2.1 hda rfl (xLv_has hL) hi rfl (fun ls' h' => kX g p l e R s m args below meth cd Q hC hE H1 locs1 (cells + c8) (slots + s8) ls' hR1 (xLv_stN hg hL hi1 h') hS1 (by omega) (by omega))
    · exact lv_astore hC.1 hC.2.1 hda (xLv_has hL) hi rfl (fun ls' h' => kX g p l e R s m args below meth cd Q hC hE H1 locs1 (cells + c8) (slots + s8) ls' hR1 (xLv_stN hg hL hi1 h') hS1 (by omega) (by omega))
end XCa

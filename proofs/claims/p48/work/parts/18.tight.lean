def Qd (F : Prop) (r0 : xRes) (τ0 : xS) : xRes → xS → Prop := fun r τ => F ∧ r = r0 ∧ τ = τ0
/-! calls whose use of the room is told by what they come back with -/
def zsum (f : Nat → Nat) : Nat → Nat
  | 0 => 0
  | n + 1 => f 0 + zsum (fun i => f (i + 1)) n
theorem zsum_list : ∀ (l : List Cell) (f : Nat → Nat), (∀ (i : Nat) (c : Cell), l[i]? = some c → c.slots.size ≤ f i) → (l.map (fun x => x.slots.size)).sum ≤ zsum f l.length
  | [], f, _ => Nat.le_refl _
  | c :: l, f, h => by
    have h0 := h 0 c rfl
    have h1 := zsum_list l (fun i => f (i + 1)) (fun i c hc => h (i + 1) c (by rw [List.getElem?_cons_succ]; exact hc))
    simp only [List.map_cons, List.sum_cons, List.length_cons, zsum]
    omega
theorem zsum_app (f : Nat → Nat) : ∀ (m n : Nat), zsum f (m + n) = zsum f m + zsum (fun i => f (m + i)) n := by
  intro m
  induction m generalizing f with
  | zero => intro n; simp [zsum]
  | succ m ih =>
    intro n
    rw [show m + 1 + n = (m + n) + 1 by omega]
    simp only [zsum]
    rw [ih]
    have : (fun i => f (m + i + 1)) = fun i => f (m + 1 + i) := by funext i; rw [show m + i + 1 = m + 1 + i by omega]
    rw [this]
    omega
theorem zsum_congr : ∀ (n : Nat) {f f' : Nat → Nat}, (∀ i, i < n → f i = f' i) → zsum f n = zsum f' n
  | 0, _, _, _ => rfl
  | n + 1, f, f', h => by
    simp only [zsum]
    rw [h 0 (by omega), zsum_congr n (fun i hi => h (i + 1) (by omega))]
/-- from σ to τ no more than u slots were made -/
def xUse (σ τ : xS) (u : Nat) : Prop := σ.1 ≤ τ.1 ∧ (∀ k, σ.1 ≤ k → k < τ.1 → (τ.2.1 k).1 ≠ 0) ∧ zsum (fun i => (τ.2.1 (σ.1 + i)).2) (τ.1 - σ.1) ≤ u
theorem xuse_heap {g : xG} {σ τ : xS} {u : Nat} {H1 : Heap} (hR : xRep g τ H1) (hU : xUse σ τ u) : ((H1.toList.drop (gB g + σ.1)).map (fun x => x.slots.size)).sum ≤ u := by
  obtain ⟨h1, h2, h3⟩ := hU
  refine Nat.le_trans (zsum_list _ (fun i => (τ.2.1 (σ.1 + i)).2) (fun i c hc => ?_)) ?_
  · rw [List.getElem?_drop, Array.getElem?_toList] at hc
    have hlt : gB g + σ.1 + i < H1.size := (Array.getElem?_eq_some_iff.mp hc).1
    have hk : σ.1 + i < τ.1 := by rw [hR.1] at hlt; omega
    have hc' : H1[gB g + (σ.1 + i)]? = some c := by rw [← Nat.add_assoc]; exact hc
    rcases hR.2.2.1 (σ.1 + i) hk with h0 | ⟨-, -, r, -, -, cell, q1, q2⟩ | ⟨-, -, q⟩
    · exact absurd h0 (h2 _ (by omega) hk)
    · cases q1.symm.trans hc'
      exact q2
    · cases q.symm.trans hc'
      rw [arrV_size]
      exact Nat.le_refl _
  · have hl : (H1.toList.drop (gB g + σ.1)).length = τ.1 - σ.1 := by
      rw [List.length_drop, Array.length_toList, hR.1]
      omega
    rw [hl]
    exact h3
/-- what such a call leaves -/
def xPT (g : xG) (F : Prop) (w : Option Value) (τ : xS) : Pt → Array Value → Option Value → Pt → Prop := fun A _ v B =>
  v = w.map (xv g) ∧ F ∧ xRep g τ B.U.heap ∧ (A.U.heap.size ≤ B.U.heap.size ∧ ∀ q : Nat, q < A.U.heap.size → ¬ xA g q → B.U.heap[q]? = A.U.heap[q]?) ∧ (∃ L, B.locs = A.locs ++ L ∧ ∀ q ∈ L, xA g q.base) ∧
  B.cells = A.cells + (B.U.heap.size - A.U.heap.size) ∧ B.slots = A.slots + ((B.U.heap.toList.drop A.U.heap.size).map (fun x => x.slots.size)).sum
section XTi
variable {μ μ' : xM} {pc pc' tgt : Nat} {L L' : List (Option Value)} {st : List Value} {σ τ : xS} {c9 s9 c8 s8 u : Nat} {Φ : xRes → xS → Prop} {F : Prop} {w : Option Value}
theorem xBackT {n len : Nat} {As : List Value} (hX : X μ' 0 (xEnt As (xL μ')) [] σ c8 s8 (Qd F (.inl w) τ)) (hok : xOk μ' n) (hH : xH μ' = []) (hA : (As.map fun v => v.category).sum ≤ xL μ') {l : Launch} {R : Room} {p : Program} {e : Env} {below : List Frame} {s : State} {sargs : Array Value} (htr : l.stackTraces = false) (g : xG)
    (hfr : xK μ' + 8 + 1 ≤ R.frames) (hlo : 8 + (xL μ' + 11) + (60 * xK μ' + 200) ≤ R.locals) (hws : ∀ w ∈ xws μ', ∀ (a' : Array Value) (U : State), s.WarmedH U.vm → w.before a' U = true) (hinit : ∀ (a' : Array Value) (U : State), s.WarmedH U.vm → (Cond.initialized (xY μ').cls).before a' U = true) :
    Back l R p e below s sargs (xY μ') len 8 (fun A a => A.cells + c8 ≤ R.cells ∧ A.slots + s8 ≤ R.slots ∧ xPc g As σ a A.U) (xPT g F w τ) := by
  intro m meth c A g9 ig mk a X hg hsize hdg hW hn hp
  have hM := xMet hX hok hH hA htr g
  have hWe : xW μ' = .code (xY μ') (xB μ') (xL μ') (xR μ') := by rw [xW, hH]
  have hcode : Cond.code (xY μ') (xB μ') (xL μ') (xR μ') ∈ xws μ' := by rw [← hWe]; exact List.mem_cons_self
  have h1 : (headSpec (xws μ') (xrm μ' c8 s8)).pre.before a A.U = true := atoms_intro fun w hw => hws w hw _ _ X.warmed
  have h2 : (Cond.code (xY μ') (xB μ') (xL μ') (xR μ')).before a A.U = true := hws _ hcode _ _ X.warmed
  have h3 : (Cond.initialized (xY μ').cls).before a A.U = true := hinit _ _ X.warmed
  have h4 : A.cells + (headSpec (xws μ') (xrm μ' c8 s8)).room.cells ≤ R.cells := hp.1
  have h5 : A.slots + (headSpec (xws μ') (xrm μ' c8 s8)).room.slots ≤ R.slots := hp.2.1
  have hPc : xPc g As σ a (A.U.calling g9 mk a) := xPc_blind g As σ _ _ _ _ hp.2.2
  obtain ⟨U, Ls, c0, s0⟩ := A
  dsimp only [Pt.U, Pt.locs, Pt.cells, Pt.slots] at h1 h2 h3 h4 h5 X hn hPc ⊢
  obtain ⟨methY, cY, hmY, hcY, -, hlY, -, -, -, -⟩ := Cond.code_spec hn h2
  obtain ⟨kY, hkY, -⟩ := className_of_methodNamed hn
  have hinitY : kY.init = .initialized := Cond.initialized_spec (findClass_of_methodNamed hn) hkY h3
  have h : At U g9.method c below := by rw [hg]; exact X.here
  have hlocals9 : 8 + (xL μ' + 11) + (headSpec (xws μ') (xrm μ' c8 s8)).room.locals ≤ R.locals := hlo
  have happ : (headSpec (xws μ') (xrm μ' c8 s8)).appliesLoose (xY μ') e.platform (U.calling g9 mk a) = true :=
    Spec.appliesLoose_calling (g := g9) h hdg hn hkY hinitY
      (X.room_calling (g := g9) (R' := (headSpec (xws μ') (xrm μ' c8 s8)).room) hsize hmY hcY hfr (by rw [hlY]; omega) h4 h5) h1
  obtain ⟨mid, hmid⟩ := h.above
  have hfr9 : (U.setTop g9).frames = (.java g9 :: mid) ++ below := by rw [State.frames_setTop' g9 h.top, hmid]; rfl
  obtain ⟨o, s₂, hsteps, -, hend, hq⟩ := Steps.callFree hM p X.admits X.cas X.clock (acts := []) hfr9 happ hPc trivial
  have hq' : vx_Q (xQc g (Qd F (.inl w) τ)) (xXC g (Qd F (.inl w) τ)) c8 s8 (xA g) a (U.calling g9 mk a) o s₂ := hq
  rw [State.frames_setTop' g9 h.top] at hend
  obtain ⟨g₀, hg0⟩ := Option.isSome_iff_exists.mp h.top
  obtain ⟨r, hr⟩ := State.topJava?_eq_some.mp hg0
  have hr' : (({ U with heap := s₂.heap, slotsUsed := s₂.slotsUsed } : State).setVm s₂.vm).frames = .java g₀ :: r := hr
  rcases hq' with ⟨hqc, L, hfe, hL⟩ | ⟨q, rfl, E, ce, L, ⟨n9, σ9, -, hx, -⟩, -⟩
  · obtain ⟨⟨v, rfl⟩, hW₂, e2, q2, q3, q4, q5, q6⟩ := id hfe
    have e3 : s₂ = ({ (U.calling g9 mk a).setFrames s₂.frames with heap := s₂.heap, slotsUsed := s₂.slotsUsed } : State).setVm s₂.vm := by
      have : s₂ = ({ s₂ with vm := (U.calling g9 mk a).vm } : State).setVm s₂.vm := rfl
      rw [e2] at this
      exact this
    obtain ⟨c₂, i₂, len₂, hc₂, hd₂, hf₂⟩ := hend
    have hW' : U.WarmedH s₂.vm := hW₂
    have hcc : c₂ = c := by
      have h1 : s₂.code? g9.method = U.code? g9.method := by
        rw [State.code?_eq, State.code?_eq, hW'.alike.method?]
      exact Option.some.inj (hc₂.symm.trans (h1.trans h.code))
    subst hcc
    have hlen : len₂ = len := by rw [hdg] at hd₂; cases hd₂; rfl
    subst hlen
    have hs₂ : s₂ = (({ U with heap := s₂.heap, slotsUsed := s₂.slotsUsed } : State).setVm s₂.vm).setTop { g9 with pc := g9.pc + len₂, stack := v.toList ++ g9.stack } := by
      refine e3.trans ?_
      rw [hf₂, State.calling_eq h.top, State.setFrames_setFrames, State.setTop_of_frames _ hr', hr]
      rfl
    have hsame : U.sameButNew ({ U with heap := s₂.heap, slotsUsed := s₂.slotsUsed } : State) L (s₂.heap.size - U.heap.size) (((s₂.heap.toList.drop U.heap.size).map (fun x => x.slots.size)).sum) := by
      refine ⟨?_, q2, ?_, q4, Nat.le_refl _, q6⟩
      · obtain ⟨t, ht, -⟩ := State.frames_cons hr
        show ({ U with heap := s₂.heap, slotsUsed := s₂.slotsUsed } : State) = { U.setFrames U.frames with heap := s₂.heap, slotsUsed := s₂.slotsUsed }
        rw [State.setFrames_self ht]
      · show s₂.heap.size ≤ U.heap.size + (s₂.heap.size - U.heap.size)
        omega
    obtain ⟨⟨v', τ', hv, ⟨hF, hr9, hτ⟩, hRep⟩, hFr⟩ := hqc
    cases hτ
    cases hr9
    cases hv
    subst hg
    refine ⟨_, ⟨(({ U with heap := s₂.heap, slotsUsed := s₂.slotsUsed } : State).setVm s₂.vm), Ls ++ L, c0 + (s₂.heap.size - U.heap.size), s0 + ((s₂.heap.toList.drop U.heap.size).map (fun x => x.slots.size)).sum⟩,
      ⟨X.admits, X.cas, X.clock, X.frames, X.room, X.hears, X.method, X.code, (X.here.setHeapUsed s₂.heap s₂.slotsUsed).setVm hW'.alike, X.tail, State.WarmedH.trans X.warmed hW', X.limits, X.bytes, X.same.trans (hsame.setVm s.vm)⟩,
      ⟨rfl, hF, hRep, hFr, ⟨L, rfl, hL⟩, rfl, rfl⟩, ?_⟩
    show Steps p.tables e below _ ((({ U with heap := s₂.heap, slotsUsed := s₂.slotsUsed } : State).setVm s₂.vm).setTop { g9 with pc := g9.pc + len₂, stack := (w.map (xv g)).toList ++ g9.stack })
    rw [← hs₂]
    exact hsteps
  · cases hx.2.1
/-- the words of a callee, in a walk's frame -/
theorem xpay {g : xG} {p : Program} {l : Launch} {R : Room} {s : State} {m : MethodId} {args : Array Value} {meth : Method} {cd : Code} {n : Nat} (hC : xCx μ g p l R s m args meth cd) (hok : xOk μ' n) (hk : xK μ' < xK μ) :
    xK μ' + 8 + 1 ≤ R.frames ∧ 8 + (xL μ' + 11) + (60 * xK μ' + 200) ≤ R.locals ∧ (∀ w ∈ xws μ', ∀ (a' : Array Value) (U : State), s.WarmedH U.vm → w.before a' U = true) ∧ (∀ (a' : Array Value) (U : State), s.WarmedH U.vm → (Cond.initialized (xY μ').cls).before a' U = true) ∧ (xW μ').before args s = true ∧ (Cond.initialized (xY μ').cls).before args s = true := by
  have hts := hC.2.2.2.2.2.2.2.1
  have hini := hts _ (xWS_in hok.2.2.1 rfl)
  refine ⟨?_, ?_, pay_in hts (xGood μ' hok (fun _ h => h)), fun a' U hW => word_at hW (Or.inl rfl) hini, hts _ (xWS_in hok.1 hok.2.1), hini⟩
  · rw [hC.2.2.2.2.2.2.2.2.2.2.1]
    omega
  · rw [hC.2.2.2.2.2.2.2.2.2.2.2.1]
    have := hok.2.2.2.2.2
    omega
theorem xlen {n : Nat} (hok : xOk μ' n) {As : List Value} (hn : As.length = n) (g : xG) : ∀ sig, parseMethodDescriptor (xY μ').desc = some sig → (As.map (xv g)).length = sig.parameters.length := by
  intro sig h
  have h2 := hok.2.2.2.2.1.2.2
  rw [h] at h2
  rw [List.length_map, hn]
  exact (Option.some.inj h2).symm
theorem xcallT {g : xG} {p : Program} {l : Launch} {e : Env} {R : Room} {s : State} {m : MethodId} {args : Array Value} {below : List Frame} {meth : Method} {cd : Code} {Q : State → Prop} {H : Heap} {locs : List Loc} {cells slots len : Nat} {ls : Array Slot} {a9 : Array Value} {st0 : List Value}
    (hC : xCx μ g p l R s m args meth cd) (hE : xEnd μ g p l e R s m args below meth cd Q Φ) (hR : xRep g σ H) (hL : xLv g (xL μ) L ls) (hS : va_S (xA g) s.heap H locs) (hc : cells + c9 ≤ R.cells) (hs9 : slots + s9 ≤ R.slots)
    (hr : ∀ T : State, T.heap = H → Stand p l e R s m args below meth cd T locs cells slots → ∃ (v : Option Value) (vm₁ : Vm) (B : Pt), s.WarmedH vm₁ ∧ Stand p l e R s m args below meth cd B.U B.locs B.cells B.slots ∧ xPT g F w τ ⟨T.setVm vm₁, locs, cells, slots⟩ a9 v B ∧
      ∀ target, Steps p.tables e below (B.U.setTop { F0 m pc ls st0 with pc := pc + len, stack := v.toList ++ st.map (xv g) }) target → Steps p.tables e below (T.setTop (F0 m pc ls st0)) target)
    (hb : c8 ≤ c9 ∧ s8 ≤ s9)
    (k9 : F → ∃ u, xUse σ τ u ∧ τ.1 - σ.1 ≤ c9 ∧ u ≤ s9 ∧ X μ (pc + len) L (w.toList ++ st) τ (c9 - (τ.1 - σ.1)) (s9 - u) Φ) : W p l e R s m args below meth cd H locs cells slots Q (F0 m pc ls st0) := by
  intro T hT X9
  obtain ⟨v, vm₁, ⟨U', l2, c2, s2⟩, hW₁, X', ⟨hv, hF, hRep, hFr, ⟨L2, e1, hL2⟩, e2, e3⟩, hst⟩ := hr T hT X9
  dsimp only [Pt.U, Pt.locs, Pt.cells, Pt.slots] at X' hRep hFr e1 e2 e3 hst
  have hTh : (T.setVm vm₁).heap = H := hT
  rw [hTh] at hFr e2 e3
  obtain ⟨u, hU, hu1, hu2, hX⟩ := k9 hF
  have hsz : U'.heap.size - H.size = τ.1 - σ.1 := by
    rw [hRep.1, hR.1]
    have := hU.1
    omega
  have hsl : ((U'.heap.toList.drop H.size).map (fun x => x.slots.size)).sum ≤ u := by
    rw [hR.1]
    exact xuse_heap hRep hU
  have hS' : va_S (xA g) s.heap U'.heap (locs ++ L2) := ⟨Nat.le_trans hS.1 hFr.1, fun q h1 h2 => (hFr.2 q (Nat.lt_of_lt_of_le h1 hS.1) h2).trans (hS.2.1 q h1 h2), fun q hq => by
    rcases List.mem_append.mp hq with h | h
    · exact hS.2.2 q h
    · exact hL2 q h⟩
  subst hv
  subst e1
  obtain ⟨t, a1, b1⟩ := hX g p l e R s m args below meth cd Q hC hE U'.heap (locs ++ L2) c2 s2 ls hRep hL hS' (by omega) (by omega) U' rfl X'
  refine ⟨t, hst t ?_, b1⟩
  have e9 : (w.toList ++ st).map (xv g) = (w.map (xv g)).toList ++ st.map (xv g) := by cases w <;> rfl
  rw [e9] at a1
  exact a1
/-- a static method -/
theorem X_callST {idx n : Nat} (As : List Value) {st0 : List Value} (hd : decode (xB μ) pc = .ok (.invokestatic idx, 3)) (hp : pc + 3 = pc') (h1 : Cond.methodLink (xY μ).cls idx (xY μ') ∈ lw_tbl ∨ ∃ host, Cond.methodLinkNest (xY μ).cls idx (xY μ') host ∈ lw_tbl) (h2 : Cond.static (xY μ') ∈ lw_tbl) (hok : xOk μ' n) (hH : xH μ' = []) (hk : xK μ' < xK μ)
    (hn : As.length = n) (hA : (As.map fun v => v.category).sum ≤ xL μ') (hrest : (st.map fun v => v.category).sum ≤ 8) (hst : As.reverse ++ st = st0)
    (hX : X μ' 0 (xEnt As (xL μ')) [] σ c8 s8 (Qd F (.inl w) τ)) (hb : c8 ≤ c9 ∧ s8 ≤ s9)
    (k9 : F → ∃ u, xUse σ τ u ∧ τ.1 - σ.1 ≤ c9 ∧ u ≤ s9 ∧ X μ pc' L (w.toList ++ st) τ (c9 - (τ.1 - σ.1)) (s9 - u) Φ) : X μ pc L st0 σ c9 s9 Φ := by
  subst hp
  subst hst
  intro g p l e R s m args below meth cd Q hC hE H locs cells slots ls hR hL hS hc hs9
  have hts := hC.2.2.2.2.2.2.2.1
  have hSF := hC.2.2.2.2.2.2.2.2.2.2.2.2
  have hg := hSF.2.2.2.2.2.2.2.2.2.2.1
  obtain ⟨p1, p2, p3, p4, p5, p6⟩ := xpay hC hok hk
  have hWe : xW μ' = .code (xY μ') (xB μ') (xL μ') (xR μ') := by rw [xW, hH]
  rw [hWe] at p5
  have hK := xBackT (len := 3) hX hok hH hA (l := l) (R := R) (p := p) (e := e) (below := below) (s := s) (sargs := args) hC.2.2.2.2.2.2.2.2.2.1 g p1 p2 p3 p4
  have e1 : (As.reverse ++ st).map (xv g) = (As.map (xv g)).reverse ++ st.map (xv g) := by simp
  refine xcallT (a9 := (As.map (xv g)).toArray) hC hE hR hL hS hc hs9 (fun T hT X9 => ?_) hb k9
  rcases h1 with h1 | ⟨host, h1⟩
  · exact callS X9 hC.1 (bytes := xB μ') (maxL := xL μ') (ret := xR μ') hC.2.2.2.2.2.1 (hts _ (xWS_in h1 rfl)) (hts _ (xWS_in h2 rfl)) p6 p5 ⟨hok.2.2.2.2.1.1, hok.2.2.2.2.1.2.1⟩ hK (g := F0 m pc ls ((As.reverse ++ st).map (xv g))) rfl (hL.2.1.trans hC.2.2.1.symm) (argsL := As.map (xv g)) (rest := st.map (xv g)) (xlen hok hn g) e1 (by show 2 * 0 + _ ≤ 8; rw [xrest g hg]; omega) (by rw [hC.2.1]; exact hd) (fun vm₁ hW₁ => ⟨by show cells + c8 ≤ R.cells; omega, by show slots + s8 ≤ R.slots; omega, xPc_of hR hS hSF (T.setVm vm₁) hT hW₁⟩)
  · exact va_callSN X9 hC.1 (bytes := xB μ') (maxL := xL μ') (ret := xR μ') hC.2.2.2.2.2.1 (va_Nw.use rfl (hSF.2.2.2.2.2.2.2.1 _ h1 rfl)) (hts _ (xWS_in h2 rfl)) p6 p5 ⟨hok.2.2.2.2.1.1, hok.2.2.2.2.1.2.1⟩ hK (g := F0 m pc ls ((As.reverse ++ st).map (xv g))) rfl (hL.2.1.trans hC.2.2.1.symm) (argsL := As.map (xv g)) (rest := st.map (xv g)) (xlen hok hn g) e1 (by show 2 * 0 + _ ≤ 8; rw [xrest g hg]; omega) (by rw [hC.2.1]; exact hd) (fun vm₁ hW₁ => ⟨by show cells + c8 ≤ R.cells; omega, by show slots + s8 ≤ R.slots; omega, xPc_of hR hS hSF (T.setVm vm₁) hT hW₁⟩)
/-- the class of what an abstract reference stands for -/
def xIs (σ : xS) (a : Nat) (C : String) : Prop :=
  (a < σ.1 ∧ ((∃ c r, (σ.2.1 a).1 = c + 1 ∧ xcl[c]? = some r ∧ r.1 = C) ∨ ((σ.2.1 a).1 = 20 ∧ C = "[I") ∨ ((σ.2.1 a).1 = 21 ∧ C = "[B") ∨ ((σ.2.1 a).1 = 22 ∧ C = "[Ljava/lang/Object;"))) ∨
  (1000000 ≤ a ∧ ((σ.2.1 a).1 = 33 ∧ C = "java/lang/Integer" ∨ (σ.2.1 a).1 = 31 ∧ C = "java/lang/String"))
theorem xIs_cell {g : xG} {s : State} {H : Heap} {locs : List Loc} {a : Nat} {C : String} (hR : xRep g σ H) (hS : va_S (xA g) s.heap H locs) (hSF : xSF g s s.heap) (h : xIs σ a C) : ∃ (t : Nat) (cell : Cell), xv g (.ref a) = .ref t ∧ H[t]? = some cell ∧ cell.vm.isStatics = false ∧ s.vm.findClass C = some cell.cls := by
  rcases h with ⟨ha, h⟩ | ⟨ha, h⟩
  · have ha' : a < 1000000 := Nat.lt_of_lt_of_le ha hR.2.1
    refine ⟨gB g + a, ?_⟩
    rw [xv_ref g ha']
    rcases h with ⟨c, r, h1, h2, rfl⟩ | ⟨h1, rfl⟩ | ⟨h1, rfl⟩ | ⟨h1, rfl⟩
    · have hc7 := xcl_lt h2
      rcases hR.2.2.1 a ha with h0 | ⟨-, -, r', hr', ⟨cell, q1, q2, q3, -⟩, -⟩ | ⟨h20, -, -⟩
      · omega
      · rw [h1, Nat.add_sub_cancel] at hr' q2
        cases h2.symm.trans hr'
        exact ⟨cell, rfl, q1, by rw [q3]; rfl, by rw [q2]; exact (hSF.1 c r h2).2.1⟩
      · omega
    · have hc := (xarr hR ha (n := (σ.2.1 a).2) (Prod.ext h1 rfl) (by omega)).2
      refine ⟨_, rfl, hc, rfl, ?_⟩
      exact va_nm_int (hSF.2.1 20 (by omega) (by omega)).2
    · have hc := (xarr hR ha (n := (σ.2.1 a).2) (Prod.ext h1 rfl) (by omega)).2
      refine ⟨_, rfl, hc, rfl, ?_⟩
      exact va_nm_byte (hSF.2.1 21 (by omega) (by omega)).2
    · have hc := (xarr hR ha (n := (σ.2.1 a).2) (Prod.ext h1 rfl) (by omega)).2
      refine ⟨_, rfl, hc, rfl, ?_⟩
      exact va_nmO (hSF.2.1 22 (by omega) (by omega)).2 (by decide +kernel)
  · obtain ⟨z1, z2⟩ := hR.2.2.2 a ha
    rw [z1] at h
    rcases h with ⟨h, rfl⟩ | ⟨h, rfl⟩
    · obtain ⟨t, he, hO, -⟩ := (xS2of hSF).2.2.1 a (gS g a).2 ha (Prod.ext h rfl)
      obtain ⟨cell, q1, q2, q3, -⟩ := hO.kept hS.2.1
      exact ⟨t, cell, by rw [xv_stat g ha, he], q1, q2, q3⟩
    · obtain ⟨t, he, hO, -, -⟩ := hSF.2.2.2.2.1 a (gS g a).2 ha (Prod.ext h rfl)
      obtain ⟨cell, q1, q2, q3, -⟩ := hO.kept hS.2.1
      exact ⟨t, cell, by rw [xv_stat g ha, he], q1, q2, q3⟩
/-- a method that the receiver's class C selects under its own name -/
theorem X_callVT {idx n a : Nat} {C : String} (As : List Value) {st0 : List Value} (hd : decode (xB μ) pc = .ok (.invokevirtual idx, 3)) (hp : pc + 3 = pc') (h1 : Cond.methodLink (xY μ).cls idx (xY μ') ∈ lw_tbl) (h2 : Cond.instanceMethod (xY μ') ∈ lw_tbl) (h3 : Cond.selects C (xY μ') (xY μ') ∈ lw_tbl ∨ (C, xY μ') ∈ xpsel) (hok : xOk μ' n) (hH : xH μ' = []) (hk : xK μ' < xK μ)
    (ha : xIs σ a C) (hn : As.length = n) (hA : ((.ref a :: As).map fun v => v.category).sum ≤ xL μ') (hrest : (st.map fun v => v.category).sum ≤ 8) (hst : As.reverse ++ .ref a :: st = st0)
    (hX : X μ' 0 (xEnt (.ref a :: As) (xL μ')) [] σ c8 s8 (Qd F (.inl w) τ)) (hb : c8 ≤ c9 ∧ s8 ≤ s9)
    (k9 : F → ∃ u, xUse σ τ u ∧ τ.1 - σ.1 ≤ c9 ∧ u ≤ s9 ∧ X μ pc' L (w.toList ++ st) τ (c9 - (τ.1 - σ.1)) (s9 - u) Φ) : X μ pc L st0 σ c9 s9 Φ := by
  subst hp
  subst hst
  intro g p l e R s m args below meth cd Q hC hE H locs cells slots ls hR hL hS hc hs9
  have hts := hC.2.2.2.2.2.2.2.1
  have hSF := hC.2.2.2.2.2.2.2.2.2.2.2.2
  have hg := hSF.2.2.2.2.2.2.2.2.2.2.1
  obtain ⟨p1, p2, p3, p4, p5, p6⟩ := xpay hC hok hk
  have hWe : xW μ' = .code (xY μ') (xB μ') (xL μ') (xR μ') := by rw [xW, hH]
  rw [hWe] at p5
  have hK := xBackT (len := 3) hX hok hH hA (l := l) (R := R) (p := p) (e := e) (below := below) (s := s) (sargs := args) hC.2.2.2.2.2.2.2.2.2.1 g p1 p2 p3 p4
  obtain ⟨t, cell, e0, q1, q2, q3⟩ := xIs_cell hR hS hSF ha
  have e1 : (As.reverse ++ .ref a :: st).map (xv g) = (As.map (xv g)).reverse ++ .ref t :: st.map (xv g) := by simp [e0]
  have e2 : (Value.ref t :: As.map (xv g)).toArray = ((.ref a :: As).map (xv g)).toArray := by rw [List.map_cons, e0]
  have hse : (Cond.selects C (xY μ') (xY μ')).before args s = true := by
    rcases h3 with h3 | h3
    · exact hts _ (xWS_in h3 rfl)
    · exact va_any rfl ((xS2of hSF).2.2.2.2.2 _ h3)
  refine xcallT (a9 := (Value.ref t :: As.map (xv g)).toArray) hC hE hR hL hS hc hs9 (fun T hT X9 => ?_) hb k9
  exact callV X9 hC.1 (C := C) (bytes := xB μ') (maxL := xL μ') (ret := xR μ') hC.2.2.2.2.2.1 (hts _ (xWS_in h1 rfl)) (hts _ (xWS_in h2 rfl)) hse p5 ⟨hok.2.2.2.2.1.1, hok.2.2.2.2.1.2.1⟩ hK (by rw [hT]; exact q1) q2 q3 (g := F0 m pc ls ((As.reverse ++ .ref a :: st).map (xv g))) rfl (hL.2.1.trans hC.2.2.1.symm) (argsL := As.map (xv g)) (rest := st.map (xv g)) (xlen hok hn g) e1 (by show 2 * 0 + _ ≤ 8; rw [xrest g hg]; omega) (by rw [hC.2.1]; exact hd) (fun vm₁ hW₁ => ⟨by show cells + c8 ≤ R.cells; omega, by show slots + s8 ≤ R.slots; omega, by rw [e2]; exact xPc_of hR hS hSF (T.setVm vm₁) hT hW₁⟩)
/-- .. of a method that is named by a subclass, and declared above -/
theorem X_callUT {idx n a : Nat} {C owner : String} {x : MethodName} (As : List Value) {st0 : List Value} (hd : decode (xB μ) pc = .ok (.invokevirtual idx, 3)) (hp : pc + 3 = pc') (h1 : Cond.methodLink (xY μ).cls idx x ∈ lw_tbl) (h2 : Cond.instanceMethod (xY μ') ∈ lw_tbl) (h3 : Cond.selects C x (xY μ') ∈ lw_tbl) (h4 : Cond.sameMethod x.cls owner x.name x.desc ∈ lw_tbl) (hx : x.desc = (xY μ').desc ∧ owner ≠ "java/lang/invoke/MethodHandle" ∧ owner ≠ "java/lang/invoke/VarHandle") (h5 : ∃ b m r, Cond.code ⟨owner, x.name, x.desc⟩ b m r ∈ lw_tbl) (h6 : Cond.instanceMethod ⟨owner, x.name, x.desc⟩ ∈ lw_tbl) (hok : xOk μ' n) (hH : xH μ' = []) (hk : xK μ' < xK μ)
    (ha : xIs σ a C) (hn : As.length = n) (hA : ((.ref a :: As).map fun v => v.category).sum ≤ xL μ') (hrest : (st.map fun v => v.category).sum ≤ 8) (hst : As.reverse ++ .ref a :: st = st0)
    (hX : X μ' 0 (xEnt (.ref a :: As) (xL μ')) [] σ c8 s8 (Qd F (.inl w) τ)) (hb : c8 ≤ c9 ∧ s8 ≤ s9)
    (k9 : F → ∃ u, xUse σ τ u ∧ τ.1 - σ.1 ≤ c9 ∧ u ≤ s9 ∧ X μ pc' L (w.toList ++ st) τ (c9 - (τ.1 - σ.1)) (s9 - u) Φ) : X μ pc L st0 σ c9 s9 Φ := by
  subst hp
  subst hst
  intro g p l e R s m args below meth cd Q hC hE H locs cells slots ls hR hL hS hc hs9
  have hts := hC.2.2.2.2.2.2.2.1
  have hSF := hC.2.2.2.2.2.2.2.2.2.2.2.2
  have hg := hSF.2.2.2.2.2.2.2.2.2.2.1
  obtain ⟨p1, p2, p3, p4, p5, p6⟩ := xpay hC hok hk
  have hWe : xW μ' = .code (xY μ') (xB μ') (xL μ') (xR μ') := by rw [xW, hH]
  rw [hWe] at p5
  have hK := xBackT (len := 3) hX hok hH hA (l := l) (R := R) (p := p) (e := e) (below := below) (s := s) (sargs := args) hC.2.2.2.2.2.2.2.2.2.1 g p1 p2 p3 p4
  obtain ⟨t, cell, e0, q1, q2, q3⟩ := xIs_cell hR hS hSF ha
  have e1 : (As.reverse ++ .ref a :: st).map (xv g) = (As.map (xv g)).reverse ++ .ref t :: st.map (xv g) := by simp [e0]
  have e2 : (Value.ref t :: As.map (xv g)).toArray = ((.ref a :: As).map (xv g)).toArray := by rw [List.map_cons, e0]
  have hin := hts _ (xWS_in h2 rfl)
  obtain ⟨b5, m5, r5, h5⟩ := h5
  have hdecl : va_Decl s ⟨owner, x.name, x.desc⟩ := va_Decl.of (hts _ (xWS_in h6 rfl)) (hts _ (xWS_in h5 rfl))
  refine xcallT (a9 := (Value.ref t :: As.map (xv g)).toArray) hC hE hR hL hS hc hs9 (fun T hT X9 => ?_) hb k9
  exact va_callVU X9 hC.1 (C := C) (owner := owner) (bytes := xB μ') (maxL := xL μ') (ret := xR μ') hC.2.2.2.2.2.1 (hts _ (xWS_in h1 rfl)) (hts _ (xWS_in h4 rfl)) hdecl hx.2 (hts _ (xWS_in h3 rfl)) hin p5 hK (by rw [hT]; exact q1) q2 q3 (g := F0 m pc ls ((As.reverse ++ .ref a :: st).map (xv g))) rfl (hL.2.1.trans hC.2.2.1.symm) (argsL := As.map (xv g)) (rest := st.map (xv g)) (by rw [hx.1]; exact xlen hok hn g) e1 (by show 2 * 0 + _ ≤ 8; rw [xrest g hg]; omega) (by rw [hC.2.1]; exact hd) (fun vm₁ hW₁ => ⟨by show cells + c8 ≤ R.cells; omega, by show slots + s8 ≤ R.slots; omega, by rw [e2]; exact xPc_of hR hS hSF (T.setVm vm₁) hT hW₁⟩)
/-- .. through an interface -/
theorem X_callFT {idx cnt n a : Nat} {C : String} {x : MethodName} (As : List Value) {st0 : List Value} (hd : decode (xB μ) pc = .ok (.invokeinterface idx cnt, 5)) (hp : pc + 5 = pc') (h1 : Cond.methodLink (xY μ).cls idx x ∈ lw_tbl) (h2 : Cond.instanceMethod (xY μ') ∈ lw_tbl) (h3 : Cond.selects C x (xY μ') ∈ lw_tbl) (h4 : (C, x, xY μ') ∈ xifs) (hx : x.desc = (xY μ').desc) (hok : xOk μ' n) (hH : xH μ' = []) (hk : xK μ' < xK μ)
    (ha : xIs σ a C) (hn : As.length = n) (hA : ((.ref a :: As).map fun v => v.category).sum ≤ xL μ') (hrest : (st.map fun v => v.category).sum ≤ 8) (hst : As.reverse ++ .ref a :: st = st0)
    (hX : X μ' 0 (xEnt (.ref a :: As) (xL μ')) [] σ c8 s8 (Qd F (.inl w) τ)) (hb : c8 ≤ c9 ∧ s8 ≤ s9)
    (k9 : F → ∃ u, xUse σ τ u ∧ τ.1 - σ.1 ≤ c9 ∧ u ≤ s9 ∧ X μ pc' L (w.toList ++ st) τ (c9 - (τ.1 - σ.1)) (s9 - u) Φ) : X μ pc L st0 σ c9 s9 Φ := by
  subst hp
  subst hst
  intro g p l e R s m args below meth cd Q hC hE H locs cells slots ls hR hL hS hc hs9
  have hts := hC.2.2.2.2.2.2.2.1
  have hSF := hC.2.2.2.2.2.2.2.2.2.2.2.2
  have hg := hSF.2.2.2.2.2.2.2.2.2.2.1
  have hF := (xS2of hSF).2.2.2.2.1 _ h4
  obtain ⟨p1, p2, p3, p4, p5, p6⟩ := xpay hC hok hk
  have hWe : xW μ' = .code (xY μ') (xB μ') (xL μ') (xR μ') := by rw [xW, hH]
  rw [hWe] at p5
  have hK := xBackT (len := 5) hX hok hH hA (l := l) (R := R) (p := p) (e := e) (below := below) (s := s) (sargs := args) hC.2.2.2.2.2.2.2.2.2.1 g p1 p2 p3 p4
  obtain ⟨t, cell, e0, q1, q2, q3⟩ := xIs_cell hR hS hSF ha
  obtain ⟨kB, hkB, -⟩ := Vm.findClass_spec q3
  have e1 : (As.reverse ++ .ref a :: st).map (xv g) = (As.map (xv g)).reverse ++ .ref t :: st.map (xv g) := by simp [e0]
  have e2 : (Value.ref t :: As.map (xv g)).toArray = ((.ref a :: As).map (xv g)).toArray := by rw [List.map_cons, e0]
  refine xcallT (a9 := (Value.ref t :: As.map (xv g)).toArray) hC hE hR hL hS hc hs9 (fun T hT X9 => ?_) hb k9
  exact va_callIF X9 hC.1 (C := C) (bytes := xB μ') (maxL := xL μ') (ret := xR μ') hC.2.2.2.2.2.1 (hts _ (xWS_in h1 rfl)) (va_any rfl hF.1) (va_any rfl hF.2.1) (hts _ (xWS_in h3 rfl)) (hts _ (xWS_in h2 rfl)) (va_any rfl hF.2.2.1) (va_any rfl hF.2.2.2.1) (va_any rfl hF.2.2.2.2) p5 (xifs_mh _ h4) hK (by rw [hT]; exact q1) q2 q3 hkB (g := F0 m pc ls ((As.reverse ++ .ref a :: st).map (xv g))) rfl (hL.2.1.trans hC.2.2.1.symm) (argsL := As.map (xv g)) (rest := st.map (xv g)) (by rw [hx]; exact xlen hok hn g) e1 (by show 2 * 0 + _ ≤ 8; rw [xrest g hg]; omega) (by rw [hC.2.1]; exact hd) (fun vm₁ hW₁ => ⟨by show cells + c8 ≤ R.cells; omega, by show slots + s8 ≤ R.slots; omega, by rw [e2]; exact xPc_of hR hS hSF (T.setVm vm₁) hT hW₁⟩)
/-- .. the superclass's own -/
theorem X_callPT {idx n a : Nat} {C : String} (As : List Value) {st0 : List Value} (hd : decode (xB μ) pc = .ok (.invokespecial idx, 3)) (hp : pc + 3 = pc') (h1 : Cond.methodLink (xY μ).cls idx (xY μ') ∈ lw_tbl) (h2 : Cond.instanceMethod (xY μ') ∈ lw_tbl) (h3 : Cond.sameMethod (xY μ').cls (xY μ').cls (xY μ').name (xY μ').desc ∈ lw_tbl) (h4 : Cond.superclass (xY μ).cls (xY μ').cls ∈ lw_tbl) (hno : (xY μ').name ≠ "<init>") (hok : xOk μ' n) (hH : xH μ' = []) (hk : xK μ' < xK μ)
    (ha : xIs σ a C) (hn : As.length = n) (hA : ((.ref a :: As).map fun v => v.category).sum ≤ xL μ') (hrest : (st.map fun v => v.category).sum ≤ 8) (hst : As.reverse ++ .ref a :: st = st0)
    (hX : X μ' 0 (xEnt (.ref a :: As) (xL μ')) [] σ c8 s8 (Qd F (.inl w) τ)) (hb : c8 ≤ c9 ∧ s8 ≤ s9)
    (k9 : F → ∃ u, xUse σ τ u ∧ τ.1 - σ.1 ≤ c9 ∧ u ≤ s9 ∧ X μ pc' L (w.toList ++ st) τ (c9 - (τ.1 - σ.1)) (s9 - u) Φ) : X μ pc L st0 σ c9 s9 Φ := by
  subst hp
  subst hst
  intro g p l e R s m args below meth cd Q hC hE H locs cells slots ls hR hL hS hc hs9
  have hts := hC.2.2.2.2.2.2.2.1
  have hSF := hC.2.2.2.2.2.2.2.2.2.2.2.2
  have hg := hSF.2.2.2.2.2.2.2.2.2.2.1
  obtain ⟨p1, p2, p3, p4, p5, p6⟩ := xpay hC hok hk
  have hWe : xW μ' = .code (xY μ') (xB μ') (xL μ') (xR μ') := by rw [xW, hH]
  rw [hWe] at p5
  have hK := xBackT (len := 3) hX hok hH hA (l := l) (R := R) (p := p) (e := e) (below := below) (s := s) (sargs := args) hC.2.2.2.2.2.2.2.2.2.1 g p1 p2 p3 p4
  obtain ⟨t, cell, e0, q1, q2, q3⟩ := xIs_cell hR hS hSF ha
  obtain ⟨kB, hkB, -⟩ := Vm.findClass_spec q3
  have e1 : (As.reverse ++ .ref a :: st).map (xv g) = (As.map (xv g)).reverse ++ .ref t :: st.map (xv g) := by simp [e0]
  have e2 : (Value.ref t :: As.map (xv g)).toArray = ((.ref a :: As).map (xv g)).toArray := by rw [List.map_cons, e0]
  refine xcallT (a9 := (Value.ref t :: As.map (xv g)).toArray) hC hE hR hL hS hc hs9 (fun T hT X9 => ?_) hb k9
  exact va_callSU X9 hC.1 (bytes := xB μ') (maxL := xL μ') (ret := xR μ') hC.2.2.2.2.2.1 (hts _ (xWS_in h1 rfl)) (hts _ (xWS_in h3 rfl)) (hts _ (xWS_in h4 rfl)) (hts _ (xWS_in h2 rfl)) p5 hno hK (by rw [hT]; exact q1) q2 hkB (g := F0 m pc ls ((As.reverse ++ .ref a :: st).map (xv g))) rfl (hL.2.1.trans hC.2.2.1.symm) (argsL := As.map (xv g)) (rest := st.map (xv g)) (xlen hok hn g) e1 (by show 2 * 0 + _ ≤ 8; rw [xrest g hg]; omega) (by rw [hC.2.1]; exact hd) (fun vm₁ hW₁ => ⟨by show cells + c8 ≤ R.cells; omega, by show slots + s8 ≤ R.slots; omega, by rw [e2]; exact xPc_of hR hS hSF (T.setVm vm₁) hT hW₁⟩)
/-- a constructor -/
theorem X_callIT {idx a n : Nat} (As : List Value) {st0 : List Value} (hd : decode (xB μ) pc = .ok (.invokespecial idx, 3)) (hp : pc + 3 = pc') (h1 : Cond.methodLink (xY μ).cls idx (xY μ') ∈ lw_tbl) (h2 : Cond.instanceMethod (xY μ') ∈ lw_tbl) (hin : (xY μ').name = "<init>") (hok : xOk μ' n) (hH : xH μ' = []) (hrn : xR μ' = none) (hk : xK μ' < xK μ)
    (ha : a < σ.1) (hn : As.length = n) (hA : ((.ref a :: As).map fun v => v.category).sum ≤ xL μ') (hrest : (st.map fun v => v.category).sum ≤ 8) (hst : As.reverse ++ .ref a :: st = st0)
    (hX : X μ' 0 (xEnt (.ref a :: As) (xL μ')) [] σ c8 s8 (Qd F (.inl w) τ)) (hb : c8 ≤ c9 ∧ s8 ≤ s9)
    (k9 : F → ∃ u, xUse σ τ u ∧ τ.1 - σ.1 ≤ c9 ∧ u ≤ s9 ∧ X μ pc' L (w.toList ++ st) τ (c9 - (τ.1 - σ.1)) (s9 - u) Φ) : X μ pc L st0 σ c9 s9 Φ := by
  subst hp
  subst hst
  intro g p l e R s m args below meth cd Q hC hE H locs cells slots ls hR hL hS hc hs9
  have hts := hC.2.2.2.2.2.2.2.1
  have hSF := hC.2.2.2.2.2.2.2.2.2.2.2.2
  have hg := hSF.2.2.2.2.2.2.2.2.2.2.1
  obtain ⟨p1, p2, p3, p4, p5, p6⟩ := xpay hC hok hk
  have hWe : xW μ' = .code (xY μ') (xB μ') (xL μ') (xR μ') := by rw [xW, hH]
  rw [hWe, hrn] at p5
  have hK := xBackT (len := 3) hX hok hH hA (l := l) (R := R) (p := p) (e := e) (below := below) (s := s) (sargs := args) hC.2.2.2.2.2.2.2.2.2.1 g p1 p2 p3 p4
  have ha' : a < 1000000 := Nat.lt_of_lt_of_le ha hR.2.1
  have e1 : (As.reverse ++ .ref a :: st).map (xv g) = (As.map (xv g)).reverse ++ .ref (gB g + a) :: st.map (xv g) := by simp [xv_ref g ha']
  have e2 : (Value.ref (gB g + a) :: As.map (xv g)).toArray = ((.ref a :: As).map (xv g)).toArray := by rw [List.map_cons, xv_ref g ha']
  refine xcallT (a9 := (Value.ref (gB g + a) :: As.map (xv g)).toArray) hC hE hR hL hS hc hs9 (fun T hT X9 => ?_) hb k9
  exact callI X9 hC.1 (bytes := xB μ') (maxL := xL μ') hC.2.2.2.2.2.1 hin (hts _ (xWS_in h1 rfl)) (hts _ (xWS_in h2 rfl)) p5 ⟨hok.2.2.2.2.1.1, hok.2.2.2.2.1.2.1⟩ hK (g := F0 m pc ls ((As.reverse ++ .ref a :: st).map (xv g))) rfl (hL.2.1.trans hC.2.2.1.symm) (a := gB g + a) (argsL := As.map (xv g)) (rest := st.map (xv g)) (xlen hok hn g) e1 (by show 2 * 0 + _ ≤ 8; rw [xrest g hg]; omega) (by rw [hC.2.1]; exact hd) (fun vm₁ hW₁ => ⟨by show cells + c8 ≤ R.cells; omega, by show slots + s8 ≤ R.slots; omega, by rw [e2]; exact xPc_of hR hS hSF (T.setVm vm₁) hT hW₁⟩)
end XTi

/-! rows that read and write the heap -/
abbrev xup (h : Nat → Nat → Value) (a k : Nat) (v : Value) : Nat → Nat → Value := fun b j => if b = a ∧ j = k then v else h b j
def xset (σ : xS) (a k : Nat) (v : Value) : xS := (σ.1, σ.2.1, xup σ.2.2 a k v)
def xnew (σ : xS) (c n : Nat) (f : Nat → Value) : xS := (σ.1 + 1, fun b => if b = σ.1 then (c, n) else σ.2.1 b, fun b j => if b = σ.1 then f j else σ.2.2 b j)
def xct : Nat → Nat → FieldType
  | 0 => tyX0
  | 1 => tyX1
  | 2 => tyX2
  | 3 => tyX3
  | 4 => tyX4
  | 5 => tyX5
  | 6 => tyX6
  | 7 => tyX7
  | 8 => tyJx4a65c
  | 9 => tyJx35411
  | 10 => tyX18
  | 11 => tyX12
  | 12 => tyX13
  | 13 => tyX14
  | 14 => tyX16
  | 15 => tyX17
  | 16 => tyJ4
  | _ => tyJ0
theorem xcl_cases {P : Nat → vw_C → Prop} (h0 : P 0 (RX0, TX0, 4)) (h1 : P 1 (RX1, TX1, 11)) (h2 : P 2 (RX2, TX2, 5)) (h3 : P 3 (RX3, TX3, 7)) (h4 : P 4 (RX4, TX4, 4)) (h5 : P 5 (RX5, TX5, 3)) (h6 : P 6 (RX6, TX6, 10)) (h7 : P 7 (RX7, TX7, 7)) (h8 : P 8 (RJx4a65c, TJx4a65c, 3)) (h9 : P 9 (RJx35411, TJx35411, 4)) (h10 : P 10 (RX18, TX18, 9)) (h11 : P 11 (RX12, TX12, 6)) (h12 : P 12 (RX13, TX13, 4)) (h13 : P 13 (RX14, TX14, 1)) (h14 : P 14 (RX16, TX16, 4)) (h15 : P 15 (RX17, TX17, 1)) (h16 : P 16 (RJ4, TJ4, 4)) (h17 : P 17 (RJ0, TJ0, 4)) (c : Nat) (r : vw_C) (h : xcl[c]? = some r) : P c r := by
  match c, h with
  | 0, h => cases h; exact h0
  | 1, h => cases h; exact h1
  | 2, h => cases h; exact h2
  | 3, h => cases h; exact h3
  | 4, h => cases h; exact h4
  | 5, h => cases h; exact h5
  | 6, h => cases h; exact h6
  | 7, h => cases h; exact h7
  | 8, h => cases h; exact h8
  | 9, h => cases h; exact h9
  | 10, h => cases h; exact h10
  | 11, h => cases h; exact h11
  | 12, h => cases h; exact h12
  | 13, h => cases h; exact h13
  | 14, h => cases h; exact h14
  | 15, h => cases h; exact h15
  | 16, h => cases h; exact h16
  | 17, h => cases h; exact h17
  | n + 18, h => simp [xcl] at h
theorem xw_of {C : String} {T : u_T} {N : Nat} (h : (u_ws C T N).all (fun w => decide (w ∈ lw_tbl) && goodWord w) = true) : ∀ w ∈ u_ws C T N, w ∈ xWS := by
  intro w hw
  have h1 := List.all_eq_true.mp h w hw
  simp only [Bool.and_eq_true, decide_eq_true_eq] at h1
  exact xWS_in h1.1 h1.2
theorem xcl_ws : ∀ (c : Nat) (r : vw_C), xcl[c]? = some r → ∀ w ∈ u_ws r.1 r.2.1 r.2.2, w ∈ xWS :=
  xcl_cases (P := fun _ r => ∀ w ∈ u_ws r.1 r.2.1 r.2.2, w ∈ xWS) (xw_of (by decide +kernel)) (xw_of (by decide +kernel)) (xw_of (by decide +kernel)) (xw_of (by decide +kernel)) (xw_of (by decide +kernel)) (xw_of (by decide +kernel)) (xw_of (by decide +kernel)) (xw_of (by decide +kernel)) (xw_of (by decide +kernel)) (xw_of (by decide +kernel)) (xw_of (by decide +kernel)) (xw_of (by decide +kernel)) (xw_of (by decide +kernel)) (xw_of (by decide +kernel)) (xw_of (by decide +kernel)) (xw_of (by decide +kernel)) (xw_of (by decide +kernel)) (xw_of (by decide +kernel))
theorem xcl_nm : ∀ (c : Nat) (r : vw_C), xcl[c]? = some r → ∀ a, a < r.2.2 → ∀ b, b < r.2.2 → a ≠ b → (r.2.1 a).2.1 ≠ (r.2.1 b).2.1 :=
  xcl_cases (P := fun _ r => ∀ a, a < r.2.2 → ∀ b, b < r.2.2 → a ≠ b → (r.2.1 a).2.1 ≠ (r.2.1 b).2.1) nmX0 nmX1 nmX2 nmX3 nmX4 nmX5 nmX6 nmX7 nmJx4a65c nmJx35411 nmX18 nmX12 nmX13 nmX14 nmX16 nmX17 nmJ4 nmJ0
theorem xcl_ty : ∀ (c : Nat) (r : vw_C), xcl[c]? = some r → ∀ k, k < r.2.2 → parseFieldDescriptor (r.2.1 k).2.2.1 = some (xct c k) :=
  xcl_cases (P := fun c r => ∀ k, k < r.2.2 → parseFieldDescriptor (r.2.1 k).2.2.1 = some (xct c k)) tyX0_ok tyX1_ok tyX2_ok tyX3_ok tyX4_ok tyX5_ok tyX6_ok tyX7_ok tyJx4a65c_ok tyJx35411_ok tyX18_ok tyX12_ok tyX13_ok tyX14_ok tyX16_ok tyX17_ok tyJ4_ok tyJ0_ok
theorem xcl_lt {c : Nat} {r : vw_C} (h : xcl[c]? = some r) : c < 18 := by
  have := (List.getElem?_eq_some_iff.mp h).1
  simpa [xcl] using this
/-- the pool's row idx of class own names field k of class c -/
def xFl (own : String) (idx c k : Nat) : Prop := ∃ r : vw_C, xcl[c]? = some r ∧ k < r.2.2 ∧ ∃ ref : String, (ref = (r.2.1 k).1 ∨ Cond.sameField ref (r.2.1 k).1 (r.2.1 k).2.1 (r.2.1 k).2.2.1 ∈ lw_tbl) ∧ (Cond.fieldLink own idx ref (r.2.1 k).2.1 (r.2.1 k).2.2.1 ∈ lw_tbl ∨ ∃ host, Cond.fieldLinkNest own idx ref (r.2.1 k).2.1 (r.2.1 k).2.2.1 host ∈ lw_tbl)
/-- what a field, or an array's place, of this type takes -/
def xFit (ty : FieldType) (v : Value) : Prop := (∃ x : Int32, v = .int x ∧ narrow ty (.int x) = .int x ∧ fits ty (.int x) = true) ∨ ((v = .null ∨ ∃ a : Nat, v = .ref a) ∧ ((∃ n, ty = .object n) ∨ ∃ t, ty = .array t)) ∨ (∃ x : Int64, v = .long x ∧ ty = .long) ∨ (∃ x : UInt64, v = .double x ∧ ty = .double)
theorem xFit_narrow {g : xG} (hg : ∀ k, 1000000 ≤ k → gV g k = .null ∨ ∃ t, gV g k = .ref t) {ty : FieldType} {v : Value} (h : xFit ty v) : narrow ty (xv g v) = xv g v ∧ fits ty (xv g v) = true := by
  rcases h with ⟨x, rfl, h1, h2⟩ | ⟨hv, h⟩ | ⟨x, rfl, rfl⟩ | ⟨x, rfl, rfl⟩
  · exact ⟨h1, h2⟩
  · have e : xv g v = .null ∨ ∃ t, xv g v = .ref t := by
      rcases hv with rfl | ⟨a, rfl⟩
      · exact Or.inl rfl
      · by_cases ha : a < 1000000
        · exact Or.inr ⟨_, xv_ref g ha⟩
        · rw [xv_stat g (Nat.le_of_not_lt ha)]
          exact hg a (Nat.le_of_not_lt ha)
    rcases e with e | ⟨t, e⟩ <;> rw [e] <;> rcases h with ⟨n, rfl⟩ | ⟨t, rfl⟩ <;> exact ⟨rfl, rfl⟩
  · exact ⟨rfl, rfl⟩
  · exact ⟨rfl, rfl⟩
theorem xFit_int (x : Int32) : xFit .int (.int x) := Or.inl ⟨x, rfl, rfl, rfl⟩
theorem xFit_bool {z : Int} (h : z = 0 ∨ z = 1) : xFit .boolean (.int (iN z)) := Or.inl ⟨iN z, rfl, by rcases h with rfl | rfl <;> rfl, by rcases h with rfl | rfl <;> rfl⟩
theorem xFit_ref {ty : FieldType} {a : Nat} (_ : a < 1000000) (ht : (∃ n, ty = .object n) ∨ ∃ t, ty = .array t) : xFit ty (.ref a) := Or.inr (Or.inl ⟨Or.inr ⟨a, rfl⟩, ht⟩)
theorem xcell.kept {g : xG} {q : Nat × Nat} {f : Nat → Value} {a : Nat} {H H1 : Heap} (h : xcell g q f a H) (e : H1[a]? = H[a]?) : xcell g q f a H1 := by
  rcases h with h | ⟨h1, h2, r, h3, h4⟩ | ⟨h1, h2, h3⟩
  · exact Or.inl h
  · exact Or.inr (Or.inl ⟨h1, h2, r, h3, h4.1.kept e, by
      obtain ⟨cell, z1, z2⟩ := h4.2
      exact ⟨cell, by rw [e]; exact z1, z2⟩⟩)
  · exact Or.inr (Or.inr ⟨h1, h2, e.trans h3⟩)
/-- the state behind a write to one made thing -/
theorem xRep_set {g : xG} {σ : xS} {H H1 : Heap} {a k : Nat} {v : Value} (h : xRep g σ H) (ha : a < σ.1) (hz : H1.size = H.size) (hq : ∀ q : Nat, q ≠ gB g + a → H1[q]? = H[q]?) (hc : xcell g (σ.2.1 a) (fun j => if j = k then v else σ.2.2 a j) (gB g + a) H1) : xRep g (xset σ a k v) H1 := by
  obtain ⟨h1, h2, h3, h4⟩ := h
  refine ⟨hz.trans h1, h2, fun b hb => ?_, fun b hb => ⟨(h4 b hb).1, ?_⟩⟩
  · by_cases e : b = a
    · subst e
      have : (xset σ b k v).2.2 b = fun j => if j = k then v else σ.2.2 b j := by funext j; simp [xset, xup]
      rw [this]
      exact hc
    · have : (xset σ a k v).2.2 b = σ.2.2 b := by funext j; simp [xset, xup, e]
      rw [this]
      exact (h3 b hb).kept (hq _ (by omega))
  · have : (xset σ a k v).2.2 b = σ.2.2 b := by
      funext j
      have e : ¬ b = a := by have : σ.1 ≤ 1000000 := h2; have : a < σ.1 := ha; omega
      simp [xset, xup, e]
    rw [this]
    exact (h4 b hb).2
/-- the state behind the making of a thing -/
theorem xRep_new {g : xG} {σ : xS} {H H1 : Heap} {c n : Nat} {f : Nat → Value} (h : xRep g σ H) (hN : σ.1 < 1000000) (hz : H1.size = H.size + 1) (hq : ∀ q : Nat, q < H.size → H1[q]? = H[q]?) (hc : xcell g (c, n) f (gB g + σ.1) H1) : xRep g (xnew σ c n f) H1 := by
  obtain ⟨h1, h2, h3, h4⟩ := h
  refine ⟨by rw [hz, h1]; simp only [xnew]; omega, by simp only [xnew]; omega, fun b hb => ?_, fun b hb => ?_⟩
  · by_cases e : b = σ.1
    · subst e
      have e1 : (xnew σ c n f).2.2 σ.1 = f := by funext j; simp [xnew]
      have e2 : (xnew σ c n f).2.1 σ.1 = (c, n) := by simp [xnew]
      rw [e1, e2]
      exact hc
    · have e1 : (xnew σ c n f).2.2 b = σ.2.2 b := by funext j; simp [xnew, e]
      have e2 : (xnew σ c n f).2.1 b = σ.2.1 b := by simp [xnew, e]
      rw [e1, e2]
      have hb' : b < σ.1 := by simp only [xnew] at hb; omega
      exact (h3 b hb').kept (hq _ (by omega))
  · have e : ¬ b = σ.1 := by omega
    have e1 : (xnew σ c n f).2.2 b = σ.2.2 b := by funext j; simp [xnew, e]
    have e2 : (xnew σ c n f).2.1 b = σ.2.1 b := by simp [xnew, e]
    rw [e1, e2]
    exact h4 b hb
theorem xS_put {g : xG} {H0 H H1 : Heap} {locs : List Loc} {a k : Nat} (h : va_S (xA g) H0 H locs) (hz : H1.size = H.size) (hq : ∀ q : Nat, q ≠ gB g + a → H1[q]? = H[q]?) : va_S (xA g) H0 H1 (locs ++ [⟨gB g + a, k⟩]) := h.put hz hq (Nat.le_add_right _ _)
theorem xS_new {g : xG} {H0 H H1 : Heap} {locs : List Loc} (h : va_S (xA g) H0 H locs) (hz : H1.size = H.size + 1) (hq : ∀ q : Nat, q < H.size → H1[q]? = H[q]?) : va_S (xA g) H0 H1 locs := ⟨by rw [hz]; exact Nat.le_succ_of_le h.1, fun q h1 h2 => (hq q (Nat.lt_of_lt_of_le h1 h.1)).trans (h.2.1 q h1 h2), h.2.2⟩
section XHp
variable {μ : xM} {pc pc' tgt : Nat} {L L' : List (Option Value)} {st : List Value} {σ : xS} {c9 s9 : Nat} {Φ : xRes → xS → Prop}
theorem xsame {args : Array Value} {s : State} {ref own n d : String} {x : ClassId × Class × Nat × Field} (hts : ∀ w ∈ xWS, w.before args s = true) (h : ref = own ∨ Cond.sameField ref own n d ∈ lw_tbl) (hi : s.fieldFound? own n d = some x) : s.fieldFound? ref n d = some x := by
  rcases h with rfl | h
  · exact hi
  · exact u_same (hts _ (xWS_in h rfl)) x hi
theorem X_getf {idx c k a : Nat} {v : Value} (hd : decode (xB μ) pc = .ok (.getfield idx, 3)) (hp : pc + 3 = pc') (hf : xFl (xY μ).cls idx c k) (ha : a < σ.1) (hs : (σ.2.1 a).1 = c + 1) (hv : σ.2.2 a k = v) (k9 : X μ pc' L (v :: st) σ c9 s9 Φ) : X μ pc L (.ref a :: st) σ c9 s9 Φ := by
  subst hp
  subst hv
  intro g p l e R s m args below meth cd Q hC hE H locs cells slots ls hR hL hS hc hs9
  have k9 := k9 g p l e R s m args below meth cd Q hC hE H locs cells slots ls hR hL hS hc hs9
  obtain ⟨hx, hb, hml, hrt, hlocks, hown, hin, hts, htab, htr, hfr, hlo, hSF⟩ := hC
  obtain ⟨r, hr, hk, ref, hrf, hlk⟩ := hf
  have hc7 := xcl_lt hr
  have ha' : a < 1000000 := Nat.lt_of_lt_of_le ha hR.2.1
  have hcell := hR.2.2.1 a ha
  rw [List.map_cons, xv_ref g ha']
  rcases hcell with h0 | ⟨-, -, r', hr', hOB, -⟩ | ⟨h20, -, -⟩
  · omega
  · rw [hs, Nat.add_sub_cancel] at hr' hOB
    cases hr.symm.trans hr'
    obtain ⟨cell, q1, q2, q3, q4⟩ := hOB
    obtain ⟨hS', hfc, kC, hkC, hkind⟩ := hSF.1 c r hr
    obtain ⟨cf, kf, fi, f, hi, hsl⟩ := hS' k hk
    have hst := (u_facts hfc hkC (u_lays hts (xcl_ws c r hr) hk) hi).1
    have hi := xsame hts hrf hi
    rcases hlk with hl | ⟨host, hl⟩
    · exact W.getf hx hb hown (hts _ (xWS_in hl rfl)) hi hst q1 (by rw [q3]; exact fun h => by cases h) (v := xv g (σ.2.2 a k)) (by rw [hsl, q4 k hk]) rfl rfl hd k9
    · exact va_Wgetf hx hb hown (va_Nw.use rfl (hSF.2.2.2.2.2.2.2.1 _ hl rfl)) hi hst q1 (by rw [q3]; exact fun h => by cases h) (v := xv g (σ.2.2 a k)) (by rw [hsl, q4 k hk]) rfl rfl hd k9
  · omega
theorem X_putf {idx c k a : Nat} {v : Value} (hd : decode (xB μ) pc = .ok (.putfield idx, 3)) (hp : pc + 3 = pc') (hf : xFl (xY μ).cls idx c k) (ha : a < σ.1) (hs : (σ.2.1 a).1 = c + 1) (hfin : ∀ r : vw_C, xcl[c]? = some r → (r.2.1 k).2.2.2 = false ∨ ((xY μ).name = "<init>" ∧ (xY μ).cls = (r.2.1 k).1)) (hv : xFit (xct c k) v) (k9 : X μ pc' L st (xset σ a k v) c9 s9 Φ) : X μ pc L (v :: .ref a :: st) σ c9 s9 Φ := by
  subst hp
  intro g p l e R s m args below meth cd Q hC hE H locs cells slots ls hR hL hS hc hs9
  have k9 := fun H locs hR hS => k9 g p l e R s m args below meth cd Q hC hE H locs cells slots ls hR hL hS hc hs9
  obtain ⟨hx, hb, hml, hrt, hlocks, hown, hin, hts, htab, htr, hfr, hlo, hSF⟩ := hC
  obtain ⟨r, hr, hk, ref, hrf, hlk⟩ := hf
  have hc7 := xcl_lt hr
  have ha' : a < 1000000 := Nat.lt_of_lt_of_le ha hR.2.1
  have hcell := hR.2.2.1 a ha
  have hnv := xFit_narrow (g := g) hSF.2.2.2.2.2.2.2.2.2.2.1 hv
  rw [List.map_cons, List.map_cons, xv_ref g ha']
  rcases hcell with h0 | ⟨hq0, hq20, r', hr', hOB, hSZ⟩ | ⟨h20, -, -⟩
  · omega
  · rw [hs, Nat.add_sub_cancel] at hr' hOB
    cases hr.symm.trans hr'
    obtain ⟨cell, q1, q2, q3, q4⟩ := hOB
    obtain ⟨hS', hfc, kC, hkC, hkind⟩ := hSF.1 c r hr
    have hap := va_apart (own := (xY μ).cls) (D := (gC g, gI g)) (cl := xcl) (tys := []) hts (xcl_ws c r hr) (xct c) (xcl_ty c r hr) (xcl_nm c r hr) ⟨hSF.1, fun k q h => by simp at h⟩ hr
    obtain ⟨cf, kf, fi, f, hi, hsl⟩ := hS' k hk
    have hst := (u_facts hfc hkC (u_lays hts (xcl_ws c r hr) hk) hi).1
    have hlay := hts _ (xcl_ws c r hr _ (u_in_lay hk))
    have hlays := u_lays hts (xcl_ws c r hr) hk
    have hi' := xsame hts hrf hi
    have fin : ∀ H' : Heap, H'[gB g + a]? = some (cell.setSlot f.slot (xv g v)) → H'.size = H.size → (∀ q, q ≠ gB g + a → H'[q]? = H[q]?) → W p l e R s m args below meth cd H' (locs ++ [⟨gB g + a, f.slot⟩]) cells slots Q (F0 m (pc + 3) ls (st.map (xv g))) := by
      intro H' e1 e2 e3
      refine k9 H' _ (xRep_set hR ha e2 e3 (Or.inr (Or.inl ⟨hq0, hq20, r, by rw [hs, Nat.add_sub_cancel]; exact hr, ?_, by
        obtain ⟨cell2, z1, z2⟩ := hSZ
        cases q1.symm.trans z1
        exact ⟨_, e1, by
          have : (cell.setSlot f.slot (xv g v)).slots.size = cell.slots.size := by simp [Cell.setSlot]
          rw [this]; exact z2⟩⟩))) (xS_put hS e2 e3)
      rw [hs, Nat.add_sub_cancel]
      rw [hsl] at e1
      refine t_OB.to (V := updV (fun i => xv g (σ.2.2 a i)) k (xv g v)) ⟨_, e1, q2, q3, t_set q4 hap hk (xv g v)⟩ (fun j _ => ?_)
      simp only [updV]
      split <;> rfl
    unfold u_lay at hlay
    rcases hfin r hr with hf | ⟨hf1, hf2⟩
    · rw [if_neg (by rw [hf]; decide)] at hlay
      have h6 := u_store hfc hkC hkind hlay hi (xcl_ty c r hr k hk) hnv.1 hnv.2
      rcases hlk with hl | ⟨host, hl⟩
      · exact W.putK hx hb (f := f) ⟨hown, hts _ (xWS_in hl rfl), ⟨_, _, _, hi'⟩, hst⟩ (by rw [q2]; exact h6) q1 q3 (by rw [hsl]; exact k2_hasslot (q4 k hk)) rfl rfl hd fin
      · exact va_WputK hx hb (f := f) hown (va_Nw.use rfl (hSF.2.2.2.2.2.2.2.1 _ hl rfl)) hi' hst (by rw [q2]; exact h6) q1 q3 (by rw [hsl]; exact k2_hasslot (q4 k hk)) rfl rfl hd fin
    · by_cases hfv : (r.2.1 k).2.2.2 = true
      · rw [if_pos hfv] at hlay
        have hcf : m.cls = cf := by
          obtain ⟨_, _, c', _, _, _, -, -, hf', -, -, -, hown2, -⟩ := Cond.laysFinal_spec hlay
          have e1 : c' = cf := by have := hi.symm.trans hf'; simp at this; exact this.1.symm
          rw [← hf2] at hown2
          rw [← e1]; exact Option.some.inj (hown.symm.trans hown2)
        have h6 := u_fits hfc hkC hkind (Or.inr hlay) hi (xcl_ty c r hr k hk) hnv.1 hnv.2
        rcases hlk with hl | ⟨host, hl⟩
        · exact W.putFinK hx hb hown (hts _ (xWS_in hl rfl)) hi' hst hcf (hin.trans hf1) (by rw [q2]; exact h6) q1 q3 (by rw [hsl]; exact k2_hasslot (q4 k hk)) rfl rfl hd fin
        · refine va_Wputf hx hb hown (va_Nw.use rfl (hSF.2.2.2.2.2.2.2.1 _ hl rfl)) hi' hst (Or.inr ⟨hcf, hin.trans hf1⟩) q1 (by rw [q3]; exact fun h => by cases h) (by rw [hsl]; exact k2_hasslot (q4 k hk)) h6.1 (by rw [q3, q2]; exact h6.2) rfl rfl hd (fin _ ?_ ?_ ?_)
          · simp [Array.getElem?_setIfInBounds, (Array.getElem?_eq_some_iff.mp q1).1]
          · simp
          · intro q hq
            simp [Array.getElem?_setIfInBounds, Ne.symm hq]
      · rw [if_neg hfv] at hlay
        have h6 := u_store hfc hkC hkind hlay hi (xcl_ty c r hr k hk) hnv.1 hnv.2
        rcases hlk with hl | ⟨host, hl⟩
        · exact W.putK hx hb (f := f) ⟨hown, hts _ (xWS_in hl rfl), ⟨_, _, _, hi'⟩, hst⟩ (by rw [q2]; exact h6) q1 q3 (by rw [hsl]; exact k2_hasslot (q4 k hk)) rfl rfl hd fin
        · exact va_WputK hx hb (f := f) hown (va_Nw.use rfl (hSF.2.2.2.2.2.2.2.1 _ hl rfl)) hi' hst (by rw [q2]; exact h6) q1 q3 (by rw [hsl]; exact k2_hasslot (q4 k hk)) rfl rfl hd fin
  · omega
theorem xborn_size {args : Array Value} {s : State} {C : String} {n : Nat} {cC : ClassId} {kC : Class} (h : (Cond.instantiable C n).before args s = true) (hf : s.vm.findClass C = some cC) (hk : s.vm.classes[cC]? = some kC) : (blank cC kC).slots.size = n := by
  obtain ⟨c, k, h1, h2, -, -, -, h3⟩ := Cond.instantiable_spec (args := args) (first := s) (o := none) (s := s) (idx := []) h
  cases hf.symm.trans h1
  cases hk.symm.trans h2
  rw [← h3]
  simp [blank]
theorem X_new {idx c c8 s8 : Nat} {r : vw_C} (hd : decode (xB μ) pc = .ok (.new idx, 3)) (hp : pc + 3 = pc') (hr : xcl[c]? = some r) (h1 : Cond.classLink (xY μ).cls idx r.1 ∈ lw_tbl) (h2 : Cond.instantiable r.1 r.2.2 ∈ lw_tbl) (h3 : Cond.initialized r.1 ∈ lw_tbl) (hN : σ.1 < 1000000) (hc9 : c9 = c8 + 1) (hs9 : s9 = s8 + r.2.2) (k9 : X μ pc' L (.ref σ.1 :: st) (xnew σ (c + 1) r.2.2 (fun j => defaultValue (xct c j))) c8 s8 Φ) : X μ pc L st σ c9 s9 Φ := by
  subst hp
  subst hc9
  subst hs9
  intro g p l e R s m args below meth cd Q hC hE H locs cells slots ls hR hL hS hc hs9
  have k9 := fun H hR hS => k9 g p l e R s m args below meth cd Q hC hE H locs (cells + 1) (slots + r.2.2) ls hR hL hS (by omega) (by omega)
  obtain ⟨hx, hb, hml, hrt, hlocks, hown, hin, hts, htab, htr, hfr, hlo, hSF⟩ := hC
  have hc7 := xcl_lt hr
  obtain ⟨hS', hfc, -⟩ := hSF.1 c r hr
  refine W.newcK hx hb hown (hts _ (xWS_in h1 rfl)) (hts _ (xWS_in h2 rfl)) (hts _ (xWS_in h3 rfl)) rfl hd (by omega) (by omega) hfc hR.1 fun H1 kC hkC e1 z1 o1 => ?_
  rw [List.map_cons, xv_ref g hN] at k9
  rw [← hR.1] at o1 z1
  refine k9 H1 (xRep_new hR hN z1 o1 (Or.inr (Or.inl ⟨by show 0 < c + 1; omega, by show c + 1 < 20; omega, r, by show xcl[c + 1 - 1]? = _; rw [Nat.add_sub_cancel]; exact hr, ?_, ⟨_, e1, ?_⟩⟩))) (xS_new hS z1 o1)
  · show t_OB _ (gC g (c + 1 - 1)) _ (gI g (c + 1 - 1)) _ _
    rw [Nat.add_sub_cancel]
    refine (u_born (xct c) hts (xcl_ws c r hr) (hSF.1 c r hr) hkC e1 (xcl_ty c r hr)).to (fun j _ => ?_)
    show defaultValue (xct c j) = xv g (defaultValue (xct c j))
    cases xct c j <;> rfl
  · have := xborn_size (hts _ (xWS_in h2 rfl)) hfc hkC
    show _ ≤ r.2.2
    omega
end XHp

set_option maxRecDepth 20000
/-! insertion's repair -/
def St (D : DD) (m : Int) (t : T) (fs : List Fm) (x : Int) : Prop := dO D m 11 ∧ (addrs t ++ paddrs fs).Nodup ∧ TD D t (par fs) x ∧ PD D m fs x
theorem inord_plug : ∀ {fs : List Fm} {t t' : T}, inord t = inord t' → inord (plug fs t) = inord (plug fs t')
  | [], _, _, h => h
  | f :: fs, t, t', h => inord_plug (fs := fs) (by
    by_cases c : f.left = true
    · rw [if_pos c, if_pos c]; simp only [inord_nd, inord_nil, h]
    · rw [if_neg c, if_neg c]; simp only [inord_nd, inord_nil, h])
def fmT (f : Fm) (t : T) : T := if f.left then .nd t f.a f.k f.v f.o else .nd f.o f.a f.k f.v t
theorem fm_perm (f : Fm) (t : T) (fs : List Fm) : (addrs (fmT f t) ++ paddrs fs).Perm (addrs t ++ paddrs (f :: fs)) := by
  unfold fmT
  have e : (addrs t ++ paddrs (f :: fs)).Perm (f.a :: (addrs t ++ (addrs f.o ++ paddrs fs))) := by
    show (addrs t ++ (f.a :: (addrs f.o ++ paddrs fs))).Perm _
    exact List.perm_middle
  refine List.Perm.trans ?_ e.symm
  split
  · show (f.a :: ((addrs t ++ addrs f.o) ++ paddrs fs)).Perm _
    rw [List.append_assoc]
  · show (f.a :: ((addrs f.o ++ addrs t) ++ paddrs fs)).Perm _
    refine List.Perm.cons _ ?_
    rw [← List.append_assoc]
    exact List.Perm.append_right _ List.perm_append_comm
theorem plug_perm : ∀ (fs : List Fm) (t : T), (addrs (plug fs t)).Perm (addrs t ++ paddrs fs)
  | [], t => by simp [plug, paddrs]
  | f :: fs, t => (plug_perm fs (fmT f t)).trans (fm_perm f t fs)
theorem St.up {D : DD} {m : Int} {t : T} {f : Fm} {fs : List Fm} {x : Int} (h : St D m t (f :: fs) x) : St D m (fmT f t) fs f.a := by
  obtain ⟨h1, h2, h3, h4⟩ := h
  refine ⟨h1, (fm_perm f t fs).nodup_iff.mpr h2, ?_, h4.2.2.2⟩
  obtain ⟨g1, g2, g3, g4⟩ := h4
  unfold fmT
  by_cases c : f.left = true
  · rw [if_pos c] at g3 ⊢
    exact ⟨rfl, g1, g2, by rw [g3.1]; exact h3, g3.2⟩
  · rw [if_neg c] at g3 ⊢
    exact ⟨rfl, g1, g2, g3.2, by rw [g3.1]; exact h3⟩
theorem St.down {D : DD} {m : Int} {t : T} {f : Fm} {fs : List Fm} {x : Int} (h : St D m (fmT f t) fs f.a) (hx : x = dW D f.a (if f.left then 2 else 3)) : St D m t (f :: fs) x := by
  obtain ⟨h1, h2, h3, h4⟩ := h
  refine ⟨h1, (fm_perm f t fs).nodup_iff.mp h2, ?_⟩
  unfold fmT at h3
  by_cases c : f.left = true
  · rw [if_pos c] at h3 hx
    obtain ⟨-, g1, g2, g3, g4⟩ := h3
    refine ⟨by rw [hx]; exact g3, g1, g2, ?_, h4⟩
    rw [if_pos c]
    exact ⟨hx.symm, g4⟩
  · rw [if_neg c] at h3 hx
    obtain ⟨-, g1, g2, g3, g4⟩ := h3
    refine ⟨by rw [hx]; exact g4, g1, g2, ?_, h4⟩
    rw [if_neg c]
    exact ⟨hx.symm, g3⟩
theorem St.col {D : DD} {m : Int} {t : T} {fs : List Fm} {x y c : Int} (h : St D m t fs x) : St (dup D y 5 c) m t fs x := by
  obtain ⟨h1, h2, h3, h4⟩ := h
  have e : ∀ a j, j < 5 → dW (dup D y 5 c) a j = dW D a j := fun a j hj => by rw [dup_at, if_neg (by omega)]
  exact ⟨h1, h2, TD_ag (D := D) (D' := dup D y 5 c) (fun _ _ h => h) (fun a _ j hj => e a j hj) h3, PD_ag (D := D) (D' := dup D y 5 c) (fun _ _ h => h) (e m 3 (by decide)) (fun a _ j hj => e a j hj) h4⟩
theorem St.root {D : DD} {m : Int} : ∀ {fs : List Fm} {t : T} {x : Int}, St D m t fs x → TD D (plug fs t) 0 (dW D m 3)
  | [], t, x, h => by
    have := h.2.2.2
    have e : dW D m 3 = x := this
    rw [e]
    exact h.2.2.1
  | f :: fs, t, x, h => by
    show TD D (plug fs (fmT f t)) 0 (dW D m 3)
    exact St.root h.up
/-- what is kept from D0 on, with these addresses -/
def Kp (D0 D : DD) (m : Int) (A : List Int) (I : List (Int × Int)) (t : T) (fs : List Fm) : Prop :=
  Sm D0 D ∧ inord (plug fs t) = I ∧ (addrs t ++ paddrs fs).Perm A ∧ ∀ y j, (y ≠ m ∧ y ∉ A) ∨ (y = m ∧ j ≠ 3) → dW D y j = dW D0 y j
theorem Kp.col {D0 D : DD} {m : Int} {A : List Int} {I : List (Int × Int)} {t : T} {fs : List Fm} {y c : Int} (h : Kp D0 D m A I t fs) (hy : y ∈ A) (hm : y ≠ m) : Kp D0 (dup D y 5 c) m A I t fs := by
  obtain ⟨h1, h2, h3, h4⟩ := h
  refine ⟨h1, h2, h3, fun z j hz => ?_⟩
  rw [dup_at, if_neg]
  · exact h4 z j hz
  · rintro ⟨rfl, rfl⟩
    rcases hz with q | q
    · exact q.2 hy
    · exact hm q.1
theorem Kp.up {D0 D : DD} {m : Int} {A : List Int} {I : List (Int × Int)} {t : T} {f : Fm} {fs : List Fm} : Kp D0 D m A I t (f :: fs) ↔ Kp D0 D m A I (fmT f t) fs := by
  constructor
  · rintro ⟨h1, h2, h3, h4⟩
    exact ⟨h1, h2, (fm_perm f t fs).trans h3, h4⟩
  · rintro ⟨h1, h2, h3, h4⟩
    exact ⟨h1, h2, (fm_perm f t fs).symm.trans h3, h4⟩
theorem St.in {D : DD} {m : Int} {t : T} {f : Fm} {fs : List Fm} {x : Int} (_ : St D m t (f :: fs) x) : f.a ∈ addrs t ++ paddrs (f :: fs) := by simp [paddrs]
theorem St.fO {D : DD} {m : Int} {t : T} {f : Fm} {fs : List Fm} {x : Int} (h : St D m t (f :: fs) x) : dO D f.a 12 := h.2.2.2.1.1
theorem St.pp {D : DD} {m : Int} {t : T} {f : Fm} {fs : List Fm} {x : Int} (h : St D m t (f :: fs) x) : dW D f.a 4 = par fs := h.2.2.2.2.1
theorem St.x4 {D : DD} {m : Int} {t : T} {fs : List Fm} {x : Int} (h : St D m t fs x) (h0 : x ≠ 0) : dO D x 12 ∧ dW D x 4 = par fs := by
  have h3 := h.2.2.1
  cases t using T.cas with
  | nil => exact absurd h3 h0
  | nd l a k v r =>
    obtain ⟨rfl, g1, g2, -⟩ := h3
    exact ⟨g1.1, g2⟩
theorem s_parentOf {D : DD} {x : Int} (h : x = 0 ∨ dO D x 12) : fX18_parentOf x D = some (if x = 0 then 0 else dW D x 4) := by
  unfold fX18_parentOf
  rcases h with h | h
  · rw [if_pos h, if_pos h]
  · have : x ≠ 0 := by have := h.1; omega
    rw [if_neg this, if_pos h, if_neg this]
theorem s_leftOf {D : DD} {x : Int} (h : x = 0 ∨ dO D x 12) : fX18_leftOf x D = some (if x = 0 then 0 else dW D x 2) := by
  unfold fX18_leftOf
  rcases h with h | h
  · rw [if_pos h, if_pos h]
  · have : x ≠ 0 := by have := h.1; omega
    rw [if_neg this, if_pos h, if_neg this]
theorem s_rightOf {D : DD} {x : Int} (h : x = 0 ∨ dO D x 12) : fX18_rightOf x D = some (if x = 0 then 0 else dW D x 3) := by
  unfold fX18_rightOf
  rcases h with h | h
  · rw [if_pos h, if_pos h]
  · have : x ≠ 0 := by have := h.1; omega
    rw [if_neg this, if_pos h, if_neg this]
theorem s_colorOf {D : DD} {x : Int} (h : x = 0 ∨ dO D x 12) : fX18_colorOf x D = some (if x = 0 then 1 else dW D x 5) := by
  unfold fX18_colorOf
  rcases h with h | h
  · rw [if_pos h, if_pos h]
  · have : x ≠ 0 := by have := h.1; omega
    rw [if_neg this, if_pos h, if_neg this]
theorem s_setColor {D : DD} {x c : Int} (h : dO D x 12) (hc : c = 0 ∨ c = 1) : fX18_setColor x c D = some (dup D x 5 c) := by
  unfold fX18_setColor
  have : x ≠ 0 := by have := h.1; omega
  rw [if_neg this, if_pos h, if_pos hc, zl_eq]
/-! finishing -/

theorem s_b118 {D0 D : DD} {m : Int} {A : List Int} {I : List (Int × Int)} {t : T} {p g : Fm} {fs : List Fm} {x : Int} (hp : p.left = true) (hg : g.left = true) (h : St D m t (p :: g :: fs) x) (hx : x ≠ 0) (K : Kp D0 D m A I t (p :: g :: fs)) :
    ∃ D', fX18_fixAfterInsertion_b118 m x D = some (.inl (x, D')) ∧ St D' m t (⟨true, p.a, p.k, p.v, .nd p.o g.a g.k g.v g.o⟩ :: fs) x ∧ Kp D0 D' m A I t (⟨true, p.a, p.k, p.v, .nd p.o g.a g.k g.v g.o⟩ :: fs) ∧ dW D' p.a 5 = 1 := by
  have hm := h.1
  obtain ⟨xO, x4⟩ := h.x4 hx
  have x4 : dW D x 4 = p.a := x4
  have pO := h.fO
  have p4 : dW D p.a 4 = g.a := h.pp
  have gO := h.up.fO
  have p0 : p.a ≠ 0 := by have := pO.1; omega
  have g0 : g.a ≠ 0 := by have := gO.1; omega
  have pm : p.a ≠ m := dO_ne pO hm (by decide)
  have gm : g.a ≠ m := dO_ne gO hm (by decide)
  have pg : p.a ≠ g.a := by
    have := h.2.1
    rw [List.nodup_append] at this
    have := this.2.1
    simp only [paddrs, List.nodup_cons, List.mem_append, List.mem_cons, not_or] at this
    exact this.1.2.1
  have pA : p.a ∈ A := K.2.2.1.mem_iff.mp (by simp [paddrs])
  have gA : g.a ∈ A := K.2.2.1.mem_iff.mp (by simp [paddrs])
  unfold fX18_fixAfterInsertion_b118
  rw [s_parentOf (Or.inr xO), if_neg hx, x4]
  simp only [Option.bind_some]
  rw [s_setColor pO (Or.inr rfl)]
  simp only [Option.bind_some]
  have h1 : St (dup D p.a 5 1) m t (p :: g :: fs) x := h.col
  have K1 := K.col (c := 1) pA pm
  generalize hD1 : dup D p.a 5 1 = D1 at h1 K1
  have c1 : dW D1 p.a 5 = 1 := by rw [← hD1, dup_at, if_pos ⟨rfl, rfl⟩]
  rw [s_parentOf (Or.inr (h1.x4 hx).1), if_neg hx, (h1.x4 hx).2]
  simp only [Option.bind_some, par]
  rw [s_parentOf (Or.inr h1.fO), if_neg p0, h1.pp]
  simp only [Option.bind_some, par]
  rw [s_setColor h1.up.fO (Or.inl rfl)]
  simp only [Option.bind_some]
  have h2 : St (dup D1 g.a 5 0) m t (p :: g :: fs) x := h1.col
  have K2 := K1.col (c := 0) gA gm
  generalize hD2 : dup D1 g.a 5 0 = D2 at h2 K2
  have c2 : dW D2 p.a 5 = 1 := by rw [← hD2, dup_at, if_neg (fun q => pg q.1), c1]
  rw [s_parentOf (Or.inr (h2.x4 hx).1), if_neg hx, (h2.x4 hx).2]
  simp only [Option.bind_some, par]
  rw [s_parentOf (Or.inr h2.fO), if_neg p0, h2.pp]
  simp only [Option.bind_some, par]
  have h3 := h2.up.up
  have e3 : fmT g (fmT p t) = .nd (.nd t p.a p.k p.v p.o) g.a g.k g.v g.o := by unfold fmT; rw [hp, hg]; rfl
  rw [e3] at h3
  obtain ⟨D3, r1, r2, r3, r4, r5⟩ := rotRight h3.1 h3.2.1 h3.2.2.1 h3.2.2.2
  rw [r1]
  simp only [Option.bind_some]
  rw [if_pos h2.1]
  unfold fX18_fixAfterInsertion_b148
  have pe : (addrs (.nd t p.a p.k p.v (.nd p.o g.a g.k g.v g.o))).Perm (addrs (.nd (.nd t p.a p.k p.v p.o) g.a g.k g.v g.o)) := by
    simp only [addrs_nd, addrs_nil]
    refine List.Perm.trans ?_ (List.Perm.swap _ _ _)
    refine List.Perm.cons _ ?_
    refine List.perm_middle.trans ?_
    refine List.Perm.cons _ ?_
    show (addrs t ++ (addrs p.o ++ addrs g.o)).Perm ((addrs t ++ addrs p.o) ++ addrs g.o)
    rw [List.append_assoc]
  have h4 : St D3 m (.nd t p.a p.k p.v (.nd p.o g.a g.k g.v g.o)) fs p.a := ⟨r2.dO h3.1, (pe.append_right (paddrs fs)).nodup_iff.mpr h3.2.1, r3, r4⟩
  have xx : x = dW D3 p.a 2 := by
    obtain ⟨-, -, -, q1, q2⟩ := r3
    have q := h.2.2.1
    cases t using T.cas with
    | nil => exact absurd q hx
    | nd l a k v r => exact q.1.trans (q1.1).symm
  have h5 : St D3 m t (⟨true, p.a, p.k, p.v, .nd p.o g.a g.k g.v g.o⟩ :: fs) x := h4.down (f := ⟨true, p.a, p.k, p.v, .nd p.o g.a g.k g.v g.o⟩) xx
  refine ⟨D3, rfl, h5, ?_, by rw [r5 _ _ (Or.inr (Or.inl rfl)), c2]⟩
  have K3 := Kp.up.mp (Kp.up.mp K2)
  rw [e3] at K3
  refine Kp.up.mpr ?_
  show Kp D0 D3 m A I (.nd t p.a p.k p.v (.nd p.o g.a g.k g.v g.o)) fs
  refine ⟨K3.1.trans r2, ?_, (pe.append_right _).trans K3.2.2.1, fun y j hy => ?_⟩
  · rw [← K3.2.1]
    exact inord_plug (by simp [inord_nd, inord_nil])
  · rw [r5 y j ?_]
    · exact K3.2.2.2 y j hy
    · rcases hy with q | q
      · refine Or.inl ⟨q.1, fun q' => q.2 (K3.2.2.1.mem_iff.mp (List.mem_append_left _ q')), fun q' => q.2 (K3.2.2.1.mem_iff.mp (List.mem_append_right _ q'))⟩
      · exact Or.inr (Or.inr q)

theorem s_b225 {D0 D : DD} {m : Int} {A : List Int} {I : List (Int × Int)} {t : T} {p g : Fm} {fs : List Fm} {x : Int} (hp : p.left = false) (hg : g.left = false) (h : St D m t (p :: g :: fs) x) (hx : x ≠ 0) (K : Kp D0 D m A I t (p :: g :: fs)) :
    ∃ D', fX18_fixAfterInsertion_b225 m x D = some (.inl (x, D')) ∧ St D' m t (⟨false, p.a, p.k, p.v, .nd g.o g.a g.k g.v p.o⟩ :: fs) x ∧ Kp D0 D' m A I t (⟨false, p.a, p.k, p.v, .nd g.o g.a g.k g.v p.o⟩ :: fs) ∧ dW D' p.a 5 = 1 := by
  have hm := h.1
  obtain ⟨xO, x4⟩ := h.x4 hx
  have x4 : dW D x 4 = p.a := x4
  have pO := h.fO
  have p4 : dW D p.a 4 = g.a := h.pp
  have gO := h.up.fO
  have p0 : p.a ≠ 0 := by have := pO.1; omega
  have g0 : g.a ≠ 0 := by have := gO.1; omega
  have pm : p.a ≠ m := dO_ne pO hm (by decide)
  have gm : g.a ≠ m := dO_ne gO hm (by decide)
  have pg : p.a ≠ g.a := by
    have := h.2.1
    rw [List.nodup_append] at this
    have := this.2.1
    simp only [paddrs, List.nodup_cons, List.mem_append, List.mem_cons, not_or] at this
    exact this.1.2.1
  have pA : p.a ∈ A := K.2.2.1.mem_iff.mp (by simp [paddrs])
  have gA : g.a ∈ A := K.2.2.1.mem_iff.mp (by simp [paddrs])
  unfold fX18_fixAfterInsertion_b225
  rw [s_parentOf (Or.inr xO), if_neg hx, x4]
  simp only [Option.bind_some]
  rw [s_setColor pO (Or.inr rfl)]
  simp only [Option.bind_some]
  have h1 : St (dup D p.a 5 1) m t (p :: g :: fs) x := h.col
  have K1 := K.col (c := 1) pA pm
  generalize hD1 : dup D p.a 5 1 = D1 at h1 K1
  have c1 : dW D1 p.a 5 = 1 := by rw [← hD1, dup_at, if_pos ⟨rfl, rfl⟩]
  rw [s_parentOf (Or.inr (h1.x4 hx).1), if_neg hx, (h1.x4 hx).2]
  simp only [Option.bind_some, par]
  rw [s_parentOf (Or.inr h1.fO), if_neg p0, h1.pp]
  simp only [Option.bind_some, par]
  rw [s_setColor h1.up.fO (Or.inl rfl)]
  simp only [Option.bind_some]
  have h2 : St (dup D1 g.a 5 0) m t (p :: g :: fs) x := h1.col
  have K2 := K1.col (c := 0) gA gm
  generalize hD2 : dup D1 g.a 5 0 = D2 at h2 K2
  have c2 : dW D2 p.a 5 = 1 := by rw [← hD2, dup_at, if_neg (fun q => pg q.1), c1]
  rw [s_parentOf (Or.inr (h2.x4 hx).1), if_neg hx, (h2.x4 hx).2]
  simp only [Option.bind_some, par]
  rw [s_parentOf (Or.inr h2.fO), if_neg p0, h2.pp]
  simp only [Option.bind_some, par]
  have h3 := h2.up.up
  have e3 : fmT g (fmT p t) = .nd g.o g.a g.k g.v (.nd p.o p.a p.k p.v t) := by unfold fmT; rw [hp, hg]; rfl
  rw [e3] at h3
  obtain ⟨D3, r1, r2, r3, r4, r5⟩ := rotLeft h3.1 h3.2.1 h3.2.2.1 h3.2.2.2
  rw [r1]
  simp only [Option.bind_some]
  rw [if_pos h2.1]
  unfold fX18_fixAfterInsertion_b255
  have pe : (addrs (.nd (.nd g.o g.a g.k g.v p.o) p.a p.k p.v t)).Perm (addrs (.nd g.o g.a g.k g.v (.nd p.o p.a p.k p.v t))) := by
    simp only [addrs_nd, addrs_nil]
    refine List.Perm.trans (List.Perm.swap _ _ _) ?_
    refine List.Perm.cons _ ?_
    show (p.a :: ((addrs g.o ++ addrs p.o) ++ addrs t)).Perm (addrs g.o ++ p.a :: (addrs p.o ++ addrs t))
    rw [List.append_assoc]
    exact List.perm_middle.symm
  have h4 : St D3 m (.nd (.nd g.o g.a g.k g.v p.o) p.a p.k p.v t) fs p.a := ⟨r2.dO h3.1, (pe.append_right (paddrs fs)).nodup_iff.mpr h3.2.1, r3, r4⟩
  have xx : x = dW D3 p.a 3 := by
    obtain ⟨-, -, -, q1, q2⟩ := r3
    have q := h.2.2.1
    cases t using T.cas with
    | nil => exact absurd q hx
    | nd l a k v r => exact q.1.trans (q2.1).symm
  have h5 : St D3 m t (⟨false, p.a, p.k, p.v, .nd g.o g.a g.k g.v p.o⟩ :: fs) x := h4.down (f := ⟨false, p.a, p.k, p.v, .nd g.o g.a g.k g.v p.o⟩) xx
  refine ⟨D3, rfl, h5, ?_, by rw [r5 _ _ (Or.inr (Or.inl rfl)), c2]⟩
  have K3 := Kp.up.mp (Kp.up.mp K2)
  rw [e3] at K3
  refine Kp.up.mpr ?_
  show Kp D0 D3 m A I (.nd (.nd g.o g.a g.k g.v p.o) p.a p.k p.v t) fs
  refine ⟨K3.1.trans r2, ?_, (pe.append_right _).trans K3.2.2.1, fun y j hy => ?_⟩
  · rw [← K3.2.1]
    exact inord_plug (by simp [inord_nd, inord_nil])
  · rw [r5 y j ?_]
    · exact K3.2.2.2 y j hy
    · rcases hy with q | q
      · refine Or.inl ⟨q.1, fun q' => q.2 (K3.2.2.1.mem_iff.mp (List.mem_append_left _ q')), fun q' => q.2 (K3.2.2.1.mem_iff.mp (List.mem_append_right _ q'))⟩
      · exact Or.inr (Or.inr q)


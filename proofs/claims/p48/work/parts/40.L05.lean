set_option maxRecDepth 20000
/-! the loop -/
def FiX (D0 D : DD) (m : Int) (A : List Int) (I : List (Int × Int)) : Prop :=
  Sm D0 D ∧ (∃ t, TD D t 0 (dW D m 3) ∧ inord t = I ∧ (addrs t).Perm A) ∧ ∀ y j, (y ≠ m ∧ y ∉ A) ∨ (y = m ∧ j ≠ 3) → dW D y j = dW D0 y j
theorem FiX_of {D0 D : DD} {m : Int} {A : List Int} {I : List (Int × Int)} {t : T} {fs : List Fm} {x : Int} (h : St D m t fs x) (K : Kp D0 D m A I t fs) : FiX D0 D m A I :=
  ⟨K.1, ⟨plug fs t, h.root, K.2.1, (plug_perm fs t).trans K.2.2.1⟩, K.2.2.2⟩
theorem TD_color {D : DD} {t : T} {p x : Int} (h : TD D t p x) : x = 0 ∨ dO D x 12 := (TD_x h).imp And.left And.right
theorem cmp12 {D : DD} {x : Int} (h : x = 0 ∨ dO D x 12) : cmpV D x := h.imp id (fun q => Or.inl ⟨q.1, q.2.1⟩)

theorem s_rec148 {D0 D : DD} {m : Int} {A : List Int} {I : List (Int × Int)} {t : T} {p g : Fm} {fs : List Fm} {x y : Int} (h : St D m t (p :: g :: fs) x) (hx : x ≠ 0) (K : Kp D0 D m A I t (p :: g :: fs)) (hy : dO D y 12) (hyA : y ∈ A) :
    ∃ D', ((fX18_parentOf x D).bind fun r46 => (fX18_setColor r46 1 D).bind fun D47 => (fX18_setColor y 1 D47).bind fun D48 => (fX18_parentOf x D48).bind fun r49 => (fX18_parentOf r49 D48).bind fun r50 => (fX18_setColor r50 0 D48).bind fun D51 => (fX18_parentOf x D51).bind fun r52 => (fX18_parentOf r52 D51).bind fun r53 => fX18_fixAfterInsertion_b148 m r53 D51) = some (.inl (g.a, D')) ∧ St D' m (fmT g (fmT p t)) fs g.a ∧ Kp D0 D' m A I (fmT g (fmT p t)) fs := by
  have p0 : p.a ≠ 0 := by have := h.fO.1; omega
  have pm : p.a ≠ m := dO_ne h.fO h.1 (by decide)
  have gm : g.a ≠ m := dO_ne h.up.fO h.1 (by decide)
  have ym : y ≠ m := dO_ne hy h.1 (by decide)
  have pA : p.a ∈ A := K.2.2.1.mem_iff.mp (by simp [paddrs])
  have gA : g.a ∈ A := K.2.2.1.mem_iff.mp (by simp [paddrs])
  rw [s_parentOf (Or.inr (h.x4 hx).1), if_neg hx, (h.x4 hx).2]
  simp only [Option.bind_some, par]
  rw [s_setColor h.fO (Or.inr rfl)]
  simp only [Option.bind_some]
  have h1 : St (dup D p.a 5 1) m t (p :: g :: fs) x := h.col
  have K1 := K.col (c := 1) pA pm
  have hy1 : dO (dup D p.a 5 1) y 12 := hy
  generalize dup D p.a 5 1 = D1 at h1 K1 hy1
  rw [s_setColor hy1 (Or.inr rfl)]
  simp only [Option.bind_some]
  have h2 : St (dup D1 y 5 1) m t (p :: g :: fs) x := h1.col
  have K2 := K1.col (c := 1) hyA ym
  generalize dup D1 y 5 1 = D2 at h2 K2
  rw [s_parentOf (Or.inr (h2.x4 hx).1), if_neg hx, (h2.x4 hx).2]
  simp only [Option.bind_some, par]
  rw [s_parentOf (Or.inr h2.fO), if_neg p0, h2.pp]
  simp only [Option.bind_some, par]
  rw [s_setColor h2.up.fO (Or.inl rfl)]
  simp only [Option.bind_some]
  have h3 : St (dup D2 g.a 5 0) m t (p :: g :: fs) x := h2.col
  have K3 := K2.col (c := 0) gA gm
  generalize dup D2 g.a 5 0 = D3 at h3 K3
  rw [s_parentOf (Or.inr (h3.x4 hx).1), if_neg hx, (h3.x4 hx).2]
  simp only [Option.bind_some, par]
  rw [s_parentOf (Or.inr h3.fO), if_neg p0, h3.pp]
  simp only [Option.bind_some, par]
  exact ⟨D3, rfl, h3.up.up, Kp.up.mp (Kp.up.mp K3)⟩

theorem s_rec255 {D0 D : DD} {m : Int} {A : List Int} {I : List (Int × Int)} {t : T} {p g : Fm} {fs : List Fm} {x y : Int} (h : St D m t (p :: g :: fs) x) (hx : x ≠ 0) (K : Kp D0 D m A I t (p :: g :: fs)) (hy : dO D y 12) (hyA : y ∈ A) :
    ∃ D', ((fX18_parentOf x D).bind fun r46 => (fX18_setColor r46 1 D).bind fun D47 => (fX18_setColor y 1 D47).bind fun D48 => (fX18_parentOf x D48).bind fun r49 => (fX18_parentOf r49 D48).bind fun r50 => (fX18_setColor r50 0 D48).bind fun D51 => (fX18_parentOf x D51).bind fun r52 => (fX18_parentOf r52 D51).bind fun r53 => fX18_fixAfterInsertion_b255 m r53 D51) = some (.inl (g.a, D')) ∧ St D' m (fmT g (fmT p t)) fs g.a ∧ Kp D0 D' m A I (fmT g (fmT p t)) fs := by
  have p0 : p.a ≠ 0 := by have := h.fO.1; omega
  have pm : p.a ≠ m := dO_ne h.fO h.1 (by decide)
  have gm : g.a ≠ m := dO_ne h.up.fO h.1 (by decide)
  have ym : y ≠ m := dO_ne hy h.1 (by decide)
  have pA : p.a ∈ A := K.2.2.1.mem_iff.mp (by simp [paddrs])
  have gA : g.a ∈ A := K.2.2.1.mem_iff.mp (by simp [paddrs])
  rw [s_parentOf (Or.inr (h.x4 hx).1), if_neg hx, (h.x4 hx).2]
  simp only [Option.bind_some, par]
  rw [s_setColor h.fO (Or.inr rfl)]
  simp only [Option.bind_some]
  have h1 : St (dup D p.a 5 1) m t (p :: g :: fs) x := h.col
  have K1 := K.col (c := 1) pA pm
  have hy1 : dO (dup D p.a 5 1) y 12 := hy
  generalize dup D p.a 5 1 = D1 at h1 K1 hy1
  rw [s_setColor hy1 (Or.inr rfl)]
  simp only [Option.bind_some]
  have h2 : St (dup D1 y 5 1) m t (p :: g :: fs) x := h1.col
  have K2 := K1.col (c := 1) hyA ym
  generalize dup D1 y 5 1 = D2 at h2 K2
  rw [s_parentOf (Or.inr (h2.x4 hx).1), if_neg hx, (h2.x4 hx).2]
  simp only [Option.bind_some, par]
  rw [s_parentOf (Or.inr h2.fO), if_neg p0, h2.pp]
  simp only [Option.bind_some, par]
  rw [s_setColor h2.up.fO (Or.inl rfl)]
  simp only [Option.bind_some]
  have h3 : St (dup D2 g.a 5 0) m t (p :: g :: fs) x := h2.col
  have K3 := K2.col (c := 0) gA gm
  generalize dup D2 g.a 5 0 = D3 at h3 K3
  rw [s_parentOf (Or.inr (h3.x4 hx).1), if_neg hx, (h3.x4 hx).2]
  simp only [Option.bind_some, par]
  rw [s_parentOf (Or.inr h3.fO), if_neg p0, h3.pp]
  simp only [Option.bind_some, par]
  exact ⟨D3, rfl, h3.up.up, Kp.up.mp (Kp.up.mp K3)⟩

theorem s_inn118 {D0 D : DD} {m : Int} {A : List Int} {I : List (Int × Int)} {tl tr : T} {a k v : Int} {p g : Fm} {fs : List Fm} (hp : p.left = false) (hg : g.left = true) (h : St D m (.nd tl a k v tr) (p :: g :: fs) a) (K : Kp D0 D m A I (.nd tl a k v tr) (p :: g :: fs)) :
    ∃ D' t' fs', ((fX18_rotateLeft m p.a D).bind fun D45 => fX18_fixAfterInsertion_b118 m p.a D45) = some (.inl (p.a, D')) ∧ St D' m t' fs' p.a ∧ Kp D0 D' m A I t' fs' ∧ ∃ f gs, fs' = f :: gs ∧ dW D' f.a 5 = 1 := by
  have h1 := h.up
  have K1 := Kp.up.mp K
  have e1 : fmT p (.nd tl a k v tr) = .nd p.o p.a p.k p.v (.nd tl a k v tr) := by unfold fmT; rw [hp]; rfl
  rw [e1] at h1 K1
  have p0 : p.a ≠ 0 := by have := h.fO.1; omega
  obtain ⟨D2, r1, r2, r3, r4, r5⟩ := rotLeft h1.1 h1.2.1 h1.2.2.1 h1.2.2.2
  rw [r1]
  simp only [Option.bind_some]
  have pe : (addrs (.nd (.nd p.o p.a p.k p.v tl) a k v tr)).Perm (addrs (.nd p.o p.a p.k p.v (.nd tl a k v tr))) := by
    simp only [addrs_nd, addrs_nil]
    refine List.Perm.trans (List.Perm.swap _ _ _) ?_
    refine List.Perm.cons _ ?_
    show (a :: ((addrs p.o ++ addrs tl) ++ addrs tr)).Perm (addrs p.o ++ a :: (addrs tl ++ addrs tr))
    rw [List.append_assoc]
    exact List.perm_middle.symm
  have h2 : St D2 m (.nd (.nd p.o p.a p.k p.v tl) a k v tr) (g :: fs) a := ⟨r2.dO h1.1, (pe.append_right _).nodup_iff.mpr h1.2.1, r3, r4⟩
  have K2 : Kp D0 D2 m A I (.nd (.nd p.o p.a p.k p.v tl) a k v tr) (g :: fs) := by
    refine ⟨K1.1.trans r2, ?_, (pe.append_right _).trans K1.2.2.1, fun y j hy => ?_⟩
    · rw [← K1.2.1]
      exact inord_plug (by simp [inord_nd, inord_nil])
    · rw [r5 y j ?_]
      · exact K1.2.2.2 y j hy
      · rcases hy with q | q
        · refine Or.inl ⟨q.1, fun q' => q.2 (K1.2.2.1.mem_iff.mp (List.mem_append_left _ q')), fun q' => q.2 (K1.2.2.1.mem_iff.mp (List.mem_append_right _ q'))⟩
        · exact Or.inr (Or.inr q)
  have h3 : St D2 m (.nd p.o p.a p.k p.v tl) (⟨true, a, k, v, tr⟩ :: g :: fs) p.a := by
    refine St.down (f := ⟨true, a, k, v, tr⟩) h2 ?_
    obtain ⟨-, -, -, q1, q2⟩ := r3
    exact (q1.1).symm
  obtain ⟨D3, w1, w2, w3, w4⟩ := s_b118 (p := ⟨true, a, k, v, tr⟩) rfl hg h3 p0 (Kp.up.mpr K2)
  exact ⟨D3, _, _, w1, w2, w3, _, _, rfl, w4⟩

theorem s_inn225 {D0 D : DD} {m : Int} {A : List Int} {I : List (Int × Int)} {tl tr : T} {a k v : Int} {p g : Fm} {fs : List Fm} (hp : p.left = true) (hg : g.left = false) (h : St D m (.nd tl a k v tr) (p :: g :: fs) a) (K : Kp D0 D m A I (.nd tl a k v tr) (p :: g :: fs)) :
    ∃ D' t' fs', ((fX18_rotateRight m p.a D).bind fun D45 => fX18_fixAfterInsertion_b225 m p.a D45) = some (.inl (p.a, D')) ∧ St D' m t' fs' p.a ∧ Kp D0 D' m A I t' fs' ∧ ∃ f gs, fs' = f :: gs ∧ dW D' f.a 5 = 1 := by
  have h1 := h.up
  have K1 := Kp.up.mp K
  have e1 : fmT p (.nd tl a k v tr) = .nd (.nd tl a k v tr) p.a p.k p.v p.o := by unfold fmT; rw [hp]; rfl
  rw [e1] at h1 K1
  have p0 : p.a ≠ 0 := by have := h.fO.1; omega
  obtain ⟨D2, r1, r2, r3, r4, r5⟩ := rotRight h1.1 h1.2.1 h1.2.2.1 h1.2.2.2
  rw [r1]
  simp only [Option.bind_some]
  have pe : (addrs (.nd tl a k v (.nd tr p.a p.k p.v p.o))).Perm (addrs (.nd (.nd tl a k v tr) p.a p.k p.v p.o)) := by
    simp only [addrs_nd, addrs_nil]
    refine List.Perm.trans ?_ (List.Perm.swap _ _ _)
    refine List.Perm.cons _ ?_
    refine List.perm_middle.trans ?_
    refine List.Perm.cons _ ?_
    show (addrs tl ++ (addrs tr ++ addrs p.o)).Perm ((addrs tl ++ addrs tr) ++ addrs p.o)
    rw [List.append_assoc]
  have h2 : St D2 m (.nd tl a k v (.nd tr p.a p.k p.v p.o)) (g :: fs) a := ⟨r2.dO h1.1, (pe.append_right _).nodup_iff.mpr h1.2.1, r3, r4⟩
  have K2 : Kp D0 D2 m A I (.nd tl a k v (.nd tr p.a p.k p.v p.o)) (g :: fs) := by
    refine ⟨K1.1.trans r2, ?_, (pe.append_right _).trans K1.2.2.1, fun y j hy => ?_⟩
    · rw [← K1.2.1]
      exact inord_plug (by simp [inord_nd, inord_nil])
    · rw [r5 y j ?_]
      · exact K1.2.2.2 y j hy
      · rcases hy with q | q
        · refine Or.inl ⟨q.1, fun q' => q.2 (K1.2.2.1.mem_iff.mp (List.mem_append_left _ q')), fun q' => q.2 (K1.2.2.1.mem_iff.mp (List.mem_append_right _ q'))⟩
        · exact Or.inr (Or.inr q)
  have h3 : St D2 m (.nd tr p.a p.k p.v p.o) (⟨false, a, k, v, tl⟩ :: g :: fs) p.a := by
    refine St.down (f := ⟨false, a, k, v, tl⟩) h2 ?_
    obtain ⟨-, -, -, q1, q2⟩ := r3
    exact (q2.1).symm
  obtain ⟨D3, w1, w2, w3, w4⟩ := s_b225 (p := ⟨false, a, k, v, tl⟩) rfl hg h3 p0 (Kp.up.mpr K2)
  exact ⟨D3, _, _, w1, w2, w3, _, _, rfl, w4⟩

theorem s_fixexit {D : DD} {m : Int} {t : T} {f : Fm} {fs : List Fm} {x : Int} (h : St D m t (f :: fs) x) (hx : x ≠ 0) (hc : dW D f.a 5 ≠ 0) : fX18_fixAfterInsertion_s5 m x D = some (.inr D) := by
  unfold fX18_fixAfterInsertion_s5
  have hr : dW D m 3 = 0 ∨ dO D (dW D m 3) 12 := TD_color h.root
  rw [if_neg hx, if_pos h.1, if_pos (cmp12 (Or.inr (h.x4 hx).1)), if_pos (cmp12 hr)]
  by_cases c : x = dW D m 3
  · rw [if_pos c]
  · have x4 : dW D x 4 = f.a := (h.x4 hx).2
    rw [if_neg c, if_pos (h.x4 hx).1, x4, if_pos h.fO, if_neg hc]
theorem PD_l {D : DD} {m : Int} {f : Fm} {fs : List Fm} {x : Int} (h : PD D m (f :: fs) x) (hl : f.left = true) : dW D f.a 2 = x ∧ TD D f.o f.a (dW D f.a 3) := by
  have := h.2.2.1
  rw [if_pos hl] at this
  exact this
theorem PD_r {D : DD} {m : Int} {f : Fm} {fs : List Fm} {x : Int} (h : PD D m (f :: fs) x) (hl : f.left = false) : dW D f.a 3 = x ∧ TD D f.o f.a (dW D f.a 2) := by
  have := h.2.2.1
  rw [hl, if_neg (by decide)] at this
  exact this
theorem St.other {D : DD} {m : Int} {t : T} {f : Fm} {fs : List Fm} {x y p : Int} (h : St D m t (f :: fs) x) (hx : x ≠ 0) (hy : TD D f.o p y) : x ≠ y := by
  intro q
  have h2 := h.2.1
  rw [List.nodup_append] at h2
  have hxt : x ∈ addrs t := ((TD_x h.2.2.1).resolve_left (fun q => hx q.1)).1
  have hyo : y ∈ addrs f.o := ((TD_x hy).resolve_left (fun q' => hx (q.trans q'.1))).1
  exact h2.2.2 x hxt x (by simp [paddrs, q, hyo]) rfl
theorem s_fixstep {D0 D : DD} {m : Int} {A : List Int} {I : List (Int × Int)} {t : T} {fs : List Fm} {x : Int} (h : St D m t fs x) (hx : x ≠ 0) (K : Kp D0 D m A I t fs) :
    (∃ D', fX18_fixAfterInsertion_s5 m x D = some (.inr D') ∧ FiX D0 D' m A I) ∨ ∃ x' D' t' fs', fX18_fixAfterInsertion_s5 m x D = some (.inl (x', D')) ∧ St D' m t' fs' x' ∧ x' ≠ 0 ∧ Kp D0 D' m A I t' fs' ∧ (fs'.length < fs.length ∨ ∃ f gs, fs' = f :: gs ∧ dW D' f.a 5 = 1) := by
  have hr : dW D m 3 = 0 ∨ dO D (dW D m 3) 12 := TD_color h.root
  by_cases c : x = dW D m 3
  · left
    refine ⟨D, ?_, FiX_of h K⟩
    unfold fX18_fixAfterInsertion_s5
    rw [if_neg hx, if_pos h.1, if_pos (cmp12 (Or.inr (h.x4 hx).1)), if_pos (cmp12 hr), if_pos c]
  cases fs with
  | nil => exact absurd (show dW D m 3 = x from h.2.2.2).symm c
  | cons p fs =>
    by_cases cc : dW D p.a 5 = 0
    · right
      have p0 : p.a ≠ 0 := by have := h.fO.1; omega
      have pO := h.fO
      obtain ⟨xO, x4⟩ := h.x4 hx
      have x4 : dW D x 4 = p.a := x4
      unfold fX18_fixAfterInsertion_s5
      rw [if_neg hx, if_pos h.1, if_pos (cmp12 (Or.inr xO)), if_pos (cmp12 hr), if_neg c, if_pos xO, x4, if_pos pO, if_pos cc, s_parentOf (Or.inr xO), if_neg hx, x4]
      simp only [Option.bind_some]
      rw [s_parentOf (Or.inr pO), if_neg p0, h.pp]
      simp only [Option.bind_some]
      cases fs with
      | nil =>
        -- no grandparent: the parent is the root
        simp only [par]
        rw [s_leftOf (Or.inl rfl), if_pos rfl]
        simp only [Option.bind_some]
        rw [if_pos (cmp12 (Or.inr pO)), if_pos (cmp12 (Or.inl rfl)), if_neg p0]
        rw [s_colorOf (Or.inl rfl), if_pos rfl]
        simp only [Option.bind_some]
        rw [if_neg (by decide)]
        have hl : dW D p.a 2 = 0 ∨ dO D (dW D p.a 2) 12 := by
          by_cases cl : p.left = true
          · rw [(PD_l h.2.2.2 cl).1]; exact Or.inr xO
          · exact TD_color (PD_r h.2.2.2 (by simpa using cl)).2
        rw [s_leftOf (Or.inr pO), if_neg p0]
        simp only [Option.bind_some]
        rw [if_pos (cmp12 hl)]
        -- the end of the branch, where there is no grandparent
        have fin : ∀ (D1 : DD) (t1 : T) (f : Fm) (x1 : Int), St D1 m t1 [f] x1 → x1 ≠ 0 → Kp D0 D1 m A I t1 [f] → ∃ x' D' t' fs', fX18_fixAfterInsertion_b225 m x1 D1 = some (.inl (x', D')) ∧ St D' m t' fs' x' ∧ x' ≠ 0 ∧ Kp D0 D' m A I t' fs' ∧ (fs'.length < [p].length ∨ ∃ f gs, fs' = f :: gs ∧ dW D' f.a 5 = 1) := by
          intro D1 t1 f x1 h1 hx1 K1
          have f0 : f.a ≠ 0 := by have := h1.fO.1; omega
          have h2 : St (dup D1 f.a 5 1) m t1 [f] x1 := h1.col
          have K2 := K1.col (c := 1) (y := f.a) (K1.2.2.1.mem_iff.mp (by simp [paddrs])) (dO_ne h1.fO h1.1 (by decide))
          unfold fX18_fixAfterInsertion_b225
          rw [s_parentOf (Or.inr (h1.x4 hx1).1), if_neg hx1, (h1.x4 hx1).2]
          simp only [Option.bind_some, par]
          rw [s_setColor h1.fO (Or.inr rfl)]
          simp only [Option.bind_some]
          have c1 : dW (dup D1 f.a 5 1) f.a 5 = 1 := by rw [dup_at, if_pos ⟨rfl, rfl⟩]
          generalize dup D1 f.a 5 1 = D2 at h2 K2 c1
          rw [s_parentOf (Or.inr (h2.x4 hx1).1), if_neg hx1, (h2.x4 hx1).2]
          simp only [Option.bind_some, par]
          rw [s_parentOf (Or.inr h2.fO), if_neg f0, h2.pp]
          simp only [Option.bind_some, par]
          have e0 : fX18_setColor 0 0 D2 = some D2 := by unfold fX18_setColor; rw [if_pos rfl]
          rw [e0]
          simp only [Option.bind_some]
          rw [s_parentOf (Or.inr (h2.x4 hx1).1), if_neg hx1, (h2.x4 hx1).2]
          simp only [Option.bind_some, par]
          rw [s_parentOf (Or.inr h2.fO), if_neg f0, h2.pp]
          simp only [Option.bind_some, par]
          have e1 : fX18_rotateLeft m 0 D2 = some D2 := by unfold fX18_rotateLeft; rw [if_pos rfl]
          rw [e1]
          simp only [Option.bind_some]
          rw [if_pos h2.1]
          exact ⟨x1, D2, t1, [f], rfl, h2, hx1, K2, Or.inr ⟨f, [], rfl, c1⟩⟩
        by_cases cx : x = dW D p.a 2
        · rw [if_pos cx]
          have pl : p.left = true := by
            by_cases cl : p.left = true
            · exact cl
            · exact absurd cx (h.other hx (PD_r h.2.2.2 (by simpa using cl)).2)
          cases t using T.cas with
          | nil => exact absurd h.2.2.1 hx
          | nd tl a k v tr =>
            have ea : x = a := h.2.2.1.1
            subst ea
            have h1 := h.up
            have K1 := Kp.up.mp K
            have e1 : fmT p (.nd tl x k v tr) = .nd (.nd tl x k v tr) p.a p.k p.v p.o := by unfold fmT; rw [pl]; rfl
            rw [e1] at h1 K1
            obtain ⟨D2, r1, r2, r3, r4, r5⟩ := rotRight h1.1 h1.2.1 h1.2.2.1 h1.2.2.2
            rw [r1]
            simp only [Option.bind_some]
            have pe : (addrs (.nd tl x k v (.nd tr p.a p.k p.v p.o))).Perm (addrs (.nd (.nd tl x k v tr) p.a p.k p.v p.o)) := by
              simp only [addrs_nd, addrs_nil]
              refine List.Perm.trans ?_ (List.Perm.swap _ _ _)
              refine List.Perm.cons _ ?_
              refine List.perm_middle.trans ?_
              refine List.Perm.cons _ ?_
              show (addrs tl ++ (addrs tr ++ addrs p.o)).Perm ((addrs tl ++ addrs tr) ++ addrs p.o)
              rw [List.append_assoc]
            have h2 : St D2 m (.nd tl x k v (.nd tr p.a p.k p.v p.o)) [] x := ⟨r2.dO h1.1, (pe.append_right _).nodup_iff.mpr h1.2.1, r3, r4⟩
            have K2 : Kp D0 D2 m A I (.nd tl x k v (.nd tr p.a p.k p.v p.o)) [] := by
              refine ⟨K1.1.trans r2, ?_, (pe.append_right _).trans K1.2.2.1, fun y j hy => ?_⟩
              · rw [← K1.2.1]
                exact inord_plug (by simp [inord_nd, inord_nil])
              · rw [r5 y j ?_]
                · exact K1.2.2.2 y j hy
                · rcases hy with q | q
                  · refine Or.inl ⟨q.1, fun q' => q.2 (K1.2.2.1.mem_iff.mp (List.mem_append_left _ q')), fun q' => q.2 (K1.2.2.1.mem_iff.mp (List.mem_append_right _ q'))⟩
                  · exact Or.inr (Or.inr q)
            have h3 : St D2 m (.nd tr p.a p.k p.v p.o) [⟨false, x, k, v, tl⟩] p.a := by
              refine St.down (f := ⟨false, x, k, v, tl⟩) h2 ?_
              obtain ⟨-, -, -, q1, q2⟩ := r3
              exact (q2.1).symm
            exact fin D2 _ _ p.a h3 p0 (Kp.up.mpr K2)
        · rw [if_neg cx]
          exact fin D t p x h hx K
      | cons g fs =>
        have g0 : g.a ≠ 0 := by have := h.up.fO.1; omega
        have gO := h.up.fO
        simp only [par]
        have hl : dW D g.a 2 = 0 ∨ dO D (dW D g.a 2) 12 := by
          by_cases cl : g.left = true
          · rw [(PD_l h.up.2.2.2 cl).1]; exact Or.inr pO
          · exact TD_color (PD_r h.up.2.2.2 (by simpa using cl)).2
        rw [s_leftOf (Or.inr gO), if_neg g0]
        simp only [Option.bind_some]
        rw [if_pos (cmp12 (Or.inr pO)), if_pos (cmp12 hl)]
        have gx : dW D x 4 = p.a := x4
        have oA : ∀ y, y ∈ addrs g.o → y ∈ A := fun y hy => K.2.2.1.mem_iff.mp (by simp [paddrs, hy])
        by_cases cg : p.a = dW D g.a 2
        · have gl : g.left = true := by
            by_cases cl : g.left = true
            · exact cl
            · exact absurd cg (h.up.other p0 (PD_r h.up.2.2.2 (by simpa using cl)).2)
          rw [if_pos cg]
          have ho := (PD_l h.up.2.2.2 gl).2
          rw [s_rightOf (Or.inr gO), if_neg g0]
          simp only [Option.bind_some]
          rw [s_colorOf (TD_color ho)]
          simp only [Option.bind_some]
          by_cases uc : (if dW D g.a 3 = 0 then 1 else dW D (dW D g.a 3) 5) = 0
          · rw [if_pos uc]
            have u0 : dW D g.a 3 ≠ 0 := fun q => by rw [if_pos q] at uc; omega
            have uu := (TD_x ho).resolve_left (fun q => u0 q.1)
            obtain ⟨D', w1, w2, w3⟩ := s_rec148 h hx K uu.2 (oA _ uu.1)
            rw [s_parentOf (Or.inr xO), if_neg hx, x4] at w1
            simp only [Option.bind_some] at w1
            exact ⟨g.a, D', _, fs, w1, w2, g0, w3, Or.inl (by simp; omega)⟩
          · rw [if_neg uc]
            have hi : dW D p.a 3 = 0 ∨ dO D (dW D p.a 3) 12 := by
              by_cases cl : p.left = true
              · exact TD_color (PD_l h.2.2.2 cl).2
              · rw [(PD_r h.2.2.2 (by simpa using cl)).1]; exact Or.inr xO
            rw [s_rightOf (Or.inr pO), if_neg p0]
            simp only [Option.bind_some]
            rw [if_pos (cmp12 hi)]
            by_cases cx : x = dW D p.a 3
            · have pl : p.left = false := by
                by_cases cl : p.left = true
                · exact absurd cx (h.other hx (PD_l h.2.2.2 cl).2)
                · simpa using cl
              rw [if_pos cx]
              cases t using T.cas with
              | nil => exact absurd h.2.2.1 hx
              | nd tl a k v tr =>
                have ea : x = a := h.2.2.1.1
                subst ea
                obtain ⟨D', t', fs', w1, w2, w3, w4⟩ := s_inn118 pl gl h K
                exact ⟨p.a, D', t', fs', w1, w2, p0, w3, Or.inr w4⟩
            · have pl : p.left = true := by
                by_cases cl : p.left = true
                · exact cl
                · exact absurd (PD_r h.2.2.2 (by simpa using cl)).1.symm cx
              rw [if_neg cx]
              obtain ⟨D', w1, w2, w3, w4⟩ := s_b118 pl gl h hx K
              exact ⟨x, D', _, _, w1, w2, hx, w3, Or.inr ⟨_, _, rfl, w4⟩⟩
        · have gl : g.left = false := by
            by_cases cl : g.left = true
            · exact absurd (PD_l h.up.2.2.2 cl).1.symm cg
            · simpa using cl
          rw [if_neg cg]
          have ho := (PD_r h.up.2.2.2 gl).2
          rw [s_colorOf (TD_color ho)]
          simp only [Option.bind_some]
          by_cases uc : (if dW D g.a 2 = 0 then 1 else dW D (dW D g.a 2) 5) = 0
          · rw [if_pos uc]
            have u0 : dW D g.a 2 ≠ 0 := fun q => by rw [if_pos q] at uc; omega
            have uu := (TD_x ho).resolve_left (fun q => u0 q.1)
            obtain ⟨D', w1, w2, w3⟩ := s_rec255 h hx K uu.2 (oA _ uu.1)
            rw [s_parentOf (Or.inr xO), if_neg hx, x4] at w1
            simp only [Option.bind_some] at w1
            exact ⟨g.a, D', _, fs, w1, w2, g0, w3, Or.inl (by simp; omega)⟩
          · rw [if_neg uc]
            have hi : dW D p.a 2 = 0 ∨ dO D (dW D p.a 2) 12 := by
              by_cases cl : p.left = true
              · rw [(PD_l h.2.2.2 cl).1]; exact Or.inr xO
              · exact TD_color (PD_r h.2.2.2 (by simpa using cl)).2
            rw [s_leftOf (Or.inr pO), if_neg p0]
            simp only [Option.bind_some]
            rw [if_pos (cmp12 hi)]
            by_cases cx : x = dW D p.a 2
            · have pl : p.left = true := by
                by_cases cl : p.left = true
                · exact cl
                · exact absurd cx (h.other hx (PD_r h.2.2.2 (by simpa using cl)).2)
              rw [if_pos cx]
              cases t using T.cas with
              | nil => exact absurd h.2.2.1 hx
              | nd tl a k v tr =>
                have ea : x = a := h.2.2.1.1
                subst ea
                obtain ⟨D', t', fs', w1, w2, w3, w4⟩ := s_inn225 pl gl h K
                exact ⟨p.a, D', t', fs', w1, w2, p0, w3, Or.inr w4⟩
            · have pl : p.left = false := by
                by_cases cl : p.left = true
                · exact absurd (PD_l h.2.2.2 cl).1.symm cx
                · simpa using cl
              rw [if_neg cx]
              obtain ⟨D', w1, w2, w3, w4⟩ := s_b225 pl gl h hx K
              exact ⟨x, D', _, _, w1, w2, hx, w3, Or.inr ⟨_, _, rfl, w4⟩⟩
    · left
      exact ⟨D, s_fixexit h hx cc, FiX_of h K⟩

theorem s_fixloop {D0 : DD} {m : Int} {A : List Int} {I : List (Int × Int)} : ∀ (n : Nat) (fs : List Fm) (t : T) (x : Int) (D : DD), St D m t fs x → x ≠ 0 → Kp D0 D m A I t fs → (fs.length + 2 ≤ n ∨ (1 ≤ n ∧ ∃ f gs, fs = f :: gs ∧ dW D f.a 5 = 1)) →
    ∃ D', zlp (fun q => fX18_fixAfterInsertion_s5 m q.1 q.2) n (x, D) = some D' ∧ FiX D0 D' m A I := by
  intro n
  induction n with
  | zero => intro fs t x D _ _ _ h; omega
  | succ n ih =>
    intro fs t x D h hx K hn
    by_cases ce : ∃ f gs, fs = f :: gs ∧ dW D f.a 5 = 1
    · obtain ⟨f, gs, rfl, c5⟩ := ce
      exact ⟨D, zlp_r (s_fixexit h hx (by rw [c5]; decide)), FiX_of h K⟩
    · have hn := hn.resolve_right (fun q => ce q.2)
      rcases s_fixstep h hx K with ⟨D', q1, q2⟩ | ⟨x', D', t', fs', q1, q2, q3, q4, q5⟩
      · exact ⟨D', zlp_r q1, q2⟩
      · rw [zlp_l (show (fun q : Int × DD => fX18_fixAfterInsertion_s5 m q.1 q.2) (x, D) = _ from q1)]
        exact ih fs' t' x' D' q2 q3 q4 (q5.imp (fun q => by omega) (fun q => ⟨by omega, q⟩))
theorem s_fix {D : DD} {m : Int} {t : T} {fs : List Fm} {x : Int} (h : St D m t fs x) (hx : x ≠ 0) (hf : fs.length < 99990) :
    ∃ D', fX18_fixAfterInsertion m x D = some D' ∧ FiX D D' m (addrs t ++ paddrs fs) (inord (plug fs t)) := by
  have xm : x ≠ m := dO_ne (h.x4 hx).1 h.1 (by decide)
  have xA : x ∈ addrs t ++ paddrs fs := List.mem_append_left _ ((TD_x h.2.2.1).resolve_left (fun q => hx q.1)).1
  unfold fX18_fixAfterInsertion
  rw [if_pos (h.x4 hx).1, zl_eq]
  have K : Kp D D m (addrs t ++ paddrs fs) (inord (plug fs t)) t fs := ⟨⟨rfl, rfl, rfl⟩, rfl, List.Perm.refl _, fun _ _ _ => rfl⟩
  obtain ⟨D3, q1, q2⟩ := s_fixloop FU fs t x _ (h.col (y := x) (c := 0)) hx (K.col (c := 0) xA xm) (Or.inl (by unfold FU; omega))
  rw [q1]
  simp only [Option.bind_some]
  obtain ⟨s1, ⟨t', w1, w2, w3⟩, w4⟩ := q2
  have hr : dO D3 (dW D3 m 3) 12 ∧ dW D3 m 3 ∈ addrs t' := by
    rcases TD_x w1 with q | q
    · exfalso
      rw [q.2] at w3
      have := w3.mem_iff.mpr xA
      cases this
    · exact ⟨q.2, q.1⟩
  rw [if_pos (s1.dO h.1), if_pos hr.1, zl_eq]
  refine ⟨_, rfl, s1, ⟨t', ?_, w2, w3⟩, fun y j hy => ?_⟩
  · have e : ∀ a j, j < 5 → dW (dup D3 (dW D3 m 3) 5 1) a j = dW D3 a j := fun a j hj => by rw [dup_at, if_neg (by omega)]
    rw [e m 3 (by decide)]
    exact TD_ag (D := D3) (D' := dup D3 (dW D3 m 3) 5 1) (fun _ _ h => h) (fun a _ j hj => e a j hj) w1
  · rw [dup_at, if_neg]
    · exact w4 y j hy
    · rintro ⟨e, rfl⟩
      rcases hy with q | q
      · exact q.2 (e ▸ w3.mem_iff.mp hr.2)
      · exact dO_ne hr.1 (s1.dO h.1) (by decide) (e.symm.trans q.1)


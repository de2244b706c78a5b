set_option maxRecDepth 20000
/-! rotations -/
theorem rotLeft_pt {D : DD} {m a b c pa : Int} (ha : dO D a 12) (hb : dO D b 12) (hm : dO D m 11) (hab : dW D a 3 = b) (hbc : dW D b 2 = c) (hpa : dW D a 4 = pa) (hcO : c = 0 ∨ dO D c 12) (hpO : pa = 0 ∨ dO D pa 12) (n1 : a ≠ b) (n2 : c ≠ a) (n3 : c ≠ b) (n4 : pa ≠ a) (n5 : pa ≠ b) (hcm : pa ≠ 0 → cmpV D (dW D pa 2)) :
    ∃ D', fX18_rotateLeft m a D = some D' ∧ Sm D D' ∧ ∀ x j, dW D' x j = if x = a ∧ j = 4 then b else if x = b ∧ j = 2 then a else if (pa = 0 ∧ x = m ∧ j = 3) ∨ (pa ≠ 0 ∧ x = pa ∧ j = (if dW D pa 2 = a then 2 else 3)) then b else if x = b ∧ j = 4 then pa else if c ≠ 0 ∧ x = c ∧ j = 4 then a else if x = a ∧ j = 3 then c else dW D x j := by
  have ma : m ≠ a := dO_ne hm ha (by decide)
  have mb : m ≠ b := dO_ne hm hb (by decide)
  have a0 : a ≠ 0 := by have := ha.1; omega
  have b0 : b ≠ 0 := by have := hb.1; omega
  -- behind the first two steps
  have step : ∀ D1 : DD, Sm D D1 → (∀ x j, dW D1 x j = if c ≠ 0 ∧ x = c ∧ j = 4 then a else if x = a ∧ j = 3 then c else dW D x j) → ∃ D', fX18_rotateLeft_b32 m a b D1 = some D' ∧ Sm D D' ∧ ∀ x j, dW D' x j = if x = a ∧ j = 4 then b else if x = b ∧ j = 2 then a else if (pa = 0 ∧ x = m ∧ j = 3) ∨ (pa ≠ 0 ∧ x = pa ∧ j = (if dW D pa 2 = a then 2 else 3)) then b else if x = b ∧ j = 4 then pa else if c ≠ 0 ∧ x = c ∧ j = 4 then a else if x = a ∧ j = 3 then c else dW D x j := by
    intro D1 hS h1
    have w4 : dW D1 a 4 = pa := by rw [h1, if_neg (fun q => n2 q.2.1.symm), if_neg (by omega), hpa]
    unfold fX18_rotateLeft_b32
    rw [if_pos (hS.dO ha), if_pos (hS.dO hb), w4, zl_eq]
    have w4' : dW (dup D1 b 4 pa) a 4 = pa := by rw [dup_at, if_neg (fun q => n1 q.1), w4]
    rw [w4']
    unfold fX18_rotateLeft_b85
    by_cases p0 : pa = 0
    · rw [if_pos p0, if_pos (show dO (dup D1 b 4 pa) m 11 from hS.dO hm), zl_eq]
      rw [if_pos (show dO (dup (dup D1 b 4 pa) m 3 b) b 12 from hS.dO hb), zl_eq, if_pos (show dO (dup (dup (dup D1 b 4 pa) m 3 b) b 2 a) a 12 from hS.dO ha), zl_eq]
      refine ⟨_, rfl, hS, fun x j => ?_⟩
      simp only [dup_at, h1, p0, ne_eq, not_true_eq_false, true_and, false_and, or_false]
    · have wp : dW (dup D1 b 4 pa) pa 2 = dW D pa 2 := by rw [dup_at, if_neg (fun q => n5 q.1), h1, if_neg (by omega), if_neg (fun q => n4 q.1)]
      have hpO' : dO D pa 12 := hpO.resolve_left p0
      have hc1 : cmpV (dup D1 b 4 pa) (dW D pa 2) := (hcm p0).imp id (Or.imp (fun q => ⟨q.1, by show _ < dT D1; rw [hS.1]; exact q.2⟩) id)
      have hc2 : cmpV (dup D1 b 4 pa) a := Or.inr (Or.inl ⟨ha.1, by show _ < dT D1; rw [hS.1]; exact ha.2.1⟩)
      rw [if_neg p0, if_pos (show dO (dup D1 b 4 pa) pa 12 from hS.dO hpO'), wp, if_pos hc1, if_pos hc2]
      by_cases ps : dW D pa 2 = a
      · rw [if_pos ps, zl_eq]
        rw [if_pos (show dO (dup (dup D1 b 4 pa) pa 2 b) b 12 from hS.dO hb), zl_eq, if_pos (show dO (dup (dup (dup D1 b 4 pa) pa 2 b) b 2 a) a 12 from hS.dO ha), zl_eq]
        refine ⟨_, rfl, hS, fun x j => ?_⟩
        simp only [dup_at, h1, p0, ps, ne_eq, not_false_eq_true, true_and, false_and, false_or, if_true]
      · rw [if_neg ps, zl_eq]
        rw [if_pos (show dO (dup (dup D1 b 4 pa) pa 3 b) b 12 from hS.dO hb), zl_eq, if_pos (show dO (dup (dup (dup D1 b 4 pa) pa 3 b) b 2 a) a 12 from hS.dO ha), zl_eq]
        refine ⟨_, rfl, hS, fun x j => ?_⟩
        simp only [dup_at, h1, p0, ps, ne_eq, not_false_eq_true, true_and, false_and, false_or, if_false]
  unfold fX18_rotateLeft
  rw [if_neg a0, if_pos ha, hab, if_pos hb, hbc, zl_eq]
  have wc : dW (dup D a 3 c) b 2 = c := by rw [dup_at, if_neg (fun q => n1 q.1.symm), hbc]
  rw [wc]
  by_cases c0 : c = 0
  · rw [if_pos c0]
    exact step _ ⟨rfl, rfl, rfl⟩ (fun x j => by simp only [dup_at, c0, ne_eq, not_true_eq_false, false_and, if_false])
  · rw [if_neg c0, if_pos (show dO (dup D a 3 c) c 12 from hcO.resolve_left c0), zl_eq]
    exact step _ ⟨rfl, rfl, rfl⟩ (fun x j => by simp only [dup_at, c0, ne_eq, not_false_eq_true, true_and])

theorem rotRight_pt {D : DD} {m a b c pa : Int} (ha : dO D a 12) (hb : dO D b 12) (hm : dO D m 11) (hab : dW D a 2 = b) (hbc : dW D b 3 = c) (hpa : dW D a 4 = pa) (hcO : c = 0 ∨ dO D c 12) (hpO : pa = 0 ∨ dO D pa 12) (n1 : a ≠ b) (n2 : c ≠ a) (n3 : c ≠ b) (n4 : pa ≠ a) (n5 : pa ≠ b) (hcm : pa ≠ 0 → cmpV D (dW D pa 3)) :
    ∃ D', fX18_rotateRight m a D = some D' ∧ Sm D D' ∧ ∀ x j, dW D' x j = if x = a ∧ j = 4 then b else if x = b ∧ j = 3 then a else if (pa = 0 ∧ x = m ∧ j = 3) ∨ (pa ≠ 0 ∧ x = pa ∧ j = (if dW D pa 3 = a then 3 else 2)) then b else if x = b ∧ j = 4 then pa else if c ≠ 0 ∧ x = c ∧ j = 4 then a else if x = a ∧ j = 2 then c else dW D x j := by
  have ma : m ≠ a := dO_ne hm ha (by decide)
  have mb : m ≠ b := dO_ne hm hb (by decide)
  have a0 : a ≠ 0 := by have := ha.1; omega
  have b0 : b ≠ 0 := by have := hb.1; omega
  -- behind the first two steps
  have step : ∀ D1 : DD, Sm D D1 → (∀ x j, dW D1 x j = if c ≠ 0 ∧ x = c ∧ j = 4 then a else if x = a ∧ j = 2 then c else dW D x j) → ∃ D', fX18_rotateRight_b32 m a b D1 = some D' ∧ Sm D D' ∧ ∀ x j, dW D' x j = if x = a ∧ j = 4 then b else if x = b ∧ j = 3 then a else if (pa = 0 ∧ x = m ∧ j = 3) ∨ (pa ≠ 0 ∧ x = pa ∧ j = (if dW D pa 3 = a then 3 else 2)) then b else if x = b ∧ j = 4 then pa else if c ≠ 0 ∧ x = c ∧ j = 4 then a else if x = a ∧ j = 2 then c else dW D x j := by
    intro D1 hS h1
    have w4 : dW D1 a 4 = pa := by rw [h1, if_neg (fun q => n2 q.2.1.symm), if_neg (by omega), hpa]
    unfold fX18_rotateRight_b32
    rw [if_pos (hS.dO ha), if_pos (hS.dO hb), w4, zl_eq]
    have w4' : dW (dup D1 b 4 pa) a 4 = pa := by rw [dup_at, if_neg (fun q => n1 q.1), w4]
    rw [w4']
    unfold fX18_rotateRight_b85
    by_cases p0 : pa = 0
    · rw [if_pos p0, if_pos (show dO (dup D1 b 4 pa) m 11 from hS.dO hm), zl_eq]
      rw [if_pos (show dO (dup (dup D1 b 4 pa) m 3 b) b 12 from hS.dO hb), zl_eq, if_pos (show dO (dup (dup (dup D1 b 4 pa) m 3 b) b 3 a) a 12 from hS.dO ha), zl_eq]
      refine ⟨_, rfl, hS, fun x j => ?_⟩
      simp only [dup_at, h1, p0, ne_eq, not_true_eq_false, true_and, false_and, or_false]
    · have wp : dW (dup D1 b 4 pa) pa 3 = dW D pa 3 := by rw [dup_at, if_neg (fun q => n5 q.1), h1, if_neg (by omega), if_neg (fun q => n4 q.1)]
      have hpO' : dO D pa 12 := hpO.resolve_left p0
      have hc1 : cmpV (dup D1 b 4 pa) (dW D pa 3) := (hcm p0).imp id (Or.imp (fun q => ⟨q.1, by show _ < dT D1; rw [hS.1]; exact q.2⟩) id)
      have hc2 : cmpV (dup D1 b 4 pa) a := Or.inr (Or.inl ⟨ha.1, by show _ < dT D1; rw [hS.1]; exact ha.2.1⟩)
      rw [if_neg p0, if_pos (show dO (dup D1 b 4 pa) pa 12 from hS.dO hpO'), wp, if_pos hc1, if_pos hc2]
      by_cases ps : dW D pa 3 = a
      · rw [if_pos ps, zl_eq]
        rw [if_pos (show dO (dup (dup D1 b 4 pa) pa 3 b) b 12 from hS.dO hb), zl_eq, if_pos (show dO (dup (dup (dup D1 b 4 pa) pa 3 b) b 3 a) a 12 from hS.dO ha), zl_eq]
        refine ⟨_, rfl, hS, fun x j => ?_⟩
        simp only [dup_at, h1, p0, ps, ne_eq, not_false_eq_true, true_and, false_and, false_or, if_true]
      · rw [if_neg ps, zl_eq]
        rw [if_pos (show dO (dup (dup D1 b 4 pa) pa 2 b) b 12 from hS.dO hb), zl_eq, if_pos (show dO (dup (dup (dup D1 b 4 pa) pa 2 b) b 3 a) a 12 from hS.dO ha), zl_eq]
        refine ⟨_, rfl, hS, fun x j => ?_⟩
        simp only [dup_at, h1, p0, ps, ne_eq, not_false_eq_true, true_and, false_and, false_or, if_false]
  unfold fX18_rotateRight
  rw [if_neg a0, if_pos ha, hab, if_pos hb, hbc, zl_eq]
  have wc : dW (dup D a 2 c) b 3 = c := by rw [dup_at, if_neg (fun q => n1 q.1.symm), hbc]
  rw [wc]
  by_cases c0 : c = 0
  · rw [if_pos c0]
    exact step _ ⟨rfl, rfl, rfl⟩ (fun x j => by simp only [dup_at, c0, ne_eq, not_true_eq_false, false_and, if_false])
  · rw [if_neg c0, if_pos (show dO (dup D a 2 c) c 12 from hcO.resolve_left c0), zl_eq]
    exact step _ ⟨rfl, rfl, rfl⟩ (fun x j => by simp only [dup_at, c0, ne_eq, not_false_eq_true, true_and])

theorem rotLeft {D : DD} {m a b k v k2 v2 : Int} {t1 t2 t3 : T} {fs : List Fm} (hm : dO D m 11) (hn : (addrs (.nd t1 a k v (.nd t2 b k2 v2 t3)) ++ paddrs fs).Nodup) (h : TD D (.nd t1 a k v (.nd t2 b k2 v2 t3)) (par fs) a) (hp : PD D m fs a) :
    ∃ D', fX18_rotateLeft m a D = some D' ∧ Sm D D' ∧ TD D' (.nd (.nd t1 a k v t2) b k2 v2 t3) (par fs) b ∧ PD D' m fs b ∧ (∀ x j, (x ≠ m ∧ x ∉ addrs (.nd t1 a k v (.nd t2 b k2 v2 t3)) ∧ x ∉ paddrs fs) ∨ j = 5 ∨ (x = m ∧ j ≠ 3) → dW D' x j = dW D x j) := by
  obtain ⟨-, nA, pA, hO1, eb, nB, pB, hI, hO3⟩ := h
  have a0 := nA.1.1
  have b0 := nB.1.1
  have ma : m ≠ a := dO_ne hm nA.1 (by decide)
  have mb : m ≠ b := dO_ne hm nB.1 (by decide)
  rw [List.nodup_append] at hn
  obtain ⟨hn1, hn2, hn3⟩ := hn
  have hn3 : ∀ x, x ∈ addrs (.nd t1 a k v (.nd t2 b k2 v2 t3)) → x ∉ paddrs fs := fun x h1 h2 => hn3 x h1 x h2 rfl
  simp only [addrs_nd, addrs_nil, List.nodup_cons, List.nodup_append, List.mem_cons, List.mem_append, not_or] at hn1
  have hpar : par fs = 0 ∨ (par fs ∈ paddrs fs ∧ dO D (par fs) 12) := by
    cases fs with
    | nil => exact Or.inl rfl
    | cons f fs => exact Or.inr ⟨by simp [par, paddrs], hp.1.1⟩
  have na : a ∈ addrs (.nd t1 a k v (.nd t2 b k2 v2 t3)) := by simp [addrs_nd, addrs_nil]
  have nb : b ∈ addrs (.nd t1 a k v (.nd t2 b k2 v2 t3)) := by simp [addrs_nd, addrs_nil]
  have n1 : a ≠ b := by exact hn1.1.2.1
  have hc := TD_x hI
  have cin : dW D b 2 ≠ 0 → dW D b 2 ∈ addrs t2 := fun q => (hc.resolve_left (fun q' => q q'.1)).1
  have cb : ∀ x, x ∈ addrs t2 → x ≠ a ∧ x ≠ b := by intro x hx; exact ⟨fun q => hn1.1.2.2.1 (q ▸ hx), fun q => hn1.2.2.1.1.1 (q ▸ hx)⟩
  have c0 : dW D b 2 = 0 ∨ dO D (dW D b 2) 12 := hc.imp And.left And.right
  have n2 : dW D b 2 ≠ a := fun q => (cb _ (cin (by omega))).1 q
  have n3 : dW D b 2 ≠ b := fun q => (cb _ (cin (by omega))).2 q
  have n4 : par fs ≠ a := fun q => (hpar.elim (fun q' => by omega) (fun q' => hn3 a na (q ▸ q'.1)))
  have n5 : par fs ≠ b := fun q => (hpar.elim (fun q' => by omega) (fun q' => hn3 b nb (q ▸ q'.1)))
  have hsub : ∀ x, x ∈ paddrs fs → dO D x 12 := by
    have : ∀ (fs : List Fm) (y : Int), PD D m fs y → ∀ x, x ∈ paddrs fs → dO D x 12 := by
      intro fs
      induction fs with
      | nil => intro y _ x hx; cases hx
      | cons f fs ih =>
        intro y h x hx
        obtain ⟨g1, g2, g3, g4⟩ := h
        simp only [paddrs, List.mem_cons, List.mem_append] at hx
        rcases hx with rfl | hx | hx
        · exact g1.1
        · by_cases c : f.left = true
          · rw [if_pos c] at g3; exact TD_addr g3.2 x hx
          · rw [if_neg c] at g3; exact TD_addr g3.2 x hx
        · exact ih _ g4 x hx
    exact this fs a hp
  have hcm : par fs ≠ 0 → cmpV D (dW D (par fs) 2) := by
    intro q
    cases fs with
    | nil => exact absurd rfl q
    | cons f fs =>
      obtain ⟨g1, g2, g3, g4⟩ := hp
      show cmpV D (dW D f.a 2)
      by_cases c : f.left = true
      · rw [if_pos c] at g3
        exact Or.inr (Or.inl ⟨by rw [g3.1]; exact nA.1.1, by rw [g3.1]; exact nA.1.2.1⟩)
      · rw [if_neg c] at g3
        exact (TD_x g3.2).elim (fun q => Or.inl q.1) (fun q => Or.inr (Or.inl ⟨q.2.1, q.2.2.1⟩))
  obtain ⟨D', e1, S, eq⟩ := rotLeft_pt nA.1 nB.1 hm eb rfl pA c0 (hpar.imp id And.right) n1 n2 n3 n4 n5 hcm
  have ds : ∀ e s, dO D e s → dO D' e s := fun e s h => S.dO h
  -- what stays
  have un : ∀ x j, x ≠ a → x ≠ b → x ≠ par fs → x ≠ m → (x = dW D b 2 → j ≠ 4) → dW D' x j = dW D x j := by
    intro x j h1 h2 h3 h4 h5
    rw [eq, if_neg (fun q => h1 q.1), if_neg (fun q => h2 q.1), if_neg (fun q => q.elim (fun q => h4 q.2.1) (fun q => h3 q.2.1)), if_neg (fun q => h2 q.1), if_neg (fun q => h5 q.2.1 q.2.2), if_neg (fun q => h1 q.1)]
  have dm : ∀ x, dO D x 12 → x ≠ m := fun x h => dO_ne h hm (by decide)
  have dp : ∀ x, x ∈ addrs (.nd t1 a k v (.nd t2 b k2 v2 t3)) → x ≠ par fs := fun x hx q => hpar.elim (fun q' => by
    have := TD_addr (t := .nd t1 a k v (.nd t2 b k2 v2 t3)) (p := par fs) (x := a) ⟨rfl, nA, pA, hO1, eb, nB, pB, hI, hO3⟩ x hx
    have := this.1
    omega) (fun q' => hn3 x hx (q ▸ q'.1))
  have tA : ∀ x, x ∈ addrs (.nd t1 a k v (.nd t2 b k2 v2 t3)) → dO D x 12 := TD_addr (t := .nd t1 a k v (.nd t2 b k2 v2 t3)) (p := par fs) (x := a) ⟨rfl, nA, pA, hO1, eb, nB, pB, hI, hO3⟩
  have s1 : ∀ x ∈ addrs t1, ∀ j, dW D' x j = dW D x j := fun x hx j => by
    have q : x ∈ addrs (.nd t1 a k v (.nd t2 b k2 v2 t3)) := by simp [addrs_nd, addrs_nil, hx]
    refine un x j ?_ ?_ (dp x q) (dm x (tA x q)) (fun e => ?_)
    · exact fun e => hn1.1.1 (e ▸ hx)
    · exact fun e => hn1.2.2.2 x hx b (Or.inl rfl) e
    · exact absurd hx (fun hx => by
        have := cin (by have := (tA x q).1; omega)
        rw [← e] at this
        exact hn1.2.2.2 x hx x (Or.inr (Or.inl this)) rfl)
  have s2 : ∀ x ∈ addrs t2, ∀ j, (x = dW D b 2 ∧ j = 4) ∨ dW D' x j = dW D x j := fun x hx j => by
    have q : x ∈ addrs (.nd t1 a k v (.nd t2 b k2 v2 t3)) := by simp [addrs_nd, addrs_nil, hx]
    by_cases c : x = dW D b 2 ∧ j = 4
    · exact Or.inl c
    · exact Or.inr (un x j (cb x hx).1 (cb x hx).2 (dp x q) (dm x (tA x q)) (fun e e' => c ⟨e, e'⟩))
  have s3 : ∀ x ∈ addrs t3, ∀ j, dW D' x j = dW D x j := fun x hx j => by
    have q : x ∈ addrs (.nd t1 a k v (.nd t2 b k2 v2 t3)) := by simp [addrs_nd, addrs_nil, hx]
    refine un x j ?_ ?_ (dp x q) (dm x (tA x q)) (fun e => ?_)
    · exact fun e => hn1.1.2.2.2 (e ▸ hx)
    · exact fun e => hn1.2.2.1.1.2 (e ▸ hx)
    · exact absurd hx (fun hx => by
        have := cin (by have := (tA x q).1; omega)
        rw [← e] at this
        exact hn1.2.2.1.2.2.2 x this x hx rfl)
  have wa : ∀ j, j ≠ 4 → j ≠ 3 → dW D' a j = dW D a j := fun j h4 hR => by
    rw [eq, if_neg (fun q => h4 q.2), if_neg (fun q => n1 q.1), if_neg (fun q => q.elim (fun q => ma q.2.1.symm) (fun q => n4 q.2.1.symm)), if_neg (fun q => n1 q.1), if_neg (fun q => n2 q.2.1.symm), if_neg (fun q => hR q.2)]
  have wa4 : dW D' a 4 = b := by rw [eq, if_pos ⟨rfl, rfl⟩]
  have waR : dW D' a 3 = dW D b 2 := by
    rw [eq, if_neg (by omega), if_neg (fun q => n1 q.1), if_neg (fun q => q.elim (fun q => ma q.2.1.symm) (fun q => n4 q.2.1.symm)), if_neg (fun q => n1 q.1), if_neg (fun q => n2 q.2.1.symm), if_pos ⟨rfl, rfl⟩]
  have wb : ∀ j, j ≠ 4 → j ≠ 2 → dW D' b j = dW D b j := fun j h4 hF => by
    rw [eq, if_neg (fun q => n1 q.1.symm), if_neg (fun q => hF q.2), if_neg (fun q => q.elim (fun q => mb q.2.1.symm) (fun q => n5 q.2.1.symm)), if_neg (fun q => h4 q.2), if_neg (fun q => n3 q.2.1.symm), if_neg (fun q => n1 q.1.symm)]
  have wb4 : dW D' b 4 = par fs := by
    rw [eq, if_neg (fun q => n1 q.1.symm), if_neg (by omega), if_neg (fun q => q.elim (fun q => mb q.2.1.symm) (fun q => n5 q.2.1.symm)), if_pos ⟨rfl, rfl⟩]
  have wbF : dW D' b 2 = a := by rw [eq, if_neg (fun q => n1 q.1.symm), if_pos ⟨rfl, rfl⟩]
  have nA' : nO D' a k v := nO_ag ds (fun j hj => wa j (by omega) (by omega)) nA
  have nB' : nO D' b k2 v2 := nO_ag ds (fun j hj => wb j (by omega) (by omega)) nB
  have hC4 : dW D b 2 ≠ 0 → dW D' (dW D b 2) 4 = a := fun q => by
    rw [eq, if_neg (fun q => n2 q.1), if_neg (fun q => n3 q.1), if_neg (fun q' => q'.elim (fun q' => dm _ (c0.resolve_left q) q'.2.1) (fun q' => dp _ (by have := cin q; simp [addrs_nd, addrs_nil, this]) q'.2.1)), if_neg (fun q => n3 q.1), if_pos ⟨q, rfl, rfl⟩]
  refine ⟨D', e1, S, ?_, ?_, ?_⟩
  · refine ⟨rfl, nB', wb4, ?_, ?_⟩
    · rw [wbF]
      refine ⟨rfl, nA', wa4, ?_, ?_⟩
      · rw [wa 2 (by decide) (by decide)]
        exact TD_ag ds (fun x hx j _ => s1 x hx j) hO1
      · rw [waR]
        exact TD_agp ds hn1.2.2.1.2.1 (fun x hx j _ => s2 x hx j) hC4 hI
    · rw [wb 3 (by decide) (by decide)]
      exact TD_ag ds (fun x hx j _ => s3 x hx j) hO3
  · refine PD_agx ds hn2 (fun x hx j hj => ?_) (fun q => ?_) (fun q => ?_) (fun f gs e => ?_) hp
    · have xa : x ≠ a := fun q => hn3 a na (q ▸ hx)
      have xb : x ≠ b := fun q => hn3 b nb (q ▸ hx)
      have xm : x ≠ m := dm x (hsub x hx)
      have xc : x ≠ dW D b 2 := fun q => by
        have := cin (by have := (hsub x hx).1; omega)
        exact hn3 x (by rw [q]; simp [addrs_nd, addrs_nil, this]) hx
      by_cases xp : x = par fs
      · cases fs with
        | nil => cases hx
        | cons f gs =>
          by_cases c : j = if f.left then 2 else 3
          · exact Or.inl ⟨xp, f, gs, rfl, c⟩
          · right
            rw [eq, if_neg (fun q => xa q.1), if_neg (fun q => xb q.1), if_neg, if_neg (fun q => xb q.1), if_neg (fun q => xc q.2.1), if_neg (fun q => xa q.1)]
            rintro (q | ⟨q1, q2, q3⟩)
            · exact xm q.2.1
            · apply c
              rw [q3]
              obtain ⟨g1, g2, g3, g4⟩ := hp
              show (if dW D f.a 2 = a then 2 else 3 : Int) = _
              by_cases fl : f.left = true
              · rw [if_pos fl] at g3
                rw [if_pos g3.1, if_pos fl]
              · rw [if_neg fl] at g3
                have hne : ¬ dW D f.a 2 = a := fun q => hn3 a na (by
                  rcases TD_x g3.2 with q9 | q9
                  · have := q9.1; omega
                  · have q8 := q9.1; rw [q] at q8; simp [paddrs, q8])
                rw [if_neg hne, if_neg fl]
      · exact Or.inr (un x j xa xb xp xm (fun q => absurd q xc))
    · have p0 : par fs ≠ 0 := by
        cases fs with
        | nil => exact absurd rfl q
        | cons f gs => have := hp.1.1.1; show f.a ≠ 0; omega
      rw [eq, if_neg (fun q => ma q.1), if_neg (fun q => mb q.1), if_neg (fun q => q.elim (fun q => p0 q.1) (fun q => dm _ (hpar.resolve_left p0).2 q.2.1.symm)), if_neg (fun q => mb q.1), if_neg (by omega), if_neg (fun q => ma q.1)]
    · subst q
      rw [eq, if_neg (fun q => ma q.1), if_neg (fun q => mb q.1), if_pos (Or.inl ⟨rfl, rfl, rfl⟩)]
    · subst e
      have p0 : par (f :: gs) ≠ 0 := by have := hp.1.1.1; show f.a ≠ 0; omega
      have xa : f.a ≠ a := n4
      have xb : f.a ≠ b := n5
      rw [eq, if_neg (fun q => xa q.1), if_neg (fun q => xb q.1), if_pos]
      refine Or.inr ⟨p0, rfl, ?_⟩
      obtain ⟨g1, g2, g3, g4⟩ := hp
      show _ = (if dW D f.a 2 = a then 2 else 3 : Int)
      by_cases fl : f.left = true
      · rw [if_pos fl] at g3
        rw [if_pos fl, if_pos g3.1]
      · rw [if_neg fl] at g3
        have hne : ¬ dW D f.a 2 = a := fun q => hn3 a na (by
          rcases TD_x g3.2 with q9 | q9
          · have := q9.1; omega
          · have q8 := q9.1; rw [q] at q8; simp [paddrs, q8])
        rw [if_neg fl, if_neg hne]
  · intro x j hx
    by_cases xm : x = m
    · subst xm
      have j3 : j ≠ 3 := by
        rcases hx with q | q | q
        · exact absurd rfl q.1
        · omega
        · exact q.2
      rw [eq, if_neg (fun q => ma q.1), if_neg (fun q => mb q.1), if_neg (fun q => q.elim (fun q => j3 q.2.2) (fun q => dm _ (hpar.resolve_left q.1).2 q.2.1.symm)), if_neg (fun q => mb q.1), if_neg (fun q => dm _ (c0.resolve_left q.1) q.2.1.symm), if_neg (fun q => ma q.1)]
    · rcases hx with q | q | q
      · have xa : x ≠ a := fun e => q.2.1 (e ▸ na)
        have xb : x ≠ b := fun e => q.2.1 (e ▸ nb)
        rw [eq, if_neg (fun q => xa q.1), if_neg (fun q => xb q.1), if_neg (fun q' => q'.elim (fun q' => xm q'.2.1) (fun q' => q.2.2 (q'.2.1 ▸ (hpar.resolve_left q'.1).1))), if_neg (fun q => xb q.1), if_neg (fun q' => q.2.1 (by rw [q'.2.1]; have := cin q'.1; simp [addrs_nd, addrs_nil, this])), if_neg (fun q => xa q.1)]
      · rw [eq, if_neg (by omega), if_neg (by omega), if_neg, if_neg (by omega), if_neg (by omega), if_neg (by omega)]
        rintro (q' | ⟨-, -, q3⟩)
        · omega
        · split at q3 <;> omega
      · exact absurd q.1 xm

theorem rotRight {D : DD} {m a b k v k2 v2 : Int} {t1 t2 t3 : T} {fs : List Fm} (hm : dO D m 11) (hn : (addrs (.nd (.nd t3 b k2 v2 t2) a k v t1) ++ paddrs fs).Nodup) (h : TD D (.nd (.nd t3 b k2 v2 t2) a k v t1) (par fs) a) (hp : PD D m fs a) :
    ∃ D', fX18_rotateRight m a D = some D' ∧ Sm D D' ∧ TD D' (.nd t3 b k2 v2 (.nd t2 a k v t1)) (par fs) b ∧ PD D' m fs b ∧ (∀ x j, (x ≠ m ∧ x ∉ addrs (.nd (.nd t3 b k2 v2 t2) a k v t1) ∧ x ∉ paddrs fs) ∨ j = 5 ∨ (x = m ∧ j ≠ 3) → dW D' x j = dW D x j) := by
  obtain ⟨-, nA, pA, ⟨eb, nB, pB, hO3, hI⟩, hO1⟩ := h
  have a0 := nA.1.1
  have b0 := nB.1.1
  have ma : m ≠ a := dO_ne hm nA.1 (by decide)
  have mb : m ≠ b := dO_ne hm nB.1 (by decide)
  rw [List.nodup_append] at hn
  obtain ⟨hn1, hn2, hn3⟩ := hn
  have hn3 : ∀ x, x ∈ addrs (.nd (.nd t3 b k2 v2 t2) a k v t1) → x ∉ paddrs fs := fun x h1 h2 => hn3 x h1 x h2 rfl
  simp only [addrs_nd, addrs_nil, List.nodup_cons, List.nodup_append, List.mem_cons, List.mem_append, not_or] at hn1
  have hpar : par fs = 0 ∨ (par fs ∈ paddrs fs ∧ dO D (par fs) 12) := by
    cases fs with
    | nil => exact Or.inl rfl
    | cons f fs => exact Or.inr ⟨by simp [par, paddrs], hp.1.1⟩
  have na : a ∈ addrs (.nd (.nd t3 b k2 v2 t2) a k v t1) := by simp [addrs_nd, addrs_nil]
  have nb : b ∈ addrs (.nd (.nd t3 b k2 v2 t2) a k v t1) := by simp [addrs_nd, addrs_nil]
  have n1 : a ≠ b := by exact hn1.1.1.1
  have hc := TD_x hI
  have cin : dW D b 3 ≠ 0 → dW D b 3 ∈ addrs t2 := fun q => (hc.resolve_left (fun q' => q q'.1)).1
  have cb : ∀ x, x ∈ addrs t2 → x ≠ a ∧ x ≠ b := by intro x hx; exact ⟨fun q => hn1.1.1.2.2 (q ▸ hx), fun q => hn1.2.1.1.2 (q ▸ hx)⟩
  have c0 : dW D b 3 = 0 ∨ dO D (dW D b 3) 12 := hc.imp And.left And.right
  have n2 : dW D b 3 ≠ a := fun q => (cb _ (cin (by omega))).1 q
  have n3 : dW D b 3 ≠ b := fun q => (cb _ (cin (by omega))).2 q
  have n4 : par fs ≠ a := fun q => (hpar.elim (fun q' => by omega) (fun q' => hn3 a na (q ▸ q'.1)))
  have n5 : par fs ≠ b := fun q => (hpar.elim (fun q' => by omega) (fun q' => hn3 b nb (q ▸ q'.1)))
  have hsub : ∀ x, x ∈ paddrs fs → dO D x 12 := by
    have : ∀ (fs : List Fm) (y : Int), PD D m fs y → ∀ x, x ∈ paddrs fs → dO D x 12 := by
      intro fs
      induction fs with
      | nil => intro y _ x hx; cases hx
      | cons f fs ih =>
        intro y h x hx
        obtain ⟨g1, g2, g3, g4⟩ := h
        simp only [paddrs, List.mem_cons, List.mem_append] at hx
        rcases hx with rfl | hx | hx
        · exact g1.1
        · by_cases c : f.left = true
          · rw [if_pos c] at g3; exact TD_addr g3.2 x hx
          · rw [if_neg c] at g3; exact TD_addr g3.2 x hx
        · exact ih _ g4 x hx
    exact this fs a hp
  have hcm : par fs ≠ 0 → cmpV D (dW D (par fs) 3) := by
    intro q
    cases fs with
    | nil => exact absurd rfl q
    | cons f fs =>
      obtain ⟨g1, g2, g3, g4⟩ := hp
      show cmpV D (dW D f.a 3)
      by_cases c : f.left = true
      · rw [if_pos c] at g3
        exact (TD_x g3.2).elim (fun q => Or.inl q.1) (fun q => Or.inr (Or.inl ⟨q.2.1, q.2.2.1⟩))
      · rw [if_neg c] at g3
        exact Or.inr (Or.inl ⟨by rw [g3.1]; exact nA.1.1, by rw [g3.1]; exact nA.1.2.1⟩)
  obtain ⟨D', e1, S, eq⟩ := rotRight_pt nA.1 nB.1 hm eb rfl pA c0 (hpar.imp id And.right) n1 n2 n3 n4 n5 hcm
  have ds : ∀ e s, dO D e s → dO D' e s := fun e s h => S.dO h
  -- what stays
  have un : ∀ x j, x ≠ a → x ≠ b → x ≠ par fs → x ≠ m → (x = dW D b 3 → j ≠ 4) → dW D' x j = dW D x j := by
    intro x j h1 h2 h3 h4 h5
    rw [eq, if_neg (fun q => h1 q.1), if_neg (fun q => h2 q.1), if_neg (fun q => q.elim (fun q => h4 q.2.1) (fun q => h3 q.2.1)), if_neg (fun q => h2 q.1), if_neg (fun q => h5 q.2.1 q.2.2), if_neg (fun q => h1 q.1)]
  have dm : ∀ x, dO D x 12 → x ≠ m := fun x h => dO_ne h hm (by decide)
  have dp : ∀ x, x ∈ addrs (.nd (.nd t3 b k2 v2 t2) a k v t1) → x ≠ par fs := fun x hx q => hpar.elim (fun q' => by
    have := TD_addr (t := .nd (.nd t3 b k2 v2 t2) a k v t1) (p := par fs) (x := a) ⟨rfl, nA, pA, ⟨eb, nB, pB, hO3, hI⟩, hO1⟩ x hx
    have := this.1
    omega) (fun q' => hn3 x hx (q ▸ q'.1))
  have tA : ∀ x, x ∈ addrs (.nd (.nd t3 b k2 v2 t2) a k v t1) → dO D x 12 := TD_addr (t := .nd (.nd t3 b k2 v2 t2) a k v t1) (p := par fs) (x := a) ⟨rfl, nA, pA, ⟨eb, nB, pB, hO3, hI⟩, hO1⟩
  have s1 : ∀ x ∈ addrs t1, ∀ j, dW D' x j = dW D x j := fun x hx j => by
    have q : x ∈ addrs (.nd (.nd t3 b k2 v2 t2) a k v t1) := by simp [addrs_nd, addrs_nil, hx]
    refine un x j ?_ ?_ (dp x q) (dm x (tA x q)) (fun e => ?_)
    · exact fun e => hn1.1.2 (e ▸ hx)
    · exact fun e => hn1.2.2.2 b (Or.inl rfl) x hx e.symm
    · exact absurd hx (fun hx => by
        have := cin (by have := (tA x q).1; omega)
        rw [← e] at this
        exact hn1.2.2.2 x (Or.inr (Or.inr this)) x hx rfl)
  have s2 : ∀ x ∈ addrs t2, ∀ j, (x = dW D b 3 ∧ j = 4) ∨ dW D' x j = dW D x j := fun x hx j => by
    have q : x ∈ addrs (.nd (.nd t3 b k2 v2 t2) a k v t1) := by simp [addrs_nd, addrs_nil, hx]
    by_cases c : x = dW D b 3 ∧ j = 4
    · exact Or.inl c
    · exact Or.inr (un x j (cb x hx).1 (cb x hx).2 (dp x q) (dm x (tA x q)) (fun e e' => c ⟨e, e'⟩))
  have s3 : ∀ x ∈ addrs t3, ∀ j, dW D' x j = dW D x j := fun x hx j => by
    have q : x ∈ addrs (.nd (.nd t3 b k2 v2 t2) a k v t1) := by simp [addrs_nd, addrs_nil, hx]
    refine un x j ?_ ?_ (dp x q) (dm x (tA x q)) (fun e => ?_)
    · exact fun e => hn1.1.1.2.1 (e ▸ hx)
    · exact fun e => hn1.2.1.1.1 (e ▸ hx)
    · exact absurd hx (fun hx => by
        have := cin (by have := (tA x q).1; omega)
        rw [← e] at this
        exact hn1.2.1.2.2.2 x hx x this rfl)
  have wa : ∀ j, j ≠ 4 → j ≠ 2 → dW D' a j = dW D a j := fun j h4 hR => by
    rw [eq, if_neg (fun q => h4 q.2), if_neg (fun q => n1 q.1), if_neg (fun q => q.elim (fun q => ma q.2.1.symm) (fun q => n4 q.2.1.symm)), if_neg (fun q => n1 q.1), if_neg (fun q => n2 q.2.1.symm), if_neg (fun q => hR q.2)]
  have wa4 : dW D' a 4 = b := by rw [eq, if_pos ⟨rfl, rfl⟩]
  have waR : dW D' a 2 = dW D b 3 := by
    rw [eq, if_neg (by omega), if_neg (fun q => n1 q.1), if_neg (fun q => q.elim (fun q => ma q.2.1.symm) (fun q => n4 q.2.1.symm)), if_neg (fun q => n1 q.1), if_neg (fun q => n2 q.2.1.symm), if_pos ⟨rfl, rfl⟩]
  have wb : ∀ j, j ≠ 4 → j ≠ 3 → dW D' b j = dW D b j := fun j h4 hF => by
    rw [eq, if_neg (fun q => n1 q.1.symm), if_neg (fun q => hF q.2), if_neg (fun q => q.elim (fun q => mb q.2.1.symm) (fun q => n5 q.2.1.symm)), if_neg (fun q => h4 q.2), if_neg (fun q => n3 q.2.1.symm), if_neg (fun q => n1 q.1.symm)]
  have wb4 : dW D' b 4 = par fs := by
    rw [eq, if_neg (fun q => n1 q.1.symm), if_neg (by omega), if_neg (fun q => q.elim (fun q => mb q.2.1.symm) (fun q => n5 q.2.1.symm)), if_pos ⟨rfl, rfl⟩]
  have wbF : dW D' b 3 = a := by rw [eq, if_neg (fun q => n1 q.1.symm), if_pos ⟨rfl, rfl⟩]
  have nA' : nO D' a k v := nO_ag ds (fun j hj => wa j (by omega) (by omega)) nA
  have nB' : nO D' b k2 v2 := nO_ag ds (fun j hj => wb j (by omega) (by omega)) nB
  have hC4 : dW D b 3 ≠ 0 → dW D' (dW D b 3) 4 = a := fun q => by
    rw [eq, if_neg (fun q => n2 q.1), if_neg (fun q => n3 q.1), if_neg (fun q' => q'.elim (fun q' => dm _ (c0.resolve_left q) q'.2.1) (fun q' => dp _ (by have := cin q; simp [addrs_nd, addrs_nil, this]) q'.2.1)), if_neg (fun q => n3 q.1), if_pos ⟨q, rfl, rfl⟩]
  refine ⟨D', e1, S, ?_, ?_, ?_⟩
  · refine ⟨rfl, nB', wb4, ?_, ?_⟩
    · rw [wb 2 (by decide) (by decide)]
      exact TD_ag ds (fun x hx j _ => s3 x hx j) hO3
    · rw [wbF]
      refine ⟨rfl, nA', wa4, ?_, ?_⟩
      · rw [waR]
        exact TD_agp ds hn1.2.1.2.2.1 (fun x hx j _ => s2 x hx j) hC4 hI
      · rw [wa 3 (by decide) (by decide)]
        exact TD_ag ds (fun x hx j _ => s1 x hx j) hO1
  · refine PD_agx ds hn2 (fun x hx j hj => ?_) (fun q => ?_) (fun q => ?_) (fun f gs e => ?_) hp
    · have xa : x ≠ a := fun q => hn3 a na (q ▸ hx)
      have xb : x ≠ b := fun q => hn3 b nb (q ▸ hx)
      have xm : x ≠ m := dm x (hsub x hx)
      have xc : x ≠ dW D b 3 := fun q => by
        have := cin (by have := (hsub x hx).1; omega)
        exact hn3 x (by rw [q]; simp [addrs_nd, addrs_nil, this]) hx
      by_cases xp : x = par fs
      · cases fs with
        | nil => cases hx
        | cons f gs =>
          by_cases c : j = if f.left then 2 else 3
          · exact Or.inl ⟨xp, f, gs, rfl, c⟩
          · right
            rw [eq, if_neg (fun q => xa q.1), if_neg (fun q => xb q.1), if_neg, if_neg (fun q => xb q.1), if_neg (fun q => xc q.2.1), if_neg (fun q => xa q.1)]
            rintro (q | ⟨q1, q2, q3⟩)
            · exact xm q.2.1
            · apply c
              rw [q3]
              obtain ⟨g1, g2, g3, g4⟩ := hp
              show (if dW D f.a 3 = a then 3 else 2 : Int) = _
              by_cases fl : f.left = true
              · rw [if_pos fl] at g3
                have hne : ¬ dW D f.a 3 = a := fun q => hn3 a na (by
                  rcases TD_x g3.2 with q9 | q9
                  · have := q9.1; omega
                  · have q8 := q9.1; rw [q] at q8; simp [paddrs, q8])
                rw [if_neg hne, if_pos fl]
              · rw [if_neg fl] at g3
                rw [if_pos g3.1, if_neg fl]
      · exact Or.inr (un x j xa xb xp xm (fun q => absurd q xc))
    · have p0 : par fs ≠ 0 := by
        cases fs with
        | nil => exact absurd rfl q
        | cons f gs => have := hp.1.1.1; show f.a ≠ 0; omega
      rw [eq, if_neg (fun q => ma q.1), if_neg (fun q => mb q.1), if_neg (fun q => q.elim (fun q => p0 q.1) (fun q => dm _ (hpar.resolve_left p0).2 q.2.1.symm)), if_neg (fun q => mb q.1), if_neg (by omega), if_neg (fun q => ma q.1)]
    · subst q
      rw [eq, if_neg (fun q => ma q.1), if_neg (fun q => mb q.1), if_pos (Or.inl ⟨rfl, rfl, rfl⟩)]
    · subst e
      have p0 : par (f :: gs) ≠ 0 := by have := hp.1.1.1; show f.a ≠ 0; omega
      have xa : f.a ≠ a := n4
      have xb : f.a ≠ b := n5
      rw [eq, if_neg (fun q => xa q.1), if_neg (fun q => xb q.1), if_pos]
      refine Or.inr ⟨p0, rfl, ?_⟩
      obtain ⟨g1, g2, g3, g4⟩ := hp
      show _ = (if dW D f.a 3 = a then 3 else 2 : Int)
      by_cases fl : f.left = true
      · rw [if_pos fl] at g3
        have hne : ¬ dW D f.a 3 = a := fun q => hn3 a na (by
          rcases TD_x g3.2 with q9 | q9
          · have := q9.1; omega
          · have q8 := q9.1; rw [q] at q8; simp [paddrs, q8])
        rw [if_pos fl, if_neg hne]
      · rw [if_neg fl] at g3
        rw [if_neg fl, if_pos g3.1]
  · intro x j hx
    by_cases xm : x = m
    · subst xm
      have j3 : j ≠ 3 := by
        rcases hx with q | q | q
        · exact absurd rfl q.1
        · omega
        · exact q.2
      rw [eq, if_neg (fun q => ma q.1), if_neg (fun q => mb q.1), if_neg (fun q => q.elim (fun q => j3 q.2.2) (fun q => dm _ (hpar.resolve_left q.1).2 q.2.1.symm)), if_neg (fun q => mb q.1), if_neg (fun q => dm _ (c0.resolve_left q.1) q.2.1.symm), if_neg (fun q => ma q.1)]
    · rcases hx with q | q | q
      · have xa : x ≠ a := fun e => q.2.1 (e ▸ na)
        have xb : x ≠ b := fun e => q.2.1 (e ▸ nb)
        rw [eq, if_neg (fun q => xa q.1), if_neg (fun q => xb q.1), if_neg (fun q' => q'.elim (fun q' => xm q'.2.1) (fun q' => q.2.2 (q'.2.1 ▸ (hpar.resolve_left q'.1).1))), if_neg (fun q => xb q.1), if_neg (fun q' => q.2.1 (by rw [q'.2.1]; have := cin q'.1; simp [addrs_nd, addrs_nil, this])), if_neg (fun q => xa q.1)]
      · rw [eq, if_neg (by omega), if_neg (by omega), if_neg, if_neg (by omega), if_neg (by omega), if_neg (by omega)]
        rintro (q' | ⟨-, -, q3⟩)
        · omega
        · split at q3 <;> omega
      · exact absurd q.1 xm


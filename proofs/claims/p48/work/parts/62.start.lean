/-! the beginning -/
/-- a row added to a table -/
theorem c_addRow2 {z : ZZ} {t : Nat} (ht : isT t) (hn : 0 ≤ z t 3 ∧ z t 3 < zMR t) : ∃ z', fX4_addRow t z = some (z t 3, z') ∧ z' t 3 = z t 3 + 1 ∧ (∀ j, z' (t + 1) j = if z t 3 * zCO t ≤ j ∧ j < z t 3 * zCO t + zCO t then 0 else z (t + 1) j) ∧ (∀ a, a ≠ t → a ≠ t + 1 → z' a = z a) ∧ ∀ j, j ≠ 3 → z' t j = z t j := by
  have hT := isT_all t ht.1 ht.2
  obtain ⟨o, eo, o1, o2, o3, o4⟩ := lp_rel (step := fun q : Int × ZZ => fX4_addRow_s26 t (z t 3) q.1 q.2) (fun _ (a : Unit) => a) (fun i _ s => s.1 = i ∧ s.2 t 3 = z t 3 + 1 ∧ (∀ j, s.2 (t + 1) j = if z t 3 * zCO t ≤ j ∧ j < z t 3 * zCO t + i then 0 else z (t + 1) j) ∧ (∀ a, a ≠ t → a ≠ t + 1 → s.2 a = z a) ∧ ∀ j, j ≠ 3 → s.2 t j = z t j) (fun _ o => o t 3 = z t 3 + 1 ∧ (∀ j, o (t + 1) j = if z t 3 * zCO t ≤ j ∧ j < z t 3 * zCO t + zCO t then 0 else z (t + 1) j) ∧ (∀ a, a ≠ t → a ≠ t + 1 → o a = z a) ∧ ∀ j, j ≠ 3 → o t j = z t j) (zCO t).toNat 0 () (0, zup z t 3 (z t 3 + 1)) FU (FU_lt (by omega)) ⟨rfl, by
      show zup _ _ _ _ t 3 = _
      rw [zup_at, if_pos rfl], fun j => by
      show zup _ _ _ _ (t + 1) j = _
      rw [zup_ne (by omega), if_neg (by omega)], fun a p q => by
      show zup _ _ _ _ a = _
      rw [zup_ne p], fun j p => by
      show zup _ _ _ _ t j = _
      rw [zup_at, if_neg p]⟩ (fun i q s h1 h2 h => by
      obtain ⟨s1, s2⟩ := s
      obtain ⟨x1, x2, x3, x4, x5⟩ := h
      dsimp only at x1 x2 x3 x4
      subst x1
      have k1 : s1 < zCO t := by omega
      have k2 : inR (s1 + 1) := inR_s (by omega)
      have s4 : fX4_set t (z t 3) s1 0 s2 = some (zup s2 (t + 1) (z t 3 * zCO t + s1) 0) := set_ok ht (by rw [x2]; omega) (by rw [x2]; omega) ⟨by omega, k1⟩
      refine ⟨(s1 + 1, zup s2 (t + 1) (z t 3 * zCO t + s1) 0), ?_, rfl, ?_, fun j => ?_, fun a p q => ?_, fun j p => ?_⟩
      · simp only [fX4_addRow_s26, if_pos k1, s4, Option.bind_some, if_pos k2]
      · show zup _ _ _ _ t 3 = _
        rw [zup_ne (by omega)]
        exact x2
      · show zup _ _ _ _ (t + 1) j = _
        rw [zup_at, x3]
        generalize z t 3 * zCO t = b
        by_cases e : j = b + s1
        · rw [if_pos e, if_pos (by omega)]
        · rw [if_neg e]
          by_cases e2 : b ≤ j ∧ j < b + s1
          · rw [if_pos e2, if_pos (by omega)]
          · rw [if_neg e2, if_neg (by omega)]
      · show zup _ _ _ _ a = _
        rw [zup_ne q]
        exact x4 a p q
      · show zup _ _ _ _ t j = _
        rw [zup_ne (by omega)]
        exact x5 j p) (fun q s h => by
      obtain ⟨s1, s2⟩ := s
      obtain ⟨x1, x2, x3, x4, x5⟩ := h
      dsimp only at x1 x2 x3 x4
      have e1 : s1 = zCO t := by omega
      rw [show (0 : Int) + ((zCO t).toNat : Nat) = zCO t by omega] at x3
      refine ⟨s2, ?_, x2, x3, x4, x5⟩
      dsimp only
      unfold fX4_addRow_s26
      rw [if_neg (by omega)])
  refine ⟨o, ?_, o1, o2, o3, o4⟩
  unfold fX4_addRow fX4_isFull zl
  rw [if_pos hn.2]
  simp only [Option.bind_some, if_true]
  rw [if_pos (inR_s (by omega))]
  rw [eo]
  rfl
section ER
variable {z : ZZ} {r : Row} {u v w : Int}
theorem E_wall (hR : RH z 3 r) (hP : PR r) (h8 : r 4 < 8) : ∃ z', fX1_addWall 3 u v w z = some z' ∧ RH z' 3 (wallR r u v w) ∧ (∀ a, a ≠ 4 → a ≠ 5 → z' a = z a) ∧ ∀ j, j ≠ 3 → z' 4 j = z 4 j := by
  have hn := hP.1
  unfold IHn at hn
  obtain ⟨h1, h2, h3, h4, h5, h6, h7⟩ := hR
  have n18 : z 4 3 = r 4 := h1.1
  obtain ⟨x, ex, x1, x2, x3, x4⟩ := c_addRow2 (z := z) kT4 (by rw [n18]; exact ⟨hn.1, h8⟩)
  rw [n18] at ex x1 x2
  have x2' : ∀ j, x 5 j = if r 4 * 4 ≤ j ∧ j < r 4 * 4 + 4 then 0 else z 5 j := x2
  have st : ∀ (y : ZZ) (c a : Int), y 4 3 = r 4 + 1 → 0 ≤ c ∧ c < 4 → fX4_set 4 (r 4) c a y = some (zup y 5 (r 4 * 4 + c) a) := fun y c a hy hc => set_ok kT4 (by rw [hy]; omega) (by rw [hy]; show r 4 + 1 ≤ 8; omega) (show 0 ≤ c ∧ c < 4 from hc)
  have t0 := st x 0 u x1 (by omega)
  have t1 := st (zup x 5 (r 4 * 4 + 0) u) 1 v (by rw [zup_ne (by decide)]; exact x1) (by omega)
  have t2 := st (zup (zup x 5 (r 4 * 4 + 0) u) 5 (r 4 * 4 + 1) v) 2 w (by rw [zup_ne (by decide), zup_ne (by decide)]; exact x1) (by omega)
  have t3 := st (zup (zup (zup x 5 (r 4 * 4 + 0) u) 5 (r 4 * 4 + 1) v) 5 (r 4 * 4 + 2) w) 3 w (by rw [zup_ne (by decide), zup_ne (by decide), zup_ne (by decide)]; exact x1) (by omega)
  generalize hy : zup (zup (zup (zup x 5 (r 4 * 4 + 0) u) 5 (r 4 * 4 + 1) v) 5 (r 4 * 4 + 2) w) 5 (r 4 * 4 + 3) w = y at t3
  have yo : ∀ a, a ≠ 4 → a ≠ 5 → y a = z a := fun a p q => by rw [← hy, zup_ne q, zup_ne q, zup_ne q, zup_ne q, x3 a p q]
  have y18 : y 4 3 = r 4 + 1 := by rw [← hy, zup_ne (by decide), zup_ne (by decide), zup_ne (by decide), zup_ne (by decide), x1]
  have y19 : ∀ j, y 5 j = if j = r 4 * 4 + 3 then w else if j = r 4 * 4 + 2 then w else if j = r 4 * 4 + 1 then v else if j = r 4 * 4 + 0 then u else if r 4 * 4 ≤ j ∧ j < r 4 * 4 + 4 then 0 else z 5 j := fun j => by rw [← hy, zup_at, zup_at, zup_at, zup_at, x2']
  obtain ⟨n4, m0, m1, m2, m3⟩ := wallR_n (r := r) (u := u) (v := v) (w := w) hn.1
  have eX : ∀ i, i < 4 ∨ 37 ≤ i → wallR r u v w i = r i := fun i hi => wallR_o (by omega) (by omega)
  refine ⟨y, ?_, ⟨TL_add h1 (by rw [n18]; exact y18) n4 (fun j a c => ?_) (fun j a c => wallR_o (by omega) (by omega)) (fun c a d => ?_), TL_k h2 (yo _ (by decide) (by decide)) (yo _ (by decide) (by decide)) (eX _ (by omega)) (fun j a c => eX _ (by omega)), TL_k h3 (yo _ (by decide) (by decide)) (yo _ (by decide) (by decide)) (eX _ (by omega)) (fun j a c => eX _ (by omega)), TH_k h4 (yo _ (by decide) (by decide)) (yo _ (by decide) (by decide)) (eX _ (by omega)) (fun j a c => eX _ (by omega)), TL_k h5 (yo _ (by decide) (by decide)) (yo _ (by decide) (by decide)) (eX _ (by omega)) (fun j a c => eX _ (by omega)), TL_k h6 (yo _ (by decide) (by decide)) (yo _ (by decide) (by decide)) (eX _ (by omega)) (fun j a c => eX _ (by omega)), ?_⟩, yo, fun j p => by rw [← hy, zup_ne (by decide), zup_ne (by decide), zup_ne (by decide), zup_ne (by decide), x4 j p]⟩
  · simp only [fX1_addWall, ex, Option.bind_some, t0, t1, t2, t3]
  · show y 5 j = z 5 j
    rw [y19, if_neg (by omega), if_neg (by omega), if_neg (by omega), if_neg (by omega), if_neg (by omega)]
  · show y 5 _ = _
    rw [y19]
    by_cases c3 : c = 3
    · subst c3; rw [if_pos (by omega), m3]
    · rw [if_neg (by omega)]
      by_cases c2 : c = 2
      · subst c2; rw [if_pos (by omega), m2]
      · rw [if_neg (by omega)]
        by_cases c1 : c = 1
        · subst c1; rw [if_pos (by omega), m1]
        · have c0 : c = 0 := by omega
          subst c0
          rw [if_neg (by omega), if_pos (by omega), m0]
  · rw [yo 3 (by decide) (by decide), eX 3 (by omega), eX 0 (by omega), eX 1 (by omega), eX 2 (by omega)]
    exact h7
theorem E_cour (hR : RH z 3 r) (hP : PR r) (h8 : r 619 < 8) : ∃ z', fX1_addCourse 3 u v w z = some z' ∧ RH z' 3 (courR r u v w) ∧ (∀ a, a ≠ 14 → a ≠ 15 → z' a = z a) ∧ ∀ j, j ≠ 3 → z' 14 j = z 14 j := by
  have hn := hP.1
  unfold IHn at hn
  obtain ⟨h1, h2, h3, h4, h5, h6, h7⟩ := hR
  have n18 : z 14 3 = r 619 := h6.1
  obtain ⟨x, ex, x1, x2, x3, x4⟩ := c_addRow2 (z := z) kT14 (by rw [n18]; exact ⟨by omega, h8⟩)
  rw [n18] at ex x1 x2
  have x2' : ∀ j, x 15 j = if r 619 * 3 ≤ j ∧ j < r 619 * 3 + 3 then 0 else z 15 j := x2
  have st : ∀ (y : ZZ) (c a : Int), y 14 3 = r 619 + 1 → 0 ≤ c ∧ c < 3 → fX4_set 14 (r 619) c a y = some (zup y 15 (r 619 * 3 + c) a) := fun y c a hy hc => set_ok kT14 (by rw [hy]; omega) (by rw [hy]; show r 619 + 1 ≤ 8; omega) (show 0 ≤ c ∧ c < 3 from hc)
  have t0 := st x 0 u x1 (by omega)
  have t1 := st (zup x 15 (r 619 * 3 + 0) u) 1 v (by rw [zup_ne (by decide)]; exact x1) (by omega)
  have t2 := st (zup (zup x 15 (r 619 * 3 + 0) u) 15 (r 619 * 3 + 1) v) 2 w (by rw [zup_ne (by decide), zup_ne (by decide)]; exact x1) (by omega)
  generalize hy : zup (zup (zup x 15 (r 619 * 3 + 0) u) 15 (r 619 * 3 + 1) v) 15 (r 619 * 3 + 2) w = y at t2
  have yo : ∀ a, a ≠ 14 → a ≠ 15 → y a = z a := fun a p q => by rw [← hy, zup_ne q, zup_ne q, zup_ne q, x3 a p q]
  have y18 : y 14 3 = r 619 + 1 := by rw [← hy, zup_ne (by decide), zup_ne (by decide), zup_ne (by decide), x1]
  have y19 : ∀ j, y 15 j = if j = r 619 * 3 + 2 then w else if j = r 619 * 3 + 1 then v else if j = r 619 * 3 + 0 then u else if r 619 * 3 ≤ j ∧ j < r 619 * 3 + 3 then 0 else z 15 j := fun j => by rw [← hy, zup_at, zup_at, zup_at, x2']
  obtain ⟨n4, m0, m1, m2⟩ := courR_n (r := r) (u := u) (v := v) (w := w) (by omega)
  have eX : ∀ i, i < 619 ∨ 644 ≤ i → courR r u v w i = r i := fun i hi => courR_o (by omega) (by omega)
  refine ⟨y, ?_, ⟨TL_k h1 (yo _ (by decide) (by decide)) (yo _ (by decide) (by decide)) (eX _ (by omega)) (fun j a c => eX _ (by omega)), TL_k h2 (yo _ (by decide) (by decide)) (yo _ (by decide) (by decide)) (eX _ (by omega)) (fun j a c => eX _ (by omega)), TL_k h3 (yo _ (by decide) (by decide)) (yo _ (by decide) (by decide)) (eX _ (by omega)) (fun j a c => eX _ (by omega)), TH_k h4 (yo _ (by decide) (by decide)) (yo _ (by decide) (by decide)) (eX _ (by omega)) (fun j a c => eX _ (by omega)), TL_k h5 (yo _ (by decide) (by decide)) (yo _ (by decide) (by decide)) (eX _ (by omega)) (fun j a c => eX _ (by omega)), TL_add h6 (by rw [n18]; exact y18) n4 (fun j a c => ?_) (fun j a c => courR_o (by omega) (by omega)) (fun c a d => ?_), ?_⟩, yo, fun j p => by rw [← hy, zup_ne (by decide), zup_ne (by decide), zup_ne (by decide), x4 j p]⟩
  · simp only [fX1_addCourse, ex, Option.bind_some, t0, t1, t2]
  · show y 15 j = z 15 j
    rw [y19, if_neg (by omega), if_neg (by omega), if_neg (by omega), if_neg (by omega)]
  · show y 15 _ = _
    rw [y19]
    by_cases c2 : c = 2
    · subst c2; rw [if_pos (by omega), m2]
    · rw [if_neg (by omega)]
      by_cases c1 : c = 1
      · subst c1; rw [if_pos (by omega), m1]
      · have c0 : c = 0 := by omega
        subst c0
        rw [if_neg (by omega), if_pos (by omega), m0]
  · rw [yo 3 (by decide) (by decide), eX 3 (by omega), eX 0 (by omega), eX 1 (by omega), eX 2 (by omega)]
    exact h7
theorem E_memb (hR : RH z 3 r) (hP : PR r) (h8 : r 546 < 12) : ∃ z', fX1_addMember 3 u v z = some z' ∧ RH z' 3 (membR r u v) ∧ (∀ a, a ≠ 12 → a ≠ 13 → z' a = z a) ∧ ∀ j, j ≠ 3 → z' 12 j = z 12 j := by
  have hn := hP.1
  unfold IHn at hn
  obtain ⟨h1, h2, h3, h4, h5, h6, h7⟩ := hR
  have n18 : z 12 3 = r 546 := h5.1
  obtain ⟨x, ex, x1, x2, x3, x4⟩ := c_addRow2 (z := z) kT12 (by rw [n18]; exact ⟨by omega, h8⟩)
  rw [n18] at ex x1 x2
  have x2' : ∀ j, x 13 j = if r 546 * 6 ≤ j ∧ j < r 546 * 6 + 6 then 0 else z 13 j := x2
  have st : ∀ (y : ZZ) (c a : Int), y 12 3 = r 546 + 1 → 0 ≤ c ∧ c < 6 → fX4_set 12 (r 546) c a y = some (zup y 13 (r 546 * 6 + c) a) := fun y c a hy hc => set_ok kT12 (by rw [hy]; omega) (by rw [hy]; show r 546 + 1 ≤ 12; omega) (show 0 ≤ c ∧ c < 6 from hc)
  have t0 := st x 0 u x1 (by omega)
  have t1 := st (zup x 13 (r 546 * 6 + 0) u) 1 v (by rw [zup_ne (by decide)]; exact x1) (by omega)
  have t2 := st (zup (zup x 13 (r 546 * 6 + 0) u) 13 (r 546 * 6 + 1) v) 3 (-1) (by rw [zup_ne (by decide), zup_ne (by decide)]; exact x1) (by omega)
  have t3 := st (zup (zup (zup x 13 (r 546 * 6 + 0) u) 13 (r 546 * 6 + 1) v) 13 (r 546 * 6 + 3) (-1)) 4 (-1) (by rw [zup_ne (by decide), zup_ne (by decide), zup_ne (by decide)]; exact x1) (by omega)
  generalize hy : zup (zup (zup (zup x 13 (r 546 * 6 + 0) u) 13 (r 546 * 6 + 1) v) 13 (r 546 * 6 + 3) (-1)) 13 (r 546 * 6 + 4) (-1) = y at t3
  have yo : ∀ a, a ≠ 12 → a ≠ 13 → y a = z a := fun a p q => by rw [← hy, zup_ne q, zup_ne q, zup_ne q, zup_ne q, x3 a p q]
  have y18 : y 12 3 = r 546 + 1 := by rw [← hy, zup_ne (by decide), zup_ne (by decide), zup_ne (by decide), zup_ne (by decide), x1]
  have y19 : ∀ j, y 13 j = if j = r 546 * 6 + 4 then -1 else if j = r 546 * 6 + 3 then -1 else if j = r 546 * 6 + 1 then v else if j = r 546 * 6 + 0 then u else if r 546 * 6 ≤ j ∧ j < r 546 * 6 + 6 then 0 else z 13 j := fun j => by rw [← hy, zup_at, zup_at, zup_at, zup_at, x2']
  obtain ⟨n4, m0, m1, m2, m3, m4, m5⟩ := membR_n (r := r) (u := u) (v := v) (by omega)
  have eX : ∀ i, i < 546 ∨ 619 ≤ i → membR r u v i = r i := fun i hi => membR_o (by omega) (by omega)
  refine ⟨y, ?_, ⟨TL_k h1 (yo _ (by decide) (by decide)) (yo _ (by decide) (by decide)) (eX _ (by omega)) (fun j a c => eX _ (by omega)), TL_k h2 (yo _ (by decide) (by decide)) (yo _ (by decide) (by decide)) (eX _ (by omega)) (fun j a c => eX _ (by omega)), TL_k h3 (yo _ (by decide) (by decide)) (yo _ (by decide) (by decide)) (eX _ (by omega)) (fun j a c => eX _ (by omega)), TH_k h4 (yo _ (by decide) (by decide)) (yo _ (by decide) (by decide)) (eX _ (by omega)) (fun j a c => eX _ (by omega)), TL_add h5 (by rw [n18]; exact y18) n4 (fun j a c => ?_) (fun j a c => membR_o (by omega) (by omega)) (fun c a d => ?_), TL_k h6 (yo _ (by decide) (by decide)) (yo _ (by decide) (by decide)) (eX _ (by omega)) (fun j a c => eX _ (by omega)), ?_⟩, yo, fun j p => by rw [← hy, zup_ne (by decide), zup_ne (by decide), zup_ne (by decide), zup_ne (by decide), x4 j p]⟩
  · simp only [fX1_addMember, ex, Option.bind_some, t0, t1, t2, t3]
  · show y 13 j = z 13 j
    rw [y19, if_neg (by omega), if_neg (by omega), if_neg (by omega), if_neg (by omega), if_neg (by omega)]
  · show y 13 _ = _
    rw [y19]
    by_cases c4 : c = 4
    · subst c4; rw [if_pos (by omega), m4]
    · rw [if_neg (by omega)]
      by_cases c3 : c = 3
      · subst c3; rw [if_pos (by omega), m3]
      · rw [if_neg (by omega)]
        by_cases c1 : c = 1
        · subst c1; rw [if_pos (by omega), m1]
        · rw [if_neg (by omega)]
          by_cases c0 : c = 0
          · subst c0; rw [if_pos (by omega), m0]
          · rw [if_neg (by omega), if_pos (by omega)]
            by_cases c2 : c = 2
            · subst c2; rw [m2]
            · have c5 : c = 5 := by omega
              subst c5
              rw [m5]
  · rw [yo 3 (by decide) (by decide), eX 3 (by omega), eX 0 (by omega), eX 1 (by omega), eX 2 (by omega)]
    exact h7
theorem E_harn (hR : RH z 3 r) (hP : PR r) (h8 : r 470 < 15) : ∃ z', fX1_addHarness 3 u v z = some z' ∧ RH z' 3 (harnR r u v) ∧ (∀ a, a ≠ 10 → a ≠ 11 → z' a = z a) ∧ ∀ j, j ≠ 3 → z' 10 j = z 10 j := by
  have hn := hP.1
  unfold IHn at hn
  obtain ⟨h1, h2, h3, h4, h5, h6, h7⟩ := hR
  have n18 : z 10 3 = r 470 := h4.1
  obtain ⟨x, ex, x1, x2, x3, x4⟩ := c_addRow2 (z := z) kT10 (by rw [n18]; exact ⟨by omega, h8⟩)
  rw [n18] at ex x1 x2
  have x2' : ∀ j, x 11 j = if r 470 * 4 ≤ j ∧ j < r 470 * 4 + 4 then 0 else z 11 j := x2
  have st : ∀ (y : ZZ) (c a : Int), y 10 3 = r 470 + 1 → 0 ≤ c ∧ c < 4 → fX4_set 10 (r 470) c a y = some (zup y 11 (r 470 * 4 + c) a) := fun y c a hy hc => set_ok kT10 (by rw [hy]; omega) (by rw [hy]; show r 470 + 1 ≤ 15; omega) (show 0 ≤ c ∧ c < 4 from hc)
  have t0 := st x 0 u x1 (by omega)
  have t1 := st (zup x 11 (r 470 * 4 + 0) u) 1 v (by rw [zup_ne (by decide)]; exact x1) (by omega)
  generalize hy : zup (zup x 11 (r 470 * 4 + 0) u) 11 (r 470 * 4 + 1) v = y at t1
  have yo : ∀ a, a ≠ 10 → a ≠ 11 → y a = z a := fun a p q => by rw [← hy, zup_ne q, zup_ne q, x3 a p q]
  have y18 : y 10 3 = r 470 + 1 := by rw [← hy, zup_ne (by decide), zup_ne (by decide), x1]
  have y19 : ∀ j, y 11 j = if j = r 470 * 4 + 1 then v else if j = r 470 * 4 + 0 then u else if r 470 * 4 ≤ j ∧ j < r 470 * 4 + 4 then 0 else z 11 j := fun j => by rw [← hy, zup_at, zup_at, x2']
  obtain ⟨n4, m0, m1, m2, m3, m4⟩ := harnR_n (r := r) (u := u) (v := v) (by omega)
  have eX : ∀ i, i < 470 ∨ 546 ≤ i → harnR r u v i = r i := fun i hi => harnR_o (by omega) (by omega)
  refine ⟨y, ?_, ⟨TL_k h1 (yo _ (by decide) (by decide)) (yo _ (by decide) (by decide)) (eX _ (by omega)) (fun j a c => eX _ (by omega)), TL_k h2 (yo _ (by decide) (by decide)) (yo _ (by decide) (by decide)) (eX _ (by omega)) (fun j a c => eX _ (by omega)), TL_k h3 (yo _ (by decide) (by decide)) (yo _ (by decide) (by decide)) (eX _ (by omega)) (fun j a c => eX _ (by omega)), ⟨by rw [n4]; exact y18, fun k c a d e f => ?_⟩, TL_k h5 (yo _ (by decide) (by decide)) (yo _ (by decide) (by decide)) (eX _ (by omega)) (fun j a c => eX _ (by omega)), TL_k h6 (yo _ (by decide) (by decide)) (yo _ (by decide) (by decide)) (eX _ (by omega)) (fun j a c => eX _ (by omega)), ?_⟩, yo, fun j p => by rw [← hy, zup_ne (by decide), zup_ne (by decide), x4 j p]⟩
  · simp only [fX1_addHarness, ex, Option.bind_some, t0, t1]
  · rw [n4] at d
    show y 11 _ = _
    rw [y19]
    by_cases ek : k = r 470
    · subst ek
      by_cases c1 : c = 1
      · subst c1; rw [if_pos rfl, m1]
      · rw [if_neg (by omega)]
        by_cases c0 : c = 0
        · subst c0; rw [if_pos rfl, m0]
        · rw [if_neg (by omega), if_pos (by omega)]
          by_cases c2 : c = 2
          · subst c2; rw [m2]
          · have c3 : c = 3 := by omega
            subst c3
            rw [m3]
    · rw [if_neg (by omega), if_neg (by omega), if_neg (by omega), harnR_o (by omega) (by omega)]
      exact h4.2 k c a (by omega) e f
  · rw [yo 3 (by decide) (by decide), eX 3 (by omega), eX 0 (by omega), eX 1 (by omega), eX 2 (by omega)]
    exact h7
end ER
def r00 : Row := rowS (plS.cn 0 0 0 0)
theorem R0_00 : R0 r00 := ⟨rfl, rfl, rfl, rfl, rfl, rfl, rfl, rfl, rfl, rfl⟩
def rI : Row := courR (membR (membR (harnR (harnR (wallR (wallR r00 12 0 7) 15 1 10) 1 30) 1 60) 1 0) 1 1) 1 4 5
theorem P1 : PR (wallR r00 12 0 7) := PR_wall (PR_0 R0_00) (by decide) (by decide) (by decide)
theorem P2 : PR (wallR (wallR r00 12 0 7) 15 1 10) := PR_wall P1 (by decide) (by decide) (by decide)
theorem P3 : PR (harnR (wallR (wallR r00 12 0 7) 15 1 10) 1 30) := PR_harn P2 (by decide) (by decide)
theorem P4 : PR (harnR (harnR (wallR (wallR r00 12 0 7) 15 1 10) 1 30) 1 60) := PR_harn P3 (by decide) (by decide)
theorem P5 : PR (membR (harnR (harnR (wallR (wallR r00 12 0 7) 15 1 10) 1 30) 1 60) 1 0) := PR_memb P4 (by decide) (by decide)
theorem P6 : PR (membR (membR (harnR (harnR (wallR (wallR r00 12 0 7) 15 1 10) 1 30) 1 60) 1 0) 1 1) := PR_memb P5 (by decide) (by decide)
theorem PI : PR rI := PR_cour P6 (by decide) (by decide) (by decide) (by decide)
section BG
variable {z : ZZ}
theorem fill_at {b e a : Nat} {k : Int} (h : b ≤ a ∧ a < e) : zfill z b e a k = zini (zSH z0 a).1 k := if_pos h
theorem fill_ne {b e a : Nat} (h : ¬ (b ≤ a ∧ a < e)) : zfill z b e a = z a := by
  funext k
  exact if_neg h
theorem fill_RH : RH (zfill z 0 151) 3 r00 := by
  refine ⟨⟨rfl, fun j a b => ?_⟩, ⟨rfl, fun j a b => ?_⟩, ⟨rfl, fun j a b => ?_⟩, ⟨rfl, fun k c a b => ?_⟩, ⟨rfl, fun j a b => ?_⟩, ⟨rfl, fun j a b => ?_⟩, rfl, rfl, rfl, rfl⟩
  · have : r00 4 = 0 := rfl
    omega
  · have : r00 37 = 0 := rfl
    omega
  · have : r00 644 = 0 := rfl
    omega
  · have : r00 470 = 0 := rfl
    omega
  · have : r00 546 = 0 := rfl
    omega
  · have : r00 619 = 0 := rfl
    omega
theorem b_cls : ∃ p, fX5_rest (zfill z 0 151) = some p ∧ RH p 3 rI ∧ (∀ a, a ≠ 4 → a ≠ 5 → ¬ (10 ≤ a ∧ a ≤ 15) → p a = zfill z 0 151 a) ∧ ∀ a, a = 4 ∨ a = 10 ∨ a = 12 ∨ a = 14 → ∀ j, j ≠ 3 → p a j = zfill z 0 151 a j := by
  obtain ⟨z1, e1, R1, f1, s1⟩ := E_wall (u := 12) (v := 0) (w := 7) (fill_RH (z := z)) (PR_0 R0_00) (by decide)
  obtain ⟨z2, e2, R2, f2, s2⟩ := E_wall (u := 15) (v := 1) (w := 10) R1 P1 (by decide)
  obtain ⟨z3, e3, R3, f3, s3⟩ := E_harn (u := 1) (v := 30) R2 P2 (by decide)
  obtain ⟨z4, e4, R4, f4, s4⟩ := E_harn (u := 1) (v := 60) R3 P3 (by decide)
  obtain ⟨z5, e5, R5, f5, s5⟩ := E_memb (u := 1) (v := 0) R4 P4 (by decide)
  obtain ⟨z6, e6, R6, f6, s6⟩ := E_memb (u := 1) (v := 1) R5 P5 (by decide)
  obtain ⟨z7, e7, R7, f7, s7⟩ := E_cour (u := 1) (v := 4) (w := 5) R6 P6 (by decide)
  refine ⟨z7, ?_, R7, fun a p q u => ?_, fun a h j p => ?_⟩
  · simp only [fX5_rest, e1, e2, e3, e4, e5, e6, e7, Option.bind_some]
  · rw [f7 a (by omega) (by omega), f6 a (by omega) (by omega), f5 a (by omega) (by omega), f4 a (by omega) (by omega), f3 a (by omega) (by omega), f2 a (by omega) (by omega), f1 a (by omega) (by omega)]
  · rcases h with rfl | rfl | rfl | rfl
    · rw [f7 4 (by decide) (by decide), f6 4 (by decide) (by decide), f5 4 (by decide) (by decide), f4 4 (by decide) (by decide), f3 4 (by decide) (by decide), s2 j p, s1 j p]
    · rw [f7 10 (by decide) (by decide), f6 10 (by decide) (by decide), f5 10 (by decide) (by decide), s4 j p, s3 j p, f2 10 (by decide) (by decide), f1 10 (by decide) (by decide)]
    · rw [f7 12 (by decide) (by decide), s6 j p, s5 j p, f4 12 (by decide) (by decide), f3 12 (by decide) (by decide), f2 12 (by decide) (by decide), f1 12 (by decide) (by decide)]
    · rw [s7 j p, f6 14 (by decide) (by decide), f5 14 (by decide) (by decide), f4 14 (by decide) (by decide), f3 14 (by decide) (by decide), f2 14 (by decide) (by decide), f1 14 (by decide) (by decide)]
theorem rI_plS : rI = rowS plS := by
  show courR (membR (membR (harnR (harnR (wallR (wallR (rowS (plS.cn 0 0 0 0)) (plS.w 0 0) (plS.w 0 1) (plS.w 0 2)) (plS.w (0 + 1) 0) (plS.w (0 + 1) 1) (plS.w (0 + 1) 2)) (plS.h 0 0) (plS.h 0 1)) (plS.h (0 + 1) 0) (plS.h (0 + 1) 1)) (plS.m 0 0) (plS.m 0 1)) (plS.m (0 + 1) 0) (plS.m (0 + 1) 1)) (plS.c 0 0) (plS.c 0 1) (plS.c 0 2) = _
  rw [row_wall (by decide), row_wall (by decide), row_harn (by decide), row_harn (by decide), row_memb (by decide), row_memb (by decide), row_cour (by decide)]
  rfl
theorem b_CH : ∃ p, fX5_rest (zfill z 0 151) = some p ∧ CH p (rowS plS) [] none ∧ p 16 1 = 0 := by
  obtain ⟨p, e, R, f, -⟩ := b_cls (z := z)
  have R2 : RH p 3 (rowS plS) := by rw [← rI_plS]; exact R
  have g : ∀ a k, 16 ≤ a → a < 151 → p a k = zini (zSH z0 a).1 k := fun a k h1 h2 => by
    rw [f a (by omega) (by omega) (by omega)]
    exact fill_at ⟨by omega, h2⟩
  have q1 : p 32 1 = 0 := (g 32 1 (by decide) (by decide)).trans (by decide +kernel)
  have q2 : p 32 2 = 0 := (g 32 2 (by decide) (by decide)).trans (by decide +kernel)
  have q4 : p 32 4 = 0 := (g 32 4 (by decide) (by decide)).trans (by decide +kernel)
  have q6 : p 16 1 = 0 := (g 16 1 (by decide) (by decide)).trans (by decide +kernel)
  exact ⟨p, e, ⟨RC_iff.mpr R2, by rw [q1]; rfl, by decide, by rw [q2]; decide, fun i hi => absurd hi (Nat.not_lt_zero i), fun _ => q4, fun s q => (by cases q), by rw [q6]; decide⟩, q6⟩
end BG

/-! setting a route -/
theorem TL_k {z z' : ZZ} {t : Nat} {r r' : Row} {n b s : Int} (h : TL z t r n b s) (e1 : z' t = z t) (e2 : z' (t + 1) = z (t + 1)) (e3 : r' n = r n) (e4 : ∀ j, 0 ≤ j → j < s * r n → r' (b + j) = r (b + j)) : TL z' t r' n b s := by
  refine ⟨by rw [e1, e3]; exact h.1, fun j a c => ?_⟩
  rw [e3] at c
  rw [e2, e4 j a c]
  exact h.2 j a c
theorem TH_k {z z' : ZZ} {t : Nat} {r r' : Row} (h : TH z t r) (e1 : z' t = z t) (e2 : z' (t + 1) = z (t + 1)) (e3 : r' 470 = r 470) (e4 : ∀ j, 0 ≤ j → j < 5 * r 470 → r' (471 + j) = r (471 + j)) : TH z' t r' := by
  refine ⟨by rw [e1, e3]; exact h.1, fun k c a b e f => ?_⟩
  rw [e3] at b
  rw [e2, show 471 + 5 * k + c = 471 + (5 * k + c) by omega, e4 (5 * k + c) (by omega) (by omega), h.2 k c a b e f]
  congr 1
  omega
section S46
variable {z z' : ZZ} {r r' : Row} {B : Int}
/-- routes and the archive alone have changed -/
theorem RC_46 (hR : RC z r) (hn : IHn B r) (hz : ∀ a, 3 ≤ a → a ≤ 15 → ¬ (6 ≤ a ∧ a ≤ 9) → z' a = z a) (hr : ∀ j, j < 37 ∨ (470 ≤ j ∧ j < 644) → r' j = r j) (h6 : TL z' 6 r' 37 38 18) (h8 : TL z' 8 r' 644 645 4) : RC z' r' := by
  unfold IHn at hn
  obtain ⟨h1, h2, h3, h4, h5, h6', h7⟩ := hR
  refine ⟨TL_k h1 (hz _ (by omega) (by omega) (by omega)) (hz _ (by omega) (by omega) (by omega)) (hr _ (by omega)) (fun j a b => hr _ (by omega)), h6, h8, TH_k h4 (hz _ (by omega) (by omega) (by omega)) (hz _ (by omega) (by omega) (by omega)) (hr _ (by omega)) (fun j a b => hr _ (by omega)), TL_k h5 (hz _ (by omega) (by omega) (by omega)) (hz _ (by omega) (by omega) (by omega)) (hr _ (by omega)) (fun j a b => hr _ (by omega)), TL_k h6' (hz _ (by omega) (by omega) (by omega)) (hz _ (by omega) (by omega) (by omega)) (hr _ (by omega)) (fun j a b => hr _ (by omega)), ?_⟩
  rw [hz 3 (by omega) (by omega) (by omega), hr 3 (by omega), hr 0 (by omega), hr 1 (by omega), hr 2 (by omega)]
  exact h7
theorem IH_46 (h : IH B r) (hr : ∀ j, j < 37 ∨ (470 ≤ j ∧ j < 644) → r' j = r j) (h37 : 0 ≤ r' 37 ∧ r' 37 ≤ 24) (h644 : 0 ≤ r' 644 ∧ r' 644 ≤ 30) (h6 : IHr B r') : IH B r' := by
  obtain ⟨hn, hw, -, hh, hm, hcc⟩ := h
  have hn' := hn
  unfold IHn at hn'
  have e4 : r' 4 = r 4 := hr _ (by omega)
  have e470 : r' 470 = r 470 := hr _ (by omega)
  have e546 : r' 546 = r 546 := hr _ (by omega)
  have e619 : r' 619 = r 619 := hr _ (by omega)
  refine ⟨?_, fun i a b => ?_, h6, fun i a b => ?_, fun i a b => ?_, fun i a b => ?_⟩
  · unfold IHn
    rw [e4, e470, e546, e619, hr 3 (by omega), hr 0 (by omega), hr 1 (by omega), hr 2 (by omega)]
    omega
  · rw [e4] at b
    rw [hr _ (by omega), hr _ (by omega), hr _ (by omega)]
    exact hw i a b
  · rw [e470] at b
    have q := hh i a b
    rw [e546, hr _ (by omega), hr _ (by omega), hr _ (by omega), hr _ (by omega)]
    refine ⟨q.1, q.2.1, q.2.2.1, q.2.2.2.1, q.2.2.2.2.trans ⟨?_, ?_⟩⟩
    · rintro ⟨m, x, y, w⟩
      exact ⟨m, x, y, by rw [hr _ (by omega)]; exact w⟩
    · rintro ⟨m, x, y, w⟩
      rw [hr _ (by omega)] at w
      exact ⟨m, x, y, w⟩
  · rw [e546] at b
    have q := hm i a b
    rw [e470, e546, e619, hr _ (by omega), hr _ (by omega), hr _ (by omega), hr _ (by omega), hr _ (by omega)]
    refine ⟨q.1, q.2.1, q.2.2.1, q.2.2.2.1, q.2.2.2.2.1, fun m x y => ?_⟩
    rw [hr _ (by omega)]
    exact q.2.2.2.2.2 m x y
  · rw [e619] at b
    rw [hr _ (by omega), hr _ (by omega), hr _ (by omega)]
    exact hcc i a b
end S46
/-- a row added to a table -/
theorem c_addRow {z : ZZ} {t : Nat} (ht : isT t) (hn : 0 ≤ z t 3 ∧ z t 3 < zMR t) : ∃ z', fX4_addRow t z = some (z t 3, z') ∧ z' t 3 = z t 3 + 1 ∧ (∀ j, z' (t + 1) j = if z t 3 * zCO t ≤ j ∧ j < z t 3 * zCO t + zCO t then 0 else z (t + 1) j) ∧ ∀ a, a ≠ t → a ≠ t + 1 → z' a = z a := by
  have hT := isT_all t ht.1 ht.2
  obtain ⟨o, eo, o1, o2, o3⟩ := lp_rel (step := fun q : Int × ZZ => fX4_addRow_s26 t (z t 3) q.1 q.2) (fun _ (a : Unit) => a) (fun i _ s => s.1 = i ∧ s.2 t 3 = z t 3 + 1 ∧ (∀ j, s.2 (t + 1) j = if z t 3 * zCO t ≤ j ∧ j < z t 3 * zCO t + i then 0 else z (t + 1) j) ∧ ∀ a, a ≠ t → a ≠ t + 1 → s.2 a = z a) (fun _ o => o t 3 = z t 3 + 1 ∧ (∀ j, o (t + 1) j = if z t 3 * zCO t ≤ j ∧ j < z t 3 * zCO t + zCO t then 0 else z (t + 1) j) ∧ ∀ a, a ≠ t → a ≠ t + 1 → o a = z a) (zCO t).toNat 0 () (0, zup z t 3 (z t 3 + 1)) FU (FU_lt (by omega)) ⟨rfl, by
      show zup _ _ _ _ t 3 = _
      rw [zup_at, if_pos rfl], fun j => by
      show zup _ _ _ _ (t + 1) j = _
      rw [zup_ne (by omega), if_neg (by omega)], fun a p q => by
      show zup _ _ _ _ a = _
      rw [zup_ne p]⟩ (fun i q s h1 h2 h => by
      obtain ⟨s1, s2⟩ := s
      obtain ⟨x1, x2, x3, x4⟩ := h
      dsimp only at x1 x2 x3 x4
      subst x1
      have k1 : s1 < zCO t := by omega
      have k2 : inR (s1 + 1) := inR_s (by omega)
      have s4 : fX4_set t (z t 3) s1 0 s2 = some (zup s2 (t + 1) (z t 3 * zCO t + s1) 0) := set_ok ht (by rw [x2]; omega) (by rw [x2]; omega) ⟨by omega, k1⟩
      refine ⟨(s1 + 1, zup s2 (t + 1) (z t 3 * zCO t + s1) 0), ?_, rfl, ?_, fun j => ?_, fun a p q => ?_⟩
      · simp only [fX4_addRow_s26, if_pos k1, s4, Option.bind_some, if_pos k2]
      · show zup _ _ _ _ t 3 = _
        rw [zup_ne (by omega)]
        exact x2
      · show zup _ _ _ _ (t + 1) j = _
        rw [zup_at, x3]
        generalize z t 3 * zCO t = b
        by_cases e : j = b + s1
        · rw [if_pos e, if_pos (by omega)]
        · rw [if_neg e]
          by_cases e2 : b ≤ j ∧ j < b + s1
          · rw [if_pos e2, if_pos (by omega)]
          · rw [if_neg e2, if_neg (by omega)]
      · show zup _ _ _ _ a = _
        rw [zup_ne q]
        exact x4 a p q) (fun q s h => by
      obtain ⟨s1, s2⟩ := s
      obtain ⟨x1, x2, x3, x4⟩ := h
      dsimp only at x1 x2 x3 x4
      have e1 : s1 = zCO t := by omega
      rw [show (0 : Int) + ((zCO t).toNat : Nat) = zCO t by omega] at x3
      refine ⟨s2, ?_, x2, x3, x4⟩
      dsimp only
      unfold fX4_addRow_s26
      rw [if_neg (by omega)])
  refine ⟨o, ?_, o1, o2, o3⟩
  unfold fX4_addRow fX4_isFull zl
  rw [if_pos hn.2]
  simp only [Option.bind_some, if_true]
  rw [if_pos (inR_s (by omega))]
  rw [eo]
  rfl
/-! the new route -/
def newR (r : Row) (w g : Int) : Row := fun j => if j = 37 then r 37 + 1 else if 38 + 18 * r 37 ≤ j ∧ j < 38 + 18 * r 37 + 18 then (if j = 38 + 18 * r 37 then w else if j = 38 + 18 * r 37 + 1 then g else if j = 38 + 18 * r 37 + 2 then r 3 else if j < 38 + 18 * r 37 + 6 then 0 else -1) else r j
section ST
variable {z : ZZ} {r : Row} {B v1 v2 : Int}
theorem newR_o {j : Int} (h37 : j ≠ 37) (h : ¬ (38 + 18 * r 37 ≤ j ∧ j < 38 + 18 * r 37 + 18)) : newR r v1 v2 j = r j := by
  unfold newR
  rw [if_neg h37, if_neg h]
theorem newR_n {c : Int} (h0 : 0 ≤ r 37) (h : 0 ≤ c ∧ c < 18) : newR r v1 v2 (38 + 18 * r 37 + c) = if c = 0 then v1 else if c = 1 then v2 else if c = 2 then r 3 else if c < 6 then 0 else -1 := by
  unfold newR
  rw [if_neg (by omega), if_pos (by omega)]
  by_cases e0 : c = 0
  · rw [if_pos (by omega), if_pos e0]
  · rw [if_neg (by omega), if_neg e0]
    by_cases e1 : c = 1
    · rw [if_pos (by omega), if_pos e1]
    · rw [if_neg (by omega), if_neg e1]
      by_cases e2 : c = 2
      · rw [if_pos (by omega), if_pos e2]
      · rw [if_neg (by omega), if_neg e2]
        by_cases e3 : c < 6
        · rw [if_pos (by omega), if_pos e3]
        · rw [if_neg (by omega), if_neg e3]
theorem newR_37 : newR r v1 v2 37 = r 37 + 1 := if_pos rfl
theorem IH_newR (hI : IH B r) (q1 : 0 ≤ v1 ∧ v1 < r 4) (q2 : 0 ≤ v2 ∧ v2 ≤ 29) (q3 : r 37 < 24) : IH B (newR r v1 v2) := by
  have hn := hI.1
  unfold IHn at hn
  refine IH_46 hI (fun j h => newR_o (by omega) (by omega)) (by rw [newR_37]; omega) (by rw [newR_o (by omega) (by omega)]; omega) (fun k a b => ?_)
  rw [newR_37] at b
  rw [newR_o (j := 4) (by omega) (by omega)]
  by_cases e : k = r 37
  · subst e
    rw [newR_n hn.2.2.1 (by omega), newR_n hn.2.2.1 (by omega), newR_n hn.2.2.1 (by omega), newR_n hn.2.2.1 (by omega), newR_n hn.2.2.1 (by omega)]
    refine ⟨q1, q2, by simp; omega, by simp; omega, by simp, fun m x y => ?_⟩
    rw [newR_n hn.2.2.1 (by omega), if_neg (by omega), if_neg (by omega), if_neg (by omega), if_neg (by omega)]
    omega
  · have hx := hI.2.2.1 k a (by omega)
    rw [newR_o (by omega) (by omega), newR_o (by omega) (by omega), newR_o (by omega) (by omega), newR_o (by omega) (by omega), newR_o (by omega) (by omega)]
    refine ⟨hx.1, hx.2.1, hx.2.2.1, hx.2.2.2.1, hx.2.2.2.2.1, fun m x y => ?_⟩
    rw [newR_o (by omega) (by omega)]
    exact hx.2.2.2.2.2 m x y
theorem c_addRoute (hR : RC z r) (hI : IH B r) (q3 : r 37 < 24) : ∃ z', fX1_addRoute v1 v2 z = some (r 37, z') ∧ RC z' (newR r v1 v2) ∧ ∀ a, a ≠ 6 → a ≠ 7 → z' a = z a := by
  have hn := hI.1
  unfold IHn at hn
  obtain ⟨y, ey, y1, y2, y3⟩ := c_addRow (z := z) kT6 (by rw [(RCn hR).2.1]; exact ⟨hn.2.2.1, q3⟩)
  rw [(RCn hR).2.1] at ey y1 y2
  have y2' : ∀ j, y 7 j = if r 37 * 18 ≤ j ∧ j < r 37 * 18 + 18 then 0 else z 7 j := y2
  have s1 : ∀ (x : ZZ) (c v : Int), x 6 3 = r 37 + 1 → 0 ≤ c ∧ c < 18 → fX4_set 6 (r 37) c v x = some (zup x 7 (r 37 * 18 + c) v) := fun x c v hx hc => set_ok kT6 (by rw [hx]; omega) (by rw [hx]; show r 37 + 1 ≤ 24; omega) (show 0 ≤ c ∧ c < 18 from hc)
  have d3 : zup (zup y 7 (r 37 * 18 + 0) v1) 7 (r 37 * 18 + 1) v2 3 7 = r 3 := by
    rw [zup_ne (by decide), zup_ne (by decide), y3 3 (by decide) (by decide), (RCn hR).2.2.2.2.2.2.1]
  generalize hx : zup (zup (zup y 7 (r 37 * 18 + 0) v1) 7 (r 37 * 18 + 1) v2) 7 (r 37 * 18 + 2) (r 3) = x
  have x6 : x 6 3 = r 37 + 1 := by rw [← hx, zup_ne (by decide), zup_ne (by decide), zup_ne (by decide), y1]
  have xo : ∀ a, a ≠ 6 → a ≠ 7 → x a = z a := fun a p q => by rw [← hx, zup_ne q, zup_ne q, zup_ne q, y3 a p q]
  have x7 : ∀ j, x 7 j = if j = r 37 * 18 + 2 then r 3 else if j = r 37 * 18 + 1 then v2 else if j = r 37 * 18 + 0 then v1 else if r 37 * 18 ≤ j ∧ j < r 37 * 18 + 18 then 0 else z 7 j := fun j => by rw [← hx, zup_at, zup_at, zup_at, y2']
  obtain ⟨o, eo, o1, o2, o3⟩ := lp_rel (step := fun q : Int × ZZ => fX1_addRoute_s44 (r 37) q.1 q.2) (fun _ (a : Unit) => a) (fun i _ s => s.1 = i ∧ s.2 6 3 = r 37 + 1 ∧ (∀ j, s.2 7 j = if r 37 * 18 + 6 ≤ j ∧ j < r 37 * 18 + 6 + i then -1 else x 7 j) ∧ ∀ a, a ≠ 7 → s.2 a = x a) (fun _ o => o 6 3 = r 37 + 1 ∧ (∀ j, o 7 j = if r 37 * 18 + 6 ≤ j ∧ j < r 37 * 18 + 18 then -1 else x 7 j) ∧ ∀ a, a ≠ 7 → o a = x a) 12 0 () (0, x) FU (FU_lt (by omega)) ⟨rfl, x6, fun j => by rw [if_neg (by omega)], fun a p => rfl⟩ (fun i q s h1 h2 h => by
      obtain ⟨w1, w2⟩ := s
      obtain ⟨p1, p2, p3, p4⟩ := h
      dsimp only at p1 p2 p3 p4
      subst p1
      have k1 : w1 < 12 := by omega
      have k2 : inR (w1 + 1) := inR_s (by omega)
      have k3 : inR (6 + w1) := inR_s (by omega)
      refine ⟨(w1 + 1, zup w2 7 (r 37 * 18 + (6 + w1)) (-1)), ?_, rfl, ?_, fun j => ?_, fun a p => ?_⟩
      · simp only [fX1_addRoute_s44, if_pos k1, if_pos k3, s1 w2 (6 + w1) (-1) p2 (by omega), Option.bind_some, if_pos k2]
      · dsimp only
        rw [zup_ne (by decide)]
        exact p2
      · show zup _ _ _ _ 7 j = _
        rw [zup_at, p3]
        by_cases e : j = r 37 * 18 + (6 + w1)
        · rw [if_pos e, if_pos (by omega)]
        · rw [if_neg e]
          by_cases e2 : r 37 * 18 + 6 ≤ j ∧ j < r 37 * 18 + 6 + w1
          · rw [if_pos e2, if_pos (by omega)]
          · rw [if_neg e2, if_neg (by omega)]
      · show zup _ _ _ _ a = _
        rw [zup_ne p]
        exact p4 a p) (fun q s h => by
      obtain ⟨w1, w2⟩ := s
      obtain ⟨p1, p2, p3, p4⟩ := h
      dsimp only at p1 p2 p3 p4
      refine ⟨w2, ?_, p2, fun j => ?_, p4⟩
      · dsimp only
        unfold fX1_addRoute_s44
        rw [if_neg (by omega)]
      · rw [p3]
        by_cases e2 : r 37 * 18 + 6 ≤ j ∧ j < r 37 * 18 + 18
        · rw [if_pos e2, if_pos (by omega)]
        · rw [if_neg e2, if_neg (by omega)])
  refine ⟨o, ?_, ?_, fun a p q => (o3 a q).trans (xo a p q)⟩
  · unfold fX1_addRoute
    rw [ey]
    simp only [Option.bind_some]
    rw [s1 y 0 v1 y1 (by omega)]
    simp only [Option.bind_some]
    rw [s1 _ 1 v2 (by rw [zup_ne (by decide)]; exact y1) (by omega)]
    simp only [Option.bind_some]
    rw [d3, s1 _ 2 _ (by rw [zup_ne (by decide), zup_ne (by decide)]; exact y1) (by omega)]
    simp only [Option.bind_some]
    rw [hx, eo]
    rfl
  · refine RC_46 hR hI.1 (fun a p q w => (o3 a (by omega)).trans (xo a (by omega) (by omega))) (fun j h => newR_o (by omega) (by omega)) ⟨by rw [newR_37]; exact o1, fun j a b => ?_⟩ ?_
    · rw [newR_37] at b
      show o 7 j = _
      rw [o2, x7]
      by_cases e : j < 18 * r 37
      · rw [newR_o (by omega) (by omega), if_neg (by omega), if_neg (by omega), if_neg (by omega), if_neg (by omega), if_neg (by omega)]
        exact hR.2.1.2 j a e
      · rw [show 38 + j = 38 + 18 * r 37 + (j - 18 * r 37) by omega, newR_n hn.2.2.1 (by omega)]
        by_cases e6 : r 37 * 18 + 6 ≤ j ∧ j < r 37 * 18 + 18
        · rw [if_pos e6, if_neg (by omega), if_neg (by omega), if_neg (by omega), if_neg (by omega)]
        · rw [if_neg e6]
          by_cases c2 : j = r 37 * 18 + 2
          · rw [if_pos c2, if_neg (by omega), if_neg (by omega), if_pos (by omega)]
          · rw [if_neg c2]
            by_cases c1 : j = r 37 * 18 + 1
            · rw [if_pos c1, if_neg (by omega), if_pos (by omega)]
            · rw [if_neg c1]
              by_cases c0 : j = r 37 * 18 + 0
              · rw [if_pos c0, if_pos (by omega)]
              · rw [if_neg c0, if_pos (by omega), if_neg (by omega), if_neg (by omega), if_neg (by omega), if_pos (by omega)]
    · refine TL_k hR.2.2.1 ((o3 8 (by omega)).trans (xo 8 (by omega) (by omega))) ((o3 9 (by omega)).trans (xo 9 (by omega) (by omega))) (newR_o (by omega) (by omega)) (fun j a b => newR_o (by omega) (by omega))
theorem g_setRoute (hI : IH B r) (q1 : 0 ≤ v1 ∧ v1 < r 4) (q2 : 0 ≤ v2 ∧ v2 ≤ 29) (q3 : ¬ sClosed r v1) (q4 : sCnt (r 37) (fun k => r (38 + 18 * k + 0) = v1) < 5) (q5 : r 37 < 24) : ∃ r' v, Chg r r' v (fL_setRoute v1 v2) (fX6_setRoute v1 v2) ∧ IH B r' := by
  have hn := hI.1
  unfold IHn at hn
  refine ⟨newR r v1 v2, r 37, ⟨fun z hR hu hl => ?_, fun z hM h8 => ?_⟩, IH_newR hI q1 q2 q5⟩
  · obtain ⟨z1, e1, R1, w1⟩ := c_rem hR hI hu hl
    obtain ⟨z2, e2, R2, f2⟩ := c_addRoute (v1 := v1) (v2 := v2) R1 hI q5
    have ef : fX4_isFull 6 z = some 0 := by
      unfold fX4_isFull
      rw [(RCn hR).2.1, if_pos (show r 37 < zMR 6 from q5)]
    refine ⟨zup z2 159 0 (r 37), ?_, ?_, Qt_RC Qt_159 R2, w1 _ (fun a p1 p2 p3 p4 p5 => ?_)⟩
    · simp only [fL_setRoute, fX5_setRoute, n_row, n_btw, (RCn hR).1, if_pos q1, if_pos q2, Option.bind_some, c_isClosed hR hI q1, ite_bI, if_neg q3, c_routesOn hR hI, if_pos q4, ef, if_true, e1, e2]
    · rw [zup_at, if_pos rfl]
    · rw [zup_ne p3, f2 a (by omega) (by omega)]
  · have hM1 := zup_154 (e := 0) hM
    obtain ⟨z1, e1, r1, w1⟩ := m_rec hM h8 (FM_rf _)
    have m37 : zup z 151 0 0 154 37 = r 37 := by rw [hM1]
    have n37 : z1 154 37 = r 37 := by rw [r1]
    have u : ∀ c, 0 ≤ c ∧ c < 18 → (0 : Int) ≤ 38 + 18 * r 37 + c ∧ 38 + 18 * r 37 + c < 765 := fun c hc => by omega
    have d3 : zup (zup z1 154 (38 + 18 * r 37 + 0) v1) 154 (38 + 18 * r 37 + 1) v2 154 3 = r 3 := by
      rw [zup_at, if_neg (by omega), zup_at, if_neg (by omega), r1]
    generalize hx : zup (zup (zup (zup (zup (zup z1 154 (38 + 18 * r 37 + 0) v1) 154 (38 + 18 * r 37 + 1) v2) 154 (38 + 18 * r 37 + 2) (r 3)) 154 (38 + 18 * r 37 + 3) 0) 154 (38 + 18 * r 37 + 4) 0) 154 (38 + 18 * r 37 + 5) 0 = x
    have xo : ∀ a, a ≠ 154 → x a = z1 a := fun a p => by rw [← hx, zup_ne p, zup_ne p, zup_ne p, zup_ne p, zup_ne p, zup_ne p]
    have xe : ∀ j, x 154 j = if j = 38 + 18 * r 37 + 5 then 0 else if j = 38 + 18 * r 37 + 4 then 0 else if j = 38 + 18 * r 37 + 3 then 0 else if j = 38 + 18 * r 37 + 2 then r 3 else if j = 38 + 18 * r 37 + 1 then v2 else if j = 38 + 18 * r 37 + 0 then v1 else r j := fun j => by rw [← hx, zup_at, zup_at, zup_at, zup_at, zup_at, zup_at, r1]
    obtain ⟨o, eo, o1, o2⟩ := lp_rel (step := fun q : Int × ZZ => fX6_setRoute_s156 (38 + 18 * r 37) q.1 q.2) (fun _ (a : Unit) => a) (fun i _ s => s.1 = i ∧ (∀ j, s.2 154 j = if 38 + 18 * r 37 + 6 ≤ j ∧ j < 38 + 18 * r 37 + 6 + i then -1 else x 154 j) ∧ ∀ a, a ≠ 154 → s.2 a = x a) (fun _ o => (∀ j, o 154 j = if 38 + 18 * r 37 + 6 ≤ j ∧ j < 38 + 18 * r 37 + 18 then -1 else x 154 j) ∧ ∀ a, a ≠ 154 → o a = x a) 12 0 () (0, x) FU (FU_lt (by omega)) ⟨rfl, fun j => by rw [if_neg (by omega)], fun a p => rfl⟩ (fun i q s h1 h2 h => by
        obtain ⟨w1, w2⟩ := s
        obtain ⟨p1, p3, p4⟩ := h
        dsimp only at p1 p3 p4
        subst p1
        have k1 : w1 < 12 := by omega
        have k2 : inR (w1 + 1) := inR_s (by omega)
        have k3 : (0 : Int) ≤ 38 + 18 * r 37 + 6 + w1 ∧ 38 + 18 * r 37 + 6 + w1 < 765 := by omega
        refine ⟨(w1 + 1, zup w2 154 (38 + 18 * r 37 + 6 + w1) (-1)), ?_, rfl, fun j => ?_, fun a p => ?_⟩
        · simp only [fX6_setRoute_s156, zl, if_pos k1, if_pos k3, if_pos k2]
        · show zup _ _ _ _ 154 j = _
          rw [zup_at, p3]
          by_cases e : j = 38 + 18 * r 37 + 6 + w1
          · rw [if_pos e, if_pos (by omega)]
          · rw [if_neg e]
            by_cases e2 : 38 + 18 * r 37 + 6 ≤ j ∧ j < 38 + 18 * r 37 + 6 + w1
            · rw [if_pos e2, if_pos (by omega)]
            · rw [if_neg e2, if_neg (by omega)]
        · show zup _ _ _ _ a = _
          rw [zup_ne p]
          exact p4 a p) (fun q s h => by
        obtain ⟨w1, w2⟩ := s
        obtain ⟨p1, p3, p4⟩ := h
        dsimp only at p1 p3 p4
        refine ⟨w2, ?_, fun j => ?_, p4⟩
        · dsimp only
          unfold fX6_setRoute_s156
          rw [if_neg (by omega)]
        · rw [p3]
          by_cases e2 : 38 + 18 * r 37 + 6 ≤ j ∧ j < 38 + 18 * r 37 + 18
          · rw [if_pos e2, if_pos (by omega)]
          · rw [if_neg e2, if_neg (by omega)])
    have o37 : o 154 37 = r 37 := by
      rw [o1, if_neg (by omega), xe, if_neg (by omega), if_neg (by omega), if_neg (by omega), if_neg (by omega), if_neg (by omega), if_neg (by omega)]
    have i1 : inR (38 + 18 * r 37) := inR_s (by omega)
    have i2 : inR (r 37 + 1) := inR_s (by omega)
    have i3 : inR (r 37 + 1 - 1) := inR_s (by omega)
    have ze : zup o 154 37 (r 37 + 1) 154 37 = r 37 + 1 := by rw [zup_at, if_pos rfl]
    refine ⟨zup o 154 37 (r 37 + 1), ?_, ?_, w1 _ (fun a p1 p2 p3 p4 => by rw [zup_ne p2, o2 a p2, xo a p2]) (fun j p1 p2 p3 => by rw [zup_ne (by decide), o2 151 (by decide), xo 151 (by decide)])⟩
    · simp only [fX6_setRoute, fX6_setRoute_b67, zl, mi_wall hM1 hI, mi_grade, m_failsb, m_fails1, if_pos q1, if_pos q2, if_true, Option.bind_some, m_isClosed hM1 hI q1, ite_bI, if_neg q3, m_onWall hM1 hI, if_pos q4, m37, if_pos q5, e1, n37, if_pos (u 0 (by omega)), if_pos (u 1 (by omega)), if_pos (u 2 (by omega)), if_pos (u 3 (by omega)), if_pos (u 4 (by omega)), if_pos (u 5 (by omega)), d3, hx, if_pos i1, eo, o37, if_pos i2, ze, if_pos i3]
      rw [show r 37 + 1 - 1 = r 37 by omega]
    · funext j
      rw [zup_at, o1, xe]
      unfold newR
      by_cases e37 : j = 37
      · rw [if_pos e37, if_pos e37]
      · rw [if_neg e37, if_neg e37]
        by_cases e : 38 + 18 * r 37 ≤ j ∧ j < 38 + 18 * r 37 + 18
        · rw [if_pos e]
          by_cases e6 : 38 + 18 * r 37 + 6 ≤ j ∧ j < 38 + 18 * r 37 + 18
          · rw [if_pos e6, if_neg (by omega), if_neg (by omega), if_neg (by omega), if_neg (by omega)]
          · rw [if_neg e6]
            have hc : j = 38 + 18 * r 37 + 0 ∨ j = 38 + 18 * r 37 + 1 ∨ j = 38 + 18 * r 37 + 2 ∨ j = 38 + 18 * r 37 + 3 ∨ j = 38 + 18 * r 37 + 4 ∨ j = 38 + 18 * r 37 + 5 := by omega
            rcases hc with h | h | h | h | h | h
            · rw [if_neg (by omega), if_neg (by omega), if_neg (by omega), if_neg (by omega), if_neg (by omega), if_pos (by omega), if_pos (by omega)]
            · rw [if_neg (by omega), if_neg (by omega), if_neg (by omega), if_neg (by omega), if_pos (by omega), if_neg (by omega), if_pos (by omega)]
            · rw [if_neg (by omega), if_neg (by omega), if_neg (by omega), if_pos (by omega), if_neg (by omega), if_neg (by omega), if_pos (by omega)]
            · rw [if_neg (by omega), if_neg (by omega), if_pos (by omega), if_neg (by omega), if_neg (by omega), if_neg (by omega), if_pos (by omega)]
            · rw [if_neg (by omega), if_pos (by omega), if_neg (by omega), if_neg (by omega), if_neg (by omega), if_pos (by omega)]
            · rw [if_pos (by omega), if_neg (by omega), if_neg (by omega), if_neg (by omega), if_pos (by omega)]
        · rw [if_neg e, if_neg (by omega), if_neg (by omega), if_neg (by omega), if_neg (by omega), if_neg (by omega), if_neg (by omega), if_neg (by omega)]
theorem k_setRoute (hI : IH B r) (hB : B ≤ 900000) (v1 v2 : Int) : (∃ r' v, Chg r r' v (fL_setRoute v1 v2) (fX6_setRoute v1 v2) ∧ IH (B + 60) r') ∨ Ask r (fL_setRoute v1 v2) (fX6_setRoute v1 v2) := by
  have hn := hI.1
  unfold IHn at hn
  by_cases q1 : 0 ≤ v1 ∧ v1 < r 4
  · by_cases q2 : 0 ≤ v2 ∧ v2 ≤ 29
    · by_cases q3 : sClosed r v1
      · refine Or.inr ?_
        refine ask_er 3 (by decide) (fun z hR => ⟨z, ?_, fun _ _ => rfl⟩) (fun z hM => ⟨0, zup z 151 0 0, ?_, FM_rf _⟩)
        · simp only [fL_setRoute, fX5_setRoute, n_row, n_btw, RCn hR, if_pos q1, if_pos q2, Option.bind_some, if_true, c_isClosed hR hI q1, ite_bI, if_pos q3] <;> rfl
        · have hM1 := zup_154 (e := 0) hM
          simp only [fX6_setRoute, fX6_setRoute_b66, fX6_setRoute_b67, zl, mi_wall hM1 hI, mi_grade, m_failsb, m_fails0, if_pos q1, if_pos q2, if_true, Option.bind_some, m_isClosed hM1 hI q1, ite_bI, if_pos q3] <;> rfl
      · by_cases q4 : sCnt (r 37) (fun k => r (38 + 18 * k + 0) = v1) < 5
        · by_cases q5 : r 37 < 24
          · obtain ⟨r', v, h1, h2⟩ := g_setRoute hI q1 q2 q3 q4 q5
            exact Or.inl ⟨r', v, h1, IH_mono h2 (by omega) (by omega)⟩
          · refine Or.inr ?_
            refine ask_er 3 (by decide) (fun z hR => ⟨z, ?_, fun _ _ => rfl⟩) (fun z hM => ⟨0, zup z 151 0 0, ?_, FM_rf _⟩)
            · have ef : fX4_isFull 6 z = some 1 := by
                unfold fX4_isFull
                rw [(RCn hR).2.1, if_neg (show ¬ r 37 < zMR 6 from q5)]
              simp only [fL_setRoute, fX5_setRoute, fX5_setRoute_b64, n_row, n_btw, RCn hR, if_pos q1, if_pos q2, Option.bind_some, if_true, c_isClosed hR hI q1, ite_bI, if_neg q3, c_routesOn hR hI, if_pos q4, ef] <;> rfl
            · have hM1 := zup_154 (e := 0) hM
              have m37 : zup z 151 0 0 154 37 = r 37 := by rw [hM1]
              simp only [fX6_setRoute, fX6_setRoute_b66, fX6_setRoute_b67, zl, mi_wall hM1 hI, mi_grade, m_failsb, m_fails0, if_pos q1, if_pos q2, if_true, Option.bind_some, m_isClosed hM1 hI q1, ite_bI, if_neg q3, m_onWall hM1 hI, if_pos q4, m37, if_neg q5] <;> rfl
        · refine Or.inr ?_
          refine ask_er 3 (by decide) (fun z hR => ⟨z, ?_, fun _ _ => rfl⟩) (fun z hM => ⟨0, zup z 151 0 0, ?_, FM_rf _⟩)
          · simp only [fL_setRoute, fX5_setRoute, fX5_setRoute_b64, n_row, n_btw, RCn hR, if_pos q1, if_pos q2, Option.bind_some, if_true, c_isClosed hR hI q1, ite_bI, if_neg q3, c_routesOn hR hI, if_neg q4] <;> rfl
          · have hM1 := zup_154 (e := 0) hM
            simp only [fX6_setRoute, fX6_setRoute_b66, fX6_setRoute_b67, zl, mi_wall hM1 hI, mi_grade, m_failsb, m_fails0, if_pos q1, if_pos q2, if_true, Option.bind_some, m_isClosed hM1 hI q1, ite_bI, if_neg q3, m_onWall hM1 hI, if_neg q4] <;> rfl
    · refine Or.inr ?_
      refine ask_er 2 (by decide) (fun z hR => ⟨z, ?_, fun _ _ => rfl⟩) (fun z hM => ⟨0, zup z 151 0 0, ?_, FM_rf _⟩)
      · simp only [fL_setRoute, fX5_setRoute, n_row, n_btw, RCn hR, if_pos q1, if_neg q2, Option.bind_some, if_true] <;> rfl
      · have hM1 := zup_154 (e := 0) hM
        simp only [fX6_setRoute, zl, mi_wall hM1 hI, mi_grade, m_failsb, if_pos q1, if_neg q2, if_true, Option.bind_some] <;> rfl
  · refine Or.inr ?_
    refine ask_er 1 (by decide) (fun z hR => ⟨z, ?_, fun _ _ => rfl⟩) (fun z hM => ⟨0, zup z 151 0 0, ?_, FM_rf _⟩)
    · simp only [fL_setRoute, fX5_setRoute, n_row, n_btw, RCn hR, if_neg q1, Option.bind_some, if_true] <;> rfl
    · have hM1 := zup_154 (e := 0) hM
      simp only [fX6_setRoute, zl, mi_wall hM1 hI, m_failsb, if_neg q1, if_true, Option.bind_some] <;> rfl
theorem w_c4 {v : Int} {ln : Nat} (hV : INV B z) (hB : B ≤ 900000) (h5 : 0 ≤ v ∧ v + 5 < ln) : ∃ z', fL_c4 ln v z = some (1, z') ∧ INV (B + 60) z' ∧ z' 1000000 = z 1000000 := by
  obtain ⟨z', e, f⟩ := w_of hV hB (k_setRoute hV.2.1 hB (z 1000000 (v + 1)) (z 1000000 (v + 2))) (M := fun y => fX6_setRoute (y 1000000 (v + 1)) (y 1000000 (v + 2)) y) (fun y hy => by rw [hy])
  refine ⟨z', ?_, f⟩
  unfold fL_c4
  rw [if_pos (by omega), if_pos (by omega)]
  exact e
end ST

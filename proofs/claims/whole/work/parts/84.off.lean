/-! a route goes to the archive -/
theorem c_removeRow {z : ZZ} {t : Nat} {k : Int} (ht : isT t) (hk : 0 ≤ k ∧ k < z t 3) (hm : z t 3 ≤ zMR t) : ∃ z', fX4_removeRow t k z = some z' ∧ z' t 3 = z t 3 - 1 ∧ (∀ j, z' (t + 1) j = if k * zCO t ≤ j ∧ j + zCO t < (zTS t : Int) then z (t + 1) (j + zCO t) else z (t + 1) j) ∧ ∀ a, a ≠ t → a ≠ t + 1 → z' a = z a := by
  have hT := isT_all t ht.1 ht.2
  have h1 : 0 ≤ k * zCO t := Int.mul_nonneg hk.1 hT.2.2.2.2.2.1
  have h2 : k * zCO t + zCO t ≤ (zTS t : Int) := by
    have : (k + 1) * zCO t ≤ zMR t * zCO t := Int.mul_le_mul_of_nonneg_right (by omega) hT.2.2.2.2.2.1
    rw [Int.add_mul, Int.one_mul, hT.2.2.2.2.2.2.2] at this
    exact this
  generalize hb : k * zCO t = b at *
  obtain ⟨o, eo, o1, o2⟩ := lp_rel (step := fun q : Int × ZZ => fX4_removeRow_s16 t q.1 q.2) (fun _ (a : Unit) => a) (fun i _ s => s.1 = i ∧ (∀ j, s.2 (t + 1) j = if b ≤ j ∧ j < i then z (t + 1) (j + zCO t) else z (t + 1) j) ∧ ∀ a, a ≠ t + 1 → s.2 a = z a) (fun _ o => (∀ j, o (t + 1) j = if b ≤ j ∧ j + zCO t < (zTS t : Int) then z (t + 1) (j + zCO t) else z (t + 1) j) ∧ ∀ a, a ≠ t + 1 → o a = z a) ((zTS t : Int) - zCO t - b).toNat b () (b, z) FU (FU_lt (by omega)) ⟨rfl, fun j => by rw [if_neg (by omega)], fun _ _ => rfl⟩ (fun i q s g1 g2 h => by
      obtain ⟨s1, s2⟩ := s
      obtain ⟨x1, x3, x4⟩ := h
      dsimp only at x1 x3 x4
      subst x1
      have k1 : inR (s1 + zCO t) := inR_s (by omega)
      have k2 : s1 + zCO t < (zTS t : Int) := by omega
      have k3 : (0 : Int) ≤ s1 + zCO t ∧ s1 + zCO t < (zTS t : Int) := by omega
      have k4 : (0 : Int) ≤ s1 ∧ s1 < (zTS t : Int) := by omega
      have k5 : inR (s1 + 1) := inR_s (by omega)
      have ev : s2 (t + 1) (s1 + zCO t) = z (t + 1) (s1 + zCO t) := by rw [x3, if_neg (by omega)]
      refine ⟨(s1 + 1, zup s2 (t + 1) s1 (z (t + 1) (s1 + zCO t))), ?_, rfl, fun j => ?_, fun a p => ?_⟩
      · simp only [fX4_removeRow_s16, zl, if_pos k1, if_pos k2, if_pos k3, if_pos k4, ev, if_pos k5]
      · show zup _ _ _ _ (t + 1) j = _
        rw [zup_at, x3]
        by_cases e : j = s1
        · rw [if_pos e, if_pos (by omega), e]
        · rw [if_neg e]
          by_cases e2 : b ≤ j ∧ j < s1
          · rw [if_pos e2, if_pos (by omega)]
          · rw [if_neg e2, if_neg (by omega)]
      · show zup _ _ _ _ a = _
        rw [zup_ne p]
        exact x4 a p) (fun q s h => by
      obtain ⟨s1, s2⟩ := s
      obtain ⟨x1, x3, x4⟩ := h
      dsimp only at x1 x3 x4
      have k1 : inR (s1 + zCO t) := inR_s (by omega)
      refine ⟨s2, ?_, fun j => ?_, x4⟩
      · dsimp only
        unfold fX4_removeRow_s16
        rw [if_pos k1, if_neg (by omega)]
      · rw [x3]
        by_cases e2 : b ≤ j ∧ j + zCO t < (zTS t : Int)
        · rw [if_pos e2, if_pos (by omega)]
        · rw [if_neg e2, if_neg (by omega)])
  have ot : o t 3 = z t 3 := by rw [o2 t (by omega)]
  refine ⟨zup o t 3 (z t 3 - 1), ?_, by rw [zup_at, if_pos rfl], fun j => by rw [zup_ne (by omega)]; exact o1 j, fun a p q => by rw [zup_ne p]; exact o2 a q⟩
  have e1 : fX4_hasRow t k z = some 1 := by
    unfold fX4_hasRow
    rw [if_neg (by omega), if_pos hk.2]
  unfold fX4_removeRow zl
  rw [e1]
  simp only [Option.bind_some]
  rw [if_neg (by decide), hb, if_pos (inR_s (by omega)), eo]
  simp only [Option.bind_some]
  rw [ot, if_pos (inR_s (by omega))]
/-! the row behind it -/
def arA (r : Row) : Row := if r 644 = 30 then (fun j => if j = 644 then 29 else if 645 ≤ j ∧ j < 761 then r (j + 4) else r j) else r
def arB (r : Row) (k g : Int) : Row := fun j => if j = 644 then arA r 644 + 1 else if j = 645 + 4 * arA r 644 + 3 then r (38 + 18 * k + 4) else if j = 645 + 4 * arA r 644 + 2 then r 3 else if j = 645 + 4 * arA r 644 + 1 then g else if j = 645 + 4 * arA r 644 + 0 then r (38 + 18 * k + 0) else arA r j
def offR (r : Row) (k : Int) : Row := fun j => if j = 37 then r 37 - 1 else if 38 + 18 * k ≤ j ∧ j < 38 + 18 * (r 37 - 1) then r (j + 18) else arB r k (sGr r k) j
theorem arA_o {r : Row} {j : Int} (h : j < 644) : arA r j = r j := by
  unfold arA
  split
  · dsimp only
    rw [if_neg (by omega), if_neg (by omega)]
  · rfl
theorem arA_n {r : Row} (h : 0 ≤ r 644 ∧ r 644 ≤ 30) : 0 ≤ arA r 644 ∧ arA r 644 < 30 := by
  by_cases q : r 644 = 30
  · have e : arA r 644 = 29 := by
      unfold arA
      rw [if_pos q]
      rfl
    omega
  · have e : arA r = r := if_neg q
    rw [e]
    omega
section OF
variable {z : ZZ} {r : Row} {B k g : Int}
theorem offR_o {j : Int} (h4 : 0 ≤ arA r 644) (hk : 0 ≤ k) (h : j < 37 ∨ (470 ≤ j ∧ j < 644)) (h3 : r 37 ≤ 24) : offR r k j = r j := by
  unfold offR arB
  rw [if_neg (by omega), if_neg (by omega), if_neg (by omega), if_neg (by omega), if_neg (by omega), if_neg (by omega), if_neg (by omega), arA_o (by omega)]
theorem offR_c {k' c : Int} (hI : IH B r) (hk : 0 ≤ k) (h : 0 ≤ k' ∧ k' < r 37 - 1) (hc : 0 ≤ c ∧ c < 18) : offR r k (38 + 18 * k' + c) = r (38 + 18 * (if k ≤ k' then k' + 1 else k') + c) := by
  have hn := hI.1
  unfold IHn at hn
  have ha := arA_n (r := r) (by omega)
  unfold offR
  rw [if_neg (by omega)]
  by_cases e : k ≤ k'
  · rw [if_pos (by omega), if_pos e]
    congr 1
    omega
  · rw [if_neg (by omega), if_neg e]
    unfold arB
    rw [if_neg (by omega), if_neg (by omega), if_neg (by omega), if_neg (by omega), if_neg (by omega), arA_o (by omega)]
theorem offR_37 : offR r k 37 = r 37 - 1 := if_pos rfl
theorem offR_644 (h3 : r 37 ≤ 24) : offR r k 644 = arA r 644 + 1 := by
  unfold offR arB
  rw [if_neg (by omega), if_neg (by omega), if_pos rfl]
theorem IH_off (hI : IH B r) (hk : 0 ≤ k ∧ k < r 37) : IH B (offR r k) := by
  have hn := hI.1
  unfold IHn at hn
  have ha := arA_n (r := r) (by omega)
  refine IH_46 hI (fun j h => offR_o ha.1 hk.1 h (by omega)) (by rw [offR_37]; omega) (by rw [offR_644 (by omega)]; omega) (fun i a b => ?_)
  rw [offR_37] at b
  have hx := hI.2.2.1 (if k ≤ i then i + 1 else i) (by split <;> omega) (by split <;> omega)
  rw [offR_c hI hk.1 ⟨a, b⟩ (by omega), offR_c hI hk.1 ⟨a, b⟩ (by omega), offR_c hI hk.1 ⟨a, b⟩ (by omega), offR_c hI hk.1 ⟨a, b⟩ (by omega), offR_c hI hk.1 ⟨a, b⟩ (by omega), offR_o ha.1 hk.1 (by omega) (by omega)]
  refine ⟨hx.1, hx.2.1, hx.2.2.1, hx.2.2.2.1, hx.2.2.2.2.1, fun m x y => ?_⟩
  rw [offR_c hI hk.1 ⟨a, b⟩ (by omega)]
  exact hx.2.2.2.2.2 m x y
theorem IH_arA (hI : IH B r) : IH B (arA r) := by
  have hn := hI.1
  unfold IHn at hn
  have ha := arA_n (r := r) (by omega)
  refine IH_46 hI (fun j h => arA_o (by omega)) (by rw [arA_o (by omega)]; omega) (by omega) (fun i a b => ?_)
  rw [arA_o (by omega)] at b
  have hx := hI.2.2.1 i a b
  rw [arA_o (by omega), arA_o (by omega), arA_o (by omega), arA_o (by omega), arA_o (by omega), arA_o (by omega)]
  refine ⟨hx.1, hx.2.1, hx.2.2.1, hx.2.2.2.1, hx.2.2.2.2.1, fun m x y => ?_⟩
  rw [arA_o (by omega)]
  exact hx.2.2.2.2.2 m x y
/-- the class makes room in the archive -/
theorem c_room (hR : RC z r) (hI : IH B r) : ∃ y, (if r 644 < 30 then some z else fX4_removeRow 8 0 z) = some y ∧ RC y (arA r) ∧ ∀ a, a ≠ 8 → a ≠ 9 → y a = z a := by
  have hn := hI.1
  unfold IHn at hn
  by_cases q : r 644 = 30
  · obtain ⟨y, ey, y1, y2, y3⟩ := c_removeRow (z := z) (k := 0) kT8 (by rw [(RCn hR).2.2.1]; omega) (by rw [(RCn hR).2.2.1]; show r 644 ≤ 30; omega)
    have eA : arA r = fun j => if j = 644 then 29 else if 645 ≤ j ∧ j < 761 then r (j + 4) else r j := if_pos q
    refine ⟨y, by rw [if_neg (by omega)]; exact ey, ?_, y3⟩
    refine RC_46 hR hI.1 (fun a p w x => y3 a (by omega) (by omega)) (fun j h => arA_o (by omega)) (TL_k hR.2.1 (y3 6 (by omega) (by omega)) (y3 7 (by omega) (by omega)) (arA_o (by omega)) (fun j a b => arA_o (by omega))) ⟨?_, fun j a b => ?_⟩
    · rw [y1, (RCn hR).2.2.1, q, eA]
      rfl
    · have e29 : arA r 644 = 29 := by rw [eA]; rfl
      rw [e29] at b
      have y2' : y 9 j = if 0 * 4 ≤ j ∧ j + 4 < 120 then z 9 (j + 4) else z 9 j := y2 j
      show y 9 j = _
      rw [y2', if_pos (by omega), eA]
      show _ = if 645 + j = 644 then 29 else if 645 ≤ 645 + j ∧ 645 + j < 761 then r (645 + j + 4) else r (645 + j)
      rw [if_neg (by omega), if_pos (by omega), show z 9 (j + 4) = r (645 + (j + 4)) from hR.2.2.1.2 (j + 4) (by omega) (by omega)]
      congr 1
      omega
  · exact ⟨z, by rw [if_pos (by omega)], by rw [show arA r = r from if_neg q]; exact hR, fun _ _ _ => rfl⟩
theorem c_archive (hR : RC z r) (hI : IH B r) (hk : 0 ≤ k ∧ k < r 37) : ∃ z', fX1_archiveRoute k z = some (sGr r k, z') ∧ RC z' (offR r k) ∧ ∀ a, a ≠ 1 → a ≠ 2 → ¬ (6 ≤ a ∧ a ≤ 9) → z' a = z a := by
  have hn := hI.1
  unfold IHn at hn
  have ha := arA_n (r := r) (by omega)
  obtain ⟨z1, e1, f1⟩ := c_gradeOf hR hI hk
  have R1 := RC_12 hR f1
  obtain ⟨y, ey, R2, f2⟩ := c_room R1 hI
  have I2 := IH_arA hI
  have n8 := (RCn R2).2.2.1
  have n6 := (RCn R2).2.1
  rw [arA_o (by omega)] at n6
  have n3 := (RCn R2).2.2.2.2.2.2.1
  rw [arA_o (by omega)] at n3
  obtain ⟨x, ex, x1, x2, x3⟩ := c_addRow (z := y) kT8 (by rw [n8]; exact ha)
  rw [n8] at ex x1 x2
  have x2' : ∀ j, x 9 j = if arA r 644 * 4 ≤ j ∧ j < arA r 644 * 4 + 4 then 0 else y 9 j := x2
  have r7 : ∀ j, 0 ≤ j → j < 18 * r 37 → y 7 j = r (38 + j) := fun j a b => by
    rw [show y 7 j = arA r (38 + j) from R2.2.1.2 j a (by rw [arA_o (by omega)]; exact b), arA_o (by omega)]
  have g6 : ∀ (w : ZZ) (c : Int), w 6 = y 6 → w 7 = y 7 → 0 ≤ c ∧ c < 18 → fX4_get 6 k c w = some (r (38 + 18 * k + c)) := fun w c h6 h7 hc => by
    rw [get_ok kT6 (by rw [h6, n6]; exact hk) (by rw [h6, n6]; show r 37 ≤ 24; omega) (show 0 ≤ c ∧ c < 18 from hc)]
    show some (w 7 (k * 18 + c)) = _
    rw [h7, r7 _ (by omega) (by omega)]
    congr 2
    omega
  have s8 : ∀ (w : ZZ) (c v : Int), w 8 3 = arA r 644 + 1 → 0 ≤ c ∧ c < 4 → fX4_set 8 (arA r 644) c v w = some (zup w 9 (arA r 644 * 4 + c) v) := fun w c v h8 hc => set_ok kT8 (by rw [h8]; omega) (by rw [h8]; show arA r 644 + 1 ≤ 30; omega) (show 0 ≤ c ∧ c < 4 from hc)
  have g0 := g6 x 0 (x3 6 (by omega) (by omega)) (x3 7 (by omega) (by omega)) (by omega)
  have t0 := s8 x 0 (r (38 + 18 * k + 0)) x1 (by omega)
  have t1 := s8 (zup x 9 (arA r 644 * 4 + 0) (r (38 + 18 * k + 0))) 1 (sGr r k) (by rw [zup_ne (by decide)]; exact x1) (by omega)
  have d3 : zup (zup x 9 (arA r 644 * 4 + 0) (r (38 + 18 * k + 0))) 9 (arA r 644 * 4 + 1) (sGr r k) 3 7 = r 3 := by
    rw [zup_ne (by decide), zup_ne (by decide), x3 3 (by omega) (by omega), n3]
  have t2 := s8 (zup (zup x 9 (arA r 644 * 4 + 0) (r (38 + 18 * k + 0))) 9 (arA r 644 * 4 + 1) (sGr r k)) 2 (r 3) (by rw [zup_ne (by decide), zup_ne (by decide)]; exact x1) (by omega)
  have g4 := g6 (zup (zup (zup x 9 (arA r 644 * 4 + 0) (r (38 + 18 * k + 0))) 9 (arA r 644 * 4 + 1) (sGr r k)) 9 (arA r 644 * 4 + 2) (r 3)) 4 (by rw [zup_ne (by decide), zup_ne (by decide), zup_ne (by decide)]; exact x3 6 (by omega) (by omega)) (by rw [zup_ne (by decide), zup_ne (by decide), zup_ne (by decide)]; exact x3 7 (by omega) (by omega)) (by omega)
  have t3 := s8 (zup (zup (zup x 9 (arA r 644 * 4 + 0) (r (38 + 18 * k + 0))) 9 (arA r 644 * 4 + 1) (sGr r k)) 9 (arA r 644 * 4 + 2) (r 3)) 3 (r (38 + 18 * k + 4)) (by rw [zup_ne (by decide), zup_ne (by decide), zup_ne (by decide)]; exact x1) (by omega)
  generalize hw : zup (zup (zup (zup x 9 (arA r 644 * 4 + 0) (r (38 + 18 * k + 0))) 9 (arA r 644 * 4 + 1) (sGr r k)) 9 (arA r 644 * 4 + 2) (r 3)) 9 (arA r 644 * 4 + 3) (r (38 + 18 * k + 4)) = w at t3
  have wo : ∀ a, a ≠ 8 → a ≠ 9 → w a = y a := fun a p q => by rw [← hw, zup_ne q, zup_ne q, zup_ne q, zup_ne q, x3 a p q]
  have w8 : w 8 3 = arA r 644 + 1 := by rw [← hw, zup_ne (by decide), zup_ne (by decide), zup_ne (by decide), zup_ne (by decide), x1]
  have w9 : ∀ j, w 9 j = if j = arA r 644 * 4 + 3 then r (38 + 18 * k + 4) else if j = arA r 644 * 4 + 2 then r 3 else if j = arA r 644 * 4 + 1 then sGr r k else if j = arA r 644 * 4 + 0 then r (38 + 18 * k + 0) else if arA r 644 * 4 ≤ j ∧ j < arA r 644 * 4 + 4 then 0 else y 9 j := fun j => by rw [← hw, zup_at, zup_at, zup_at, zup_at, x2']
  have w6 : w 6 3 = r 37 := by rw [wo 6 (by omega) (by omega), n6]
  obtain ⟨v, ev, v1, v2, v3⟩ := c_removeRow (z := w) (k := k) kT6 (by rw [w6]; exact hk) (by rw [w6]; show r 37 ≤ 24; omega)
  rw [w6] at v1
  have v2' : ∀ j, v 7 j = if k * 18 ≤ j ∧ j + 18 < 432 then w 7 (j + 18) else w 7 j := v2
  have b24 : fX1_archiveRoute_b24 k (sGr r k) y = some (sGr r k, v) := by
    simp only [fX1_archiveRoute_b24, ex, Option.bind_some, g0, t0, t1, d3, t2, g4, t3, ev]
  refine ⟨v, ?_, ?_, fun a p q u => ?_⟩
  · unfold fX1_archiveRoute fX4_isFull
    rw [e1]
    simp only [Option.bind_some]
    have n81 := (RCn R1).2.2.1
    by_cases q : r 644 < 30
    · rw [if_pos q] at ey
      cases ey
      rw [if_pos (show z1 8 3 < zMR 8 by rw [n81]; exact q)]
      simp only [Option.bind_some, if_true]
      exact b24
    · rw [if_neg q] at ey
      rw [if_neg (show ¬ z1 8 3 < zMR 8 by rw [n81]; exact q)]
      simp only [Option.bind_some]
      rw [if_neg (by decide), ey]
      simp only [Option.bind_some]
      exact b24
  · refine RC_46 R2 I2.1 (fun a p q u => (v3 a (by omega) (by omega)).trans (wo a (by omega) (by omega))) (fun j h => by rw [offR_o ha.1 hk.1 h (by omega), arA_o (by omega)]) ⟨by rw [offR_37]; exact v1, fun j a b => ?_⟩ ⟨?_, fun j a b => ?_⟩
    · rw [offR_37] at b
      show v 7 j = _
      rw [v2', wo 7 (by omega) (by omega)]
      unfold offR
      by_cases e : k * 18 ≤ j
      · rw [if_pos ⟨e, by omega⟩, if_neg (by omega), if_pos (by omega), r7 _ (by omega) (by omega)]
        congr 1
        omega
      · rw [if_neg (fun x => e x.1), if_neg (by omega), if_neg (by omega), r7 _ (by omega) (by omega)]
        unfold arB
        rw [if_neg (by omega), if_neg (by omega), if_neg (by omega), if_neg (by omega), if_neg (by omega), arA_o (by omega)]
    · rw [offR_644 (by omega), v3 8 (by omega) (by omega), w8]
    · rw [offR_644 (by omega)] at b
      show v 9 j = _
      rw [v3 9 (by omega) (by omega), w9]
      unfold offR arB
      have g1 : ¬ 645 + j = 37 := by omega
      have g2 : ¬ (38 + 18 * k ≤ 645 + j ∧ 645 + j < 38 + 18 * (r 37 - 1)) := by omega
      have g3 : ¬ 645 + j = 644 := by omega
      by_cases c3 : j = arA r 644 * 4 + 3
      · rw [if_pos c3, if_neg g1, if_neg g2, if_neg g3, if_pos (by omega)]
      · rw [if_neg c3, if_neg g1, if_neg g2, if_neg g3]
        by_cases c2 : j = arA r 644 * 4 + 2
        · rw [if_pos c2, if_neg (by omega), if_pos (by omega)]
        · rw [if_neg c2]
          by_cases c1 : j = arA r 644 * 4 + 1
          · rw [if_pos c1, if_neg (by omega), if_neg (by omega), if_pos (by omega)]
          · rw [if_neg c1]
            by_cases c0 : j = arA r 644 * 4 + 0
            · rw [if_pos c0, if_neg (by omega), if_neg (by omega), if_neg (by omega), if_pos (by omega)]
            · rw [if_neg c0, if_neg (by omega), if_neg (by omega), if_neg (by omega), if_neg (by omega), if_neg (by omega)]
              exact R2.2.2.1.2 j a (by omega)
  · rw [v3 a (by omega) (by omega), wo a (by omega) (by omega), f2 a (by omega) (by omega), f1 a (by omega)]
/-- what the model's moves leave -/
def FN (z z' : ZZ) : Prop := (∀ a, a ≠ 151 → a ≠ 154 → a ≠ 157 → z' a = z a) ∧ ∀ j, j ≠ 16 → j ≠ 17 → j ≠ 18 → z' 151 j = z 151 j
theorem FN_rf (z : ZZ) : FN z z := ⟨fun _ _ _ _ => rfl, fun _ _ _ _ => rfl⟩
theorem FN_tr {z z' z'' : ZZ} (h : FN z z') (h2 : FN z' z'') : FN z z'' := ⟨fun a p q w => (h2.1 a p q w).trans (h.1 a p q w), fun j p q w => (h2.2 j p q w).trans (h.2 j p q w)⟩
theorem FN_154 {z : ZZ} {i v : Int} : FN z (zup z 154 i v) := ⟨fun a _ q _ => zup_ne q, fun j _ _ _ => by rw [zup_ne (by decide)]⟩
theorem FN_FM {z z' : ZZ} (h : FM z z') : FN z z' := ⟨fun a p _ w => h.1 a p w, h.2⟩
theorem FN_o {z z' : ZZ} (h : ∀ a, a ≠ 154 → z' a = z a) : FN z z' := ⟨fun a _ q _ => h a q, fun j _ _ _ => by rw [h 151 (by decide)]⟩
theorem m_room (hM : z 154 = r) (hI : IH B r) : ∃ y, fX6_archive k z = fX6_archive_b56 k y ∧ y 154 = arA r ∧ ∀ a, a ≠ 154 → y a = z a := by
  have hn := hI.1
  unfold IHn at hn
  by_cases q : r 644 = 30
  · obtain ⟨o, eo, o1, o2⟩ := lp_rel (step := fun q : Int × ZZ => fX6_archive_s17 k q.1 q.2) (fun _ (a : Unit) => a) (fun i _ s => s.1 = i ∧ (∀ j, s.2 154 j = if 645 ≤ j ∧ j < i then r (j + 4) else r j) ∧ ∀ a, a ≠ 154 → s.2 a = z a) (fun _ o => (∀ j, o 154 j = if 645 ≤ j ∧ j < 761 then r (j + 4) else r j) ∧ ∀ a, a ≠ 154 → o a = z a) 116 645 () (645, z) FU (FU_lt (by omega)) ⟨rfl, fun j => (by show z 154 j = _; rw [if_neg (by omega), hM]), fun a p => rfl⟩ (fun i q s h1 h2 h => by
        obtain ⟨w1, w2⟩ := s
        obtain ⟨p1, p3, p4⟩ := h
        dsimp only at p1 p3 p4
        subst p1
        have k1 : w1 < 761 := by omega
        have k2 : inR (w1 + 1) := inR_s (by omega)
        have k3 : (0 : Int) ≤ w1 + 4 ∧ w1 + 4 < 765 := by omega
        have k4 : (0 : Int) ≤ w1 ∧ w1 < 765 := by omega
        have ev : w2 154 (w1 + 4) = r (w1 + 4) := by rw [p3, if_neg (by omega)]
        refine ⟨(w1 + 1, zup w2 154 w1 (r (w1 + 4))), ?_, rfl, fun j => ?_, fun a p => ?_⟩
        · simp only [fX6_archive_s17, zl, if_pos k1, if_pos k3, if_pos k4, ev, if_pos k2]
        · show zup _ _ _ _ 154 j = _
          rw [zup_at, p3]
          by_cases e : j = w1
          · rw [if_pos e, if_pos (by omega), e]
          · rw [if_neg e]
            by_cases e2 : 645 ≤ j ∧ j < w1
            · rw [if_pos e2, if_pos (by omega)]
            · rw [if_neg e2, if_neg (by omega)]
        · show zup _ _ _ _ a = _
          rw [zup_ne p]
          exact p4 a p) (fun q s h => by
        obtain ⟨w1, w2⟩ := s
        obtain ⟨p1, p3, p4⟩ := h
        dsimp only at p1 p3 p4
        refine ⟨w2, ?_, fun j => ?_, p4⟩
        · dsimp only
          unfold fX6_archive_s17
          rw [if_neg (by omega)]
        · rw [p3]
          by_cases e2 : 645 ≤ j ∧ j < 761
          · rw [if_pos e2, if_pos (by omega)]
          · rw [if_neg e2, if_neg (by omega)])
    have o644 : o 154 644 = 30 := by rw [o1, if_neg (by omega), q]
    refine ⟨zup o 154 644 29, ?_, ?_, fun a p => by rw [zup_ne p, o2 a p]⟩
    · unfold fX6_archive zl
      rw [hM, if_pos q, eo]
      simp only [Option.bind_some]
      rw [o644, if_pos (inR_s (by omega))]
      rfl
    · rw [show arA r = fun j => if j = 644 then 29 else if 645 ≤ j ∧ j < 761 then r (j + 4) else r j from if_pos q]
      funext j
      rw [zup_at, o1]
  · refine ⟨z, ?_, by rw [show arA r = r from if_neg q]; exact hM, fun _ _ => rfl⟩
    unfold fX6_archive
    rw [hM, if_neg q]
theorem m_archive (hM : z 154 = r) (hI : IH B r) (hk : 0 ≤ k ∧ k < r 37) : ∃ z', fX6_archive k z = some z' ∧ z' 154 = arB r k (sGr r k) ∧ FN z z' := by
  have hn := hI.1
  unfold IHn at hn
  have ha := arA_n (r := r) (by omega)
  obtain ⟨y, ey, y1, y2⟩ := m_room (k := k) hM hI
  have I2 := IH_arA hI
  have y644 : y 154 644 = arA r 644 := by rw [y1]
  generalize hN : arA r 644 = n at *
  have u : ∀ c, 0 ≤ c ∧ c < 4 → (0 : Int) ≤ 645 + 4 * n + c ∧ 645 + 4 * n + c < 765 := fun c hc => by omega
  have u0 : (0 : Int) ≤ 645 + 4 * n ∧ 645 + 4 * n < 765 := by omega
  have g0 : fX6_routePart k 0 y = some (r (38 + 18 * k + 0)) := by rw [mg6 y1 (by omega), arA_o (by omega)]
  have r1 : zup y 154 (645 + 4 * n) (r (38 + 18 * k + 0)) 154 = rup (arA r) (645 + 4 * n) (r (38 + 18 * k + 0)) := by
    funext j
    rw [zup_at, y1]
    rfl
  have I3 : IH B (rup (arA r) (645 + 4 * n) (r (38 + 18 * k + 0))) := by
    refine IH_46 I2 (fun j h => rup_ne (by omega)) (by rw [rup_ne (by omega), arA_o (by omega)]; omega) (by rw [rup_ne (by omega), hN]; omega) (fun i a b => ?_)
    rw [rup_ne (by omega), arA_o (by omega)] at b
    have hx := hI.2.2.1 i a b
    rw [rup_ne (by omega), rup_ne (by omega), rup_ne (by omega), rup_ne (by omega), rup_ne (by omega), rup_ne (by omega), arA_o (by omega), arA_o (by omega), arA_o (by omega), arA_o (by omega), arA_o (by omega), arA_o (by omega)]
    refine ⟨hx.1, hx.2.1, hx.2.2.1, hx.2.2.2.1, hx.2.2.2.2.1, fun m x y => ?_⟩
    rw [rup_ne (by omega), arA_o (by omega)]
    exact hx.2.2.2.2.2 m x y
  obtain ⟨x, ex, fx⟩ := m_gradeOf r1 I3 (k := k) (by rw [rup_ne (by omega), arA_o (by omega)]; exact hk)
  have eg : sGr (rup (arA r) (645 + 4 * n) (r (38 + 18 * k + 0))) k = sGr r k := sG_congr (by rw [rup_ne (by omega), arA_o (by omega)]) (by rw [rup_ne (by omega), arA_o (by omega)]) (by rw [rup_ne (by omega), arA_o (by omega)]) (by rw [rup_ne (by omega), arA_o (by omega)]) (fun m a b => by rw [rup_ne (by omega), arA_o (by omega)])
  rw [eg] at ex
  have x154 : x 154 = rup (arA r) (645 + 4 * n) (r (38 + 18 * k + 0)) := FM_154 fx r1
  have d3 : zup x 154 (645 + 4 * n + 1) (sGr r k) 154 3 = r 3 := by rw [zup_at, if_neg (by omega), x154, rup_ne (by omega), arA_o (by omega)]
  have g4 : fX6_routePart k 4 (zup (zup x 154 (645 + 4 * n + 1) (sGr r k)) 154 (645 + 4 * n + 2) (r 3)) = some (r (38 + 18 * k + 4)) := by
    rw [mg6 rfl (by omega), zup_at, if_neg (by omega), zup_at, if_neg (by omega), x154, rup_ne (by omega), arA_o (by omega)]
  have d644 : zup (zup (zup x 154 (645 + 4 * n + 1) (sGr r k)) 154 (645 + 4 * n + 2) (r 3)) 154 (645 + 4 * n + 3) (r (38 + 18 * k + 4)) 154 644 = n := by
    rw [zup_at, if_neg (by omega), zup_at, if_neg (by omega), zup_at, if_neg (by omega), x154, rup_ne (by omega), hN]
  have i1 : inR (n + 1) := inR_s (by omega)
  refine ⟨zup (zup (zup (zup x 154 (645 + 4 * n + 1) (sGr r k)) 154 (645 + 4 * n + 2) (r 3)) 154 (645 + 4 * n + 3) (r (38 + 18 * k + 4))) 154 644 (n + 1), ?_, ?_, ?_⟩
  · rw [ey]
    simp only [fX6_archive_b56, zl, g0, Option.bind_some, y644, if_pos u0, ex, if_pos (u 1 (by omega)), if_pos (u 2 (by omega)), if_pos (u 3 (by omega)), d3, g4, d644, if_pos i1]
  · funext j
    rw [zup_at, zup_at, zup_at, zup_at, x154, rup_at]
    unfold arB
    rw [hN, show 645 + 4 * n + 0 = 645 + 4 * n by omega]
  · exact FN_tr (FN_o y2) (FN_tr FN_154 (FN_tr (FN_FM fx) (FN_tr FN_154 (FN_tr FN_154 (FN_tr FN_154 FN_154)))))
theorem m_takeOff (hM : z 154 = r) (hI : IH B r) (hk : 0 ≤ k ∧ k < r 37) : ∃ z', fX6_takeOff k z = some z' ∧ z' 154 = offR r k ∧ FN z z' := by
  have hn := hI.1
  unfold IHn at hn
  have ha := arA_n (r := r) (by omega)
  obtain ⟨y, ey, y1, y2⟩ := m_archive hM hI hk
  have bo : ∀ j, j < 644 → arB r k (sGr r k) j = r j := fun j h => by
    unfold arB
    rw [if_neg (by omega), if_neg (by omega), if_neg (by omega), if_neg (by omega), if_neg (by omega), arA_o (by omega)]
  have y37 : y 154 37 = r 37 := by rw [y1, bo _ (by omega)]
  have e37 : ∀ w : ZZ, (∀ j, j < 38 + 18 * k → w 154 j = zup y 154 37 (r 37 - 1) 154 j) → w 154 37 = r 37 - 1 := fun w hw => by rw [hw 37 (by omega), zup_at, if_pos rfl]
  obtain ⟨o, eo, o1, o2⟩ := lp_rel (step := fun q : Int × ZZ => fX6_takeOff_s24 q.1 q.2) (fun _ (a : Unit) => a) (fun i _ s => s.1 = i ∧ (∀ j, s.2 154 j = if 38 + 18 * k ≤ j ∧ j < i then r (j + 18) else zup y 154 37 (r 37 - 1) 154 j) ∧ ∀ a, a ≠ 154 → s.2 a = y a) (fun _ o => (∀ j, o 154 j = if 38 + 18 * k ≤ j ∧ j < 38 + 18 * (r 37 - 1) then r (j + 18) else zup y 154 37 (r 37 - 1) 154 j) ∧ ∀ a, a ≠ 154 → o a = y a) (18 * (r 37 - 1) - 18 * k).toNat (38 + 18 * k) () (38 + 18 * k, zup y 154 37 (r 37 - 1)) FU (FU_lt (by omega)) ⟨rfl, fun j => by rw [if_neg (by omega)], fun a p => zup_ne p⟩ (fun i q s h1 h2 h => by
      obtain ⟨w1, w2⟩ := s
      obtain ⟨p1, p3, p4⟩ := h
      dsimp only at p1 p3 p4
      subst p1
      have c37 := e37 w2 (fun j hj => by rw [p3, if_neg (by omega)])
      have k0 : inR (38 + 18 * (r 37 - 1)) := inR_s (by omega)
      have k1 : w1 < 38 + 18 * (r 37 - 1) := by omega
      have k2 : inR (w1 + 1) := inR_s (by omega)
      have k3 : (0 : Int) ≤ w1 + 18 ∧ w1 + 18 < 765 := by omega
      have k4 : (0 : Int) ≤ w1 ∧ w1 < 765 := by omega
      have ev : w2 154 (w1 + 18) = r (w1 + 18) := by rw [p3, if_neg (by omega), zup_at, if_neg (by omega), y1, bo _ (by omega)]
      refine ⟨(w1 + 1, zup w2 154 w1 (r (w1 + 18))), ?_, rfl, fun j => ?_, fun a p => ?_⟩
      · simp only [fX6_takeOff_s24, zl, c37, if_pos k0, if_pos k1, if_pos k3, if_pos k4, ev, if_pos k2]
      · show zup _ _ _ _ 154 j = _
        rw [zup_at, p3]
        by_cases e : j = w1
        · rw [if_pos e, if_pos (by omega), e]
        · rw [if_neg e]
          by_cases e2 : 38 + 18 * k ≤ j ∧ j < w1
          · rw [if_pos e2, if_pos (by omega)]
          · rw [if_neg e2, if_neg (by omega)]
      · show zup _ _ _ _ a = _
        rw [zup_ne p]
        exact p4 a p) (fun q s h => by
      obtain ⟨w1, w2⟩ := s
      obtain ⟨p1, p3, p4⟩ := h
      dsimp only at p1 p3 p4
      have c37 := e37 w2 (fun j hj => by rw [p3, if_neg (by omega)])
      have k0 : inR (38 + 18 * (r 37 - 1)) := inR_s (by omega)
      refine ⟨w2, ?_, fun j => ?_, p4⟩
      · dsimp only
        unfold fX6_takeOff_s24
        rw [c37, if_pos k0, if_neg (by omega)]
      · rw [p3]
        by_cases e2 : 38 + 18 * k ≤ j ∧ j < 38 + 18 * (r 37 - 1)
        · rw [if_pos e2, if_pos (by omega)]
        · rw [if_neg e2, if_neg (by omega)])
  refine ⟨o, ?_, ?_, FN_tr y2 (FN_o o2)⟩
  · unfold fX6_takeOff zl
    rw [ey]
    simp only [Option.bind_some]
    rw [y37, if_pos (inR_s (by omega)), if_pos (inR_s (by omega)), eo]
    rfl
  · funext j
    rw [o1, zup_at, y1]
    unfold offR
    by_cases e37 : j = 37
    · rw [if_neg (by omega), if_pos e37, if_pos e37]
    · rw [if_neg e37, if_neg e37]
theorem g_removeRoute (hI : IH B r) (q1 : 0 ≤ k ∧ k < r 37) : ∃ r' v, Chg r r' v (fL_removeRoute k) (fX6_removeRoute k) ∧ IH B r' := by
  refine ⟨offR r k, sGr r k, ⟨fun z hR hu hl => ?_, fun z hM h8 => ?_⟩, IH_off hI q1⟩
  · obtain ⟨z1, e1, R1, w1⟩ := c_rem hR hI hu hl
    obtain ⟨z2, e2, R2, f2⟩ := c_archive R1 hI q1
    refine ⟨zup z2 159 0 (sGr r k), ?_, ?_, Qt_RC Qt_159 R2, w1 _ (fun a p1 p2 p3 p4 p5 => ?_)⟩
    · simp only [fL_removeRoute, fX5_removeRoute, n_row, (RCn hR).2.1, if_pos q1, Option.bind_some, e1, e2]
    · rw [zup_at, if_pos rfl]
    · rw [zup_ne p3, f2 a p1 p2 (by omega)]
  · have hM1 := zup_154 (e := 0) hM
    obtain ⟨z0, e0, f0⟩ := m_gradeOf hM1 hI q1
    obtain ⟨z1, e1, r1, w1⟩ := m_rec hM h8 f0
    obtain ⟨z2, e2, r2, f2⟩ := m_takeOff r1 hI q1
    refine ⟨z2, ?_, r2, w1 _ (fun a p1 p2 p3 p4 => f2.1 a p1 p2 p3) (fun j p1 p2 p3 => f2.2 j p1 p2 p3)⟩
    simp only [fX6_removeRoute, zl, mi_route hM1 hI, m_failsb, if_pos q1, if_true, Option.bind_some, e0, e1, e2]
theorem k_removeRoute (hI : IH B r) (hB : B ≤ 900000) (k : Int) : (∃ r' v, Chg r r' v (fL_removeRoute k) (fX6_removeRoute k) ∧ IH (B + 60) r') ∨ Ask r (fL_removeRoute k) (fX6_removeRoute k) := by
  have hn := hI.1
  unfold IHn at hn
  by_cases q1 : 0 ≤ k ∧ k < r 37
  · obtain ⟨r', v, h1, h2⟩ := g_removeRoute hI q1
    exact Or.inl ⟨r', v, h1, IH_mono h2 (by omega) (by omega)⟩
  · refine Or.inr ?_
    refine ask_er 1 (by decide) (fun z hR => ⟨z, ?_, fun _ _ => rfl⟩) (fun z hM => ⟨0, zup z 151 0 0, ?_, FM_rf _⟩)
    · simp only [fL_removeRoute, fX5_removeRoute, n_row, RCn hR, if_neg q1, Option.bind_some, if_true] <;> rfl
    · have hM1 := zup_154 (e := 0) hM
      simp only [fX6_removeRoute, zl, mi_route hM1 hI, m_failsb, if_neg q1, Option.bind_some, if_true] <;> rfl
theorem w_c5 {v : Int} {ln : Nat} (hV : INV B z) (hB : B ≤ 900000) (h5 : 0 ≤ v ∧ v + 5 < ln) : ∃ z', fL_c5 ln v z = some (1, z') ∧ INV (B + 60) z' ∧ z' 1000000 = z 1000000 := by
  obtain ⟨z', e, f⟩ := w_of hV hB (k_removeRoute hV.2.1 hB (z 1000000 (v + 1))) (M := fun y => fX6_removeRoute (y 1000000 (v + 1)) y) (fun y hy => by rw [hy])
  refine ⟨z', ?_, f⟩
  unfold fL_c5
  rw [if_pos (by omega)]
  exact e
end OF

/-! a wall's reset -/
def rsF (w : Int) (_ : Int) (q : Row × Int × Int) : Row × Int × Int := if q.1 (38 + 18 * q.2.2 + 0) = w then (offR q.1 q.2.2, q.2.1 + 1, q.2.2) else (q.1, q.2.1, q.2.2 + 1)
def rsE (r : Row) (w : Int) : Row × Int × Int := ita (rsF w) (r 37).toNat 0 (r, 0, 0)
def rsR (r : Row) (w : Int) : Row := rup (rsE r w).1 (5 + 4 * w + 3) (r 3 + r (5 + 4 * w + 2))
def RP (B : Int) (r : Row) (i : Int) (q : Row × Int × Int) : Prop := IH B q.1 ∧ (∀ j, j < 37 ∨ (470 ≤ j ∧ j < 644) → q.1 j = r j) ∧ 0 ≤ q.2.1 ∧ 0 ≤ q.2.2 ∧ q.2.1 + q.2.2 = i ∧ q.1 37 = r 37 - q.2.1
section RS
variable {z : ZZ} {r : Row} {B w : Int}
theorem RP_s {i : Int} {q : Row × Int × Int} (hI : IH B r) (hi : 0 ≤ i ∧ i < r 37) (h : RP B r i q) : RP B r (i + 1) (rsF w i q) := by
  have hn := hI.1
  unfold IHn at hn
  obtain ⟨h1, h2, h3, h4, h5, h6⟩ := h
  have hn1 := h1.1
  unfold IHn at hn1
  have ha := arA_n (r := q.1) (by omega)
  unfold rsF
  split
  · refine ⟨IH_off h1 ⟨h4, by omega⟩, fun j hj => ?_, by show 0 ≤ q.2.1 + 1; omega, h4, by show q.2.1 + 1 + q.2.2 = i + 1; omega, by show offR q.1 q.2.2 37 = r 37 - (q.2.1 + 1); rw [offR_37]; omega⟩
    show offR q.1 q.2.2 j = _
    rw [offR_o ha.1 h4 hj (by omega)]
    exact h2 j hj
  · exact ⟨h1, h2, h3, by show 0 ≤ q.2.2 + 1; omega, by show q.2.1 + (q.2.2 + 1) = i + 1; omega, h6⟩
theorem RP_0 (hI : IH B r) : RP B r 0 (r, 0, 0) := ⟨hI, fun _ _ => rfl, Int.le_refl _, Int.le_refl _, rfl, by show r 37 = r 37 - 0; omega⟩
theorem RP_E (hI : IH B r) : RP B r (r 37) (rsE r w) := by
  have hn := hI.1
  unfold IHn at hn
  have h := ita_P (f := rsF w) (RP B r) (r 37).toNat 0 (r, 0, 0) (RP_0 hI) (fun i a h1 h2 h => RP_s hI (by omega) h)
  rw [show (0 : Int) + ((r 37).toNat : Nat) = r 37 by omega] at h
  exact h
theorem IH_rsR (hI : IH B r) (hw : 0 ≤ w ∧ w < r 4) : IH B (rsR r w) ∧ (∀ j, j < 5 ∨ (470 ≤ j ∧ j < 644) → rsR r w j = r j) ∧ 0 ≤ (rsE r w).2.1 ∧ (rsE r w).2.1 ≤ 24 := by
  have hn := hI.1
  unfold IHn at hn
  have hp := (hI.2.1 w hw.1 hw.2).2.1
  obtain ⟨h1, h2, h3, h4, h5, h6⟩ := RP_E (w := w) hI
  refine ⟨IH_up4 h1 (by rw [h2 4 (by omega)]; exact hw) (by omega), fun j hj => ?_, h3, by omega⟩
  unfold rsR
  rw [rup_ne (by omega), h2 j (by omega)]
theorem c_resetWall (hR : RC z r) (hI : IH B r) (hw : 0 ≤ w ∧ w < r 4) : ∃ z', fX1_resetWall w z = some ((rsE r w).2.1, z') ∧ RC z' (rsR r w) ∧ ∀ a, a ≠ 1 → a ≠ 2 → ¬ (5 ≤ a ∧ a ≤ 9) → z' a = z a := by
  have hn := hI.1
  unfold IHn at hn
  have hp := (hI.2.1 w hw.1 hw.2).2.1
  obtain ⟨h1, h2, h3, h4, h5, h6⟩ := RP_E (w := w) hI
  obtain ⟨o, eo, o1, o2, o3⟩ := lp_rel (step := fun q : Int × Int × Int × ZZ => fX1_resetWall_s16 w (z 6 3) q.1 q.2.1 q.2.2.1 q.2.2.2) (rsF w) (fun i q s => RP B r i q ∧ s.1 = q.2.1 ∧ s.2.1 = q.2.2 ∧ s.2.2.1 = i ∧ RC s.2.2.2 q.1 ∧ ∀ a, a ≠ 1 → a ≠ 2 → ¬ (6 ≤ a ∧ a ≤ 9) → s.2.2.2 a = z a) (fun q o => o.1 = q.2.1 ∧ RC o.2 q.1 ∧ ∀ a, a ≠ 1 → a ≠ 2 → ¬ (6 ≤ a ∧ a ≤ 9) → o.2 a = z a) (r 37).toNat 0 (r, 0, 0) (0, 0, 0, z) FU (FU_lt (by omega)) ⟨RP_0 hI, rfl, rfl, rfl, hR, fun _ _ _ _ => rfl⟩ (fun i q s g1 g2 h => by
      obtain ⟨s1, s2, s3, s4⟩ := s
      obtain ⟨hF, x1, x2, x3, x4, x5⟩ := h
      dsimp only at x1 x2 x3 x4 x5
      subst x1 x2 x3
      have hF1 := RP_s (w := w) hI (show 0 ≤ s3 ∧ s3 < r 37 by omega) hF
      obtain ⟨y1, y2, y3, y4, y5, y6⟩ := hF
      have k1 : s3 < z 6 3 := by rw [(RCn hR).2.1]; omega
      have k2 : inR (s3 + 1) := inR_s (by omega)
      have k3 : inR (q.2.1 + 1) := inR_s (by omega)
      have k4 : inR (q.2.2 + 1) := inR_s (by omega)
      have g6 := cg6 x4 y1 (k := q.2.2) (c := 0) ⟨y4, by omega⟩ (by omega)
      dsimp only
      by_cases hb : q.1 (38 + 18 * q.2.2 + 0) = w
      · obtain ⟨v, ev, Rv, fv⟩ := c_archive x4 y1 (k := q.2.2) ⟨y4, by omega⟩
        refine ⟨(q.2.1 + 1, q.2.2, s3 + 1, v), ?_, hF1, ?_, ?_, rfl, ?_, fun a p1 p2 p3 => (fv a p1 p2 p3).trans (x5 a p1 p2 p3)⟩
        · simp only [fX1_resetWall_s16, fX1_resetWall_b51, if_pos k1, g6, Option.bind_some, if_pos hb, ev, if_pos k3, if_pos k2]
        · simp only [rsF, if_pos hb]
        · simp only [rsF, if_pos hb]
        · simp only [rsF, if_pos hb]
          exact Rv
      · refine ⟨(q.2.1, q.2.2 + 1, s3 + 1, s4), ?_, hF1, ?_, ?_, rfl, ?_, x5⟩
        · simp only [fX1_resetWall_s16, fX1_resetWall_b51, if_pos k1, g6, Option.bind_some, if_neg hb, if_pos k4, if_pos k2]
        · simp only [rsF, if_neg hb]
        · simp only [rsF, if_neg hb]
        · simp only [rsF, if_neg hb]
          exact x4) (fun q s h => by
      obtain ⟨s1, s2, s3, s4⟩ := s
      obtain ⟨hF, x1, x2, x3, x4, x5⟩ := h
      dsimp only at x1 x2 x3 x4 x5
      subst x1 x2 x3
      refine ⟨(q.2.1, s4), ?_, rfl, x4, x5⟩
      dsimp only
      unfold fX1_resetWall_s16
      rw [if_neg (by rw [(RCn hR).2.1]; omega)])
  obtain ⟨ov, oz⟩ := o
  dsimp only at o1 o2 o3 eo
  subst o1
  have eo' : zlp (fun q : Int × Int × Int × ZZ => fX1_resetWall_s16 w (z 6 3) q.1 q.2.1 q.2.2.1 q.2.2.2) FU (0, 0, 0, z) = some ((rsE r w).2.1, oz) := eo
  have o2' : RC oz (rsE r w).1 := o2
  have g4 := cg4 o2' h1 (k := w) (c := 2) (by rw [h2 4 (by omega)]; exact hw) (by omega)
  rw [h2 (5 + 4 * w + 2) (by omega)] at g4
  have d3 : oz 3 7 = r 3 := by rw [(RCn o2').2.2.2.2.2.2.1, h2 3 (by omega)]
  have s4 : fX4_set 4 w 3 (r 3 + r (5 + 4 * w + 2)) oz = some (zup oz 5 (w * 4 + 3) (r 3 + r (5 + 4 * w + 2))) := set_ok kT4 (by rw [(RCn o2').1, h2 4 (by omega)]; exact hw) (by rw [(RCn o2').1, h2 4 (by omega)]; show r 4 ≤ 8; omega) (show (0 : Int) ≤ 3 ∧ (3 : Int) < 4 by omega)
  have i1 : inR (r 3 + r (5 + 4 * w + 2)) := inR_s (by omega)
  refine ⟨zup oz 5 (w * 4 + 3) (r 3 + r (5 + 4 * w + 2)), ?_, RC_up4 o2' h1.1 (by rw [h2 4 (by omega)]; exact hw) (by omega), fun a p1 p2 p3 => by rw [zup_ne (by omega)]; exact o3 a p1 p2 (by omega)⟩
  simp only [fX1_resetWall, eo', Option.bind_some, g4, d3, if_pos i1, s4]
theorem m_reset (hM : z 154 = r) (hI : IH B r) (hw : 0 ≤ w ∧ w < r 4) : ∃ z', fX6_reset w z = some ((rsE r w).2.1, z') ∧ z' 154 = rsR r w ∧ FN z z' := by
  have hn := hI.1
  unfold IHn at hn
  have hp := (hI.2.1 w hw.1 hw.2).2.1
  obtain ⟨h1, h2, h3, h4, h5, h6⟩ := RP_E (w := w) hI
  obtain ⟨o, eo, o1, o2, o3⟩ := lp_rel (step := fun q : Int × Int × ZZ => fX6_reset_s4 w q.1 q.2.1 q.2.2) (rsF w) (fun i q s => RP B r i q ∧ s.1 = q.2.1 ∧ s.2.1 = q.2.2 ∧ s.2.2 154 = q.1 ∧ FN z s.2.2) (fun q o => o.1 = q.2.1 ∧ o.2 154 = q.1 ∧ FN z o.2) (r 37).toNat 0 (r, 0, 0) (0, 0, z) FU (FU_lt (by omega)) ⟨RP_0 hI, rfl, rfl, hM, FN_rf z⟩ (fun i q s g1 g2 h => by
      obtain ⟨s1, s2, s4⟩ := s
      obtain ⟨hF, x1, x2, x4, x5⟩ := h
      dsimp only at x1 x2 x4 x5
      subst x1 x2
      have hF1 := RP_s (w := w) hI (show 0 ≤ i ∧ i < r 37 by omega) hF
      obtain ⟨y1, y2, y3, y4, y5, y6⟩ := hF
      have k1 : q.2.2 < s4 154 37 := by rw [x4, y6]; omega
      have k3 : inR (q.2.1 + 1) := inR_s (by omega)
      have k4 : inR (q.2.2 + 1) := inR_s (by omega)
      have g6 := mg6 x4 (k := q.2.2) (c := 0) (by omega)
      dsimp only
      by_cases hb : q.1 (38 + 18 * q.2.2 + 0) = w
      · obtain ⟨v, ev, Rv, fv⟩ := m_takeOff x4 y1 (k := q.2.2) ⟨y4, by omega⟩
        refine ⟨(q.2.1 + 1, q.2.2, v), ?_, hF1, ?_, ?_, ?_, FN_tr x5 fv⟩
        · simp only [fX6_reset_s4, if_pos k1, g6, Option.bind_some, if_pos hb, ev, if_pos k3]
        · simp only [rsF, if_pos hb]
        · simp only [rsF, if_pos hb]
        · simp only [rsF, if_pos hb]
          exact Rv
      · refine ⟨(q.2.1, q.2.2 + 1, s4), ?_, hF1, ?_, ?_, ?_, x5⟩
        · simp only [fX6_reset_s4, if_pos k1, g6, Option.bind_some, if_neg hb, if_pos k4]
        · simp only [rsF, if_neg hb]
        · simp only [rsF, if_neg hb]
        · simp only [rsF, if_neg hb]
          exact x4) (fun q s h => by
      obtain ⟨s1, s2, s4⟩ := s
      obtain ⟨hF, x1, x2, x4, x5⟩ := h
      obtain ⟨y1, y2, y3, y4, y5, y6⟩ := hF
      dsimp only at x1 x2 x4 x5
      subst x1 x2
      refine ⟨(q.2.1, s4), ?_, rfl, x4, x5⟩
      dsimp only
      unfold fX6_reset_s4
      rw [if_neg (by rw [x4, y6]; omega)])
  obtain ⟨ov, oz⟩ := o
  dsimp only at o1 o2 o3 eo
  subst o1
  have eo' : zlp (fun q : Int × Int × ZZ => fX6_reset_s4 w q.1 q.2.1 q.2.2) FU (0, 0, z) = some ((rsE r w).2.1, oz) := eo
  have o2' : oz 154 = (rsE r w).1 := o2
  have u2 : (0 : Int) ≤ 5 + 4 * w + 2 ∧ 5 + 4 * w + 2 < 765 := by omega
  have u3 : (0 : Int) ≤ 5 + 4 * w + 3 ∧ 5 + 4 * w + 3 < 765 := by omega
  have g4 := mg4 o2' (k := w) (c := 2) u2
  rw [h2 (5 + 4 * w + 2) (by omega)] at g4
  have d3 : oz 154 3 = r 3 := by rw [o2', h2 3 (by omega)]
  have i1 : inR (r 3 + r (5 + 4 * w + 2)) := inR_s (by omega)
  refine ⟨zup oz 154 (5 + 4 * w + 3) (r 3 + r (5 + 4 * w + 2)), ?_, ?_, FN_tr o3 FN_154⟩
  · simp only [fX6_reset, zl, eo', Option.bind_some, g4, d3, if_pos i1, if_pos u3]
  · funext j
    rw [zup_at, o2']
    rfl
end RS
/-! the end of a day -/
def dwF (w : Int) (q : Row × Int) : Row × Int := if sClosed q.1 w then (rsR q.1 w, q.2 + (rsE q.1 w).2.1) else q
def dwE (r : Row) : Row × Int := ita dwF (r 4).toNat 0 (r, 0)
def mkF (m : Int) (q : Row) : Row := if q (547 + 6 * m + 3) = -1 then q else rup q (547 + 6 * m + 5) (q (547 + 6 * m + 5) + 1)
def mkE (r : Row) : Row := ita mkF (r 546).toNat 0 r
def dayR (r : Row) : Row := rup (mkE (dwE r).1) 3 (r 3 + 1)
def DP (B : Int) (r : Row) (i : Int) (q : Row × Int) : Prop := IH B q.1 ∧ (∀ j, j < 5 ∨ (470 ≤ j ∧ j < 644) → q.1 j = r j) ∧ 0 ≤ q.2 ∧ q.2 ≤ 24 * i
def KP (B : Int) (r : Row) (i : Int) (q : Row) : Prop := IH (B + 1) q ∧ ∀ j, j < 547 ∨ 547 + 6 * i ≤ j → q j = r j
section DY
variable {z : ZZ} {r : Row} {B : Int}
theorem DP_s {i : Int} {q : Row × Int} (hi : 0 ≤ i ∧ i < r 4) (h : DP B r i q) : DP B r (i + 1) (dwF i q) := by
  obtain ⟨h1, h2, h3, h4⟩ := h
  obtain ⟨g1, g2, g3, g4⟩ := IH_rsR (w := i) h1 (by rw [h2 4 (by omega)]; exact hi)
  unfold dwF
  split
  · refine ⟨g1, fun j hj => ?_, by show 0 ≤ q.2 + _; omega, by show q.2 + _ ≤ _; omega⟩
    show rsR q.1 i j = _
    rw [g2 j hj, h2 j hj]
  · exact ⟨h1, h2, h3, by omega⟩
theorem DP_0 (hI : IH B r) : DP B r 0 (r, 0) := ⟨hI, fun _ _ => rfl, Int.le_refl _, Int.le_refl _⟩
theorem DP_E (hI : IH B r) : DP B r (r 4) (dwE r) := by
  have hn := hI.1
  unfold IHn at hn
  have h := ita_P (f := dwF) (DP B r) (r 4).toNat 0 (r, 0) (DP_0 hI) (fun i a h1 h2 h => DP_s (by omega) h)
  rw [show (0 : Int) + ((r 4).toNat : Nat) = r 4 by omega] at h
  exact h
theorem KP_s {i : Int} {q : Row} (hI : IH B r) (hi : 0 ≤ i ∧ i < r 546) (h : KP B r i q) : KP B r (i + 1) (mkF i q) := by
  obtain ⟨h1, h2⟩ := h
  have hk := (hI.2.2.2.2.1 i hi.1 hi.2).2.2.2.2.1
  have e5 := h2 (547 + 6 * i + 5) (by omega)
  unfold mkF
  split
  · exact ⟨h1, fun j hj => h2 j (by omega)⟩
  · refine ⟨IH_up12 h1 (by rw [h2 546 (by omega)]; exact hi) (by omega) (by omega) ⟨fun e => by omega, fun e => by omega, fun e => by omega, fun _ => by rw [e5]; omega⟩, fun j hj => ?_⟩
    rw [rup_ne (by omega)]
    exact h2 j (by omega)
theorem KP_0 (hI : IH B r) (hB : B + 1 ≤ 1000000) : KP B r 0 r := ⟨IH_mono hI (by omega) hB, fun _ _ => rfl⟩
theorem KP_E (hI : IH B r) (hB : B + 1 ≤ 1000000) : KP B r (r 546) (mkE r) := by
  have hn := hI.1
  unfold IHn at hn
  have h := ita_P (f := mkF) (KP B r) (r 546).toNat 0 r (KP_0 hI hB) (fun i a h1 h2 h => KP_s hI (by omega) h)
  rw [show (0 : Int) + ((r 546).toNat : Nat) = r 546 by omega] at h
  exact h
theorem IH_up3 {v : Int} (hI : IH B r) (hv : 0 ≤ v ∧ v ≤ 9999) : IH B (rup r 3 v) := by
  have hn := hI.1
  unfold IHn at hn
  obtain ⟨hn', hw, hr, hh, hm, hcc⟩ := hI
  have eX : ∀ i, i ≠ 3 → rup r 3 v i = r i := fun m a => rup_ne a
  refine ⟨?_, fun i a b => ?_, fun i a b => ?_, fun i a b => ?_, fun i a b => ?_, fun i a b => ?_⟩
  · unfold IHn
    rw [eX 4 (by omega), eX 37 (by omega), eX 470 (by omega), eX 546 (by omega), eX 619 (by omega), eX 644 (by omega), rup_at, if_pos rfl, eX 0 (by omega), eX 1 (by omega), eX 2 (by omega)]
    omega
  · rw [eX 4 (by omega)] at b
    rw [eX _ (by omega), eX _ (by omega), eX _ (by omega)]
    exact hw i a b
  · rw [eX 37 (by omega)] at b
    have q := hr i a b
    rw [eX _ (by omega), eX _ (by omega), eX _ (by omega), eX _ (by omega), eX _ (by omega), eX _ (by omega)]
    refine ⟨q.1, q.2.1, q.2.2.1, q.2.2.2.1, q.2.2.2.2.1, fun m x y => ?_⟩
    rw [eX _ (by omega)]
    exact q.2.2.2.2.2 m x y
  · rw [eX 470 (by omega)] at b
    have q := hh i a b
    rw [eX 546 (by omega), eX _ (by omega), eX _ (by omega), eX _ (by omega), eX _ (by omega)]
    refine ⟨q.1, q.2.1, q.2.2.1, q.2.2.2.1, q.2.2.2.2.trans ⟨?_, ?_⟩⟩
    · rintro ⟨m, x, y, w⟩
      exact ⟨m, x, y, by rw [eX _ (by omega)]; exact w⟩
    · rintro ⟨m, x, y, w⟩
      rw [eX _ (by omega)] at w
      exact ⟨m, x, y, w⟩
  · rw [eX 546 (by omega)] at b
    have q := hm i a b
    rw [eX 470 (by omega), eX 546 (by omega), eX 619 (by omega), eX _ (by omega), eX _ (by omega), eX _ (by omega), eX _ (by omega), eX _ (by omega)]
    refine ⟨q.1, q.2.1, q.2.2.1, q.2.2.2.1, q.2.2.2.2.1, fun m x y => ?_⟩
    rw [eX _ (by omega)]
    exact q.2.2.2.2.2 m x y
  · rw [eX 619 (by omega)] at b
    rw [eX _ (by omega), eX _ (by omega), eX _ (by omega)]
    exact hcc i a b
theorem RC_up3 {v : Int} (hR : RC z r) (hn : IHn B r) : RC (zup z 3 7 v) (rup r 3 v) := by
  unfold IHn at hn
  have k : ∀ a, a ≠ 3 → zup z 3 7 v a = z a := fun a p => zup_ne p
  obtain ⟨h1, h2, h3, h4, h5, h6, h7, h8, h9, h10⟩ := hR
  refine ⟨TL_k h1 (k _ (by decide)) (k _ (by decide)) (rup_ne (by omega)) (fun j a b => rup_ne (by omega)), TL_k h2 (k _ (by decide)) (k _ (by decide)) (rup_ne (by omega)) (fun j a b => rup_ne (by omega)), TL_k h3 (k _ (by decide)) (k _ (by decide)) (rup_ne (by omega)) (fun j a b => rup_ne (by omega)), TH_k h4 (k _ (by decide)) (k _ (by decide)) (rup_ne (by omega)) (fun j a b => rup_ne (by omega)), TL_k h5 (k _ (by decide)) (k _ (by decide)) (rup_ne (by omega)) (fun j a b => rup_ne (by omega)), TL_k h6 (k _ (by decide)) (k _ (by decide)) (rup_ne (by omega)) (fun j a b => rup_ne (by omega)), ?_, ?_, ?_, ?_⟩
  · rw [zup_at, if_pos rfl, rup_at, if_pos rfl]
  · rw [zup_at, if_neg (by decide), rup_ne (by omega)]; exact h8
  · rw [zup_at, if_neg (by decide), rup_ne (by omega)]; exact h9
  · rw [zup_at, if_neg (by decide), rup_ne (by omega)]; exact h10
theorem IH_day (hI : IH B r) (hB : B + 1 ≤ 1000000) (h3 : r 3 < 9999) : IH (B + 1) (dayR r) ∧ dayR r 3 = r 3 + 1 ∧ 0 ≤ (dwE r).2 ∧ (dwE r).2 ≤ 192 := by
  have hn := hI.1
  unfold IHn at hn
  obtain ⟨h1, h2, h4, h5⟩ := DP_E hI
  obtain ⟨g1, g2⟩ := KP_E h1 hB
  exact ⟨IH_up3 g1 (by omega), by unfold dayR; rw [rup_at, if_pos rfl], h4, by omega⟩
theorem c_endDay (hR : RC z r) (hI : IH B r) (hB : B + 1 ≤ 1000000) (h3 : r 3 < 9999) : ∃ z', fX1_endDay z = some ((dwE r).2, z') ∧ RC z' (dayR r) ∧ ∀ a, a ≠ 1 → a ≠ 2 → ¬ (3 ≤ a ∧ a ≤ 15) → z' a = z a := by
  have hn := hI.1
  unfold IHn at hn
  obtain ⟨d1, d2, d4, d5⟩ := DP_E hI
  obtain ⟨m1, m2⟩ := KP_E d1 hB
  obtain ⟨o, eo, o1, o2, o3⟩ := lp_rel (step := fun q : Int × Int × ZZ => fX1_endDay_s4 q.1 q.2.1 q.2.2) dwF (fun i q s => DP B r i q ∧ s.1 = q.2 ∧ s.2.1 = i ∧ RC s.2.2 q.1 ∧ ∀ a, a ≠ 1 → a ≠ 2 → ¬ (3 ≤ a ∧ a ≤ 15) → s.2.2 a = z a) (fun q o => o.1 = q.2 ∧ RC o.2 q.1 ∧ ∀ a, a ≠ 1 → a ≠ 2 → ¬ (3 ≤ a ∧ a ≤ 15) → o.2 a = z a) (r 4).toNat 0 (r, 0) (0, 0, z) FU (FU_lt (by omega)) ⟨DP_0 hI, rfl, rfl, hR, fun _ _ _ _ => rfl⟩ (fun i q s g1 g2 h => by
      obtain ⟨s1, s2, s3⟩ := s
      obtain ⟨hF, x1, x2, x4, x5⟩ := h
      dsimp only at x1 x2 x4 x5
      subst x1 x2
      have hF1 := DP_s (show 0 ≤ s2 ∧ s2 < r 4 by omega) hF
      obtain ⟨y1, y2, y3, y4⟩ := hF
      have e4 := y2 4 (by omega)
      have k1 : s2 < s3 4 3 := by rw [(RCn x4).1, e4]; omega
      have k2 : inR (s2 + 1) := inR_s (by omega)
      have hw : 0 ≤ s2 ∧ s2 < q.1 4 := by rw [e4]; omega
      have gc := c_isClosed x4 y1 hw
      have hb4 := (IH_rsR y1 hw).2.2
      have k3 : inR (q.2 + (rsE q.1 s2).2.1) := inR_s (by omega)
      dsimp only
      by_cases hb : sClosed q.1 s2
      · obtain ⟨v, ev, Rv, fv⟩ := c_resetWall x4 y1 hw
        refine ⟨(q.2 + (rsE q.1 s2).2.1, s2 + 1, v), ?_, hF1, ?_, rfl, ?_, fun a p1 p2 p3 => (fv a p1 p2 (by omega)).trans (x5 a p1 p2 p3)⟩
        · simp only [fX1_endDay_s4, fX1_endDay_b31, if_pos k1, gc, Option.bind_some, ite_bI, if_pos hb, ev, if_pos k3, if_pos k2]
        · simp only [dwF, if_pos hb]
        · simp only [dwF, if_pos hb]
          exact Rv
      · refine ⟨(q.2, s2 + 1, s3), ?_, hF1, ?_, rfl, ?_, x5⟩
        · simp only [fX1_endDay_s4, fX1_endDay_b31, if_pos k1, gc, Option.bind_some, ite_bI, if_neg hb, if_pos k2]
        · simp only [dwF, if_neg hb]
        · simp only [dwF, if_neg hb]
          exact x4) (fun q s h => by
      obtain ⟨s1, s2, s3⟩ := s
      obtain ⟨hF, x1, x2, x4, x5⟩ := h
      dsimp only at x1 x2 x4 x5
      subst x1 x2
      have e4 := hF.2.1 4 (by omega)
      refine ⟨(q.2, s3), ?_, rfl, x4, x5⟩
      dsimp only
      unfold fX1_endDay_s4
      rw [if_neg (by rw [(RCn x4).1, e4]; omega)])
  obtain ⟨ov, oz⟩ := o
  dsimp only at o1 o2 o3 eo
  subst o1
  have eo' : zlp (fun q : Int × Int × ZZ => fX1_endDay_s4 q.1 q.2.1 q.2.2) FU (0, 0, z) = some ((dwE r).2, oz) := eo
  have o2' : RC oz (dwE r).1 := o2
  have e546 : (dwE r).1 546 = r 546 := d2 546 (by omega)
  obtain ⟨p, ep, p1, p2⟩ := lp_rel (step := fun q : Int × ZZ => fX1_endDay_s39 (dwE r).2 q.1 q.2) mkF (fun i q s => KP B (dwE r).1 i q ∧ s.1 = i ∧ RC s.2 q ∧ ∀ a, a ≠ 13 → s.2 a = oz a) (fun q o => RC o q ∧ ∀ a, a ≠ 13 → o a = oz a) ((dwE r).1 546).toNat 0 (dwE r).1 (0, oz) FU (FU_lt (by omega)) ⟨KP_0 d1 hB, rfl, o2', fun _ _ => rfl⟩ (fun i q s g1 g2 h => by
      obtain ⟨s2, s3⟩ := s
      obtain ⟨hF, x2, x4, x5⟩ := h
      dsimp only at x2 x4 x5
      subst x2
      have hF1 := KP_s d1 (show 0 ≤ s2 ∧ s2 < (dwE r).1 546 by omega) hF
      obtain ⟨y1, y2⟩ := hF
      have f546 := y2 546 (by omega)
      have hm : 0 ≤ s2 ∧ s2 < q 546 := by rw [f546]; omega
      have k1 : s2 < s3 12 3 := by rw [(RCn x4).2.2.2.2.1]; omega
      have k2 : inR (s2 + 1) := inR_s (by omega)
      have gh := c_harnessOf x4 y1 hm
      have hk := (y1.2.2.2.2.1 s2 hm.1 hm.2).2.2.2.2.1
      have hn1 := y1.1
      unfold IHn at hn1
      dsimp only
      by_cases hb : q (547 + 6 * s2 + 3) = -1
      · refine ⟨(s2 + 1, s3), ?_, hF1, rfl, ?_, x5⟩
        · simp only [fX1_endDay_s39, fX1_endDay_b69, if_pos k1, gh, Option.bind_some, if_pos hb, if_pos k2]
        · simp only [mkF, if_pos hb]
          exact x4
      · have ey : s3 13 (s2 * 6 + 5) = q (547 + 6 * s2 + 5) := by
          rw [show s3 13 (s2 * 6 + 5) = _ from x4.2.2.2.2.1.2 (s2 * 6 + 5) (by omega) (by omega)]
          congr 1
          omega
        have s6 : fX4_add 12 s2 5 1 s3 = some (zup s3 13 (s2 * 6 + 5) (q (547 + 6 * s2 + 5) + 1)) := by
          have := add_ok (z := s3) (k := s2) (c := 5) (v := 1) kT12 (by rw [(RCn x4).2.2.2.2.1]; exact hm) (by rw [(RCn x4).2.2.2.2.1]; show q 546 ≤ 12; omega) (show (0 : Int) ≤ 5 ∧ (5 : Int) < 6 by omega) (by
            show inR (s3 13 (s2 * 6 + 5) + 1)
            rw [ey]
            exact inR_s (by omega))
          rw [show s3 (12 + 1) (s2 * zCO 12 + 5) = _ from ey] at this
          exact this
        refine ⟨(s2 + 1, zup s3 13 (s2 * 6 + 5) (q (547 + 6 * s2 + 5) + 1)), ?_, hF1, rfl, ?_, fun a w => ?_⟩
        · simp only [fX1_endDay_s39, fX1_endDay_b69, if_pos k1, gh, Option.bind_some, if_neg hb, s6, if_pos k2]
        · simp only [mkF, if_neg hb]
          exact RC_up12 x4 y1.1 hm (by omega)
        · show zup _ _ _ _ a = _
          rw [zup_ne w]
          exact x5 a w) (fun q s h => by
      obtain ⟨s2, s3⟩ := s
      obtain ⟨hF, x2, x4, x5⟩ := h
      dsimp only at x2 x4 x5
      subst x2
      have f546 := hF.2 546 (by omega)
      refine ⟨s3, ?_, x4, x5⟩
      dsimp only
      unfold fX1_endDay_s39
      rw [if_neg (by rw [(RCn x4).2.2.2.2.1]; omega)])
  have p1' : RC p (mkE (dwE r).1) := p1
  have d37 : p 3 7 = r 3 := by rw [(RCn p1').2.2.2.2.2.2.1, m2 3 (by omega), d2 3 (by omega)]
  have i1 : inR (r 3 + 1) := inR_s (by omega)
  refine ⟨zup p 3 7 (r 3 + 1), ?_, RC_up3 p1' m1.1, fun a q1 q2 q3 => by rw [zup_ne (by omega), p2 a (by omega)]; exact o3 a q1 q2 q3⟩
  simp only [fX1_endDay, zl, eo', Option.bind_some, ep, d37, if_pos i1]
theorem m_endDay (hM : z 154 = r) (hI : IH B r) (hB : B + 1 ≤ 1000000) (h3 : r 3 < 9999) : ∃ z', fX6_endDay z = some ((dwE r).2, z') ∧ z' 154 = dayR r ∧ FN z z' := by
  have hn := hI.1
  unfold IHn at hn
  obtain ⟨d1, d2, d4, d5⟩ := DP_E hI
  obtain ⟨m1, m2⟩ := KP_E d1 hB
  obtain ⟨o, eo, o1, o2, o3⟩ := lp_rel (step := fun q : Int × Int × ZZ => fX6_endDay_s4 q.1 q.2.1 q.2.2) dwF (fun i q s => DP B r i q ∧ s.1 = q.2 ∧ s.2.1 = i ∧ s.2.2 154 = q.1 ∧ FN z s.2.2) (fun q o => o.1 = q.2 ∧ o.2 154 = q.1 ∧ FN z o.2) (r 4).toNat 0 (r, 0) (0, 0, z) FU (FU_lt (by omega)) ⟨DP_0 hI, rfl, rfl, hM, FN_rf z⟩ (fun i q s g1 g2 h => by
      obtain ⟨s1, s2, s3⟩ := s
      obtain ⟨hF, x1, x2, x4, x5⟩ := h
      dsimp only at x1 x2 x4 x5
      subst x1 x2
      have hF1 := DP_s (show 0 ≤ s2 ∧ s2 < r 4 by omega) hF
      obtain ⟨y1, y2, y3, y4⟩ := hF
      have e4 := y2 4 (by omega)
      have k1 : s2 < s3 154 4 := by rw [x4, e4]; omega
      have k2 : inR (s2 + 1) := inR_s (by omega)
      have hw : 0 ≤ s2 ∧ s2 < q.1 4 := by rw [e4]; omega
      have gc := m_isClosed x4 y1 hw
      have hb4 := (IH_rsR y1 hw).2.2
      have k3 : inR (q.2 + (rsE q.1 s2).2.1) := inR_s (by omega)
      have k4 : inR q.2 := inR_s (by omega)
      dsimp only
      by_cases hb : sClosed q.1 s2
      · obtain ⟨v, ev, Rv, fv⟩ := m_reset x4 y1 hw
        refine ⟨(q.2 + (rsE q.1 s2).2.1, s2 + 1, v), ?_, hF1, ?_, rfl, ?_, FN_tr x5 fv⟩
        · simp only [fX6_endDay_s4, fX6_endDay_b32, if_pos k1, gc, Option.bind_some, ite_bI, if_pos hb, ev, if_pos k3, if_pos k2]
        · simp only [dwF, if_pos hb]
        · simp only [dwF, if_pos hb]
          exact Rv
      · refine ⟨(q.2, s2 + 1, s3), ?_, hF1, ?_, rfl, ?_, x5⟩
        · simp only [fX6_endDay_s4, fX6_endDay_b32, if_pos k1, gc, Option.bind_some, ite_bI, if_neg hb, Int.add_zero, if_pos k4, if_pos k2]
        · simp only [dwF, if_neg hb]
        · simp only [dwF, if_neg hb]
          exact x4) (fun q s h => by
      obtain ⟨s1, s2, s3⟩ := s
      obtain ⟨hF, x1, x2, x4, x5⟩ := h
      dsimp only at x1 x2 x4 x5
      subst x1 x2
      have e4 := hF.2.1 4 (by omega)
      refine ⟨(q.2, s3), ?_, rfl, x4, x5⟩
      dsimp only
      unfold fX6_endDay_s4
      rw [if_neg (by rw [x4, e4]; omega)])
  obtain ⟨ov, oz⟩ := o
  dsimp only at o1 o2 o3 eo
  subst o1
  have eo' : zlp (fun q : Int × Int × ZZ => fX6_endDay_s4 q.1 q.2.1 q.2.2) FU (0, 0, z) = some ((dwE r).2, oz) := eo
  have o2' : oz 154 = (dwE r).1 := o2
  have e546 : (dwE r).1 546 = r 546 := d2 546 (by omega)
  obtain ⟨p, ep, p1, p2⟩ := lp_rel (step := fun q : Int × ZZ => fX6_endDay_s42 (dwE r).2 q.1 q.2) mkF (fun i q s => KP B (dwE r).1 i q ∧ s.1 = i ∧ s.2 154 = q ∧ ∀ a, a ≠ 154 → s.2 a = oz a) (fun q o => o 154 = q ∧ ∀ a, a ≠ 154 → o a = oz a) ((dwE r).1 546).toNat 0 (dwE r).1 (0, oz) FU (FU_lt (by omega)) ⟨KP_0 d1 hB, rfl, o2', fun _ _ => rfl⟩ (fun i q s g1 g2 h => by
      obtain ⟨s2, s3⟩ := s
      obtain ⟨hF, x2, x4, x5⟩ := h
      dsimp only at x2 x4 x5
      subst x2
      have hF1 := KP_s d1 (show 0 ≤ s2 ∧ s2 < (dwE r).1 546 by omega) hF
      obtain ⟨y1, y2⟩ := hF
      have f546 := y2 546 (by omega)
      have hm : 0 ≤ s2 ∧ s2 < q 546 := by rw [f546]; omega
      have k1 : s2 < s3 154 546 := by rw [x4]; omega
      have k2 : inR (s2 + 1) := inR_s (by omega)
      have hk := (y1.2.2.2.2.1 s2 hm.1 hm.2).2.2.2.2.1
      have hn1 := y1.1
      unfold IHn at hn1
      have u3 : (0 : Int) ≤ 547 + 6 * s2 + 3 ∧ 547 + 6 * s2 + 3 < 765 := by omega
      have u5 : (0 : Int) ≤ 547 + 6 * s2 + 5 ∧ 547 + 6 * s2 + 5 < 765 := by omega
      have i0 : inR (q (547 + 6 * s2 + 5) + 0) := inR_s (by omega)
      have i1 : inR (q (547 + 6 * s2 + 5) + 1) := inR_s (by omega)
      dsimp only
      by_cases hb : q (547 + 6 * s2 + 3) = -1
      · refine ⟨(s2 + 1, zup s3 154 (547 + 6 * s2 + 5) (q (547 + 6 * s2 + 5) + 0)), ?_, hF1, rfl, ?_, fun a w => ?_⟩
        · simp only [fX6_endDay_s42, fX6_endDay_b69, fX6_setMember, zl, if_pos k1, mg12 x4 u3, mg12 x4 u5, Option.bind_some, if_pos hb, if_pos i0, if_pos u5, if_pos k2]
        · simp only [mkF, if_pos hb]
          funext j
          rw [zup_at, x4]
          split
          · rw [Int.add_zero]
            congr 1
            omega
          · rfl
        · show zup _ _ _ _ a = _
          rw [zup_ne w]
          exact x5 a w
      · refine ⟨(s2 + 1, zup s3 154 (547 + 6 * s2 + 5) (q (547 + 6 * s2 + 5) + 1)), ?_, hF1, rfl, ?_, fun a w => ?_⟩
        · simp only [fX6_endDay_s42, fX6_endDay_b69, fX6_setMember, zl, if_pos k1, mg12 x4 u3, mg12 x4 u5, Option.bind_some, if_neg hb, if_pos i1, if_pos u5, if_pos k2]
        · simp only [mkF, if_neg hb]
          funext j
          rw [zup_at, x4]
          rfl
        · show zup _ _ _ _ a = _
          rw [zup_ne w]
          exact x5 a w) (fun q s h => by
      obtain ⟨s2, s3⟩ := s
      obtain ⟨hF, x2, x4, x5⟩ := h
      dsimp only at x2 x4 x5
      subst x2
      have f546 := hF.2 546 (by omega)
      refine ⟨s3, ?_, x4, x5⟩
      dsimp only
      unfold fX6_endDay_s42
      rw [if_neg (by rw [x4]; omega)])
  have p1' : p 154 = mkE (dwE r).1 := p1
  have d37 : p 154 3 = r 3 := by rw [p1', m2 3 (by omega), d2 3 (by omega)]
  have i1 : inR (r 3 + 1) := inR_s (by omega)
  refine ⟨zup p 154 3 (r 3 + 1), ?_, ?_, FN_tr o3 (FN_tr (FN_o p2) FN_154)⟩
  · simp only [fX6_endDay, zl, eo', Option.bind_some, ep, d37, if_pos i1]
  · funext j
    rw [zup_at, p1']
    rfl
/-! some days end -/
def edF (_ : Int) (q : Row × Int) : Row × Int := (dayR q.1, q.2 + (dwE q.1).2)
def EP (B : Int) (r : Row) (i : Int) (q : Row × Int) : Prop := IH (B + i) q.1 ∧ q.1 3 = r 3 + i ∧ 0 ≤ q.2 ∧ q.2 ≤ 192 * i
theorem EP_s {i n : Int} {q : Row × Int} (hB : B ≤ 900000) (hd : r 3 + n ≤ 9999) (hi : 0 ≤ i ∧ i < n) (hn : n ≤ 60) (h : EP B r i q) : EP B r (i + 1) (edF i q) := by
  obtain ⟨h1, h2, h3, h4⟩ := h
  obtain ⟨g1, g2, g3, g4⟩ := IH_day h1 (by omega) (by omega)
  refine ⟨by rw [show B + (i + 1) = B + i + 1 by omega]; exact g1, by show dayR q.1 3 = _; omega, by show 0 ≤ q.2 + _; omega, by show q.2 + _ ≤ _; omega⟩
theorem EP_0 (hI : IH B r) : EP B r 0 (r, 0) := ⟨by rw [Int.add_zero]; exact hI, by show r 3 = r 3 + 0; omega, Int.le_refl _, Int.le_refl _⟩
theorem g_endDays {v1 : Int} (hI : IH B r) (hB : B ≤ 900000) (q1 : 1 ≤ v1 ∧ v1 ≤ 60) (q2 : r 3 + v1 ≤ 9999) : ∃ r' v, Chg r r' v (fL_endDays v1) (fX6_endDays v1) ∧ IH (B + 60) r' := by
  have hn := hI.1
  unfold IHn at hn
  have FE := ita_P (f := edF) (EP B r) v1.toNat 0 (r, 0) (EP_0 hI) (fun i a h1 h2 h => EP_s hB q2 (by omega) q1.2 h)
  have ed : ∀ z : ZZ, RC z r → z 3 7 = r 3 := fun z hR => (RCn hR).2.2.2.2.2.2.1
  have i1 : inR (r 3 + v1) := inR_s (by omega)
  have q3 : 1 ≤ r 3 + v1 ∧ r 3 + v1 ≤ 9999 := by omega
  refine ⟨(ita edF v1.toNat 0 (r, 0)).1, (ita edF v1.toNat 0 (r, 0)).2, ⟨fun z hR hu hl => ?_, fun z hM h8 => ?_⟩, IH_mono FE.1 (by omega) (by omega)⟩
  · obtain ⟨z1, e1, R1, w1⟩ := c_rem hR hI hu hl
    obtain ⟨o, eo, o1, o2, o3⟩ := lp_rel (step := fun q : Int × Int × ZZ => fX5_endDays_s38 v1 q.1 q.2.1 q.2.2) edF (fun i q s => EP B r i q ∧ s.1 = q.2 ∧ s.2.1 = i ∧ RC s.2.2 q.1 ∧ ∀ a, a ≠ 1 → a ≠ 2 → ¬ (3 ≤ a ∧ a ≤ 15) → s.2.2 a = z1 a) (fun q o => o.1 = q.2 ∧ RC o.2 q.1 ∧ ∀ a, a ≠ 1 → a ≠ 2 → ¬ (3 ≤ a ∧ a ≤ 15) → o.2 a = z1 a) v1.toNat 0 (r, 0) (0, 0, z1) FU (FU_lt (by omega)) ⟨EP_0 hI, rfl, rfl, R1, fun _ _ _ _ => rfl⟩ (fun i q s g1 g2 h => by
        obtain ⟨s1, s2, s3⟩ := s
        obtain ⟨hF, x1, x2, x4, x5⟩ := h
        dsimp only at x1 x2 x4 x5
        subst x1 x2
        have hF1 := EP_s hB q2 (show 0 ≤ s2 ∧ s2 < v1 by omega) q1.2 hF
        obtain ⟨y1, y2, y3, y4⟩ := hF
        obtain ⟨v, ev, Rv, fv⟩ := c_endDay x4 y1 (by omega) (by omega)
        have hb := (IH_day y1 (by omega) (by omega)).2.2
        have k1 : s2 < v1 := by omega
        have k2 : inR (s2 + 1) := inR_s (by omega)
        have k3 : inR (q.2 + (dwE q.1).2) := inR_s (by omega)
        refine ⟨(q.2 + (dwE q.1).2, s2 + 1, v), ?_, hF1, rfl, rfl, Rv, fun a p1 p2 p3 => (fv a p1 p2 p3).trans (x5 a p1 p2 p3)⟩
        simp only [fX5_endDays_s38, if_pos k1, ev, Option.bind_some, if_pos k3, if_pos k2]) (fun q s h => by
        obtain ⟨s1, s2, s3⟩ := s
        obtain ⟨hF, x1, x2, x4, x5⟩ := h
        dsimp only at x1 x2 x4 x5
        subst x1 x2
        refine ⟨(q.2, s3), ?_, rfl, x4, x5⟩
        dsimp only
        unfold fX5_endDays_s38
        rw [if_neg (by omega)])
    obtain ⟨ov, oz⟩ := o
    dsimp only at o1 o2 o3 eo
    subst o1
    refine ⟨zup oz 159 0 (ita edF v1.toNat 0 (r, 0)).2, ?_, ?_, Qt_RC Qt_159 o2, w1 _ (fun a p1 p2 p3 p4 p5 => ?_)⟩
    · simp only [fL_endDays, fX5_endDays, n_btw, ed z hR, if_pos q1, if_pos i1, if_pos q3, Option.bind_some, e1, eo]
    · rw [zup_at, if_pos rfl]
    · rw [zup_ne p3, o3 a p1 p2 p5]
  · have hM1 := zup_154 (e := 0) hM
    obtain ⟨z1, e1, r1, w1⟩ := m_rec hM h8 (FM_rf _)
    obtain ⟨o, eo, o1, o2, o3⟩ := lp_rel (step := fun q : Int × Int × ZZ => fX6_endDays_s54 v1 q.1 q.2.1 q.2.2) edF (fun i q s => EP B r i q ∧ s.1 = q.2 ∧ s.2.1 = i ∧ s.2.2 154 = q.1 ∧ FN z1 s.2.2) (fun q o => o.1 = q.2 ∧ o.2 154 = q.1 ∧ FN z1 o.2) v1.toNat 0 (r, 0) (0, 0, z1) FU (FU_lt (by omega)) ⟨EP_0 hI, rfl, rfl, r1, FN_rf z1⟩ (fun i q s g1 g2 h => by
        obtain ⟨s1, s2, s3⟩ := s
        obtain ⟨hF, x1, x2, x4, x5⟩ := h
        dsimp only at x1 x2 x4 x5
        subst x1 x2
        have hF1 := EP_s hB q2 (show 0 ≤ s2 ∧ s2 < v1 by omega) q1.2 hF
        obtain ⟨y1, y2, y3, y4⟩ := hF
        obtain ⟨v, ev, Rv, fv⟩ := m_endDay x4 y1 (by omega) (by omega)
        have hb := (IH_day y1 (by omega) (by omega)).2.2
        have k1 : s2 < v1 := by omega
        have k2 : inR (s2 + 1) := inR_s (by omega)
        have k3 : inR (q.2 + (dwE q.1).2) := inR_s (by omega)
        refine ⟨(q.2 + (dwE q.1).2, s2 + 1, v), ?_, hF1, rfl, rfl, Rv, FN_tr x5 fv⟩
        simp only [fX6_endDays_s54, if_pos k1, ev, Option.bind_some, if_pos k3, if_pos k2]) (fun q s h => by
        obtain ⟨s1, s2, s3⟩ := s
        obtain ⟨hF, x1, x2, x4, x5⟩ := h
        dsimp only at x1 x2 x4 x5
        subst x1 x2
        refine ⟨(q.2, s3), ?_, rfl, x4, x5⟩
        dsimp only
        unfold fX6_endDays_s54
        rw [if_neg (by omega)])
    obtain ⟨ov, oz⟩ := o
    dsimp only at o1 o2 o3 eo
    subst o1
    have m3 : zup z 151 0 0 154 3 = r 3 := by rw [hM1]
    refine ⟨oz, ?_, o2, w1 _ (fun a p1 p2 p3 p4 => o3.1 a p1 p2 p3) (fun j p1 p2 p3 => o3.2 j p1 p2 p3)⟩
    simp only [fX6_endDays, fX6_endDays_b37, zl, m_in, ite_bI, if_pos q1, m3, if_pos i1, if_neg (show ¬ 9999 < r 3 + v1 by omega), m_fails1, Option.bind_some, if_true, e1, eo]
theorem k_endDays (hI : IH B r) (hB : B ≤ 900000) (v1 : Int) : (∃ r' v, Chg r r' v (fL_endDays v1) (fX6_endDays v1) ∧ IH (B + 60) r') ∨ Ask r (fL_endDays v1) (fX6_endDays v1) := by
  have hn := hI.1
  unfold IHn at hn
  by_cases q1 : 1 ≤ v1 ∧ v1 ≤ 60
  · have i1 : inR (r 3 + v1) := inR_s (by omega)
    by_cases q2 : r 3 + v1 ≤ 9999
    · exact Or.inl (g_endDays hI hB q1 q2)
    · refine Or.inr ?_
      refine ask_er 1 (by decide) (fun z hR => ⟨z, ?_, fun _ _ => rfl⟩) (fun z hM => ⟨0, zup z 151 0 0, ?_, FM_rf _⟩)
      · simp only [fL_endDays, fX5_endDays, n_btw, (RCn hR).2.2.2.2.2.2.1, if_pos q1, if_pos i1, if_neg (show ¬ (1 ≤ r 3 + v1 ∧ r 3 + v1 ≤ 9999) by omega), Option.bind_some, if_true] <;> rfl
      · have hM1 := zup_154 (e := 0) hM
        have m3 : zup z 151 0 0 154 3 = r 3 := by rw [hM1]
        simp only [fX6_endDays, fX6_endDays_b36, fX6_endDays_b37, zl, m_in, ite_bI, if_pos q1, m3, if_pos i1, if_pos (show 9999 < r 3 + v1 by omega), m_fails0, Option.bind_some, if_true] <;> rfl
  · refine Or.inr ?_
    refine ask_er 1 (by decide) (fun z hR => ⟨z, ?_, fun _ _ => rfl⟩) (fun z hM => ⟨0, zup z 151 0 0, ?_, FM_rf _⟩)
    · simp only [fL_endDays, fX5_endDays, n_btw, if_neg q1, Option.bind_some, if_true] <;> rfl
    · simp only [fX6_endDays, fX6_endDays_b36, fX6_endDays_b37, zl, m_in, ite_bI, if_neg q1, m_fails0, Option.bind_some, if_true] <;> rfl
theorem w_c15 {v : Int} {ln : Nat} (hV : INV B z) (hB : B ≤ 900000) (h5 : 0 ≤ v ∧ v + 5 < ln) : ∃ z', fL_c15 ln v z = some (1, z') ∧ INV (B + 60) z' ∧ z' 1000000 = z 1000000 := by
  obtain ⟨z', e, f⟩ := w_of hV hB (k_endDays hV.2.1 hB (z 1000000 (v + 1))) (M := fun y => fX6_endDays (y 1000000 (v + 1)) y) (fun y hy => by rw [hy])
  refine ⟨z', ?_, f⟩
  unfold fL_c15
  rw [if_pos (by omega)]
  exact e
end DY

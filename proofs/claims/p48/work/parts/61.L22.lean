set_option maxRecDepth 20000
section AC
variable {col : Col} {D : DD} {g : Int} {r : Row} {M B x y mem rt hs cs wl im ir : Int} {h : HLs}
/-- setting a route -/
theorem XJ_new {r : Row} {w gr : Int} (hI : IH B r) (hJ : XJ r) (h5 : sOn r w < 5) : Suc r (newR r w gr) := by
  have hn := hI.1
  unfold IHn at hn
  refine ⟨fun w' => ?_, by rw [newR_o (by omega) (by omega)]; omega⟩
  have e37 : newR r w gr 37 = (((r 37).toNat + 1 : Nat) : Int) := by rw [newR_37]; omega
  have ec : sCnt (((r 37).toNat : Nat) : Int) (fun k => newR r w gr (38 + 18 * k + 0) = w') = sCnt (r 37) (fun k => r (38 + 18 * k + 0) = w') := by
    rw [Int.toNat_of_nonneg hn.2.2.1]
    exact sCnt_congr (fun k a b => by rw [newR_o (by omega) (by omega)])
  have en : newR r w gr (38 + 18 * (((r 37).toNat : Nat) : Int) + 0) = w := by
    rw [Int.toNat_of_nonneg hn.2.2.1, newR_n hn.2.2.1 (by omega), if_pos rfl]
  rw [e37, sCnt_nat, ec, en]
  split
  · rename_i e
    rw [← e]
    have : sOn r w = sCnt (r 37) (fun k => r (38 + 18 * k + 0) = w) := rfl
    omega
  · exact hJ w'
theorem a_setRoute (H : RLh col D g r M h) (hI : IH B r) (hJ : XJ r) (hB : B ≤ 900000) (hM : M < 900000) (hy : 0 ≤ y) (hw : 0 ≤ wl ∧ wl ≤ r 4) (hT : dT D + 2000 < 600000) (hS : dS D + 50000 ≤ 7200000) {w : Int} (hwh : 0 ≤ w ∧ w ≤ 3) : ∃ due D', fL_act_b106 g w x y mem rt hs cs wl im ir D = some (due, D') ∧ Res col D g r M B (fX5_setRoute wl (sm y 0 29)) due D' := by
  have hn := hI.1
  unfold IHn at hn
  have hN := H.nw
  have hN2 := H.nr
  unfold fL_act_b106
  rw [if_pos hwh, l_some hy (by decide)]
  simp only [Option.bind_some]
  rw [if_pos H.o, s_size H.w.1]
  simp only [Option.bind_some]
  rw [if_pos H.w.1.1, hN]
  by_cases q0 : wl = r 4
  · rw [if_pos q0]
    refine ⟨_, _, rfl, errE H (E := 0) (by decide) rfl (fun z hR => ⟨z, ?_, fun _ _ => rfl⟩)⟩
    simp only [fX5_setRoute, n_row, RCn hR, if_neg (show ¬ (0 ≤ wl ∧ wl < r 4) by omega), Option.bind_some] <;> rfl
  have q1 : 0 ≤ wl ∧ wl < r 4 := by omega
  rw [if_neg q0, l_is]
  simp only [Option.bind_some]
  by_cases q2 : ¬ (0 ≤ sm y 0 29 ∧ sm y 0 29 ≤ 29)
  · rw [if_pos (bI_f q2)]
    refine ⟨_, _, rfl, errE H (E := 1) (by decide) rfl (fun z hR => ⟨z, ?_, fun _ _ => rfl⟩)⟩
    simp only [fX5_setRoute, n_row, n_btw, RCn hR, if_pos q1, if_neg q2, Option.bind_some] <;> rfl
  have q2 := Decidable.not_not.mp q2
  rw [if_neg (by rw [bI_t q2]; decide), l_isClosed H q1]
  simp only [Option.bind_some]
  by_cases q3 : sClosed r wl
  · rw [if_neg (by rw [bI_t q3]; decide)]
    refine ⟨_, _, rfl, errE H (E := 2) (by decide) rfl (fun z hR => ⟨z, ?_, fun _ _ => rfl⟩)⟩
    simp only [fX5_setRoute, n_row, n_btw, RCn hR, if_pos q1, if_pos q2, Option.bind_some, c_isClosed hR hI q1, ite_bI, if_pos q3] <;> rfl
  obtain ⟨D1, e1, E1⟩ := l_onWall H (w := wl) (by omega) (by omega)
  rw [if_pos (bI_f q3), e1]
  simp only [Option.bind_some]
  have H1 := H.tmp E1
  have b1 := E1.2.1
  have b2 := E1.2.2.2.1
  have hj := hJ wl
  have on : sOn r wl = sCnt (r 37) (fun k => r (38 + 18 * k + 0) = wl) := rfl
  by_cases q4 : sOn r wl = 5
  · rw [if_pos q4]
    refine ⟨_, _, rfl, errD H (E := 2) (by decide) rfl (fun z hR => ⟨z, ?_, fun _ _ => rfl⟩) E1 (by decide) (by decide)⟩
    simp only [fX5_setRoute, fX5_setRoute_b64, n_row, n_btw, RCn hR, if_pos q1, if_pos q2, Option.bind_some, c_isClosed hR hI q1, ite_bI, if_neg q3, c_routesOn hR hI, if_neg (show ¬ sCnt (r 37) (fun k => r (38 + 18 * k + 0) = wl) < 5 by omega)] <;> rfl
  rw [if_neg q4, s_size H1.rt.1]
  simp only [Option.bind_some]
  rw [if_pos H1.rt.1.1, hN2]
  have q4' : sCnt (r 37) (fun k => r (38 + 18 * k + 0) = wl) < 5 := by omega
  by_cases q5 : r 37 = 24
  · rw [if_pos q5]
    refine ⟨_, _, rfl, errD H (E := 2) (by decide) rfl (fun z hR => ⟨z, ?_, fun _ _ => rfl⟩) E1 (by decide) (by decide)⟩
    have ef : fX4_isFull 6 z = some 1 := by
      unfold fX4_isFull
      rw [(RCn hR).2.1, if_neg (show ¬ r 37 < zMR 6 by rw [q5]; decide)]
    simp only [fX5_setRoute, fX5_setRoute_b64, n_row, n_btw, RCn hR, if_pos q1, if_pos q2, Option.bind_some, c_isClosed hR hI q1, ite_bI, if_neg q3, c_routesOn hR hI, if_pos q4', ef] <;> rfl
  obtain ⟨D18, D19, a1, a2, a3⟩ := l_addRoute (wl := wl) (gr := sm y 0 29) H1 hI (by omega) hM (by omega) (by omega)
  have a3' := a3
  obtain ⟨col', M', h', R1, c1, Ea, m1, m2⟩ := a3
  have hN3 := R1.nr
  rw [newR_37] at hN3
  rw [if_neg q5, if_pos ⟨by omega, by omega⟩, zl_eq, a1]
  simp only [Option.bind_some]
  rw [a2]
  simp only [Option.bind_some]
  rw [s_size R1.rt.1]
  simp only [Option.bind_some]
  rw [if_pos R1.rt.1.1, hN3, if_pos (by constructor <;> omega)]
  obtain ⟨g1, g2⟩ := g_setRoute hI q1 q2 q3 q4' (by omega)
  refine ⟨_, _, rfl, Or.inl ⟨_, by omega, by rw [show r 37 + 1 - 1 = r 37 by omega]; exact ChgC_of g1, IH_mono g2 (by omega) (by omega), XJ_new hI hJ (by omega), ?_⟩⟩
  exact (Out.tr (col1 := col) (fun _ _ => rfl) E1.no ⟨Int.le_refl _, by omega⟩ a3').mono (m := 0 + 1) (by omega) (by omega) (by omega)
/-- lending -/
theorem a_lend (H : RLh col D g r M h) (hI : IH B r) (hJ : XJ r) (hB : B ≤ 900000) (hm : 0 ≤ mem ∧ mem ≤ r 546) (him : im = bI (mem < r 546)) (hh : 0 ≤ hs ∧ hs ≤ r 470) (hT : dT D + 2000 < 600000) (hS : dS D + 50000 ≤ 7200000) {w : Int} (hw : 11 ≤ w ∧ w ≤ 13) : ∃ due D', fL_act_b106 g w x y mem rt hs cs wl im ir D = some (due, D') ∧ Res col D g r M B (fX5_lend mem hs) due D' := by
  have hn := hI.1
  unfold IHn at hn
  have hN := H.nh
  unfold fL_act_b106
  rw [if_neg (by omega), if_neg (by omega), if_neg (by omega), if_neg (by omega), if_pos hw, him]
  by_cases q1 : ¬ (mem < r 546)
  · rw [if_pos (bI_f q1)]
    refine ⟨_, _, rfl, errE H (E := 0) (by decide) rfl (fun z hR => ⟨z, ?_, fun _ _ => rfl⟩)⟩
    simp only [fX5_lend, n_row, RCn hR, if_neg (show ¬ (0 ≤ mem ∧ mem < r 546) from fun q => q1 q.2), Option.bind_some] <;> rfl
  have q1 := Decidable.not_not.mp q1
  have q1' : 0 ≤ mem ∧ mem < r 546 := ⟨hm.1, q1⟩
  rw [if_neg (by rw [bI_t q1]; decide), if_pos H.o, s_size H.hs.1]
  simp only [Option.bind_some]
  rw [if_pos H.hs.1.1, hN]
  by_cases q2 : hs = r 470
  · rw [if_pos q2]
    refine ⟨_, _, rfl, errE H (E := 0) (by decide) rfl (fun z hR => ⟨z, ?_, fun _ _ => rfl⟩)⟩
    simp only [fX5_lend, n_row, RCn hR, if_pos q1', if_neg (show ¬ (0 ≤ hs ∧ hs < r 470) by omega), Option.bind_some] <;> rfl
  have q2' : 0 ≤ hs ∧ hs < r 470 := by omega
  obtain ⟨e1, p1⟩ := H.gm q1'
  obtain ⟨e2, p2⟩ := H.gh q2'
  have hhr := hI.2.2.2.1 hs q2'.1 q2'.2
  have m3 : dW D (h.lm.getD mem.toNat 0) 3 = r (547 + 6 * mem + 3) := p1.at (i := 3) ⟨by decide, by decide⟩
  have m0 : dW D (h.lm.getD mem.toNat 0) 0 = r (547 + 6 * mem + 0) := p1.at (i := 0) ⟨by decide, by decide⟩
  have h0 : dW D (h.lh.getD hs.toNat 0) 0 = r (471 + 5 * hs + 0) := p2.at (i := 0) ⟨by decide, by decide⟩
  rw [if_neg q2, e1]
  simp only [Option.bind_some]
  rw [if_pos H.mb.1.1, if_pos p1.1.1, e2]
  simp only [Option.bind_some]
  rw [if_pos p2.1.1, if_pos (p1.rng (i := 3) ⟨by decide, by decide⟩), m3]
  by_cases k1 : ¬ (r (547 + 6 * mem + 3) = -1)
  · rw [if_neg k1]
    refine ⟨_, _, rfl, errE H (E := 2) (by decide) rfl (fun z hR => ⟨z, ?_, fun _ _ => rfl⟩)⟩
    simp only [fX5_lend, n_row, RCn hR, if_pos q1', if_pos q2', Option.bind_some, c_harnessOf hR hI q1', if_neg k1] <;> rfl
  have k1 := Decidable.not_not.mp k1
  rw [if_pos k1, if_pos (p1.rng (i := 0) ⟨by decide, by decide⟩), if_pos (p2.rng (i := 0) ⟨by decide, by decide⟩), m0, h0]
  by_cases k2 : ¬ (r (547 + 6 * mem + 0) = r (471 + 5 * hs + 0))
  · rw [if_neg k2]
    refine ⟨_, _, rfl, errE H (E := 2) (by decide) rfl (fun z hR => ⟨z, ?_, fun _ _ => rfl⟩)⟩
    simp only [fX5_lend, n_row, RCn hR, if_pos q1', if_pos q2', Option.bind_some, c_harnessOf hR hI q1', if_pos k1, cg12 hR hI q1' (c := 0) (by omega), cg10 hR hI q2' (c := 0) (by omega), if_neg k2] <;> rfl
  have k2 := Decidable.not_not.mp k2
  have err : ¬ sLendable r hs → AskE r 2 (fX5_lend mem hs) := fun q z hR => ⟨z, by
    simp only [fX5_lend, n_row, RCn hR, if_pos q1', if_pos q2', Option.bind_some, c_harnessOf hR hI q1', if_pos k1, cg12 hR hI q1' (c := 0) (by omega), cg10 hR hI q2' (c := 0) (by omega), if_pos k2, c_isLendable hR hI q2', ite_bI, if_neg q], fun _ _ => rfl⟩
  obtain ⟨D1, e3, E1⟩ := l_isLent H hI q2' (by omega) (by omega)
  have H1 := H.tmp E1
  obtain ⟨f1, u1⟩ := H1.gm q1'
  obtain ⟨f2, u2⟩ := H1.gh q2'
  rw [if_pos k2, e3]
  simp only [Option.bind_some]
  by_cases k3 : sLent r hs
  · rw [if_neg (by rw [bI_t k3]; decide)]
    exact ⟨_, _, rfl, errD H (E := 2) (by decide) rfl (err (fun q => q.1 k3)) E1 (by decide) (by decide)⟩
  rw [if_pos (bI_f k3), H1.f3, l_inForce H1 hI q2']
  simp only [Option.bind_some]
  by_cases k4 : ¬ sForce r hs (r 3)
  · rw [if_pos (bI_f k4)]
    exact ⟨_, _, rfl, errD H (E := 2) (by decide) rfl (err (fun q => k4 q.2)) E1 (by decide) (by decide)⟩
  have k4 := Decidable.not_not.mp k4
  have R2 := H1.mcell (v := hs) (j := 3) hI.1 q1' ⟨by decide, by decide⟩
  obtain ⟨f3, u3⟩ := R2.gh (w := hs) (by rw [rup_neq (by omega)]; exact q2')
  have v1 : dW (dup D1 (h.lm.getD mem.toNat 0) 3 hs) (h.lh.getD hs.toNat 0) 1 = r (471 + 5 * hs + 1) := by
    rw [u3.at (i := 1) ⟨by decide, by decide⟩]
    exact rup_neq (by omega)
  have v2 : dW (dup D1 (h.lm.getD mem.toNat 0) 3 hs) (h.lh.getD hs.toNat 0) 2 = r (471 + 5 * hs + 2) := by
    rw [u3.at (i := 2) ⟨by decide, by decide⟩]
    exact rup_neq (by omega)
  rw [if_neg (by rw [bI_t k4]; decide), if_pos (u1.rng (i := 3) ⟨by decide, by decide⟩), zl_eq, if_pos (u3.rng (i := 1) ⟨by decide, by decide⟩), if_pos (u3.rng (i := 2) ⟨by decide, by decide⟩), v1, v2, if_pos (by constructor <;> omega)]
  obtain ⟨g1, g2⟩ := g_lend hI q1' q2' ⟨k1, k2, k3, k4⟩
  have hv : r (471 + 5 * hs + 1) + r (471 + 5 * hs + 2) = sLapse (rup (rup r (547 + 6 * mem + 3) hs) (471 + 5 * hs + 4) 1) hs := by
    unfold sLapse
    rw [rup_neq (by omega), rup_neq (by omega), rup_neq (by omega), rup_neq (by omega)]
    omega
  refine ⟨_, _, rfl, Or.inl ⟨_, by omega, by rw [hv]; exact ChgC_of g1, IH_mono g2 (by omega) (by omega), Suc.cg hJ (by rw [rup_neq (by omega), rup_neq (by omega)]) (by rw [rup_neq (by omega), rup_neq (by omega)]) (fun k a b => by rw [rup_neq (by omega), rup_neq (by omega)]), ?_⟩⟩
  refine Out.of (RLh.lent (B := B) R2 ?_ ?_) ((E1.no.trans (Ev.dup (P := fun a => (col a).1 = g) D1 (fun _ => by rw [u1.2.1])) (fun _ _ z => z)).mono (by decide) (by decide) (fun _ _ z => z)) (by decide)
  · unfold IHn
    rw [rup_neq (by omega), rup_neq (by omega), rup_neq (by omega), rup_neq (by omega), rup_neq (by omega), rup_neq (by omega), rup_neq (by omega), rup_neq (by omega), rup_neq (by omega), rup_neq (by omega)]
    exact hn
  · rw [rup_neq (by omega)]
    exact q2'
end AC

set_option maxRecDepth 20000
section AC
variable {col : Col} {D : DD} {g : Int} {r : Row} {M B x y mem rt hs cs wl im ir : Int} {h : HLs}
theorem zbit {a k : Int} (ha : 0 ≤ a ∧ a < 4096) (hk : 0 ≤ k ∧ k < 12) : (zand (zshr a k) 1 = 0 ↔ ¬ sBit a k) := by
  have h1 := zshr_nat (a := a.toNat) (k := k.toNat) (by omega) (by omega)
  have h2 := zushr_nat (a := a.toNat) (k := k.toNat) (by omega) (by omega)
  rw [Int.toNat_of_nonneg ha.1, Int.toNat_of_nonneg hk.1] at h1 h2
  unfold sBit
  rw [h1, h2]
  have hle : a.toNat / 2 ^ k.toNat ≤ a.toNat := Nat.div_le_self _ _
  have h3 := zand_nat (a := a.toNat / 2 ^ k.toNat) (b := 1) (by omega)
  have e : ((1 : Nat) : Int) = 1 := rfl
  rw [e] at h3
  rw [h3, Nat.and_one_is_mod]
  omega
/-- voting -/
theorem a_vote (H : RLh col D g r M h) (hI : IH B r) (hJ : XJ r) (hB : B ≤ 900000) (hM : M < 800000) (hy : 0 ≤ y) (hm : 0 ≤ mem ∧ mem ≤ r 546) (him : im = bI (mem < r 546)) (hr : 0 ≤ rt ∧ rt ≤ r 37) (hir : ir = bI (rt < r 37)) (hT : dT D + 2000 < 600000) (hS : dS D + 50000 ≤ 7200000) {w : Int} (hw : 9 ≤ w ∧ w ≤ 10) : ∃ due D', fL_act_b106 g w x y mem rt hs cs wl im ir D = some (due, D') ∧ Res col D g r M B (fX5_vote mem rt (sm (y / 7) 0 29)) due D' := by
  have hn := hI.1
  unfold IHn at hn
  unfold fL_act_b106
  rw [if_neg (by omega), if_neg (by omega), if_neg (by omega), if_pos hw, if_pos ⟨hy, by decide⟩, l_some (Int.ediv_nonneg hy (by decide)) (by decide), him, hir]
  simp only [Option.bind_some]
  generalize hgr : sm (y / 7) 0 29 = gr
  by_cases q1 : ¬ (mem < r 546)
  · rw [if_pos (bI_f q1)]
    refine ⟨_, _, rfl, errE H (E := 0) (by decide) rfl (fun z hR => ⟨z, ?_, fun _ _ => rfl⟩)⟩
    simp only [fX5_vote, n_row, RCn hR, if_neg (show ¬ (0 ≤ mem ∧ mem < r 546) from fun q => q1 q.2), Option.bind_some] <;> rfl
  have q1 := Decidable.not_not.mp q1
  have q1' : 0 ≤ mem ∧ mem < r 546 := ⟨hm.1, q1⟩
  rw [if_neg (by rw [bI_t q1]; decide)]
  by_cases q2 : ¬ (rt < r 37)
  · rw [if_pos (bI_f q2)]
    refine ⟨_, _, rfl, errE H (E := 0) (by decide) rfl (fun z hR => ⟨z, ?_, fun _ _ => rfl⟩)⟩
    simp only [fX5_vote, n_row, RCn hR, if_pos q1', if_neg (show ¬ (0 ≤ rt ∧ rt < r 37) from fun q => q2 q.2), Option.bind_some] <;> rfl
  have q2 := Decidable.not_not.mp q2
  have q2' : 0 ≤ rt ∧ rt < r 37 := ⟨hr.1, q2⟩
  have ert : ((rt.toNat : Nat) : Int) = rt := Int.toNat_of_nonneg q2'.1
  rw [if_neg (by rw [bI_t q2]; decide), l_is]
  simp only [Option.bind_some]
  by_cases q3 : ¬ (0 ≤ gr ∧ gr ≤ 29)
  · rw [if_pos (bI_f q3)]
    refine ⟨_, _, rfl, errE H (E := 1) (by decide) rfl (fun z hR => ⟨z, ?_, fun _ _ => rfl⟩)⟩
    simp only [fX5_vote, n_row, n_btw, RCn hR, if_pos q1', if_pos q2', if_neg q3, Option.bind_some] <;> rfl
  have q3 := Decidable.not_not.mp q3
  obtain ⟨e2, p2⟩ := H.gr q2'
  have hlr : rt.toNat < h.lr.length := by have := H.nr; omega
  have hx := hI.2.2.1 rt q2'.1 q2'.2
  have w5 : dW D (h.lr.getD rt.toNat 0) 5 = r (38 + 18 * rt + 5) := p2.at (i := 5) ⟨by decide, by decide⟩
  rw [if_neg (by rw [bI_t q3]; decide), if_pos H.o, e2]
  simp only [Option.bind_some]
  rw [if_pos H.rt.1.1, if_pos p2.1, w5]
  have hb := zbit (k := mem) hx.2.2.2.2.1 (by omega)
  by_cases q4 : ¬ sBit (r (38 + 18 * rt + 5)) mem
  · rw [if_pos (hb.mpr q4)]
    refine ⟨_, _, rfl, errE H (E := 2) (by decide) rfl (fun z hR => ⟨z, ?_, fun _ _ => rfl⟩)⟩
    simp only [fX5_vote, n_row, n_btw, RCn hR, if_pos q1', if_pos q2', if_pos q3, Option.bind_some, c_hasClimbed hR hI q2', ite_bI, if_neg q4] <;> rfl
  have q4 := Decidable.not_not.mp q4
  rw [if_neg (fun q => hb.mp q q4), s_valueOf ⟨by omega, by omega⟩]
  simp only [Option.bind_some]
  rw [s_valueOf ⟨by omega, by omega⟩]
  simp only [Option.bind_some]
  obtain ⟨y1, y2, y3, L, y4, y5⟩ := p2
  have hL12 : L.length ≤ 12 := by
    have q : (L.length : Int) = sCnt (r 546) (fun m => r (38 + 18 * rt + (6 + m)) ≠ -1 ∧ True) := VT_len y5 hn.2.2.2.2.2.2.1
    have q2 := sCnt_bd (fun m => r (38 + 18 * rt + (6 + m)) ≠ -1 ∧ True) (r 546).toNat
    rw [Int.toNat_of_nonneg hn.2.2.2.2.2.2.1] at q2
    omega
  have bxm : isBox (1000428 + mem) := ⟨by omega, by omega⟩
  have bxg : isBox (1000428 + gr) := ⟨by omega, by omega⟩
  obtain ⟨rr, D1, L', s1, s2, s3, s4⟩ := s_put (k := mem) (v := gr) y4 y5.1 bxm bxg (by omega) (by omega) (by omega) (by omega)
  obtain ⟨g1, g2⟩ := g_vote (v3 := gr) hI q1' q2' q3 q4
  have b1 := s4.1
  generalize he : h.lr.getD rt.toNat 0 = e at *
  generalize hc : (fun a => if dT D ≤ a then (g, e) else col a : Col) = col'
  have c0 : ∀ a, a < dT D → col' a = col a := fun a ha => by rw [← hc]; exact if_neg (by omega)
  have H0 : RLh col' D g r M h := H.keep (Ev.refl (fun _ => False) D) (fun _ _ _ z => z) c0
  have H1 : RLh col' D1 g (rup r (38 + 18 * rt + (6 + mem)) gr) (M + 1) h := by
    have T1 : TM (fun a => col' a = (g, h.lr.getD rt.toNat 0)) D1 (dW D (h.lr.getD rt.toNat 0) 6) L' (M + 1) := by
      rw [he]
      refine s3.mono (fun a ha q => ?_) (Int.le_refl _)
      rcases q with q | q
      · by_cases c : a < dT D
        · rw [c0 a c]; exact q
        · rw [← hc]; exact if_pos (by omega)
      · rw [← hc]; exact if_pos q.1
    refine H0.votes hlr (r' := rup r (38 + 18 * rt + (6 + mem)) gr) (c := 1) (s := 6) ?_ T1 ?_ (fun j hj => rup_neq (by omega)) hI.1 (by omega) (by omega)
    · rw [he]
      exact s4.mono (Int.le_refl _) (Int.le_refl _) (fun a ha q => by rw [c0 a ha]; exact q)
    · rw [rup_neq (by omega), ert]
      refine VT_put y5 s2 q1' q3 (fun m m0 m1 => ?_)
      show rup r (38 + 18 * rt + (6 + mem)) gr (38 + 18 * rt + (6 + m)) = if m = mem then gr else r (38 + 18 * rt + (6 + m))
      by_cases c : m = mem
      · rw [if_pos c, c, rup_eq]
      · rw [if_neg c, rup_neq (by omega)]
  obtain ⟨D2, col2, u1, u2, u3, u4⟩ := l_grade H1 g2 hlr (by have := s4.2.1; omega) (by have := s4.2.2.2.1; omega)
  rw [he, ert] at u1
  rw [s1]
  simp only [Option.bind_some]
  rw [if_pos y4.1.1, u1]
  simp only [Option.bind_some]
  have hgo := sGr_ok g2 (k := rt) (by rw [rup_neq (by omega)]; exact q2')
  refine ⟨_, _, rfl, Or.inl ⟨_, ?_, ChgC_of g1, IH_mono g2 (by omega) (by omega), Suc.cg hJ (rup_neq (by omega)) (rup_neq (by omega)) (fun k a b => rup_neq (by omega)), ?_⟩⟩
  · have : sG (rup r (38 + 18 * rt + (6 + mem)) gr) rt 0 0 = sGr (rup r (38 + 18 * rt + (6 + mem)) gr) rt := rfl
    omega
  · have EA : Ev (fun a => (col a).1 = g) 1 6 D D1 := s4.mono (Int.le_refl _) (Int.le_refl _) (fun a ha q => by have q : col a = (g, e) := q; rw [q])
    exact (Out.tr (col1 := col') c0 EA (m := 1) ⟨by omega, by omega⟩ ⟨col2, M + 1, h, u2, u3, u4.own, Int.le_refl _, by omega⟩ (m' := 0)).mono (by decide) (by decide) (by decide)
end AC

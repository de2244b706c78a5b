set_option maxRecDepth 20000
theorem IHn.up {r : Row} {B p v : Int} (h : IHn B r) (hp : 3 < p ∧ p ≠ 4 ∧ p ≠ 37 ∧ p ≠ 470 ∧ p ≠ 546 ∧ p ≠ 619 ∧ p ≠ 644) : IHn B (rup r p v) := by
  unfold IHn at *
  rw [rup_neq (by omega), rup_neq (by omega), rup_neq (by omega), rup_neq (by omega), rup_neq (by omega), rup_neq (by omega), rup_neq (by omega), rup_neq (by omega), rup_neq (by omega), rup_neq (by omega)]
  exact h
section AC
variable {col : Col} {D : DD} {g : Int} {r : Row} {M B x y mem rt hs cs wl im ir : Int} {h : HLs}
/-- a check -/
theorem a_check (H : RLh col D g r M h) (hI : IH B r) (hJ : XJ r) (hB : B ≤ 900000) (hh : 0 ≤ hs ∧ hs ≤ r 470) (hx : 0 ≤ x) (hT : dT D + 2000 < 600000) (hS : dS D + 50000 ≤ 7200000) : ∃ due D', fL_act_b106 g 15 x y mem rt hs cs wl im ir D = some (due, D') ∧ Res col D g r M B (fX5_check hs (bI (0 < x % 5))) due D' := by
  have hn := hI.1
  unfold IHn at hn
  have hN := H.nh
  have key : ∀ gd : Int, (gd = 0 ∨ gd = 1) → ∃ due D', fL_act_b724 g hs gd D = some (due, D') ∧ Res col D g r M B (fX5_check hs gd) due D' := by
    intro gd hgd
    unfold fL_act_b724
    rw [if_pos H.o, s_size H.hs.1]
    simp only [Option.bind_some]
    rw [if_pos H.hs.1.1, hN]
    by_cases q2 : hs = r 470
    · rw [if_pos q2]
      refine ⟨_, _, rfl, errE H (E := 0) (by decide) rfl (fun z hR => ⟨z, ?_, fun _ _ => rfl⟩)⟩
      simp only [fX5_check, n_row, RCn hR, if_neg (show ¬ (0 ≤ hs ∧ hs < r 470) by omega), Option.bind_some] <;> rfl
    have q2' : 0 ≤ hs ∧ hs < r 470 := by omega
    obtain ⟨e2, p2⟩ := H.gh q2'
    have hhr := hI.2.2.2.1 hs q2'.1 q2'.2
    have hh1 := hhr.1
    have hh3 := hhr.2.2.1
    clear hhr
    obtain ⟨D1, e3, E1⟩ := l_isLent H hI q2' (by omega) (by omega)
    have H1 := H.tmp E1
    obtain ⟨f2, u2⟩ := H1.gh q2'
    have w3 : dW D1 (h.lh.getD hs.toNat 0) 3 = r (471 + 5 * hs + 3) := u2.at (i := 3) ⟨by decide, by decide⟩
    rw [if_neg q2, e2]
    simp only [Option.bind_some]
    rw [if_pos p2.1.1, e3]
    simp only [Option.bind_some]
    by_cases k3 : sLent r hs
    · rw [if_neg (by rw [bI_t k3]; decide)]
      refine ⟨_, _, rfl, errD H (E := 2) (by decide) rfl (fun z hR => ⟨z, ?_, fun _ _ => rfl⟩) E1 (by decide) (by decide)⟩
      by_cases k4 : sRet r hs
      · simp only [fX5_check, n_row, RCn hR, if_pos q2', Option.bind_some, c_stateOf hR hI q2', if_pos k4, if_neg (show ¬ (2 : Int) = 0 by decide)] <;> rfl
      · simp only [fX5_check, n_row, RCn hR, if_pos q2', Option.bind_some, c_stateOf hR hI q2', if_neg k4, if_pos k3, if_neg (show ¬ (1 : Int) = 0 by decide)] <;> rfl
    rw [if_pos (bI_f k3), if_pos (u2.rng (i := 3) ⟨by decide, by decide⟩), w3]
    by_cases k4 : sRet r hs
    · rw [if_pos k4]
      refine ⟨_, _, rfl, errD H (E := 2) (by decide) rfl (fun z hR => ⟨z, ?_, fun _ _ => rfl⟩) E1 (by decide) (by decide)⟩
      simp only [fX5_check, n_row, RCn hR, if_pos q2', Option.bind_some, c_stateOf hR hI q2', if_pos k4, if_neg (show ¬ (2 : Int) = 0 by decide)] <;> rfl
    have k4' : ¬ r (471 + 5 * hs + 3) = 1 := k4
    rw [if_neg k4', if_pos (u2.rng (i := 2) ⟨by decide, by decide⟩), zl_eq, H1.f3]
    obtain ⟨gA, gB⟩ := g_check (v2 := gd) hI q2' k4 k3
    have R2 := H1.hcell (v := r 3) (j := 2) hI.1 q2' ⟨by decide, by decide⟩
    have ED : Ev (fun a => (col a).1 = g) 1 4 D (dup D1 (h.lh.getD hs.toNat 0) 2 (r 3)) := (E1.no.trans (Ev.dup (P := fun a => (col a).1 = g) D1 (fun _ => by rw [u2.2.1])) (fun _ _ z => z)).mono (by decide) (by decide) (fun _ _ z => z)
    obtain ⟨f3, u3⟩ := R2.gh (w := hs) (by rw [rup_neq (by omega)]; exact q2')
    by_cases k5 : gd = 0
    · obtain ⟨g1, g2⟩ := gA k5
      have R3 := R2.hcell (v := 1) (j := 3) (B := B) (hI.1.up (by omega)) (k := hs) (by rw [rup_neq (by omega)]; exact q2') ⟨by decide, by decide⟩
      unfold fL_act_b793
      rw [if_pos k5, if_pos (u3.rng (i := 3) ⟨by decide, by decide⟩), zl_eq, if_pos k5]
      refine ⟨_, _, rfl, Or.inl ⟨_, by omega, ChgC_of g1, IH_mono g2 (by omega) (by omega), Suc.cg hJ (by rw [rup_neq (by omega), rup_neq (by omega)]) (by rw [rup_neq (by omega), rup_neq (by omega)]) (fun k a b => by rw [rup_neq (by omega), rup_neq (by omega)]), ?_⟩⟩
      exact Out.of R3 ((ED.trans (Ev.dup (P := fun a => (col a).1 = g) _ (fun _ => by rw [u2.2.1])) (fun _ _ z => z)).mono (by decide) (by decide) (fun _ _ z => z)) (by decide)
    · obtain ⟨g1, g2⟩ := gB k5
      have v1 : dW (dup D1 (h.lh.getD hs.toNat 0) 2 (r 3)) (h.lh.getD hs.toNat 0) 1 = r (471 + 5 * hs + 1) := by
        rw [u3.at (i := 1) ⟨by decide, by decide⟩]
        exact rup_neq (by omega)
      have v2 : dW (dup D1 (h.lh.getD hs.toNat 0) 2 (r 3)) (h.lh.getD hs.toNat 0) 2 = r 3 := by
        rw [dup_at, if_pos ⟨rfl, rfl⟩]
      unfold fL_act_b793
      rw [if_neg k5, if_neg k5, if_pos u3.1.1, if_pos (u3.rng (i := 1) ⟨by decide, by decide⟩), if_pos (u3.rng (i := 2) ⟨by decide, by decide⟩), v1, v2, if_pos (by constructor <;> omega)]
      have hv : r (471 + 5 * hs + 1) + r 3 = sLapse (rup r (471 + 5 * hs + 2) (r 3)) hs := by
        unfold sLapse
        rw [rup_eq, rup_neq (by omega)]
        omega
      refine ⟨_, _, rfl, Or.inl ⟨_, by omega, by rw [hv]; exact ChgC_of g1, IH_mono g2 (by omega) (by omega), Suc.cg hJ (rup_neq (by omega)) (rup_neq (by omega)) (fun k a b => rup_neq (by omega)), ?_⟩⟩
      exact Out.of R2 (ED.mono (by decide) (by decide) (fun _ _ z => z)) (by decide)
  unfold fL_act_b106
  rw [if_neg (by decide), if_neg (by decide), if_neg (by decide), if_neg (by decide), if_neg (by decide), if_neg (by decide), if_pos rfl, if_pos ⟨hx, by decide⟩]
  by_cases c : 0 < x % 5
  · rw [if_pos c, bI_t c]
    exact key 1 (Or.inr rfl)
  · rw [if_neg c, bI_f c]
    exact key 0 (Or.inl rfl)
/-- the ballot's new vote -/
theorem VT_put {L L' : List (Int × Int)} {f f' : Int → Int} {n k v : Int} (h : VT L f n) (hp : Put L k v L') (hk : 0 ≤ k ∧ k < n) (hv : 0 ≤ v ∧ v ≤ 29) (hf : ∀ m, 0 ≤ m → m < n → f' m = if m = k then v else f m) : VT L' f' n := by
  obtain ⟨h1, h2, h3⟩ := h
  obtain ⟨A, Bs, a1, a2, a3, a4⟩ := hp
  have mem : ∀ q : Int × Int, q ∈ A ∨ q ∈ Bs → q ∈ L := fun q hq => by
    rcases a4 with e | ⟨v0, e⟩
    · rw [e]; simpa using hq
    · rw [e]; rcases hq with w | w <;> simp [w]
  have mem2 : ∀ q : Int × Int, q ∈ L → q.1 ≠ k → q ∈ A ∨ q ∈ Bs := fun q hq hne => by
    rcases a4 with e | ⟨v0, e⟩
    · rw [e] at hq; simpa using hq
    · rw [e] at hq
      rcases List.mem_append.mp hq with w | w
      · exact Or.inl w
      · rcases List.mem_cons.mp w with w | w
        · rw [w] at hne; exact absurd rfl hne
        · exact Or.inr w
  have sA : A.Pairwise (fun a b => a.1 < b.1) := by
    rcases a4 with e | ⟨v0, e⟩
    · rw [e] at h1; exact (List.pairwise_append.mp h1).1
    · rw [e] at h1; exact (List.pairwise_append.mp h1).1
  have sB : Bs.Pairwise (fun a b => a.1 < b.1) := by
    rcases a4 with e | ⟨v0, e⟩
    · rw [e] at h1; exact (List.pairwise_append.mp h1).2.1
    · rw [e] at h1; exact (List.pairwise_cons.mp (List.pairwise_append.mp h1).2.1).2
  subst a3
  refine ⟨?_, fun q hq => ?_, fun m w m0 m1 => ?_⟩
  · show List.Pairwise _ _
    rw [List.pairwise_append]
    refine ⟨sA, ?_, fun a ha b hb => ?_⟩
    · rw [List.pairwise_cons]
      exact ⟨fun b hb => a2 b hb, sB⟩
    · rcases List.mem_cons.mp hb with w | w
      · rw [w]; exact a1 a ha
      · have := a1 a ha
        have := a2 b w
        omega
  · rcases List.mem_append.mp hq with w | w
    · exact h2 q (mem q (Or.inl w))
    · rcases List.mem_cons.mp w with w | w
      · rw [w]; exact ⟨hk, hv⟩
      · exact h2 q (mem q (Or.inr w))
  · rw [hf m m0 m1]
    by_cases c : m = k
    · subst c
      rw [if_pos rfl]
      constructor
      · intro hq
        rcases List.mem_append.mp hq with w' | w'
        · have := a1 _ w'
          have : m < m := this
          omega
        · rcases List.mem_cons.mp w' with w' | w'
          · have : w = v := congrArg Prod.snd w'
            omega
          · have := a2 _ w'
            have : m < m := this
            omega
      · rintro ⟨q1, -⟩
        rw [q1]
        simp
    · rw [if_neg c, ← h3 m w m0 m1]
      constructor
      · intro hq
        rcases List.mem_append.mp hq with w' | w'
        · exact mem _ (Or.inl w')
        · rcases List.mem_cons.mp w' with w' | w'
          · exact absurd (congrArg Prod.fst w') c
          · exact mem _ (Or.inr w')
      · intro hq
        rcases mem2 _ hq c with w' | w'
        · exact List.mem_append.mpr (Or.inl w')
        · exact List.mem_append.mpr (Or.inr (List.mem_cons.mpr (Or.inr w')))
/-- climbing -/
theorem a_climb (H : RLh col D g r M h) (hI : IH B r) (hJ : XJ r) (hB : B ≤ 900000) (hm : 0 ≤ mem ∧ mem ≤ r 546) (him : im = bI (mem < r 546)) (hr : 0 ≤ rt ∧ rt ≤ r 37) (hir : ir = bI (rt < r 37)) (hT : dT D + 2000 < 600000) (hS : dS D + 50000 ≤ 7200000) {w : Int} (hw : 5 ≤ w ∧ w ≤ 8) : ∃ due D', fL_act_b106 g w x y mem rt hs cs wl im ir D = some (due, D') ∧ Res col D g r M B (fX5_climb mem rt) due D' := by
  have hn := hI.1
  unfold IHn at hn
  unfold fL_act_b106
  rw [if_neg (by omega), if_neg (by omega), if_pos hw, him, hir]
  by_cases q1 : ¬ (mem < r 546)
  · rw [if_pos (bI_f q1)]
    refine ⟨_, _, rfl, errE H (E := 0) (by decide) rfl (fun z hR => ⟨z, ?_, fun _ _ => rfl⟩)⟩
    simp only [fX5_climb, n_row, RCn hR, if_neg (show ¬ (0 ≤ mem ∧ mem < r 546) from fun q => q1 q.2), Option.bind_some] <;> rfl
  have q1 := Decidable.not_not.mp q1
  have q1' : 0 ≤ mem ∧ mem < r 546 := ⟨hm.1, q1⟩
  rw [if_neg (by rw [bI_t q1]; decide)]
  by_cases q2 : ¬ (rt < r 37)
  · rw [if_pos (bI_f q2)]
    refine ⟨_, _, rfl, errE H (E := 0) (by decide) rfl (fun z hR => ⟨z, ?_, fun _ _ => rfl⟩)⟩
    simp only [fX5_climb, n_row, RCn hR, if_pos q1', if_neg (show ¬ (0 ≤ rt ∧ rt < r 37) from fun q => q2 q.2), Option.bind_some] <;> rfl
  have q2 := Decidable.not_not.mp q2
  have q2' : 0 ≤ rt ∧ rt < r 37 := ⟨hr.1, q2⟩
  have ert : ((rt.toNat : Nat) : Int) = rt := Int.toNat_of_nonneg q2'.1
  rw [if_neg (by rw [bI_t q2]; decide), l_mayClimb H hI q1' q2']
  simp only [Option.bind_some]
  rw [if_pos H.o]
  by_cases q3 : ¬ sMay r mem rt
  · rw [if_pos (bI_f q3)]
    refine ⟨_, _, rfl, errE H (E := 2) (by decide) rfl (fun z hR => ⟨z, ?_, fun _ _ => rfl⟩)⟩
    simp only [fX5_climb, n_row, RCn hR, if_pos q1', if_pos q2', Option.bind_some, c_mayClimb hR hI q1' q2', ite_bI, if_neg q3] <;> rfl
  have q3 := Decidable.not_not.mp q3
  obtain ⟨e2, p2⟩ := H.gr q2'
  have hlr : rt.toNat < h.lr.length := by have := H.nr; omega
  obtain ⟨D1, col1, e3, H1, c1, E1⟩ := l_grade H hI hlr (by omega) (by omega)
  rw [ert] at e3
  obtain ⟨f1, u1⟩ := H1.gm q1'
  obtain ⟨f2, u2⟩ := H1.gr q2'
  have hx := hI.2.2.1 rt q2'.1 q2'.2
  have hx3 := hx.2.2.1
  have hx4 := hx.2.2.2.1
  have hmm := (hI.2.2.2.2.1 mem q1'.1 q1'.2).2.1
  have hwo := sWear_ok hI q2'
  have hg := sGr_ok hI q2'
  have w3 : dW D (h.lr.getD rt.toNat 0) 3 = r (38 + 18 * rt + 3) := p2.at (i := 3) ⟨by decide, by decide⟩
  have ew : 1 + sG r rt 0 0 / 10 = sWear r rt := rfl
  rw [if_neg (by rw [bI_t q3]; decide), e2]
  simp only [Option.bind_some]
  rw [if_pos H.rt.1.1, if_pos p2.1, e3]
  simp only [Option.bind_some]
  rw [if_pos ⟨hg.1, by decide⟩, w3, ew, if_pos (by constructor <;> omega), zl_eq]
  obtain ⟨g1, g2⟩ := g_climb hI hB q1' q2' q3
  -- the three numbers of the route, the member's climbs
  have A := H1.rcell (v := r (38 + 18 * rt + 3) + sWear r rt) (j := 3) hI.1 q2' ⟨by decide, by decide⟩
  have w4 : dW (dup D1 (h.lr.getD rt.toNat 0) 3 (r (38 + 18 * rt + 3) + sWear r rt)) (h.lr.getD rt.toNat 0) 4 = r (38 + 18 * rt + 4) := by
    rw [dup_at, if_neg (by omega)]
    exact u2.at (i := 4) ⟨by decide, by decide⟩
  rw [w4, if_pos (by constructor <;> omega), zl_eq]
  have IA : IHn B (rup r (38 + 18 * rt + 3) (r (38 + 18 * rt + 3) + sWear r rt)) := hI.1.up (by omega)
  have kA : ∀ p, p ≠ 38 + 18 * rt + 3 → rup r (38 + 18 * rt + 3) (r (38 + 18 * rt + 3) + sWear r rt) p = r p := fun p hp => rup_neq hp
  generalize hrA : rup r (38 + 18 * rt + 3) (r (38 + 18 * rt + 3) + sWear r rt) = rA at A IA kA
  have A2 := A.rcell (v := r (38 + 18 * rt + 4) + 1) (k := rt) (j := 4) IA (by rw [kA 37 (by omega)]; exact q2') ⟨by decide, by decide⟩
  have w5 : dW (dup (dup D1 (h.lr.getD rt.toNat 0) 3 (r (38 + 18 * rt + 3) + sWear r rt)) (h.lr.getD rt.toNat 0) 4 (r (38 + 18 * rt + 4) + 1)) (h.lr.getD rt.toNat 0) 5 = r (38 + 18 * rt + 5) := by
    rw [dup_at, if_neg (by omega), dup_at, if_neg (by omega)]
    exact u2.at (i := 5) ⟨by decide, by decide⟩
  rw [w5, zl_eq]
  have IA2 : IHn B (rup rA (38 + 18 * rt + 4) (r (38 + 18 * rt + 4) + 1)) := IA.up (by omega)
  have A3 := A2.rcell (v := zor (r (38 + 18 * rt + 5)) (zshl 1 mem)) (k := rt) (j := 5) IA2 (by rw [rup_neq (by omega), kA 37 (by omega)]; exact q2') ⟨by decide, by decide⟩
  have IA3 : IHn B (rup (rup rA (38 + 18 * rt + 4) (r (38 + 18 * rt + 4) + 1)) (38 + 18 * rt + 5) (zor (r (38 + 18 * rt + 5)) (zshl 1 mem))) := IA2.up (by omega)
  have k546 : rup (rup rA (38 + 18 * rt + 4) (r (38 + 18 * rt + 4) + 1)) (38 + 18 * rt + 5) (zor (r (38 + 18 * rt + 5)) (zshl 1 mem)) 546 = r 546 := by rw [rup_neq (by omega), rup_neq (by omega), kA 546 (by omega)]
  obtain ⟨f4, u4⟩ := A3.gm (w := mem) (by rw [k546]; exact q1')
  have A4 := A3.mcell (v := r (547 + 6 * mem + 2) + 1) (k := mem) (j := 2) IA3 (by rw [k546]; exact q1') ⟨by decide, by decide⟩
  have w2 : dW (dup (dup (dup D1 (h.lr.getD rt.toNat 0) 3 (r (38 + 18 * rt + 3) + sWear r rt)) (h.lr.getD rt.toNat 0) 4 (r (38 + 18 * rt + 4) + 1)) (h.lr.getD rt.toNat 0) 5 (zor (r (38 + 18 * rt + 5)) (zshl 1 mem))) (h.lm.getD mem.toNat 0) 2 = r (547 + 6 * mem + 2) := by
    rw [u4.at (i := 2) ⟨by decide, by decide⟩]
    show rup (rup rA _ _) _ _ (547 + 6 * mem + 2) = _
    rw [rup_neq (by omega), rup_neq (by omega), kA _ (by omega)]
  rw [f4]
  simp only [Option.bind_some]
  rw [if_pos A3.mb.1.1, if_pos u4.1.1, if_pos (u4.rng (i := 2) ⟨by decide, by decide⟩), w2, if_pos (by constructor <;> omega), zl_eq]
  have nem : h.lr.getD rt.toNat 0 ≠ h.lm.getD mem.toNat 0 := fun q => by
    have c5 : col1 (h.lr.getD rt.toNat 0) = (g, 15) := u2.2.1
    have c7 : col1 (h.lm.getD mem.toNat 0) = (g, 17) := u1.2.1
    rw [q, c7] at c5
    have : (17 : Int) = 15 := congrArg Prod.snd c5
    omega
  have wr : dW (dup (dup (dup (dup D1 (h.lr.getD rt.toNat 0) 3 (r (38 + 18 * rt + 3) + sWear r rt)) (h.lr.getD rt.toNat 0) 4 (r (38 + 18 * rt + 4) + 1)) (h.lr.getD rt.toNat 0) 5 (zor (r (38 + 18 * rt + 5)) (zshl 1 mem))) (h.lm.getD mem.toNat 0) 2 (r (547 + 6 * mem + 2) + 1)) (h.lr.getD rt.toNat 0) 3 = r (38 + 18 * rt + 3) + sWear r rt := by
    rw [dup_at, if_neg (fun q => nem q.1), dup_at, if_neg (by omega), dup_at, if_neg (by omega), dup_at, if_pos ⟨rfl, rfl⟩]
  rw [wr]
  have er : rup (rup (rup rA (38 + 18 * rt + 4) (r (38 + 18 * rt + 4) + 1)) (38 + 18 * rt + 5) (zor (r (38 + 18 * rt + 5)) (zshl 1 mem))) (547 + 6 * mem + 2) (r (547 + 6 * mem + 2) + 1) = rup (rup (rup (rup r (38 + 18 * rt + 5) (zor (r (38 + 18 * rt + 5)) (zshl 1 mem))) (38 + 18 * rt + 3) (r (38 + 18 * rt + 3) + sWear r rt)) (38 + 18 * rt + 4) (r (38 + 18 * rt + 4) + 1)) (547 + 6 * mem + 2) (r (547 + 6 * mem + 2) + 1) := by
    rw [← hrA, rup_comm (r := rup r (38 + 18 * rt + 3) (r (38 + 18 * rt + 3) + sWear r rt)) (p := 38 + 18 * rt + 4) (q := 38 + 18 * rt + 5) (by omega), rup_comm (r := r) (p := 38 + 18 * rt + 3) (q := 38 + 18 * rt + 5) (by omega)]
  rw [er] at A4
  refine ⟨_, _, rfl, Or.inl ⟨_, by omega, ChgC_of g1, g2, Suc.cg hJ (by rw [rup_neq (by omega), rup_neq (by omega), rup_neq (by omega), rup_neq (by omega)]) (by rw [rup_neq (by omega), rup_neq (by omega), rup_neq (by omega), rup_neq (by omega)]) (fun k a b => by rw [rup_neq (by omega), rup_neq (by omega), rup_neq (by omega), rup_neq (by omega)]), ?_⟩⟩
  have ER : ∀ (X : DD) (j v : Int), Ev (fun a => (col1 a).1 = g) 0 0 X (dup X (h.lr.getD rt.toNat 0) j v) := fun X j v => Ev.dup X (fun _ => by rw [u2.2.1])
  have EM : ∀ (X : DD) (j v : Int), Ev (fun a => (col1 a).1 = g) 0 0 X (dup X (h.lm.getD mem.toNat 0) j v) := fun X j v => Ev.dup X (fun _ => by rw [u1.2.1])
  have EA := (((ER D1 3 (r (38 + 18 * rt + 3) + sWear r rt)).trans (ER _ 4 (r (38 + 18 * rt + 4) + 1)) (fun _ _ z => z)).trans (ER _ 5 (zor (r (38 + 18 * rt + 5)) (zshl 1 mem))) (fun _ _ z => z)).trans (EM _ 2 (r (547 + 6 * mem + 2) + 1)) (fun _ _ z => z)
  exact (Out.tr c1 E1.own (m := 0) ⟨Int.le_refl _, by omega⟩ (Out.of A4 EA (Int.le_refl 0))).mono (by decide) (by decide) (by decide)
end AC

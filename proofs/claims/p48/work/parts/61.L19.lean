set_option maxRecDepth 20000
/-! what a drawn call does to the hall kept besides, and to the class -/
def Out (col : Col) (D : DD) (g : Int) (r' : Row) (M c s m : Int) (D' : DD) : Prop := ∃ col' M' h', RLh col' D' g r' M' h' ∧ (∀ a, a < dT D → col' a = col a) ∧ Ev (fun a => (col a).1 = g) c s D D' ∧ M ≤ M' ∧ M' ≤ M + m
/-- no wall has more than five routes; the day -/
def XJ (r : Row) : Prop := ∀ w, sCnt (r 37) (fun k => r (38 + 18 * k + 0) = w) ≤ 5
def Suc (r r' : Row) : Prop := XJ r' ∧ r' 3 ≤ r 3 + 60
theorem Suc.cg {r r' : Row} (hJ : XJ r) (h3 : r' 3 = r 3) (h37 : r' 37 = r 37) (hk : ∀ k, 0 ≤ k → k < r 37 → r' (38 + 18 * k + 0) = r (38 + 18 * k + 0)) : Suc r r' := by
  refine ⟨fun w => ?_, by omega⟩
  have := hJ w
  rw [h37, sCnt_congr (q := fun k => r (38 + 18 * k + 0) = w) (fun k a b => by rw [hk k a b])]
  exact this
def Res (col : Col) (D : DD) (g : Int) (r : Row) (M B : Int) (A : ZZ → Option ((Int ⊕ Nat) × ZZ)) (due : Int) (D' : DD) : Prop :=
  (∃ r', (due < -1000000005 ∨ -1000000001 < due) ∧ ChgC r r' due A ∧ IH (B + 60) r' ∧ Suc r r' ∧ Out col D g r' M 1200 40000 100 D') ∨ ∃ E : Nat, E ≤ 2 ∧ due = -1000000001 - (E : Int) ∧ AskE r E A ∧ Out col D g r M 1200 40000 100 D'
theorem Out.mono {col : Col} {D D' : DD} {g M c s m c' s' m' : Int} {r' : Row} (h : Out col D g r' M c s m D') (h1 : c ≤ c') (h2 : s ≤ s') (h3 : m ≤ m') : Out col D g r' M c' s' m' D' := by
  obtain ⟨col', M', h', a1, a2, a3, a4, a5⟩ := h
  exact ⟨col', M', h', a1, a2, a3.mono h1 h2 (fun _ _ z => z), a4, by omega⟩
theorem Out.of {col : Col} {D D' : DD} {g M c s m : Int} {r' : Row} {h' : HLs} (H : RLh col D' g r' M h') (E : Ev (fun a => (col a).1 = g) c s D D') (hm : 0 ≤ m) : Out col D g r' M c s m D' := ⟨col, M, h', H, fun _ _ => rfl, E, Int.le_refl _, by omega⟩
theorem Ev.col {col col' : Col} {g c s c' s' : Int} {D D1 D2 : DD} (E : Ev (fun a => (col a).1 = g) c s D D1) (hc : ∀ a, a < dT D → col' a = col a) (E' : Ev (fun a => (col' a).1 = g) c' s' D1 D2) : Ev (fun a => (col a).1 = g) (c + c') (s + s') D D2 := E.trans E' (fun a ha z => by rw [← hc a ha]; exact z)
theorem Out.tr {col col1 : Col} {D D1 D2 : DD} {g M M1 c s m c' s' m' : Int} {r' : Row} (hc : ∀ a, a < dT D → col1 a = col a) (E : Ev (fun a => (col a).1 = g) c s D D1) (hm : M ≤ M1 ∧ M1 ≤ M + m) (h : Out col1 D1 g r' M1 c' s' m' D2) : Out col D g r' M (c + c') (s + s') (m + m') D2 := by
  obtain ⟨col', M', h', a1, a2, a3, a4, a5⟩ := h
  exact ⟨col', M', h', a1, fun a ha => (a2 a (by have := E.1; omega)).trans (hc a ha), E.col hc a3, by omega, by omega⟩
theorem Ev.no {col : Col} {g c s : Int} {D D' : DD} (E : Ev (fun _ => False) c s D D') : Ev (fun a => (col a).1 = g) c s D D' := E.mono (Int.le_refl _) (Int.le_refl _) (fun _ _ z => z.elim)
theorem Ev.own {col : Col} {g e c s : Int} {D D' : DD} (E : Ev (fun a => col a = (g, e)) c s D D') : Ev (fun a => (col a).1 = g) c s D D' := E.mono (Int.le_refl _) (Int.le_refl _) (fun a _ z => by rw [z])
/-- drawn numbers -/
def sm (x lo hi : Int) : Int := if x % 31 = 0 then hi + 1 else if x % 37 = 0 then lo - 1 else lo + x % (hi - lo + 1)
def on (x n : Int) : Int := if x % 29 = 0 ∨ n = 0 then n else x % n
theorem l_some {x lo hi : Int} {D : DD} (hx : 0 ≤ x) (h : -100 ≤ lo ∧ lo ≤ hi ∧ hi ≤ 100) : fL_some x lo hi D = some (sm x lo hi) := by
  have h1 := Int.emod_nonneg x (show hi - lo + 1 ≠ 0 by omega)
  have h2 := Int.emod_lt_of_pos x (show 0 < hi - lo + 1 by omega)
  unfold fL_some sm
  rw [if_pos ⟨hx, by decide⟩]
  by_cases c : x % 31 = 0
  · rw [if_pos c, if_pos c, if_pos (by constructor <;> omega)]
  · rw [if_neg c, if_neg c, if_pos ⟨hx, by decide⟩]
    by_cases c2 : x % 37 = 0
    · rw [if_pos c2, if_pos c2, if_pos (by constructor <;> omega)]
    · rw [if_neg c2, if_neg c2, if_pos (by constructor <;> omega), if_pos ⟨hx, by omega⟩, if_pos (by constructor <;> omega)]
theorem sm_rng {x lo hi : Int} (h : lo ≤ hi) : lo - 1 ≤ sm x lo hi ∧ sm x lo hi ≤ hi + 1 := by
  have h1 := Int.emod_nonneg x (show hi - lo + 1 ≠ 0 by omega)
  have h2 := Int.emod_lt_of_pos x (show 0 < hi - lo + 1 by omega)
  unfold sm
  split
  · omega
  · split <;> omega
theorem l_one {x n : Int} {D : DD} (hx : 0 ≤ x) (hn : 0 ≤ n) : fL_one x n D = some (on x n) := by
  unfold fL_one on
  rw [if_pos ⟨hx, by decide⟩]
  by_cases c : x % 29 = 0
  · rw [if_pos c, if_pos (Or.inl c)]
  · rw [if_neg c]
    by_cases c2 : n = 0
    · rw [if_pos c2, if_pos (Or.inr c2)]
    · rw [if_neg c2, if_pos ⟨hx, by omega⟩, if_neg (fun q => q.elim c c2)]
theorem on_rng {x n : Int} (hn : 0 ≤ n) : 0 ≤ on x n ∧ on x n ≤ n := by
  unfold on
  by_cases c : x % 29 = 0 ∨ n = 0
  · rw [if_pos c]; omega
  · rw [if_neg c]
    have h1 := Int.emod_nonneg x (show n ≠ 0 by omega)
    have h2 := Int.emod_lt_of_pos x (show 0 < n by omega)
    omega
theorem l_is {v lo hi : Int} {D : DD} : fL_is v lo hi D = some (bI (lo ≤ v ∧ v ≤ hi)) := by
  unfold fL_is
  by_cases c : v < lo
  · rw [if_pos c, bI_f (by omega)]
  · rw [if_neg c]
    by_cases c2 : hi < v
    · rw [if_pos c2, bI_f (by omega)]
    · rw [if_neg c2, bI_t (by omega)]
section AC
variable {col : Col} {D : DD} {g : Int} {r : Row} {M B x y mem rt hs cs wl im ir : Int} {h : HLs}
theorem RLh.lent (H : RLh col D g r M h) (hn : IHn B r) {k v : Int} (hk : 0 ≤ k ∧ k < r 470) : RLh col D g (rup r (471 + 5 * k + 4) v) M h := by
  have hn' := hn
  unfold IHn at hn'
  refine H.upd (q := 16) hn (Ev.refl (fun _ => False) D) (fun a _ e => e.elim) (by decide) (Int.le_refl _) H.w.1.2.2.1.2.2 (fun x a b => rup_neq (by unfold pl at b; omega)) (Or.inl (by decide)) (Or.inl (by decide)) (Or.inl ⟨by decide, by decide, rfl⟩) (Or.inr fun i hi => ?_) (Or.inl (by decide)) (Or.inl ⟨by decide, rfl⟩) ⟨rfl, rfl, rfl, rfl⟩ (by decide)
  have p := H.eh i hi
  exact ⟨p.1, p.2.1, fun x hx => by
    rw [p.2.2 x hx]
    show r (471 + 5 * (i : Int) + x) = rup r (471 + 5 * k + 4) v (471 + 5 * (i : Int) + x)
    rw [rup_neq (by omega)]⟩
theorem errE {E : Nat} {A : ZZ → Option ((Int ⊕ Nat) × ZZ)} {due : Int} (H : RLh col D g r M h) (hE : E ≤ 2) (hd : due = -1000000001 - (E : Int)) (hA : AskE r E A) : Res col D g r M B A due D := Or.inr ⟨E, hE, hd, hA, Out.of H ((Ev.refl _ D).mono (by decide) (by decide) (fun _ _ z => z)) (by decide)⟩
theorem errD {E : Nat} {A : ZZ → Option ((Int ⊕ Nat) × ZZ)} {due : Int} {D' : DD} (H : RLh col D g r M h) (hE : E ≤ 2) (hd : due = -1000000001 - (E : Int)) (hA : AskE r E A) {c s : Int} (E1 : Ev (fun _ => False) c s D D') (hc : c ≤ 1200) (hs : s ≤ 40000) : Res col D g r M B A due D' := Or.inr ⟨E, hE, hd, hA, Out.of (H.tmp E1) (E1.mono hc hs (fun _ _ z => z.elim)) (by decide)⟩
/-- giving back -/
theorem a_give (H : RLh col D g r M h) (hI : IH B r) (hJ : XJ r) (hB : B ≤ 900000) (hm : 0 ≤ mem ∧ mem ≤ r 546) (him : im = bI (mem < r 546)) : ∃ due D', fL_act_b106 g 14 x y mem rt hs cs wl im ir D = some (due, D') ∧ Res col D g r M B (fX5_giveBack mem) due D' := by
  have hn := hI.1
  unfold IHn at hn
  unfold fL_act_b106
  rw [if_neg (by decide), if_neg (by decide), if_neg (by decide), if_neg (by decide), if_neg (by decide), if_pos rfl, him]
  by_cases q1 : mem < r 546
  · have q1' : 0 ≤ mem ∧ mem < r 546 := ⟨hm.1, q1⟩
    obtain ⟨e1, p1⟩ := H.gm q1'
    have m3 : dW D (h.lm.getD mem.toNat 0) 3 = r (547 + 6 * mem + 3) := p1.at (i := 3) ⟨by decide, by decide⟩
    rw [if_neg (by rw [bI_t q1]; decide), if_pos H.o, e1]
    simp only [Option.bind_some]
    rw [if_pos H.mb.1.1, if_pos p1.1.1, if_pos (p1.rng (i := 3) ⟨by decide, by decide⟩), m3]
    by_cases q2 : r (547 + 6 * mem + 3) = -1
    · rw [if_pos q2]
      refine ⟨_, _, rfl, errE H (E := 2) (by decide) rfl (fun z hR => ⟨z, ?_, fun _ _ => rfl⟩)⟩
      simp only [fX5_giveBack, n_row, RCn hR, if_pos q1', Option.bind_some, if_true, c_harnessOf hR hI q1', if_pos q2] <;> rfl
    · rw [if_neg q2, if_pos p1.1.1, if_pos (p1.rng (i := 3) ⟨by decide, by decide⟩), zl_eq]
      obtain ⟨g1, g2⟩ := g_back hI q1' q2
      have i3 := (hI.2.2.2.2.1 mem q1'.1 q1'.2).2.2.1
      refine ⟨_, _, rfl, Or.inl ⟨_, by omega, ChgC_of g1, IH_mono g2 (by omega) (by omega), Suc.cg hJ (by rw [rup_neq (by omega), rup_neq (by omega)]) (by rw [rup_neq (by omega), rup_neq (by omega)]) (fun k a b => by rw [rup_neq (by omega), rup_neq (by omega)]), ?_⟩⟩
      refine Out.of (RLh.lent (B := B) (H.mcell (v := -1) hI.1 q1' ⟨by decide, by decide⟩) ?_ ?_) ((Ev.dup D (fun _ => by rw [p1.2.1])).mono (by decide) (by decide) (fun _ _ z => z)) (by decide)
      · unfold IHn
        rw [rup_neq (by omega), rup_neq (by omega), rup_neq (by omega), rup_neq (by omega), rup_neq (by omega), rup_neq (by omega), rup_neq (by omega), rup_neq (by omega), rup_neq (by omega), rup_neq (by omega)]
        exact hn
      · rw [rup_neq (by omega)]
        omega
  · rw [if_pos (bI_f q1)]
    refine ⟨_, _, rfl, errE H (E := 0) (by decide) rfl (fun z hR => ⟨z, ?_, fun _ _ => rfl⟩)⟩
    simp only [fX5_giveBack, n_row, RCn hR, if_neg (show ¬ (0 ≤ mem ∧ mem < r 546) from fun q => q1 q.2), Option.bind_some, if_true] <;> rfl
/-- leaving a course -/
theorem a_leave (H : RLh col D g r M h) (hI : IH B r) (hJ : XJ r) (hB : B ≤ 900000) (hm : 0 ≤ mem ∧ mem ≤ r 546) (him : im = bI (mem < r 546)) : ∃ due D', fL_act_b106 g 18 x y mem rt hs cs wl im ir D = some (due, D') ∧ Res col D g r M B (fX5_leaveCourse mem) due D' := by
  have hn := hI.1
  unfold IHn at hn
  unfold fL_act_b106
  rw [if_neg (by decide), if_neg (by decide), if_neg (by decide), if_neg (by decide), if_neg (by decide), if_neg (by decide), if_neg (by decide), if_neg (by decide), if_pos rfl, him]
  by_cases q1 : mem < r 546
  · have q1' : 0 ≤ mem ∧ mem < r 546 := ⟨hm.1, q1⟩
    obtain ⟨e1, p1⟩ := H.gm q1'
    have m4 : dW D (h.lm.getD mem.toNat 0) 4 = r (547 + 6 * mem + 4) := p1.at (i := 4) ⟨by decide, by decide⟩
    rw [if_neg (by rw [bI_t q1]; decide), if_pos H.o, e1]
    simp only [Option.bind_some]
    rw [if_pos H.mb.1.1, if_pos p1.1.1, if_pos (p1.rng (i := 4) ⟨by decide, by decide⟩), m4]
    by_cases q2 : r (547 + 6 * mem + 4) = -1
    · rw [if_pos q2]
      refine ⟨_, _, rfl, errE H (E := 2) (by decide) rfl (fun z hR => ⟨z, ?_, fun _ _ => rfl⟩)⟩
      simp only [fX5_leaveCourse, n_row, RCn hR, if_pos q1', Option.bind_some, cg12 hR hI q1' (c := 4) (by omega), if_pos q2] <;> rfl
    · rw [if_neg q2, if_pos p1.1.1, if_pos (p1.rng (i := 4) ⟨by decide, by decide⟩), zl_eq]
      have g1 := g_leave hI q1' q2
      have i3 := (hI.2.2.2.2.1 mem q1'.1 q1'.2).2.2.2.1
      refine ⟨_, _, rfl, Or.inl ⟨_, by omega, ChgC_of g1, IH_mono (IH_up12 hI q1' (by omega) (by omega) ⟨fun e => by omega, fun e => by omega, fun _ => by omega, fun e => by omega⟩) (by omega) (by omega), Suc.cg hJ (rup_neq (by omega)) (rup_neq (by omega)) (fun k a b => rup_neq (by omega)), ?_⟩⟩
      exact Out.of (H.mcell (v := -1) hI.1 q1' ⟨by decide, by decide⟩) ((Ev.dup D (fun _ => by rw [p1.2.1])).mono (by decide) (by decide) (fun _ _ z => z)) (by decide)
  · rw [if_pos (bI_f q1)]
    refine ⟨_, _, rfl, errE H (E := 0) (by decide) rfl (fun z hR => ⟨z, ?_, fun _ _ => rfl⟩)⟩
    simp only [fX5_leaveCourse, n_row, RCn hR, if_neg (show ¬ (0 ≤ mem ∧ mem < r 546) from fun q => q1 q.2), Option.bind_some] <;> rfl
/-- putting off a reset -/
theorem a_postpone (H : RLh col D g r M h) (hI : IH B r) (hJ : XJ r) (hB : B ≤ 900000) (hy : 0 ≤ y) (hw : 0 ≤ wl ∧ wl ≤ r 4) : ∃ due D', fL_act_b106 g 20 x y mem rt hs cs wl im ir D = some (due, D') ∧ Res col D g r M B (fX5_postpone wl (sm y 1 14)) due D' := by
  have hn := hI.1
  unfold IHn at hn
  have hN := H.nw
  unfold fL_act_b106
  rw [if_neg (by decide), if_neg (by decide), if_neg (by decide), if_neg (by decide), if_neg (by decide), if_neg (by decide), if_neg (by decide), if_neg (by decide), if_neg (by decide), if_neg (by decide), if_pos rfl, l_some hy (by decide)]
  simp only [Option.bind_some]
  rw [if_pos H.o, s_size H.w.1]
  simp only [Option.bind_some]
  rw [if_pos H.w.1.1, hN]
  by_cases q1 : wl = r 4
  · rw [if_pos q1]
    refine ⟨_, _, rfl, errE H (E := 0) (by decide) rfl (fun z hR => ⟨z, ?_, fun _ _ => rfl⟩)⟩
    simp only [fX5_postpone, n_row, RCn hR, if_neg (show ¬ (0 ≤ wl ∧ wl < r 4) by omega), Option.bind_some] <;> rfl
  · have q1' : 0 ≤ wl ∧ wl < r 4 := by omega
    rw [if_neg q1, l_is]
    simp only [Option.bind_some]
    by_cases q2 : 1 ≤ sm y 1 14 ∧ sm y 1 14 ≤ 14
    · obtain ⟨e1, p1⟩ := H.gw q1'
      have m3 : dW D (h.lw.getD wl.toNat 0) 3 = r (5 + 4 * wl + 3) := p1.at (i := 3) ⟨by decide, by decide⟩
      have i3 := (hI.2.1 wl q1'.1 q1'.2).2.2
      have R2 := H.wcell (v := r (5 + 4 * wl + 3) + sm y 1 14) (j := 3) hI.1 q1' ⟨by decide, by decide⟩
      obtain ⟨e2, p2⟩ := R2.gw (w := wl) (by rw [rup_neq (by omega)]; exact q1')
      have n3 : dW (dup D (h.lw.getD wl.toNat 0) 3 (r (5 + 4 * wl + 3) + sm y 1 14)) (h.lw.getD wl.toNat 0) 3 = r (5 + 4 * wl + 3) + sm y 1 14 := by rw [dup_at, if_pos ⟨rfl, rfl⟩]
      rw [if_neg (by rw [bI_t q2]; decide), e1]
      simp only [Option.bind_some]
      rw [if_pos p1.1.1, if_pos (p1.rng (i := 3) ⟨by decide, by decide⟩), m3, if_pos (by constructor <;> omega), zl_eq, e2]
      simp only [Option.bind_some]
      rw [if_pos R2.w.1.1, if_pos p2.1.1, if_pos (p2.rng (i := 3) ⟨by decide, by decide⟩), n3]
      refine ⟨_, _, rfl, Or.inl ⟨_, by omega, ChgC_of (g_postpone hI hB q1' q2), IH_up4 (IH_mono hI (by omega) (by omega)) q1' (by omega), Suc.cg hJ (rup_neq (by omega)) (rup_neq (by omega)) (fun k a b => rup_neq (by omega)), ?_⟩⟩
      exact Out.of R2 ((Ev.dup D (fun _ => by rw [p1.2.1])).mono (by decide) (by decide) (fun _ _ z => z)) (by decide)
    · rw [if_pos (bI_f q2)]
      refine ⟨_, _, rfl, errE H (E := 1) (by decide) rfl (fun z hR => ⟨z, ?_, fun _ _ => rfl⟩)⟩
      simp only [fX5_postpone, n_row, n_btw, RCn hR, if_pos q1', if_neg q2, Option.bind_some] <;> rfl
/-- joining a course -/
theorem a_enroll (H : RLh col D g r M h) (hI : IH B r) (hJ : XJ r) (hB : B ≤ 900000) (hm : 0 ≤ mem ∧ mem ≤ r 546) (him : im = bI (mem < r 546)) (hc : 0 ≤ cs ∧ cs ≤ r 619) {w : Int} (hw : 16 ≤ w ∧ w ≤ 17) : ∃ due D', fL_act_b106 g w x y mem rt hs cs wl im ir D = some (due, D') ∧ Res col D g r M B (fX5_enroll mem cs) due D' := by
  have hn := hI.1
  unfold IHn at hn
  have hN := H.nc
  unfold fL_act_b106
  rw [if_neg (by omega), if_neg (by omega), if_neg (by omega), if_neg (by omega), if_neg (by omega), if_neg (by omega), if_neg (by omega), if_pos hw, him]
  by_cases q1 : mem < r 546
  · have q1' : 0 ≤ mem ∧ mem < r 546 := ⟨hm.1, q1⟩
    obtain ⟨e1, p1⟩ := H.gm q1'
    rw [if_neg (by rw [bI_t q1]; decide), if_pos H.o, s_size H.cs.1]
    simp only [Option.bind_some]
    rw [if_pos H.cs.1.1, hN]
    by_cases q2 : cs = r 619
    · rw [if_pos q2]
      refine ⟨_, _, rfl, errE H (E := 0) (by decide) rfl (fun z hR => ⟨z, ?_, fun _ _ => rfl⟩)⟩
      simp only [fX5_enroll, n_row, RCn hR, if_pos q1', if_neg (show ¬ (0 ≤ cs ∧ cs < r 619) by omega), Option.bind_some] <;> rfl
    have q2' : 0 ≤ cs ∧ cs < r 619 := by omega
    obtain ⟨e2, p2⟩ := H.gc q2'
    have hcr := hI.2.2.2.2.2 cs q2'.1 q2'.2
    have m4 : dW D (h.lm.getD mem.toNat 0) 4 = r (547 + 6 * mem + 4) := p1.at (i := 4) ⟨by decide, by decide⟩
    have m1 : dW D (h.lm.getD mem.toNat 0) 1 = r (547 + 6 * mem + 1) := p1.at (i := 1) ⟨by decide, by decide⟩
    have m2 : dW D (h.lm.getD mem.toNat 0) 2 = r (547 + 6 * mem + 2) := p1.at (i := 2) ⟨by decide, by decide⟩
    have c0 : dW D (h.lc.getD cs.toNat 0) 0 = r (620 + 3 * cs + 0) := p2.at (i := 0) ⟨by decide, by decide⟩
    have c1 : dW D (h.lc.getD cs.toNat 0) 1 = r (620 + 3 * cs + 1) := p2.at (i := 1) ⟨by decide, by decide⟩
    have c2 : dW D (h.lc.getD cs.toNat 0) 2 = r (620 + 3 * cs + 2) := p2.at (i := 2) ⟨by decide, by decide⟩
    have err : ¬ sEnroll r mem cs → AskE r 2 (fX5_enroll mem cs) := fun q z hR => ⟨z, by
      simp only [fX5_enroll, n_row, RCn hR, if_pos q1', if_pos q2', Option.bind_some, c_mayEnroll hR hI q1' q2', ite_bI, if_neg q], fun _ _ => rfl⟩
    rw [if_neg q2, e1]
    simp only [Option.bind_some]
    rw [if_pos H.mb.1.1, if_pos p1.1.1, e2]
    simp only [Option.bind_some]
    rw [if_pos p2.1.1, if_pos (p1.rng (i := 4) ⟨by decide, by decide⟩), m4]
    by_cases k1 : ¬ (r (547 + 6 * mem + 4) = -1)
    · rw [if_neg k1]
      exact ⟨_, _, rfl, errE H (E := 2) (by decide) rfl (err (fun q => k1 q.1))⟩
    have k1 := Decidable.not_not.mp k1
    rw [if_pos k1, if_pos (p1.rng (i := 1) ⟨by decide, by decide⟩), if_pos (p2.rng (i := 0) ⟨by decide, by decide⟩), c0, if_pos (by constructor <;> omega), m1]
    by_cases k2 : ¬ (r (547 + 6 * mem + 1) = r (620 + 3 * cs + 0) - 1)
    · rw [if_neg k2]
      exact ⟨_, _, rfl, errE H (E := 2) (by decide) rfl (err (fun q => k2 q.2.1))⟩
    have k2 := Decidable.not_not.mp k2
    rw [if_pos k2, if_pos (p1.rng (i := 2) ⟨by decide, by decide⟩), if_pos (p2.rng (i := 2) ⟨by decide, by decide⟩), m2, c2]
    by_cases k3 : r (547 + 6 * mem + 2) < r (620 + 3 * cs + 2)
    · rw [if_pos k3]
      exact ⟨_, _, rfl, errE H (E := 2) (by decide) rfl (err (fun q => by have := q.2.2.1; omega))⟩
    rw [if_neg k3, l_inCourse H hI]
    simp only [Option.bind_some]
    rw [l_bits (sIn_ok hI)]
    simp only [Option.bind_some]
    rw [if_pos (p2.rng (i := 1) ⟨by decide, by decide⟩), c1]
    by_cases k4 : ¬ (((pcn (sIn r cs).toNat : Nat) : Int) < r (620 + 3 * cs + 1))
    · rw [if_neg k4]
      exact ⟨_, _, rfl, errE H (E := 2) (by decide) rfl (err (fun q => k4 q.2.2.2))⟩
    have k4 := Decidable.not_not.mp k4
    have I2 : IH B (rup r (547 + 6 * mem + 4) cs) := IH_up12 hI q1' (by omega) (by omega) ⟨fun e => by omega, fun e => by omega, fun _ => by omega, fun e => by omega⟩
    have R2 := H.mcell (v := cs) (j := 4) hI.1 q1' ⟨by decide, by decide⟩
    rw [if_pos k4, zl_eq, l_inCourse R2 I2]
    simp only [Option.bind_some]
    rw [l_bits (sIn_ok I2)]
    refine ⟨_, _, rfl, Or.inl ⟨_, by omega, ChgC_of (g_enroll hI q1' q2' ⟨k1, k2, by omega, k4⟩), IH_mono I2 (by omega) (by omega), Suc.cg hJ (rup_neq (by omega)) (rup_neq (by omega)) (fun k a b => rup_neq (by omega)), ?_⟩⟩
    exact Out.of R2 ((Ev.dup D (fun _ => by rw [p1.2.1])).mono (by decide) (by decide) (fun _ _ z => z)) (by decide)
  · rw [if_pos (bI_f q1)]
    refine ⟨_, _, rfl, errE H (E := 0) (by decide) rfl (fun z hR => ⟨z, ?_, fun _ _ => rfl⟩)⟩
    simp only [fX5_enroll, n_row, RCn hR, if_neg (show ¬ (0 ≤ mem ∧ mem < r 546) from fun q => q1 q.2), Option.bind_some] <;> rfl
end AC

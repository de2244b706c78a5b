/-! the class reads a statement -/
def CF (z z' : ZZ) : Prop := (∀ a, a ≠ 16 → a ≠ 31 → ¬ (17 ≤ a ∧ a ≤ 29) → z' a = z a) ∧ ∀ j, j ≠ 4 → j ≠ 5 → j ≠ 6 → z' 16 j = z 16 j
theorem CF_tr {z z' z'' : ZZ} (h : CF z z') (h2 : CF z' z'') : CF z z'' := ⟨fun a p q u => (h2.1 a p q u).trans (h.1 a p q u), fun j p q u => (h2.2 j p q u).trans (h.2 j p q u)⟩
theorem CF_m {z z' : ZZ} (h : CFm z z') : CF z z' := ⟨fun a p q _ => h.1 a p q, fun j _ q u => h.2 j q u⟩
theorem CF_d {z z' : ZZ} (h : ∀ a, ¬ (17 ≤ a ∧ a ≤ 29) → z' a = z a) : CF z z' := ⟨fun a _ _ u => h a u, fun j _ _ _ => by rw [h 16 (by decide)]⟩
theorem wK_rng (b : Int → Int) (s e : Int) : wK b s e = -1 ∨ (0 ≤ wK b s e ∧ wK b s e ≤ 4) := by
  unfold wK
  split
  · exact Or.inr ⟨by decide, by decide⟩
  · split
    · exact Or.inr ⟨by decide, by decide⟩
    · split
      · exact Or.inr ⟨by decide, by decide⟩
      · split
        · exact Or.inr ⟨by decide, by decide⟩
        · split
          · exact Or.inr ⟨by decide, by decide⟩
          · exact Or.inl rfl
section C2
variable {z : ZZ} {b : Int → Int} {L p h : Int} {r : Row}
theorem TC_f {z' : ZZ} (h : TC b L z) (f : CF z z') : TC b L z' := by
  refine ⟨by rw [f.2 1 (by decide) (by decide) (by decide)]; exact h.1, fun k a c => ?_⟩
  rw [f.1 30 (by decide) (by decide) (by decide)]
  exact h.2 k a c
theorem c_n2 {w l1 h1 l2 h2 : Int} (hT : TXT b L) (hC : TC b L z) (h6 : z 16 6 = p) (h0 : 0 ≤ p ∧ p ≤ L) (hw : 0 ≤ w ∧ w ≤ 4) (hn : ∀ y : ZZ, fX3_numbersOf w y = some 2) (a1 : zKC 1000002 (w * 3 + 0) = l1) (c1 : zKC 1000003 (w * 3 + 0) = h1) (a2 : zKC 1000002 (w * 3 + 1) = l2) (c2 : zKC 1000003 (w * 3 + 1) = h2) (g1 : 0 ≤ l1) (g2 : 0 ≤ l2) :
    (∀ x, n2 b L l1 h1 l2 h2 p = .inl x → ∃ z', zlp (fun q => fX3_readStatement_s26 w q.1 q.2) FU (0, z) = some (.inr (0, z')) ∧ z' 16 5 = x ∧ CFm z z') ∧
    (∀ u v q, n2 b L l1 h1 l2 h2 p = .inr (u, v, q) → ∃ z', zlp (fun q => fX3_readStatement_s26 w q.1 q.2) FU (0, z) = some (.inl z') ∧ z' 16 6 = q ∧ z' 31 0 = u ∧ z' 31 1 = v ∧ CFm z z') := by
  obtain ⟨A1, B1⟩ := c_num (i := 0) hT hC h6 h0 hw hn (by omega) (by omega) a1 c1 g1
  rw [show FU = 99997 + 1 + 1 + 1 from rfl]
  unfold n2
  cases e1 : num b L l1 h1 p with
  | inl x =>
    obtain ⟨z1, s1, k1, f1⟩ := A1 x e1
    refine ⟨fun y hy => ?_, fun _ _ _ hy => by cases hy⟩
    cases hy
    exact ⟨z1, zlp_end (f := fun q : Int × ZZ => fX3_readStatement_s26 w q.1 q.2) (s := (0, z)) s1, k1, f1⟩
  | inr y =>
    obtain ⟨v1, p1⟩ := y
    obtain ⟨z1, s1', k1, m1, o1, f1⟩ := B1 v1 p1 e1
    have s1 : fX3_readStatement_s26 w 0 z = some (.inl (1, z1)) := by
      rw [s1']
      rfl
    have ok1 := num_ok hT h0 e1
    obtain ⟨A2, B2⟩ := c_num (i := 1) hT (TC_fr hC f1) k1 (by omega) hw hn (by omega) (by omega) a2 c2 g2
    have st1 := zlp_next (f := fun q : Int × ZZ => fX3_readStatement_s26 w q.1 q.2) (s := (0, z)) (n := 99997 + 1 + 1) s1
    dsimp only
    cases e2 : num b L l2 h2 p1 with
    | inl x =>
      obtain ⟨z2, s2, k2, f2⟩ := A2 x e2
      refine ⟨fun y hy => ?_, fun _ _ _ hy => by cases hy⟩
      cases hy
      exact ⟨z2, by rw [st1]; exact zlp_end (f := fun q : Int × ZZ => fX3_readStatement_s26 w q.1 q.2) (s := (1, z1)) s2, k2, CFm_tr f1 f2⟩
    | inr y =>
      obtain ⟨v2, p2⟩ := y
      obtain ⟨z2, s2', k2, m2, o2, f2⟩ := B2 v2 p2 e2
      have s2 : fX3_readStatement_s26 w 1 z1 = some (.inl (2, z2)) := by
        rw [s2']
        rfl
      refine ⟨fun _ hy => (by cases hy), fun u v q hy => ?_⟩
      cases hy
      refine ⟨z2, ?_, k2, by rw [o2 0 (by decide)]; exact m1, m2, CFm_tr f1 f2⟩
      rw [st1, zlp_next (f := fun q : Int × ZZ => fX3_readStatement_s26 w q.1 q.2) (s := (1, z1)) s2]
      refine zlp_end (f := fun q : Int × ZZ => fX3_readStatement_s26 w q.1 q.2) (s := (2, z2)) ?_
      show fX3_readStatement_s26 w 2 z2 = _
      unfold fX3_readStatement_s26
      rw [hn]
      rfl
theorem c_n3 {w l1 h1 l2 h2 l3 h3 : Int} (hT : TXT b L) (hC : TC b L z) (h6 : z 16 6 = p) (h0 : 0 ≤ p ∧ p ≤ L) (hw : 0 ≤ w ∧ w ≤ 4) (hn : ∀ y : ZZ, fX3_numbersOf w y = some 3) (a1 : zKC 1000002 (w * 3 + 0) = l1) (c1 : zKC 1000003 (w * 3 + 0) = h1) (a2 : zKC 1000002 (w * 3 + 1) = l2) (c2 : zKC 1000003 (w * 3 + 1) = h2) (a3 : zKC 1000002 (w * 3 + 2) = l3) (c3 : zKC 1000003 (w * 3 + 2) = h3) (g1 : 0 ≤ l1) (g2 : 0 ≤ l2) (g3 : 0 ≤ l3) :
    (∀ x, n3 b L l1 h1 l2 h2 l3 h3 p = .inl x → ∃ z', zlp (fun q => fX3_readStatement_s26 w q.1 q.2) FU (0, z) = some (.inr (0, z')) ∧ z' 16 5 = x ∧ CFm z z') ∧
    (∀ u v t q, n3 b L l1 h1 l2 h2 l3 h3 p = .inr (u, v, t, q) → ∃ z', zlp (fun q => fX3_readStatement_s26 w q.1 q.2) FU (0, z) = some (.inl z') ∧ z' 16 6 = q ∧ z' 31 0 = u ∧ z' 31 1 = v ∧ z' 31 2 = t ∧ CFm z z') := by
  obtain ⟨A1, B1⟩ := c_num (i := 0) hT hC h6 h0 hw hn (by omega) (by omega) a1 c1 g1
  rw [show FU = 99996 + 1 + 1 + 1 + 1 from rfl]
  unfold n3
  cases e1 : num b L l1 h1 p with
  | inl x =>
    obtain ⟨z1, s1, k1, f1⟩ := A1 x e1
    refine ⟨fun y hy => ?_, fun _ _ _ _ hy => by cases hy⟩
    cases hy
    exact ⟨z1, zlp_end (f := fun q : Int × ZZ => fX3_readStatement_s26 w q.1 q.2) (s := (0, z)) s1, k1, f1⟩
  | inr y =>
    obtain ⟨v1, p1⟩ := y
    obtain ⟨z1, s1', k1, m1, o1, f1⟩ := B1 v1 p1 e1
    have s1 : fX3_readStatement_s26 w 0 z = some (.inl (1, z1)) := by
      rw [s1']
      rfl
    have ok1 := num_ok hT h0 e1
    obtain ⟨A2, B2⟩ := c_num (i := 1) hT (TC_fr hC f1) k1 (by omega) hw hn (by omega) (by omega) a2 c2 g2
    have st1 := zlp_next (f := fun q : Int × ZZ => fX3_readStatement_s26 w q.1 q.2) (s := (0, z)) (n := 99996 + 1 + 1 + 1) s1
    dsimp only
    cases e2 : num b L l2 h2 p1 with
    | inl x =>
      obtain ⟨z2, s2, k2, f2⟩ := A2 x e2
      refine ⟨fun y hy => ?_, fun _ _ _ _ hy => by cases hy⟩
      cases hy
      exact ⟨z2, by rw [st1]; exact zlp_end (f := fun q : Int × ZZ => fX3_readStatement_s26 w q.1 q.2) (s := (1, z1)) s2, k2, CFm_tr f1 f2⟩
    | inr y =>
      obtain ⟨v2, p2⟩ := y
      obtain ⟨z2, s2', k2, m2, o2, f2⟩ := B2 v2 p2 e2
      have s2 : fX3_readStatement_s26 w 1 z1 = some (.inl (2, z2)) := by
        rw [s2']
        rfl
      have ok2 := num_ok hT (by omega) e2
      obtain ⟨A3, B3⟩ := c_num (i := 2) hT (TC_fr hC (CFm_tr f1 f2)) k2 (by omega) hw hn (by omega) (by omega) a3 c3 g3
      have st2 := zlp_next (f := fun q : Int × ZZ => fX3_readStatement_s26 w q.1 q.2) (s := (1, z1)) (n := 99996 + 1 + 1) s2
      dsimp only
      cases e3 : num b L l3 h3 p2 with
      | inl x =>
        obtain ⟨z3, s3, k3, f3⟩ := A3 x e3
        refine ⟨fun y hy => ?_, fun _ _ _ _ hy => by cases hy⟩
        cases hy
        exact ⟨z3, by rw [st1, st2]; exact zlp_end (f := fun q : Int × ZZ => fX3_readStatement_s26 w q.1 q.2) (s := (2, z2)) s3, k3, CFm_tr f1 (CFm_tr f2 f3)⟩
      | inr y =>
        obtain ⟨v3, p3⟩ := y
        obtain ⟨z3, s3', k3, m3, o3, f3⟩ := B3 v3 p3 e3
        have s3 : fX3_readStatement_s26 w 2 z2 = some (.inl (3, z3)) := by
          rw [s3']
          rfl
        refine ⟨fun _ hy => (by cases hy), fun u v t q hy => ?_⟩
        cases hy
        refine ⟨z3, ?_, k3, by rw [o3 0 (by decide), o2 0 (by decide)]; exact m1, by rw [o3 1 (by decide)]; exact m2, m3, CFm_tr f1 (CFm_tr f2 f3)⟩
        rw [st1, st2, zlp_next (f := fun q : Int × ZZ => fX3_readStatement_s26 w q.1 q.2) (s := (2, z2)) s3]
        refine zlp_end (f := fun q : Int × ZZ => fX3_readStatement_s26 w q.1 q.2) (s := (3, z3)) ?_
        show fX3_readStatement_s26 w 3 z3 = _
        unfold fX3_readStatement_s26
        rw [hn]
        rfl
theorem c_full {t : Nat} : fX4_isFull t z = some (bI (¬ z t 3 < zMR t)) := by
  unfold fX4_isFull
  by_cases q : z t 3 < zMR t
  · rw [if_pos q, bI_f (fun x => x q)]
  · rw [if_neg q, bI_t q]
theorem bI_sw {q : Prop} [Decidable q] : (if q then some 0 else some 1 : Option Int) = some (bI (¬ q)) := by
  by_cases h : q
  · rw [if_pos h, bI_f (fun x => x h)]
  · rw [if_neg h, bI_t h]
/-- what a statement leaves, as the class has it -/
def CR (b : Int → Int) (L : Int) (z : ZZ) (o : Int ⊕ (Int × Row × Int)) : Prop := (∀ x, o = .inl x → ∃ z', fX3_readStatement z = some (0, z') ∧ z' 16 5 = x ∧ CF z z') ∧
  (∀ q r' h', o = .inr (q, r', h') → ∃ z', fX3_readStatement z = some (1, z') ∧ z' 16 6 = q ∧ z' 16 4 = h' ∧ RH z' 17 r' ∧ CF z z')
theorem CR_l {x : Int} {z' : ZZ} (h1 : fX3_readStatement z = some (0, z')) (h2 : z' 16 5 = x) (h3 : CF z z') : CR b L z (.inl x) := ⟨fun y hy => by cases hy; exact ⟨z', h1, h2, h3⟩, fun _ _ _ hy => by cases hy⟩
theorem CR_r {q h' : Int} {r' : Row} {z' : ZZ} (h1 : fX3_readStatement z = some (1, z')) (h2 : z' 16 6 = q) (h3 : z' 16 4 = h') (h4 : RH z' 17 r') (h5 : CF z z') : CR b L z (.inr (q, r', h')) := ⟨fun y hy => by (cases hy), fun _ _ _ hy => by cases hy; exact ⟨z', h1, h2, h3, h4, h5⟩⟩
theorem c_stm (hT : TXT b L) (hC : TC b L z) (h6 : z 16 6 = p) (h0 : 0 ≤ p ∧ p ≤ L) (h4 : z 16 4 = h) (hR : RH z 17 r) (hP : PR r) : CR b L z (stm b L p r h) := by
  have hL := hT.2.1
  have hn := hP.1
  unfold IHn at hn
  obtain ⟨s1, s2⟩ := tS_ok hT h0
  have ht := c_tok hT hC h6 h0
  unfold stm
  generalize tS b p = s at *
  obtain ⟨t1, t2, t3, t4⟩ := tE_ok hT (s := s) (by omega)
  generalize hte : tE b L s = e at *
  have f1 : CF z (zup (zup z 16 5 s) 16 6 e) := ⟨fun a u _ _ => by rw [zup_ne u, zup_ne u], fun j _ u v => by rw [zup_at, if_neg v, zup_at, if_neg u]⟩
  have e5 : zup (zup z 16 5 s) 16 6 e 16 5 = s := by rw [zup_at, if_neg (by decide), zup_at, if_pos rfl]
  have e6 : zup (zup z 16 5 s) 16 6 e 16 6 = e := by rw [zup_at, if_pos rfl]
  have e4 : zup (zup z 16 5 s) 16 6 e 16 4 = h := by rw [zup_at, if_neg (by decide), zup_at, if_neg (by decide), h4]
  have yR : RH (zup (zup z 16 5 s) 16 6 e) 17 r := RH_fra hR (fun a u v => by rw [zup_ne (by omega), zup_ne (by omega)])
  generalize zup (zup z 16 5 s) 16 6 e = y at *
  have hy := TC_f hC f1
  have hk := c_kind hT hy e5 e6 (by omega) (by omega)
  have y18 : y 18 3 = r 4 := yR.1.1
  have y24 : y 24 3 = r 470 := yR.2.2.2.1.1
  have y26 : y 26 3 = r 546 := yR.2.2.2.2.1.1
  have y28 : y 28 3 = r 619 := yR.2.2.2.2.2.1.1
  -- a word that has no room
  have no : ∀ k : Int, wK b s e = k → k ≠ -1 → fX3_hasRoomFor k y = some 0 → CR b L z (.inl s) := fun k a c d => by
    refine CR_l (z' := y) ?_ e5 f1
    unfold fX3_readStatement
    rw [ht]
    simp only [Option.bind_some, hk]
    rw [a, if_neg c, d]
    rfl
  have bad : ∀ (k x : Int) (z1 : ZZ), wK b s e = k → k ≠ -1 → fX3_hasRoomFor k y = some 1 → zlp (fun q => fX3_readStatement_s26 k q.1 q.2) FU (0, y) = some (.inr (0, z1)) → z1 16 5 = x → CFm y z1 → CR b L z (.inl x) := fun k x z1 a c d e' g f => by
    refine CR_l (z' := z1) ?_ g (CF_tr f1 (CF_m f))
    unfold fX3_readStatement
    rw [ht]
    simp only [Option.bind_some, hk]
    rw [a, if_neg c, d]
    simp only [Option.bind_some]
    rw [if_neg (by decide), e']
    rfl
  have good : ∀ (k q h' : Int) (r' : Row) (z1 z2 : ZZ), wK b s e = k → k ≠ -1 → fX3_hasRoomFor k y = some 1 → zlp (fun q => fX3_readStatement_s26 k q.1 q.2) FU (0, y) = some (.inl z1) → z1 16 6 = q → CFm y z1 → fX3_addStatement k z1 = some z2 → z2 16 6 = z1 16 6 → z2 16 4 = h' → RH z2 17 r' → CF z1 z2 → CR b L z (.inr (q, r', h')) := fun k q h' r' z1 z2 a c d e' g f g2 g3 g4 g5 g6 => by
    refine CR_r (z' := z2) ?_ (g3.trans g) g4 g5 (CF_tr f1 (CF_tr (CF_m f) g6))
    unfold fX3_readStatement
    rw [ht]
    simp only [Option.bind_some, hk]
    rw [a, if_neg c, d]
    simp only [Option.bind_some]
    rw [if_neg (by decide), e']
    simp only [Option.bind_some]
    rw [g2]
    rfl
  have fR : ∀ z1 : ZZ, CFm y z1 → RH z1 17 r := fun z1 f => RH_fra yR (fun a u v => f.1 a (by omega) (by omega))
  have f4 : ∀ z1 : ZZ, CFm y z1 → z1 16 4 = h := fun z1 f => by rw [f.2 4 (by decide) (by decide), e4]
  by_cases k0 : wK b s e = 0
  · rw [if_pos k0]
    have hr : fX3_hasRoomFor 0 y = if h = 0 then some 1 else some 0 := by
      unfold fX3_hasRoomFor
      rw [if_pos rfl, e4]
    by_cases hh : h = 0
    · rw [if_pos hh] at hr
      rw [if_pos hh]
      obtain ⟨A, B⟩ := c_n3 (w := 0) hT hy e6 (by omega) (by omega) (fun _ => rfl) (l1 := 0) (h1 := 40) (l2 := 0) (h2 := 10) (l3 := 1) (h3 := 200) rfl rfl rfl rfl rfl rfl (by decide) (by decide) (by decide)
      cases en : n3 b L 0 40 0 10 1 200 e with
      | inl x =>
        obtain ⟨z1, g1, g2, g3⟩ := A x en
        exact bad 0 x z1 k0 (by decide) hr g1 g2 g3
      | inr o =>
        obtain ⟨u, v, t, q⟩ := o
        obtain ⟨z1, g1, g2, g3, g4, g5, g6⟩ := B u v t q en
        obtain ⟨z2, d1, d2, d3⟩ := D_rules (u := u) (v := v) (w := t) (fR z1 g6) hP
        refine good 0 q 1 _ z1 (zup z2 16 4 1) k0 (by decide) hr g1 g2 g6 ?_ ?_ (by rw [zup_at, if_pos rfl]) (RH_fra d2 (fun a _ _ => zup_ne (by omega))) ⟨fun a u _ v => by rw [zup_ne u]; exact d3 a (by omega), fun j u _ _ => by rw [zup_at, if_neg u, d3 16 (by decide)]⟩
        · unfold fX3_addStatement zl
          rw [if_pos rfl, g3, g4, g5, d1]
          rfl
        · rw [zup_at, if_neg (by decide), d3 16 (by decide)]
    · rw [if_neg hh] at hr
      rw [if_neg hh]
      exact no 0 k0 (by decide) hr
  · rw [if_neg k0]
    by_cases k1 : wK b s e = 1
    · rw [if_pos k1]
      have hr : fX3_hasRoomFor 1 y = if r 4 < 8 then some 1 else some 0 := by
        unfold fX3_hasRoomFor
        rw [if_neg (by decide), if_pos rfl]
        unfold fX4_isFull
        rw [y18, show zMR 18 = 8 from rfl]
        split <;> rfl
      by_cases hh : r 4 < 8
      · rw [if_pos hh] at hr
        rw [if_pos hh]
        obtain ⟨A, B⟩ := c_n3 (w := 1) hT hy e6 (by omega) (by omega) (fun _ => rfl) (l1 := 3) (h1 := 30) (l2 := 0) (h2 := 5) (l3 := 1) (h3 := 60) rfl rfl rfl rfl rfl rfl (by decide) (by decide) (by decide)
        cases en : n3 b L 3 30 0 5 1 60 e with
        | inl x =>
          obtain ⟨z1, g1, g2, g3⟩ := A x en
          exact bad 1 x z1 k1 (by decide) hr g1 g2 g3
        | inr o =>
          obtain ⟨u, v, t, q⟩ := o
          obtain ⟨z1, g1, g2, g3, g4, g5, g6⟩ := B u v t q en
          obtain ⟨z2, d1, d2, d3⟩ := D_wall (u := u) (v := v) (w := t) (fR z1 g6) hP hh
          refine good 1 q h _ z1 z2 k1 (by decide) hr g1 g2 g6 ?_ (by rw [d3 16 (by decide) (by decide)]) (by rw [d3 16 (by decide) (by decide), f4 z1 g6]) d2 (CF_d (fun a u => d3 a (by omega) (by omega)))
          unfold fX3_addStatement
          rw [if_neg (by decide), if_pos rfl, g3, g4, g5, d1]
          rfl
      · rw [if_neg hh] at hr
        rw [if_neg hh]
        exact no 1 k1 (by decide) hr
    · rw [if_neg k1]
      by_cases k2 : wK b s e = 2
      · rw [if_pos k2]
        have hr : fX3_hasRoomFor 2 y = if r 470 < 15 then some 1 else some 0 := by
          unfold fX3_hasRoomFor
          rw [if_neg (by decide), if_neg (by decide), if_pos rfl]
          unfold fX4_isFull
          rw [y24, show zMR 24 = 15 from rfl]
          split <;> rfl
        by_cases hh : r 470 < 15
        · rw [if_pos hh] at hr
          rw [if_pos hh]
          obtain ⟨A, B⟩ := c_n2 (w := 2) hT hy e6 (by omega) (by omega) (fun _ => rfl) (l1 := 0) (h1 := 3) (l2 := 1) (h2 := 365) rfl rfl rfl rfl (by decide) (by decide)
          cases en : n2 b L 0 3 1 365 e with
          | inl x =>
            obtain ⟨z1, g1, g2, g3⟩ := A x en
            exact bad 2 x z1 k2 (by decide) hr g1 g2 g3
          | inr o =>
            obtain ⟨u, v, q⟩ := o
            obtain ⟨z1, g1, g2, g3, g4, g6⟩ := B u v q en
            obtain ⟨z2, d1, d2, d3⟩ := D_harn (u := u) (v := v) (fR z1 g6) hP hh
            refine good 2 q h _ z1 z2 k2 (by decide) hr g1 g2 g6 ?_ (by rw [d3 16 (by decide) (by decide)]) (by rw [d3 16 (by decide) (by decide), f4 z1 g6]) d2 (CF_d (fun a u => d3 a (by omega) (by omega)))
            unfold fX3_addStatement
            rw [if_neg (by decide), if_neg (by decide), if_pos rfl, g3, g4, d1]
            rfl
        · rw [if_neg hh] at hr
          rw [if_neg hh]
          exact no 2 k2 (by decide) hr
      · rw [if_neg k2]
        by_cases k3 : wK b s e = 3
        · rw [if_pos k3]
          have hr : fX3_hasRoomFor 3 y = if r 546 < 12 then some 1 else some 0 := by
            unfold fX3_hasRoomFor
            rw [if_neg (by decide), if_neg (by decide), if_neg (by decide), if_pos rfl]
            unfold fX4_isFull
            rw [y26, show zMR 26 = 12 from rfl]
            split <;> rfl
          by_cases hh : r 546 < 12
          · rw [if_pos hh] at hr
            rw [if_pos hh]
            obtain ⟨A, B⟩ := c_n2 (w := 3) hT hy e6 (by omega) (by omega) (fun _ => rfl) (l1 := 0) (h1 := 3) (l2 := 0) (h2 := 5) rfl rfl rfl rfl (by decide) (by decide)
            cases en : n2 b L 0 3 0 5 e with
            | inl x =>
              obtain ⟨z1, g1, g2, g3⟩ := A x en
              exact bad 3 x z1 k3 (by decide) hr g1 g2 g3
            | inr o =>
              obtain ⟨u, v, q⟩ := o
              obtain ⟨z1, g1, g2, g3, g4, g6⟩ := B u v q en
              obtain ⟨z2, d1, d2, d3⟩ := D_memb (u := u) (v := v) (fR z1 g6) hP hh
              refine good 3 q h _ z1 z2 k3 (by decide) hr g1 g2 g6 ?_ (by rw [d3 16 (by decide) (by decide)]) (by rw [d3 16 (by decide) (by decide), f4 z1 g6]) d2 (CF_d (fun a u => d3 a (by omega) (by omega)))
              unfold fX3_addStatement
              rw [if_neg (by decide), if_neg (by decide), if_neg (by decide), if_pos rfl, g3, g4, d1]
              rfl
          · rw [if_neg hh] at hr
            rw [if_neg hh]
            exact no 3 k3 (by decide) hr
        · rw [if_neg k3]
          by_cases k4 : wK b s e = 4
          · rw [if_pos k4]
            have hr : fX3_hasRoomFor 4 y = if r 619 < 8 then some 1 else some 0 := by
              unfold fX3_hasRoomFor
              rw [if_neg (by decide), if_neg (by decide), if_neg (by decide), if_neg (by decide)]
              unfold fX4_isFull
              rw [y28, show zMR 28 = 8 from rfl]
              split <;> rfl
            by_cases hh : r 619 < 8
            · rw [if_pos hh] at hr
              rw [if_pos hh]
              obtain ⟨A, B⟩ := c_n3 (w := 4) hT hy e6 (by omega) (by omega) (fun _ => rfl) (l1 := 1) (h1 := 5) (l2 := 1) (h2 := 12) (l3 := 0) (h3 := 200) rfl rfl rfl rfl rfl rfl (by decide) (by decide) (by decide)
              cases en : n3 b L 1 5 1 12 0 200 e with
              | inl x =>
                obtain ⟨z1, g1, g2, g3⟩ := A x en
                exact bad 4 x z1 k4 (by decide) hr g1 g2 g3
              | inr o =>
                obtain ⟨u, v, t, q⟩ := o
                obtain ⟨z1, g1, g2, g3, g4, g5, g6⟩ := B u v t q en
                obtain ⟨z2, d1, d2, d3⟩ := D_cour (u := u) (v := v) (w := t) (fR z1 g6) hP hh
                refine good 4 q h _ z1 z2 k4 (by decide) hr g1 g2 g6 ?_ (by rw [d3 16 (by decide) (by decide)]) (by rw [d3 16 (by decide) (by decide), f4 z1 g6]) d2 (CF_d (fun a u => d3 a (by omega) (by omega)))
                unfold fX3_addStatement
                rw [if_neg (by decide), if_neg (by decide), if_neg (by decide), if_neg (by decide), g3, g4, g5, d1]
                rfl
            · rw [if_neg hh] at hr
              rw [if_neg hh]
              exact no 4 k4 (by decide) hr
          · rw [if_neg k4]
            have km : wK b s e = -1 := by
              have := wK_rng b s e
              omega
            refine CR_l (z' := y) ?_ e5 f1
            unfold fX3_readStatement
            rw [ht]
            simp only [Option.bind_some, hk]
            rw [if_pos km]
theorem stm_ok {q h' : Int} {r' : Row} (hT : TXT b L) (h0 : 0 ≤ p ∧ p ≤ L) (hP : PR r) (hh : h = 0 ∨ h = 1) (e : stm b L p r h = .inr (q, r', h')) : p < q ∧ q ≤ L ∧ PR r' ∧ (h' = 0 ∨ h' = 1) := by
  obtain ⟨s1, s2⟩ := tS_ok hT h0
  unfold stm at e
  generalize tS b p = s at *
  obtain ⟨t1, t2, t3, t4⟩ := tE_ok hT (s := s) (by omega)
  generalize tE b L s = f at *
  split at e
  · split at e
    · cases en : n3 b L 0 40 0 10 1 200 f with
      | inl x => rw [en] at e; cases e
      | inr o =>
        obtain ⟨u, v, w, q'⟩ := o
        rw [en] at e
        have g := n3_ok hT (by omega) en
        cases e
        exact ⟨by omega, g.2.1, PR_rules hP g.2.2.1 g.2.2.2.1 g.2.2.2.2, Or.inr rfl⟩
    · cases e
  · split at e
    · split at e
      · cases en : n3 b L 3 30 0 5 1 60 f with
        | inl x => rw [en] at e; cases e
        | inr o =>
          obtain ⟨u, v, w, q'⟩ := o
          rw [en] at e
          have g := n3_ok hT (by omega) en
          cases e
          exact ⟨by omega, g.2.1, PR_wall hP (by assumption) g.2.2.2.1 g.2.2.2.2, hh⟩
      · cases e
    · split at e
      · split at e
        · cases en : n2 b L 0 3 1 365 f with
          | inl x => rw [en] at e; cases e
          | inr o =>
            obtain ⟨u, v, q'⟩ := o
            rw [en] at e
            have g := n2_ok hT (by omega) en
            cases e
            exact ⟨by omega, g.2.1, PR_harn hP (by assumption) g.2.2.2, hh⟩
        · cases e
      · split at e
        · split at e
          · cases en : n2 b L 0 3 0 5 f with
            | inl x => rw [en] at e; cases e
            | inr o =>
              obtain ⟨u, v, q'⟩ := o
              rw [en] at e
              have g := n2_ok hT (by omega) en
              cases e
              exact ⟨by omega, g.2.1, PR_memb hP (by assumption) g.2.2.2, hh⟩
          · cases e
        · split at e
          · split at e
            · cases en : n3 b L 1 5 1 12 0 200 f with
              | inl x => rw [en] at e; cases e
              | inr o =>
                obtain ⟨u, v, w, q'⟩ := o
                rw [en] at e
                have g := n3_ok hT (by omega) en
                cases e
                exact ⟨by omega, g.2.1, PR_cour hP (by assumption) g.2.2.1 g.2.2.2.1 g.2.2.2.2, hh⟩
            · cases e
          · cases e
end C2

/-! the law's cases of the text -/
def R0 (r : Row) : Prop := r 0 = 20 ∧ r 1 = 2 ∧ r 2 = 50 ∧ r 3 = 0 ∧ r 4 = 0 ∧ r 37 = 0 ∧ r 470 = 0 ∧ r 546 = 0 ∧ r 619 = 0 ∧ r 644 = 0
def rB (z : ZZ) : Row := fun j => if j = 2 then 50 else if j = 1 then 2 else if j = 0 then 20 else if 0 ≤ j ∧ j < 765 then 0 else z 153 j
theorem rB_R0 (z : ZZ) : R0 (rB z) := ⟨rfl, rfl, rfl, rfl, rfl, rfl, rfl, rfl, rfl, rfl⟩
theorem rB_eq {z z' : ZZ} (h : z' 153 = z 153) : rB z' = rB z := by
  unfold rB
  rw [h]
theorem PR_0 {r : Row} (h : R0 r) : PR r := by
  obtain ⟨h0, h1, h2, h3, h4, h5, h6, h7, h8, h9⟩ := h
  refine ⟨?_, ⟨h5, h9, h3⟩, fun k a c => by omega, fun k a c => by omega, fun k a c => by omega, fun k a c => by omega⟩
  unfold IHn
  omega
section LD
variable {z : ZZ} {b : Int → Int} {L B v : Int} {r : Row} {ln : Nat}
theorem c_clear (h : R0 r) : ∃ z', fX1_clear 17 z = some z' ∧ RH z' 17 r ∧ ∀ a, ¬ (17 ≤ a ∧ a ≤ 29) → z' a = z a := by
  obtain ⟨h0, h1, h2, h3, h4, h5, h6, h7, h8, h9⟩ := h
  refine ⟨zup (zup (zup (zup (zup (zup (zup (zup (zup (zup z 18 3 0) 20 3 0) 22 3 0) 24 3 0) 26 3 0) 28 3 0) 17 7 0) 17 8 20) 17 9 2) 17 10 50, rfl, ⟨⟨?_, fun j a c => by omega⟩, ⟨?_, fun j a c => by omega⟩, ⟨?_, fun j a c => by omega⟩, ⟨?_, fun k c a d => by omega⟩, ⟨?_, fun j a c => by omega⟩, ⟨?_, fun j a c => by omega⟩, ?_, ?_, ?_, ?_⟩, fun a q => ?_⟩
  · rw [h4]; rfl
  · rw [h5]; rfl
  · rw [h9]; rfl
  · rw [h6]; rfl
  · rw [h7]; rfl
  · rw [h8]; rfl
  · rw [h3]; rfl
  · rw [h0]; rfl
  · rw [h1]; rfl
  · rw [h2]; rfl
  · rw [zup_ne (by omega), zup_ne (by omega), zup_ne (by omega), zup_ne (by omega), zup_ne (by omega), zup_ne (by omega), zup_ne (by omega), zup_ne (by omega), zup_ne (by omega), zup_ne (by omega)]
theorem c_draft (hT : TXT b L) (hC : TC b L z) (h : R0 r) : (∀ x, prs b L 601 0 r 0 = .inl x → ∃ z', fX3_readDraft z = some (x, z') ∧ 0 ≤ x ∧ CF z z') ∧
    (∀ r', prs b L 601 0 r 0 = .inr r' → ∃ z', fX3_readDraft z = some (-1, z') ∧ RH z' 17 r' ∧ PR r' ∧ CF z z') := by
  have hL := hT.2.1
  obtain ⟨z1, e1, e2, e3⟩ := c_clear (z := z) h
  have f : CF z (zup (zup z1 16 4 0) 16 6 0) := ⟨fun a p q u => by rw [zup_ne p, zup_ne p, e3 a u], fun j p q u => by rw [zup_at, if_neg u, zup_at, if_neg p, e3 16 (by decide)]⟩
  obtain ⟨A, B⟩ := c_loop hT 601 0 r 0 0 (zup (zup z1 16 4 0) 16 6 0) FU (FU_lt (by decide)) (by omega) (Int.le_refl _) (Int.le_refl _) hT.1 (TC_f hC f) (by rw [zup_at, if_pos rfl]) (by rw [zup_at, if_neg (by decide), zup_at, if_pos rfl]) (Or.inl rfl) (RH_fra e2 (fun a p q => by rw [zup_ne (by omega), zup_ne (by omega)])) (PR_0 h)
  refine ⟨fun x hx => ?_, fun r' hx => ?_⟩
  · obtain ⟨z', g1, g2, g3⟩ := A x hx
    refine ⟨z', ?_, g2, CF_tr f g3⟩
    unfold fX3_readDraft zl
    rw [e1]
    simp only [Option.bind_some]
    rw [g1]
    rfl
  · obtain ⟨z', g1, g2, g3, g4⟩ := B r' hx
    refine ⟨z', ?_, g2, g3, CF_tr f g4⟩
    unfold fX3_readDraft zl
    rw [e1]
    simp only [Option.bind_some]
    rw [g1]
    rfl
theorem m_begin : ∃ z', fX6_begin z = some z' ∧ z' 153 = rB z ∧ z' 151 14 = 0 ∧ (∀ a, a ≠ 151 → a ≠ 153 → z' a = z a) ∧ ∀ j, j ≠ 14 → z' 151 j = z 151 j := by
  obtain ⟨o, eo, o1, o2⟩ := lp_rel (step := fun q : Int × ZZ => fX6_begin_s2 q.1 q.2) (fun _ (a : Unit) => a) (fun i _ s => s.1 = i ∧ (∀ j, s.2 153 j = if 0 ≤ j ∧ j < i then 0 else z 153 j) ∧ ∀ a, a ≠ 153 → s.2 a = z a) (fun _ o => (∀ j, o 153 j = if 0 ≤ j ∧ j < 765 then 0 else z 153 j) ∧ ∀ a, a ≠ 153 → o a = z a) 765 0 () (0, z) FU (FU_lt (by decide)) ⟨rfl, fun j => by rw [if_neg (by omega)], fun a p => rfl⟩ (fun i q s h1 h2 h => by
      obtain ⟨w1, w2⟩ := s
      obtain ⟨p1, p3, p4⟩ := h
      dsimp only at p1 p3 p4
      subst p1
      have k1 : w1 < 765 := by omega
      have k2 : inR (w1 + 1) := inR_s (by omega)
      have k4 : (0 : Int) ≤ w1 ∧ w1 < 765 := by omega
      refine ⟨(w1 + 1, zup w2 153 w1 0), ?_, rfl, fun j => ?_, fun a p => ?_⟩
      · simp only [fX6_begin_s2, zl, if_pos k1, if_pos k4, if_pos k2]
      · show zup _ _ _ _ 153 j = _
        rw [zup_at, p3]
        by_cases e : j = w1
        · rw [if_pos e, if_pos (by omega)]
        · rw [if_neg e]
          by_cases e2 : 0 ≤ j ∧ j < w1
          · rw [if_pos e2, if_pos (by omega)]
          · rw [if_neg e2, if_neg (by omega)]
      · show zup _ _ _ _ a = _
        rw [zup_ne p]
        exact p4 a p) (fun q s h => by
      obtain ⟨w1, w2⟩ := s
      obtain ⟨p1, p3, p4⟩ := h
      dsimp only at p1 p3 p4
      refine ⟨w2, ?_, fun j => ?_, p4⟩
      · dsimp only
        unfold fX6_begin_s2
        rw [if_neg (by omega)]
      · rw [p3]
        by_cases e2 : 0 ≤ j ∧ j < 765
        · rw [if_pos e2, if_pos (by omega)]
        · rw [if_neg e2, if_neg (by omega)])
  refine ⟨zup (zup (zup (zup o 153 0 20) 153 1 2) 153 2 50) 151 14 0, ?_, ?_, by rw [zup_at, if_pos rfl], fun a p q => by rw [zup_ne p, zup_ne q, zup_ne q, zup_ne q, o2 a q], fun j p => by rw [zup_at, if_neg p, zup_ne (by decide), zup_ne (by decide), zup_ne (by decide), o2 151 (by decide)]⟩
  · unfold fX6_begin zl
    rw [eo]
    rfl
  · rw [zup_ne (by decide)]
    funext j
    rw [zup_at, zup_at, zup_at, o1]
    rfl
theorem m_parse (hT : TXT b L) (hM : TM b L z) : (∀ x, prs b L 601 0 (rB z) 0 = .inl x → ∃ w, fX6_parse z = some (x, w) ∧ MF z w) ∧
    (∀ r', prs b L 601 0 (rB z) 0 = .inr r' → ∃ w, fX6_parse z = some (-1, w) ∧ w 153 = r' ∧ MF z w) := by
  have hL := hT.2.1
  obtain ⟨z3, e1, e2, e3, e4, e5⟩ := m_begin (z := zup (zup z 151 3 0) 151 7 (-1))
  have f3 : MF z z3 := ⟨fun a p q => by rw [e4 a p q, zup_ne p, zup_ne p], fun j p q u w x y => by rw [e5 j y, zup_at, if_neg x, zup_at, if_neg p]⟩
  have hM3 := TM_f hM f3
  have z33 : z3 151 3 = 0 := by rw [e5 3 (by decide), zup_at, if_neg (by decide), zup_at, if_pos rfl]
  have z37 : z3 151 7 = -1 := by rw [e5 7 (by decide), zup_at, if_pos rfl]
  obtain ⟨z4, g1, g2⟩ := m_tok hT hM3 z33 ⟨Int.le_refl _, hT.1⟩
  obtain ⟨m1, m2⟩ := MS_of hM3 z37 g2
  have er : z4 153 = rB z := by rw [MFs_153 m2, e2]; exact rB_eq (by rw [zup_ne (by decide), zup_ne (by decide)])
  obtain ⟨y, y1, A, B⟩ := m_loop hT 601 0 (rB z) 0 z4 FU (FU_lt (by decide)) (by omega) (Int.le_refl _) hT.1 m1 er (by rw [MFs_14 m2, e3]) (Or.inl rfl) (PR_0 (rB_R0 z))
  have pre : ∀ (o w : ZZ) (x : Int), zlp (fun q => fX6_parse_s22 q) FU y = some o → tailM o = some (x, w) → fX6_parse z = some (x, w) := fun o w x h1 h2 => by
    unfold fX6_parse zl
    dsimp only
    rw [e1]
    simp only [Option.bind_some]
    rw [g1]
    simp only [Option.bind_some]
    rw [y1]
    simp only [Option.bind_some]
    rw [h1]
    exact h2
  refine ⟨fun x hx => ?_, fun r' hx => ?_⟩
  · obtain ⟨o, w, a1, a2, a3⟩ := A x hx
    exact ⟨w, pre o w x a1 a2, MF_tr f3 (MF_tr (MF_s m2) a3)⟩
  · obtain ⟨o, w, a1, a2, a3, a4⟩ := B r' hx
    exact ⟨w, pre o w (-1) a1 a2, a3, MF_tr f3 (MF_tr (MF_s m2) a4)⟩
def bOf (z : ZZ) : Int → Int := fun k => if 0 ≤ k ∧ k < z 16 1 then z 30 k else 0
theorem TXT_of (h : TX z) : TXT (bOf z) (z 16 1) ∧ TC (bOf z) (z 16 1) z ∧ TM (bOf z) (z 16 1) z := by
  obtain ⟨t1, t2, t3, t4⟩ := h
  refine ⟨⟨t2, t3, fun k hk => ?_, fun k a c => ?_⟩, ⟨rfl, fun k a c => ?_⟩, ⟨t1.symm, fun k a c => ?_⟩⟩
  · unfold bOf
    rw [if_neg (by omega)]
  · unfold bOf
    rw [if_pos ⟨a, c⟩]
    exact (t4 k a c).2
  · unfold bOf
    rw [if_pos ⟨a, c⟩]
  · unfold bOf
    rw [if_pos ⟨a, c⟩]
    exact (t4 k a c).1.symm
/-- what reading a text leaves -/
theorem INV_txt {w : ZZ} (hV : INV B z) (h1 : ∀ a, a ≠ 16 → a ≠ 31 → ¬ (17 ≤ a ∧ a ≤ 29) → a ≠ 151 → a ≠ 153 → w a = z a) (h2 : w 16 1 = z 16 1) (h3 : ∀ j, j ≠ 0 → j ≠ 3 → j ≠ 4 → j ≠ 5 → j ≠ 6 → j ≠ 7 → j ≠ 14 → w 151 j = z 151 j) : INV B w := by
  obtain ⟨hR, hI, hH, hT⟩ := hV
  have e154 := h1 154 (by decide) (by decide) (by decide) (by decide) (by decide)
  refine ⟨?_, by rw [e154]; exact hI, HT_fra hH (fun a p q => h1 a (by omega) (by omega) (by omega) (by omega) (by omega)) (h1 155 (by decide) (by decide) (by decide) (by decide) (by decide)) (h1 156 (by decide) (by decide) (by decide) (by decide) (by decide)) (h3 12 (by decide) (by decide) (by decide) (by decide) (by decide) (by decide) (by decide)) (h3 13 (by decide) (by decide) (by decide) (by decide) (by decide) (by decide) (by decide)), TX_fra hT h2 (h1 30 (by decide) (by decide) (by decide) (by decide) (by decide)) (h3 2 (by decide) (by decide) (by decide) (by decide) (by decide) (by decide) (by decide)) (h1 152 (by decide) (by decide) (by decide) (by decide) (by decide))⟩
  rw [e154]
  exact RH_fra (h := 3) (RC_iff.mp hR) (fun a p q => h1 a (by omega) (by omega) (by omega) (by omega) (by omega))
theorem w_c2 (hV : INV B z) (hB : B ≤ 900000) : ∃ z', fL_c2 ln v z = some (1, z') ∧ INV (B + 60) z' ∧ z' 1000000 = z 1000000 := by
  have hT := hV.2.2.2
  obtain ⟨t1, t2, t3⟩ := TXT_of hT
  have key : ∀ (x : Int) (z1 w : ZZ), fX3_readDraft z = some (x, z1) → CF z z1 → fX6_parse (zup z1 151 0 0) = some (x, w) → MF (zup z1 151 0 0) w → ∃ z', fL_c2 ln v z = some (1, z') ∧ INV (B + 60) z' ∧ z' 1000000 = z 1000000 := fun x z1 w a1 a2 a3 a4 => by
    have fr : ∀ a, a ≠ 16 → a ≠ 31 → ¬ (17 ≤ a ∧ a ≤ 29) → a ≠ 151 → a ≠ 153 → w a = z a := fun a p1 p2 p3 p4 p5 => by rw [a4.1 a p4 p5, zup_ne p4, a2.1 a p1 p2 p3]
    refine ⟨w, ?_, INV_mono (INV_txt hV fr (by rw [a4.1 16 (by decide) (by decide), zup_ne (by decide), a2.2 1 (by decide) (by decide) (by decide)]) (fun j p0 p3 p4 p5 p6 p7 p14 => by rw [a4.2 j p3 p4 p5 p6 p7 p14, zup_at, if_neg p0, a2.1 151 (by decide) (by decide) (by decide)])) (by omega) (by omega), fr _ (by decide) (by decide) (by decide) (by decide) (by decide)⟩
    unfold fL_c2 fX5_errorPosition
    rw [a1]
    simp only [Option.bind_some]
    unfold fX6_errorPosition zl
    dsimp only
    rw [a3]
    simp only [Option.bind_some, if_true]
  have m153 : ∀ z1 : ZZ, CF z z1 → rB (zup z1 151 0 0) = rB z := fun z1 f => rB_eq (by rw [zup_ne (by decide), f.1 153 (by decide) (by decide) (by decide)])
  have tm : ∀ z1 : ZZ, CF z z1 → TM (bOf z) (z 16 1) (zup z1 151 0 0) := fun z1 f => by
    refine ⟨by rw [zup_at, if_neg (by decide), f.1 151 (by decide) (by decide) (by decide)]; exact t3.1, fun k a c => ?_⟩
    rw [zup_ne (by decide), f.1 152 (by decide) (by decide) (by decide)]
    exact t3.2 k a c
  obtain ⟨A, Bc⟩ := c_draft t1 t2 (rB_R0 z)
  cases e : prs (bOf z) (z 16 1) 601 0 (rB z) 0 with
  | inl x =>
    obtain ⟨z1, a1, a2, a3⟩ := A x e
    obtain ⟨A', -⟩ := m_parse t1 (tm z1 a3)
    rw [m153 z1 a3] at A'
    obtain ⟨w, b1, b2⟩ := A' x e
    exact key x z1 w a1 a3 b1 b2
  | inr r' =>
    obtain ⟨z1, a1, a2, a3, a4⟩ := Bc r' e
    obtain ⟨-, B'⟩ := m_parse t1 (tm z1 a4)
    rw [m153 z1 a4] at B'
    obtain ⟨w, b1, b2, b3⟩ := B' r' e
    exact key (-1) z1 w a1 a4 b1 b3
theorem m_take_lp : zlp (fun q => fX6_takeRead_s2 q.1 q.2) FU (0, z) = some (cpz z 154 0 (z 153) 765) := by
  have key := (lp_forI (step := fun q => fX6_takeRead_s2 q.1 q.2) (fun i (_ : Unit) => (i, cpz z 154 0 (z 153) i)) (fun _ a => a) (fun _ => cpz z 154 0 (z 153) 765) (fun _ _ => True) 0 765 () (by omega) (by omega) trivial (fun i a h1 h2 _ => by
    refine ⟨?_, trivial⟩
    show fX6_takeRead_s2 i (cpz z 154 0 (z 153) i) = _
    have e := cpz_s (z := z) (d := 154) (o := 0) (f := z 153) h1
    rw [Int.zero_add] at e
    unfold fX6_takeRead_s2 zl
    dsimp only
    rw [if_pos h2, if_pos ⟨h1, h2⟩, cpz_ne (b := 153) (by decide), e, if_pos (inR_s (by omega))]) (fun a _ => by
    show fX6_takeRead_s2 765 (cpz z 154 0 (z 153) 765) = _
    unfold fX6_takeRead_s2
    rw [if_neg (by omega)])).1
  rw [cpz_0] at key
  exact key
theorem w_c3 (hV : INV B z) (hB : B ≤ 900000) : ∃ z', fL_c3 ln v z = some (1, z') ∧ INV (B + 60) z' ∧ z' 1000000 = z 1000000 := by
  have hT := hV.2.2.2
  have hnB := hV.2.1.1
  unfold IHn at hnB
  obtain ⟨t1, t2, t3⟩ := TXT_of hT
  have m153 : ∀ z1 : ZZ, z1 153 = z 153 → rB (zup z1 151 0 0) = rB z := fun z1 f => rB_eq (by rw [zup_ne (by decide), f])
  have tm : ∀ z1 : ZZ, z1 151 = z 151 → z1 152 = z 152 → TM (bOf z) (z 16 1) (zup z1 151 0 0) := fun z1 f g => by
    refine ⟨by rw [zup_at, if_neg (by decide), f]; exact t3.1, fun k a c => ?_⟩
    rw [zup_ne (by decide), g]
    exact t3.2 k a c
  obtain ⟨A, Bc⟩ := c_draft t1 t2 (rB_R0 z)
  cases e : prs (bOf z) (z 16 1) 601 0 (rB z) 0 with
  | inl x =>
    obtain ⟨z1, a1, a2, a3⟩ := A x e
    obtain ⟨A', -⟩ := m_parse t1 (tm z1 (a3.1 151 (by decide) (by decide) (by decide)) (a3.1 152 (by decide) (by decide) (by decide)))
    rw [m153 z1 (a3.1 153 (by decide) (by decide) (by decide))] at A'
    obtain ⟨w, b1, b2⟩ := A' x e
    have fr : ∀ a, a ≠ 16 → a ≠ 31 → ¬ (17 ≤ a ∧ a ≤ 29) → a ≠ 151 → a ≠ 153 → zup w 151 0 1 a = z a := fun a p1 p2 p3 p4 p5 => by rw [zup_ne p4, b2.1 a p4 p5, zup_ne p4, a3.1 a p1 p2 p3]
    refine ⟨zup w 151 0 1, ?_, INV_mono (INV_txt hV fr (by rw [zup_ne (by decide), b2.1 16 (by decide) (by decide), zup_ne (by decide), a3.2 1 (by decide) (by decide) (by decide)]) (fun j p0 p3 p4 p5 p6 p7 p14 => by rw [zup_at, if_neg p0, b2.2 j p3 p4 p5 p6 p7 p14, zup_at, if_neg p0, a3.1 151 (by decide) (by decide) (by decide)])) (by omega) (by omega), fr _ (by decide) (by decide) (by decide) (by decide) (by decide)⟩
    have c1 : fL_load z = some (1, z1) := by
      unfold fL_load fX5_load
      rw [a1]
      simp only [Option.bind_some]
      rw [if_neg (by omega)]
      rfl
    have c2 : fX6_load z1 = some (0, zup w 151 0 1) := by
      unfold fX6_load fX6_load_b18 zl
      dsimp only
      rw [b1]
      simp only [Option.bind_some]
      rw [if_neg (by omega), m_fails0]
      rfl
    unfold fL_c3
    rw [c1]
    simp only [Option.bind_some]
    rw [c2]
    simp only [Option.bind_some]
    rw [show fX6_thrown (zup w 151 0 1) = some 1 from rfl]
    rfl
  | inr r' =>
    obtain ⟨z1, a1, a2, a3, a4⟩ := Bc r' e
    have hI' := PR_IH a3
    obtain ⟨z2, e2, h2, f2⟩ := c_copy kH3 kH17 (by omega) hI'.1 a2
    have n4 : z2 4 3 = r' 4 := h2.1.1
    have c1 : fL_load z = some (0, zup (zup (zup (zup z2 32 1 0) 32 4 0) 16 1 0) 159 0 (r' 4)) := by
      unfold fL_load fX5_load fX2_forgetAll zl
      rw [a1]
      simp only [Option.bind_some, if_true]
      rw [e2]
      simp only [Option.bind_some]
      rw [zup_ne (b := 4) (by decide), zup_ne (b := 4) (by decide), zup_ne (b := 4) (by decide), n4]
    generalize hy : zup (zup (zup (zup z2 32 1 0) 32 4 0) 16 1 0) 159 0 (r' 4) = y at c1
    have yo : ∀ a, a ≠ 16 → a ≠ 31 → ¬ (17 ≤ a ∧ a ≤ 29) → a ≠ 32 → a ≠ 159 → ¬ (3 ≤ a ∧ a ≤ 15) → y a = z a := fun a p1 p2 p3 p4 p5 p6 => by rw [← hy, zup_ne p5, zup_ne p1, zup_ne p4, zup_ne p4, f2 a (by omega), a4.1 a p1 p2 p3]
    obtain ⟨-, B'⟩ := m_parse t1 (tm y (yo 151 (by decide) (by decide) (by decide) (by decide) (by decide) (by decide)) (yo 152 (by decide) (by decide) (by decide) (by decide) (by decide) (by decide)))
    rw [m153 y (yo 153 (by decide) (by decide) (by decide) (by decide) (by decide) (by decide))] at B'
    obtain ⟨w, b1, b2, b3⟩ := B' r' e
    have c2 : fX6_load y = some (r' 4, zup (zup (zup (cpz w 154 0 (w 153) 765) 151 12 0) 151 13 0) 151 2 0) := by
      unfold fX6_load fX6_load_b18 fX6_takeRead zl
      dsimp only
      rw [b1]
      simp only [Option.bind_some]
      rw [if_pos (by decide), m_fails1]
      simp only [Option.bind_some, if_true]
      rw [m_take_lp]
      simp only [Option.bind_some]
      rw [zup_ne (b := 154) (by decide), zup_ne (b := 154) (by decide), zup_ne (b := 154) (by decide), cpz_at, if_pos (by omega), b2]
      rfl
    have w0 : w 151 0 = 0 := by rw [b3.2 0 (by decide) (by decide) (by decide) (by decide) (by decide) (by decide), zup_at, if_pos rfl]
    have w159 : w 159 0 = r' 4 := by rw [b3.1 159 (by decide) (by decide), zup_ne (by decide), ← hy, zup_at, if_pos rfl]
    refine ⟨zup (zup (zup (cpz w 154 0 (w 153) 765) 151 12 0) 151 13 0) 151 2 0, ?_, ?_, ?_⟩
    · unfold fL_c3
      rw [c1]
      simp only [Option.bind_some]
      rw [c2]
      simp only [Option.bind_some]
      rw [show fX6_thrown (zup (zup (zup (cpz w 154 0 (w 153) 765) 151 12 0) 151 13 0) 151 2 0) = some 0 by
        unfold fX6_thrown
        rw [zup_at, if_neg (by decide), zup_at, if_neg (by decide), zup_at, if_neg (by decide), cpz_ne (by decide), w0]]
      simp only [Option.bind_some, if_true]
      rw [zup_ne (b := 159) (by decide), zup_ne (b := 159) (by decide), zup_ne (b := 159) (by decide), cpz_ne (b := 159) (by decide), w159, zcmp_eq, if_pos rfl]
    · generalize hZ : zup (zup (zup (cpz w 154 0 (w 153) 765) 151 12 0) 151 13 0) 151 2 0 = Z
      have eZ : ∀ a, a ≠ 151 → a ≠ 153 → a ≠ 154 → Z a = y a := fun a p1 p2 p3 => by rw [← hZ, zup_ne p1, zup_ne p1, zup_ne p1, cpz_ne p3, b3.1 a p1 p2, zup_ne p1]
      have e32 : ∀ j, Z 32 j = if j = 4 then 0 else if j = 1 then 0 else z 32 j := fun j => by rw [eZ 32 (by decide) (by decide) (by decide), ← hy, zup_ne (by decide), zup_ne (by decide), zup_at, zup_at, f2 32 (by omega), a4.1 32 (by decide) (by decide) (by decide)]
      have e16 : Z 16 1 = 0 := by rw [eZ 16 (by decide) (by decide) (by decide), ← hy, zup_ne (by decide), zup_at, if_pos rfl]
      have e12 : Z 151 12 = 0 := by rw [← hZ, zup_at, if_neg (by decide), zup_at, if_neg (by decide), zup_at, if_pos rfl]
      have e13 : Z 151 13 = 0 := by rw [← hZ, zup_at, if_neg (by decide), zup_at, if_pos rfl]
      have e2' : Z 151 2 = 0 := by rw [← hZ, zup_at, if_pos rfl]
      have e154 : ∀ i, 0 ≤ i → i < 765 → Z 154 i = r' i := fun i p q => by rw [← hZ, zup_ne (by decide), zup_ne (by decide), zup_ne (by decide), cpz_at, if_pos (by omega), Int.sub_zero, b2]
      have e3 : ∀ a, 3 ≤ a → a ≤ 15 → Z a = z2 a := fun a p q => by rw [eZ a (by omega) (by omega) (by omega), ← hy, zup_ne (by omega), zup_ne (by omega), zup_ne (by omega), zup_ne (by omega)]
      have g1 : Z 32 1 = 0 := by rw [e32, if_neg (by decide), if_pos rfl]
      have g2 : Z 32 2 = z 32 2 := by rw [e32, if_neg (by decide), if_neg (by decide)]
      have g4 : Z 32 4 = 0 := by rw [e32, if_pos rfl]
      have hH := hV.2.2.1.1
      refine INV_mono (B := B) ⟨?_, IH_mono (IH_congr hI' e154) (by omega) (by omega), ⟨by rw [g1, g2, e12]; omega, fun j a c => by rw [g1] at c; omega, ⟨by rw [g4, e13], Or.inl g4⟩, fun q => by rw [g4] at q; omega⟩, ⟨by rw [e16, e2'], by rw [e16]; omega, by rw [e16]; omega, fun k a c => by rw [e16] at c; omega⟩⟩ (by omega) (by omega)
      exact RH_congr (RH_fra (h := 3) h2 (fun a p q => e3 a p (by omega))) hI'.1 e154
    · rw [zup_ne (by decide), zup_ne (by decide), zup_ne (by decide), cpz_ne (by decide), b3.1 _ (by decide) (by decide), zup_ne (by decide), yo _ (by decide) (by decide) (by decide) (by decide) (by decide) (by decide)]
end LD

/-! a whole text -/
def prs (b : Int → Int) (L : Int) : Nat → Int → Row → Int → Int ⊕ Row
  | 0, p, _, _ => .inl p
  | n + 1, p, r, h => match stm b L p r h with
    | .inl x => .inl x
    | .inr (q, r', h') => if L ≤ tS b q then .inr r' else if b (tS b q) = 59 then prs b L n (tE b L (tS b q)) r' h' else .inl (tS b q)
section PA
variable {z : ZZ} {b : Int → Int} {L p h : Int} {r : Row}
theorem num_l {lo hi x : Int} (hT : TXT b L) (h0 : 0 ≤ p ∧ p ≤ L) (e : num b L lo hi p = .inl x) : 0 ≤ x := by
  obtain ⟨s1, s2⟩ := tS_ok hT h0
  unfold num at e
  split at e
  · cases e
  · cases e
    omega
theorem n2_l {l1 h1 l2 h2 x : Int} (hT : TXT b L) (h0 : 0 ≤ p ∧ p ≤ L) (e : n2 b L l1 h1 l2 h2 p = .inl x) : 0 ≤ x := by
  unfold n2 at e
  cases e1 : num b L l1 h1 p with
  | inl y =>
    rw [e1] at e
    cases e
    exact num_l hT h0 e1
  | inr y =>
    obtain ⟨v1, p1⟩ := y
    rw [e1] at e
    have g1 := num_ok hT h0 e1
    dsimp only at e
    cases e2 : num b L l2 h2 p1 with
    | inl y =>
      rw [e2] at e
      cases e
      exact num_l hT (by omega) e2
    | inr y =>
      obtain ⟨v2, p2⟩ := y
      rw [e2] at e
      cases e
theorem n3_l {l1 h1 l2 h2 l3 h3 x : Int} (hT : TXT b L) (h0 : 0 ≤ p ∧ p ≤ L) (e : n3 b L l1 h1 l2 h2 l3 h3 p = .inl x) : 0 ≤ x := by
  unfold n3 at e
  cases e1 : num b L l1 h1 p with
  | inl y =>
    rw [e1] at e
    cases e
    exact num_l hT h0 e1
  | inr y =>
    obtain ⟨v1, p1⟩ := y
    rw [e1] at e
    have g1 := num_ok hT h0 e1
    dsimp only at e
    cases e2 : num b L l2 h2 p1 with
    | inl y =>
      rw [e2] at e
      cases e
      exact num_l hT (by omega) e2
    | inr y =>
      obtain ⟨v2, p2⟩ := y
      rw [e2] at e
      have g2 := num_ok hT (by omega) e2
      dsimp only at e
      cases e3 : num b L l3 h3 p2 with
      | inl y =>
        rw [e3] at e
        cases e
        exact num_l hT (by omega) e3
      | inr y =>
        obtain ⟨v3, p3⟩ := y
        rw [e3] at e
        cases e
theorem stm_l {x : Int} (hT : TXT b L) (h0 : 0 ≤ p ∧ p ≤ L) (e : stm b L p r h = .inl x) : 0 ≤ x := by
  obtain ⟨s1, s2⟩ := tS_ok hT h0
  unfold stm at e
  generalize tS b p = s at *
  obtain ⟨t1, t2, -, -⟩ := tE_ok hT (s := s) (by omega)
  generalize tE b L s = f at *
  have a3 : ∀ (l1 h1 l2 h2 l3 h3 : Int) (g : Int × Int × Int × Int → Int ⊕ (Int × Row × Int)), (∀ o y, g o ≠ .inl y) → (match n3 b L l1 h1 l2 h2 l3 h3 f with
      | .inl x => .inl x
      | .inr (u, v, w, q) => g (u, v, w, q) : Int ⊕ (Int × Row × Int)) = .inl x → 0 ≤ x := fun l1 h1 l2 h2 l3 h3 g hg hx => by
    cases en : n3 b L l1 h1 l2 h2 l3 h3 f with
    | inl y =>
      rw [en] at hx
      cases hx
      exact n3_l hT (by omega) en
    | inr o =>
      obtain ⟨u, v, w, q⟩ := o
      rw [en] at hx
      exact absurd hx (hg _ _)
  have a2 : ∀ (l1 h1 l2 h2 : Int) (g : Int × Int × Int → Int ⊕ (Int × Row × Int)), (∀ o y, g o ≠ .inl y) → (match n2 b L l1 h1 l2 h2 f with
      | .inl x => .inl x
      | .inr (u, v, q) => g (u, v, q) : Int ⊕ (Int × Row × Int)) = .inl x → 0 ≤ x := fun l1 h1 l2 h2 g hg hx => by
    cases en : n2 b L l1 h1 l2 h2 f with
    | inl y =>
      rw [en] at hx
      cases hx
      exact n2_l hT (by omega) en
    | inr o =>
      obtain ⟨u, v, q⟩ := o
      rw [en] at hx
      exact absurd hx (hg _ _)
  have hs : (Sum.inl s : Int ⊕ (Int × Row × Int)) = .inl x → 0 ≤ x := fun y => by
    cases y
    omega
  split at e
  · split at e
    · exact a3 _ _ _ _ _ _ (fun o => .inr (o.2.2.2, rulesR r o.1 o.2.1 o.2.2.1, 1)) (fun _ _ w => by cases w) e
    · exact hs e
  · split at e
    · split at e
      · exact a3 _ _ _ _ _ _ (fun o => .inr (o.2.2.2, wallR r o.1 o.2.1 o.2.2.1, h)) (fun _ _ w => by cases w) e
      · exact hs e
    · split at e
      · split at e
        · exact a2 _ _ _ _ (fun o => .inr (o.2.2, harnR r o.1 o.2.1, h)) (fun _ _ w => by cases w) e
        · exact hs e
      · split at e
        · split at e
          · exact a2 _ _ _ _ (fun o => .inr (o.2.2, membR r o.1 o.2.1, h)) (fun _ _ w => by cases w) e
          · exact hs e
        · split at e
          · split at e
            · exact a3 _ _ _ _ _ _ (fun o => .inr (o.2.2.2, courR r o.1 o.2.1 o.2.2.1, h)) (fun _ _ w => by cases w) e
            · exact hs e
          · exact hs e
theorem c_loop (hT : TXT b L) : ∀ (n : Nat) (p : Int) (r : Row) (h v : Int) (z : ZZ) (fuel : Nat), n < fuel → L - p < n → 0 ≤ v → v ≤ p → p ≤ L → TC b L z → z 16 6 = p → z 16 4 = h → (h = 0 ∨ h = 1) → RH z 17 r → PR r →
    (∀ x, prs b L n p r h = .inl x → ∃ z', zlp (fun q => fX3_readDraft_s19 q.1 q.2) fuel (v, z) = some (.inr (x, z')) ∧ 0 ≤ x ∧ CF z z') ∧
    (∀ r', prs b L n p r h = .inr r' → ∃ z', zlp (fun q => fX3_readDraft_s19 q.1 q.2) fuel (v, z) = some (.inr (-1, z')) ∧ RH z' 17 r' ∧ PR r' ∧ CF z z')
  | 0, p, r, h, v, z, fuel, _, g1, _, _, g2, _, _, _, _, _, _ => by omega
  | n + 1, p, r, h, v, z, fuel, hf, g1, v0, v1, g2, hC, h6, h4, hh, hR, hP => by
    obtain ⟨m, rfl⟩ : ∃ m, fuel = m + 1 := ⟨fuel - 1, by omega⟩
    have hL := hT.2.1
    obtain ⟨A, B⟩ := c_stm hT hC h6 (by omega) h4 hR hP
    have n1 : ¬ z 16 1 < v := by rw [hC.1]; omega
    unfold prs
    cases es : stm b L p r h with
    | inl x =>
      obtain ⟨z1, e1, e2, e3⟩ := A x es
      refine ⟨fun y hy => ?_, fun _ hy => by cases hy⟩
      cases hy
      refine ⟨z1, zlp_end (f := fun q : Int × ZZ => fX3_readDraft_s19 q.1 q.2) (s := (v, z)) ?_, stm_l hT (by omega) es, e3⟩
      show fX3_readDraft_s19 v z = _
      unfold fX3_readDraft_s19
      rw [if_neg n1, e1]
      simp only [Option.bind_some, if_true]
      rw [e2]
    | inr o =>
      obtain ⟨q, r', h'⟩ := o
      obtain ⟨z1, e1, e2, e3, e4, e5⟩ := B q r' h' es
      obtain ⟨k1, k2, k3, k4⟩ := stm_ok hT (by omega) hP hh es
      have hC1 := TC_f hC e5
      have ht := c_tok hT hC1 e2 (by omega)
      obtain ⟨s1, s2⟩ := tS_ok hT (p := q) (by omega)
      dsimp only
      generalize tS b q = s at *
      obtain ⟨t1, t2, t3, -⟩ := tE_ok hT (s := s) (by omega)
      have f2 : CF z1 (zup (zup z1 16 5 s) 16 6 (tE b L s)) := ⟨fun a u _ _ => by rw [zup_ne u, zup_ne u], fun j _ u v => by rw [zup_at, if_neg v, zup_at, if_neg u]⟩
      have a5 : zup (zup z1 16 5 s) 16 6 (tE b L s) 16 5 = s := by rw [zup_at, if_neg (by decide), zup_at, if_pos rfl]
      have a6 : zup (zup z1 16 5 s) 16 6 (tE b L s) 16 6 = tE b L s := by rw [zup_at, if_pos rfl]
      have a4 : zup (zup z1 16 5 s) 16 6 (tE b L s) 16 4 = h' := by rw [zup_at, if_neg (by decide), zup_at, if_neg (by decide), e3]
      have aR : RH (zup (zup z1 16 5 s) 16 6 (tE b L s)) 17 r' := RH_fra e4 (fun a u v => by rw [zup_ne (by omega), zup_ne (by omega)])
      generalize zup (zup z1 16 5 s) 16 6 (tE b L s) = y at *
      have hCy := TC_f hC1 f2
      have f3 := CF_tr e5 f2
      have i1 : inR (v + 1) := inR_s (by omega)
      have st : fX3_readDraft_s19 v z = if s < L then (if b s = 59 then some (.inl (v + 1, y)) else some (.inr (.inr (s, y)))) else some (.inr (.inr (-1, y))) := by
        unfold fX3_readDraft_s19
        rw [if_neg n1, e1]
        simp only [Option.bind_some]
        rw [if_neg (by decide), ht]
        simp only [Option.bind_some]
        rw [a5, hCy.1, c_byteAt hT hCy]
        simp only [Option.bind_some]
        rw [if_pos i1]
      by_cases c0 : L ≤ s
      · rw [if_neg (by omega)] at st
        rw [if_pos c0]
        refine ⟨fun _ hy => (by cases hy), fun r2 hy => ?_⟩
        cases hy
        exact ⟨y, zlp_end (f := fun q : Int × ZZ => fX3_readDraft_s19 q.1 q.2) (s := (v, z)) st, aR, k3, f3⟩
      · rw [if_pos (by omega)] at st
        rw [if_neg c0]
        by_cases c1 : b s = 59
        · rw [if_pos c1] at st
          rw [if_pos c1, zlp_next (f := fun q : Int × ZZ => fX3_readDraft_s19 q.1 q.2) (s := (v, z)) st]
          have := t3 (by omega)
          obtain ⟨A', B'⟩ := c_loop hT n (tE b L s) r' h' (v + 1) y m (by omega) (by omega) (by omega) (by omega) t2 hCy a6 a4 k4 aR k3
          refine ⟨fun x hx => ?_, fun r2 hx => ?_⟩
          · obtain ⟨z', b1, b2, b3⟩ := A' x hx
            exact ⟨z', b1, b2, CF_tr f3 b3⟩
          · obtain ⟨z', b1, b2, b3, b4⟩ := B' r2 hx
            exact ⟨z', b1, b2, b3, CF_tr f3 b4⟩
        · rw [if_neg c1] at st
          rw [if_neg c1]
          refine ⟨fun x hy => ?_, fun _ hy => by cases hy⟩
          cases hy
          exact ⟨y, zlp_end (f := fun q : Int × ZZ => fX3_readDraft_s19 q.1 q.2) (s := (v, z)) st, by omega, f3⟩
/-- what the model says at the end -/
def tailM (o : ZZ) : Option (Int × ZZ) := (Option.bind (fX6_isGood o) fun r7 => (if (r7) = (0) then some ((o 151 7), o) else (if ((o 151 5)) = (0) then some ((o 151 7), o) else (Option.bind (fX6_fail o) fun z10 => some ((z10 151 7), z10)))))
theorem m_loop (hT : TXT b L) : ∀ (n : Nat) (p : Int) (r : Row) (h : Int) (z : ZZ) (fuel : Nat), n < fuel → L - p < n → 0 ≤ p → p ≤ L → MS b L p z → z 153 = r → z 151 14 = h → (h = 0 ∨ h = 1) → PR r →
    ∃ y, fX6_readStatement z = some y ∧ (∀ x, prs b L n p r h = .inl x → ∃ o w, zlp (fun q => fX6_parse_s22 q) fuel y = some o ∧ tailM o = some (x, w) ∧ MF z w) ∧
    (∀ r', prs b L n p r h = .inr r' → ∃ o w, zlp (fun q => fX6_parse_s22 q) fuel y = some o ∧ tailM o = some (-1, w) ∧ w 153 = r' ∧ MF z w)
  | 0, p, r, h, z, fuel, _, g1, _, g2, _, _, _, _, _ => by omega
  | n + 1, p, r, h, z, fuel, hf, g1, g0, g2, hM, h3, h14, hh, hP => by
    obtain ⟨m, rfl⟩ : ∃ m, fuel = m + 1 := ⟨fuel - 1, by omega⟩
    have hL := hT.2.1
    obtain ⟨A, B⟩ := m_stm hT hM ⟨g0, g2⟩ h3 h14 hh hP
    unfold prs
    cases es : stm b L p r h with
    | inl x =>
      obtain ⟨y, e1, e2, e3, e4⟩ := A x es
      refine ⟨y, e1, fun u hy => ?_, fun _ hy => by cases hy⟩
      cases hy
      have hb : ¬ y 151 7 < 0 := by omega
      refine ⟨y, y, zlp_end ?_, ?_, e4⟩
      · unfold fX6_parse_s22
        rw [m_good, bI_f hb]
        rfl
      · unfold tailM
        rw [m_good, bI_f hb, ← e2]
        rfl
    | inr o =>
      obtain ⟨q, r', h'⟩ := o
      obtain ⟨y, e1, e2, e3, e4, e5⟩ := B q r' h' es
      obtain ⟨k1, k2, k3, k4⟩ := stm_ok hT ⟨g0, g2⟩ hP hh es
      refine ⟨y, e1, ?_⟩
      have hb := MS_lt e2
      obtain ⟨z6, d1, d2, d3⟩ := m_step hT e2 (by omega)
      obtain ⟨s1, s2⟩ := tS_ok hT (p := q) (by omega)
      obtain ⟨hM1, h4', h3', h5', h6', h7'⟩ := e2
      dsimp only
      generalize tS b q = s at *
      obtain ⟨t1, t2, t3, -⟩ := tE_ok hT (s := s) (by omega)
      by_cases c0 : L ≤ s
      · rw [if_pos c0]
        have hk : y 151 5 = 0 := by rw [h5']; exact if_pos c0
        refine ⟨fun _ hy => (by cases hy), fun r2 hy => ?_⟩
        cases hy
        refine ⟨y, y, zlp_end ?_, ?_, e3, e5⟩
        · unfold fX6_parse_s22
          rw [m_good, bI_t hb]
          simp only [Option.bind_some]
          rw [if_neg (by decide), hk, if_neg (by decide)]
        · unfold tailM
          rw [m_good, bI_t hb]
          simp only [Option.bind_some]
          rw [if_neg (by decide), hk, if_pos rfl, h7']
      · rw [if_neg c0]
        have bs : y 152 s = b s := hM1.2 s (by omega) (by omega)
        have g6 : (0 : Int) ≤ s ∧ s < 600 := by omega
        by_cases c1 : b s = 59
        · have hk : y 151 5 = 3 := by
            rw [h5']
            unfold tK
            rw [if_neg c0, if_neg (by omega), if_neg (by omega)]
          rw [if_pos c1]
          have ht3 := t3 (by omega)
          obtain ⟨y', u1, u2, u3⟩ := m_loop hT n (tE b L s) r' h' z6 m (by omega) (by omega) (by omega) t2 d2 (by rw [MFs_153 d3, e3]) (by rw [MFs_14 d3, e4]) k4 k3
          have st : fX6_parse_s22 y = some (.inl y') := by
            unfold fX6_parse_s22
            rw [m_good, bI_t hb]
            simp only [Option.bind_some]
            rw [if_neg (by decide), hk, if_pos rfl, h4', if_pos g6, bs, if_pos c1, d1]
            simp only [Option.bind_some]
            rw [u1]
            rfl
          rw [zlp_next (f := fun q => fX6_parse_s22 q) (s := y) st]
          have fr : MF z z6 := MF_tr e5 (MF_s d3)
          refine ⟨fun x hx => ?_, fun r2 hx => ?_⟩
          · obtain ⟨o, w, b1, b2, b3⟩ := u2 x hx
            exact ⟨o, w, b1, b2, MF_tr fr b3⟩
          · obtain ⟨o, w, b1, b2, b3, b4⟩ := u3 r2 hx
            exact ⟨o, w, b1, b2, b3, MF_tr fr b4⟩
        · rw [if_neg c1]
          have hk : y 151 5 ≠ 0 := by
            rw [h5']
            unfold tK
            rw [if_neg c0]
            split
            · decide
            · split <;> decide
          refine ⟨fun x hy => ?_, fun _ hy => by cases hy⟩
          cases hy
          refine ⟨y, zup y 151 7 s, zlp_end ?_, ?_, MF_tr e5 (MF_s MFs_7)⟩
          · unfold fX6_parse_s22
            rw [m_good, bI_t hb]
            simp only [Option.bind_some]
            rw [if_neg (by decide), h4', if_pos g6, bs, if_neg c1]
            split <;> rfl
          · unfold tailM
            rw [m_good, bI_t hb]
            simp only [Option.bind_some]
            rw [if_neg (by decide), if_neg hk, m_fail_g hb, h4']
            simp only [Option.bind_some]
            rw [zup_at, if_pos rfl]
end PA

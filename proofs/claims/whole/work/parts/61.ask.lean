/-! the law asks both sides -/
abbrev FQ : Nat → Prop := fun a => a = 1 ∨ a = 2 ∨ a = 151 ∨ a = 157 ∨ a = 158 ∨ a = 159 ∨ a = 160
def Qt (z z' : ZZ) : Prop := Fra FQ z z' ∧ ∀ j, j ≠ 0 → j ≠ 16 → j ≠ 17 → j ≠ 18 → z' 151 j = z 151 j
theorem Qt_rf (z : ZZ) : Qt z z := ⟨fun _ _ => rfl, fun _ _ _ _ _ => rfl⟩
theorem Qt_tr {z z' z'' : ZZ} (h : Qt z z') (h2 : Qt z' z'') : Qt z z'' := ⟨fun a q => (h2.1 a q).trans (h.1 a q), fun j a b c d => (h2.2 j a b c d).trans (h.2 j a b c d)⟩
theorem Qt_F12 {z z' : ZZ} (h : Fra F12 z z') : Qt z z' := ⟨fun a q => h a (fun x => q (x.elim Or.inl (fun y => Or.inr (Or.inl y)))), fun j _ _ _ _ => by rw [h 151 (by omega)]⟩
theorem Qt_FM {z z' : ZZ} (h : FM z z') : Qt z z' := ⟨fun a q => h.1 a (by omega) (by omega), fun j a b c d => h.2 j b c d⟩
theorem Qt_159 {z : ZZ} {v : Int} : Qt z (zup z 159 0 v) := ⟨fun a q => zup_ne (by omega), fun j _ _ _ _ => by rw [zup_ne (by decide)]⟩
theorem Qt_160 {z : ZZ} {v : Int} : Qt z (zup z 160 0 v) := ⟨fun a q => zup_ne (by omega), fun j _ _ _ _ => by rw [zup_ne (by decide)]⟩
theorem Qt_e {z : ZZ} {v : Int} : Qt z (zup z 151 0 v) := ⟨fun a q => zup_ne (by omega), fun j a _ _ _ => by rw [zup_at, if_neg a]⟩
theorem Qt_158 {z z' : ZZ} (h : Fra (fun a => a = 158) z z') : Qt z z' := ⟨fun a q => h a (by omega), fun j _ _ _ _ => by rw [h 151 (by decide)]⟩
theorem Qt_RC {z z' : ZZ} {r : Row} (h : Qt z z') (hR : RC z r) : RC z' r := by
  have e := h.1
  unfold RC TL TH at *
  rw [e 3 (by decide), e 4 (by decide), e 5 (by decide), e 6 (by decide), e 7 (by decide), e 8 (by decide), e 9 (by decide), e 10 (by decide), e 11 (by decide), e 12 (by decide), e 13 (by decide), e 14 (by decide), e 15 (by decide)]
  exact hR
def Ask (r : Row) (A M : ZZ → Option (Int × ZZ)) : Prop := ∃ c v : Int, (∀ z, RC z r → ∃ z', A z = some (c, z') ∧ Qt z z' ∧ (c = 0 → z' 159 0 = v)) ∧ (∀ z, z 154 = r → ∃ v' z', M z = some (v', z') ∧ Qt z z' ∧ z' 159 = z 159 ∧ z' 151 0 = c ∧ (c = 0 → v' = v))
/-- what the law does with it -/
def tail (A M : ZZ → Option (Int × ZZ)) (z : ZZ) : Option (Int × ZZ) := Option.bind (A z) fun q2 => match q2 with | (r2, z2) => Option.bind (M z2) fun q3 => match q3 with | (r3, z3) => Option.bind (fX6_thrown z3) fun r4 => if r4 = r2 then (if r2 = 0 then (if zcmp (z3 159 0) r3 = 0 then some (1, z3) else some (0, z3)) else some (1, z3)) else some (0, z3)
theorem zcmp_eq (a : Int) : zcmp a a = 0 := by
  unfold zcmp
  rw [if_neg (by omega), if_pos rfl]
theorem ask_tail {r : Row} {A M : ZZ → Option (Int × ZZ)} (h : Ask r A M) {z : ZZ} (hR : RC z r) (hM : z 154 = r) : ∃ z', tail A M z = some (1, z') ∧ Qt z z' := by
  obtain ⟨c, v, h1, h2⟩ := h
  obtain ⟨z1, e1, f1, g1⟩ := h1 z hR
  obtain ⟨w, z2, e2, f2, f3, g2, g3⟩ := h2 z1 ((f1.1 154 (by decide)).trans hM)
  refine ⟨z2, ?_, Qt_tr f1 f2⟩
  unfold tail
  rw [e1]
  simp only [Option.bind_some]
  rw [e2]
  simp only [Option.bind_some]
  rw [show fX6_thrown z2 = some (z2 151 0) from rfl]
  simp only [Option.bind_some]
  rw [if_pos g2]
  by_cases q : c = 0
  · rw [if_pos q, f3, g1 q, g3 q, zcmp_eq, if_pos rfl]
  · rw [if_neg q]
theorem ask_ok {r : Row} {A M : ZZ → Option (Int × ZZ)} (v : Int) (h1 : ∀ z, RC z r → ∃ z', A z = some (0, zup z' 159 0 v) ∧ Fra F12 z z') (h2 : ∀ z, z 154 = r → ∃ z', M z = some (v, z') ∧ FM (zup z 151 0 0) z') : Ask r A M := by
  refine ⟨0, v, fun z hR => ?_, fun z hM => ?_⟩
  · obtain ⟨z', e, f⟩ := h1 z hR
    exact ⟨_, e, Qt_tr (Qt_F12 f) Qt_159, fun _ => by rw [zup_at, if_pos rfl]⟩
  · obtain ⟨z', e, f⟩ := h2 z hM
    refine ⟨v, z', e, Qt_tr Qt_e (Qt_FM f), ?_, ?_, fun _ => rfl⟩
    · rw [f.1 159 (by decide) (by decide), zup_ne (by decide)]
    · rw [f.2 0 (by decide) (by decide) (by decide), zup_at, if_pos rfl]
theorem ask_er {r : Row} {A M : ZZ → Option (Int × ZZ)} (c : Int) (hc : c ≠ 0) (h1 : ∀ z, RC z r → ∃ z', A z = some (c, z') ∧ Fra F12 z z') (h2 : ∀ z, z 154 = r → ∃ v z', M z = some (v, zup z' 151 0 c) ∧ FM (zup z 151 0 0) z') : Ask r A M := by
  refine ⟨c, 0, fun z hR => ?_, fun z hM => ?_⟩
  · obtain ⟨z', e, f⟩ := h1 z hR
    exact ⟨_, e, Qt_F12 f, fun q => absurd q hc⟩
  · obtain ⟨v, z', e, f⟩ := h2 z hM
    refine ⟨v, _, e, Qt_tr (Qt_tr Qt_e (Qt_FM f)) Qt_e, ?_, ?_, fun q => absurd q hc⟩
    · rw [zup_ne (by decide), f.1 159 (by decide) (by decide), zup_ne (by decide)]
    · rw [zup_at, if_pos rfl]
section AS
variable {z : ZZ} {r : Row} {B : Int} {v lo hi : Int} {t : Nat}
theorem n_row : fX5_needRow t v z = some (if 0 ≤ v ∧ v < z t 3 then .inl 0 else .inr 0) := by
  unfold fX5_needRow fX4_hasRow
  by_cases h : v < 0
  · rw [if_pos h, if_neg (by omega)]
    rfl
  · rw [if_neg h]
    by_cases h2 : v < z t 3
    · rw [if_pos h2, if_pos ⟨by omega, h2⟩]
      rfl
    · rw [if_neg h2, if_neg (fun x => h2 x.2)]
      rfl
theorem n_btw : fX5_needBetween v lo hi z = some (if lo ≤ v ∧ v ≤ hi then .inl 0 else .inr 1) := by
  unfold fX5_needBetween fX5_needBetween_b10
  by_cases h : v < lo
  · rw [if_pos h, if_neg (by omega)]
  · rw [if_neg h]
    by_cases h2 : hi < v
    · rw [if_pos h2, if_neg (by omega)]
    · rw [if_neg h2, if_pos (by omega)]
theorem n_fnd : fX5_needFound v z = some (if v = -1 then .inr 3 else .inl v) := by
  unfold fX5_needFound
  split <;> rfl
theorem mi_wall (hM : z 154 = r) (hI : IH B r) : fX6_isWall v z = some (bI (0 ≤ v ∧ v < r 4)) := by
  have hn := hI.1
  unfold IHn at hn
  unfold fX6_isWall
  rw [hM, if_pos (inR_s (by omega)), m_in]
  exact congrArg some (bI_congr (by omega))
theorem mi_route (hM : z 154 = r) (hI : IH B r) : fX6_isRoute v z = some (bI (0 ≤ v ∧ v < r 37)) := by
  have hn := hI.1
  unfold IHn at hn
  unfold fX6_isRoute
  rw [hM, if_pos (inR_s (by omega)), m_in]
  exact congrArg some (bI_congr (by omega))
theorem mi_harness (hM : z 154 = r) (hI : IH B r) : fX6_isHarness v z = some (bI (0 ≤ v ∧ v < r 470)) := by
  have hn := hI.1
  unfold IHn at hn
  unfold fX6_isHarness
  rw [hM, if_pos (inR_s (by omega)), m_in]
  exact congrArg some (bI_congr (by omega))
theorem mi_member (hM : z 154 = r) (hI : IH B r) : fX6_isMember v z = some (bI (0 ≤ v ∧ v < r 546)) := by
  have hn := hI.1
  unfold IHn at hn
  unfold fX6_isMember
  rw [hM, if_pos (inR_s (by omega)), m_in]
  exact congrArg some (bI_congr (by omega))
theorem mi_course (hM : z 154 = r) (hI : IH B r) : fX6_isCourse v z = some (bI (0 ≤ v ∧ v < r 619)) := by
  have hn := hI.1
  unfold IHn at hn
  unfold fX6_isCourse
  rw [hM, if_pos (inR_s (by omega)), m_in]
  exact congrArg some (bI_congr (by omega))
theorem mi_grade : fX6_isGrade v z = some (bI (0 ≤ v ∧ v ≤ 29)) := by
  unfold fX6_isGrade
  rw [m_in]
  rfl
theorem m_failsb {p : Prop} [Decidable p] {e : Int} : fX6_fails (bI p) e z = some (if p then (0, z) else (1, zup z 151 0 e)) := by
  by_cases h : p
  · rw [bI_t h, m_fails1, if_pos h]
  · rw [bI_f h, m_fails0, if_neg h]
theorem zup_154 {e : Int} (hM : z 154 = r) : zup z 151 0 e 154 = r := (zup_ne (by decide)).trans hM
end AS

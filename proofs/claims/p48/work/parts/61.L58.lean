set_option maxRecDepth 20000
/-! a drawn call of the class -/
def WR (A : ZZ → Option ((Int ⊕ Nat) × ZZ)) (F : ZZ → Option (Int × ZZ × Nat)) : Prop := (∀ z v z', A z = some (.inl v, z') → F z = some (v, z', 0)) ∧ ∀ z (E : Nat) z', A z = some (.inr E, z') → F z = some (-1000000001 - (E : Int), z', 1)
theorem obs {α β : Type} {o : Option α} {k : α → Option β} {r : β} (h : o.bind k = some r) : ∃ a, o = some a ∧ k a = some r := Option.bind_eq_some_iff.mp h
theorem ogs {β : Type} {p : Prop} [Decidable p] {x : Option β} {r : β} (h : (if p then x else none) = some r) : p ∧ x = some r := by
  by_cases hp : p
  · rw [if_pos hp] at h; exact ⟨hp, h⟩
  · rw [if_neg hp] at h; cases h
section CE
variable {z z' : ZZ} {E : Nat} {v1 v2 v3 : Int}
theorem e_setRoute (e : fX5_setRoute v1 v2 z = some (.inr E, z')) : E = 0 ∨ E = 1 ∨ E = 2 := by
  unfold fX5_setRoute at e
  rw [n_row, Option.bind_some] at e
  by_cases c : ¬ (0 ≤ v1 ∧ v1 < z 4 3)
  · rw [if_neg c] at e
    dsimp only at e
    cases e
    decide
  rw [if_pos (Decidable.not_not.mp c)] at e
  dsimp only at e
  clear c
  rw [n_btw, Option.bind_some] at e
  by_cases c : ¬ (0 ≤ v2 ∧ v2 ≤ 29)
  · rw [if_neg c] at e
    dsimp only at e
    cases e
    decide
  rw [if_pos (Decidable.not_not.mp c)] at e
  dsimp only at e
  clear c
  obtain ⟨_, -, e⟩ := obs e
  split at e
  rotate_left
  · cases e; decide
  obtain ⟨_, -, e⟩ := obs e
  split at e
  rotate_left
  · unfold fX5_setRoute_b64 at e; cases e; decide
  obtain ⟨_, -, e⟩ := obs e
  split at e
  rotate_left
  · unfold fX5_setRoute_b64 at e; cases e; decide
  obtain ⟨_, -, e⟩ := obs e
  obtain ⟨⟨_, _⟩, -, e⟩ := obs e
  dsimp only at e
  cases e
theorem w_setRoute : WR (fX5_setRoute v1 v2) (fL_setRoute v1 v2) := by
  refine ⟨fun z v z' e => ?_, fun z E z' e => ?_⟩
  · unfold fL_setRoute
    rw [e]
    rfl
  · have q := e_setRoute e
    unfold fL_setRoute
    rw [e, Option.bind_some]
    dsimp only
    rcases q with rfl | rfl | rfl
    · rfl
    · rfl
    · rfl
theorem e_removeRoute (e : fX5_removeRoute v1 z = some (.inr E, z')) : E = 0 := by
  unfold fX5_removeRoute at e
  rw [n_row, Option.bind_some] at e
  by_cases c : ¬ (0 ≤ v1 ∧ v1 < z 6 3)
  · rw [if_neg c] at e
    dsimp only at e
    cases e
    decide
  rw [if_pos (Decidable.not_not.mp c)] at e
  dsimp only at e
  clear c
  obtain ⟨_, -, e⟩ := obs e
  obtain ⟨⟨_, _⟩, -, e⟩ := obs e
  dsimp only at e
  cases e
theorem w_removeRoute : WR (fX5_removeRoute v1) (fL_removeRoute v1) := by
  refine ⟨fun z v z' e => ?_, fun z E z' e => ?_⟩
  · unfold fL_removeRoute
    rw [e]
    rfl
  · have q := e_removeRoute e
    unfold fL_removeRoute
    rw [e, Option.bind_some]
    dsimp only
    subst q
    rfl
theorem e_climb (e : fX5_climb v1 v2 z = some (.inr E, z')) : E = 0 ∨ E = 2 := by
  unfold fX5_climb at e
  rw [n_row, Option.bind_some] at e
  by_cases c : ¬ (0 ≤ v1 ∧ v1 < z 12 3)
  · rw [if_neg c] at e
    dsimp only at e
    cases e
    decide
  rw [if_pos (Decidable.not_not.mp c)] at e
  dsimp only at e
  clear c
  rw [n_row, Option.bind_some] at e
  by_cases c : ¬ (0 ≤ v2 ∧ v2 < z 6 3)
  · rw [if_neg c] at e
    dsimp only at e
    cases e
    decide
  rw [if_pos (Decidable.not_not.mp c)] at e
  dsimp only at e
  clear c
  obtain ⟨_, -, e⟩ := obs e
  split at e
  · cases e; decide
  obtain ⟨_, -, e⟩ := obs e
  obtain ⟨⟨_, _⟩, -, e⟩ := obs e
  dsimp only at e
  cases e
theorem w_climb : WR (fX5_climb v1 v2) (fL_climb v1 v2) := by
  refine ⟨fun z v z' e => ?_, fun z E z' e => ?_⟩
  · unfold fL_climb
    rw [e]
    rfl
  · have q := e_climb e
    unfold fL_climb
    rw [e, Option.bind_some]
    dsimp only
    rcases q with rfl | rfl
    · rfl
    · rfl
theorem e_vote (e : fX5_vote v1 v2 v3 z = some (.inr E, z')) : E = 0 ∨ E = 1 ∨ E = 2 := by
  unfold fX5_vote at e
  rw [n_row, Option.bind_some] at e
  by_cases c : ¬ (0 ≤ v1 ∧ v1 < z 12 3)
  · rw [if_neg c] at e
    dsimp only at e
    cases e
    decide
  rw [if_pos (Decidable.not_not.mp c)] at e
  dsimp only at e
  clear c
  rw [n_row, Option.bind_some] at e
  by_cases c : ¬ (0 ≤ v2 ∧ v2 < z 6 3)
  · rw [if_neg c] at e
    dsimp only at e
    cases e
    decide
  rw [if_pos (Decidable.not_not.mp c)] at e
  dsimp only at e
  clear c
  rw [n_btw, Option.bind_some] at e
  by_cases c : ¬ (0 ≤ v3 ∧ v3 ≤ 29)
  · rw [if_neg c] at e
    dsimp only at e
    cases e
    decide
  rw [if_pos (Decidable.not_not.mp c)] at e
  dsimp only at e
  clear c
  obtain ⟨_, -, e⟩ := obs e
  split at e
  · cases e; decide
  obtain ⟨_, -, e⟩ := obs e
  obtain ⟨-, e⟩ := ogs e
  obtain ⟨_, -, e⟩ := obs e
  obtain ⟨⟨_, _⟩, -, e⟩ := obs e
  dsimp only at e
  cases e
theorem w_vote : WR (fX5_vote v1 v2 v3) (fL_vote v1 v2 v3) := by
  refine ⟨fun z v z' e => ?_, fun z E z' e => ?_⟩
  · unfold fL_vote
    rw [e]
    rfl
  · have q := e_vote e
    unfold fL_vote
    rw [e, Option.bind_some]
    dsimp only
    rcases q with rfl | rfl | rfl
    · rfl
    · rfl
    · rfl
theorem e_lend (e : fX5_lend v1 v2 z = some (.inr E, z')) : E = 0 ∨ E = 2 := by
  unfold fX5_lend at e
  rw [n_row, Option.bind_some] at e
  by_cases c : ¬ (0 ≤ v1 ∧ v1 < z 12 3)
  · rw [if_neg c] at e
    dsimp only at e
    cases e
    decide
  rw [if_pos (Decidable.not_not.mp c)] at e
  dsimp only at e
  clear c
  rw [n_row, Option.bind_some] at e
  by_cases c : ¬ (0 ≤ v2 ∧ v2 < z 10 3)
  · rw [if_neg c] at e
    dsimp only at e
    cases e
    decide
  rw [if_pos (Decidable.not_not.mp c)] at e
  dsimp only at e
  clear c
  obtain ⟨_, -, e⟩ := obs e
  split at e
  rotate_left
  · cases e; decide
  obtain ⟨_, -, e⟩ := obs e
  obtain ⟨_, -, e⟩ := obs e
  split at e
  rotate_left
  · cases e; decide
  obtain ⟨_, -, e⟩ := obs e
  split at e
  · cases e; decide
  obtain ⟨_, -, e⟩ := obs e
  obtain ⟨_, -, e⟩ := obs e
  obtain ⟨_, -, e⟩ := obs e
  cases e
theorem w_lend : WR (fX5_lend v1 v2) (fL_lend v1 v2) := by
  refine ⟨fun z v z' e => ?_, fun z E z' e => ?_⟩
  · unfold fL_lend
    rw [e]
    rfl
  · have q := e_lend e
    unfold fL_lend
    rw [e, Option.bind_some]
    dsimp only
    rcases q with rfl | rfl
    · rfl
    · rfl
theorem e_giveBack (e : fX5_giveBack v1 z = some (.inr E, z')) : E = 0 ∨ E = 2 := by
  unfold fX5_giveBack at e
  rw [n_row, Option.bind_some] at e
  by_cases c : ¬ (0 ≤ v1 ∧ v1 < z 12 3)
  · rw [if_neg c] at e
    dsimp only at e
    cases e
    decide
  rw [if_pos (Decidable.not_not.mp c)] at e
  dsimp only at e
  clear c
  obtain ⟨_, -, e⟩ := obs e
  split at e
  · cases e; decide
  obtain ⟨_, -, e⟩ := obs e
  obtain ⟨_, -, e⟩ := obs e
  cases e
theorem w_giveBack : WR (fX5_giveBack v1) (fL_giveBack v1) := by
  refine ⟨fun z v z' e => ?_, fun z E z' e => ?_⟩
  · unfold fL_giveBack
    rw [e]
    rfl
  · have q := e_giveBack e
    unfold fL_giveBack
    rw [e, Option.bind_some]
    dsimp only
    rcases q with rfl | rfl
    · rfl
    · rfl
theorem e_check (e : fX5_check v1 v2 z = some (.inr E, z')) : E = 0 ∨ E = 2 := by
  unfold fX5_check at e
  rw [n_row, Option.bind_some] at e
  by_cases c : ¬ (0 ≤ v1 ∧ v1 < z 10 3)
  · rw [if_neg c] at e
    dsimp only at e
    cases e
    decide
  rw [if_pos (Decidable.not_not.mp c)] at e
  dsimp only at e
  clear c
  obtain ⟨_, -, e⟩ := obs e
  split at e
  rotate_left
  · cases e; decide
  obtain ⟨_, -, e⟩ := obs e
  obtain ⟨_, -, e⟩ := obs e
  split at e
  · cases e
  obtain ⟨_, -, e⟩ := obs e
  cases e
theorem w_check : WR (fX5_check v1 v2) (fL_check v1 v2) := by
  refine ⟨fun z v z' e => ?_, fun z E z' e => ?_⟩
  · unfold fL_check
    rw [e]
    rfl
  · have q := e_check e
    unfold fL_check
    rw [e, Option.bind_some]
    dsimp only
    rcases q with rfl | rfl
    · rfl
    · rfl
theorem e_enroll (e : fX5_enroll v1 v2 z = some (.inr E, z')) : E = 0 ∨ E = 2 := by
  unfold fX5_enroll at e
  rw [n_row, Option.bind_some] at e
  by_cases c : ¬ (0 ≤ v1 ∧ v1 < z 12 3)
  · rw [if_neg c] at e
    dsimp only at e
    cases e
    decide
  rw [if_pos (Decidable.not_not.mp c)] at e
  dsimp only at e
  clear c
  rw [n_row, Option.bind_some] at e
  by_cases c : ¬ (0 ≤ v2 ∧ v2 < z 14 3)
  · rw [if_neg c] at e
    dsimp only at e
    cases e
    decide
  rw [if_pos (Decidable.not_not.mp c)] at e
  dsimp only at e
  clear c
  obtain ⟨_, -, e⟩ := obs e
  split at e
  · cases e; decide
  obtain ⟨_, -, e⟩ := obs e
  obtain ⟨_, -, e⟩ := obs e
  obtain ⟨_, -, e⟩ := obs e
  obtain ⟨_, -, e⟩ := obs e
  cases e
theorem w_enroll : WR (fX5_enroll v1 v2) (fL_enroll v1 v2) := by
  refine ⟨fun z v z' e => ?_, fun z E z' e => ?_⟩
  · unfold fL_enroll
    rw [e]
    rfl
  · have q := e_enroll e
    unfold fL_enroll
    rw [e, Option.bind_some]
    dsimp only
    rcases q with rfl | rfl
    · rfl
    · rfl
theorem e_leaveCourse (e : fX5_leaveCourse v1 z = some (.inr E, z')) : E = 0 ∨ E = 2 := by
  unfold fX5_leaveCourse at e
  rw [n_row, Option.bind_some] at e
  by_cases c : ¬ (0 ≤ v1 ∧ v1 < z 12 3)
  · rw [if_neg c] at e
    dsimp only at e
    cases e
    decide
  rw [if_pos (Decidable.not_not.mp c)] at e
  dsimp only at e
  clear c
  obtain ⟨_, -, e⟩ := obs e
  split at e
  · cases e; decide
  obtain ⟨_, -, e⟩ := obs e
  obtain ⟨_, -, e⟩ := obs e
  cases e
theorem w_leaveCourse : WR (fX5_leaveCourse v1) (fL_leaveCourse v1) := by
  refine ⟨fun z v z' e => ?_, fun z E z' e => ?_⟩
  · unfold fL_leaveCourse
    rw [e]
    rfl
  · have q := e_leaveCourse e
    unfold fL_leaveCourse
    rw [e, Option.bind_some]
    dsimp only
    rcases q with rfl | rfl
    · rfl
    · rfl
theorem e_finish (e : fX5_finish v1 v2 z = some (.inr E, z')) : E = 0 := by
  unfold fX5_finish at e
  rw [n_row, Option.bind_some] at e
  by_cases c : ¬ (0 ≤ v1 ∧ v1 < z 14 3)
  · rw [if_neg c] at e
    dsimp only at e
    cases e
    decide
  rw [if_pos (Decidable.not_not.mp c)] at e
  dsimp only at e
  clear c
  obtain ⟨_, -, e⟩ := obs e
  obtain ⟨⟨_, _⟩, -, e⟩ := obs e
  dsimp only at e
  cases e
theorem w_finish : WR (fX5_finish v1 v2) (fL_finish v1 v2) := by
  refine ⟨fun z v z' e => ?_, fun z E z' e => ?_⟩
  · unfold fL_finish
    rw [e]
    rfl
  · have q := e_finish e
    unfold fL_finish
    rw [e, Option.bind_some]
    dsimp only
    subst q
    rfl
theorem e_postpone (e : fX5_postpone v1 v2 z = some (.inr E, z')) : E = 0 ∨ E = 1 := by
  unfold fX5_postpone at e
  rw [n_row, Option.bind_some] at e
  by_cases c : ¬ (0 ≤ v1 ∧ v1 < z 4 3)
  · rw [if_neg c] at e
    dsimp only at e
    cases e
    decide
  rw [if_pos (Decidable.not_not.mp c)] at e
  dsimp only at e
  clear c
  rw [n_btw, Option.bind_some] at e
  by_cases c : ¬ (1 ≤ v2 ∧ v2 ≤ 14)
  · rw [if_neg c] at e
    dsimp only at e
    cases e
    decide
  rw [if_pos (Decidable.not_not.mp c)] at e
  dsimp only at e
  clear c
  obtain ⟨_, -, e⟩ := obs e
  obtain ⟨_, -, e⟩ := obs e
  obtain ⟨_, -, e⟩ := obs e
  cases e
theorem w_postpone : WR (fX5_postpone v1 v2) (fL_postpone v1 v2) := by
  refine ⟨fun z v z' e => ?_, fun z E z' e => ?_⟩
  · unfold fL_postpone
    rw [e]
    rfl
  · have q := e_postpone e
    unfold fL_postpone
    rw [e, Option.bind_some]
    dsimp only
    rcases q with rfl | rfl
    · rfl
    · rfl
theorem e_endDays (e : fX5_endDays v1 z = some (.inr E, z')) : E = 1 := by
  unfold fX5_endDays at e
  rw [n_btw, Option.bind_some] at e
  by_cases c : ¬ (1 ≤ v1 ∧ v1 ≤ 60)
  · rw [if_neg c] at e
    dsimp only at e
    cases e
    decide
  rw [if_pos (Decidable.not_not.mp c)] at e
  dsimp only at e
  clear c
  obtain ⟨-, e⟩ := ogs e
  rw [n_btw, Option.bind_some] at e
  by_cases c : ¬ (1 ≤ ((z 3 7) + v1) ∧ ((z 3 7) + v1) ≤ 9999)
  · rw [if_neg c] at e
    dsimp only at e
    cases e
    decide
  rw [if_pos (Decidable.not_not.mp c)] at e
  dsimp only at e
  clear c
  obtain ⟨_, -, e⟩ := obs e
  obtain ⟨⟨_, _⟩, -, e⟩ := obs e
  dsimp only at e
  cases e
theorem w_endDays : WR (fX5_endDays v1) (fL_endDays v1) := by
  refine ⟨fun z v z' e => ?_, fun z E z' e => ?_⟩
  · unfold fL_endDays
    rw [e]
    rfl
  · have q := e_endDays e
    unfold fL_endDays
    rw [e, Option.bind_some]
    dsimp only
    subst q
    rfl
theorem WR.bd {A : ZZ → Option ((Int ⊕ Nat) × ZZ)} {F : ZZ → Option (Int × ZZ × Nat)} (h : WR A F) : WR A (fun z => Option.bind (F z) fun q => match q with | (r2, z2, j2) => some (r2, z2, j2)) := ⟨fun z v z' e => by show Option.bind (F z) _ = _; rw [h.1 z v z' e]; rfl, fun z E z' e => by show Option.bind (F z) _ = _; rw [h.2 z E z' e]; rfl⟩
end CE
section LC
variable {col : Col} {D : DD} {g : Int} {r : Row} {M B x w : Int} {h : HLs}
theorem WR.cg {A : ZZ → Option ((Int ⊕ Nat) × ZZ)} {F G : ZZ → Option (Int × ZZ × Nat)} (h : WR A F) (e : ∀ z, G z = F z) : WR A G := ⟨fun z v z' q => (e z).trans (h.1 z v z' q), fun z E z' q => (e z).trans (h.2 z E z' q)⟩
theorem l_call {ln : Nat} (H : RLh col D g r M h) (hI : IH B r) (hx : 0 ≤ x ∧ x < 100000000) (hw : 0 ≤ w) : WR (clsF r w x) (fun z => fL_call g w x ln z D) := by
  have hn := hI.1
  unfold IHn at hn
  have hy : 0 ≤ x / 64 := Int.ediv_nonneg hx.1 (by decide)
  have hy7 : 0 ≤ x / 64 / 7 := Int.ediv_nonneg hy (by decide)
  unfold clsF
  by_cases c0 : w ≤ 3
  · rw [if_pos c0]
    refine w_setRoute.bd.cg (fun z => ?_)
    show fL_call g w x ln z D = _
    unfold fL_call
    rw [if_pos (show (0 : Int) ≤ x ∧ (0 : Int) < 64 from ⟨hx.1, by decide⟩), if_pos H.o, s_size H.mb.1, s_size H.rt.1, s_size H.hs.1, s_size H.cs.1, s_size H.w.1, H.nm, H.nr, H.nh, H.nc, H.nw]
    simp only [Option.bind_some]
    rw [if_pos H.mb.1.1, l_one hx.1 (by omega)]
    simp only [Option.bind_some]
    rw [if_pos H.rt.1.1, l_one hy (by omega)]
    simp only [Option.bind_some]
    rw [if_pos H.hs.1.1, l_one hy (by omega)]
    simp only [Option.bind_some]
    rw [if_pos H.cs.1.1, l_one hy (by omega)]
    simp only [Option.bind_some]
    rw [if_pos H.w.1.1, l_one hx.1 (by omega)]
    simp only [Option.bind_some]
    rw [if_pos (show 0 ≤ w ∧ w ≤ 3 by omega)]
    rw [l_some hy (by decide)]
    (try rfl)
  rw [if_neg c0]
  by_cases c1 : w = 4
  · rw [if_pos c1]
    refine w_removeRoute.bd.cg (fun z => ?_)
    show fL_call g w x ln z D = _
    unfold fL_call
    rw [if_pos (show (0 : Int) ≤ x ∧ (0 : Int) < 64 from ⟨hx.1, by decide⟩), if_pos H.o, s_size H.mb.1, s_size H.rt.1, s_size H.hs.1, s_size H.cs.1, s_size H.w.1, H.nm, H.nr, H.nh, H.nc, H.nw]
    simp only [Option.bind_some]
    rw [if_pos H.mb.1.1, l_one hx.1 (by omega)]
    simp only [Option.bind_some]
    rw [if_pos H.rt.1.1, l_one hy (by omega)]
    simp only [Option.bind_some]
    rw [if_pos H.hs.1.1, l_one hy (by omega)]
    simp only [Option.bind_some]
    rw [if_pos H.cs.1.1, l_one hy (by omega)]
    simp only [Option.bind_some]
    rw [if_pos H.w.1.1, l_one hx.1 (by omega)]
    simp only [Option.bind_some]
    rw [if_neg (show ¬ (0 ≤ w ∧ w ≤ 3) by omega), if_pos (show w = 4 by omega)]
    (try rfl)
  rw [if_neg c1]
  by_cases c2 : w ≤ 8
  · rw [if_pos c2]
    refine w_climb.bd.cg (fun z => ?_)
    show fL_call g w x ln z D = _
    unfold fL_call
    rw [if_pos (show (0 : Int) ≤ x ∧ (0 : Int) < 64 from ⟨hx.1, by decide⟩), if_pos H.o, s_size H.mb.1, s_size H.rt.1, s_size H.hs.1, s_size H.cs.1, s_size H.w.1, H.nm, H.nr, H.nh, H.nc, H.nw]
    simp only [Option.bind_some]
    rw [if_pos H.mb.1.1, l_one hx.1 (by omega)]
    simp only [Option.bind_some]
    rw [if_pos H.rt.1.1, l_one hy (by omega)]
    simp only [Option.bind_some]
    rw [if_pos H.hs.1.1, l_one hy (by omega)]
    simp only [Option.bind_some]
    rw [if_pos H.cs.1.1, l_one hy (by omega)]
    simp only [Option.bind_some]
    rw [if_pos H.w.1.1, l_one hx.1 (by omega)]
    simp only [Option.bind_some]
    rw [if_neg (show ¬ (0 ≤ w ∧ w ≤ 3) by omega), if_neg (show ¬ (w = 4) by omega), if_pos (show 5 ≤ w ∧ w ≤ 8 by omega)]
    (try rfl)
  rw [if_neg c2]
  by_cases c3 : w ≤ 10
  · rw [if_pos c3]
    refine w_vote.bd.cg (fun z => ?_)
    show fL_call g w x ln z D = _
    unfold fL_call
    rw [if_pos (show (0 : Int) ≤ x ∧ (0 : Int) < 64 from ⟨hx.1, by decide⟩), if_pos H.o, s_size H.mb.1, s_size H.rt.1, s_size H.hs.1, s_size H.cs.1, s_size H.w.1, H.nm, H.nr, H.nh, H.nc, H.nw]
    simp only [Option.bind_some]
    rw [if_pos H.mb.1.1, l_one hx.1 (by omega)]
    simp only [Option.bind_some]
    rw [if_pos H.rt.1.1, l_one hy (by omega)]
    simp only [Option.bind_some]
    rw [if_pos H.hs.1.1, l_one hy (by omega)]
    simp only [Option.bind_some]
    rw [if_pos H.cs.1.1, l_one hy (by omega)]
    simp only [Option.bind_some]
    rw [if_pos H.w.1.1, l_one hx.1 (by omega)]
    simp only [Option.bind_some]
    rw [if_neg (show ¬ (0 ≤ w ∧ w ≤ 3) by omega), if_neg (show ¬ (w = 4) by omega), if_neg (show ¬ (5 ≤ w ∧ w ≤ 8) by omega), if_pos (show 9 ≤ w ∧ w ≤ 10 by omega)]
    rw [if_pos (show (0 : Int) ≤ x / 64 ∧ (0 : Int) < 7 from ⟨hy, by decide⟩), l_some hy7 (by decide)]
    (try rfl)
  rw [if_neg c3]
  by_cases c4 : w ≤ 13
  · rw [if_pos c4]
    refine w_lend.bd.cg (fun z => ?_)
    show fL_call g w x ln z D = _
    unfold fL_call
    rw [if_pos (show (0 : Int) ≤ x ∧ (0 : Int) < 64 from ⟨hx.1, by decide⟩), if_pos H.o, s_size H.mb.1, s_size H.rt.1, s_size H.hs.1, s_size H.cs.1, s_size H.w.1, H.nm, H.nr, H.nh, H.nc, H.nw]
    simp only [Option.bind_some]
    rw [if_pos H.mb.1.1, l_one hx.1 (by omega)]
    simp only [Option.bind_some]
    rw [if_pos H.rt.1.1, l_one hy (by omega)]
    simp only [Option.bind_some]
    rw [if_pos H.hs.1.1, l_one hy (by omega)]
    simp only [Option.bind_some]
    rw [if_pos H.cs.1.1, l_one hy (by omega)]
    simp only [Option.bind_some]
    rw [if_pos H.w.1.1, l_one hx.1 (by omega)]
    simp only [Option.bind_some]
    rw [if_neg (show ¬ (0 ≤ w ∧ w ≤ 3) by omega), if_neg (show ¬ (w = 4) by omega), if_neg (show ¬ (5 ≤ w ∧ w ≤ 8) by omega), if_neg (show ¬ (9 ≤ w ∧ w ≤ 10) by omega), if_pos (show 11 ≤ w ∧ w ≤ 13 by omega)]
    (try rfl)
  rw [if_neg c4]
  by_cases c5 : w = 14
  · rw [if_pos c5]
    refine w_giveBack.bd.cg (fun z => ?_)
    show fL_call g w x ln z D = _
    unfold fL_call
    rw [if_pos (show (0 : Int) ≤ x ∧ (0 : Int) < 64 from ⟨hx.1, by decide⟩), if_pos H.o, s_size H.mb.1, s_size H.rt.1, s_size H.hs.1, s_size H.cs.1, s_size H.w.1, H.nm, H.nr, H.nh, H.nc, H.nw]
    simp only [Option.bind_some]
    rw [if_pos H.mb.1.1, l_one hx.1 (by omega)]
    simp only [Option.bind_some]
    rw [if_pos H.rt.1.1, l_one hy (by omega)]
    simp only [Option.bind_some]
    rw [if_pos H.hs.1.1, l_one hy (by omega)]
    simp only [Option.bind_some]
    rw [if_pos H.cs.1.1, l_one hy (by omega)]
    simp only [Option.bind_some]
    rw [if_pos H.w.1.1, l_one hx.1 (by omega)]
    simp only [Option.bind_some]
    rw [if_neg (show ¬ (0 ≤ w ∧ w ≤ 3) by omega), if_neg (show ¬ (w = 4) by omega), if_neg (show ¬ (5 ≤ w ∧ w ≤ 8) by omega), if_neg (show ¬ (9 ≤ w ∧ w ≤ 10) by omega), if_neg (show ¬ (11 ≤ w ∧ w ≤ 13) by omega), if_pos (show w = 14 by omega)]
    (try rfl)
  rw [if_neg c5]
  by_cases c6 : w = 15
  · rw [if_pos c6]
    by_cases c5 : 0 < x % 5
    · rw [show bI (0 < x % 5) = 1 from if_pos c5]
      refine w_check.bd.cg (fun z => ?_)
      show fL_call g w x ln z D = _
      unfold fL_call
      rw [if_pos (show (0 : Int) ≤ x ∧ (0 : Int) < 64 from ⟨hx.1, by decide⟩), if_pos H.o, s_size H.mb.1, s_size H.rt.1, s_size H.hs.1, s_size H.cs.1, s_size H.w.1, H.nm, H.nr, H.nh, H.nc, H.nw]
      simp only [Option.bind_some]
      rw [if_pos H.mb.1.1, l_one hx.1 (by omega)]
      simp only [Option.bind_some]
      rw [if_pos H.rt.1.1, l_one hy (by omega)]
      simp only [Option.bind_some]
      rw [if_pos H.hs.1.1, l_one hy (by omega)]
      simp only [Option.bind_some]
      rw [if_pos H.cs.1.1, l_one hy (by omega)]
      simp only [Option.bind_some]
      rw [if_pos H.w.1.1, l_one hx.1 (by omega)]
      simp only [Option.bind_some]
      rw [if_neg (show ¬ (0 ≤ w ∧ w ≤ 3) by omega), if_neg (show ¬ (w = 4) by omega), if_neg (show ¬ (5 ≤ w ∧ w ≤ 8) by omega), if_neg (show ¬ (9 ≤ w ∧ w ≤ 10) by omega), if_neg (show ¬ (11 ≤ w ∧ w ≤ 13) by omega), if_neg (show ¬ (w = 14) by omega), if_pos (show w = 15 by omega)]
      rw [if_pos (show (0 : Int) ≤ x ∧ (0 : Int) < 5 from ⟨hx.1, by decide⟩), if_pos c5]
      (try rfl)
    · rw [show bI (0 < x % 5) = 0 from if_neg c5]
      refine w_check.bd.cg (fun z => ?_)
      show fL_call g w x ln z D = _
      unfold fL_call
      rw [if_pos (show (0 : Int) ≤ x ∧ (0 : Int) < 64 from ⟨hx.1, by decide⟩), if_pos H.o, s_size H.mb.1, s_size H.rt.1, s_size H.hs.1, s_size H.cs.1, s_size H.w.1, H.nm, H.nr, H.nh, H.nc, H.nw]
      simp only [Option.bind_some]
      rw [if_pos H.mb.1.1, l_one hx.1 (by omega)]
      simp only [Option.bind_some]
      rw [if_pos H.rt.1.1, l_one hy (by omega)]
      simp only [Option.bind_some]
      rw [if_pos H.hs.1.1, l_one hy (by omega)]
      simp only [Option.bind_some]
      rw [if_pos H.cs.1.1, l_one hy (by omega)]
      simp only [Option.bind_some]
      rw [if_pos H.w.1.1, l_one hx.1 (by omega)]
      simp only [Option.bind_some]
      rw [if_neg (show ¬ (0 ≤ w ∧ w ≤ 3) by omega), if_neg (show ¬ (w = 4) by omega), if_neg (show ¬ (5 ≤ w ∧ w ≤ 8) by omega), if_neg (show ¬ (9 ≤ w ∧ w ≤ 10) by omega), if_neg (show ¬ (11 ≤ w ∧ w ≤ 13) by omega), if_neg (show ¬ (w = 14) by omega), if_pos (show w = 15 by omega)]
      rw [if_pos (show (0 : Int) ≤ x ∧ (0 : Int) < 5 from ⟨hx.1, by decide⟩), if_neg c5]
      (try rfl)
  rw [if_neg c6]
  by_cases c7 : w ≤ 17
  · rw [if_pos c7]
    refine w_enroll.bd.cg (fun z => ?_)
    show fL_call g w x ln z D = _
    unfold fL_call
    rw [if_pos (show (0 : Int) ≤ x ∧ (0 : Int) < 64 from ⟨hx.1, by decide⟩), if_pos H.o, s_size H.mb.1, s_size H.rt.1, s_size H.hs.1, s_size H.cs.1, s_size H.w.1, H.nm, H.nr, H.nh, H.nc, H.nw]
    simp only [Option.bind_some]
    rw [if_pos H.mb.1.1, l_one hx.1 (by omega)]
    simp only [Option.bind_some]
    rw [if_pos H.rt.1.1, l_one hy (by omega)]
    simp only [Option.bind_some]
    rw [if_pos H.hs.1.1, l_one hy (by omega)]
    simp only [Option.bind_some]
    rw [if_pos H.cs.1.1, l_one hy (by omega)]
    simp only [Option.bind_some]
    rw [if_pos H.w.1.1, l_one hx.1 (by omega)]
    simp only [Option.bind_some]
    rw [if_neg (show ¬ (0 ≤ w ∧ w ≤ 3) by omega), if_neg (show ¬ (w = 4) by omega), if_neg (show ¬ (5 ≤ w ∧ w ≤ 8) by omega), if_neg (show ¬ (9 ≤ w ∧ w ≤ 10) by omega), if_neg (show ¬ (11 ≤ w ∧ w ≤ 13) by omega), if_neg (show ¬ (w = 14) by omega), if_neg (show ¬ (w = 15) by omega), if_pos (show 16 ≤ w ∧ w ≤ 17 by omega)]
    (try rfl)
  rw [if_neg c7]
  by_cases c8 : w = 18
  · rw [if_pos c8]
    refine w_leaveCourse.bd.cg (fun z => ?_)
    show fL_call g w x ln z D = _
    unfold fL_call
    rw [if_pos (show (0 : Int) ≤ x ∧ (0 : Int) < 64 from ⟨hx.1, by decide⟩), if_pos H.o, s_size H.mb.1, s_size H.rt.1, s_size H.hs.1, s_size H.cs.1, s_size H.w.1, H.nm, H.nr, H.nh, H.nc, H.nw]
    simp only [Option.bind_some]
    rw [if_pos H.mb.1.1, l_one hx.1 (by omega)]
    simp only [Option.bind_some]
    rw [if_pos H.rt.1.1, l_one hy (by omega)]
    simp only [Option.bind_some]
    rw [if_pos H.hs.1.1, l_one hy (by omega)]
    simp only [Option.bind_some]
    rw [if_pos H.cs.1.1, l_one hy (by omega)]
    simp only [Option.bind_some]
    rw [if_pos H.w.1.1, l_one hx.1 (by omega)]
    simp only [Option.bind_some]
    rw [if_neg (show ¬ (0 ≤ w ∧ w ≤ 3) by omega), if_neg (show ¬ (w = 4) by omega), if_neg (show ¬ (5 ≤ w ∧ w ≤ 8) by omega), if_neg (show ¬ (9 ≤ w ∧ w ≤ 10) by omega), if_neg (show ¬ (11 ≤ w ∧ w ≤ 13) by omega), if_neg (show ¬ (w = 14) by omega), if_neg (show ¬ (w = 15) by omega), if_neg (show ¬ (16 ≤ w ∧ w ≤ 17) by omega), if_pos (show w = 18 by omega)]
    (try rfl)
  rw [if_neg c8]
  by_cases c9 : w = 19
  · rw [if_pos c9]
    refine w_finish.bd.cg (fun z => ?_)
    show fL_call g w x ln z D = _
    unfold fL_call
    rw [if_pos (show (0 : Int) ≤ x ∧ (0 : Int) < 64 from ⟨hx.1, by decide⟩), if_pos H.o, s_size H.mb.1, s_size H.rt.1, s_size H.hs.1, s_size H.cs.1, s_size H.w.1, H.nm, H.nr, H.nh, H.nc, H.nw]
    simp only [Option.bind_some]
    rw [if_pos H.mb.1.1, l_one hx.1 (by omega)]
    simp only [Option.bind_some]
    rw [if_pos H.rt.1.1, l_one hy (by omega)]
    simp only [Option.bind_some]
    rw [if_pos H.hs.1.1, l_one hy (by omega)]
    simp only [Option.bind_some]
    rw [if_pos H.cs.1.1, l_one hy (by omega)]
    simp only [Option.bind_some]
    rw [if_pos H.w.1.1, l_one hx.1 (by omega)]
    simp only [Option.bind_some]
    rw [if_neg (show ¬ (0 ≤ w ∧ w ≤ 3) by omega), if_neg (show ¬ (w = 4) by omega), if_neg (show ¬ (5 ≤ w ∧ w ≤ 8) by omega), if_neg (show ¬ (9 ≤ w ∧ w ≤ 10) by omega), if_neg (show ¬ (11 ≤ w ∧ w ≤ 13) by omega), if_neg (show ¬ (w = 14) by omega), if_neg (show ¬ (w = 15) by omega), if_neg (show ¬ (16 ≤ w ∧ w ≤ 17) by omega), if_neg (show ¬ (w = 18) by omega), if_pos (show w = 19 by omega)]
    (try rfl)
  rw [if_neg c9]
  by_cases c10 : w = 20
  · rw [if_pos c10]
    refine w_postpone.bd.cg (fun z => ?_)
    show fL_call g w x ln z D = _
    unfold fL_call
    rw [if_pos (show (0 : Int) ≤ x ∧ (0 : Int) < 64 from ⟨hx.1, by decide⟩), if_pos H.o, s_size H.mb.1, s_size H.rt.1, s_size H.hs.1, s_size H.cs.1, s_size H.w.1, H.nm, H.nr, H.nh, H.nc, H.nw]
    simp only [Option.bind_some]
    rw [if_pos H.mb.1.1, l_one hx.1 (by omega)]
    simp only [Option.bind_some]
    rw [if_pos H.rt.1.1, l_one hy (by omega)]
    simp only [Option.bind_some]
    rw [if_pos H.hs.1.1, l_one hy (by omega)]
    simp only [Option.bind_some]
    rw [if_pos H.cs.1.1, l_one hy (by omega)]
    simp only [Option.bind_some]
    rw [if_pos H.w.1.1, l_one hx.1 (by omega)]
    simp only [Option.bind_some]
    rw [if_neg (show ¬ (0 ≤ w ∧ w ≤ 3) by omega), if_neg (show ¬ (w = 4) by omega), if_neg (show ¬ (5 ≤ w ∧ w ≤ 8) by omega), if_neg (show ¬ (9 ≤ w ∧ w ≤ 10) by omega), if_neg (show ¬ (11 ≤ w ∧ w ≤ 13) by omega), if_neg (show ¬ (w = 14) by omega), if_neg (show ¬ (w = 15) by omega), if_neg (show ¬ (16 ≤ w ∧ w ≤ 17) by omega), if_neg (show ¬ (w = 18) by omega), if_neg (show ¬ (w = 19) by omega), if_pos (show w = 20 by omega)]
    rw [l_some hy (by decide)]
    (try rfl)
  rw [if_neg c10]
  by_cases c4 : x % 4 = 0
  · rw [if_pos c4]
    refine w_endDays.bd.cg (fun z => ?_)
    show fL_call g w x ln z D = _
    unfold fL_call
    rw [if_pos (show (0 : Int) ≤ x ∧ (0 : Int) < 64 from ⟨hx.1, by decide⟩), if_pos H.o, s_size H.mb.1, s_size H.rt.1, s_size H.hs.1, s_size H.cs.1, s_size H.w.1, H.nm, H.nr, H.nh, H.nc, H.nw]
    simp only [Option.bind_some]
    rw [if_pos H.mb.1.1, l_one hx.1 (by omega)]
    simp only [Option.bind_some]
    rw [if_pos H.rt.1.1, l_one hy (by omega)]
    simp only [Option.bind_some]
    rw [if_pos H.hs.1.1, l_one hy (by omega)]
    simp only [Option.bind_some]
    rw [if_pos H.cs.1.1, l_one hy (by omega)]
    simp only [Option.bind_some]
    rw [if_pos H.w.1.1, l_one hx.1 (by omega)]
    simp only [Option.bind_some]
    rw [if_neg (show ¬ (0 ≤ w ∧ w ≤ 3) by omega), if_neg (show ¬ (w = 4) by omega), if_neg (show ¬ (5 ≤ w ∧ w ≤ 8) by omega), if_neg (show ¬ (9 ≤ w ∧ w ≤ 10) by omega), if_neg (show ¬ (11 ≤ w ∧ w ≤ 13) by omega), if_neg (show ¬ (w = 14) by omega), if_neg (show ¬ (w = 15) by omega), if_neg (show ¬ (16 ≤ w ∧ w ≤ 17) by omega), if_neg (show ¬ (w = 18) by omega), if_neg (show ¬ (w = 19) by omega), if_neg (show ¬ (w = 20) by omega), if_pos (show (0 : Int) ≤ x ∧ (0 : Int) < 4 from ⟨hx.1, by decide⟩), if_pos c4]
    unfold fL_call_b312
    rw [l_some hy (by decide)]
    (try rfl)
  · rw [if_neg c4]
    refine w_endDays.bd.cg (fun z => ?_)
    show fL_call g w x ln z D = _
    unfold fL_call
    rw [if_pos (show (0 : Int) ≤ x ∧ (0 : Int) < 64 from ⟨hx.1, by decide⟩), if_pos H.o, s_size H.mb.1, s_size H.rt.1, s_size H.hs.1, s_size H.cs.1, s_size H.w.1, H.nm, H.nr, H.nh, H.nc, H.nw]
    simp only [Option.bind_some]
    rw [if_pos H.mb.1.1, l_one hx.1 (by omega)]
    simp only [Option.bind_some]
    rw [if_pos H.rt.1.1, l_one hy (by omega)]
    simp only [Option.bind_some]
    rw [if_pos H.hs.1.1, l_one hy (by omega)]
    simp only [Option.bind_some]
    rw [if_pos H.cs.1.1, l_one hy (by omega)]
    simp only [Option.bind_some]
    rw [if_pos H.w.1.1, l_one hx.1 (by omega)]
    simp only [Option.bind_some]
    rw [if_neg (show ¬ (0 ≤ w ∧ w ≤ 3) by omega), if_neg (show ¬ (w = 4) by omega), if_neg (show ¬ (5 ≤ w ∧ w ≤ 8) by omega), if_neg (show ¬ (9 ≤ w ∧ w ≤ 10) by omega), if_neg (show ¬ (11 ≤ w ∧ w ≤ 13) by omega), if_neg (show ¬ (w = 14) by omega), if_neg (show ¬ (w = 15) by omega), if_neg (show ¬ (16 ≤ w ∧ w ≤ 17) by omega), if_neg (show ¬ (w = 18) by omega), if_neg (show ¬ (w = 19) by omega), if_neg (show ¬ (w = 20) by omega), if_pos (show (0 : Int) ≤ x ∧ (0 : Int) < 4 from ⟨hx.1, by decide⟩), if_neg c4]
    unfold fL_call_b312
    rw [l_some hy (by decide)]
    (try rfl)
end LC

set_option maxRecDepth 20000
/-! the class's history, its saved copy, its buffer -/
def zrow : Row := fun _ => 0
def CH (z : ZZ) (r : Row) (hs : List Row) (sv : Option Row) : Prop :=
  RC z r ∧ z 32 1 = hs.length ∧ hs.length ≤ 8 ∧ (0 ≤ z 32 2 ∧ z 32 2 < 8) ∧ (∀ i : Nat, i < hs.length → RH z (34 + 13 * ((z 32 2 - i) % 8).toNat) (hs.getD i zrow)) ∧ (sv = none → z 32 4 = 0) ∧ (∀ s, sv = some s → z 32 4 = 1 ∧ RH z 138 s) ∧ 0 ≤ z 16 1
section CHs
variable {z z' : ZZ} {r r' s : Row} {hs : List Row} {sv : Option Row} {B : Int}
theorem CH.fr (h : CH z r hs sv) (f : ∀ a, (3 ≤ a ∧ a ≤ 15) ∨ (32 ≤ a ∧ a ≤ 150) → z' a = z a) (h6 : 0 ≤ z' 16 1) : CH z' r hs sv := by
  obtain ⟨h1, h2, h3, h4, h5, h7, h8, -⟩ := h
  have e := f 32 (by omega)
  refine ⟨RC_iff.mpr (RH_fra (RC_iff.mp h1) (fun a p q => f a (Or.inl (by omega)))), by rw [e]; exact h2, h3, by rw [e]; exact h4, fun i hi => ?_, fun q => by rw [e]; exact h7 q, fun s q => ⟨by rw [e]; exact (h8 s q).1, RH_fra (h8 s q).2 (fun a p q => f a (Or.inr (by omega)))⟩, h6⟩
  rw [e]
  exact RH_fra (h5 i hi) (fun a p q => f a (Or.inr (by omega)))
theorem CH.f12 (h : CH z r hs sv) (f : Fra F12 z z') : CH z' r hs sv := h.fr (fun a ha => f a (by unfold F12; omega)) (by rw [f 16 (by unfold F12; omega)]; exact h.2.2.2.2.2.2.2)
theorem CH.tf (h : CH z r hs sv) (f : TF z z') (h6 : 0 ≤ z' 16 1) : CH z' r hs sv := h.fr (fun a ha => f.1 a (by omega) (by omega) (by omega) (by omega)) h6
theorem getD_cons {r : Row} {hs : List Row} {i : Nat} : (r :: hs).getD (i + 1) zrow = hs.getD i zrow := rfl
theorem getD_take {l : List Row} {n i : Nat} (h : i < n) : (l.take n).getD i zrow = l.getD i zrow := by
  rw [List.getD_eq_getElem?_getD, List.getD_eq_getElem?_getD, List.getElem?_take, if_pos h]
/-- a change is remembered -/
theorem CH.chg (h : CH z r hs sv) (hc : RC z' r') (w : CW z z' r) : CH z' r' ((r :: hs).take 8) sv := by
  obtain ⟨h1, h2, h3, h4, h5, h7, h8, h9⟩ := h
  obtain ⟨w1, w2, w3, w4, w5⟩ := w
  have L : ((r :: hs).take 8).length = min 8 (hs.length + 1) := by rw [List.length_take, List.length_cons]
  refine ⟨hc, by rw [w1, h2, L]; omega, by rw [L]; omega, by rw [w2]; omega, fun i hi => ?_, fun q => by rw [w3]; exact h7 q, fun s q => ⟨by rw [w3]; exact (h8 s q).1, RH_fra (h8 s q).2 (fun a p q => w5 a (by omega) (by omega) (by omega) (by omega) (by omega) (by omega) (by omega))⟩, by rw [w5 16 (by omega) (by omega) (by omega) (by omega) (by omega) (by omega) (by omega)]; exact h9⟩
  rw [L] at hi
  rw [getD_take (by omega), w2]
  cases i with
  | zero =>
    have e : ((z 32 2 + 1) % 8 - ((0 : Nat) : Int)) % 8 = (z 32 2 + 1) % 8 := by omega
    rw [e]
    exact w4
  | succ i =>
    have e : ((z 32 2 + 1) % 8 - ((i + 1 : Nat) : Int)) % 8 = (z 32 2 - i) % 8 := by omega
    rw [e, getD_cons]
    exact RH_fra (h5 i (by omega)) (fun a p q => w5 a (by omega) (by omega) (by omega) (by omega) (by omega) (by omega) (by omega))
theorem x_undo0 (h : CH z r [] sv) : fX5_undo z = some (.inr 2, z) := by
  unfold fX5_undo
  rw [if_pos (by have := h.2.1; exact this)]
theorem x_undo (h : CH z r (s :: hs) sv) (hI : IH B s) : ∃ z', fX5_undo z = some (.inl (hs.length : Int), z') ∧ CH z' s hs sv := by
  obtain ⟨h1, h2, h3, h4, h5, h7, h8, h9⟩ := h
  have hl : ((s :: hs).length : Int) = hs.length + 1 := by rw [List.length_cons]; omega
  have hl' : (s :: hs).length = hs.length + 1 := List.length_cons
  have hk : (z 32 2).toNat < 8 := by omega
  have r0 := h5 0 (by omega)
  have e0 : (z 32 2 - ((0 : Nat) : Int)) % 8 = z 32 2 := by omega
  rw [e0] at r0
  have r0 : RH z (34 + 13 * (z 32 2).toNat) s := r0
  obtain ⟨z1, e, c1, c2⟩ := c_copy kH3 (isH_k _ hk) (by omega) hI.1 r0
  have e32 : z1 32 = z 32 := c2 32 (by omega)
  have q2 : z1 32 2 = z 32 2 := by rw [e32]
  have q1 : z1 32 1 = hs.length + 1 := by rw [e32, h2, hl]
  refine ⟨zup (zup z1 32 2 ((z 32 2 + 8 - 1) % 8)) 32 1 (hs.length : Int), ?_, ?_⟩
  · unfold fX5_undo fX2_takeBack fX2_latestHall fX2_takeBack_b14 zl
    rw [if_neg (by omega), if_neg (by omega), if_pos (by omega)]
    simp only [Option.bind_some]
    rw [e]
    simp only [Option.bind_some]
    have a1 : zup z1 32 2 ((z1 32 2 + 8 - 1) % 8) 32 1 = hs.length + 1 := by rw [zup_at, if_neg (by decide), q1]
    rw [if_pos (inR_s (by omega)), if_pos (by omega), a1, if_pos (inR_s (by omega)), q2]
    have m1 : max ((hs.length : Int) + 1 - 1) 0 = hs.length := by omega
    rw [m1]
    simp only [Option.bind_some, zup_at, if_true]
  · have f : ∀ a, a ≠ 32 → ¬ (3 ≤ a ∧ a ≤ 15) → zup (zup z1 32 2 ((z 32 2 + 8 - 1) % 8)) 32 1 (hs.length : Int) a = z a := fun a p q => by rw [zup_ne p, zup_ne p, c2 a (by omega)]
    have g1 : zup (zup z1 32 2 ((z 32 2 + 8 - 1) % 8)) 32 1 (hs.length : Int) 32 1 = hs.length := by rw [zup_at, if_pos rfl]
    have g2 : zup (zup z1 32 2 ((z 32 2 + 8 - 1) % 8)) 32 1 (hs.length : Int) 32 2 = (z 32 2 + 8 - 1) % 8 := by rw [zup_at, if_neg (by decide), zup_at, if_pos rfl]
    have g4 : zup (zup z1 32 2 ((z 32 2 + 8 - 1) % 8)) 32 1 (hs.length : Int) 32 4 = z 32 4 := by rw [zup_at, if_neg (by decide), zup_at, if_neg (by decide), e32]
    refine ⟨RC_iff.mpr (RH_fra c1 (fun a p q => by rw [zup_ne (by omega), zup_ne (by omega)])), g1, by omega, by rw [g2]; omega, fun i hi => ?_, fun q => by rw [g4]; exact h7 q, fun s q => ⟨by rw [g4]; exact (h8 s q).1, RH_fra (h8 s q).2 (fun a p q => f a (by omega) (by omega))⟩, by rw [f 16 (by omega) (by omega)]; exact h9⟩
    rw [g2]
    have r1 := h5 (i + 1) (by omega)
    rw [getD_cons] at r1
    have e : ((z 32 2 + 8 - 1) % 8 - (i : Int)) % 8 = (z 32 2 - ((i + 1 : Nat) : Int)) % 8 := by omega
    rw [e]
    exact RH_fra r1 (fun a p q => f a (by omega) (by omega))
theorem x_save (h : CH z r hs sv) (hI : IH B r) : ∃ z', fX5_save z = some (r 3, z') ∧ CH z' r hs (some r) := by
  obtain ⟨h1, h2, h3, h4, h5, h7, h8, h9⟩ := h
  obtain ⟨z1, e, c1, c2⟩ := c_copy kH138 kH3 (by omega) hI.1 (RC_iff.mp h1)
  have e32 : z1 32 = z 32 := c2 32 (by omega)
  have f : ∀ a, a ≠ 32 → ¬ (138 ≤ a ∧ a ≤ 150) → zup z1 32 4 1 a = z a := fun a p q => by rw [zup_ne p, c2 a q]
  have g1 : zup z1 32 4 1 32 1 = z 32 1 := by rw [zup_at, if_neg (by decide), e32]
  have g2 : zup z1 32 4 1 32 2 = z 32 2 := by rw [zup_at, if_neg (by decide), e32]
  have g4 : zup z1 32 4 1 32 4 = 1 := by rw [zup_at, if_pos rfl]
  have R1 : RC (zup z1 32 4 1) r := RC_iff.mpr (RH_fra (RC_iff.mp h1) (fun a p q => f a (by omega) (by omega)))
  refine ⟨zup z1 32 4 1, ?_, R1, by rw [g1]; exact h2, h3, by rw [g2]; exact h4, fun i hi => ?_, fun q => by (cases q), fun s q => ?_, by rw [f 16 (by omega) (by omega)]; exact h9⟩
  · unfold fX5_save fX2_keepCopy zl
    rw [e]
    simp only [Option.bind_some]
    rw [R1.2.2.2.2.2.2.1]
  · rw [g2]
    exact RH_fra (h5 i hi) (fun a p q => f a (by omega) (by omega))
  · cases q
    exact ⟨g4, RH_fra c1 (fun a p q => by rw [zup_ne (by omega)])⟩
theorem x_rest0 (h : CH z r hs none) : fX5_restore z = some (.inr 2, z) := by
  unfold fX5_restore
  rw [if_pos (h.2.2.2.2.2.1 rfl)]
theorem x_rest (h : CH z r hs (some s)) (hI : IH B s) : ∃ z', fX5_restore z = some (.inl (s 3), z') ∧ CH z' s [] (some s) := by
  obtain ⟨h1, h2, h3, h4, h5, h7, h8, h9⟩ := h
  obtain ⟨s1, s2⟩ := h8 s rfl
  obtain ⟨z1, e, c1, c2⟩ := c_copy kH3 kH138 (by omega) hI.1 s2
  have e32 : z1 32 = z 32 := c2 32 (by omega)
  have f : ∀ a, a ≠ 32 → ¬ (3 ≤ a ∧ a ≤ 15) → zup z1 32 1 0 a = z a := fun a p q => by rw [zup_ne p, c2 a q]
  have R1 : RC (zup z1 32 1 0) s := RC_iff.mpr (RH_fra c1 (fun a p q => by rw [zup_ne (by omega)]))
  refine ⟨zup z1 32 1 0, ?_, R1, by rw [zup_at, if_pos rfl]; rfl, by decide, by rw [zup_at, if_neg (by decide), e32]; exact h4, fun i hi => absurd hi (Nat.not_lt_zero i), fun q => by (cases q), fun s' q => ?_, by rw [f 16 (by omega) (by omega)]; exact h9⟩
  · unfold fX5_restore fX2_bringBackCopy zl
    rw [if_neg (by omega), e]
    simp only [Option.bind_some]
    rw [R1.2.2.2.2.2.2.1]
  · cases q
    exact ⟨by rw [zup_at, if_neg (by decide), e32]; exact s1, RH_fra s2 (fun a p q => f a (by omega) (by omega))⟩
theorem x_count0 (h : CH z r hs sv) : fX5_undoCount z = some (hs.length : Int) := by
  unfold fX5_undoCount
  rw [h.2.1]
/-- a draft is loaded -/
theorem x_load {b : Int → Int} {L : Int} {r0 r' : Row} (h : CH z r hs sv) (hT : TXT b L) (hC : TC b L z) (h0 : R0 r0) (hp : prs b L 601 0 r0 0 = .inr r') : (∃ z', fX5_errorPosition z = some (-1, z') ∧ CH z' r hs sv ∧ TC b L z') ∧ ∃ z', fX5_load z = some (.inl (r' 4), z') ∧ CH z' r' [] none := by
  obtain ⟨z1, e, c1, c2, c3⟩ := (c_draft hT hC h0).2 r' hp
  have c16 : 0 ≤ z1 16 1 := by rw [c3.2 1 (by decide) (by decide) (by decide)]; exact h.2.2.2.2.2.2.2
  have h1 : CH z1 r hs sv := h.tf (TF_C c3) c16
  constructor
  · refine ⟨z1, ?_, h1, TC_f hC c3⟩
    unfold fX5_errorPosition
    rw [e]
    rfl
  · obtain ⟨z2, e2, d1, d2⟩ := c_copy kH3 kH17 (by omega) (PR_IH c2).1 c1
    have g : ∀ a, a ≠ 32 → a ≠ 16 → zup (zup (zup z2 32 1 0) 32 4 0) 16 1 0 a = z2 a := fun a p q => by rw [zup_ne q, zup_ne p, zup_ne p]
    have g32 : zup (zup (zup z2 32 1 0) 32 4 0) 16 1 0 32 = (zup (zup z2 32 1 0) 32 4 0) 32 := zup_ne (by omega)
    have R1 : RC (zup (zup (zup z2 32 1 0) 32 4 0) 16 1 0) r' := RC_iff.mpr (RH_fra d1 (fun a p q => g a (by omega) (by omega)))
    have e32 : z2 32 = z1 32 := d2 32 (by omega)
    refine ⟨zup (zup (zup z2 32 1 0) 32 4 0) 16 1 0, ?_, R1, ?_, by decide, ?_, fun i hi => absurd hi (Nat.not_lt_zero i), fun _ => ?_, fun s q => (by cases q), ?_⟩
    · unfold fX5_load fX2_forgetAll zl
      rw [e]
      simp only [Option.bind_some, if_true]
      rw [e2]
      simp only [Option.bind_some]
      rw [R1.1.1]
    · rw [g32, zup_at, if_neg (by decide), zup_at, if_pos rfl]; rfl
    · rw [g32, zup_at, if_neg (by decide), zup_at, if_neg (by decide), e32]; exact h1.2.2.2.1
    · rw [g32, zup_at, if_pos rfl]
    · rw [zup_at, if_pos rfl]; decide
end CHs

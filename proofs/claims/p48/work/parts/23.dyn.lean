/-! what the law makes: states, rows over them -/
/-- a static thing that an array of the law may hold: a text, a box -/
abbrev stE (v : Int) : Prop := (1000100 ≤ v ∧ v < 1000148) ∨ (1000300 ≤ v ∧ v < 1000556)
abbrev okSh (s : Nat) : Prop := 7 ≤ s ∧ s < 23 ∧ s ≠ 19
abbrev gdE (D : DD) (v : Int) : Prop := v = 0 ∨ (151 ≤ v ∧ v < dT D ∧ okSh (dH D v).1) ∨ stE v
abbrev gdV (D : DD) (v : Int) : Prop := gdE D v ∨ v = 1000012 ∨ (1000200 ≤ v ∧ v < 1000248)
def okS (D : DD) (s k : Nat) (v : Int) : Prop := if s = 22 then gdE D v else if isRf s k then gdV D v else if s = 12 ∧ k = 5 then v = 0 ∨ v = 1 else if s = 21 then -128 ≤ v ∧ v < 128 else inR v
def okD (D : DD) : Prop := (151 ≤ dT D ∧ dT D ≤ 600000) ∧ (0 ≤ dS D ∧ dS D ≤ 7200000) ∧ ∀ a : Int, 151 ≤ a → a < dT D → ((okSh (dH D a).1 ∨ (dH D a).1 = 0) ∧ (dH D a).2 ≤ 1000000) ∧ ∀ k : Nat, okS D (dH D a).1 k (dW D a k)
def DLe (D D' : DD) : Prop := dT D ≤ dT D' ∧ (∀ a, a < dT D → dH D' a = dH D a) ∧ (∀ a, dT D ≤ a → a < dT D' → (dH D' a).1 ≠ 0) ∧ dS D + (zsum (fun i => (dH D' (dT D + i)).2) (dT D' - dT D).toNat : Nat) ≤ dS D'
theorem DLe_refl (D : DD) : DLe D D := by
  refine ⟨Int.le_refl _, fun _ _ => rfl, fun a h1 h2 => by omega, ?_⟩
  have : (dT D - dT D).toNat = 0 := by omega
  rw [this]
  simp [zsum]
theorem DLe_trans {A B C : DD} (h1 : DLe A B) (h2 : DLe B C) : DLe A C := by
  obtain ⟨a1, a2, a3, a4⟩ := h1
  obtain ⟨b1, b2, b3, b4⟩ := h2
  refine ⟨Int.le_trans a1 b1, fun a h => (b2 a (by omega)).trans (a2 a h), fun a h h' => ?_, ?_⟩
  · by_cases q : a < dT B
    · rw [b2 a q]
      exact a3 a h q
    · exact b3 a (by omega) h'
  · have e : (dT C - dT A).toNat = (dT B - dT A).toNat + (dT C - dT B).toNat := by omega
    rw [e, zsum_app]
    have e1 : zsum (fun i => (dH C (dT A + i)).2) (dT B - dT A).toNat = zsum (fun i => (dH B (dT A + i)).2) (dT B - dT A).toNat := zsum_congr _ (fun i hi => by
      show (dH C (dT A + i)).2 = (dH B (dT A + i)).2
      rw [b2 _ (by omega)])
    have e2 : (fun i : Nat => (dH C (dT A + (((dT B - dT A).toNat + i : Nat) : Int))).2) = fun i : Nat => (dH C (dT B + i)).2 := by
      funext i
      congr 2
      omega
    rw [e1, e2]
    omega
theorem gdE_le {D D' : DD} (h : DLe D D') {v : Int} (hv : gdE D v) : gdE D' v := by
  rcases hv with hv | ⟨h1, h2, h3⟩ | hv
  · exact Or.inl hv
  · exact Or.inr (Or.inl ⟨h1, Int.lt_of_lt_of_le h2 h.1, by rw [h.2.1 v h2]; exact h3⟩)
  · exact Or.inr (Or.inr hv)
theorem gdV_le {D D' : DD} (h : DLe D D') {v : Int} (hv : gdV D v) : gdV D' v := hv.elim (fun q => Or.inl (gdE_le h q)) Or.inr
theorem okS_le {D D' : DD} (h : DLe D D') {s k : Nat} {v : Int} (hv : okS D s k v) : okS D' s k v := by
  unfold okS at hv ⊢
  split
  · rw [if_pos (by assumption)] at hv; exact gdE_le h hv
  · rw [if_neg (by assumption)] at hv
    split
    · rw [if_pos (by assumption)] at hv; exact gdV_le h hv
    · rw [if_neg (by assumption)] at hv; exact hv
/-- a slot written; a thing made; an array made like another -/
def dup (D : DD) (e k v : Int) : DD := (dT D, dS D, dH D, fun b j => if b = e ∧ j = k then v else dW D b j)
def dnew (D : DD) (s n : Nat) : DD := (dT D + 1, dS D + n, fun a => if a = dT D then (s, n) else dH D a, fun a k => if a = dT D then 0 else dW D a k)
def dcln (D : DD) (e : Int) (n : Nat) : DD := (dT D + 1, dS D + n, fun a => if a = dT D then (20, n) else dH D a, fun a k => if a = dT D then dW D e k else dW D a k)
def dclb (D : DD) (e : Int) (n : Nat) : DD := (dT D + 1, dS D + n, fun a => if a = dT D then (21, n) else dH D a, fun a k => if a = dT D then dW D e k else dW D a k)
def dcpy (D : DD) (a0 a1 sp dp n : Int) : DD := (dT D, dS D, dH D, fun b j => if b = a1 ∧ dp ≤ j ∧ j < dp + n then dW D a0 (sp + (j - dp)) else dW D b j)
theorem DLe_same {D D' : DD} (h1 : dT D' = dT D) (h2 : dS D' = dS D) (h3 : dH D' = dH D) : DLe D D' := by
  refine ⟨by omega, fun a _ => by rw [h3], fun a q1 q2 => by omega, ?_⟩
  have : (dT D' - dT D).toNat = 0 := by omega
  rw [this, h2]
  simp [zsum]
theorem DLe_dup (D : DD) (e k v : Int) : DLe D (dup D e k v) := DLe_same rfl rfl rfl
theorem DLe_dcpy (D : DD) (a0 a1 sp dp n : Int) : DLe D (dcpy D a0 a1 sp dp n) := DLe_same rfl rfl rfl
theorem DLe_one {D D' : DD} {s n : Nat} (hs : s ≠ 0) (h1 : dT D' = dT D + 1) (h2 : dS D' = dS D + n) (h3 : dH D' = fun a => if a = dT D then (s, n) else dH D a) : DLe D D' := by
  refine ⟨by omega, fun a h => ?_, fun a q1 q2 => ?_, ?_⟩
  · rw [h3]
    show (if a = dT D then (s, n) else dH D a) = _
    rw [if_neg (by omega)]
  · rw [h3]
    show (if a = dT D then (s, n) else dH D a).1 ≠ 0
    rw [if_pos (by omega)]
    exact hs
  · have e : (dT D' - dT D).toNat = 1 := by omega
    rw [e, h2, h3]
    show dS D + ((zsum (fun i => (if dT D + (i : Int) = dT D then (s, n) else dH D (dT D + i)).2) 1 : Nat) : Int) ≤ _
    simp [zsum]
theorem DLe_dnew (D : DD) {s n : Nat} (hs : s ≠ 0) : DLe D (dnew D s n) := DLe_one hs rfl rfl rfl
theorem DLe_dcln (D : DD) (e : Int) (n : Nat) : DLe D (dcln D e n) := DLe_one (s := 20) (by decide) rfl rfl rfl
theorem DLe_dclb (D : DD) (e : Int) (n : Nat) : DLe D (dclb D e n) := DLe_one (s := 21) (by decide) rfl rfl rfl
theorem okD_dup {D : DD} (h : okD D) {e : Int} {k : Nat} {v : Int} (hv : okS D (dH D e).1 k v) : okD (dup D e k v) := by
  obtain ⟨h1, h2, h3⟩ := h
  refine ⟨h1, h2, fun a q1 q2 => ⟨(h3 a q1 q2).1, fun j => okS_le (DLe_dup D e k v) ?_⟩⟩
  show okS D (dH D a).1 j (if a = e ∧ (j : Int) = k then v else dW D a j)
  by_cases c : a = e ∧ (j : Int) = k
  · rw [if_pos c]
    obtain ⟨rfl, c2⟩ := c
    have : j = k := by omega
    rw [this]
    exact hv
  · rw [if_neg c]
    exact (h3 a q1 q2).2 j
theorem okS_0 (D : DD) (s k : Nat) : okS D s k 0 := by
  unfold okS
  split
  · exact Or.inl rfl
  · split
    · exact Or.inl (Or.inl rfl)
    · split
      · exact Or.inl rfl
      · split
        · omega
        · exact inR_c rfl
theorem okD_dnew {D : DD} (h : okD D) {s n : Nat} (hs : okSh s) (hn : n ≤ 1000000) (hT : dT D < 600000) (hS : dS D + n ≤ 7200000) : okD (dnew D s n) := by
  have hle := DLe_dnew D (s := s) (n := n) (by omega)
  obtain ⟨h1, h2, h3⟩ := h
  refine ⟨⟨by show 151 ≤ dT D + 1; omega, by show dT D + 1 ≤ 600000; omega⟩, ⟨by show 0 ≤ dS D + n; omega, by show dS D + n ≤ 7200000; omega⟩, fun a q1 q2 => ?_⟩
  have q2 : a < dT D + 1 := q2
  show ((okSh (if a = dT D then (s, n) else dH D a).1 ∨ (if a = dT D then (s, n) else dH D a).1 = 0) ∧ (if a = dT D then (s, n) else dH D a).2 ≤ 1000000) ∧ ∀ k : Nat, okS (dnew D s n) (if a = dT D then (s, n) else dH D a).1 k (if a = dT D then 0 else dW D a k)
  by_cases c : a = dT D
  · rw [if_pos c]
    refine ⟨⟨Or.inl hs, hn⟩, fun k => ?_⟩
    rw [if_pos c]
    exact okS_0 _ _ _
  · rw [if_neg c]
    refine ⟨(h3 a q1 (by omega)).1, fun k => ?_⟩
    rw [if_neg c]
    exact okS_le hle ((h3 a q1 (by omega)).2 k)
theorem okD_dcln {D : DD} (h : okD D) {e : Int} {n : Nat} (hn : n ≤ 1000000) (he : 151 ≤ e ∧ e < dT D) (hs : (dH D e).1 = 20) (hT : dT D < 600000) (hS : dS D + n ≤ 7200000) : okD (dcln D e n) := by
  have hle := DLe_dcln D e n
  obtain ⟨h1, h2, h3⟩ := h
  refine ⟨⟨by show 151 ≤ dT D + 1; omega, by show dT D + 1 ≤ 600000; omega⟩, ⟨by show 0 ≤ dS D + n; omega, by show dS D + n ≤ 7200000; omega⟩, fun a q1 q2 => ?_⟩
  have q2 : a < dT D + 1 := q2
  show ((okSh (if a = dT D then (20, n) else dH D a).1 ∨ (if a = dT D then (20, n) else dH D a).1 = 0) ∧ (if a = dT D then (20, n) else dH D a).2 ≤ 1000000) ∧ ∀ k : Nat, okS (dcln D e n) (if a = dT D then (20, n) else dH D a).1 k (if a = dT D then dW D e k else dW D a k)
  by_cases c : a = dT D
  · rw [if_pos c]
    refine ⟨⟨Or.inl (by show okSh 20; decide), hn⟩, fun k => ?_⟩
    rw [if_pos c]
    have := (h3 e he.1 he.2).2 k
    rw [hs] at this
    exact okS_le hle this
  · rw [if_neg c]
    refine ⟨(h3 a q1 (by omega)).1, fun k => ?_⟩
    rw [if_neg c]
    exact okS_le hle ((h3 a q1 (by omega)).2 k)
theorem okD_dclb {D : DD} (h : okD D) {e : Int} {n : Nat} (hn : n ≤ 1000000) (he : 151 ≤ e ∧ e < dT D) (hs : (dH D e).1 = 21) (hT : dT D < 600000) (hS : dS D + n ≤ 7200000) : okD (dclb D e n) := by
  have hle := DLe_dclb D e n
  obtain ⟨h1, h2, h3⟩ := h
  refine ⟨⟨by show 151 ≤ dT D + 1; omega, by show dT D + 1 ≤ 600000; omega⟩, ⟨by show 0 ≤ dS D + n; omega, by show dS D + n ≤ 7200000; omega⟩, fun a q1 q2 => ?_⟩
  have q2 : a < dT D + 1 := q2
  show ((okSh (if a = dT D then (21, n) else dH D a).1 ∨ (if a = dT D then (21, n) else dH D a).1 = 0) ∧ (if a = dT D then (21, n) else dH D a).2 ≤ 1000000) ∧ ∀ k : Nat, okS (dclb D e n) (if a = dT D then (21, n) else dH D a).1 k (if a = dT D then dW D e k else dW D a k)
  by_cases c : a = dT D
  · rw [if_pos c]
    refine ⟨⟨Or.inl (by show okSh 21; decide), hn⟩, fun k => ?_⟩
    rw [if_pos c]
    have := (h3 e he.1 he.2).2 k
    rw [hs] at this
    exact okS_le hle this
  · rw [if_neg c]
    refine ⟨(h3 a q1 (by omega)).1, fun k => ?_⟩
    rw [if_neg c]
    exact okS_le hle ((h3 a q1 (by omega)).2 k)
theorem okD_dcpy {D : DD} (h : okD D) {a0 a1 sp dp n : Int} {s : Nat} (h0 : 151 ≤ a0 ∧ a0 < dT D ∧ (dH D a0).1 = s) (h9 : (dH D a1).1 = s) (hs : 20 ≤ s) (hsp : 0 ≤ sp) : okD (dcpy D a0 a1 sp dp n) := by
  obtain ⟨h1, h2, h3⟩ := h
  refine ⟨h1, h2, fun a q1 q2 => ⟨(h3 a q1 q2).1, fun j => okS_le (DLe_dcpy D a0 a1 sp dp n) ?_⟩⟩
  show okS D (dH D a).1 j (if a = a1 ∧ dp ≤ (j : Int) ∧ (j : Int) < dp + n then dW D a0 (sp + ((j : Int) - dp)) else dW D a j)
  by_cases c : a = a1 ∧ dp ≤ (j : Int) ∧ (j : Int) < dp + n
  · rw [if_pos c]
    obtain ⟨rfl, c2, c3⟩ := c
    have q := (h3 a0 h0.1 h0.2.1).2 (sp + ((j : Int) - dp)).toNat
    have e : (((sp + ((j : Int) - dp)).toNat : Nat) : Int) = sp + ((j : Int) - dp) := Int.toNat_of_nonneg (by omega)
    rw [e, h0.2.2] at q
    rw [h9]
    have ne : ∀ k1 k2 : Nat, okS D s k1 (dW D a0 (sp + ((j : Int) - dp))) → okS D s k2 (dW D a0 (sp + ((j : Int) - dp))) := by
      intro k1 k2 hq
      unfold okS at hq ⊢
      by_cases s22 : s = 22
      · rw [if_pos s22] at hq ⊢; exact hq
      · rw [if_neg s22] at hq ⊢
        have r1 : isRf s k1 = false := by unfold isRf; split <;> first | rfl | omega
        have r2 : isRf s k2 = false := by unfold isRf; split <;> first | rfl | omega
        rw [r1, if_neg (by decide), if_neg (by omega)] at hq
        rw [r2, if_neg (by decide), if_neg (by omega)]
        exact hq
    exact ne _ _ q
  · rw [if_neg c]
    exact (h3 a q1 q2).2 j
/-- a made thing of this shape -/
abbrev dO (D : DD) (e : Int) (s : Nat) : Prop := 151 ≤ e ∧ e < dT D ∧ (dH D e).1 = s
theorem dO_le {D D' : DD} (h : DLe D D') {e : Int} {s : Nat} (hO : dO D e s) : dO D' e s := ⟨hO.1, Int.lt_of_lt_of_le hO.2.1 h.1, by rw [h.2.1 e hO.2.1]; exact hO.2.2⟩
theorem dO_gd {D : DD} {e : Int} {s : Nat} (hO : dO D e s) (hs : okSh s) : gdV D e := Or.inl (Or.inr (Or.inl ⟨hO.1, hO.2.1, by rw [hO.2.2]; exact hs⟩))
theorem dO_gdE {D : DD} {e : Int} {s : Nat} (hO : dO D e s) (hs : okSh s) : gdE D e := Or.inr (Or.inl ⟨hO.1, hO.2.1, by rw [hO.2.2]; exact hs⟩)
theorem gd_slot {D : DD} (h : okD D) {e : Int} {s k : Nat} (hO : dO D e s) (hr : isRf s k = true) (hs : s ≠ 22) : gdV D (dW D e k) := by
  have := (h.2.2 e hO.1 hO.2.1).2 k
  rw [hO.2.2] at this
  unfold okS at this
  rw [if_neg hs, if_pos hr] at this
  exact this
theorem in_slot {D : DD} (h : okD D) {e : Int} {s k : Nat} (hO : dO D e s) (hr : isRf s k = false) (hs : s ≠ 22) : inR (dW D e k) := by
  have := (h.2.2 e hO.1 hO.2.1).2 k
  rw [hO.2.2] at this
  unfold okS at this
  rw [if_neg hs, hr, if_neg (by decide)] at this
  split at this
  · rcases this with q | q <;> rw [q] <;> exact inR_c rfl
  · split at this
    · exact ⟨by omega, by omega⟩
    · exact this
theorem b_slot {D : DD} (h : okD D) {e : Int} (hO : dO D e 12) : dW D e 5 = 0 ∨ dW D e 5 = 1 := by
  have := (h.2.2 e hO.1 hO.2.1).2 5
  rw [hO.2.2] at this
  exact this
theorem gd_at {D : DD} (h : okD D) {e j : Int} (hO : dO D e 22) (hj : 0 ≤ j) : gdE D (dW D e j) := by
  have := (h.2.2 e hO.1 hO.2.1).2 j.toNat
  rw [hO.2.2, Int.toNat_of_nonneg hj] at this
  exact this
theorem in_at {D : DD} (h : okD D) {e j : Int} {s : Nat} (hO : dO D e s) (hs : s = 20 ∨ s = 21) (hj : 0 ≤ j) : inR (dW D e j) := by
  have := (h.2.2 e hO.1 hO.2.1).2 j.toNat
  rw [hO.2.2, Int.toNat_of_nonneg hj] at this
  rcases hs with rfl | rfl
  · exact this
  · have this : -128 ≤ dW D e j ∧ dW D e j < 128 := this
    exact ⟨by omega, by omega⟩
theorem by_at {D : DD} (h : okD D) {e j : Int} (hO : dO D e 21) (hj : 0 ≤ j) : -128 ≤ dW D e j ∧ dW D e j < 128 := by
  have := (h.2.2 e hO.1 hO.2.1).2 j.toNat
  rw [hO.2.2, Int.toNat_of_nonneg hj] at this
  exact this
/-- the state -/
def sD (ln : Nat) (D : DD) (z : ZZ) : xS := zmk (ln, D) (dT D).toNat z
def bC (D : DD) : Nat := 600000 - (dT D).toNat
def bS (D : DD) : Nat := 7200000 - (dS D).toNat
abbrev XD (μ : xM) (pc : Nat) (L : List (Option Value)) (st : List Value) (ln : Nat) (D : DD) (z : ZZ) (Φ : xRes → xS → Prop) : Prop := X μ pc L st (sD ln D z) (bC D) (bS D) Φ
theorem rV_0 : rV 0 = .null := rfl
theorem rV_p {v : Int} (h : 0 < v) : rV v = .ref v.toNat := by unfold rV; rw [if_neg (by omega)]
theorem rV_n {a : Nat} (h : 0 < a) : rV (a : Int) = .ref a := by rw [rV_p (by omega)]; rfl
theorem rV_cat (v : Int) : (rV v).category = 1 := by unfold rV; split <;> rfl
theorem rV_or (v : Int) : rV v = .null ∨ ∃ a, rV v = .ref a := by unfold rV; split; exact Or.inl rfl; exact Or.inr ⟨_, rfl⟩
theorem xC1_R (v : Int) : xC1 (some (some (rV v))) = true := by simp [xC1, rV_cat]
theorem rV_inj {u v : Int} (hu : 0 ≤ u) (hv : 0 ≤ v) : rV u = rV v ↔ u = v := by
  constructor
  · intro h
    unfold rV at h
    split at h <;> split at h
    · omega
    · cases h
    · cases h
    · have h : u.toNat = v.toNat := by injection h
      omega
  · intro h; rw [h]
theorem arrV_congr {c : ClassId} {n : Nat} {f f' : Nat → Value} (h : ∀ k, k < n → f k = f' k) : arrV c n f = arrV c n f' := by
  have e : (fun j : Fin n => f j.val) = fun j : Fin n => f' j.val := by funext j; exact h _ j.isLt
  unfold arrV
  rw [e]
section SDs
variable {ln : Nat} {D : DD} {z : ZZ} {e : Int}
theorem sD_sh (hD : okD D) (h : 151 ≤ e ∧ e < dT D) : (sD ln D z).2.1 e.toNat = dH D e := by
  have h1 := hD.1.2
  have e1 : ((e.toNat : Nat) : Int) = e := Int.toNat_of_nonneg (by omega)
  show (if e.toNat < 151 then _ else if e.toNat < 1000000 then (if ((e.toNat : Nat) : Int) < dT D then dH D ((e.toNat : Nat) : Int) else (0, 0)) else _) = _
  rw [if_neg (by omega), if_pos (by omega), e1, if_pos h.2]
theorem sD_ct (hD : okD D) (h : 151 ≤ e ∧ e < dT D) (k : Nat) : (sD ln D z).2.2 e.toNat k = dcv (dH D e).1 k (dW D e k) := by
  have h1 := hD.1.2
  have e1 : ((e.toNat : Nat) : Int) = e := Int.toNat_of_nonneg (by omega)
  show zCD (ln, D) z e.toNat k = _
  unfold zCD
  rw [if_pos (by omega), show (zSH (ln, D) e.toNat) = dH D e from sD_sh (ln := ln) (z := z) hD h]
  show dcv _ k (dW D ((e.toNat : Nat) : Int) k) = _
  rw [e1]
theorem sD_lt (h : 151 ≤ e ∧ e < dT D) : e.toNat < (sD ln D z).1 := by
  show e.toNat < (dT D).toNat
  omega
theorem zSH_eq {ln : ZR} {D' : DD} {a : Nat} (h : ¬ (151 ≤ a ∧ a < 1000000)) : zSH ln a = zSH (ln.1, D') a := by
  unfold zSH
  by_cases c : a < 151
  · rw [if_pos c, if_pos c]
  · rw [if_neg c, if_neg c, if_neg (show ¬ a < 1000000 by omega), if_neg (show ¬ a < 1000000 by omega)]
theorem sD_k12 : xk12 (sD ln D z) := rfl
theorem xset_eq (hD : okD D) (h : 151 ≤ e ∧ e < dT D) {k : Nat} {j v : Int} {w : Value} (hj : (k : Int) = j) (hw : w = dcv (dH D e).1 k v) : xset (sD ln D z) e.toNat k w = sD ln (dup D e j v) z := by
  subst hj
  subst hw
  have h1 := hD.1.2
  have e1 : ((e.toNat : Nat) : Int) = e := Int.toNat_of_nonneg (by omega)
  refine Prod.ext rfl (Prod.ext rfl ?_)
  funext b i
  show (if b = e.toNat ∧ i = k then dcv (dH D e).1 k v else zCD (ln, D) z b i) = zCD (ln, dup D e k v) z b i
  have hsh : zSH (ln, dup D e k v) b = zSH (ln, D) b := rfl
  unfold zCD
  by_cases hb : 151 ≤ b ∧ b < 1000000
  · rw [if_pos hb, if_pos hb, hsh]
    show _ = dcv (zSH (ln, D) b).1 i (if (b : Int) = e ∧ (i : Int) = k then v else dW D b i)
    by_cases c : b = e.toNat ∧ i = k
    · obtain ⟨rfl, rfl⟩ := c
      rw [if_pos ⟨rfl, rfl⟩, if_pos ⟨e1, rfl⟩, show (zSH (ln, D) e.toNat) = dH D e from sD_sh (ln := ln) (z := z) hD h]
    · rw [if_neg c, if_neg (fun q => c ⟨by omega, by omega⟩)]
  · rw [if_neg hb, if_neg hb, if_neg (fun q => hb (by omega))]
/-- a made thing, in the machine's words and in ours -/
theorem xnew_eq (hD : okD D) (hT : dT D < 600000) {D' : DD} {s n : Nat} {f : Nat → Value} (h1 : dT D' = dT D + 1) (h3 : dH D' = fun a => if a = dT D then (s, n) else dH D a) (h4 : ∀ a k, a ≠ dT D → dW D' a k = dW D a k) (hf : ∀ k, (20 ≤ s → k < n) → (∀ r, s < 20 → xcl[s - 1]? = some r → k < r.2.2) → f k = dcv s k (dW D' (dT D) k)) :
    ∀ g H, xRep g (xnew (sD ln D z) s n f) H → xRep g (sD ln D' z) H := by
  have hd := hD.1
  intro g H ⟨r1, r2, r3, r4⟩
  have eT : (dT D').toNat = (dT D).toNat + 1 := by omega
  have hsh : ∀ b : Nat, b ≠ (dT D).toNat → zSH (ln, D') b = zSH (ln, D) b := by
    intro b hb
    unfold zSH
    by_cases c1 : b < 151
    · rw [if_pos c1, if_pos c1]
    · rw [if_neg c1, if_neg c1]
      by_cases c2 : b < 1000000
      · rw [if_pos c2, if_pos c2]
        show (if (b : Int) < dT D' then dH D' b else (0, 0)) = if (b : Int) < dT D then dH D b else (0, 0)
        rw [h3]
        by_cases c3 : (b : Int) < dT D
        · rw [if_pos (by omega), if_pos c3]
          show (if (b : Int) = dT D then _ else _) = _
          rw [if_neg (by omega)]
        · rw [if_neg (by omega), if_neg c3]
      · rw [if_neg c2, if_neg c2]
  have hct : ∀ b : Nat, b ≠ (dT D).toNat → zCD (ln, D') z b = zCD (ln, D) z b := by
    intro b hb
    funext k
    unfold zCD
    by_cases c : 151 ≤ b ∧ b < 1000000
    · rw [if_pos c, if_pos c, hsh b hb]
      show dcv _ k (dW D' b k) = dcv _ k (dW D b k)
      rw [h4 b k (by omega)]
    · rw [if_neg c, if_neg c]
  refine ⟨?_, ?_, fun b hb => ?_, fun b hb => ?_⟩
  · show H.size = gB g + (dT D').toNat
    rw [eT]
    exact r1
  · show (dT D').toNat ≤ 1000000
    omega
  · have hb' : b < (dT D).toNat + 1 := by rw [← eT]; exact hb
    have q := r3 b (show b < (dT D).toNat + 1 from hb')
    show xcell g (zSH (ln, D') b) (zCD (ln, D') z b) (gB g + b) H
    by_cases c : b = (dT D).toNat
    · subst c
      have e1 : (xnew (sD ln D z) s n f).2.1 (dT D).toNat = (s, n) := if_pos rfl
      have e2 : (xnew (sD ln D z) s n f).2.2 (dT D).toNat = f := by funext j; exact if_pos rfl
      rw [e1, e2] at q
      have e3 : zSH (ln, D') (dT D).toNat = (s, n) := by
        show (if (dT D).toNat < 151 then _ else if (dT D).toNat < 1000000 then (if (((dT D).toNat : Nat) : Int) < dT D' then dH D' (((dT D).toNat : Nat) : Int) else (0, 0)) else _) = _
        rw [if_neg (by omega), if_pos (by omega), if_pos (by omega), h3]
        show (if (((dT D).toNat : Nat) : Int) = dT D then _ else _) = _
        rw [if_pos (by omega)]
      have e4 : ∀ k, zCD (ln, D') z (dT D).toNat k = dcv s k (dW D' (dT D) k) := by
        intro k
        unfold zCD
        rw [if_pos (by omega), e3]
        show dcv s k (dW D' (((dT D).toNat : Nat) : Int) k) = _
        rw [Int.toNat_of_nonneg (by omega)]
      rw [e3]
      rcases q with q | ⟨q1, q2, r, q3, q4, q5⟩ | ⟨q1, q2, q3⟩
      · exact Or.inl q
      · refine Or.inr (Or.inl ⟨q1, q2, r, q3, q4.to (fun k hk => ?_), q5⟩)
        rw [e4, ← hf k (fun h => by have q2 : s < 20 := q2; omega) (fun r' _ hr' => by cases hr'.symm.trans q3; exact hk)]
      · refine Or.inr (Or.inr ⟨q1, q2, q3.trans ?_⟩)
        congr 1
        refine arrV_congr (fun k hk => ?_)
        rw [e4, ← hf k (fun _ => hk) (fun r' hs _ => by have q1 : 20 ≤ s := q1; omega)]
    · have e1 : (xnew (sD ln D z) s n f).2.1 b = zSH (ln, D) b := if_neg c
      have e2 : (xnew (sD ln D z) s n f).2.2 b = zCD (ln, D) z b := by funext j; exact if_neg c
      rw [e1, e2] at q
      rw [hsh b c, hct b c]
      exact q
  · have c : b ≠ (dT D).toNat := by omega
    have q := r4 b hb
    have e1 : (xnew (sD ln D z) s n f).2.1 b = zSH (ln, D) b := if_neg c
    have e2 : (xnew (sD ln D z) s n f).2.2 b = zCD (ln, D) z b := by funext j; exact if_neg c
    rw [e1, e2] at q
    show zSH (ln, D') b = _ ∧ zCD (ln, D') z b = _
    rw [hsh b c, hct b c]
    exact q
theorem xuse_D {D' : DD} (hD : okD D) (hD' : okD D') (h : DLe D D') {z' : ZZ} : xUse (sD ln D z) (sD ln D' z') (dS D' - dS D).toNat := by
  obtain ⟨h1, h2, h3, h4⟩ := h
  have d1 := hD.1
  have d2 := hD'.1
  refine ⟨by show (dT D).toNat ≤ (dT D').toNat; omega, fun k q1 q2 => ?_, ?_⟩
  · have q1 : (dT D).toNat ≤ k := q1
    have q2 : k < (dT D').toNat := q2
    have := h3 (k : Int) (by omega) (by omega)
    have e : (sD ln D' z').2.1 k = dH D' k := by
      have := sD_sh (ln := ln) (z := z') hD' (e := (k : Int)) ⟨by omega, by omega⟩
      rw [show ((k : Int)).toNat = k by omega] at this
      exact this
    rw [e]
    exact this
  · show zsum (fun i => ((sD ln D' z').2.1 ((dT D).toNat + i)).2) ((dT D').toNat - (dT D).toNat) ≤ _
    have e0 : (dT D').toNat - (dT D).toNat = (dT D' - dT D).toNat := by omega
    rw [e0]
    have e : zsum (fun i => ((sD ln D' z').2.1 ((dT D).toNat + i)).2) (dT D' - dT D).toNat = zsum (fun i => (dH D' (dT D + i)).2) (dT D' - dT D).toNat := zsum_congr _ (fun i hi => by
      have := sD_sh (ln := ln) (z := z') hD' (e := dT D + i) ⟨by omega, by omega⟩
      rw [show (dT D + (i : Int)).toNat = (dT D).toNat + i by omega] at this
      show ((sD ln D' z').2.1 ((dT D).toNat + i)).2 = _
      rw [this])
    rw [e]
    omega
end SDs

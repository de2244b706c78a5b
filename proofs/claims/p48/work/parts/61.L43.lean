set_option maxRecDepth 20000
/-! strings -/
def Src (D : DD) (v : Int) (s : List Int) : Prop := ((isStr v ∧ ((zST (v + 100).toNat).2 : Int) = s.length ∧ ∀ i : Nat, i < s.length → zKC (v + 100).toNat i = s.getD i 0) ∨ (dO D v 18 ∧ v < 1000000 ∧ dW D v 1 = 0 ∧ dO D (dW D v 0) 21 ∧ dW D v 0 < 1000000 ∧ (dH D (dW D v 0)).2 = s.length ∧ ∀ i : Nat, i < s.length → dW D (dW D v 0) i = s.getD i 0)) ∧ (∀ c ∈ s, 0 ≤ c ∧ c < 128) ∧ s.length ≤ 400
theorem Src.use {D : DD} {v : Int} {s : List Int} (h : Src D v s) : (isStr v ∨ dO D v 18) ∧ v ≠ 0 ∧ strC D v = 0 ∧ isByt D (strV D v) ∧ blen D (strV D v) = s.length ∧ (∀ i : Nat, i < s.length → bat D (strV D v) i = s.getD i 0) ∧ (∀ c ∈ s, 0 ≤ c ∧ c < 128) ∧ s.length ≤ 400 := by
  obtain ⟨h1, h2, h3⟩ := h
  rcases h1 with ⟨a1, a2, a3⟩ | ⟨a1, a2, a3, a4, a5, a6, a7⟩
  · have sv : strV D v = v + 100 := by unfold strV; rw [if_pos a1]
    have sb : stB (v + 100) := ⟨by omega, by omega⟩
    refine ⟨Or.inl a1, by omega, by unfold strC; rw [if_pos a1], by rw [sv]; exact Or.inl sb, ?_, fun i hi => ?_, h2, h3⟩
    · rw [sv]; unfold blen; rw [if_pos sb]; exact a2
    · rw [sv]; unfold bat; rw [if_pos sb]; exact a3 i hi
  · have ns : ¬ isStr v := fun q => by omega
    have nb : ¬ stB (dW D v 0) := fun q => by omega
    have sv : strV D v = dW D v 0 := by unfold strV; rw [if_neg ns]
    refine ⟨Or.inr a1, by have := a1.1; omega, by unfold strC; rw [if_neg ns]; exact a3, by rw [sv]; exact Or.inr a4, ?_, fun i hi => ?_, h2, h3⟩
    · rw [sv]; unfold blen; rw [if_neg nb, a6]
    · rw [sv]; unfold bat; rw [if_neg nb]; exact a7 i hi
theorem Src.ev {P : Int → Prop} {c n : Int} {D D' : DD} {v : Int} {s : List Int} (h : Src D v s) (E : Ev P c n D D') (hv : v < 1000000 → ¬ P v ∧ ¬ P (dW D v 0)) : Src D' v s := by
  obtain ⟨h1, h2, h3⟩ := h
  refine ⟨?_, h2, h3⟩
  rcases h1 with q | ⟨a1, a2, a3, a4, a5, a6, a7⟩
  · exact Or.inl q
  · obtain ⟨p1, p2⟩ := hv a2
    have e := fun j => E.at a1.2.1 p1 j
    refine Or.inr ⟨E.dO a1, a2, by rw [e]; exact a3, by rw [e]; exact E.dO a4, by rw [e]; exact a5, by rw [e, E.sz a4]; exact a6, fun i hi => by rw [e, E.at a4.2.1 p2]; exact a7 i hi⟩
section SBs
variable {P : Int → Prop} {D : DD} {b n : Int} {l : List Int}
theorem s_appS {v : Int} {s : List Int} (h : SB P D b l) (hs : Src D v s) (hv : v < 1000000 → ¬ P v ∧ ¬ P (dW D v 0)) (hl : l.length + s.length ≤ 420) (hT : dT D < 600000) (hS : dS D + 1000 ≤ 7200000) (h0 : ∀ a, dT D ≤ a → P a) : ∃ D', fJ4_append_15ec4 b v D = some (b, D') ∧ SB P D' b (l ++ s) ∧ Ev P 1 1000 D D' := by
  have e3 := h.2.2.2.1
  have hs' := hs
  obtain ⟨s1, s2, s3, s4, s5, s6, s7, s8⟩ := hs.use
  have zl0 : ∀ X : DD, ∀ (q : Src X v s), fJ0_length_8abf5 v X = some (s.length : Int) := fun X q => by
    obtain ⟨q1, q2, q3, q4, q5, q6, q7, q8⟩ := q.use
    unfold fJ0_length_8abf5 fJ0_coder_7d493
    rw [if_pos q1, if_pos q4, if_neg (by decide), if_pos q1, q3, if_pos (by decide)]
    simp only [Option.bind_some]
    rw [q5, zshr0 (by constructor <;> omega)]
  obtain ⟨D1, a1, a2, a3, a4⟩ := s_ens (mn := (l.length : Int) + s.length) h (by omega) hT hS h0
  have hs1 : Src D1 v s := hs'.ev a4 hv
  have a2' := a2
  obtain ⟨g1, gb, g2, g3, ⟨g4, g5⟩, ⟨g6, g7⟩, g8, g9⟩ := a2
  obtain ⟨q1, q2, q3, q4, q5, q6, q7, q8⟩ := hs1.use
  have ne : b ≠ dW D1 b 0 := dO_ne g1 g4 (by decide)
  have cod : fJ0_coder_7d493 v D1 = some 0 := by
    unfold fJ0_coder_7d493
    rw [if_neg (by decide), if_pos q1, q3, if_pos (by decide)]
  have put : fJ5_putStringAt_47b60 b (dW D1 b 3) v D1 = some (dcps D1 (strV D1 v) (dW D1 b 0) 0 l.length s.length) := by
    unfold fJ5_putStringAt_47b60 fJ5_inflateIfNeededFor_a7421 fJ0_getBytes_840e7
    rw [if_neg (by decide), if_pos g1, cod]
    simp only [Option.bind_some]
    rw [if_pos q1, g2, if_pos rfl]
    simp only [Option.bind_some]
    rw [if_pos g1, if_pos q1, if_pos trivial, if_pos q4, if_pos g4, g3, zshl0 (by constructor <;> omega), q5, if_pos ⟨by decide, by omega, by omega, by omega, by omega⟩, zl_eq]
    simp only [Option.bind_some]
    rw [if_pos q1]
  unfold fJ4_append_15ec4 fJ5_append_cf1ce
  rw [if_neg s2, zl0 D hs']
  simp only [Option.bind_some]
  rw [if_pos s1, if_pos h.1, e3, if_pos (by constructor <;> omega), a1]
  simp only [Option.bind_some]
  rw [put]
  simp only [Option.bind_some]
  have E2 : Ev P 0 0 D1 (dcps D1 (strV D1 v) (dW D1 b 0) 0 l.length s.length) := Ev.dcps D1 (fun _ => g5)
  have k3 : dW (dcps D1 (strV D1 v) (dW D1 b 0) 0 l.length s.length) b 3 = l.length := by
    show (if b = dW D1 b 0 ∧ _ then _ else dW D1 b 3) = _
    rw [if_neg (fun q => ne q.1)]; exact g3
  rw [k3, if_pos (by constructor <;> omega), zl_eq]
  simp only [Option.bind_some]
  rw [if_pos h.1]
  have E3 := E2.trans (Ev.dup (P := P) (dcps D1 (strV D1 v) (dW D1 b 0) 0 l.length s.length) (e := b) (k := 3) (v := (l.length : Int) + s.length) (fun _ => gb)) (fun _ _ z => z)
  have bj : ∀ j : Int, j ≠ 3 → dW (dup (dcps D1 (strV D1 v) (dW D1 b 0) 0 l.length s.length) b 3 ((l.length : Int) + s.length)) b j = dW D1 b j := fun j hj => by
    rw [dup_at, if_neg (fun q => hj q.2)]
    show (if b = dW D1 b 0 ∧ _ then _ else dW D1 b j) = _
    rw [if_neg (fun q => ne q.1)]
  have aj : ∀ j : Int, dW (dup (dcps D1 (strV D1 v) (dW D1 b 0) 0 l.length s.length) b 3 ((l.length : Int) + s.length)) (dW D1 b 0) j = if (l.length : Int) ≤ j ∧ j < (l.length : Int) + s.length then bat D1 (strV D1 v) (0 + (j - l.length)) else dW D1 (dW D1 b 0) j := fun j => by
    rw [dup_at, if_neg (fun q => ne q.1.symm)]
    show (if dW D1 b 0 = dW D1 b 0 ∧ (l.length : Int) ≤ j ∧ j < (l.length : Int) + s.length then _ else _) = _
    by_cases c : (l.length : Int) ≤ j ∧ j < (l.length : Int) + s.length
    · rw [if_pos ⟨rfl, c⟩, if_pos c]
    · rw [if_neg (fun q => c q.2), if_neg c]
  refine ⟨_, rfl, a2'.put (s := s) (fun a k q => E3.dO q) rfl (bj 0 (by decide)) ?_ ?_ (by omega) (fun i hi => ?_) (fun i hi => ?_) s7, (a4.trans E3 (fun _ _ z => z)).mono (by decide) (by decide) (fun _ _ z => z)⟩
  · rw [bj 1 (by decide)]; exact g2
  · rw [dup_at, if_pos ⟨rfl, rfl⟩]; omega
  · rw [aj, if_neg (by omega)]
  · rw [aj, if_pos (by omega), show (0 : Int) + (((l.length + i : Nat) : Int) - l.length) = (i : Int) by omega]
    exact q6 i hi
/-- a new builder -/
theorem s_sbNew (hb : dO D b 17) (hp : P b) (h3 : dW D b 3 = 0) (hT : dT D + 1 < 600000) (hS : dS D + 20 ≤ 7200000) (h0 : ∀ a, dT D ≤ a → P a) : ∃ D', fJ4_init_da8c8 b D = some D' ∧ SB P D' b [] ∧ Ev P 1 16 D D' := by
  have bl := hb.2.1
  have n1 : dO (dnew D 21 (16 : Int).toNat) (dT D) 21 := dO_nw (dO_gt hb)
  have E1 : Ev P 1 16 D (dnew D 21 (16 : Int).toNat) := Ev.dnew D
  have b1 := E1.dO hb
  have E2 := (E1.trans (Ev.dup (P := P) (dnew D 21 (16 : Int).toNat) (e := b) (k := 0) (v := dT D) (fun _ => hp)) (fun _ _ z => z)).trans (Ev.dup (P := P) _ (e := b) (k := 1) (v := 0) (fun _ => hp)) (fun _ _ z => z)
  unfold fJ4_init_da8c8 fJ5_init_d00df
  rw [if_pos ⟨hb.1, hb.2.1, trivial⟩, if_neg (by decide), if_pos ⟨⟨by decide, by decide⟩, by omega, by omega⟩, zl_eq, if_pos b1, zl_eq, if_pos (by decide), zl_eq]
  simp only [Option.bind_some]
  rw [if_pos ⟨hb.1, hb.2.1, trivial⟩]
  have bne : b ≠ dT D := by omega
  have x0 : dW (dup (dup (dnew D 21 (16 : Int).toNat) b 0 (dT D)) b 1 0) b 0 = dT D := by rw [dup_at, if_neg (by omega), dup_at, if_pos ⟨rfl, rfl⟩]
  have sz : (dH (dup (dup (dnew D 21 (16 : Int).toNat) b 0 (dT D)) b 1 0) (dT D)).2 = 16 := dH_nw
  refine ⟨_, rfl, ⟨E2.dO hb, hp, by rw [dup_at, if_pos ⟨rfl, rfl⟩], ?_, ?_, ?_, fun i hi => absurd hi (Nat.not_lt_zero i), (fun c hc => nomatch hc)⟩, E2.mono (by decide) (by decide) (fun _ _ z => z)⟩
  · rw [dup_at, if_neg (by omega), dup_at, if_neg (by omega), dnew_at, if_neg bne, h3]; rfl
  · rw [x0]; exact ⟨n1, h0 _ (Int.le_refl _)⟩
  · rw [x0, sz]; exact ⟨by decide, by decide⟩
/-- a builder that begins with a string -/
theorem s_sbStr {v : Int} {s : List Int} (hb : dO D b 17) (hp : P b) (h3 : dW D b 3 = 0) (hs : Src D v s) (hv : v < 1000000 → ¬ P v ∧ ¬ P (dW D v 0)) (hT : dT D + 5 < 600000) (hS : dS D + 3000 ≤ 7200000) (h0 : ∀ a, dT D ≤ a → P a) : ∃ D', fJ4_init_a7421 b v D = some D' ∧ SB P D' b s ∧ Ev P 2 1500 D D' := by
  obtain ⟨q1, q2, q3, q4, q5, q6, q7, q8⟩ := hs.use
  have bl := hb.2.1
  have len : fJ0_length_8abf5 v D = some (s.length : Int) := by
    unfold fJ0_length_8abf5 fJ0_coder_7d493
    rw [if_pos q1, if_pos q4, if_neg (by decide), if_pos q1, q3, if_pos (by decide)]
    simp only [Option.bind_some]
    rw [q5, zshr0 (by constructor <;> omega)]
  have cod : fJ0_coder_7d493 v D = some 0 := by
    unfold fJ0_coder_7d493
    rw [if_neg (by decide), if_pos q1, q3, if_pos (by decide)]
  have eN : ((((s.length : Int) + 16).toNat : Nat) : Int) = (s.length : Int) + 16 := Int.toNat_of_nonneg (by omega)
  have E1 : Ev P 0 0 D (dup D b 1 0) := Ev.dup D (fun _ => hp)
  have n1 : dO (dnew (dup D b 1 0) 21 ((s.length : Int) + 16).toNat) (dT (dup D b 1 0)) 21 := dO_nw (dO_gt hb)
  have td : dT (dup D b 1 0) = dT D := rfl
  rw [td] at n1
  have E2 := (E1.trans (Ev.dnew (P := P) (dup D b 1 0) (s := 21) (n := ((s.length : Int) + 16).toNat)) (fun _ _ z => z)).trans (Ev.dup (P := P) _ (e := b) (k := 0) (v := dT D) (fun _ => hp)) (fun _ _ z => z)
  have bne : b ≠ dT D := by omega
  have x0 : dW (dup (dnew (dup D b 1 0) 21 ((s.length : Int) + 16).toNat) b 0 (dT D)) b 0 = dT D := by rw [dup_at, if_pos ⟨rfl, rfl⟩]
  have sz : (dH (dup (dnew (dup D b 1 0) 21 ((s.length : Int) + 16).toNat) b 0 (dT D)) (dT D)).2 = ((s.length : Int) + 16).toNat := dH_nw
  have S0 : SB P (dup (dnew (dup D b 1 0) 21 ((s.length : Int) + 16).toNat) b 0 (dT D)) b [] := by
    refine ⟨E2.dO hb, hp, ?_, ?_, ?_, ?_, fun i hi => absurd hi (Nat.not_lt_zero i), (fun c hc => nomatch hc)⟩
    · rw [dup_at, if_neg (by omega), dnew_at, if_neg (by rw [td]; exact bne), dup_at, if_pos ⟨rfl, rfl⟩]
    · rw [dup_at, if_neg (by omega), dnew_at, if_neg (by rw [td]; exact bne), dup_at, if_neg (by omega), h3]; rfl
    · rw [x0]; exact ⟨n1, h0 _ (Int.le_refl _)⟩
    · rw [x0, sz]; exact ⟨by show (0 : Int) ≤ _; omega, by omega⟩
  obtain ⟨D', w1, w2, w3⟩ := s_appS S0 (hs.ev E2 hv) (fun q => by
    obtain ⟨p1, p2⟩ := hv q
    refine ⟨p1, ?_⟩
    rcases hs.1 with a | a
    · exact absurd q (by omega)
    · rw [E2.at a.1.2.1 p1]; exact p2) (by show 0 + s.length ≤ 420; omega) (by show dT (dup D b 1 0) + 1 < 600000; omega) (by show dS D + ((((s.length : Int) + 16).toNat : Nat) : Int) + 1000 ≤ 7200000; omega) (fun a ha => h0 a (by have ha : dT D + 1 ≤ a := ha; omega))
  unfold fJ4_init_a7421 fJ5_init_a7421 fJ5_init_a7421_b24 fJ5_init_a7421_b53 fJ4_append_cf1ce
  rw [if_pos ⟨hb.1, hb.2.1, trivial⟩, len]
  simp only [Option.bind_some]
  rw [if_pos q1, if_pos (by omega), if_pos (by constructor <;> omega), cod]
  simp only [Option.bind_some]
  rw [if_pos q1, if_pos hb, if_pos (by decide), zl_eq, if_pos trivial, if_pos ⟨⟨by omega, by omega⟩, by show dT D < 600000; omega, by show dS D + _ ≤ 7200000; omega⟩, zl_eq, td]
  have hb2 : dO (dnew (dup D b 1 0) 21 ((s.length : Int) + 16).toNat) b 17 := (E1.trans (Ev.dnew (P := P) (dup D b 1 0)) (fun _ _ z => z)).dO hb
  rw [if_pos hb2, zl_eq, w1]
  simp only [Option.bind_some]
  have hb3 : dO (dup (dnew (dup D b 1 0) 21 ((s.length : Int) + 16).toNat) b 0 (dT D)) b 17 := hb2
  rw [if_pos hb3]
  simp only [Option.bind_some]
  rw [if_pos hb3]
  simp only [Option.bind_some]
  rw [if_pos ⟨hb.1, hb.2.1, trivial⟩]
  refine ⟨D', rfl, by simpa using w2, (E2.trans w3 (fun _ _ z => z)).mono (by omega) (by omega) (fun _ _ z => z)⟩
/-- the string of a builder -/
theorem s_toStr (h : SB P D b l) (hl : l.length ≤ 400) (hT : dT D + 3 < 600000) (hS : dS D + 1100 ≤ 7200000) : ∃ D', fJ4_toString_0e30d b D = some (dT D, D') ∧ Src D' (dT D) l ∧ dW D' (dT D) 0 = dT D + 1 ∧ Ev (fun _ => False) 2 1010 D D' := by
  have h' := h
  obtain ⟨g1, gb, g2, g3, ⟨g4, g5⟩, ⟨g6, g7⟩, g8, g9⟩ := h
  have hb := dO_gt g1
  have bl := g1.2.1
  have al := g4.2.1
  have n1 : dO (dnew D 18 4) (dT D) 18 := dO_nw hb
  have E1 : Ev (fun _ => False) 1 4 D (dnew D 18 4) := Ev.dnew D
  have E2 : Ev (fun a => a = dT D) 1 4 D (dup (dnew D 18 4) (dT D) 1 0) := (E1.mono (P' := fun a => a = dT D) (Int.le_refl _) (Int.le_refl _) (fun _ _ z => z.elim)).trans (Ev.dup (P := fun a => a = dT D) _ (fun _ => rfl)) (fun _ _ z => z) |>.mono (by decide) (by decide) (fun _ _ z => z)
  generalize ht : dT D = t at *
  have tne : b ≠ t := by omega
  have ane : dW D b 0 ≠ t := by omega
  have t1 : dT (dup (dnew D 18 4) t 1 0) = t + 1 := by show dT D + 1 = t + 1; omega
  have u1 : dS (dup (dnew D 18 4) t 1 0) = dS D + 4 := rfl
  have v0 : ∀ j, dW (dnew D 18 4) b j = dW D b j := fun j => E1.at (by omega) (fun z => z) j
  have ob : dO (dnew D 18 4) b 17 := E1.dO g1
  have a4 : dO (dup (dnew D 18 4) t 1 0) (dW D b 0) 21 := E2.dO g4
  have sz : (dH (dup (dnew D 18 4) t 1 0) (dW D b 0)).2 = (dH D (dW D b 0)).2 := E2.sz g4
  have ar : isArr (dup (dnew D 18 4) t 1 0) (dW D b 0) := Or.inr ⟨a4.1, a4.2.1, by rw [a4.2.2]; decide⟩
  have aln : alen (dup (dnew D 18 4) t 1 0) (dW D b 0) = (dH D (dW D b 0)).2 := by unfold alen; rw [if_neg (by omega), sz]
  have cont : ∀ i : Nat, i < l.length → dW (dup (dnew D 18 4) t 1 0) (dW D b 0) i = l.getD i 0 := fun i hi => by rw [E2.at (by omega) ane]; exact g8 i hi
  -- the bytes
  have cp : ∃ Dc, fJ7_copyOfRange_39247 (dW D b 0) 0 l.length (dup (dnew D 18 4) t 1 0) = some (t + 1, Dc) ∧ dO Dc (t + 1) 21 ∧ (dH Dc (t + 1)).2 = l.length ∧ (∀ i : Nat, i < l.length → dW Dc (t + 1) i = l.getD i 0) ∧ Ev (fun a => a = t) 2 1010 D Dc ∧ Ev (fun a => a = t + 1) 1 1006 (dup (dnew D 18 4) t 1 0) Dc := by
    generalize hX : dup (dnew D 18 4) t 1 0 = X at *
    unfold fJ7_copyOfRange_39247
    rw [if_pos rfl, if_pos ar, aln]
    by_cases c : (l.length : Int) = ((dH D (dW D b 0)).2 : Int)
    · rw [if_pos c, if_pos a4, sz, if_pos ⟨by omega, by omega⟩, zl_eq, t1]
      have Ec : Ev (fun a => a = t) 1 ((dH D (dW D b 0)).2 : Nat) X (dclb X (dW D b 0) (dH D (dW D b 0)).2) := Ev.dclb X
      have e8 : dH (dclb X (dW D b 0) (dH D (dW D b 0)).2) (t + 1) = (21, (dH D (dW D b 0)).2) := by rw [← t1]; exact if_pos rfl
      refine ⟨_, rfl, ⟨by omega, by show t + 1 < dT X + 1; omega, by rw [e8]⟩, by rw [e8]; omega, fun i hi => ?_, (E2.trans Ec (fun _ _ z => z)).mono (by omega) (by omega) (fun _ _ z => z), (Ev.dclb (P := fun a => a = t + 1) X (e := dW D b 0) (n := (dH D (dW D b 0)).2)).mono (by omega) (by omega) (fun _ _ z => z)⟩
      have e9 : dW (dclb X (dW D b 0) (dH D (dW D b 0)).2) (t + 1) i = dW X (dW D b 0) i := by rw [← t1]; exact if_pos rfl
      rw [e9]; exact cont i hi
    · rw [if_neg c]
      unfold fJ7_copyOfRange_39247_b10 fJ7_copyOfRangeByte_39247 fJ7_checkLength_df160
      rw [if_neg (by omega)]
      simp only [Option.bind_some]
      rw [Int.sub_zero, Int.toNat_natCast]
      have n2 : dO (dnew X 21 l.length) (dT X) 21 := dO_nw (by omega)
      have z2 : (dH (dnew X 21 l.length) (dT X)).2 = l.length := dH_nw
      have Ec : Ev (fun a => a = t) 1 (l.length : Nat) X (dnew X 21 l.length) := Ev.dnew X
      have a5 := Ec.dO a4
      have sz5 : (dH (dnew X 21 l.length) (dW D b 0)).2 = (dH D (dW D b 0)).2 := by rw [Ec.sz a4]; exact sz
      have ar5 : isArr (dnew X 21 l.length) (dW D b 0) := Or.inr ⟨a5.1, a5.2.1, by rw [a5.2.2]; decide⟩
      have al5 : alen (dnew X 21 l.length) (dW D b 0) = (dH D (dW D b 0)).2 := by unfold alen; rw [if_neg (by omega), sz5]
      rw [if_pos ⟨⟨by omega, by omega⟩, by omega, by omega⟩, zl_eq, if_pos ar5, al5, Int.sub_zero, if_pos (by constructor <;> omega), if_pos (by constructor <;> omega), if_pos a5, sz5, z2, if_pos ⟨by omega, by omega, by omega, by omega, by omega⟩, zl_eq]
      simp only [Option.bind_some]
      rw [t1] at n2 z2
      have Ed : Ev (fun a => a = t + 1) 0 0 (dnew X 21 l.length) (dcpy (dnew X 21 l.length) (dW D b 0) (t + 1) 0 0 (min ((dH D (dW D b 0)).2 : Int) l.length)) := Ev.dcpy _ (fun _ => rfl)
      rw [t1]
      refine ⟨_, rfl, n2, z2, fun i hi => ?_, ?_, ((Ev.dnew (P := fun a => a = t + 1) X (s := 21) (n := l.length)).trans Ed (fun _ _ z => z)).mono (by omega) (by omega) (fun _ _ z => z)⟩
      · rw [dcpy_at, if_pos ⟨rfl, by omega, by omega⟩, dnew_at, if_neg (by omega), show (0 : Int) + ((i : Int) - 0) = i by omega]
        exact cont i hi
      · exact ((E2.trans Ec (fun _ _ z => z)).trans Ed (fun a ha z => by omega)).mono (by omega) (by omega) (fun _ _ z => z)
  obtain ⟨Dc, k1, k2, k3, k4, k5, k6⟩ := cp
  have ot : dO (dnew D 18 4) t 18 := n1
  have lenb : fJ4_length_8abf5 b (dnew D 18 4) = some (l.length : Int) := by
    unfold fJ4_length_8abf5 fJ5_length_8abf5
    rw [if_pos ob, v0, g3]
    simp only [Option.bind_some]
    rw [if_pos ob]
  have lat : fJ5_isLatin1_aae02 b (dnew D 18 4) = some 1 := by
    unfold fJ5_isLatin1_aae02
    rw [if_neg (by decide), if_pos ob, v0, g2, if_pos rfl]
  unfold fJ4_toString_0e30d fJ0_init_81219 fJ0_init_db425 fJ5_getValue_6d5f1
  rw [if_pos ⟨by omega, by omega⟩, ht, zl_eq, if_pos ⟨n1.1, n1.2.1, trivial⟩, if_pos ob, v0]
  simp only [Option.bind_some]
  rw [if_pos ob, lenb]
  simp only [Option.bind_some]
  rw [lat]
  simp only [Option.bind_some]
  rw [if_neg (by decide), if_pos ot, if_pos (by decide), zl_eq, k1]
  simp only [Option.bind_some]
  rw [zl_eq]
  simp only [Option.bind_some]
  rw [if_pos ⟨n1.1, n1.2.1, trivial⟩]
  have ox : dO (dup (dnew D 18 4) t 1 0) t 18 := n1
  have oc : dO Dc t 18 := k6.dO ox
  have c1 : dW Dc t 1 = 0 := by rw [k6.at (by omega) (by omega), dup_at, if_pos ⟨rfl, rfl⟩]
  have d0 : dW (dup Dc t 0 (t + 1)) t 0 = t + 1 := by rw [dup_at, if_pos ⟨rfl, rfl⟩]
  refine ⟨_, rfl, ⟨Or.inr ⟨oc, by omega, ?_, ?_, ?_, ?_, fun i hi => ?_⟩, g9, hl⟩, d0, (k5.trans (Ev.dup (P := fun a => a = t) Dc (fun _ => rfl)) (fun _ _ z => z)).mono (by decide) (by decide) (fun a ha z => by have z : a = t := z; omega)⟩
  · rw [dup_at, if_neg (by omega)]; exact c1
  · rw [d0]; exact k2
  · rw [d0]; omega
  · rw [d0]; exact k3
  · rw [d0, dup_at, if_neg (by omega)]; exact k4 i hi
end SBs

set_option maxRecDepth 20000
def plS : HStp := ((20, 2, 50), (2, 2, 2, 1), (fun k i => if k = 0 then (if i = 0 then 12 else if i = 1 then 0 else 7) else (if i = 0 then 15 else if i = 1 then 1 else 10)), (fun k i => if i = 0 then 1 else if k = 0 then 30 else 60), (fun k i => if i = 0 then 1 else if k = 0 then 0 else 1), (fun _ i => if i = 0 then 1 else if i = 1 then 4 else 5))
theorem okS_plS : okS' plS := by
  refine ⟨by decide, by decide, by decide, by decide, by decide, by decide, by decide, fun k a b => ?_, fun k a b => ?_, fun k a b => ?_, fun k a b => ?_⟩
  · have b : k < 2 := b
    have : k = 0 ∨ k = 1 := by omega
    rcases this with q | q <;> subst q <;> decide
  · have b : k < 2 := b
    have : k = 0 ∨ k = 1 := by omega
    rcases this with q | q <;> subst q <;> decide
  · have b : k < 2 := b
    have : k = 0 ∨ k = 1 := by omega
    rcases this with q | q <;> subst q <;> decide
  · have b : k < 1 := b
    have : k = 0 := by omega
    subst this; decide
section PL
variable {col0 : Col} {D0 : DD}
theorem rw4 {S : HStp} {k : Int} (hk : 0 ≤ k ∧ k < 8) : rowS S (5 + 4 * k + 0) = S.w k 0 ∧ rowS S (5 + 4 * k + 1) = S.w k 1 ∧ rowS S (5 + 4 * k + 2) = S.w k 2 ∧ rowS S (5 + 4 * k + 3) = S.w k 2 := ⟨rowS_w S hk (by decide), rowS_w S hk (by decide), rowS_w S hk (by decide), rowS_w S hk (by decide)⟩
theorem rh4 {S : HStp} {k : Int} (hk : 0 ≤ k ∧ k < 15) : rowS S (471 + 5 * k + 0) = S.h k 0 ∧ rowS S (471 + 5 * k + 1) = S.h k 1 ∧ rowS S (471 + 5 * k + 2) = 0 ∧ rowS S (471 + 5 * k + 3) = 0 := ⟨rowS_h S hk (by decide), rowS_h S hk (by decide), rowS_h S hk (by decide), rowS_h S hk (by decide)⟩
theorem rm6 {S : HStp} {k : Int} (hk : 0 ≤ k ∧ k < 12) : rowS S (547 + 6 * k + 0) = S.m k 0 ∧ rowS S (547 + 6 * k + 1) = S.m k 1 ∧ rowS S (547 + 6 * k + 2) = 0 ∧ rowS S (547 + 6 * k + 3) = (-1) ∧ rowS S (547 + 6 * k + 4) = (-1) ∧ rowS S (547 + 6 * k + 5) = 0 := ⟨rowS_m S hk (by decide), rowS_m S hk (by decide), rowS_m S hk (by decide), rowS_m S hk (by decide), rowS_m S hk (by decide), rowS_m S hk (by decide)⟩
theorem rc3 {S : HStp} {k : Int} (hk : 0 ≤ k ∧ k < 8) : rowS S (620 + 3 * k + 0) = S.c k 0 ∧ rowS S (620 + 3 * k + 1) = S.c k 1 ∧ rowS S (620 + 3 * k + 2) = S.c k 2 := ⟨rowS_c S hk (by decide), rowS_c S hk (by decide), rowS_c S hk (by decide)⟩
theorem l_plain (hb : 151 ≤ dT D0) (hT : dT D0 + 100 < 600000) (hS : dS D0 + 1000 ≤ 7200000) : ∃ D', fX6_plain D0 = some (dT D0, D') ∧ Bd col0 D0 (dT D0) (rowS plS) 2 0 2 2 1 0 2 7 30 500 D' := by
  obtain ⟨B, b1, b2⟩ := Bd.zero (col0 := col0) (r := rowS plS) (n := 2) hb rfl ⟨rfl, rfl, rfl⟩ (by omega) (by omega)
  obtain ⟨D4, c1, c2⟩ := b2.wall (x1 := 12) (x2 := 0) (x3 := 7) (CBn_rC.mpr (by decide)) (by decide) (by decide) (by decide) (by omega) (by omega) (rw4 (by decide))
  obtain ⟨D5, d1, d2⟩ := c2.wall (x1 := 15) (x2 := 1) (x3 := 10) (CBn_rC.mpr (by decide)) (by decide) (by decide) (by decide) (by omega) (by omega) (rw4 (by decide))
  obtain ⟨D6, e1, e2⟩ := d2.harness (x1 := 1) (x2 := 30) (CBn_rC.mpr (by decide)) (by decide) (by decide) (by decide) (by omega) (by omega) (rh4 (by decide))
  obtain ⟨D7, f1, f2⟩ := e2.harness (x1 := 1) (x2 := 60) (CBn_rC.mpr (by decide)) (by decide) (by decide) (by decide) (by omega) (by omega) (rh4 (by decide))
  obtain ⟨D8, g1, g2⟩ := f2.member (x1 := 1) (x2 := 0) (CBn_rC.mpr (by decide)) (by decide) (by decide) (by decide) (by omega) (by omega) (rm6 (by decide))
  obtain ⟨D9, h1, h2⟩ := g2.member (x1 := 1) (x2 := 1) (CBn_rC.mpr (by decide)) (by decide) (by decide) (by decide) (by omega) (by omega) (rm6 (by decide))
  obtain ⟨D18, k1, k2, k3⟩ := h2.course (x1 := 1) (x2 := 4) (x3 := 5) (CBn_rC.mpr (by decide)) (by decide) (by decide) (by decide) (by omega) (by omega) (rc3 (by decide))
  have z1 : (dH (dnew D9 20 (3 : Int).toNat) (dT D9)).2 = 3 := dH_nw
  have hl : dT D9 ≤ dT D0 + 19 ∧ dS D9 ≤ dS D0 + 352 ∧ dO D9 (dT D0) 7 := by
    obtain ⟨_, _, x1, _, _, x4⟩ := h2
    have := x4.2.1
    have := x4.2.2.2.1
    exact ⟨by omega, by omega, x1.o⟩
  unfold fX6_plain
  rw [if_pos ⟨by omega, by omega⟩, zl_eq, b1]
  simp only [Option.bind_some]
  rw [c1]
  simp only [Option.bind_some]
  rw [d1]
  simp only [Option.bind_some]
  rw [e1]
  simp only [Option.bind_some]
  rw [f1]
  simp only [Option.bind_some]
  rw [g1]
  simp only [Option.bind_some]
  rw [h1]
  simp only [Option.bind_some]
  rw [if_pos ⟨⟨by decide, by decide⟩, by omega, by omega⟩, zl_eq, if_pos ⟨by decide, by rw [z1]; decide⟩, zl_eq, if_pos ⟨by decide, by show (1 : Int) < ((dH (dnew D9 20 (3 : Int).toNat) (dT D9)).2 : Int); rw [z1]; decide⟩, zl_eq, if_pos ⟨by decide, by show (2 : Int) < ((dH (dnew D9 20 (3 : Int).toNat) (dT D9)).2 : Int); rw [z1]; decide⟩, zl_eq, k1]
  simp only [Option.bind_some]
  rw [if_pos k2]
  exact ⟨D18, rfl, k3.mono (by decide) (by decide)⟩
/-! the loops of a drawn hall -/
section DR
variable {D : DD} {g n : Int} {ln : Nat} {z : ZZ} {cc ss : Int}
theorem dr_w {v3 : Int} (hv3 : v3 = pk ln z 1) (h : Bd col0 D0 g (rowS (drS ln z)) 0 0 0 0 0 0 n 0 cc ss D) (hnn : n ≤ 12) (hT : dT D0 + cc + 30 < 600000) (hS : dS D0 + ss + 500 ≤ 7200000) : ∃ D', zlp (fun q => fX6_drawn_s67 g v3 q.1 ln z q.2) FU (0, D) = some D' ∧ Bd col0 D0 g (rowS (drS ln z)) (drS ln z).nw 0 0 0 0 0 n (drS ln z).nw (cc + 2 * (drS ln z).nw) (ss + 54 * (drS ln z).nw) D' := by
  have ok := okD_drS ln z
  have p1 := pk_rng ln z 1
  have hN : (drS ln z).nw = 1 + v3 % 5 := by rw [hv3]; rfl
  have hr := ok.2.2.2.1
  have loop := lp_FU (f := fun q : Int × DD => fX6_drawn_s67 g v3 q.1 ln z q.2)
    (fun i q => q.1 = (i : Int) ∧ Bd col0 D0 g (rowS (drS ln z)) (i : Int) 0 0 0 0 0 n (i : Int) (cc + 2 * i) (ss + 54 * i) q.2)
    (fun q => Bd col0 D0 g (rowS (drS ln z)) (drS ln z).nw 0 0 0 0 0 n (drS ln z).nw (cc + 2 * (drS ln z).nw) (ss + 54 * (drS ln z).nw) q) (drS ln z).nw.toNat (by omega)
    (fun i q hi hq => by
      obtain ⟨k, q⟩ := q
      obtain ⟨h1, h2⟩ := hq
      have h1 : k = (i : Int) := h1
      subst h1
      have p := pk_rng ln z (2 + (i : Int))
      have m1 := modr (x := pk ln z (2 + i)) (n := 28) (by decide)
      have m3 := modr (x := pk ln z (2 + i) / 90) (n := 12) (by decide)
      obtain ⟨D', w1, w2⟩ := h2.wall (x1 := 3 + pk ln z (2 + i) % 28) (x2 := pk ln z (2 + i) / 28 % 3) (x3 := 1 + pk ln z (2 + i) / 90 % 12) (CBn_rC.mpr (by omega)) (by omega) hnn (by omega) (by omega) (by omega) (rw4 (by omega))
      left
      show ∃ s', fX6_drawn_s67 g v3 (i : Int) ln z q = some (.inl s') ∧ _
      unfold fX6_drawn_s67
      rw [if_pos ⟨by omega, by decide⟩, if_pos (by constructor <;> omega), if_pos (by omega), if_pos (by constructor <;> omega), l_pick (by omega)]
      simp only [Option.bind_some]
      rw [if_pos ⟨p.1, by decide⟩, if_pos ⟨p.1, by decide⟩, if_pos ⟨by omega, by decide⟩, if_pos ⟨p.1, by decide⟩, if_pos ⟨by omega, by decide⟩, if_pos (by constructor <;> omega), if_pos (by constructor <;> omega), w1]
      simp only [Option.bind_some]
      rw [if_pos h2.o, if_pos (by constructor <;> omega)]
      refine ⟨_, rfl, by show (i : Int) + 1 = ((i + 1 : Nat) : Int); omega, ?_⟩
      rw [show ((i + 1 : Nat) : Int) = (i : Int) + 1 by omega]
      exact w2.mono (by omega) (by omega))
    (fun q hq => by
      obtain ⟨k, q⟩ := q
      obtain ⟨h1, h2⟩ := hq
      have h1 : k = ((drS ln z).nw.toNat : Int) := h1
      subst h1
      have e : (((drS ln z).nw.toNat : Nat) : Int) = (drS ln z).nw := Int.toNat_of_nonneg (by omega)
      show ∃ s', fX6_drawn_s67 g v3 _ ln z q = some (.inr s') ∧ _
      unfold fX6_drawn_s67
      rw [if_pos ⟨by omega, by decide⟩, if_pos (by constructor <;> omega), if_neg (by omega)]
      rw [e] at h2
      exact ⟨_, rfl, h2⟩)
    (0, D) ⟨rfl, by simpa using h⟩
  exact loop
theorem dr_h {v3 nw : Int} (hv3 : v3 = pk ln z 1) (hw : 0 ≤ nw ∧ nw ≤ 8) (h : Bd col0 D0 g (rowS (drS ln z)) nw 0 0 0 0 0 n nw cc ss D) (hnn : n ≤ 12) (hT : dT D0 + cc + 30 < 600000) (hS : dS D0 + ss + 500 ≤ 7200000) : ∃ D', zlp (fun q => fX6_drawn_s126 g v3 q.1 ln z q.2) FU (0, D) = some D' ∧ Bd col0 D0 g (rowS (drS ln z)) nw 0 (drS ln z).nh 0 0 0 n (nw + (drS ln z).nh) (cc + 2 * (drS ln z).nh) (ss + 54 * (drS ln z).nh) D' := by
  have ok := okD_drS ln z
  have p1 := pk_rng ln z 1
  have hN : (drS ln z).nh = 2 + v3 / 5 % 6 := by rw [hv3]; rfl
  have hr := ok.2.2.2.2.1
  have loop := lp_FU (f := fun q : Int × DD => fX6_drawn_s126 g v3 q.1 ln z q.2)
    (fun i q => q.1 = (i : Int) ∧ Bd col0 D0 g (rowS (drS ln z)) nw 0 (i : Int) 0 0 0 n (nw + i) (cc + 2 * i) (ss + 54 * i) q.2)
    (fun q => Bd col0 D0 g (rowS (drS ln z)) nw 0 (drS ln z).nh 0 0 0 n (nw + (drS ln z).nh) (cc + 2 * (drS ln z).nh) (ss + 54 * (drS ln z).nh) q) (drS ln z).nh.toNat (by omega)
    (fun i q hi hq => by
      obtain ⟨k, q⟩ := q
      obtain ⟨h1, h2⟩ := hq
      have h1 : k = (i : Int) := h1
      subst h1
      have p := pk_rng ln z (7 + (i : Int))
      have m1 := modr (x := pk ln z (7 + i) / 12) (n := 40) (by decide)
      obtain ⟨D', w1, w2⟩ := h2.harness (x1 := if pk ln z (7 + i) % 3 = 0 then pk ln z (7 + i) / 3 % 4 else 1) (x2 := 1 + pk ln z (7 + i) / 12 % 40) (CBn_rC.mpr (by omega)) (by omega) hnn (by omega) (by omega) (by omega) (rh4 (by omega))
      have fin : ∀ s1, s1 = (if pk ln z (7 + i) % 3 = 0 then pk ln z (7 + i) / 3 % 4 else 1) → ∃ s', fX6_drawn_b170 g v3 (i : Int) (pk ln z (7 + i)) g s1 ln z q = some (.inl s') ∧ s'.1 = ((i + 1 : Nat) : Int) ∧ Bd col0 D0 g (rowS (drS ln z)) nw 0 ((i + 1 : Nat) : Int) 0 0 0 n (nw + ((i + 1 : Nat) : Int)) (cc + 2 * ((i + 1 : Nat) : Int)) (ss + 54 * ((i + 1 : Nat) : Int)) s'.2 := by
        intro s1 hs1
        unfold fX6_drawn_b170
        rw [if_pos ⟨p.1, by decide⟩, if_pos ⟨by omega, by decide⟩, if_pos (by constructor <;> omega), hs1, w1]
        simp only [Option.bind_some]
        rw [if_pos h2.o, if_pos (by constructor <;> omega)]
        refine ⟨_, rfl, by show (i : Int) + 1 = ((i + 1 : Nat) : Int); omega, ?_⟩
        rw [show ((i + 1 : Nat) : Int) = (i : Int) + 1 by omega, show nw + ((i : Int) + 1) = nw + i + 1 by omega]
        exact w2.mono (by omega) (by omega)
      left
      show ∃ s', fX6_drawn_s126 g v3 (i : Int) ln z q = some (.inl s') ∧ _
      unfold fX6_drawn_s126
      rw [if_pos ⟨by omega, by decide⟩, if_pos ⟨by omega, by decide⟩, if_pos (by constructor <;> omega), if_pos (by omega), if_pos (by constructor <;> omega), l_pick (by omega)]
      simp only [Option.bind_some]
      rw [if_pos ⟨p.1, by decide⟩]
      by_cases c : pk ln z (7 + i) % 3 = 0
      · rw [if_pos c, if_pos ⟨p.1, by decide⟩, if_pos ⟨by omega, by decide⟩]
        exact fin _ (by rw [if_pos c])
      · rw [if_neg c]
        exact fin _ (by rw [if_neg c]))
    (fun q hq => by
      obtain ⟨k, q⟩ := q
      obtain ⟨h1, h2⟩ := hq
      have h1 : k = ((drS ln z).nh.toNat : Int) := h1
      subst h1
      have e : (((drS ln z).nh.toNat : Nat) : Int) = (drS ln z).nh := Int.toNat_of_nonneg (by omega)
      show ∃ s', fX6_drawn_s126 g v3 _ ln z q = some (.inr s') ∧ _
      unfold fX6_drawn_s126
      rw [if_pos ⟨by omega, by decide⟩, if_pos ⟨by omega, by decide⟩, if_pos (by constructor <;> omega), if_neg (by omega)]
      rw [e] at h2
      exact ⟨_, rfl, h2⟩)
    (0, D) ⟨rfl, by simpa using h⟩
  exact loop
theorem dr_m {v3 nw nh : Int} (hv3 : v3 = pk ln z 1) (hw : 0 ≤ nw ∧ nw ≤ 8) (hh : 0 ≤ nh ∧ nh ≤ 15) (h : Bd col0 D0 g (rowS (drS ln z)) nw 0 nh 0 0 0 n (nw + nh) cc ss D) (hnn : n ≤ 12) (hT : dT D0 + cc + 30 < 600000) (hS : dS D0 + ss + 500 ≤ 7200000) : ∃ D', zlp (fun q => fX6_drawn_s192 g v3 q.1 ln z q.2) FU (0, D) = some D' ∧ Bd col0 D0 g (rowS (drS ln z)) nw 0 nh (drS ln z).nm 0 0 n (nw + nh + (drS ln z).nm) (cc + 2 * (drS ln z).nm) (ss + 54 * (drS ln z).nm) D' := by
  have ok := okD_drS ln z
  have p1 := pk_rng ln z 1
  have hN : (drS ln z).nm = 1 + v3 / 30 % 6 := by rw [hv3]; rfl
  have hr := ok.2.2.2.2.2.1
  have loop := lp_FU (f := fun q : Int × DD => fX6_drawn_s192 g v3 q.1 ln z q.2)
    (fun i q => q.1 = (i : Int) ∧ Bd col0 D0 g (rowS (drS ln z)) nw 0 nh (i : Int) 0 0 n (nw + nh + i) (cc + 2 * i) (ss + 54 * i) q.2)
    (fun q => Bd col0 D0 g (rowS (drS ln z)) nw 0 nh (drS ln z).nm 0 0 n (nw + nh + (drS ln z).nm) (cc + 2 * (drS ln z).nm) (ss + 54 * (drS ln z).nm) q) (drS ln z).nm.toNat (by omega)
    (fun i q hi hq => by
      obtain ⟨k, q⟩ := q
      obtain ⟨h1, h2⟩ := hq
      have h1 : k = (i : Int) := h1
      subst h1
      have p := pk_rng ln z (14 + (i : Int))
      obtain ⟨D', w1, w2⟩ := h2.member (x1 := if pk ln z (14 + i) % 4 = 0 then pk ln z (14 + i) / 4 % 4 else 1) (x2 := pk ln z (14 + i) / 16 % 4) (CBn_rC.mpr (by omega)) (by omega) hnn (by omega) (by omega) (by omega) (rm6 (by omega))
      have fin : ∀ s1, s1 = (if pk ln z (14 + i) % 4 = 0 then pk ln z (14 + i) / 4 % 4 else 1) → ∃ s', fX6_drawn_b237 g v3 (i : Int) (pk ln z (14 + i)) g s1 ln z q = some (.inl s') ∧ s'.1 = ((i + 1 : Nat) : Int) ∧ Bd col0 D0 g (rowS (drS ln z)) nw 0 nh ((i + 1 : Nat) : Int) 0 0 n (nw + nh + ((i + 1 : Nat) : Int)) (cc + 2 * ((i + 1 : Nat) : Int)) (ss + 54 * ((i + 1 : Nat) : Int)) s'.2 := by
        intro s1 hs1
        unfold fX6_drawn_b237
        rw [if_pos ⟨p.1, by decide⟩, if_pos ⟨by omega, by decide⟩, hs1, w1]
        simp only [Option.bind_some]
        rw [if_pos h2.o, if_pos (by constructor <;> omega)]
        refine ⟨_, rfl, by show (i : Int) + 1 = ((i + 1 : Nat) : Int); omega, ?_⟩
        rw [show ((i + 1 : Nat) : Int) = (i : Int) + 1 by omega, show nw + nh + ((i : Int) + 1) = nw + nh + i + 1 by omega]
        exact w2.mono (by omega) (by omega)
      left
      show ∃ s', fX6_drawn_s192 g v3 (i : Int) ln z q = some (.inl s') ∧ _
      unfold fX6_drawn_s192
      rw [if_pos ⟨by omega, by decide⟩, if_pos ⟨by omega, by decide⟩, if_pos (by constructor <;> omega), if_pos (by omega), if_pos (by constructor <;> omega), l_pick (by omega)]
      simp only [Option.bind_some]
      rw [if_pos ⟨p.1, by decide⟩]
      by_cases c : pk ln z (14 + i) % 4 = 0
      · rw [if_pos c, if_pos ⟨p.1, by decide⟩, if_pos ⟨by omega, by decide⟩]
        exact fin _ (by rw [if_pos c])
      · rw [if_neg c]
        exact fin _ (by rw [if_neg c]))
    (fun q hq => by
      obtain ⟨k, q⟩ := q
      obtain ⟨h1, h2⟩ := hq
      have h1 : k = ((drS ln z).nm.toNat : Int) := h1
      subst h1
      have e : (((drS ln z).nm.toNat : Nat) : Int) = (drS ln z).nm := Int.toNat_of_nonneg (by omega)
      show ∃ s', fX6_drawn_s192 g v3 _ ln z q = some (.inr s') ∧ _
      unfold fX6_drawn_s192
      rw [if_pos ⟨by omega, by decide⟩, if_pos ⟨by omega, by decide⟩, if_pos (by constructor <;> omega), if_neg (by omega)]
      rw [e] at h2
      exact ⟨_, rfl, h2⟩)
    (0, D) ⟨rfl, by simpa using h⟩
  exact loop
theorem dr_c {v3 nw nh nm : Int} (hv3 : v3 = pk ln z 1) (hw : 0 ≤ nw ∧ nw ≤ 8) (hh : 0 ≤ nh ∧ nh ≤ 15) (hm : 0 ≤ nm ∧ nm ≤ 12) (h : Bd col0 D0 g (rowS (drS ln z)) nw 0 nh nm 0 0 n (nw + nh + nm) cc ss D) (hnn : n ≤ 12) (hT : dT D0 + cc + 30 < 600000) (hS : dS D0 + ss + 500 ≤ 7200000) : ∃ D', zlp (fun q => fX6_drawn_s256 g v3 q.1 ln z q.2) FU (0, D) = some D' ∧ Bd col0 D0 g (rowS (drS ln z)) nw 0 nh nm (drS ln z).nc 0 n (nw + nh + nm + (drS ln z).nc) (cc + 2 * (drS ln z).nc) (ss + 54 * (drS ln z).nc) D' := by
  have ok := okD_drS ln z
  have p1 := pk_rng ln z 1
  have hN : (drS ln z).nc = v3 / 180 % 5 := by rw [hv3]; rfl
  have hr := ok.2.2.2.2.2.2.1
  have loop := lp_FU (f := fun q : Int × DD => fX6_drawn_s256 g v3 q.1 ln z q.2)
    (fun i q => q.1 = (i : Int) ∧ Bd col0 D0 g (rowS (drS ln z)) nw 0 nh nm (i : Int) 0 n (nw + nh + nm + i) (cc + 2 * i) (ss + 54 * i) q.2)
    (fun q => Bd col0 D0 g (rowS (drS ln z)) nw 0 nh nm (drS ln z).nc 0 n (nw + nh + nm + (drS ln z).nc) (cc + 2 * (drS ln z).nc) (ss + 54 * (drS ln z).nc) q) (drS ln z).nc.toNat (by omega)
    (fun i q hi hq => by
      obtain ⟨k, q⟩ := q
      obtain ⟨h1, h2⟩ := hq
      have h1 : k = (i : Int) := h1
      subst h1
      have p := pk_rng ln z (20 + (i : Int))
      have m1 := modr (x := pk ln z (20 + i)) (n := 4) (by decide)
      have m2 := modr (x := pk ln z (20 + i) / 4) (n := 3) (by decide)
      have h2' : Bd col0 D0 g (rowS (drS ln z)) nw 0 nh nm (i : Int) 0 n (nw + nh + nm + i) (cc + 2 * i) (ss + 54 * i) q := h2
      have rm : dT q < 600000 ∧ dS q + 3 ≤ 7200000 := by
        obtain ⟨_, _, _, _, _, x4⟩ := h2'
        have := x4.2.1
        have := x4.2.2.2.1
        omega
      obtain ⟨D', w1, w2, w3⟩ := h2.course (x1 := 1 + pk ln z (20 + i) % 4) (x2 := 1 + pk ln z (20 + i) / 4 % 3) (x3 := pk ln z (20 + i) / 12 % 4) (CBn_rC.mpr (by omega)) (by omega) hnn (by omega) (by omega) (by omega) (rc3 (by omega))
      have z1 : (dH (dnew q 20 (3 : Int).toNat) (dT q)).2 = 3 := dH_nw
      left
      show ∃ s', fX6_drawn_s256 g v3 (i : Int) ln z q = some (.inl s') ∧ _
      unfold fX6_drawn_s256
      rw [if_pos ⟨by omega, by decide⟩, if_pos ⟨by omega, by decide⟩, if_pos (by omega), if_pos (by constructor <;> omega), l_pick (by omega)]
      simp only [Option.bind_some]
      rw [if_pos h2'.o, if_pos ⟨⟨by decide, by decide⟩, rm⟩, zl_eq, if_pos ⟨p.1, by decide⟩, if_pos ⟨by decide, by rw [z1]; decide⟩, if_pos (by constructor <;> omega), zl_eq, if_pos ⟨p.1, by decide⟩, if_pos ⟨by omega, by decide⟩, if_pos ⟨by decide, by show (1 : Int) < ((dH (dnew q 20 (3 : Int).toNat) (dT q)).2 : Int); rw [z1]; decide⟩, if_pos (by constructor <;> omega), zl_eq, if_pos ⟨p.1, by decide⟩, if_pos ⟨by omega, by decide⟩, if_pos ⟨by decide, by show (2 : Int) < ((dH (dnew q 20 (3 : Int).toNat) (dT q)).2 : Int); rw [z1]; decide⟩, zl_eq, w1]
      simp only [Option.bind_some]
      rw [if_pos w2, if_pos (by constructor <;> omega)]
      refine ⟨_, rfl, by show (i : Int) + 1 = ((i + 1 : Nat) : Int); omega, ?_⟩
      rw [show ((i + 1 : Nat) : Int) = (i : Int) + 1 by omega, show nw + nh + nm + ((i : Int) + 1) = nw + nh + nm + i + 1 by omega]
      exact w3.mono (by omega) (by omega))
    (fun q hq => by
      obtain ⟨k, q⟩ := q
      obtain ⟨h1, h2⟩ := hq
      have h1 : k = ((drS ln z).nc.toNat : Int) := h1
      subst h1
      have e : (((drS ln z).nc.toNat : Nat) : Int) = (drS ln z).nc := Int.toNat_of_nonneg (by omega)
      show ∃ s', fX6_drawn_s256 g v3 _ ln z q = some (.inr s') ∧ _
      unfold fX6_drawn_s256
      rw [if_pos ⟨by omega, by decide⟩, if_pos ⟨by omega, by decide⟩, if_neg (by omega)]
      rw [e] at h2
      exact ⟨_, rfl, h2⟩)
    (0, D) ⟨rfl, by simpa using h⟩
  exact loop
theorem l_drawn (hb : 151 ≤ dT D0) (hT : dT D0 + 200 < 600000) (hS : dS D0 + 3000 ≤ 7200000) : ∃ D', fX6_drawn ln z D0 = some (dT D0, D') ∧ Bd col0 D0 (dT D0) (rowS (drS ln z)) (drS ln z).nw 0 (drS ln z).nh (drS ln z).nm (drS ln z).nc 0 (drS ln z).nm ((drS ln z).nw + (drS ln z).nh + (drS ln z).nm + (drS ln z).nc) 60 1500 D' := by
  have ok := okD_drS ln z
  have p0 := pk_rng ln z 0
  have p1 := pk_rng ln z 1
  obtain ⟨B, b1, b2⟩ := Bd.zero (col0 := col0) (r := rowS ((20, 2, 50), (drS ln z).2)) (n := (drS ln z).nm) hb rfl ⟨rfl, rfl, rfl⟩ (by omega) (by omega)
  have m1 := modr (x := pk ln z 0 / 500) (n := 30) (by decide)
  have nm := ok.2.2.2.2.2.1
  have nw := ok.2.2.2.1
  have nh := ok.2.2.2.2.1
  have nc := ok.2.2.2.2.2.2.1
  have fin : ∀ X, Bd col0 D0 (dT D0) (rowS (drS ln z)) 0 0 0 0 0 0 (drS ln z).nm 0 7 28 X → ∃ D', fX6_drawn_b64 (dT D0) (pk ln z 1) ln z X = some (dT D0, D') ∧ Bd col0 D0 (dT D0) (rowS (drS ln z)) (drS ln z).nw 0 (drS ln z).nh (drS ln z).nm (drS ln z).nc 0 (drS ln z).nm ((drS ln z).nw + (drS ln z).nh + (drS ln z).nm + (drS ln z).nc) 60 1500 D' := by
    intro X hX
    obtain ⟨D1, a1, a2⟩ := dr_w rfl hX (by omega) (by omega) (by omega)
    obtain ⟨D2, c1, c2⟩ := dr_h rfl (by omega) a2 (by omega) (by omega) (by omega)
    obtain ⟨D3, d1, d2⟩ := dr_m rfl (by omega) (by omega) c2 (by omega) (by omega) (by omega)
    obtain ⟨D4, e1, e2⟩ := dr_c rfl (by omega) (by omega) (by omega) d2 (by omega) (by omega) (by omega)
    unfold fX6_drawn_b64
    rw [a1]
    simp only [Option.bind_some]
    rw [c1]
    simp only [Option.bind_some]
    rw [d1]
    simp only [Option.bind_some]
    rw [e1]
    simp only [Option.bind_some]
    exact ⟨D4, rfl, e2.mono (by omega) (by omega)⟩
  unfold fX6_drawn
  rw [if_pos ⟨by omega, by omega⟩, zl_eq, b1]
  simp only [Option.bind_some]
  rw [l_pick (by decide)]
  simp only [Option.bind_some]
  rw [l_pick (by decide)]
  simp only [Option.bind_some]
  rw [if_pos ⟨p0.1, by decide⟩]
  by_cases c : 0 < pk ln z 0 % 3
  · have hS1 : drS ln z = ((pk ln z 0 / 3 % 41, pk ln z 0 / 123 % 4, 1 + pk ln z 0 / 500 % 30), (drS ln z).2) := by
      unfold drS
      rw [if_pos c]
    rw [if_pos c, if_pos ⟨p0.1, by decide⟩, if_pos ⟨by omega, by decide⟩, zl_eq, if_pos ⟨p0.1, by decide⟩, if_pos ⟨by omega, by decide⟩, zl_eq, if_pos ⟨p0.1, by decide⟩, if_pos ⟨by omega, by decide⟩, if_pos (by constructor <;> omega), zl_eq]
    refine fin _ (Bd.fields (r' := rowS (drS ln z)) b2 ?_ (by omega) rfl)
    rw [hS1]
    exact ⟨rfl, rfl, rfl, rfl⟩
  · have hS1 : drS ln z = ((20, 2, 50), (drS ln z).2) := by
      unfold drS
      rw [if_neg c]
    rw [if_neg c]
    refine fin _ ?_
    rw [← hS1] at b2
    exact b2
end DR
end PL

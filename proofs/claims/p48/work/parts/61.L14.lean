set_option maxRecDepth 20000
/-! mean and grade -/
theorem l_b139 {P : Int → Prop} {D : DD} {g a m0 r0 : Int} {bl : List Int} (hA : AB P D a bl m0) (hg : dO D g 7) (hg0 : dW D g 0 = r0) (h0 : 0 ≤ r0 ∧ r0 ≤ 40) (hb : ∀ v ∈ bl, 0 ≤ v ∧ v ≤ 29) (hl : bl.length ≤ 30) (hne : bl ≠ []) (hT : dT D + 2 < 600000) (hS : dS D + 40 ≤ 7200000) :
    ∃ u D' l', fX6_mean_b139 g a D = some (u, D') ∧ (dO D' u 20 ∧ (dH D' u).2 = 2 ∧ dT D ≤ u) ∧ l'.Perm bl ∧ sorted l' ∧ dW D' u 0 = cutS l' (bl.length * r0.toNat / 100) (bl.length - bl.length * r0.toNat / 100 - bl.length * r0.toNat / 100) ∧ dW D' u 1 = ((bl.length - bl.length * r0.toNat / 100 - bl.length * r0.toNat / 100 : Nat) : Int) ∧ Ev (fun _ => False) 2 (bl.length + 2) D D' := by
  have hlen : 0 < bl.length := List.length_pos_iff.mpr hne
  unfold fX6_mean_b139
  rw [s_size hA.1, List.length_map]
  simp only [Option.bind_some]
  rw [if_pos hA.1.1, if_pos ⟨⟨by omega, by omega⟩, by omega, by omega⟩, zl_eq, Int.toNat_natCast]
  have hb0 := dO_gt hg
  have n1 : dO (dnew D 20 bl.length) (dT D) 20 := dO_nw hb0
  have E1 : Ev (fun _ => False) 1 bl.length D (dnew D 20 bl.length) := Ev.dnew D
  have A1 : AB P (dnew D 20 bl.length) a bl m0 := by
    refine ⟨hA.1.ev E1 (fun z => z) (fun z => z), hA.2.1, ?_⟩
    rw [E1.at hA.1.1.2.1 (fun z => z)]
    exact hA.2.2
  have tne : dT D ≠ a := by have := hA.1.1.2.1; omega
  have tnr : dT D ≠ dW (dnew D 20 bl.length) a 1 := by
    rcases A1.1.2.2.2.2 with p | p
    · rw [p.1]; omega
    · rw [E1.at hA.1.1.2.1 (fun z => z)] at p ⊢
      rcases hA.1.arrlt with q | q
      · rw [q]; omega
      · omega
  obtain ⟨D5, w1, w2, w3⟩ := l_fill (g := g) A1 hb hl n1 dH_nw tne tnr (by omega)
  rw [w1]
  simp only [Option.bind_some]
  obtain ⟨D6, l', x1, x2, x3, x4, x5⟩ := s_sort w2 (by omega) (fun y hy => by have := hb y hy; constructor <;> omega) (by omega) hne
  rw [x1]
  simp only [Option.bind_some]
  have E6 : Ev (fun _ => False) 1 bl.length D D6 := ((E1.trans w3 (fun b hb' z => by omega)).trans x5 (fun b hb' z => by omega)).mono (by omega) (by omega) (fun _ _ z => z)
  have ll := x3.length_eq
  have hal : alen D6 (dT D) = bl.length := by unfold alen; rw [if_neg (by omega), x2.2.1, ll]
  have eg0 : dW D6 g 0 = r0 := by rw [E6.at hg.2.1 (fun z => z)]; exact hg0
  have hmul : (bl.length : Int) * r0 = ((bl.length * r0.toNat : Nat) : Int) := by rw [Int.natCast_mul, Int.toNat_of_nonneg h0.1]
  have hml : bl.length * r0.toNat ≤ bl.length * 40 := Nat.mul_le_mul_left _ (by omega)
  rw [if_pos (Or.inr ⟨x2.1.1, x2.1.2.1, by rw [x2.1.2.2]; decide⟩), hal, if_pos (E6.dO hg), eg0, hmul, if_pos (by constructor <;> omega), if_pos ⟨by omega, by decide⟩, if_pos ⟨⟨by decide, by decide⟩, by have := E6.2.1; omega, by have := E6.2.2.2.1; omega⟩, zl_eq]
  have hdiv : (((bl.length * r0.toNat : Nat) : Int)) / 100 = ((bl.length * r0.toNat / 100 : Nat) : Int) := by omega
  rw [hdiv]
  have n2 : dO (dnew D6 20 (2 : Int).toNat) (dT D6) 20 := dO_nw (dO_gt x2.1)
  have E7 : Ev (fun _ => False) 1 2 D6 (dnew D6 20 (2 : Int).toNat) := Ev.dnew D6
  have z0 : ∀ j, dW (dnew D6 20 (2 : Int).toNat) (dT D6) j = 0 := fun j => by rw [dnew_at, if_pos rfl]
  obtain ⟨D13, y1, y2, y3, y4⟩ := l_suM (d := bl.length * r0.toNat / 100) (x2.ev E7 (fun z => z)) (fun v hv => hb v (x3.mem_iff.mp hv)) (by omega) (by omega) (by omega) n2 dH_nw (by have := x2.1.2.1; omega) (z0 0) (z0 1)
  rw [y1]
  simp only [Option.bind_some]
  have E13 : Ev (fun _ => False) 2 (bl.length + 2) D D13 := ((E6.trans E7 (fun _ _ z => z)).trans y4 (fun b hb' z => by have := E6.1; omega)).mono (by omega) (by omega) (fun _ _ z => z)
  refine ⟨dT D6, D13, l', rfl, ⟨y4.dO n2, by rw [y4.sz n2]; exact dH_nw, E6.1⟩, x3, x4, ?_, ?_, E13⟩
  · rw [y2, ll]
  · rw [y3, ll]
/-- the ballot of route k -/
def bal (L : List (Int × Int)) (n s : Int) : List Int := if L.map Prod.snd ++ List.replicate n.toNat s = [] then [s] else L.map Prod.snd ++ List.replicate n.toNat s
theorem bal_len {L : List (Int × Int)} {n s : Int} (hn : 0 ≤ n) : ((bal L n s).length : Int) = if (L.length : Int) + n = 0 then 1 else (L.length : Int) + n := by
  unfold bal
  by_cases h : L.map Prod.snd ++ List.replicate n.toNat s = []
  · rw [if_pos h]
    have q := congrArg List.length h
    rw [List.length_append, List.length_map, List.length_replicate] at q
    have q : L.length + n.toNat = 0 := q
    rw [if_pos (by omega)]
    rfl
  · rw [if_neg h]
    have q : L.length + n.toNat ≠ 0 := fun q => h (List.length_eq_zero_iff.mp (by rw [List.length_append, List.length_map, List.length_replicate]; exact q))
    rw [if_neg (by omega), List.length_append, List.length_map, List.length_replicate]
    omega
theorem bal_cnt {L : List (Int × Int)} {n s g : Int} (hn : 0 ≤ n) : (cL (bal L n s) g : Int) = (cL (L.map Prod.snd) g : Int) + (if g = s then n else 0) + (if (L.length : Int) + n = 0 then (if g = s then 1 else 0) else 0) := by
  unfold bal
  by_cases h : L.map Prod.snd ++ List.replicate n.toNat s = []
  · rw [if_pos h]
    have q := congrArg List.length h
    rw [List.length_append, List.length_map, List.length_replicate] at q
    have q : L.length + n.toNat = 0 := q
    have hL : L = [] := List.length_eq_zero_iff.mp (by omega)
    have hn0 : n = 0 := by omega
    rw [if_pos (show (L.length : Int) + n = 0 by omega), hL, hn0]
    have e : cL [s] g = if s = g then 1 else 0 := cL_rep 1 s g
    rw [e]
    by_cases c : g = s
    · rw [if_pos c.symm, if_pos c, if_pos c]; rfl
    · rw [if_neg (fun q => c q.symm), if_neg c, if_neg c]; rfl
  · rw [if_neg h]
    have q : L.length + n.toNat ≠ 0 := fun q => h (List.length_eq_zero_iff.mp (by rw [List.length_append, List.length_map, List.length_replicate]; exact q))
    rw [if_neg (show ¬ (L.length : Int) + n = 0 by omega), cL_app, cL_rep]
    by_cases c : g = s
    · rw [if_pos c.symm, if_pos c]; omega
    · rw [if_neg (fun q => c q.symm), if_neg c]; omega

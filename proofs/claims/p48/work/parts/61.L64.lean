set_option maxRecDepth 20000
section HL9
variable {col col' : Col} {D D' : DD} {g g2 v3 v4 v5 b x w : Int} {r r' s : Row} {M M' c s' B d : Int} {l l2 : List Int} {rl rl2 : List Row} {sv : Option Row} {z z' : ZZ} {ln : Nat}
/-- a round -/
theorem l_round (S : LSt col D z g v3 v4 r l rl sv M B d) (hv : 0 ≤ v5 ∧ v5 < 70) (hR : RM D) (hM : 200 ≤ M ∧ M + 200 < 500000) (hB : B + 60 ≤ 900000) (hd : d ≤ 9000) :
    ∃ g2 v42 z2 D2 col2 r2 l2 rl2 sv2, fL_law_s120 v3 g v4 v5 ln z D = some (.inl (g2, v42, v5 + 1, z2, D2)) ∧ LSt col2 D2 z2 g2 v3 v42 r2 l2 rl2 sv2 (M + 102) (B + 60) (d + 60) ∧ dT D2 ≤ dT D + 2950 ∧ dS D2 ≤ dS D + 84200 := by
  have R1 := hR.1
  have R2 := hR.2
  have up : ∀ {col2 D2 z2 g2 v42 r2 l2 rl2 sv2 M2}, LSt col2 D2 z2 g2 v3 v42 r2 l2 rl2 sv2 M2 B d → M2 ≤ M + 102 → LSt col2 D2 z2 g2 v3 v42 r2 l2 rl2 sv2 (M + 102) (B + 60) (d + 60) := fun q hm => by
    obtain ⟨s1, s2, s3, s4, s5, s6, s7⟩ := q
    have hg4 := s1.o
    exact ⟨s1.mono hm (by omega), s2.mono ⟨hg4.1, hg4.2.1⟩ hm (by omega), s3, s4.mono (by omega) (by omega) (by omega), fun q hq => (s5 q hq).mono (by omega) (by omega) (by omega), fun q hq => (s6 q hq).mono (by omega) (by omega) (by omega), by omega⟩
  have hp := pk_rng ln z (3 + v5 % 40)
  have hm := modr (x := v5) (n := 40) (by decide)
  unfold fL_law_s120
  rw [if_pos hv.2, if_pos ⟨hv.1, by decide⟩, if_pos (inR_s (by omega)), l_pick (by omega), Option.bind_some, if_pos (show inR (pk ln z (3 + v5 % 40) + 983 * v5) from ⟨by omega, by omega⟩)]
  generalize hX : pk ln z (3 + v5 % 40) + 983 * v5 = X at *
  have X0 : 0 ≤ X ∧ X < 1000100000 := by omega
  rw [if_pos ⟨X0.1, by decide⟩]
  by_cases c13 : X % 13 = 0
  · rw [if_pos c13, if_pos ⟨X0.1, by decide⟩, if_pos (show (0 : Int) ≤ X / 13 ∧ (0 : Int) < 4 from ⟨by omega, by decide⟩)]
    by_cases c2 : X / 13 % 4 < 2
    · rw [if_pos c2]
      obtain ⟨z1, D1, j, v, a1, a2, a3, a4, a5, a6, g2, z2, D2, col2, r2, l2, rl2, a7, a8, a9, a10, a11⟩ := l_undoR (ln := ln) (v5 := v5) S (by omega) hR (by omega)
      rw [a1, Option.bind_some]
      dsimp only
      rw [if_pos ⟨by omega, by omega⟩, zl_eq, a3, Option.bind_some, if_pos a4]
      refine ⟨g2, v4, z2, D2, col2, r2, l2, rl2, sv, ?_, up a9 (by omega), by omega, by omega⟩
      by_cases cl : l = []
      · rw [if_pos cl, if_neg (by decide)]
        rw [if_pos cl] at a6
        rw [a6] at a7 ⊢
        exact a7
      · rw [if_neg cl, if_pos rfl, a5, Option.bind_some]
        rw [if_neg cl] at a6
        have hl8 := S.2.1.1.1.2.2.2.1
        rw [if_pos (inR_s (by omega)), ← a6]
        exact a7
    · rw [if_neg c2, if_pos ⟨X0.1, by decide⟩, if_pos (show (0 : Int) ≤ X / 13 ∧ (0 : Int) < 4 from ⟨by omega, by decide⟩)]
      by_cases c3 : X / 13 % 4 = 2
      · rw [if_pos c3]
        obtain ⟨z1, D1, a1, a2, a3, a4, z2, D2, col2, a5, a6, a7, a8⟩ := l_saveR (ln := ln) (v5 := v5) S (by omega) hR hM.1
        rw [a1, Option.bind_some]
        dsimp only
        rw [if_pos a2, a3, if_pos rfl, if_pos ⟨by omega, by omega⟩, zl_eq, a4, Option.bind_some]
        exact ⟨g, dT D, z2, D2, col2, r, l, rl, some r, a5, up a6 (by omega), by omega, by omega⟩
      · rw [if_neg c3]
        obtain ⟨z1, j, v, a1, a2, a3, a4, g2, z2, D2, col2, r2, l2, rl2, a5, a6, a7, a8⟩ := l_restR (ln := ln) (v5 := v5) S (by omega) hR (by omega)
        rw [a1, Option.bind_some]
        dsimp only
        rw [if_pos ⟨by omega, by omega⟩, zl_eq]
        refine ⟨g2, v4, z2, D2, col2, r2, l2, rl2, sv, ?_, up a6 (by omega), by omega, by omega⟩
        by_cases c4 : v4 = 0
        · rw [if_pos c4, ← a3 c4]
          exact a5
        · rw [if_neg c4, if_pos (a4 c4).1, (a4 c4).2]
          exact a5
  · rw [if_neg c13]
    obtain ⟨D1, a1, due, D2, a2, a3, a4, z2, j, a5, a6, g2, z3, D3, col3, r2, l2, rl2, a7, a8, a9, a10⟩ := l_chgR (ln := ln) (v5 := v5) (x := X / 299) (w := X / 13 % 23) S (by omega) hR hM hB hd (by omega) (by omega)
    rw [if_pos ⟨by omega, by omega⟩, zl_eq, a1, Option.bind_some, if_pos ⟨X0.1, by decide⟩, if_pos (show (0 : Int) ≤ X / 13 ∧ (0 : Int) < 23 from ⟨by omega, by decide⟩), if_pos (show (0 : Int) ≤ X ∧ (0 : Int) < 299 from ⟨X0.1, by decide⟩), a2, Option.bind_some]
    dsimp only
    rw [if_pos (show (0 : Int) ≤ X ∧ (0 : Int) < 299 from ⟨X0.1, by decide⟩), a5, Option.bind_some]
    dsimp only
    rw [if_pos ⟨by omega, by omega⟩, zl_eq, if_pos rfl]
    exact ⟨g2, v4, z3, D3, col3, r2, l2, rl2, sv, a7, a8, a9, a10⟩
/-- seventy rounds -/
theorem l_loop (S : LSt col D z g v3 v4 r l rl sv 200 20000 0) (hT : dT D + 230000 < 600000) (hS : dS D + 6100000 ≤ 7200000) :
    ∃ g2 z2 D2, zlp (fun q => fL_law_s120 v3 q.1 q.2.1 q.2.2.1 ln q.2.2.2.1 q.2.2.2.2) FU (g, v4, 0, z, D) = some (g2, z2, D2) ∧ (∃ col2 r2 h2 M2, RLh col2 D2 g2 r2 M2 h2 ∧ IH 30000 r2 ∧ RC z2 r2 ∧ 0 ≤ z2 16 1) ∧ dT D2 ≤ dT D + 206500 ∧ dS D2 ≤ dS D + 5894000 := by
  obtain ⟨res, e, q⟩ := lp_FU (f := fun q => fL_law_s120 v3 q.1 q.2.1 q.2.2.1 ln q.2.2.2.1 q.2.2.2.2)
    (fun i q => q.2.2.1 = (i : Int) ∧ (∃ col r l rl sv, LSt col q.2.2.2.2 q.2.2.2.1 q.1 v3 q.2.1 r l rl sv (200 + 102 * i) (20000 + 60 * i) (60 * i)) ∧ dT q.2.2.2.2 ≤ dT D + 2950 * i ∧ dS q.2.2.2.2 ≤ dS D + 84200 * i)
    (fun q => (∃ col2 r2 h2 M2, RLh col2 q.2.2 q.1 r2 M2 h2 ∧ IH 30000 r2 ∧ RC q.2.1 r2 ∧ 0 ≤ q.2.1 16 1) ∧ dT q.2.2 ≤ dT D + 206500 ∧ dS q.2.2 ≤ dS D + 5894000) 70 (by decide)
    (fun i q hi hq => by
      obtain ⟨v2, v4, v5, z, D1⟩ := q
      obtain ⟨hv, ⟨col, r, l, rl, sv, S1⟩, ht, hs⟩ := hq
      have hv : v5 = i := hv
      have S1 : LSt col D1 z v2 v3 v4 r l rl sv (200 + 102 * i) (20000 + 60 * i) (60 * i) := S1
      have ht : dT D1 ≤ dT D + 2950 * i := ht
      have hs : dS D1 ≤ dS D + 84200 * i := hs
      obtain ⟨g2, v42, z2, D2, col2, r2, l2, rl2, sv2, w1, w2, w3, w4⟩ := l_round (ln := ln) (v5 := v5) S1 (by omega) ⟨by omega, by omega⟩ (by omega) (by omega) (by omega)
      refine Or.inl ⟨(g2, v42, v5 + 1, z2, D2), w1, by show v5 + 1 = ((i + 1 : Nat) : Int); omega, ⟨col2, r2, l2, rl2, sv2, ?_⟩, by show dT D2 ≤ dT D + 2950 * ((i + 1 : Nat) : Int); omega, by show dS D2 ≤ dS D + 84200 * ((i + 1 : Nat) : Int); omega⟩
      show LSt col2 D2 z2 g2 v3 v42 r2 l2 rl2 sv2 (200 + 102 * ((i + 1 : Nat) : Int)) (20000 + 60 * ((i + 1 : Nat) : Int)) (60 * ((i + 1 : Nat) : Int))
      rw [show (200 : Int) + 102 * ((i + 1 : Nat) : Int) = 200 + 102 * i + 102 by omega, show (20000 : Int) + 60 * ((i + 1 : Nat) : Int) = 20000 + 60 * i + 60 by omega, show (60 : Int) * ((i + 1 : Nat) : Int) = 60 * i + 60 by omega]
      exact w2)
    (fun q hq => by
      obtain ⟨v2, v4, v5, z, D1⟩ := q
      obtain ⟨hv, ⟨col, r, l, rl, sv, S1⟩, ht, hs⟩ := hq
      have hv : v5 = ((70 : Nat) : Int) := hv
      have S1 : LSt col D1 z v2 v3 v4 r l rl sv (200 + 102 * ((70 : Nat) : Int)) (20000 + 60 * ((70 : Nat) : Int)) (60 * ((70 : Nat) : Int)) := S1
      have ht : dT D1 ≤ dT D + 2950 * ((70 : Nat) : Int) := ht
      have hs : dS D1 ≤ dS D + 84200 * ((70 : Nat) : Int) := hs
      obtain ⟨⟨h, H⟩, O, C, K, -⟩ := S1
      refine ⟨(v2, z, D1), ?_, ⟨col, r, h, _, H, IH_mono K.1 (by omega) (by omega), C.1, C.2.2.2.2.2.2.2⟩, by show dT D1 ≤ _; omega, by show dS D1 ≤ _; omega⟩
      show fL_law_s120 v3 v2 v4 v5 ln z D1 = _
      unfold fL_law_s120
      rw [if_neg (by omega)]) (g, v4, 0, z, D) ⟨rfl, ⟨col, r, l, rl, sv, (by
      show LSt col D z g v3 v4 r l rl sv (200 + 102 * ((0 : Nat) : Int)) (20000 + 60 * ((0 : Nat) : Int)) (60 * ((0 : Nat) : Int))
      rw [show (200 : Int) + 102 * ((0 : Nat) : Int) = 200 by omega, show (20000 : Int) + 60 * ((0 : Nat) : Int) = 20000 by omega, show (60 : Int) * ((0 : Nat) : Int) = 0 by omega]
      exact S)⟩, by show dT D ≤ dT D + 2950 * ((0 : Nat) : Int); omega, by show dS D ≤ dS D + 84200 * ((0 : Nat) : Int); omega⟩
  exact ⟨res.1, res.2.1, res.2.2, e, q⟩
end HL9

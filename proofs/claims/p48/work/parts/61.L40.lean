set_option maxRecDepth 20000
/-! a hall copied -/
section CPY
theorem RLp.mono {col : Col} {D : DD} {g n : Int} {r : Row} {M M' : Int} {h : HLs} (H : RLp col D g r M h n) (hm : M ≤ M') (h9 : M' < 1000000) : RLp col D g r M' h n := by
  obtain ⟨i1, i2, f0, f1, f2, f3, l4, l5, l6, l7, l8, l9, n4, n5, n6, n7, n8, n9, d4, d5, d6, d7, e4, e5, e6, e7, e8, e9⟩ := H
  exact ⟨i1, i2, f0, f1, f2, f3, l4.mono hm h9, l5.mono hm h9, l6.mono hm h9, l7.mono hm h9, l8.mono hm h9, l9.mono hm h9, n4, n5, n6, n7, n8, n9, d4, d5, d6, d7, e4, fun k hk => (e5 k hk).mono hm, e6, e7, e8, e9⟩
theorem It.ev {P : Int → Prop} {c s : Int} {D D' : DD} {t e : Int} {i : Nat} (h : It D t e i) (E : Ev P c s D D') (ht : ¬ P t) (he : ¬ P e) (hl : e < dT D) : It D' t e i := by
  obtain ⟨h1, h2, h3, h4⟩ := h
  have x := fun j => E.at h1.2.1 ht j
  exact ⟨E.dO h1, by rw [x]; exact h2, by rw [x]; exact h3, by rw [x, E.at hl he]; exact h4⟩
/-- the source stays, the copy grows; an iterator on the source's list -/
def Cp (col0 : Col) (D0 : DD) (g o : Int) (r : Row) (M : Int) (h : HLs) (a b c d e f M1 cc ss : Int) (D : DD) (X : Col → Prop) : Prop := ∃ col' h1, RLp col' D g (rC r a b c d e f) M1 h1 (r 546) ∧ RLh col' D o r M h ∧ (∀ y, y < dT D0 → col' y = if (col0 y).1 = g then (-1, -1) else col0 y) ∧ Ev (fun x => (col0 x).1 = o) cc ss D0 D ∧ X col'
variable {col0 : Col} {D0 D : DD} {g o : Int} {r : Row} {M M1 B cc ss a b c d e f : Int} {h : HLs}
theorem Cp.mono {X : Col → Prop} {cc' ss' : Int} (H : Cp col0 D0 g o r M h a b c d e f M1 cc ss D X) (h1 : cc ≤ cc') (h2 : ss ≤ ss') : Cp col0 D0 g o r M h a b c d e f M1 cc' ss' D (fun _ => True) := by
  obtain ⟨col', hh, a1, a2, a3, a5, a6⟩ := H
  exact ⟨col', hh, a1, a2, a3, a5.mono h1 h2 (fun _ _ z => z), trivial⟩
/-- an iterator is made -/
theorem Cp.it {j : Int} {l : List Int} (H : Cp col0 D0 g o r M h a b c d e f M1 cc ss D (fun _ => True)) (hl : ∀ col', RLh col' D o r M h → HL col' D o j l M) (hT : dT D0 + cc + 2 < 600000) (hS : dS D0 + ss + 10 ≤ 7200000) : ∃ D', fJx4a65c_iterator_32c93 (dW D o j) D = some (dT D, D') ∧ dO D (dW D o j) 9 ∧ Cp col0 D0 g o r M h a b c d e f M1 (cc + 1) (ss + 4) D' (fun col' => col' (dT D) = (-1, -1) ∧ It D' (dT D) (dW D o j) 0 ∧ dW D' o j = dW D o j) := by
  obtain ⟨col', hh, a1, a2, a3, a5, -⟩ := H
  have b1 := a5.1
  have b2 := a5.2.1
  have b3 := a5.2.2.2.1
  obtain ⟨D', w1, w2, w3⟩ := s_iter (hl col' a2).1 (by omega) (by omega)
  generalize hc : (fun y => if y = dT D then (-1, -1) else col' y : Col) = col2
  have c0 : ∀ y, y ≠ dT D → col2 y = col' y := fun y hy => by rw [← hc]; exact if_neg hy
  refine ⟨D', w1, (hl col' a2).1.1, col2, hh, a1.keep w3 (fun _ _ _ z => z) (fun y hy _ => c0 y (by omega)), a2.keep w3 (fun _ _ _ z => z) (fun y hy => c0 y (by omega)), fun y hy => by rw [c0 y (by omega)]; exact a3 y hy, (a5.trans w3 (fun _ _ z => z.elim)), ?_, w2, w3.at a2.o.2.1 (fun z => z) j⟩
  rw [← hc]; exact if_pos rfl
theorem cp_4 {it lst : Int} (H : Cp col0 D0 g o r M h 0 b c d e f M1 cc ss D (fun col' => col' it = (-1, -1) ∧ It D it lst 0 ∧ dW D o 4 = lst)) (hI : IH B r) (hbd : (0 ≤ b ∧ b ≤ 24) ∧ (0 ≤ c ∧ c ≤ 15) ∧ (0 ≤ d ∧ d ≤ 12) ∧ (0 ≤ e ∧ e ≤ 8) ∧ (0 ≤ f ∧ f ≤ 30)) (hit : dT D0 ≤ it) (hgo : g ≠ o) (hg : 151 ≤ g) (ho : 151 ≤ o) (hM : 12 ≤ M1 ∧ M1 < 800000) (hT : dT D0 + cc + 76 < 600000) (hS : dS D0 + ss + 816 ≤ 7200000) :
    ∃ D', zlp (fun q => fX6_init__s127 g o it q) FU D = some D' ∧ Cp col0 D0 g o r M h (r 4) b c d e f (M1 + r 4) (cc + 2 * r 4) (ss + 52 * r 4) D' (fun _ => True) := by
  have hn := hI.1
  unfold IHn at hn
  have h546 : 0 ≤ r 546 ∧ r 546 ≤ 12 := by omega
  have ecnt : (((r 4).toNat : Nat) : Int) = r 4 := Int.toNat_of_nonneg (by omega)
  have loop := lp_FU (f := fun q => fX6_init__s127 g o it q)
    (fun i q => Cp col0 D0 g o r M h (i : Int) b c d e f (M1 + i) (cc + 2 * i) (ss + 52 * i) q (fun col' => col' it = (-1, -1) ∧ It q it lst i ∧ dW q o 4 = lst))
    (fun q => Cp col0 D0 g o r M h (r 4) b c d e f (M1 + r 4) (cc + 2 * r 4) (ss + 52 * r 4) q (fun _ => True)) (r 4).toNat (by omega)
    (fun i q hi hq => by
      obtain ⟨col', hh, a1, a2, a34, a5, x1, x2, x3⟩ := hq
      have a3 : ∀ y, y < dT D0 → (col0 y).1 ≠ g → col' y = col0 y := fun y hy hq => (a34 y hy).trans (if_neg hq)
      have a4 : ∀ y, y < dT D0 → (col' y).1 ≠ g := fun y hy => by
        rw [a34 y hy]
        by_cases q : (col0 y).1 = g
        · rw [if_pos q]
          show (-1 : Int) ≠ g
          omega
        · rw [if_neg q]; exact q
      have hN := a2.nw
      have hil : i < h.lw.length := by omega
      have b1 := a5.1
      have b2 := a5.2.1
      have b3 := a5.2.2.2.1
      have A2 : AL q lst h.lw M := by have := a2.w.1; rw [x3] at this; exact this
      have lcol : col' lst = (o, 4) := by have := a2.w.2.1; rw [x3] at this; exact this
      obtain ⟨D2, w1, w2, w3, w4⟩ := s_next A2 x2 hil
      have c1 := w4.1
      have c2 := w4.2.1
      have c3 := w4.2.2.2.1
      have itl := x2.1.2.1
      have lstl := A2.1.2.1
      have nit : ∀ y, ((col' y).1 = g ∨ (col' y).1 = o ∨ col' y = (0, 0)) → y ≠ it := fun y hy z => by
        rw [z, x1] at hy
        rcases hy with p | p | p
        · have p : (-1 : Int) = g := p
          omega
        · have p : (-1 : Int) = o := p
          omega
        · have : (-1 : Int) = 0 := congrArg Prod.fst p
          omega
      have a1' : RLp col' D2 g _ _ hh (r 546) := a1.keep w4 (fun y hy hq z => nit y (hq.imp id Or.inr) z) (fun _ _ _ => rfl)
      have a2' : RLh col' D2 o r M h := a2.keep w4 (fun y hy hq z => nit y (Or.inr hq) z) (fun _ _ => rfl)
      have o3 : dW D2 o 4 = lst := by rw [w4.at a2.o.2.1 (fun z => nit o (Or.inr (Or.inl (by rw [a2.co]))) z)]; exact x3
      have a5' : Ev (fun x => (col0 x).1 = o) (cc + 2 * i + 0) (ss + 52 * i + 0) D0 D2 := a5.trans w4 (fun y hy z => by have z : y = it := z; omega)
      have x1' : (col' it).1 ≠ g := fun p => nit it (Or.inl p) rfl
      have lstn : ∀ k', (col' lst) = (o, k') → k' = 4 := fun k' p => by rw [lcol] at p; exact (congrArg Prod.snd p).symm
      have gl := a1'.o.2.1
      have ol := a2'.o.2.1
      have p := a2'.ew i hil
      have hsz : (dH D2 (h.lw.getD i 0)).2 = 4 := p.1.2
      have Ec : Ev (fun y => y = dT D2) 1 4 D2 (dcln D2 (h.lw.getD i 0) 4) := Ev.dcln D2
      have hb8 : dO (dcln D2 (h.lw.getD i 0) 4) (dT D2) 20 ∧ (dH (dcln D2 (h.lw.getD i 0) 4) (dT D2)).2 = 4 := by
        have e8 : dH (dcln D2 (h.lw.getD i 0) 4) (dT D2) = (20, 4) := if_pos rfl
        exact ⟨⟨by omega, by show dT D2 < dT D2 + 1; omega, by rw [e8]⟩, by rw [e8]⟩
      obtain ⟨D9, col9, f1, f2, f3, f4, f5⟩ := l_grow4 a1' (CBn_rC.mpr (by omega)) (by omega) (by omega) (by omega) (by omega) (by omega) Ec hb8 (fun k' hk' => by
        have e8 : dW (dcln D2 (h.lw.getD i 0) 4) (dT D2) k' = dW D2 (h.lw.getD i 0) k' := if_pos rfl
        rw [e8]
        exact p.2.2 k' hk')
      have ei : (i : Int) + 1 = ((i + 1 : Nat) : Int) := by omega
      have eM : M1 + (i : Int) + 1 = M1 + ((i + 1 : Nat) : Int) := by omega
      rw [eM, ei] at f3
      left
      show ∃ s', fX6_init__s127 g o it q = some (.inl s') ∧ _
      unfold fX6_init__s127
      rw [s_has A2 x2, if_neg (by omega)]
      simp only [Option.bind_some]
      rw [if_pos x2.1, if_neg (by decide), w1]
      simp only [Option.bind_some]
      rw [if_pos p.1.1, if_pos a1'.o, hsz, if_pos ⟨by omega, by omega⟩, zl_eq, f1]
      simp only [Option.bind_some]
      rw [if_pos f2]
      exact ⟨D9, rfl, col9, _, f3, a2'.keep f5 (fun y hy hq z => by
        have z : (col' y).1 = g := z
        rcases hq with q' | q'
        · exact hgo (z.symm.trans q')
        · rw [q'] at z
          have z : (0 : Int) = g := z
          omega) (fun y hy => f4 y hy), fun y hy => (f4 y (by omega)).trans (a34 y hy), (a5'.trans f5 (fun y hy z => absurd z (a4 y hy))).mono (by omega) (by omega) (fun _ _ z => z), by rw [f4 it (by omega)]; exact x1, w2.ev f5 x1' (fun z => by
          have z : (col' lst).1 = g := z
          rw [lcol] at z
          exact hgo z.symm) (by omega), by
          rw [f5.at ol (fun z => by
            have z : (col' o).1 = g := z
            rw [a2.co] at z
            exact hgo z.symm)]
          exact o3⟩)
    (fun q hq => by
      obtain ⟨col', hh, a1, a2, a3, a5, x1, x2, x3⟩ := hq
      have hN := a2.nw
      have A2 : AL q lst h.lw M := by have := a2.w.1; rw [x3] at this; exact this
      show ∃ s', fX6_init__s127 g o it q = some (.inr s') ∧ _
      unfold fX6_init__s127
      rw [s_has A2 x2, if_pos (by omega)]
      simp only [Option.bind_some]
      rw [if_pos x2.1, if_pos trivial]
      refine ⟨q, rfl, col', hh, ?_, a2, a3, ?_, trivial⟩
      · rw [ecnt] at a1; exact a1
      · rw [ecnt] at a5; exact a5)
    D (by
      obtain ⟨col', hh, a1, a2, a3, a5, x⟩ := H
      exact ⟨col', hh, by simpa using a1, a2, a3, a5.mono (by omega) (by omega) (fun _ _ z => z), x⟩)
  exact loop
theorem cp_5 {it lst : Int} (H : Cp col0 D0 g o r M h a 0 c d e f M1 cc ss D (fun col' => col' it = (-1, -1) ∧ It D it lst 0 ∧ dW D o 5 = lst)) (hI : IH B r) (hbd : (0 ≤ a ∧ a ≤ 8) ∧ (0 ≤ c ∧ c ≤ 15) ∧ (0 ≤ d ∧ d ≤ 12) ∧ (0 ≤ e ∧ e ≤ 8) ∧ (0 ≤ f ∧ f ≤ 30)) (hit : dT D0 ≤ it) (hgo : g ≠ o) (hg : 151 ≤ g) (ho : 151 ≤ o) (hM : 12 ≤ M1 ∧ M1 < 800000) (hT : dT D0 + cc + 468 < 600000) (hS : dS D0 + ss + 3952 ≤ 7200000) :
    ∃ D', zlp (fun q => fX6_init__s172 g o it q) FU D = some D' ∧ Cp col0 D0 g o r M h a (r 37) c d e f (M1 + r 37) (cc + 17 * r 37) (ss + 148 * r 37) D' (fun _ => True) := by
  have hn := hI.1
  unfold IHn at hn
  have h546 : 0 ≤ r 546 ∧ r 546 ≤ 12 := by omega
  have ecnt : (((r 37).toNat : Nat) : Int) = r 37 := Int.toNat_of_nonneg (by omega)
  have loop := lp_FU (f := fun q => fX6_init__s172 g o it q)
    (fun i q => Cp col0 D0 g o r M h a (i : Int) c d e f (M1 + i) (cc + 17 * i) (ss + 148 * i) q (fun col' => col' it = (-1, -1) ∧ It q it lst i ∧ dW q o 5 = lst))
    (fun q => Cp col0 D0 g o r M h a (r 37) c d e f (M1 + r 37) (cc + 17 * r 37) (ss + 148 * r 37) q (fun _ => True)) (r 37).toNat (by omega)
    (fun i q hi hq => by
      obtain ⟨col', hh, a1, a2, a34, a5, x1, x2, x3⟩ := hq
      have a3 : ∀ y, y < dT D0 → (col0 y).1 ≠ g → col' y = col0 y := fun y hy hq => (a34 y hy).trans (if_neg hq)
      have a4 : ∀ y, y < dT D0 → (col' y).1 ≠ g := fun y hy => by
        rw [a34 y hy]
        by_cases q : (col0 y).1 = g
        · rw [if_pos q]
          show (-1 : Int) ≠ g
          omega
        · rw [if_neg q]; exact q
      have hN := a2.nr
      have hil : i < h.lr.length := by omega
      have b1 := a5.1
      have b2 := a5.2.1
      have b3 := a5.2.2.2.1
      have A2 : AL q lst h.lr M := by have := a2.rt.1; rw [x3] at this; exact this
      have lcol : col' lst = (o, 5) := by have := a2.rt.2.1; rw [x3] at this; exact this
      obtain ⟨D2, w1, w2, w3, w4⟩ := s_next A2 x2 hil
      have c1 := w4.1
      have c2 := w4.2.1
      have c3 := w4.2.2.2.1
      have itl := x2.1.2.1
      have lstl := A2.1.2.1
      have nit : ∀ y, ((col' y).1 = g ∨ (col' y).1 = o ∨ col' y = (0, 0)) → y ≠ it := fun y hy z => by
        rw [z, x1] at hy
        rcases hy with p | p | p
        · have p : (-1 : Int) = g := p
          omega
        · have p : (-1 : Int) = o := p
          omega
        · have : (-1 : Int) = 0 := congrArg Prod.fst p
          omega
      have a1' : RLp col' D2 g _ _ hh (r 546) := a1.keep w4 (fun y hy hq z => nit y (hq.imp id Or.inr) z) (fun _ _ _ => rfl)
      have a2' : RLh col' D2 o r M h := a2.keep w4 (fun y hy hq z => nit y (Or.inr hq) z) (fun _ _ => rfl)
      have o3 : dW D2 o 5 = lst := by rw [w4.at a2.o.2.1 (fun z => nit o (Or.inr (Or.inl (by rw [a2.co]))) z)]; exact x3
      have a5' : Ev (fun x => (col0 x).1 = o) (cc + 17 * i + 0) (ss + 148 * i + 0) D0 D2 := a5.trans w4 (fun y hy z => by have z : y = it := z; omega)
      have x1' : (col' it).1 ≠ g := fun p => nit it (Or.inl p) rfl
      have lstn : ∀ k', (col' lst) = (o, k') → k' = 5 := fun k' p => by rw [lcol] at p; exact (congrArg Prod.snd p).symm
      have gl := a1'.o.2.1
      have ol := a2'.o.2.1
      have p := a2'.er i hil
      obtain ⟨D7, col7, r1, r2, r3, r4, r5⟩ := l_rcopy (g := g) a2' hI hil (by omega) (by omega)
      have s1 := r5.1
      have s2 := r5.2.1
      have s3 := r5.2.2.2.1
      have noe : ∀ y, (col' y).1 = g ∨ col' y = (0, 0) → ¬ col' y = (o, h.lr.getD i 0) := fun y hy z => by
        rw [z] at hy
        rcases hy with q' | q'
        · exact hgo q'.symm
        · have : o = 0 := congrArg Prod.fst q'
          omega
      have a1'' : RLp col7 D7 g _ _ hh (r 546) := a1'.keep r5 (fun y hy hq z => noe y hq z) (fun y hy _ => r4 y hy)
      have g5 : dW D7 g 5 = dW D2 g 5 := r5.at gl (noe g (Or.inl (by rw [a1'.co]))) 5
      obtain ⟨D9, col9, f1, f3, f4, f5⟩ := l_add5 a1'' (CBn_rC.mpr (by omega)) (by omega) (by omega) (by omega) (by omega) (by omega) (r3.mono (by omega)) (fun z => by have := a1'.m5 _ z; omega)
      rw [g5] at f1
      have ngo : ∀ y, (col7 y).1 = o ∨ col7 y = (0, 0) → ¬ (col7 y).1 = g := fun y hq z => by
        rcases hq with q' | q'
        · exact hgo (z.symm.trans q')
        · rw [q'] at z
          have z : (0 : Int) = g := z
          omega
      have e151 := p.1.1
      have ei : (i : Int) + 1 = ((i + 1 : Nat) : Int) := by omega
      have eM : M1 + (i : Int) + 1 = M1 + ((i + 1 : Nat) : Int) := by omega
      rw [eM, ei] at f3
      left
      show ∃ s', fX6_init__s172 g o it q = some (.inl s') ∧ _
      unfold fX6_init__s172
      rw [s_has A2 x2, if_neg (by omega)]
      simp only [Option.bind_some]
      rw [if_pos x2.1, if_neg (by decide), w1]
      simp only [Option.bind_some]
      rw [if_pos p.1, if_pos a1'.o, r1]
      simp only [Option.bind_some]
      rw [f1]
      simp only [Option.bind_some]
      rw [if_pos (r5.dO a1'.e5.1.1.1)]
      have x7 : col7 it = (-1, -1) := by rw [r4 it (by omega)]; exact x1
      refine ⟨D9, rfl, col9, _, f3, r2.keep f5 (fun y hy hq z => ngo y hq z) (fun y hy => f4 y hy), fun y hy => (f4 y (by omega)).trans ((r4 y (by omega)).trans (a34 y hy)), ?_, by rw [f4 it (by omega)]; exact x7, ?_, ?_⟩
      · have E1 : Ev (fun x => (col0 x).1 = o) (cc + 17 * i + 0 + 16) (ss + 148 * i + 0 + 100) D0 D7 := a5'.trans r5 (fun y hy z => by
          have z : col' y = (o, h.lr.getD i 0) := z
          by_cases hx : (col0 y).1 = g
          · have q := a34 y hy
            rw [if_pos hx, z] at q
            have : o = -1 := congrArg Prod.fst q
            omega
          · rw [← a3 y hy hx, z])
        exact (E1.trans f5 (fun y hy z => by rw [r4 y (by omega)] at z; exact absurd z (a4 y hy))).mono (by omega) (by omega) (fun _ _ z => z)
      · refine (w2.ev r5 (fun z => ?_) (fun z => ?_) (by omega)).ev f5 (fun z => ?_) (fun z => ?_) (by omega)
        · have z : col' it = (o, h.lr.getD i 0) := z
          rw [x1] at z
          have : (-1 : Int) = o := congrArg Prod.fst z
          omega
        · have := lstn _ z
          omega
        · have z : (col7 it).1 = g := z
          rw [x7] at z
          have z : (-1 : Int) = g := z
          omega
        · have z : (col7 lst).1 = g := z
          rw [r4 lst (by omega), lcol] at z
          exact hgo z.symm
      · rw [f5.at (by omega) (fun z => by
            have z : (col7 o).1 = g := z
            rw [r4 o ol, a2.co] at z
            exact hgo z.symm), r5.at ol (fun z => by
            have z : col' o = (o, h.lr.getD i 0) := z
            rw [a2.co] at z
            have : (0 : Int) = h.lr.getD i 0 := congrArg Prod.snd z
            omega)]
        exact o3)
    (fun q hq => by
      obtain ⟨col', hh, a1, a2, a3, a5, x1, x2, x3⟩ := hq
      have hN := a2.nr
      have A2 : AL q lst h.lr M := by have := a2.rt.1; rw [x3] at this; exact this
      show ∃ s', fX6_init__s172 g o it q = some (.inr s') ∧ _
      unfold fX6_init__s172
      rw [s_has A2 x2, if_pos (by omega)]
      simp only [Option.bind_some]
      rw [if_pos x2.1, if_pos trivial]
      refine ⟨q, rfl, col', hh, ?_, a2, a3, ?_, trivial⟩
      · rw [ecnt] at a1; exact a1
      · rw [ecnt] at a5; exact a5)
    D (by
      obtain ⟨col', hh, a1, a2, a3, a5, x⟩ := H
      exact ⟨col', hh, by simpa using a1, a2, a3, a5.mono (by omega) (by omega) (fun _ _ z => z), x⟩)
  exact loop
theorem cp_6 {it lst : Int} (H : Cp col0 D0 g o r M h a b 0 d e f M1 cc ss D (fun col' => col' it = (-1, -1) ∧ It D it lst 0 ∧ dW D o 6 = lst)) (hI : IH B r) (hbd : (0 ≤ a ∧ a ≤ 8) ∧ (0 ≤ b ∧ b ≤ 24) ∧ (0 ≤ d ∧ d ≤ 12) ∧ (0 ≤ e ∧ e ≤ 8) ∧ (0 ≤ f ∧ f ≤ 30)) (hit : dT D0 ≤ it) (hgo : g ≠ o) (hg : 151 ≤ g) (ho : 151 ≤ o) (hM : 12 ≤ M1 ∧ M1 < 800000) (hT : dT D0 + cc + 90 < 600000) (hS : dS D0 + ss + 1180 ≤ 7200000) :
    ∃ D', zlp (fun q => fX6_init__s214 g o it q) FU D = some D' ∧ Cp col0 D0 g o r M h a b (r 470) d e f (M1 + r 470) (cc + 2 * r 470) (ss + 52 * r 470) D' (fun _ => True) := by
  have hn := hI.1
  unfold IHn at hn
  have h546 : 0 ≤ r 546 ∧ r 546 ≤ 12 := by omega
  have ecnt : (((r 470).toNat : Nat) : Int) = r 470 := Int.toNat_of_nonneg (by omega)
  have loop := lp_FU (f := fun q => fX6_init__s214 g o it q)
    (fun i q => Cp col0 D0 g o r M h a b (i : Int) d e f (M1 + i) (cc + 2 * i) (ss + 52 * i) q (fun col' => col' it = (-1, -1) ∧ It q it lst i ∧ dW q o 6 = lst))
    (fun q => Cp col0 D0 g o r M h a b (r 470) d e f (M1 + r 470) (cc + 2 * r 470) (ss + 52 * r 470) q (fun _ => True)) (r 470).toNat (by omega)
    (fun i q hi hq => by
      obtain ⟨col', hh, a1, a2, a34, a5, x1, x2, x3⟩ := hq
      have a3 : ∀ y, y < dT D0 → (col0 y).1 ≠ g → col' y = col0 y := fun y hy hq => (a34 y hy).trans (if_neg hq)
      have a4 : ∀ y, y < dT D0 → (col' y).1 ≠ g := fun y hy => by
        rw [a34 y hy]
        by_cases q : (col0 y).1 = g
        · rw [if_pos q]
          show (-1 : Int) ≠ g
          omega
        · rw [if_neg q]; exact q
      have hN := a2.nh
      have hil : i < h.lh.length := by omega
      have b1 := a5.1
      have b2 := a5.2.1
      have b3 := a5.2.2.2.1
      have A2 : AL q lst h.lh M := by have := a2.hs.1; rw [x3] at this; exact this
      have lcol : col' lst = (o, 6) := by have := a2.hs.2.1; rw [x3] at this; exact this
      obtain ⟨D2, w1, w2, w3, w4⟩ := s_next A2 x2 hil
      have c1 := w4.1
      have c2 := w4.2.1
      have c3 := w4.2.2.2.1
      have itl := x2.1.2.1
      have lstl := A2.1.2.1
      have nit : ∀ y, ((col' y).1 = g ∨ (col' y).1 = o ∨ col' y = (0, 0)) → y ≠ it := fun y hy z => by
        rw [z, x1] at hy
        rcases hy with p | p | p
        · have p : (-1 : Int) = g := p
          omega
        · have p : (-1 : Int) = o := p
          omega
        · have : (-1 : Int) = 0 := congrArg Prod.fst p
          omega
      have a1' : RLp col' D2 g _ _ hh (r 546) := a1.keep w4 (fun y hy hq z => nit y (hq.imp id Or.inr) z) (fun _ _ _ => rfl)
      have a2' : RLh col' D2 o r M h := a2.keep w4 (fun y hy hq z => nit y (Or.inr hq) z) (fun _ _ => rfl)
      have o3 : dW D2 o 6 = lst := by rw [w4.at a2.o.2.1 (fun z => nit o (Or.inr (Or.inl (by rw [a2.co]))) z)]; exact x3
      have a5' : Ev (fun x => (col0 x).1 = o) (cc + 2 * i + 0) (ss + 52 * i + 0) D0 D2 := a5.trans w4 (fun y hy z => by have z : y = it := z; omega)
      have x1' : (col' it).1 ≠ g := fun p => nit it (Or.inl p) rfl
      have lstn : ∀ k', (col' lst) = (o, k') → k' = 6 := fun k' p => by rw [lcol] at p; exact (congrArg Prod.snd p).symm
      have gl := a1'.o.2.1
      have ol := a2'.o.2.1
      have p := a2'.eh i hil
      have hsz : (dH D2 (h.lh.getD i 0)).2 = 4 := p.1.2
      have Ec : Ev (fun y => y = dT D2) 1 4 D2 (dcln D2 (h.lh.getD i 0) 4) := Ev.dcln D2
      have hb8 : dO (dcln D2 (h.lh.getD i 0) 4) (dT D2) 20 ∧ (dH (dcln D2 (h.lh.getD i 0) 4) (dT D2)).2 = 4 := by
        have e8 : dH (dcln D2 (h.lh.getD i 0) 4) (dT D2) = (20, 4) := if_pos rfl
        exact ⟨⟨by omega, by show dT D2 < dT D2 + 1; omega, by rw [e8]⟩, by rw [e8]⟩
      obtain ⟨D9, col9, f1, f2, f3, f4, f5⟩ := l_grow6 a1' (CBn_rC.mpr (by omega)) (by omega) (by omega) (by omega) (by omega) (by omega) Ec hb8 (fun k' hk' => by
        have e8 : dW (dcln D2 (h.lh.getD i 0) 4) (dT D2) k' = dW D2 (h.lh.getD i 0) k' := if_pos rfl
        rw [e8]
        exact p.2.2 k' hk')
      have ei : (i : Int) + 1 = ((i + 1 : Nat) : Int) := by omega
      have eM : M1 + (i : Int) + 1 = M1 + ((i + 1 : Nat) : Int) := by omega
      rw [eM, ei] at f3
      left
      show ∃ s', fX6_init__s214 g o it q = some (.inl s') ∧ _
      unfold fX6_init__s214
      rw [s_has A2 x2, if_neg (by omega)]
      simp only [Option.bind_some]
      rw [if_pos x2.1, if_neg (by decide), w1]
      simp only [Option.bind_some]
      rw [if_pos p.1.1, if_pos a1'.o, hsz, if_pos ⟨by omega, by omega⟩, zl_eq, f1]
      simp only [Option.bind_some]
      rw [if_pos f2]
      exact ⟨D9, rfl, col9, _, f3, a2'.keep f5 (fun y hy hq z => by
        have z : (col' y).1 = g := z
        rcases hq with q' | q'
        · exact hgo (z.symm.trans q')
        · rw [q'] at z
          have z : (0 : Int) = g := z
          omega) (fun y hy => f4 y hy), fun y hy => (f4 y (by omega)).trans (a34 y hy), (a5'.trans f5 (fun y hy z => absurd z (a4 y hy))).mono (by omega) (by omega) (fun _ _ z => z), by rw [f4 it (by omega)]; exact x1, w2.ev f5 x1' (fun z => by
          have z : (col' lst).1 = g := z
          rw [lcol] at z
          exact hgo z.symm) (by omega), by
          rw [f5.at ol (fun z => by
            have z : (col' o).1 = g := z
            rw [a2.co] at z
            exact hgo z.symm)]
          exact o3⟩)
    (fun q hq => by
      obtain ⟨col', hh, a1, a2, a3, a5, x1, x2, x3⟩ := hq
      have hN := a2.nh
      have A2 : AL q lst h.lh M := by have := a2.hs.1; rw [x3] at this; exact this
      show ∃ s', fX6_init__s214 g o it q = some (.inr s') ∧ _
      unfold fX6_init__s214
      rw [s_has A2 x2, if_pos (by omega)]
      simp only [Option.bind_some]
      rw [if_pos x2.1, if_pos trivial]
      refine ⟨q, rfl, col', hh, ?_, a2, a3, ?_, trivial⟩
      · rw [ecnt] at a1; exact a1
      · rw [ecnt] at a5; exact a5)
    D (by
      obtain ⟨col', hh, a1, a2, a3, a5, x⟩ := H
      exact ⟨col', hh, by simpa using a1, a2, a3, a5.mono (by omega) (by omega) (fun _ _ z => z), x⟩)
  exact loop
theorem cp_7 {it lst : Int} (H : Cp col0 D0 g o r M h a b c 0 e f M1 cc ss D (fun col' => col' it = (-1, -1) ∧ It D it lst 0 ∧ dW D o 7 = lst)) (hI : IH B r) (hbd : (0 ≤ a ∧ a ≤ 8) ∧ (0 ≤ b ∧ b ≤ 24) ∧ (0 ≤ c ∧ c ≤ 15) ∧ (0 ≤ e ∧ e ≤ 8) ∧ (0 ≤ f ∧ f ≤ 30)) (hit : dT D0 ≤ it) (hgo : g ≠ o) (hg : 151 ≤ g) (ho : 151 ≤ o) (hM : 12 ≤ M1 ∧ M1 < 800000) (hT : dT D0 + cc + 84 < 600000) (hS : dS D0 + ss + 1048 ≤ 7200000) :
    ∃ D', zlp (fun q => fX6_init__s259 g o it q) FU D = some D' ∧ Cp col0 D0 g o r M h a b c (r 546) e f (M1 + r 546) (cc + 2 * r 546) (ss + 54 * r 546) D' (fun _ => True) := by
  have hn := hI.1
  unfold IHn at hn
  have h546 : 0 ≤ r 546 ∧ r 546 ≤ 12 := by omega
  have ecnt : (((r 546).toNat : Nat) : Int) = r 546 := Int.toNat_of_nonneg (by omega)
  have loop := lp_FU (f := fun q => fX6_init__s259 g o it q)
    (fun i q => Cp col0 D0 g o r M h a b c (i : Int) e f (M1 + i) (cc + 2 * i) (ss + 54 * i) q (fun col' => col' it = (-1, -1) ∧ It q it lst i ∧ dW q o 7 = lst))
    (fun q => Cp col0 D0 g o r M h a b c (r 546) e f (M1 + r 546) (cc + 2 * r 546) (ss + 54 * r 546) q (fun _ => True)) (r 546).toNat (by omega)
    (fun i q hi hq => by
      obtain ⟨col', hh, a1, a2, a34, a5, x1, x2, x3⟩ := hq
      have a3 : ∀ y, y < dT D0 → (col0 y).1 ≠ g → col' y = col0 y := fun y hy hq => (a34 y hy).trans (if_neg hq)
      have a4 : ∀ y, y < dT D0 → (col' y).1 ≠ g := fun y hy => by
        rw [a34 y hy]
        by_cases q : (col0 y).1 = g
        · rw [if_pos q]
          show (-1 : Int) ≠ g
          omega
        · rw [if_neg q]; exact q
      have hN := a2.nm
      have hil : i < h.lm.length := by omega
      have b1 := a5.1
      have b2 := a5.2.1
      have b3 := a5.2.2.2.1
      have A2 : AL q lst h.lm M := by have := a2.mb.1; rw [x3] at this; exact this
      have lcol : col' lst = (o, 7) := by have := a2.mb.2.1; rw [x3] at this; exact this
      obtain ⟨D2, w1, w2, w3, w4⟩ := s_next A2 x2 hil
      have c1 := w4.1
      have c2 := w4.2.1
      have c3 := w4.2.2.2.1
      have itl := x2.1.2.1
      have lstl := A2.1.2.1
      have nit : ∀ y, ((col' y).1 = g ∨ (col' y).1 = o ∨ col' y = (0, 0)) → y ≠ it := fun y hy z => by
        rw [z, x1] at hy
        rcases hy with p | p | p
        · have p : (-1 : Int) = g := p
          omega
        · have p : (-1 : Int) = o := p
          omega
        · have : (-1 : Int) = 0 := congrArg Prod.fst p
          omega
      have a1' : RLp col' D2 g _ _ hh (r 546) := a1.keep w4 (fun y hy hq z => nit y (hq.imp id Or.inr) z) (fun _ _ _ => rfl)
      have a2' : RLh col' D2 o r M h := a2.keep w4 (fun y hy hq z => nit y (Or.inr hq) z) (fun _ _ => rfl)
      have o3 : dW D2 o 7 = lst := by rw [w4.at a2.o.2.1 (fun z => nit o (Or.inr (Or.inl (by rw [a2.co]))) z)]; exact x3
      have a5' : Ev (fun x => (col0 x).1 = o) (cc + 2 * i + 0) (ss + 54 * i + 0) D0 D2 := a5.trans w4 (fun y hy z => by have z : y = it := z; omega)
      have x1' : (col' it).1 ≠ g := fun p => nit it (Or.inl p) rfl
      have lstn : ∀ k', (col' lst) = (o, k') → k' = 7 := fun k' p => by rw [lcol] at p; exact (congrArg Prod.snd p).symm
      have gl := a1'.o.2.1
      have ol := a2'.o.2.1
      have p := a2'.em i hil
      have hsz : (dH D2 (h.lm.getD i 0)).2 = 6 := p.1.2
      have Ec : Ev (fun y => y = dT D2) 1 6 D2 (dcln D2 (h.lm.getD i 0) 6) := Ev.dcln D2
      have hb8 : dO (dcln D2 (h.lm.getD i 0) 6) (dT D2) 20 ∧ (dH (dcln D2 (h.lm.getD i 0) 6) (dT D2)).2 = 6 := by
        have e8 : dH (dcln D2 (h.lm.getD i 0) 6) (dT D2) = (20, 6) := if_pos rfl
        exact ⟨⟨by omega, by show dT D2 < dT D2 + 1; omega, by rw [e8]⟩, by rw [e8]⟩
      obtain ⟨D9, col9, f1, f2, f3, f4, f5⟩ := l_grow7 a1' (CBn_rC.mpr (by omega)) (by omega) (by omega) (by omega) (by omega) (by omega) Ec hb8 (fun k' hk' => by
        have e8 : dW (dcln D2 (h.lm.getD i 0) 6) (dT D2) k' = dW D2 (h.lm.getD i 0) k' := if_pos rfl
        rw [e8]
        exact p.2.2 k' hk')
      have ei : (i : Int) + 1 = ((i + 1 : Nat) : Int) := by omega
      have eM : M1 + (i : Int) + 1 = M1 + ((i + 1 : Nat) : Int) := by omega
      rw [eM, ei] at f3
      left
      show ∃ s', fX6_init__s259 g o it q = some (.inl s') ∧ _
      unfold fX6_init__s259
      rw [s_has A2 x2, if_neg (by omega)]
      simp only [Option.bind_some]
      rw [if_pos x2.1, if_neg (by decide), w1]
      simp only [Option.bind_some]
      rw [if_pos p.1.1, if_pos a1'.o, hsz, if_pos ⟨by omega, by omega⟩, zl_eq, f1]
      simp only [Option.bind_some]
      rw [if_pos f2]
      exact ⟨D9, rfl, col9, _, f3, a2'.keep f5 (fun y hy hq z => by
        have z : (col' y).1 = g := z
        rcases hq with q' | q'
        · exact hgo (z.symm.trans q')
        · rw [q'] at z
          have z : (0 : Int) = g := z
          omega) (fun y hy => f4 y hy), fun y hy => (f4 y (by omega)).trans (a34 y hy), (a5'.trans f5 (fun y hy z => absurd z (a4 y hy))).mono (by omega) (by omega) (fun _ _ z => z), by rw [f4 it (by omega)]; exact x1, w2.ev f5 x1' (fun z => by
          have z : (col' lst).1 = g := z
          rw [lcol] at z
          exact hgo z.symm) (by omega), by
          rw [f5.at ol (fun z => by
            have z : (col' o).1 = g := z
            rw [a2.co] at z
            exact hgo z.symm)]
          exact o3⟩)
    (fun q hq => by
      obtain ⟨col', hh, a1, a2, a3, a5, x1, x2, x3⟩ := hq
      have hN := a2.nm
      have A2 : AL q lst h.lm M := by have := a2.mb.1; rw [x3] at this; exact this
      show ∃ s', fX6_init__s259 g o it q = some (.inr s') ∧ _
      unfold fX6_init__s259
      rw [s_has A2 x2, if_pos (by omega)]
      simp only [Option.bind_some]
      rw [if_pos x2.1, if_pos trivial]
      refine ⟨q, rfl, col', hh, ?_, a2, a3, ?_, trivial⟩
      · rw [ecnt] at a1; exact a1
      · rw [ecnt] at a5; exact a5)
    D (by
      obtain ⟨col', hh, a1, a2, a3, a5, x⟩ := H
      exact ⟨col', hh, by simpa using a1, a2, a3, a5.mono (by omega) (by omega) (fun _ _ z => z), x⟩)
  exact loop
theorem cp_8 {it lst : Int} (H : Cp col0 D0 g o r M h a b c d 0 f M1 cc ss D (fun col' => col' it = (-1, -1) ∧ It D it lst 0 ∧ dW D o 8 = lst)) (hI : IH B r) (hbd : (0 ≤ a ∧ a ≤ 8) ∧ (0 ≤ b ∧ b ≤ 24) ∧ (0 ≤ c ∧ c ≤ 15) ∧ (0 ≤ d ∧ d ≤ 12) ∧ (0 ≤ f ∧ f ≤ 30)) (hit : dT D0 ≤ it) (hgo : g ≠ o) (hg : 151 ≤ g) (ho : 151 ≤ o) (hM : 12 ≤ M1 ∧ M1 < 800000) (hT : dT D0 + cc + 68 < 600000) (hS : dS D0 + ss + 784 ≤ 7200000) :
    ∃ D', zlp (fun q => fX6_init__s304 g o it q) FU D = some D' ∧ Cp col0 D0 g o r M h a b c d (r 619) f (M1 + r 619) (cc + 1 * r 619) (ss + 48 * r 619) D' (fun _ => True) := by
  have hn := hI.1
  unfold IHn at hn
  have h546 : 0 ≤ r 546 ∧ r 546 ≤ 12 := by omega
  have ecnt : (((r 619).toNat : Nat) : Int) = r 619 := Int.toNat_of_nonneg (by omega)
  have loop := lp_FU (f := fun q => fX6_init__s304 g o it q)
    (fun i q => Cp col0 D0 g o r M h a b c d (i : Int) f (M1 + i) (cc + 1 * i) (ss + 48 * i) q (fun col' => col' it = (-1, -1) ∧ It q it lst i ∧ dW q o 8 = lst))
    (fun q => Cp col0 D0 g o r M h a b c d (r 619) f (M1 + r 619) (cc + 1 * r 619) (ss + 48 * r 619) q (fun _ => True)) (r 619).toNat (by omega)
    (fun i q hi hq => by
      obtain ⟨col', hh, a1, a2, a34, a5, x1, x2, x3⟩ := hq
      have a3 : ∀ y, y < dT D0 → (col0 y).1 ≠ g → col' y = col0 y := fun y hy hq => (a34 y hy).trans (if_neg hq)
      have a4 : ∀ y, y < dT D0 → (col' y).1 ≠ g := fun y hy => by
        rw [a34 y hy]
        by_cases q : (col0 y).1 = g
        · rw [if_pos q]
          show (-1 : Int) ≠ g
          omega
        · rw [if_neg q]; exact q
      have hN := a2.nc
      have hil : i < h.lc.length := by omega
      have b1 := a5.1
      have b2 := a5.2.1
      have b3 := a5.2.2.2.1
      have A2 : AL q lst h.lc M := by have := a2.cs.1; rw [x3] at this; exact this
      have lcol : col' lst = (o, 8) := by have := a2.cs.2.1; rw [x3] at this; exact this
      obtain ⟨D2, w1, w2, w3, w4⟩ := s_next A2 x2 hil
      have c1 := w4.1
      have c2 := w4.2.1
      have c3 := w4.2.2.2.1
      have itl := x2.1.2.1
      have lstl := A2.1.2.1
      have nit : ∀ y, ((col' y).1 = g ∨ (col' y).1 = o ∨ col' y = (0, 0)) → y ≠ it := fun y hy z => by
        rw [z, x1] at hy
        rcases hy with p | p | p
        · have p : (-1 : Int) = g := p
          omega
        · have p : (-1 : Int) = o := p
          omega
        · have : (-1 : Int) = 0 := congrArg Prod.fst p
          omega
      have a1' : RLp col' D2 g _ _ hh (r 546) := a1.keep w4 (fun y hy hq z => nit y (hq.imp id Or.inr) z) (fun _ _ _ => rfl)
      have a2' : RLh col' D2 o r M h := a2.keep w4 (fun y hy hq z => nit y (Or.inr hq) z) (fun _ _ => rfl)
      have o3 : dW D2 o 8 = lst := by rw [w4.at a2.o.2.1 (fun z => nit o (Or.inr (Or.inl (by rw [a2.co]))) z)]; exact x3
      have a5' : Ev (fun x => (col0 x).1 = o) (cc + 1 * i + 0) (ss + 48 * i + 0) D0 D2 := a5.trans w4 (fun y hy z => by have z : y = it := z; omega)
      have x1' : (col' it).1 ≠ g := fun p => nit it (Or.inl p) rfl
      have lstn : ∀ k', (col' lst) = (o, k') → k' = 8 := fun k' p => by rw [lcol] at p; exact (congrArg Prod.snd p).symm
      have gl := a1'.o.2.1
      have ol := a2'.o.2.1
      have p := a2'.ec i hil
      obtain ⟨D9, col9, f1, f3, f4, f5⟩ := l_add8 a1' (CBn_rC.mpr (by omega)) (by omega) (by omega) (by omega) (by omega) (by omega) p
      have ei : (i : Int) + 1 = ((i + 1 : Nat) : Int) := by omega
      have eM : M1 + (i : Int) + 1 = M1 + ((i + 1 : Nat) : Int) := by omega
      rw [eM, ei] at f3
      left
      show ∃ s', fX6_init__s304 g o it q = some (.inl s') ∧ _
      unfold fX6_init__s304
      rw [s_has A2 x2, if_neg (by omega)]
      simp only [Option.bind_some]
      rw [if_pos x2.1, if_neg (by decide), w1]
      simp only [Option.bind_some]
      rw [if_pos p.1.1, if_pos a1'.o, f1]
      simp only [Option.bind_some]
      rw [if_pos a1'.e8.1.1.1]
      exact ⟨D9, rfl, col9, _, f3, a2'.keep f5 (fun y hy hq z => by
        have z : (col' y).1 = g := z
        rcases hq with q' | q'
        · exact hgo (z.symm.trans q')
        · rw [q'] at z
          have z : (0 : Int) = g := z
          omega) (fun y hy => f4 y hy), fun y hy => (f4 y (by omega)).trans (a34 y hy), (a5'.trans f5 (fun y hy z => absurd z (a4 y hy))).mono (by omega) (by omega) (fun _ _ z => z), by rw [f4 it (by omega)]; exact x1, w2.ev f5 x1' (fun z => by
          have z : (col' lst).1 = g := z
          rw [lcol] at z
          exact hgo z.symm) (by omega), by
          rw [f5.at ol (fun z => by
            have z : (col' o).1 = g := z
            rw [a2.co] at z
            exact hgo z.symm)]
          exact o3⟩)
    (fun q hq => by
      obtain ⟨col', hh, a1, a2, a3, a5, x1, x2, x3⟩ := hq
      have hN := a2.nc
      have A2 : AL q lst h.lc M := by have := a2.cs.1; rw [x3] at this; exact this
      show ∃ s', fX6_init__s304 g o it q = some (.inr s') ∧ _
      unfold fX6_init__s304
      rw [s_has A2 x2, if_pos (by omega)]
      simp only [Option.bind_some]
      rw [if_pos x2.1, if_pos trivial]
      refine ⟨q, rfl, col', hh, ?_, a2, a3, ?_, trivial⟩
      · rw [ecnt] at a1; exact a1
      · rw [ecnt] at a5; exact a5)
    D (by
      obtain ⟨col', hh, a1, a2, a3, a5, x⟩ := H
      exact ⟨col', hh, by simpa using a1, a2, a3, a5.mono (by omega) (by omega) (fun _ _ z => z), x⟩)
  exact loop
theorem cp_9 {it lst : Int} (H : Cp col0 D0 g o r M h a b c d e 0 M1 cc ss D (fun col' => col' it = (-1, -1) ∧ It D it lst 0 ∧ dW D o 9 = lst)) (hI : IH B r) (hbd : (0 ≤ a ∧ a ≤ 8) ∧ (0 ≤ b ∧ b ≤ 24) ∧ (0 ≤ c ∧ c ≤ 15) ∧ (0 ≤ d ∧ d ≤ 12) ∧ (0 ≤ e ∧ e ≤ 8)) (hit : dT D0 ≤ it) (hgo : g ≠ o) (hg : 151 ≤ g) (ho : 151 ≤ o) (hM : 12 ≤ M1 ∧ M1 < 800000) (hT : dT D0 + cc + 90 < 600000) (hS : dS D0 + ss + 1840 ≤ 7200000) :
    ∃ D', zlp (fun q => fX6_init__s343 g it q) FU D = some D' ∧ Cp col0 D0 g o r M h a b c d e (r 644) (M1 + r 644) (cc + 1 * r 644) (ss + 48 * r 644) D' (fun _ => True) := by
  have hn := hI.1
  unfold IHn at hn
  have h546 : 0 ≤ r 546 ∧ r 546 ≤ 12 := by omega
  have ecnt : (((r 644).toNat : Nat) : Int) = r 644 := Int.toNat_of_nonneg (by omega)
  have loop := lp_FU (f := fun q => fX6_init__s343 g it q)
    (fun i q => Cp col0 D0 g o r M h a b c d e (i : Int) (M1 + i) (cc + 1 * i) (ss + 48 * i) q (fun col' => col' it = (-1, -1) ∧ It q it lst i ∧ dW q o 9 = lst))
    (fun q => Cp col0 D0 g o r M h a b c d e (r 644) (M1 + r 644) (cc + 1 * r 644) (ss + 48 * r 644) q (fun _ => True)) (r 644).toNat (by omega)
    (fun i q hi hq => by
      obtain ⟨col', hh, a1, a2, a34, a5, x1, x2, x3⟩ := hq
      have a3 : ∀ y, y < dT D0 → (col0 y).1 ≠ g → col' y = col0 y := fun y hy hq => (a34 y hy).trans (if_neg hq)
      have a4 : ∀ y, y < dT D0 → (col' y).1 ≠ g := fun y hy => by
        rw [a34 y hy]
        by_cases q : (col0 y).1 = g
        · rw [if_pos q]
          show (-1 : Int) ≠ g
          omega
        · rw [if_neg q]; exact q
      have hN := a2.na
      have hil : i < h.la.length := by omega
      have b1 := a5.1
      have b2 := a5.2.1
      have b3 := a5.2.2.2.1
      have A2 : AL q lst h.la M := by have := a2.ar.1; rw [x3] at this; exact this
      have lcol : col' lst = (o, 9) := by have := a2.ar.2.1; rw [x3] at this; exact this
      obtain ⟨D2, w1, w2, w3, w4⟩ := s_next A2 x2 hil
      have c1 := w4.1
      have c2 := w4.2.1
      have c3 := w4.2.2.2.1
      have itl := x2.1.2.1
      have lstl := A2.1.2.1
      have nit : ∀ y, ((col' y).1 = g ∨ (col' y).1 = o ∨ col' y = (0, 0)) → y ≠ it := fun y hy z => by
        rw [z, x1] at hy
        rcases hy with p | p | p
        · have p : (-1 : Int) = g := p
          omega
        · have p : (-1 : Int) = o := p
          omega
        · have : (-1 : Int) = 0 := congrArg Prod.fst p
          omega
      have a1' : RLp col' D2 g _ _ hh (r 546) := a1.keep w4 (fun y hy hq z => nit y (hq.imp id Or.inr) z) (fun _ _ _ => rfl)
      have a2' : RLh col' D2 o r M h := a2.keep w4 (fun y hy hq z => nit y (Or.inr hq) z) (fun _ _ => rfl)
      have o3 : dW D2 o 9 = lst := by rw [w4.at a2.o.2.1 (fun z => nit o (Or.inr (Or.inl (by rw [a2.co]))) z)]; exact x3
      have a5' : Ev (fun x => (col0 x).1 = o) (cc + 1 * i + 0) (ss + 48 * i + 0) D0 D2 := a5.trans w4 (fun y hy z => by have z : y = it := z; omega)
      have x1' : (col' it).1 ≠ g := fun p => nit it (Or.inl p) rfl
      have lstn : ∀ k', (col' lst) = (o, k') → k' = 9 := fun k' p => by rw [lcol] at p; exact (congrArg Prod.snd p).symm
      have gl := a1'.o.2.1
      have ol := a2'.o.2.1
      have p := a2'.ea i hil
      obtain ⟨D9, col9, f1, f3, f4, f5⟩ := l_add9 a1' (CBn_rC.mpr (by omega)) (by omega) (by omega) (by omega) (by omega) (by omega) p
      have ei : (i : Int) + 1 = ((i + 1 : Nat) : Int) := by omega
      have eM : M1 + (i : Int) + 1 = M1 + ((i + 1 : Nat) : Int) := by omega
      rw [eM, ei] at f3
      left
      show ∃ s', fX6_init__s343 g it q = some (.inl s') ∧ _
      unfold fX6_init__s343
      rw [s_has A2 x2, if_neg (by omega)]
      simp only [Option.bind_some]
      rw [if_pos x2.1, if_neg (by decide), w1]
      simp only [Option.bind_some]
      rw [if_pos p.1.1, if_pos a1'.o, f1]
      simp only [Option.bind_some]
      rw [if_pos a1'.e9.1.1.1]
      exact ⟨D9, rfl, col9, _, f3, a2'.keep f5 (fun y hy hq z => by
        have z : (col' y).1 = g := z
        rcases hq with q' | q'
        · exact hgo (z.symm.trans q')
        · rw [q'] at z
          have z : (0 : Int) = g := z
          omega) (fun y hy => f4 y hy), fun y hy => (f4 y (by omega)).trans (a34 y hy), (a5'.trans f5 (fun y hy z => absurd z (a4 y hy))).mono (by omega) (by omega) (fun _ _ z => z), by rw [f4 it (by omega)]; exact x1, w2.ev f5 x1' (fun z => by
          have z : (col' lst).1 = g := z
          rw [lcol] at z
          exact hgo z.symm) (by omega), by
          rw [f5.at ol (fun z => by
            have z : (col' o).1 = g := z
            rw [a2.co] at z
            exact hgo z.symm)]
          exact o3⟩)
    (fun q hq => by
      obtain ⟨col', hh, a1, a2, a3, a5, x1, x2, x3⟩ := hq
      have hN := a2.na
      have A2 : AL q lst h.la M := by have := a2.ar.1; rw [x3] at this; exact this
      show ∃ s', fX6_init__s343 g it q = some (.inr s') ∧ _
      unfold fX6_init__s343
      rw [s_has A2 x2, if_pos (by omega)]
      simp only [Option.bind_some]
      rw [if_pos x2.1, if_pos trivial]
      refine ⟨q, rfl, col', hh, ?_, a2, a3, ?_, trivial⟩
      · rw [ecnt] at a1; exact a1
      · rw [ecnt] at a5; exact a5)
    D (by
      obtain ⟨col', hh, a1, a2, a3, a5, x⟩ := H
      exact ⟨col', hh, by simpa using a1, a2, a3, a5.mono (by omega) (by omega) (fun _ _ z => z), x⟩)
  exact loop
end CPY

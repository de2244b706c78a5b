set_option maxRecDepth 20000
section CP2
theorem RLp.fields4 {col : Col} {D D' : DD} {g n M : Int} {r r' : Row} (H : RLp col D g (rC r 0 0 0 0 0 0) M ⟨[], [], [], [], [], []⟩ n) (E0 : Ev (fun a => a = g) 0 0 D D') (hg : g < 1000000) (hf : ∀ i, 0 ≤ i → i < 4 → dW D' g i = r' i) (hl : ∀ j, 4 ≤ j → dW D' g j = dW D g j) : RLp col D' g (rC r' 0 0 0 0 0 0) M ⟨[], [], [], [], [], []⟩ n := by
  obtain ⟨i1, i2, f0, f1, f2, f3, l4, l5, l6, l7, l8, l9, n4, n5, n6, n7, n8, n9, d4, d5, d6, d7, e4, e5, e6, e7, e8, e9⟩ := H
  have el : ∀ j l, 4 ≤ j → HL col D g j l M → HL col D' g j l M := fun j l hj q => by
    have ej := hl j hj
    have gl : dW D g j ≠ g := fun p => by
      have := q.2.1
      rw [p, i2] at this
      have : (0 : Int) = j := congrArg Prod.snd this
      omega
    have ga : dW D (dW D g j) 1 ≠ g := fun p => by
      rcases q.2.2 with w | w
      · omega
      · rw [p, i2] at w
        have : (0 : Int) = j := congrArg Prod.snd w
        omega
    refine ⟨by rw [ej]; exact q.1.ev E0 gl ga, by rw [ej]; exact q.2.1, ?_⟩
    rw [ej, E0.at q.1.1.2.1 gl]
    exact q.2.2
  exact ⟨E0.dO i1, i2, hf 0 (by decide) (by decide), hf 1 (by decide) (by decide), hf 2 (by decide) (by decide), hf 3 (by decide) (by decide), el _ _ (by decide) l4, el _ _ (by decide) l5, el _ _ (by decide) l6, el _ _ (by decide) l7, el _ _ (by decide) l8, el _ _ (by decide) l9, n4, n5, n6, n7, n8, n9, d4, d5, d6, d7, fun k hk => absurd hk (Nat.not_lt_zero k), fun k hk => absurd hk (Nat.not_lt_zero k), fun k hk => absurd hk (Nat.not_lt_zero k), fun k hk => absurd hk (Nat.not_lt_zero k), fun k hk => absurd hk (Nat.not_lt_zero k), fun k hk => absurd hk (Nat.not_lt_zero k)⟩
theorem l_copyH {col0 : Col} {D0 : DD} {o : Int} {r : Row} {M B : Int} {h : HLs} (H : RLh col0 D0 o r M h) (hI : IH B r) (hT : dT D0 + 2000 < 600000) (hS : dS D0 + 20000 ≤ 7200000) :
    ∃ D' col' h' M', fX6_init_ (dT D0) o (dnew D0 7 10) = some D' ∧ RLh col' D' (dT D0) r M' h' ∧ RLh col' D' o r M h ∧ (∀ y, y < dT D0 → col' y = if (col0 y).1 = dT D0 then (-1, -1) else col0 y) ∧ Ev (fun x => (col0 x).1 = o) 600 7500 D0 D' ∧ 0 ≤ M' ∧ M' ≤ 200 := by
  have hn := hI.1
  unfold IHn at hn
  have hb := dO_gt H.o
  have ol := H.o.2.1
  have o1 := H.o.1
  have hg : dO (dnew D0 7 10) (dT D0) 7 := dO_nw hb
  have E1 : Ev (fun _ => False) 1 10 D0 (dnew D0 7 10) := Ev.dnew D0
  have t1 : dT (dnew D0 7 10) = dT D0 + 1 := rfl
  have s1 : dS (dnew D0 7 10) = dS D0 + 10 := rfl
  have z3 : dW (dnew D0 7 10) (dT D0) 3 = 0 := by rw [dnew_at, if_pos rfl]
  generalize hgg : dT D0 = g at *
  generalize hD1 : dnew D0 7 10 = D1 at *
  have E0 : Ev (fun a => a = g) 0 0 D1 (dup (dup (dup D1 g 0 20) g 1 2) g 2 50) := (((Ev.dup (P := fun a => a = g) D1 (fun _ => rfl)).trans (Ev.dup (P := fun a => a = g) _ (fun _ => rfl)) (fun _ _ z => z)).trans (Ev.dup (P := fun a => a = g) _ (fun _ => rfl)) (fun _ _ z => z)).mono (by decide) (by decide) (fun _ _ z => z)
  have hg0 := E0.dO hg
  have x0 : dT (dup (dup (dup D1 g 0 20) g 1 2) g 2 50) = dT D1 := rfl
  have y0 : dS (dup (dup (dup D1 g 0 20) g 1 2) g 2 50) = dS D1 := rfl
  have hf0 : ∀ i, 0 ≤ i → i < 4 → dW (dup (dup (dup D1 g 0 20) g 1 2) g 2 50) g i = (fun i => if i = 0 then 20 else if i = 1 then 2 else if i = 2 then 50 else 0 : Row) i := fun i i0 i1 => by
    rw [dup_at, dup_at, dup_at]
    have h4 : i = 0 ∨ i = 1 ∨ i = 2 ∨ i = 3 := by omega
    rcases h4 with q | q | q | q <;> subst q
    · rw [if_neg (by omega), if_neg (by omega), if_pos ⟨rfl, rfl⟩]; rfl
    · rw [if_neg (by omega), if_pos ⟨rfl, rfl⟩]; rfl
    · rw [if_pos ⟨rfl, rfl⟩]; rfl
    · rw [if_neg (by omega), if_neg (by omega), if_neg (by omega), z3]; rfl
  unfold fX6_init_
  rw [if_pos ⟨hg.1, hg.2.1, trivial⟩, if_pos hg, zl_eq, zl_eq, zl_eq]
  generalize hD5 : dup (dup (dup D1 g 0 20) g 1 2) g 2 50 = D5 at *
  obtain ⟨A1, A2, A3, A4, A5, A6, ⟨a1, q1, s1'⟩, ⟨a2, q2, s2⟩, ⟨a3, q3, s3⟩, ⟨a4, q4, s4⟩, ⟨a5, q5, s5⟩, ⟨a6, q6, s6⟩, fin⟩ := l_six hg0 (by omega) (by omega)
  obtain ⟨col1, R, c1, c2⟩ := l_hall0 (col := fun y => if (col0 y).1 = g then (-1, -1) else col0 y) (n := r 546) hg0 fin hf0
  obtain ⟨⟨u1, u2⟩, -, -, E6⟩ := fin
  rw [if_pos ⟨by omega, by omega⟩, zl_eq, a1]
  simp only [Option.bind_some]
  rw [zl_eq, q1]
  rw [if_pos ⟨by omega, by omega⟩, zl_eq, a2]
  simp only [Option.bind_some]
  rw [zl_eq, q2]
  rw [if_pos ⟨by omega, by omega⟩, zl_eq, a3]
  simp only [Option.bind_some]
  rw [zl_eq, q3]
  rw [if_pos ⟨by omega, by omega⟩, zl_eq, a4]
  simp only [Option.bind_some]
  rw [zl_eq, q4]
  rw [if_pos ⟨by omega, by omega⟩, zl_eq, a5]
  simp only [Option.bind_some]
  rw [zl_eq, q5]
  rw [if_pos ⟨by omega, by omega⟩, zl_eq, a6]
  simp only [Option.bind_some]
  rw [zl_eq, q6]
  generalize hD29 : dup A6 g 9 (dT D5 + 5) = D29 at *
  have og : o ≠ g := by omega
  have F29 : Ev (fun a => a = g) 7 28 D0 D29 := (((E1.mono (P' := fun a => a = g) (Int.le_refl _) (Int.le_refl _) (fun _ _ z => z.elim)).trans E0 (fun _ _ z => z)).trans E6 (fun _ _ z => z)).mono (by decide) (by decide) (fun _ _ z => z)
  have oO : dO D29 o 7 := F29.dO H.o
  have w0 : dW D29 o 0 = r 0 := by rw [F29.at (by omega) og]; exact H.f0
  have w1 : dW (dup D29 g 0 (r 0)) o 1 = r 1 := by rw [dup_at, if_neg (fun q => og q.1), F29.at (by omega) og]; exact H.f1
  have w2 : dW (dup (dup D29 g 0 (r 0)) g 1 (r 1)) o 2 = r 2 := by rw [dup_at, if_neg (fun q => og q.1), dup_at, if_neg (fun q => og q.1), F29.at (by omega) og]; exact H.f2
  have w3 : dW (dup (dup (dup D29 g 0 (r 0)) g 1 (r 1)) g 2 (r 2)) o 3 = r 3 := by rw [dup_at, if_neg (fun q => og q.1), dup_at, if_neg (fun q => og q.1), dup_at, if_neg (fun q => og q.1), F29.at (by omega) og]; exact H.f3
  have E34 : Ev (fun a => a = g) 0 0 D29 (dup (dup (dup (dup D29 g 0 (r 0)) g 1 (r 1)) g 2 (r 2)) g 3 (r 3)) := ((((Ev.dup (P := fun a => a = g) D29 (fun _ => rfl)).trans (Ev.dup (P := fun a => a = g) _ (fun _ => rfl)) (fun _ _ z => z)).trans (Ev.dup (P := fun a => a = g) _ (fun _ => rfl)) (fun _ _ z => z)).trans (Ev.dup (P := fun a => a = g) _ (fun _ => rfl)) (fun _ _ z => z)).mono (by decide) (by decide) (fun _ _ z => z)
  have h34 : ∀ i, 0 ≤ i → i < 4 → dW (dup (dup (dup (dup D29 g 0 (r 0)) g 1 (r 1)) g 2 (r 2)) g 3 (r 3)) g i = r i := fun i i0 i1 => by
    have h4 : i = 0 ∨ i = 1 ∨ i = 2 ∨ i = 3 := by omega
    rcases h4 with q | q | q | q <;> subst q
    · rw [dup_at, if_neg (by omega), dup_at, if_neg (by omega), dup_at, if_neg (by omega), dup_at, if_pos ⟨rfl, rfl⟩]
    · rw [dup_at, if_neg (by omega), dup_at, if_neg (by omega), dup_at, if_pos ⟨rfl, rfl⟩]
    · rw [dup_at, if_neg (by omega), dup_at, if_pos ⟨rfl, rfl⟩]
    · rw [dup_at, if_pos ⟨rfl, rfl⟩]
  have l34 : ∀ j, 4 ≤ j → dW (dup (dup (dup (dup D29 g 0 (r 0)) g 1 (r 1)) g 2 (r 2)) g 3 (r 3)) g j = dW D29 g j := fun j hj => by
    rw [dup_at, if_neg (by omega), dup_at, if_neg (by omega), dup_at, if_neg (by omega), dup_at, if_neg (by omega)]
  rw [if_pos oO, w0, zl_eq, w1, zl_eq, w2, zl_eq, w3, zl_eq]
  generalize hD34 : dup (dup (dup (dup D29 g 0 (r 0)) g 1 (r 1)) g 2 (r 2)) g 3 (r 3) = D34 at *
  have F34 : Ev (fun a => a = g) 7 28 D0 D34 := (F29.trans E34 (fun _ _ z => z)).mono (by decide) (by decide) (fun _ _ z => z)
  have cc1 : ∀ y, y < dT D0 → col1 y = if (col0 y).1 = g then (-1, -1) else col0 y := fun y hy => c1 y (by omega) (by omega)
  have RR0 := (R.fields4 (r' := r) E34 (by omega) h34 l34).mono (M' := 12) (by decide) (by decide)
  have HH0 : RLh col1 D34 o r M h := by
    have H1 : RLh (fun y => if (col0 y).1 = g then (-1, -1) else col0 y) D0 o r M h := H.recol (fun y hy q => if_neg (fun z => by
      rcases q with q | q
      · exact og (q.symm.trans z)
      · rw [q] at z
        have z : (0 : Int) = g := z
        omega))
    exact H1.keep F34 (fun y hy _ z => by have z : y = g := z; omega) (fun y hy => cc1 y hy)
  have C0 : Cp col0 D0 g o r M h 0 0 0 0 0 0 12 7 28 D34 (fun _ => True) := ⟨col1, _, RR0, HH0, cc1, F34.mono (Int.le_refl _) (Int.le_refl _) (fun y hy z => by have z : y = g := z; omega), trivial⟩
  have g151 : 151 ≤ g := by omega
  have go : g ≠ o := fun q => og q.symm
  obtain ⟨I4, i4, k4, m4⟩ := C0.it (j := 4) (fun col' q => q.w) (by omega) (by omega)
  have T4 : dT D0 ≤ dT D34 := by
    obtain ⟨_, _, _, _, _, q, _⟩ := C0
    exact q.1
  obtain ⟨G4, n4, C4⟩ := cp_4 m4 hI (by omega) T4 go g151 o1 (by omega) (by omega) (by omega)
  rw [i4]
  simp only [Option.bind_some]
  rw [if_pos k4, n4]
  simp only [Option.bind_some]
  obtain ⟨I5, i5, k5, m5⟩ := C4.it (j := 5) (fun col' q => q.rt) (by omega) (by omega)
  have T5 : dT D0 ≤ dT G4 := by
    obtain ⟨_, _, _, _, _, q, _⟩ := C4
    exact q.1
  obtain ⟨G5, n5, C5⟩ := cp_5 m5 hI (by omega) T5 go g151 o1 (by omega) (by omega) (by omega)
  rw [i5]
  simp only [Option.bind_some]
  rw [if_pos k5, n5]
  simp only [Option.bind_some]
  obtain ⟨I6, i6, k6, m6⟩ := C5.it (j := 6) (fun col' q => q.hs) (by omega) (by omega)
  have T6 : dT D0 ≤ dT G5 := by
    obtain ⟨_, _, _, _, _, q, _⟩ := C5
    exact q.1
  obtain ⟨G6, n6, C6⟩ := cp_6 m6 hI (by omega) T6 go g151 o1 (by omega) (by omega) (by omega)
  rw [i6]
  simp only [Option.bind_some]
  rw [if_pos k6, n6]
  simp only [Option.bind_some]
  obtain ⟨I7, i7, k7, m7⟩ := C6.it (j := 7) (fun col' q => q.mb) (by omega) (by omega)
  have T7 : dT D0 ≤ dT G6 := by
    obtain ⟨_, _, _, _, _, q, _⟩ := C6
    exact q.1
  obtain ⟨G7, n7, C7⟩ := cp_7 m7 hI (by omega) T7 go g151 o1 (by omega) (by omega) (by omega)
  rw [i7]
  simp only [Option.bind_some]
  rw [if_pos k7, n7]
  simp only [Option.bind_some]
  obtain ⟨I8, i8, k8, m8⟩ := C7.it (j := 8) (fun col' q => q.cs) (by omega) (by omega)
  have T8 : dT D0 ≤ dT G7 := by
    obtain ⟨_, _, _, _, _, q, _⟩ := C7
    exact q.1
  obtain ⟨G8, n8, C8⟩ := cp_8 m8 hI (by omega) T8 go g151 o1 (by omega) (by omega) (by omega)
  rw [i8]
  simp only [Option.bind_some]
  rw [if_pos k8, n8]
  simp only [Option.bind_some]
  obtain ⟨I9, i9, k9, m9⟩ := C8.it (j := 9) (fun col' q => q.ar) (by omega) (by omega)
  have T9 : dT D0 ≤ dT G8 := by
    obtain ⟨_, _, _, _, _, q, _⟩ := C8
    exact q.1
  obtain ⟨G9, n9, C9⟩ := cp_9 m9 hI (by omega) T9 go g151 o1 (by omega) (by omega) (by omega)
  rw [i9]
  simp only [Option.bind_some]
  rw [if_pos k9, n9]
  simp only [Option.bind_some]
  obtain ⟨col', h', z1, z2, z3, z4, -⟩ := C9
  rw [rC_self] at z1
  exact ⟨G9, col', h', _, rfl, z1.to, z2, fun y hy => z3 y (by omega), z4.mono (by omega) (by omega) (fun _ _ z => z), by omega, by omega⟩
end CP2

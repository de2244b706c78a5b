set_option maxRecDepth 20000
section TO
variable {col : Col} {D : DD} {g : Int} {r : Row} {M B k : Int} {h : HLs}
/-- things that nobody of this hall owns may be given another owner -/
theorem RLh.recol {col' : Col} (H : RLh col D g r M h) (hc : ∀ a, a < dT D → ((col a).1 = g ∨ col a = (0, 0)) → col' a = col a) : RLh col' D g r M h := by
  have el : ∀ j l, HL col D g j l M → HL col' D g j l M := fun j l q => by
    obtain ⟨h1, h2, h3⟩ := q
    refine ⟨h1, by rw [hc _ h1.1.2.1 (Or.inl (by rw [h2]))]; exact h2, ?_⟩
    rcases h1.arrlt with q | q
    · exact Or.inl q
    · exact h3.imp id (fun p => by rw [hc _ q (Or.inl (by rw [p]))]; exact p)
  have ew : ∀ q a n f, (q.1 = g ∨ q = (0, 0)) → RW col q D a n f → RW col' q D a n f := fun q a n f hq h => ⟨h.1, by rw [hc a h.1.1.2.1 (by rw [h.2.1]; exact hq)]; exact h.2.1, h.2.2⟩
  refine ⟨H.o, by rw [hc g H.o.2.1 (Or.inl (by rw [H.co]))]; exact H.co, H.f0, H.f1, H.f2, H.f3, el _ _ H.w, el _ _ H.rt, el _ _ H.hs, el _ _ H.mb, el _ _ H.cs, el _ _ H.ar, H.nw, H.nr, H.nh, H.nm, H.nc, H.na, H.dw, H.dr, H.dh, H.dm,
    fun k hk => ew _ _ _ _ (Or.inl rfl) (H.ew k hk), fun k hk => ?_, fun k hk => ew _ _ _ _ (Or.inl rfl) (H.eh k hk), fun k hk => ew _ _ _ _ (Or.inl rfl) (H.em k hk), fun k hk => ew _ _ _ _ (Or.inr rfl) (H.ec k hk), fun k hk => ew _ _ _ _ (Or.inr rfl) (H.ea k hk)⟩
  obtain ⟨h1, h2, h3, L, h4, h5⟩ := H.er k hk
  exact ⟨h1, by rw [hc _ h1.2.1 (Or.inl (by rw [h2]))]; exact h2, h3, L, h4.mono (fun a ha q => by
    have q : col a = (g, h.lr.getD k 0) := q
    show col' a = _
    rw [hc a ha (Or.inl (by rw [q]))]; exact q) (Int.le_refl _), h5⟩
theorem arB_lo {j : Int} (hI : IH B r) (hj : j < 644) : arB r k (sGr r k) j = r j := by
  have hn := hI.1
  unfold IHn at hn
  have ha := arA_n (r := r) (by omega)
  unfold arB
  rw [if_neg (by omega), if_neg (by omega), if_neg (by omega), if_neg (by omega), if_neg (by omega), arA_o hj]
theorem arB_644 : arB r k (sGr r k) 644 = arA r 644 + 1 := if_pos rfl
theorem IHn_arB (hI : IH B r) : IHn B (arB r k (sGr r k)) := by
  have hn := hI.1
  have ha := arA_n (r := r) (by unfold IHn at hn; omega)
  unfold IHn at *
  rw [arB_644, arB_lo hI (by omega), arB_lo hI (by omega), arB_lo hI (by omega), arB_lo hI (by omega), arB_lo hI (by omega), arB_lo hI (by omega), arB_lo hI (by omega), arB_lo hI (by omega), arB_lo hI (by omega)]
  omega
theorem l_b33 (H : RLh col D g (arA r) M h) (hI : IH B r) (hk : 0 ≤ k ∧ k < r 37) (hM : M < 800000) (hT : dT D + 60 < 600000) (hS : dS D + 1700 ≤ 7200000) : ∃ D', fX6_takeOff_b33 g k (h.lr.getD k.toNat 0) D = some D' ∧ Out col D g (offR r k) M 45 1600 2 D' := by
  have hn := hI.1
  unfold IHn at hn
  have IA := IH_arA hI
  have ek : ((k.toNat : Nat) : Int) = k := Int.toNat_of_nonneg hk.1
  have hAn := arA_n (r := r) (by omega)
  have lo : ∀ j, j < 644 → arA r j = r j := fun j hj => arA_o hj
  have hN := H.nr
  rw [lo 37 (by omega)] at hN
  have hkl : k.toNat < h.lr.length := by omega
  generalize he : h.lr.getD k.toNat 0 = e
  have pe := H.er k.toNat hkl
  rw [he, ek] at pe
  have hb := dO_gt H.o
  -- the new row
  have n1 : dO (dnew D 20 (4 : Int).toNat) (dT D) 20 := dO_nw hb
  have s1 : (dH (dnew D 20 (4 : Int).toNat) (dT D)).2 = 4 := dH_nw
  generalize hbb : dT D = b at *
  have E1 : Ev (fun a => a = b) 1 4 D (dnew D 20 (4 : Int).toNat) := Ev.dnew D
  have e0 : dW (dnew D 20 (4 : Int).toNat) e 0 = r (38 + 18 * k + 0) := by
    rw [E1.at pe.1.2.1 (by have := pe.1.2.1; omega), pe.at (i := 0) ⟨by decide, by decide⟩]
    exact lo _ (by omega)
  have E6 : Ev (fun a => a = b) 1 4 D (dup (dnew D 20 (4 : Int).toNat) b 0 (r (38 + 18 * k + 0))) := (E1.trans (Ev.dup (P := fun a => a = b) _ (fun _ => rfl)) (fun _ _ z => z)).mono (by decide) (by decide) (fun _ _ z => z)
  generalize hc : (fun a => if a < b then col a else (-1, -1) : Col) = col1
  have c1 : ∀ a, a < b → col1 a = col a := fun a ha => by rw [← hc]; exact if_pos ha
  have c1b : col1 b = (-1, -1) := by rw [← hc]; exact if_neg (by omega)
  have H6 : RLh col1 _ g (arA r) M h := H.keep E6 (fun a ha _ z => by have z : a = b := z; omega) (fun a ha => c1 a (by omega))
  have t6 : dT (dup (dnew D 20 (4 : Int).toNat) b 0 (r (38 + 18 * k + 0))) = b + 1 := by rw [← hbb]; rfl
  have z6 : dS (dup (dnew D 20 (4 : Int).toNat) b 0 (r (38 + 18 * k + 0))) = dS D + 4 := rfl
  have n6 : dO (dup (dnew D 20 (4 : Int).toNat) b 0 (r (38 + 18 * k + 0))) b 20 := n1
  have y6 : dW (dup (dnew D 20 (4 : Int).toNat) b 0 (r (38 + 18 * k + 0))) b 0 = r (38 + 18 * k + 0) := by rw [dup_at, if_pos ⟨rfl, rfl⟩]
  unfold fX6_takeOff_b33
  rw [if_pos H.o, if_pos ⟨⟨by decide, by decide⟩, by omega, by omega⟩, hbb, zl_eq, if_pos (E1.dO pe.1), e0, if_pos ⟨by decide, by rw [s1]; decide⟩, zl_eq]
  generalize hD6 : dup (dnew D 20 (4 : Int).toNat) b 0 (r (38 + 18 * k + 0)) = D6 at *
  have hsg : (dH D6 b).2 = 4 := by rw [← hD6]; exact s1
  obtain ⟨D7, col7, a1, H7, c7, E7⟩ := l_grade H6 IA hkl (by omega) (by omega)
  rw [he, ek] at a1
  have hsG : sG (arA r) k 0 0 = sGr r k := sG_congr (lo _ (by omega)) (lo _ (by omega)) (lo _ (by omega)) (lo _ (by omega)) (fun m m0 m1 => lo _ (by omega))
  rw [hsG] at a1
  have g151 := H.o.1
  have b7 : ¬ (col1 b).1 = g := by
    rw [c1b]
    intro q
    have q : (-1 : Int) = g := q
    omega
  have y7 : dW D7 b 0 = r (38 + 18 * k + 0) := by rw [E7.at n6.2.1 (fun q => b7 (by rw [q])), y6]
  have n7 : dO D7 b 20 := E7.dO n6
  have z7 : (dH D7 b).2 = 4 := by rw [E7.sz n6, hsg]
  have c7b : col7 b = (-1, -1) := by rw [c7 b (by omega)]; exact c1b
  have gb : g ≠ b := by have := H.o.2.1; omega
  have eb : e ≠ b := by have := pe.1.2.1; omega
  have e7g : dW (dup D7 b 1 (sGr r k)) g 3 = r 3 := by rw [dup_at, if_neg (fun q => gb q.1), H7.f3]; exact lo 3 (by omega)
  have p7 := H7.er k.toNat hkl
  rw [he, ek] at p7
  have e74 : dW (dup (dup D7 b 1 (sGr r k)) b 2 (r 3)) e 4 = r (38 + 18 * k + 4) := by
    rw [dup_at, if_neg (fun q => eb q.1), dup_at, if_neg (fun q => eb q.1), p7.at (i := 4) ⟨by decide, by decide⟩]
    exact lo _ (by omega)
  rw [a1]
  simp only [Option.bind_some]
  rw [if_pos ⟨by decide, by rw [z7]; decide⟩, zl_eq, if_pos ⟨by decide, by show (2 : Int) < ((dH D7 b).2 : Int); rw [z7]; decide⟩, e7g, zl_eq, if_pos ⟨by decide, by show (3 : Int) < ((dH D7 b).2 : Int); rw [z7]; decide⟩, e74, zl_eq]
  have E13 : Ev (fun a => a = b) 0 0 D7 (dup (dup (dup D7 b 1 (sGr r k)) b 2 (r 3)) b 3 (r (38 + 18 * k + 4))) := (((Ev.dup (P := fun a => a = b) D7 (fun _ => rfl)).trans (Ev.dup (P := fun a => a = b) _ (fun _ => rfl)) (fun _ _ z => z)).trans (Ev.dup (P := fun a => a = b) _ (fun _ => rfl)) (fun _ _ z => z)).mono (by decide) (by decide) (fun _ _ z => z)
  have x0 : dW (dup (dup (dup D7 b 1 (sGr r k)) b 2 (r 3)) b 3 (r (38 + 18 * k + 4))) b 0 = r (38 + 18 * k + 0) := by rw [dup_at, if_neg (by omega), dup_at, if_neg (by omega), dup_at, if_neg (by omega), y7]
  have x1 : dW (dup (dup (dup D7 b 1 (sGr r k)) b 2 (r 3)) b 3 (r (38 + 18 * k + 4))) b 1 = sGr r k := by rw [dup_at, if_neg (by omega), dup_at, if_neg (by omega), dup_at, if_pos ⟨rfl, rfl⟩]
  have x2 : dW (dup (dup (dup D7 b 1 (sGr r k)) b 2 (r 3)) b 3 (r (38 + 18 * k + 4))) b 2 = r 3 := by rw [dup_at, if_neg (by omega), dup_at, if_pos ⟨rfl, rfl⟩]
  have x3 : dW (dup (dup (dup D7 b 1 (sGr r k)) b 2 (r 3)) b 3 (r (38 + 18 * k + 4))) b 3 = r (38 + 18 * k + 4) := by rw [dup_at, if_pos ⟨rfl, rfl⟩]
  have z13 : dT (dup (dup (dup D7 b 1 (sGr r k)) b 2 (r 3)) b 3 (r (38 + 18 * k + 4))) = dT D7 := rfl
  have w13 : dS (dup (dup (dup D7 b 1 (sGr r k)) b 2 (r 3)) b 3 (r (38 + 18 * k + 4))) = dS D7 := rfl
  generalize hD13 : dup (dup (dup D7 b 1 (sGr r k)) b 2 (r 3)) b 3 (r (38 + 18 * k + 4)) = D13 at *
  have H13 : RLh col7 D13 g (arA r) M h := H7.keep E13 (fun a ha hq z => by
    have z : a = b := z
    rw [z, c7b] at hq
    rcases hq with q | q
    · have q : (-1 : Int) = g := q
      omega
    · have : (-1 : Int) = 0 := congrArg Prod.fst q
      omega) (fun _ _ => rfl)
  generalize hc8 : (fun a => if a = b then (0, 0) else col7 a : Col) = col8
  have c8b : col8 b = (0, 0) := by rw [← hc8]; exact if_pos rfl
  have c8 : ∀ a, a ≠ b → col8 a = col7 a := fun a ha => by rw [← hc8]; exact if_neg ha
  have H8 : RLh col8 D13 g (arA r) M h := H13.recol (fun a ha hq => c8 a (fun z => by
    rw [z, c7b] at hq
    rcases hq with q | q
    · have q : (-1 : Int) = g := q
      omega
    · have : (-1 : Int) = 0 := congrArg Prod.fst q
      omega))
  have t7 := E7.2.1
  have u7 := E7.2.2.2.1
  have n13 : dO D13 b 20 := E13.dO n7
  have s13 : (dH D13 b).2 = 4 := by rw [E13.sz n7]; exact z7
  have noe : ∀ a, (col1 a).2 < 151 → ¬ col1 a = (g, h.lr.getD k.toNat 0) := fun a ha q => by
    rw [q, he] at ha
    have := pe.1.1
    have ha : e < 151 := ha
    omega
  have g6 : g < dT D6 := H6.o.2.1
  have lG : ∀ j, dW D13 g j = dW D g j := fun j => by
    rw [E13.at H7.o.2.1 (fun q => gb q), E7.at g6 (noe g (by rw [H6.co]; show (0 : Int) < 151; decide)), E6.at H.o.2.1 (fun q => gb q)]
  -- the archive's new row
  have IB := IHn_arB (k := k) hI
  have cont : ∀ i : Nat, i < 4 → dW D13 b i = arB r k (sGr r k) (645 + 4 * arA r 644 + i) := fun i hi => by
    have h4 : i = 0 ∨ i = 1 ∨ i = 2 ∨ i = 3 := by omega
    unfold arB
    rcases h4 with q | q | q | q <;> subst q
    · rw [if_neg (by omega), if_neg (by omega), if_neg (by omega), if_neg (by omega), if_pos (by omega)]; exact x0
    · rw [if_neg (by omega), if_neg (by omega), if_neg (by omega), if_pos (by omega)]; exact x1
    · rw [if_neg (by omega), if_neg (by omega), if_pos (by omega)]; exact x2
    · rw [if_neg (by omega), if_pos (by omega)]; exact x3
  obtain ⟨D14, col14, f1, f2, f3, f4⟩ := l_arAdd (r' := arB r k (sGr r k)) H8 IA.1 hAn.2 (by omega) (by omega) (by omega) ⟨⟨n13, s13⟩, c8b⟩ cont (fun j hj => by rw [arB_lo hI hj, lo j hj]) arB_644 (fun j j1 j2 => by
    unfold arB
    rw [if_neg (by omega), if_neg (by omega), if_neg (by omega), if_neg (by omega), if_neg (by omega)])
  have hlo : ∀ j, j < 644 → arB r k (sGr r k) j = r j := fun j hj => arB_lo hI hj
  rw [lG 9] at f1
  rw [f1]
  simp only [Option.bind_some]
  have g0 : dO D13 (dW D g 9) 9 := by rw [← lG 9]; exact H8.ar.1.1
  have t14 := f4.2.1
  have u14 := f4.2.2.2.1
  obtain ⟨D16, v16, k1, k2, k3⟩ := l_offRoute (r' := offR r k) f2 IB (by omega) (by omega) (k := k.toNat) hkl (fun j hj => by
      unfold offR
      rw [if_neg (by omega), if_neg (by omega)]) (by rw [offR_37, hlo 37 (by omega)]) (fun k' c q1 q2 q3 q4 => by
      rw [hlo 37 (by omega)] at q2
      rw [offR_c hI hk.1 ⟨q1, q2⟩ ⟨q3, q4⟩, ek, hlo _ (by split <;> omega)])
  rw [ek] at k1
  rw [if_pos g0, k1]
  simp only [Option.bind_some]
  rw [if_pos f2.rt.1.1]
  refine ⟨D16, rfl, col14, M + 1 + 1, _, k2, fun a ha => ?_, ?_, by omega, by omega⟩
  · rw [f3 a (by omega), c8 a (by omega), c7 a (by omega), c1 a (by omega)]
  · have Z1 : Ev (fun a => (col a).1 = g) 1 4 D D6 := E6.mono (Int.le_refl _) (Int.le_refl _) (fun a ha z => by have z : a = b := z; omega)
    have Z2 : Ev (fun a => (col a).1 = g) (1 + 40) (4 + 1500) D D7 := Z1.trans E7.own (fun a ha z => by rw [← c1 a (by omega)]; exact z)
    have Z3 : Ev (fun a => (col a).1 = g) (1 + 40 + 0) (4 + 1500 + 0) D D13 := Z2.trans E13 (fun a ha z => by have z : a = b := z; omega)
    have Z4 : Ev (fun a => (col a).1 = g) (1 + 40 + 0 + 1) (4 + 1500 + 0 + 48) D D14 := Z3.trans f4 (fun a ha z => by rw [← c1 a (by omega), ← c7 a (by omega), ← c8 a (by omega)]; exact z)
    exact (Z4.trans k3 (fun a ha z => by rw [← c1 a (by omega), ← c7 a (by omega), ← c8 a (by omega), ← f3 a (by omega)]; exact z)).mono (by decide) (by decide) (fun _ _ z => z)
theorem l_takeOff (H : RLh col D g r M h) (hI : IH B r) (hk : 0 ≤ k ∧ k < r 37) (hM : M < 790000) (hT : dT D + 60 < 600000) (hS : dS D + 1700 ≤ 7200000) : ∃ D', fX6_takeOff g k D = some D' ∧ Out col D g (offR r k) M 45 1600 3 D' := by
  have hn := hI.1
  unfold IHn at hn
  obtain ⟨q1, p1⟩ := H.gr hk
  have hNa := H.na
  unfold fX6_takeOff
  rw [if_pos H.o, q1]
  simp only [Option.bind_some]
  rw [if_pos H.rt.1.1, if_pos p1.1, s_size H.ar.1]
  simp only [Option.bind_some]
  rw [if_pos H.ar.1.1, hNa]
  by_cases c : r 644 = 30
  · obtain ⟨D8, v8, a1, a2, a3⟩ := l_arRoom H hI c (by omega) (by omega)
    have t8 := a3.2.1
    have u8 := a3.2.2.2.1
    have hM8 := a2.w.1.2.2.1
    obtain ⟨D9, b1, b2⟩ := l_b33 a2 hI hk (by omega) (by omega) (by omega)
    rw [if_pos c, a1]
    simp only [Option.bind_some]
    exact ⟨D9, b1, (Out.tr (fun _ _ => rfl) a3 (m := 1) ⟨by omega, Int.le_refl _⟩ b2).mono (by decide) (by decide) (by decide)⟩
  · have eA : arA r = r := if_neg c
    obtain ⟨D9, b1, b2⟩ := l_b33 (h := h) (by rw [eA]; exact H) hI hk (by omega) (by omega) (by omega)
    rw [if_neg c]
    exact ⟨D9, b1, b2.mono (by decide) (by decide) (by decide)⟩
end TO

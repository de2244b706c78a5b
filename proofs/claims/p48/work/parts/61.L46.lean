set_option maxRecDepth 20000
section TXT
theorem l_text {col : Col} {D : DD} {g M : Int} {S : HStp} {h : HLs} (H : RLh col D g (rowS S) M h) (hS : okD' S) (hT : dT D + 500 < 600000) (hSS : dS D + 400000 ≤ 7200000) : ∃ v D', fX6_text g D = some (v, D') ∧ Src D' v (txt S) ∧ dO D' v 18 ∧ Ev (fun _ => False) 300 300000 D D' := by
  have hb := dO_gt H.o
  have glt := H.o.2.1
  have hS' := hS
  obtain ⟨k1, k2, k3, k4, k5, k6, k7, -⟩ := hS'
  have n1 : dO (dnew D 17 4) (dT D) 17 := dO_nw hb
  have E1 : Ev (fun _ => False) 1 4 D (dnew D 17 4) := Ev.dnew D
  have t1 : dT (dnew D 17 4) = dT D + 1 := rfl
  have n2 : dO (dnew (dnew D 17 4) 17 4) (dT (dnew D 17 4)) 17 := dO_nw (by omega)
  have E2 : Ev (fun _ => False) 2 8 D (dnew (dnew D 17 4) 17 4) := (E1.trans (Ev.dnew (P := fun _ => False) (dnew D 17 4) (s := 17) (n := 4)) (fun _ _ z => z)).mono (by decide) (by decide) (fun _ _ z => z)
  have t2 : dT (dnew (dnew D 17 4) 17 4) = dT D + 2 := by show dT D + 1 + 1 = _; omega
  have u2 : dS (dnew (dnew D 17 4) 17 4) = dS D + 8 := by show dS D + 4 + 4 = _; omega
  rw [t1] at n2
  have b0 : ∀ j, dW (dnew (dnew D 17 4) 17 4) (dT D) j = 0 := fun j => by rw [dnew_at, if_neg (by omega), dnew_at, if_pos rfl]
  have b20 : ∀ j, dW (dnew (dnew D 17 4) 17 4) (dT D + 1) j = 0 := fun j => by rw [dnew_at, if_pos (by omega)]
  have nb : dO (dnew (dnew D 17 4) 17 4) (dT D) 17 := (Ev.dnew (P := fun _ => False) (dnew D 17 4) (s := 17) (n := 4)).dO n1
  unfold fX6_text
  rw [if_pos ⟨by omega, by omega⟩, zl_eq, if_pos ⟨by omega, by show dS D + 4 + 4 ≤ 7200000; omega⟩, zl_eq, t1]
  generalize hX : dnew (dnew D 17 4) 17 4 = D4 at *
  generalize hT0 : dT D = T0 at *
  obtain ⟨D5, a1, a2, a3⟩ := s_sbNew (P := fun a => T0 + 1 ≤ a) n2 (Int.le_refl _) (b20 3) (by omega) (by omega) (fun a ha => by omega)
  have F5 := a3
  rw [a1]
  simp only [Option.bind_some]
  obtain ⟨D6, c1, c2, c3⟩ := s_appS a2 (Src.st (k := 5) (by decide)) (fun q => by omega) (by rw [sch_l.1]; decide) (by have := F5.2.1; omega) (by have := F5.2.2.2.1; omega) (fun a ha => by have := F5.1; omega)
  have F6 := F5.trans c3 (fun _ _ z => z)
  have hg6 : ∀ {Y : DD} {c s : Int}, Ev (fun a => T0 + 1 ≤ a) c s D4 Y → dO Y g 7 ∧ ∀ j, dW Y g j = dW D g j := fun {Y c s} E => ⟨E.dO (E2.dO H.o), fun j => by rw [E.at (by omega) (by omega), E2.at (by omega) (fun z => z)]⟩
  rw [show (1000105 : Int) = ((1000100 + 5 : Nat) : Int) from rfl, c1]
  simp only [Option.bind_some]
  rw [if_pos (hg6 F6).1, (hg6 F6).2, H.f0]
  have e0 : rowS S 0 = S.tr := rfl
  have e1 : rowS S 1 = S.st := rfl
  have e2 : rowS S 2 = S.we := rfl
  have m0 := nm_le S.tr
  have m1 := nm_le S.st
  have m2 := nm_le S.we
  have L0 : ([] ++ sch 1000105 : List Int).length = 6 := by rw [List.length_append, sch_l.1]; rfl
  obtain ⟨D7, p7, q7, r7⟩ := s_appI (n := S.tr) c2 ⟨by omega, by omega⟩ (by rw [L0]; omega) (by have := F6.2.1; omega) (by have := F6.2.2.2.1; omega) (fun a ha => by have := F6.1; omega)
  have L7 : ([] ++ sch 1000105 ++ nm S.tr : List Int).length = ([] ++ sch 1000105 : List Int).length + (nm S.tr).length := List.length_append
  rw [L0] at L7
  have F7 := F6.trans r7 (fun _ _ z => z)
  rw [e0, p7]
  simp only [Option.bind_some]
  rw [if_pos c2.1]
  obtain ⟨D8, p8, q8, r8⟩ := s_appS q7 (Src.st (k := 6) (by decide)) (fun q => by omega) (by rw [L7, sch_l.2.1]; omega) (by have := F7.2.1; omega) (by have := F7.2.2.2.1; omega) (fun a ha => by have := F7.1; omega)
  have L8 : ([] ++ sch 1000105 ++ nm S.tr ++ sch 1000106 : List Int).length = ([] ++ sch 1000105 ++ nm S.tr : List Int).length + 1 := by rw [List.length_append, sch_l.2.1]
  rw [L7] at L8
  have F8 := F7.trans r8 (fun _ _ z => z)
  (try rw [show (1000106 : Int) = ((1000100 + 6 : Nat) : Int) from rfl])
  rw [p8]
  simp only [Option.bind_some]
  rw [if_pos q7.1]
  obtain ⟨D9, p9, q9, r9⟩ := s_appI (n := S.st) q8 ⟨by omega, by omega⟩ (by rw [L8]; omega) (by have := F8.2.1; omega) (by have := F8.2.2.2.1; omega) (fun a ha => by have := F8.1; omega)
  have L9 : ([] ++ sch 1000105 ++ nm S.tr ++ sch 1000106 ++ nm S.st : List Int).length = ([] ++ sch 1000105 ++ nm S.tr ++ sch 1000106 : List Int).length + (nm S.st).length := List.length_append
  rw [L8] at L9
  have F9 := F8.trans r9 (fun _ _ z => z)
  rw [(hg6 F8).2, H.f1, e1, p9]
  simp only [Option.bind_some]
  rw [if_pos q8.1]
  obtain ⟨D10, p10, q10, r10⟩ := s_appS q9 (Src.st (k := 6) (by decide)) (fun q => by omega) (by rw [L9, sch_l.2.1]; omega) (by have := F9.2.1; omega) (by have := F9.2.2.2.1; omega) (fun a ha => by have := F9.1; omega)
  have L10 : ([] ++ sch 1000105 ++ nm S.tr ++ sch 1000106 ++ nm S.st ++ sch 1000106 : List Int).length = ([] ++ sch 1000105 ++ nm S.tr ++ sch 1000106 ++ nm S.st : List Int).length + 1 := by rw [List.length_append, sch_l.2.1]
  rw [L9] at L10
  have F10 := F9.trans r10 (fun _ _ z => z)
  (try rw [show (1000106 : Int) = ((1000100 + 6 : Nat) : Int) from rfl])
  rw [p10]
  simp only [Option.bind_some]
  rw [if_pos q9.1]
  obtain ⟨D11, p11, q11, r11⟩ := s_appI (n := S.we) q10 ⟨by omega, by omega⟩ (by rw [L10]; omega) (by have := F10.2.1; omega) (by have := F10.2.2.2.1; omega) (fun a ha => by have := F10.1; omega)
  have L11 : ([] ++ sch 1000105 ++ nm S.tr ++ sch 1000106 ++ nm S.st ++ sch 1000106 ++ nm S.we : List Int).length = ([] ++ sch 1000105 ++ nm S.tr ++ sch 1000106 ++ nm S.st ++ sch 1000106 : List Int).length + (nm S.we).length := List.length_append
  rw [L10] at L11
  have F11 := F10.trans r11 (fun _ _ z => z)
  rw [(hg6 F10).2, H.f2, e2, p11]
  simp only [Option.bind_some]
  rw [if_pos q10.1]
  have eR : [] ++ sch 1000105 ++ nm S.tr ++ sch 1000106 ++ nm S.st ++ sch 1000106 ++ nm S.we = txR S := by
    unfold txR
    simp only [List.nil_append]
  have hLR := txR_le S
  rw [eR] at q11
  obtain ⟨D18, s1, s2, s3, s4⟩ := s_toStr q11 (by omega) (by have := F11.2.1; omega) (by have := F11.2.2.2.1; omega)
  have G1 : Ev (fun a => T0 + 1 ≤ a) _ _ D4 D18 := F11.trans s4 (fun _ _ z => z.elim)
  rw [s1]
  simp only [Option.bind_some]
  rw [if_pos q11.1]
  have g1 := G1.1
  have g2 := G1.2.1
  have g3 := G1.2.2.2.1
  have ts := s4.1
  have tD := F11.1
  have ob : dO D18 T0 17 := G1.dO nb
  have ob3 : dW D18 T0 3 = 0 := by rw [G1.at nb.2.1 (by omega)]; exact b0 3
  have svl : dT D11 + 1 < dT D18 := by
    rcases s2.1 with q | q
    · omega
    · have := q.2.2.2.1.2.1
      rw [s3] at this
      exact this
  obtain ⟨D20, x1, x2, x3⟩ := s_sbStr (P := fun a => a = T0 ∨ dT D18 ≤ a) ob (Or.inl rfl) ob3 s2 (fun _ => ⟨by omega, by rw [s3]; omega⟩) (by omega) (by omega) (fun a ha => Or.inr ha)
  rw [x1]
  simp only [Option.bind_some]
  have Z20 : Ev (fun _ => False) 20 20000 D D20 := ((E2.trans G1 (fun a ha z => by omega)).trans x3 (fun a ha z => by omega)).mono (by omega) (by omega) (fun _ _ z => z)
  have x31 := x3.1
  have arr20 : T0 ≤ dW D20 T0 0 := by
    rcases x2.2.2.2.2.1.2 with q | q
    · exact absurd q.symm (dO_ne x2.1 x2.2.2.2.2.1.1 (by decide))
    · omega
  have H30 := H.tmp Z20
  have z30 := Z20.1
  have y30 := Z20.2.1
  have x30 := Z20.2.2.2.1
  obtain ⟨D30, i30, j30, k30⟩ := s_iter H30.w.1 (by omega) (by omega)
  have bl30 : T0 < dT D20 := x2.1.2.1
  have al30 : dW D20 T0 0 < dT D20 := x2.2.2.2.2.1.1.2.1
  have B30 : SB (Pt (dT D) (dT D20)) D30 T0 (txR S) := (x2.ev k30 (fun z => z) (fun z => z)).re ⟨by omega, by omega⟩ (by
    rw [k30.at x2.1.2.1 (fun z => z)]
    exact ⟨by omega, by omega⟩)
  have W30 := Z20.trans k30 (fun _ _ z => z)
  obtain ⟨D31, m30, n30, o30⟩ := tx_w (col := col) H hS (by omega) (by omega) j30 B30 W30 (by rw [Z20.at (by omega) (fun z => z)]) (by (try simp only [List.length_append]); have := rp_len (f := txW S) (c := 14) (fun k => txW_le S k) S.nw.toNat; have := rp_len (f := txH S) (c := 16) (fun k => txH_le S k) S.nh.toNat; have := rp_len (f := txM S) (c := 13) (fun k => txM_le S k) S.nm.toNat; omega) (by omega) (by omega) (by omega)
  rw [i30]
  simp only [Option.bind_some]
  rw [if_pos H30.w.1.1, m30]
  simp only [Option.bind_some]
  have arr30 : T0 ≤ dW D31 T0 0 := by have := n30.2.2.2.2.1.2.1; omega
  have H32 := H.tmp o30
  have z32 := o30.1
  have y32 := o30.2.1
  have x32 := o30.2.2.2.1
  obtain ⟨D32, i32, j32, k32⟩ := s_iter H32.hs.1 (by omega) (by omega)
  have bl32 : T0 < dT D31 := n30.1.2.1
  have al32 : dW D31 T0 0 < dT D31 := n30.2.2.2.2.1.1.2.1
  have B32 : SB (Pt (dT D) (dT D31)) D32 T0 (txR S ++ rp (txW S) S.nw.toNat) := (n30.ev k32 (fun z => z) (fun z => z)).re ⟨by omega, by omega⟩ (by
    rw [k32.at n30.1.2.1 (fun z => z)]
    exact ⟨by omega, by omega⟩)
  have W32 := o30.trans k32 (fun _ _ z => z)
  obtain ⟨D33, m32, n32, o32⟩ := tx_h (col := col) H hS (by omega) (by omega) j32 B32 W32 (by rw [o30.at (by omega) (fun z => z)]) (by (try simp only [List.length_append]); have := rp_len (f := txW S) (c := 14) (fun k => txW_le S k) S.nw.toNat; have := rp_len (f := txH S) (c := 16) (fun k => txH_le S k) S.nh.toNat; have := rp_len (f := txM S) (c := 13) (fun k => txM_le S k) S.nm.toNat; omega) (by omega) (by omega) (by omega)
  rw [i32]
  simp only [Option.bind_some]
  rw [if_pos H32.hs.1.1, m32]
  simp only [Option.bind_some]
  have arr32 : T0 ≤ dW D33 T0 0 := by have := n32.2.2.2.2.1.2.1; omega
  have H34 := H.tmp o32
  have z34 := o32.1
  have y34 := o32.2.1
  have x34 := o32.2.2.2.1
  obtain ⟨D34, i34, j34, k34⟩ := s_iter H34.mb.1 (by omega) (by omega)
  have bl34 : T0 < dT D33 := n32.1.2.1
  have al34 : dW D33 T0 0 < dT D33 := n32.2.2.2.2.1.1.2.1
  have B34 : SB (Pt (dT D) (dT D33)) D34 T0 (txR S ++ rp (txW S) S.nw.toNat ++ rp (txH S) S.nh.toNat) := (n32.ev k34 (fun z => z) (fun z => z)).re ⟨by omega, by omega⟩ (by
    rw [k34.at n32.1.2.1 (fun z => z)]
    exact ⟨by omega, by omega⟩)
  have W34 := o32.trans k34 (fun _ _ z => z)
  obtain ⟨D35, m34, n34, o34⟩ := tx_m (col := col) H hS (by omega) (by omega) j34 B34 W34 (by rw [o32.at (by omega) (fun z => z)]) (by (try simp only [List.length_append]); have := rp_len (f := txW S) (c := 14) (fun k => txW_le S k) S.nw.toNat; have := rp_len (f := txH S) (c := 16) (fun k => txH_le S k) S.nh.toNat; have := rp_len (f := txM S) (c := 13) (fun k => txM_le S k) S.nm.toNat; omega) (by omega) (by omega) (by omega)
  rw [i34]
  simp only [Option.bind_some]
  rw [if_pos H34.mb.1.1, m34]
  simp only [Option.bind_some]
  have arr34 : T0 ≤ dW D35 T0 0 := by have := n34.2.2.2.2.1.2.1; omega
  have H36 := H.tmp o34
  have z36 := o34.1
  have y36 := o34.2.1
  have x36 := o34.2.2.2.1
  obtain ⟨D36, i36, j36, k36⟩ := s_iter H36.cs.1 (by omega) (by omega)
  have bl36 : T0 < dT D35 := n34.1.2.1
  have al36 : dW D35 T0 0 < dT D35 := n34.2.2.2.2.1.1.2.1
  have B36 : SB (Pt (dT D) (dT D35)) D36 T0 (txR S ++ rp (txW S) S.nw.toNat ++ rp (txH S) S.nh.toNat ++ rp (txM S) S.nm.toNat) := (n34.ev k36 (fun z => z) (fun z => z)).re ⟨by omega, by omega⟩ (by
    rw [k36.at n34.1.2.1 (fun z => z)]
    exact ⟨by omega, by omega⟩)
  have W36 := o34.trans k36 (fun _ _ z => z)
  obtain ⟨D37, m36, n36, o36⟩ := tx_c (col := col) H hS (by omega) (by omega) j36 B36 W36 (by rw [o34.at (by omega) (fun z => z)]) (by (try simp only [List.length_append]); have := rp_len (f := txW S) (c := 14) (fun k => txW_le S k) S.nw.toNat; have := rp_len (f := txH S) (c := 16) (fun k => txH_le S k) S.nh.toNat; have := rp_len (f := txM S) (c := 13) (fun k => txM_le S k) S.nm.toNat; omega) (by omega) (by omega) (by omega)
  rw [i36]
  simp only [Option.bind_some]
  rw [if_pos H36.cs.1.1, m36]
  simp only [Option.bind_some]
  have arr36 : T0 ≤ dW D37 T0 0 := by have := n36.2.2.2.2.1.2.1; omega
  have el : (txt S).length ≤ 340 := by
    unfold txt
    simp only [List.length_append]
    have := rp_len (f := txW S) (c := 14) (fun k => txW_le S k) S.nw.toNat
    have := rp_len (f := txH S) (c := 16) (fun k => txH_le S k) S.nh.toNat
    have := rp_len (f := txM S) (c := 13) (fun k => txM_le S k) S.nm.toNat
    have := rp_len (f := txC S) (c := 16) (fun k => txC_le S k) S.nc.toNat
    omega
  have fin : SB (Pt (dT D) (dT D35)) D37 T0 (txt S) := n36
  obtain ⟨D40, v1, v2, v3, v4⟩ := s_toStr fin (by omega) (by have := o36.2.1; omega) (by have := o36.2.2.2.1; omega)
  rw [v1]
  refine ⟨_, D40, rfl, v2, ?_, (o36.trans v4 (fun _ _ z => z)).mono (by omega) (by omega) (fun _ _ z => z)⟩
  rcases v2.1 with q | q
  · have := o36.2.1
    omega
  · exact q.1
end TXT

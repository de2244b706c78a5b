set_option maxRecDepth 20000
/-! the law behind its constructor call -/
section HL10
variable {z : ZZ} {ln : Nat} {D0 : DD}
theorem sch29 : sch 1000129 = [] := by decide +kernel
theorem l_law (C : CH z (rowS plS) [] none) (h16 : z 16 1 = 0) (hb : 151 ≤ dT D0 ∧ dT D0 ≤ 400) (hS0 : 0 ≤ dS D0 ∧ dS D0 ≤ 650000) : ∃ z' D', fL_law_b8 ln z D0 = some (1, z', D') := by
  have IHp : IH 20000 (rowS plS) := IH_rowS okS_plS
  have tJ : ∀ D : DD, dT (djn 1 D) = dT D + 1 ∧ dS (djn 1 D) = dS D + 6 := fun _ => ⟨rfl, rfl⟩
  -- nothing to undo, nothing saved
  have u1 : fL_undo z = some (-1000000003, z, 1) := by unfold fL_undo; rw [x_undo0 C]; rfl
  have u2 : fL_restore z = some (-1000000003, z, 1) := by unfold fL_restore; rw [x_rest0 C]; rfl
  -- no text
  have hp := isAt_e (wrong_ok (1000129, 0) (by decide))
  have hT := TXT_bT (wrong_ch (1000129, 0) (by decide)).1 (wrong_ch (1000129, 0) (by decide)).2
  have hC : TC (bT (sch 1000129)) ((sch 1000129).length : Int) z := by
    rw [sch29]
    exact ⟨h16, fun k a b => absurd b (by show ¬ k < 0; omega)⟩
  obtain ⟨z1, a1, a2, a3⟩ := (c_draft hT hC R0_P).1 0 hp
  have c16 : 0 ≤ z1 16 1 := by rw [a3.2 1 (by decide) (by decide) (by decide)]; omega
  have C1 : CH z1 (rowS plS) [] none := C.tf (TF_C a3) c16
  have u3 : fL_load z = some (-1000000002, z1, 1) := by
    unfold fL_load fX5_load
    rw [a1]
    rfl
  have u4 : fL_climb 0 0 z1 = some (-1000000001, z1, 1) := by
    have g1 : z1 12 3 = 2 := C1.1.2.2.2.2.1.1
    have g2 : z1 6 3 = 0 := C1.1.2.1.1
    unfold fL_climb fX5_climb
    rw [n_row, g1, if_pos (by decide), Option.bind_some]
    dsimp only
    rw [n_row, g2, if_neg (by decide)]
    rfl
  unfold fL_law_b8
  have j1 := tJ D0
  rw [u1, Option.bind_some]
  dsimp only
  rw [if_pos ⟨by omega, by omega⟩, zl_eq, if_pos rfl]
  generalize djn 1 D0 = D3 at *
  have j2 := tJ D3
  rw [u2, Option.bind_some]
  dsimp only
  rw [if_pos ⟨by omega, by omega⟩, zl_eq, if_pos rfl]
  generalize djn 1 D3 = D7 at *
  have j3 := tJ D7
  rw [u3, Option.bind_some]
  dsimp only
  rw [if_pos ⟨by omega, by omega⟩, zl_eq, if_pos rfl]
  generalize djn 1 D7 = D11 at *
  have j4 := tJ D11
  rw [u4, Option.bind_some]
  dsimp only
  rw [if_pos ⟨by omega, by omega⟩, zl_eq, if_pos rfl]
  generalize djn 1 D11 = D15 at *
  -- the plain hall
  obtain ⟨D17, p1, p2⟩ := l_plain (col0 := fun _ => (-1, -1)) (D0 := D15) (by omega) (by omega) (by omega)
  obtain ⟨colp, hp', Hp, -, -, Ep⟩ := p2.done
  have e17 := Ep.2.1
  have s17 := Ep.2.2.2.1
  have e170 := Ep.1
  rw [p1, Option.bind_some]
  dsimp only
  obtain ⟨z18, D18, q1, Sp⟩ := l_isAs (ln := ln) Hp IHp C1.1 (by omega) (by omega)
  obtain ⟨-, -, -, e18, -, f18⟩ := Sp
  have t18 := e18.2.1
  have s18 := e18.2.2.2.1
  have t180 := e18.1
  have C18 := C1.f12 f18
  rw [q1, Option.bind_some]
  dsimp only
  rw [if_pos Hp.o, if_neg (by decide)]
  -- the drawn hall
  obtain ⟨D21, d1, d2⟩ := l_drawn (col0 := fun _ => (-1, -1)) (D0 := D18) (ln := ln) (z := z18) (by omega) (by omega) (by omega)
  have ok := okD_drS ln z18
  generalize drS ln z18 = S at *
  obtain ⟨k1, k2, k3, k4, k5, k6, k7, -⟩ := id ok
  obtain ⟨cold, hd, Hd, -, -, Ed⟩ := Bd.done (r := rowS S) d2
  have e21 := Ed.2.1
  have s21 := Ed.2.2.2.1
  have e210 := Ed.1
  have IHd : IH 20000 (rowS S) := IH_rowS (okS_of ok)
  rw [d1, Option.bind_some]
  dsimp only
  generalize dT D18 = g at *
  obtain ⟨v, D22, x1, x2, x3, x4⟩ := l_text Hd ok (by omega) (by omega)
  have e22 := x4.2.1
  have s22 := x4.2.2.2.1
  have e220 := x4.1
  have H22 := Hd.tmp x4
  rw [x1, Option.bind_some]
  dsimp only
  rw [if_pos Hd.o]
  obtain ⟨tc, tl⟩ := txt_ch ok
  obtain ⟨z24, y1, y2, y3⟩ := l_type (ln := ln) (z := z18) x2 tc C18.2.2.2.2.2.2.2
  have C24 : CH z24 (rowS plS) [] none := C18.tf (TF_A y3) (by rw [y2.1]; omega)
  rw [y1, Option.bind_some]
  dsimp only
  rw [if_pos ⟨by show dT D22 + 0 ≤ 600000; omega, by show dS D22 + 6 * 0 ≤ 7200000; omega⟩, zl_eq, if_neg (by decide)]
  have hX : TXT (bT (txt S)) (txt S).length := TXT_bT tl (fun c hc => by have := tc c hc; omega)
  have hP := prs_txt (b := bT (txt S)) ok (fun k hk => bT_out hk) bT_at rfl
  obtain ⟨⟨z28, m1, m2, m3⟩, -⟩ := x_load C24 hX y2 R0_S hP
  obtain ⟨-, z30, n1, n2⟩ := x_load m2 hX m3 R0_S hP
  rw [m1, Option.bind_some]
  dsimp only
  have ul : fL_load z28 = some (rowS S 4, z30, 0) := by unfold fL_load; rw [n1]; rfl
  rw [if_pos rfl, ul, Option.bind_some]
  dsimp only
  rw [if_pos ⟨by show dT D22 + 0 ≤ 600000; omega, by show dS D22 + 6 * 0 ≤ 7200000; omega⟩, zl_eq]
  show ∃ z' D', (Option.bind (fJx4a65c_size_8abf5 (dW D22 g 4) D22) _) = some (1, z', D')
  rw [s_size H22.w.1, Option.bind_some]
  have lw := H22.nw
  show ∃ z' D', (if dO D22 (dW D22 g 4) 9 then _ else none) = some (1, z', D')
  rw [if_pos H22.w.1.1, if_pos lw.symm]
  obtain ⟨z36, D36, o1, col36, H36, -, e36, R36, f36⟩ := l_isAs (ln := ln) H22 IHd n2.1 (by omega) (by omega)
  have C36 := n2.f12 f36
  have t36 := e36.2.1
  have s36 := e36.2.2.2.1
  have t360 := e36.1
  show ∃ z' D', (Option.bind (fX6_isAs g ln z30 D22) _) = some (1, z', D')
  rw [o1, Option.bind_some]
  dsimp only
  rw [if_neg (by decide), if_pos ⟨by omega, by omega⟩, zl_eq]
  -- the history
  have n9 : dO (dnew D36 9 3) (dT D36) 9 := dO_nw (by omega)
  obtain ⟨D40, r1, r2, r3, r4⟩ := s_alInit n9
  have E40 : Ev (fun a => a = dT D36) 1 3 D36 D40 := ((Ev.dnew (P := fun a => a = dT D36) D36 (s := 9) (n := 3)).trans r3 (fun _ _ q => q)).mono (by decide) (by decide) (fun _ _ q => q)
  have t40 := E40.2.1
  have s40 := E40.2.2.2.1
  have t400 := E40.1
  have ho := H36.o
  have H40 := (H36.keep (col' := fun y => if y = dT D36 then (1, 0) else col36 y) E40 (fun a ha _ q => by omega) (fun a ha => if_neg (by omega))).mono (M' := 200) (by omega) (by decide)
  have A40 := r2 (by rw [dnew_at, if_pos rfl]) (by rw [dnew_at, if_pos rfl])
  have L40 : LSt (fun y => if y = dT D36 then (1, 0) else col36 y) D40 z36 g (dT D36) 0 (rowS S) [] [] none 200 20000 0 :=
    ⟨⟨hd, H40⟩, ⟨⟨A40.mn (by decide) (by decide), if_pos rfl, Or.inl r4⟩, rfl, fun i hi => absurd hi (Nat.not_lt_zero i), Or.inl ⟨rfl, rfl⟩, List.nodup_cons.mpr ⟨fun q => (by cases q), List.nodup_nil⟩, fun q => (List.mem_cons.mp q).elim (fun q => by have := ho.1; omega) (fun q => (by cases q))⟩, C36, ⟨IHd, XJ_rowS, by rw [(rowS_0 S).2.2.2.1]; decide⟩, fun q hq => (by cases hq), fun q hq => (by cases hq), by decide⟩
  rw [r1, Option.bind_some]
  obtain ⟨g2, z41, D41, w1, ⟨col2, r5, h2, M2, w2, w3, w4, w5⟩, w6, w7⟩ := l_loop (ln := ln) L40 (by omega) (by omega)
  rw [w1, Option.bind_some]
  dsimp only
  obtain ⟨z42, v1, v2, -⟩ : ∃ z', fL_texts ln z41 D41 = some (1, z') ∧ TF z41 z' ∧ True := by
    obtain ⟨z', a, b⟩ := l_texts (ln := ln) (D := D41) w5
    exact ⟨z', a, b, trivial⟩
  rw [v1, Option.bind_some]
  dsimp only
  have E44 := ev_djn (D := D41) 19
  have t44 := E44.2.1
  have s44 := E44.2.2.2.1
  rw [if_pos ⟨by omega, by omega⟩, zl_eq, if_neg (by decide)]
  have R42 : RC z42 r5 := RC_iff.mpr (RH_fra (RC_iff.mp w4) (fun a p q => v2.1 a (by omega) (by omega) (by omega) (by omega)))
  have H44 := w2.tmp E44
  obtain ⟨z46, D46, y6, -⟩ := l_isAs (ln := ln) H44 w3 R42 (by omega) (by omega)
  rw [y6, Option.bind_some]
  dsimp only
  rw [if_pos H44.o, if_neg (by decide)]
  exact ⟨z46, D46, rfl⟩
end HL10

/-! the law, from its entry -/
def D00 : DD := (151, 647135, fun _ => (0, 0), fun _ _ => 0)
theorem okD00 : okD D00 := ⟨⟨by decide, by decide⟩, ⟨by decide, by decide⟩, fun a h1 h2 => absurd h2 (by show ¬ a < 151; omega)⟩
set_option maxRecDepth 100000 in
theorem X_law {ln c9 s9 : Nat} {z : ZZ} {Φ : xRes → xS → Prop} (hln : ln < 2147483648) (hz : Zr z 0) (ho : okz z) (hc : 600000 ≤ c9) (hs : 6562050 ≤ s9) (k0 : ∀ τ, Φ (.inl (some (.int (iN 1)))) τ) : X mL_law 0 [some (.ref 1000000), none, none, none, none, none, none, none, none, none] [] (zmkC (ln, D00) 0 z) c9 s9 Φ := by
  obtain ⟨p, e1, C, h16⟩ := b_CH (z := z)
  refine X_room (c8 := 600000) (s8 := 6562050) hc hs ?_
  refine C_new (c := 5) (r := (RX5, TX5, 3)) (c8 := 599999) (s8 := 6562047) (pc' := 3) dL_law_0 rfl rfl tq47 tq48 tq1 (by decide) (congrArg Prod.fst (shA0 (ln, D00))) (congrArg Prod.snd (shA0 (ln, D00))) hz (dfX5 _) rfl rfl ?_
  refine X_dup (pc' := 4) dL_law_3 rfl rfl ?_
  refine C_callI [] (pc' := 7) dL_law_4 rfl IL_233 (by decide) (by decide) rfl (cs rfl) (cs rfl) rfl (CX5_init hz ho e1) (c7 := 599849) (s7 := 6552865) rfl rfl (fun o1 => ?_)
  refine X_astore_n (pc' := 8) dL_law_7 rfl (cl rfl) (Or.inr rfl) (by decide) (L' := [some (.ref 1000000), some (.ref 0), none, none, none, none, none, none, none, none]) rfl ?_
  obtain ⟨z', D', e2⟩ := l_law (ln := ln) (D0 := D00) C h16 ⟨by decide, by decide⟩ ⟨by decide, by decide⟩
  exact BL_law_8 (z := p) okD00 hln o1 e2 (fun _ _ _ _ => k0 _)

/-! the law, from its entry -/
theorem Z_xnew {ln N n c : Nat} {z : ZZ} {v : Value} (hsh : zSH ln N = (c, n)) (hv : ∀ j, v = zcv c N j 0) (hz : ∀ k, z N k = 0) : xnew (zmk ln N z) c n (fun _ => v) = zmk ln (N + 1) z := by
  refine Prod.ext rfl (Prod.ext ?_ ?_)
  · funext b
    show (if b = N then (c, n) else zSH ln b) = zSH ln b
    split
    · next h => rw [h, hsh]
    · rfl
  · funext b j
    show (if b = N then v else zCT z b j) = zCT z b j
    split
    · next h =>
      subst h
      show v = zcv (zSH 0 b).1 b j (z b j)
      rw [hz, ← zSH_1 ln, hsh]
      exact hv j
    · rfl
set_option maxRecDepth 100000 in
theorem X_law {ln c9 s9 : Nat} {z : ZZ} {Φ : xRes → xS → Prop} (hln : isLn ln) (hl : ln ≤ 3072) (hz : Zr z 0) (ho : okz z) (hc : 674 ≤ c9) (hs : 21345 ≤ s9) (k0 : ∀ (N : Nat) (z' : ZZ), Φ (.inl (some (.int (iN 1)))) (zmk ln N z')) : X mL_law 0 [some (.ref 1000000), none, none, none, none, none, none, none, none] [] (zmkC ln 0 z) c9 s9 Φ := by
  obtain ⟨p, e1, R1, f1, s1⟩ := b_cls (z := z)
  have hfx := b_fix f1 s1
  have pz : ∀ a, 151 ≤ a → p a = z a := fun a ha => by rw [f1 a (by omega) (by omega) (by omega), fill_ne (by omega)]
  have hz1 : Zr p 151 := fun a h1 h2 k => by rw [pz a h1]; exact hz a (by omega) h2 k
  obtain ⟨w, e2, w1, w2, w3, w4, w5⟩ := b_mod (p := p) (fun j => hz1 153 (by decide) (by decide) j)
  have hV := b_INV R1 f1 w1 w2 w3 w4 w5
  obtain ⟨zE, eE⟩ := w_run (ln := ln) hl 512 0 20000 w hV (Int.le_refl _) (by omega) (by omega)
  have z159 : ∀ k, w 159 k = 0 := fun k => by rw [w5 159 (by decide) (by decide) (by decide), fill_ne (by omega)]; exact hz1 159 (by decide) (by decide) k
  have z160 : ∀ k, w 160 k = 0 := fun k => by rw [w5 160 (by decide) (by decide) (by decide), fill_ne (by omega)]; exact hz1 160 (by decide) (by decide) k
  refine X_room (c8 := 674) (s8 := 21345) hc hs ?_
  refine C_new (c := 5) (r := (RX5, TX5, 3)) (c8 := 673) (s8 := 21342) (pc' := 3) dL_law_0 rfl rfl tq24 tq25 tq1 (by decide) (congrArg Prod.fst (shA0 ln)) hz (dfX5 _) rfl rfl ?_
  refine X_dup (pc' := 4) dL_law_3 rfl rfl ?_
  refine C_callI [] (pc' := 7) dL_law_4 rfl IL_152 (by decide) (by decide) rfl (cs rfl) (cs rfl) rfl (CX5_init hz ho e1) (c7 := 523) (s7 := 12160) rfl rfl (fun o1 => ?_)
  refine X_astore_n (pc' := 8) dL_law_7 rfl (cl rfl) (Or.inr rfl) (by decide) (L' := [some (.ref 1000000), some (.ref 0), none, none, none, none, none, none, none]) rfl ?_
  refine X_from (fun g H hR => zrep_R hfx (by decide) hR) ?_
  refine C_new (c := 6) (r := (RX6, TX6, 20)) (c8 := 522) (s8 := 12140) (pc' := 11) dL_law_8 rfl rfl tq1135 tq1136 tq8 (by decide) (congrArg Prod.fst (shA151 ln)) hz1 (dfX6 _) rfl rfl ?_
  refine X_dup (pc' := 12) dL_law_11 rfl rfl ?_
  refine C_callI [] (pc' := 15) dL_law_12 rfl IL_155 (by decide) (by decide) rfl (cs rfl) (cs rfl) rfl (CX6_init hz1 hfx o1 e2) (c7 := 515) (s7 := 3080) rfl rfl (fun o2 => ?_)
  refine X_astore_n (pc' := 16) dL_law_15 rfl (cl rfl) (Or.inr rfl) (by decide) (L' := [some (.ref 1000000), some (.ref 0), some (.ref 151), none, none, none, none, none, none]) rfl ?_
  refine X_iconst (pc' := 17) dL_law_16 rfl ?_
  refine X_newarr_long (n := 1) (c8 := 514) (s8 := 3079) (pc' := 19) dL_law_17 rfl tq1672 ⟨by decide, rfl, by decide⟩ (show 159 < 1000000 by decide) rfl rfl ?_
  rw [Z_xnew (v := .long 0) (ln := ln) (N := 159) (sh159 ln) (fun j => rfl) z159]
  refine X_astore_n (pc' := 20) dL_law_19 rfl (cl rfl) (Or.inr rfl) (show 159 < 1000000 by decide) (L' := [some (.ref 1000000), some (.ref 0), some (.ref 151), some (.ref 159), none, none, none, none, none]) rfl ?_
  refine X_iconst (pc' := 21) dL_law_20 rfl ?_
  refine X_newarr_double (n := 1) (c8 := 513) (s8 := 3078) (pc' := 23) dL_law_21 rfl tq1673 ⟨by decide, rfl, by decide⟩ (show 160 < 1000000 by decide) rfl rfl ?_
  rw [Z_xnew (v := .double 0) (ln := ln) (N := 160) (sh160 ln) (fun j => rfl) z160]
  refine X_astore (pc' := 25) dL_law_23 rfl (cl rfl) (Or.inr rfl) (show 160 < 1000000 by decide) (L' := [some (.ref 1000000), some (.ref 0), some (.ref 151), some (.ref 159), some (.ref 160), none, none, none, none]) rfl ?_
  refine X_iconst (pc' := 26) dL_law_25 rfl ?_
  refine X_istore (pc' := 28) dL_law_26 rfl (cl rfl) (Or.inr rfl) (L' := [some (.ref 1000000), some (.ref 0), some (.ref 151), some (.ref 159), some (.ref 160), some (.int (iN 0)), none, none, none]) rfl ?_
  exact LL_law hln (r := (1, zE)) (fun _ N => k0 N zE) 513 161 513 3078 0 w (by decide) (by decide) (by decide) (by decide) (inR_s (by omega)) o2 eE

theorem shA0 (ln : ZR) : zSH ln 0 = (6, 3) := rfl
theorem shA1 (ln : ZR) : zSH ln 1 = (1, 4) := rfl
theorem shA2 (ln : ZR) : zSH ln 2 = (20, 30) := rfl
theorem shA3 (ln : ZR) : zSH ln 3 = (2, 11) := rfl
theorem shA4 (ln : ZR) : zSH ln 4 = (5, 4) := rfl
theorem shA5 (ln : ZR) : zSH ln 5 = (20, 32) := rfl
theorem shA6 (ln : ZR) : zSH ln 6 = (5, 4) := rfl
theorem shA7 (ln : ZR) : zSH ln 7 = (20, 432) := rfl
theorem shA8 (ln : ZR) : zSH ln 8 = (5, 4) := rfl
theorem shA9 (ln : ZR) : zSH ln 9 = (20, 120) := rfl
theorem shA10 (ln : ZR) : zSH ln 10 = (5, 4) := rfl
theorem shA11 (ln : ZR) : zSH ln 11 = (20, 60) := rfl
theorem shA12 (ln : ZR) : zSH ln 12 = (5, 4) := rfl
theorem shA13 (ln : ZR) : zSH ln 13 = (20, 72) := rfl
theorem shA14 (ln : ZR) : zSH ln 14 = (5, 4) := rfl
theorem shA15 (ln : ZR) : zSH ln 15 = (20, 24) := rfl
theorem shA16 (ln : ZR) : zSH ln 16 = (4, 7) := rfl
theorem shA17 (ln : ZR) : zSH ln 17 = (2, 11) := rfl
theorem shA18 (ln : ZR) : zSH ln 18 = (5, 4) := rfl
theorem shA19 (ln : ZR) : zSH ln 19 = (20, 32) := rfl
theorem shA20 (ln : ZR) : zSH ln 20 = (5, 4) := rfl
theorem shA21 (ln : ZR) : zSH ln 21 = (20, 432) := rfl
theorem shA22 (ln : ZR) : zSH ln 22 = (5, 4) := rfl
theorem shA23 (ln : ZR) : zSH ln 23 = (20, 120) := rfl
theorem shA24 (ln : ZR) : zSH ln 24 = (5, 4) := rfl
theorem shA25 (ln : ZR) : zSH ln 25 = (20, 60) := rfl
theorem shA26 (ln : ZR) : zSH ln 26 = (5, 4) := rfl
theorem shA27 (ln : ZR) : zSH ln 27 = (20, 72) := rfl
theorem shA28 (ln : ZR) : zSH ln 28 = (5, 4) := rfl
theorem shA29 (ln : ZR) : zSH ln 29 = (20, 24) := rfl
theorem shA30 (ln : ZR) : zSH ln 30 = (20, 600) := rfl
theorem shA31 (ln : ZR) : zSH ln 31 = (20, 3) := rfl
theorem shA32 (ln : ZR) : zSH ln 32 = (3, 5) := rfl
theorem shA33 (ln : ZR) : zSH ln 33 = (23, 8) := rfl
theorem shA34 (ln : ZR) : zSH ln 34 = (2, 11) := rfl
theorem shA35 (ln : ZR) : zSH ln 35 = (5, 4) := rfl
theorem shA36 (ln : ZR) : zSH ln 36 = (20, 32) := rfl
theorem shA37 (ln : ZR) : zSH ln 37 = (5, 4) := rfl
theorem shA38 (ln : ZR) : zSH ln 38 = (20, 432) := rfl
theorem shA39 (ln : ZR) : zSH ln 39 = (5, 4) := rfl
theorem shA40 (ln : ZR) : zSH ln 40 = (20, 120) := rfl
theorem shA41 (ln : ZR) : zSH ln 41 = (5, 4) := rfl
theorem shA42 (ln : ZR) : zSH ln 42 = (20, 60) := rfl
theorem shA43 (ln : ZR) : zSH ln 43 = (5, 4) := rfl
theorem shA44 (ln : ZR) : zSH ln 44 = (20, 72) := rfl
theorem shA45 (ln : ZR) : zSH ln 45 = (5, 4) := rfl
theorem shA46 (ln : ZR) : zSH ln 46 = (20, 24) := rfl
theorem shA47 (ln : ZR) : zSH ln 47 = (2, 11) := rfl
theorem shA48 (ln : ZR) : zSH ln 48 = (5, 4) := rfl
theorem shA49 (ln : ZR) : zSH ln 49 = (20, 32) := rfl
theorem shA50 (ln : ZR) : zSH ln 50 = (5, 4) := rfl
theorem shA51 (ln : ZR) : zSH ln 51 = (20, 432) := rfl
theorem shA52 (ln : ZR) : zSH ln 52 = (5, 4) := rfl
theorem shA53 (ln : ZR) : zSH ln 53 = (20, 120) := rfl
theorem shA54 (ln : ZR) : zSH ln 54 = (5, 4) := rfl
theorem shA55 (ln : ZR) : zSH ln 55 = (20, 60) := rfl
theorem shA56 (ln : ZR) : zSH ln 56 = (5, 4) := rfl
theorem shA57 (ln : ZR) : zSH ln 57 = (20, 72) := rfl
theorem shA58 (ln : ZR) : zSH ln 58 = (5, 4) := rfl
theorem shA59 (ln : ZR) : zSH ln 59 = (20, 24) := rfl
theorem shA60 (ln : ZR) : zSH ln 60 = (2, 11) := rfl
theorem shA61 (ln : ZR) : zSH ln 61 = (5, 4) := rfl
theorem shA62 (ln : ZR) : zSH ln 62 = (20, 32) := rfl
theorem shA63 (ln : ZR) : zSH ln 63 = (5, 4) := rfl
theorem shA64 (ln : ZR) : zSH ln 64 = (20, 432) := rfl
theorem shA65 (ln : ZR) : zSH ln 65 = (5, 4) := rfl
theorem shA66 (ln : ZR) : zSH ln 66 = (20, 120) := rfl
theorem shA67 (ln : ZR) : zSH ln 67 = (5, 4) := rfl
theorem shA68 (ln : ZR) : zSH ln 68 = (20, 60) := rfl
theorem shA69 (ln : ZR) : zSH ln 69 = (5, 4) := rfl
theorem shA70 (ln : ZR) : zSH ln 70 = (20, 72) := rfl
theorem shA71 (ln : ZR) : zSH ln 71 = (5, 4) := rfl
theorem shA72 (ln : ZR) : zSH ln 72 = (20, 24) := rfl
theorem shA73 (ln : ZR) : zSH ln 73 = (2, 11) := rfl
theorem shA74 (ln : ZR) : zSH ln 74 = (5, 4) := rfl
theorem shA75 (ln : ZR) : zSH ln 75 = (20, 32) := rfl
theorem shA76 (ln : ZR) : zSH ln 76 = (5, 4) := rfl
theorem shA77 (ln : ZR) : zSH ln 77 = (20, 432) := rfl
theorem shA78 (ln : ZR) : zSH ln 78 = (5, 4) := rfl
theorem shA79 (ln : ZR) : zSH ln 79 = (20, 120) := rfl
theorem shA80 (ln : ZR) : zSH ln 80 = (5, 4) := rfl
theorem shA81 (ln : ZR) : zSH ln 81 = (20, 60) := rfl
theorem shA82 (ln : ZR) : zSH ln 82 = (5, 4) := rfl
theorem shA83 (ln : ZR) : zSH ln 83 = (20, 72) := rfl
theorem shA84 (ln : ZR) : zSH ln 84 = (5, 4) := rfl
theorem shA85 (ln : ZR) : zSH ln 85 = (20, 24) := rfl
theorem shA86 (ln : ZR) : zSH ln 86 = (2, 11) := rfl
theorem shA87 (ln : ZR) : zSH ln 87 = (5, 4) := rfl
theorem shA88 (ln : ZR) : zSH ln 88 = (20, 32) := rfl
theorem shA89 (ln : ZR) : zSH ln 89 = (5, 4) := rfl
theorem shA90 (ln : ZR) : zSH ln 90 = (20, 432) := rfl
theorem shA91 (ln : ZR) : zSH ln 91 = (5, 4) := rfl
theorem shA92 (ln : ZR) : zSH ln 92 = (20, 120) := rfl
theorem shA93 (ln : ZR) : zSH ln 93 = (5, 4) := rfl
theorem shA94 (ln : ZR) : zSH ln 94 = (20, 60) := rfl
theorem shA95 (ln : ZR) : zSH ln 95 = (5, 4) := rfl
theorem shA96 (ln : ZR) : zSH ln 96 = (20, 72) := rfl
theorem shA97 (ln : ZR) : zSH ln 97 = (5, 4) := rfl
theorem shA98 (ln : ZR) : zSH ln 98 = (20, 24) := rfl
theorem shA99 (ln : ZR) : zSH ln 99 = (2, 11) := rfl
theorem shA100 (ln : ZR) : zSH ln 100 = (5, 4) := rfl
theorem shA101 (ln : ZR) : zSH ln 101 = (20, 32) := rfl
theorem shA102 (ln : ZR) : zSH ln 102 = (5, 4) := rfl
theorem shA103 (ln : ZR) : zSH ln 103 = (20, 432) := rfl
theorem shA104 (ln : ZR) : zSH ln 104 = (5, 4) := rfl
theorem shA105 (ln : ZR) : zSH ln 105 = (20, 120) := rfl
theorem shA106 (ln : ZR) : zSH ln 106 = (5, 4) := rfl
theorem shA107 (ln : ZR) : zSH ln 107 = (20, 60) := rfl
theorem shA108 (ln : ZR) : zSH ln 108 = (5, 4) := rfl
theorem shA109 (ln : ZR) : zSH ln 109 = (20, 72) := rfl
theorem shA110 (ln : ZR) : zSH ln 110 = (5, 4) := rfl
theorem shA111 (ln : ZR) : zSH ln 111 = (20, 24) := rfl
theorem shA112 (ln : ZR) : zSH ln 112 = (2, 11) := rfl
theorem shA113 (ln : ZR) : zSH ln 113 = (5, 4) := rfl
theorem shA114 (ln : ZR) : zSH ln 114 = (20, 32) := rfl
theorem shA115 (ln : ZR) : zSH ln 115 = (5, 4) := rfl
theorem shA116 (ln : ZR) : zSH ln 116 = (20, 432) := rfl
theorem shA117 (ln : ZR) : zSH ln 117 = (5, 4) := rfl
theorem shA118 (ln : ZR) : zSH ln 118 = (20, 120) := rfl
theorem shA119 (ln : ZR) : zSH ln 119 = (5, 4) := rfl
theorem shA120 (ln : ZR) : zSH ln 120 = (20, 60) := rfl
theorem shA121 (ln : ZR) : zSH ln 121 = (5, 4) := rfl
theorem shA122 (ln : ZR) : zSH ln 122 = (20, 72) := rfl
theorem shA123 (ln : ZR) : zSH ln 123 = (5, 4) := rfl
theorem shA124 (ln : ZR) : zSH ln 124 = (20, 24) := rfl
theorem shA125 (ln : ZR) : zSH ln 125 = (2, 11) := rfl
theorem shA126 (ln : ZR) : zSH ln 126 = (5, 4) := rfl
theorem shA127 (ln : ZR) : zSH ln 127 = (20, 32) := rfl
theorem shA128 (ln : ZR) : zSH ln 128 = (5, 4) := rfl
theorem shA129 (ln : ZR) : zSH ln 129 = (20, 432) := rfl
theorem shA130 (ln : ZR) : zSH ln 130 = (5, 4) := rfl
theorem shA131 (ln : ZR) : zSH ln 131 = (20, 120) := rfl
theorem shA132 (ln : ZR) : zSH ln 132 = (5, 4) := rfl
theorem shA133 (ln : ZR) : zSH ln 133 = (20, 60) := rfl
theorem shA134 (ln : ZR) : zSH ln 134 = (5, 4) := rfl
theorem shA135 (ln : ZR) : zSH ln 135 = (20, 72) := rfl
theorem shA136 (ln : ZR) : zSH ln 136 = (5, 4) := rfl
theorem shA137 (ln : ZR) : zSH ln 137 = (20, 24) := rfl
theorem shA138 (ln : ZR) : zSH ln 138 = (2, 11) := rfl
theorem shA139 (ln : ZR) : zSH ln 139 = (5, 4) := rfl
theorem shA140 (ln : ZR) : zSH ln 140 = (20, 32) := rfl
theorem shA141 (ln : ZR) : zSH ln 141 = (5, 4) := rfl
theorem shA142 (ln : ZR) : zSH ln 142 = (20, 432) := rfl
theorem shA143 (ln : ZR) : zSH ln 143 = (5, 4) := rfl
theorem shA144 (ln : ZR) : zSH ln 144 = (20, 120) := rfl
theorem shA145 (ln : ZR) : zSH ln 145 = (5, 4) := rfl
theorem shA146 (ln : ZR) : zSH ln 146 = (20, 60) := rfl
theorem shA147 (ln : ZR) : zSH ln 147 = (5, 4) := rfl
theorem shA148 (ln : ZR) : zSH ln 148 = (20, 72) := rfl
theorem shA149 (ln : ZR) : zSH ln 149 = (5, 4) := rfl
theorem shA150 (ln : ZR) : zSH ln 150 = (20, 24) := rfl
theorem kHA3 : isH 3 := by unfold isH; decide
theorem kHA17 : isH 17 := by unfold isH; decide
theorem kHA34 : isH 34 := by unfold isH; decide
theorem kHA47 : isH 47 := by unfold isH; decide
theorem kHA60 : isH 60 := by unfold isH; decide
theorem kHA73 : isH 73 := by unfold isH; decide
theorem kHA86 : isH 86 := by unfold isH; decide
theorem kHA99 : isH 99 := by unfold isH; decide
theorem kHA112 : isH 112 := by unfold isH; decide
theorem kHA125 : isH 125 := by unfold isH; decide
theorem kHA138 : isH 138 := by unfold isH; decide
theorem C_aast {μ : xM} {pc pc' : Nat} {L : List (Option Value)} {st : List Value} {ln : ZR} {N : Nat} {z : ZZ} {c9 s9 : Nat} {Φ : xRes → xS → Prop} {a v : Nat} {j : Int} (hd : decode (xB μ) pc = .ok (.aastore, 1)) (hp : pc + 1 = pc') (ha : a < N) (h151 : a < 151) (hs : zSH ln a = (23, 8)) (hj : 0 ≤ j ∧ j < 8) (hv : v < N) (hjv : 34 + 13 * j.toNat = v) (hsv : (zSH ln v).1 = 2) (hw : ((j.toNat : Nat) : Int) = j) (k9 : X μ pc' L st (zmkC ln N (zup z a j 1)) c9 s9 Φ) : X μ pc L (.ref v :: .int (iN j) :: .ref a :: st) (zmkC ln N z) c9 s9 Φ :=
  X_aastore hd hp ha hs (by decide) hj hv hsv (by
    rw [zmkC_up (w := .ref v) (v := 1) hw (by
      rw [← zSH_1 ln (Or.inl h151), hs]
      show Value.ref v = if zfix 23 j.toNat = true ∧ (1 : Int) = 0 then _ else (if j.toNat < 8 then Value.ref (34 + 13 * j.toNat) else Value.null)
      rw [if_neg (by omega), if_pos (by omega), hjv])]
    exact k9)
def zS (z : ZZ) : ZZ := (zup (zup (zup (zup (zup (zup (zup z 16 0 1) 16 1 0) 16 3 1) 16 4 0) 16 5 0) 16 6 0) 16 2 1)
theorem Zr_S {z : ZZ} {N : Nat} (h : Zr z N) (hN : 16 < N := by decide) : Zr (zS z) N := Zr_up (Zr_up (Zr_up (Zr_up (Zr_up (Zr_up (Zr_up h hN) hN) hN) hN) hN) hN) hN
set_option maxRecDepth 100000 in
theorem CX3_init {ln : ZR} {z : ZZ} (hz : Zr z 30) : X mX3_init 0 (xEnt [.ref 16, .ref 17] (xL mX3_init)) [] (zmkC ln 30 z) 2 603 (Qd True (.inl none) (zmkC ln 32 (zS z))) := by
  refine X_to (M := [some (.ref 16), some (.ref 17)]) (su := []) rfl rfl ?_
  refine X_aload_n (pc' := 1) dX3_init_0 rfl rfl ?_
  refine X_objInit (pc' := 4) dX3_init_1 rfl tq159 tq53 tq54 (by decide) (cs rfl) ?_
  refine X_aload_n (pc' := 5) dX3_init_4 rfl rfl ?_
  refine X_sipush (pc' := 8) dX3_init_5 rfl (by decide) ?_
  refine C_newi (n := 600) (c8 := 1) (s8 := 3) (pc' := 10) dX3_init_8 rfl tq75 ⟨by decide, rfl, by decide⟩ (by decide) (shA30 ln) hz rfl rfl ?_
  have hz1 : Zr z 31 := Zr_mono hz (by decide)
  refine C_put (k := 0) (j := 0) (w := 1) (pc' := 13) dX3_init_10 rfl FX3_9 (by decide) (congrArg Prod.fst (shA16 ln)) (fun r hr => by cases hr; exact Or.inr ⟨rfl, rfl⟩) (xFit_ref (by decide) (Or.inr ⟨_, rfl⟩)) rfl rfl ?_
  have hz2 : Zr (zup z 16 0 1) 31 := Zr_up hz1 (by decide)
  refine X_aload_n (pc' := 14) dX3_init_13 rfl rfl ?_
  refine X_iconst (pc' := 15) dX3_init_14 rfl ?_
  refine C_put (k := 1) (j := 1) (w := 0) (pc' := 18) dX3_init_15 rfl FX3_15 (by decide) (congrArg Prod.fst (shA16 ln)) (fun r hr => by cases hr; exact Or.inr ⟨rfl, rfl⟩) (xFit_int _) rfl rfl ?_
  have hz3 : Zr (zup (zup z 16 0 1) 16 1 0) 31 := Zr_up hz2 (by decide)
  refine X_aload_n (pc' := 19) dX3_init_18 rfl rfl ?_
  refine X_iconst (pc' := 20) dX3_init_19 rfl ?_
  refine C_newi (n := 3) (c8 := 0) (s8 := 0) (pc' := 22) dX3_init_20 rfl tq75 ⟨by decide, rfl, by decide⟩ (by decide) (shA31 ln) hz3 rfl rfl ?_
  have hz4 : Zr (zup (zup z 16 0 1) 16 1 0) 32 := Zr_mono hz3 (by decide)
  refine C_put (k := 3) (j := 3) (w := 1) (pc' := 25) dX3_init_22 rfl FX3_19 (by decide) (congrArg Prod.fst (shA16 ln)) (fun r hr => by cases hr; exact Or.inr ⟨rfl, rfl⟩) (xFit_ref (by decide) (Or.inr ⟨_, rfl⟩)) rfl rfl ?_
  have hz5 : Zr (zup (zup (zup z 16 0 1) 16 1 0) 16 3 1) 32 := Zr_up hz4 (by decide)
  refine X_aload_n (pc' := 26) dX3_init_25 rfl rfl ?_
  refine X_iconst (pc' := 27) dX3_init_26 rfl ?_
  refine C_put (k := 4) (j := 4) (w := 0) (pc' := 30) dX3_init_27 rfl FX3_22 (by decide) (congrArg Prod.fst (shA16 ln)) (fun r hr => by cases hr; exact Or.inr ⟨rfl, rfl⟩) (xFit_bool (Or.inl rfl)) rfl rfl ?_
  have hz6 : Zr (zup (zup (zup (zup z 16 0 1) 16 1 0) 16 3 1) 16 4 0) 32 := Zr_up hz5 (by decide)
  refine X_aload_n (pc' := 31) dX3_init_30 rfl rfl ?_
  refine X_iconst (pc' := 32) dX3_init_31 rfl ?_
  refine C_put (k := 5) (j := 5) (w := 0) (pc' := 35) dX3_init_32 rfl FX3_26 (by decide) (congrArg Prod.fst (shA16 ln)) (fun r hr => by cases hr; exact Or.inr ⟨rfl, rfl⟩) (xFit_int _) rfl rfl ?_
  have hz7 : Zr (zup (zup (zup (zup (zup z 16 0 1) 16 1 0) 16 3 1) 16 4 0) 16 5 0) 32 := Zr_up hz6 (by decide)
  refine X_aload_n (pc' := 36) dX3_init_35 rfl rfl ?_
  refine X_iconst (pc' := 37) dX3_init_36 rfl ?_
  refine C_put (k := 6) (j := 6) (w := 0) (pc' := 40) dX3_init_37 rfl FX3_29 (by decide) (congrArg Prod.fst (shA16 ln)) (fun r hr => by cases hr; exact Or.inr ⟨rfl, rfl⟩) (xFit_int _) rfl rfl ?_
  have hz8 : Zr (zup (zup (zup (zup (zup (zup z 16 0 1) 16 1 0) 16 3 1) 16 4 0) 16 5 0) 16 6 0) 32 := Zr_up hz7 (by decide)
  refine X_aload_n (pc' := 41) dX3_init_40 rfl rfl ?_
  refine X_aload_n (pc' := 42) dX3_init_41 rfl rfl ?_
  refine C_put (k := 2) (j := 2) (w := 1) (pc' := 45) dX3_init_42 rfl FX3_32 (by decide) (congrArg Prod.fst (shA16 ln)) (fun r hr => by cases hr; exact Or.inr ⟨rfl, rfl⟩) (xFit_ref (by decide) (Or.inl ⟨_, rfl⟩)) rfl rfl ?_
  have hz9 : Zr (zup (zup (zup (zup (zup (zup (zup z 16 0 1) 16 1 0) 16 3 1) 16 4 0) 16 5 0) 16 6 0) 16 2 1) 32 := Zr_up hz8 (by decide)
  exact X_vret dX3_init_45 rfl ⟨trivial, rfl, rfl⟩
def zHist (z : ZZ) : ZZ := (zup (zfill (zup (zfill (zup (zfill (zup (zfill (zup (zfill (zup (zfill (zup (zfill (zup (zfill (zup (zfill (zup (zup (zup (zup z 32 0 1) 32 1 0) 32 2 0) 32 4 0) 34 47) 33 0 1) 47 60) 33 1 1) 60 73) 33 2 1) 73 86) 33 3 1) 86 99) 33 4 1) 99 112) 33 5 1) 112 125) 33 6 1) 125 138) 33 7 1) 138 151) 32 3 1)
set_option maxRecDepth 100000 in
set_option maxHeartbeats 4000000 in
theorem CX2_init0 {ln : ZR} {z : ZZ} (hz : Zr z 32) : ∃ z', z' = zHist z ∧ X mX2_init 0 (xEnt [.ref 32, .ref 1] (xL mX2_init)) [] (zmkC ln 33 z) 118 6983 (Qd True (.inl none) (zmkC ln 151 z')) := by
  refine ⟨_, rfl, ?_⟩
  refine X_to (M := [some (.ref 32), some (.ref 1), none]) (su := []) rfl rfl ?_
  have hz0 : Zr z 33 := Zr_mono hz (by decide)
  refine X_aload_n (pc' := 1) dX2_init_0 rfl rfl ?_
  refine X_objInit (pc' := 4) dX2_init_1 rfl tq189 tq53 tq54 (by decide) (cs rfl) ?_
  refine X_aload_n (pc' := 5) dX2_init_4 rfl rfl ?_
  refine X_bipush (pc' := 7) dX2_init_5 rfl (by decide) ?_
  refine C_newq (c8 := 117) (s8 := 6975) (pc' := 10) dX2_init_7 rfl tq190 rfl (by decide) (shA33 ln) hz0 rfl rfl ?_
  have hz1 : Zr z 34 := Zr_mono hz0 (by decide)
  refine C_put (k := 0) (j := 0) (w := 1) (pc' := 13) dX2_init_10 rfl FX2_11 (by decide) (congrArg Prod.fst (shA32 ln)) (fun r hr => by cases hr; exact Or.inr ⟨rfl, rfl⟩) (xFit_ref (by decide) (Or.inr ⟨_, rfl⟩)) rfl rfl ?_
  have hz2 : Zr (zup z 32 0 1) 34 := Zr_up hz1 (by decide)
  refine X_aload_n (pc' := 14) dX2_init_13 rfl rfl ?_
  refine X_iconst (pc' := 15) dX2_init_14 rfl ?_
  refine C_put (k := 1) (j := 1) (w := 0) (pc' := 18) dX2_init_15 rfl FX2_17 (by decide) (congrArg Prod.fst (shA32 ln)) (fun r hr => by cases hr; exact Or.inr ⟨rfl, rfl⟩) (xFit_int _) rfl rfl ?_
  have hz3 : Zr (zup (zup z 32 0 1) 32 1 0) 34 := Zr_up hz2 (by decide)
  refine X_aload_n (pc' := 19) dX2_init_18 rfl rfl ?_
  refine X_iconst (pc' := 20) dX2_init_19 rfl ?_
  refine C_put (k := 2) (j := 2) (w := 0) (pc' := 23) dX2_init_20 rfl FX2_21 (by decide) (congrArg Prod.fst (shA32 ln)) (fun r hr => by cases hr; exact Or.inr ⟨rfl, rfl⟩) (xFit_int _) rfl rfl ?_
  have hz4 : Zr (zup (zup (zup z 32 0 1) 32 1 0) 32 2 0) 34 := Zr_up hz3 (by decide)
  refine X_aload_n (pc' := 24) dX2_init_23 rfl rfl ?_
  refine X_iconst (pc' := 25) dX2_init_24 rfl ?_
  refine C_put (k := 4) (j := 4) (w := 0) (pc' := 28) dX2_init_25 rfl FX2_24 (by decide) (congrArg Prod.fst (shA32 ln)) (fun r hr => by cases hr; exact Or.inr ⟨rfl, rfl⟩) (xFit_bool (Or.inl rfl)) rfl rfl ?_
  have hz5 : Zr (zup (zup (zup (zup z 32 0 1) 32 1 0) 32 2 0) 32 4 0) 34 := Zr_up hz4 (by decide)
  refine X_iconst (pc' := 29) dX2_init_28 rfl ?_
  refine X_istore_n (pc' := 30) dX2_init_29 rfl (cl rfl) (Or.inr rfl) (L' := [some (.ref 32), some (.ref 1), some (.int (iN 0))]) rfl ?_
  refine X_iload_n (pc' := 31) dX2_init_30 rfl rfl ?_
  refine X_aload_n (pc' := 32) dX2_init_31 rfl rfl ?_
  refine C_get (pc' := 35) dX2_init_32 rfl FX2_11 (by decide) (congrArg Prod.fst (shA32 ln)) (by rfl) ?_
  refine X_alen (pc' := 36) dX2_init_35 rfl (show 33 < 34 by decide) (shA33 ln) (by decide) ?_
  refine X_icmp_ge dX2_init_36 (tgt := 59) rfl (pc' := 39) rfl ⟨by decide, by decide, by decide, by decide⟩ (fun c => by omega) (fun _ => ?_)
  refine X_aload_n (pc' := 40) dX2_init_39 rfl rfl ?_
  refine C_get (pc' := 43) dX2_init_40 rfl FX2_11 (by decide) (congrArg Prod.fst (shA32 ln)) (by rfl) ?_
  refine X_iload_n (pc' := 44) dX2_init_43 rfl rfl ?_
  refine C_new (c := 1) (r := (RX1, TX1, 11)) (c8 := 116) (s8 := 6964) (pc' := 47) dX2_init_44 rfl rfl tq190 tq77 tq3 (by decide) (congrArg Prod.fst (shA34 ln)) (congrArg Prod.snd (shA34 ln)) hz5 (dfX1 _) rfl rfl ?_
  have hz6 : Zr (zup (zup (zup (zup z 32 0 1) 32 1 0) 32 2 0) 32 4 0) 35 := Zr_mono hz5 (by decide)
  refine X_dup (pc' := 48) dX2_init_47 rfl rfl ?_
  refine X_aload_n (pc' := 49) dX2_init_48 rfl rfl ?_
  refine C_callI [.ref 1] (pc' := 52) dX2_init_49 rfl IX2_28 (by decide) (by decide) rfl (cs rfl) (cs rfl) rfl (CX1_init kHA34 (Zr_mono hz5 (by decide))) (c7 := 104) (s7 := 6200) rfl rfl (fun _ => ?_)
  have hz7 : Zr (zfill (zup (zup (zup (zup z 32 0 1) 32 1 0) 32 2 0) 32 4 0) 34 47) 47 := Zr_fill hz5 (by decide)
  refine C_aast (v := 34) (j := 0) (pc' := 53) dX2_init_52 rfl (by decide) (by decide) (shA33 ln) (by decide) (by decide) (by decide) (congrArg Prod.fst (shA34 ln)) rfl ?_
  have hz8 : Zr (zup (zfill (zup (zup (zup (zup z 32 0 1) 32 1 0) 32 2 0) 32 4 0) 34 47) 33 0 1) 47 := Zr_up hz7 (by decide)
  refine X_iinc (pc' := 56) dX2_init_53 rfl rfl (Or.inr rfl) (L' := [some (.ref 32), some (.ref 1), some (.int (iN 1))]) rfl ?_
  refine X_goto dX2_init_56 (tgt := 30) rfl ?_
  refine X_iload_n (pc' := 31) dX2_init_30 rfl rfl ?_
  refine X_aload_n (pc' := 32) dX2_init_31 rfl rfl ?_
  refine C_get (pc' := 35) dX2_init_32 rfl FX2_11 (by decide) (congrArg Prod.fst (shA32 ln)) (by rfl) ?_
  refine X_alen (pc' := 36) dX2_init_35 rfl (show 33 < 47 by decide) (shA33 ln) (by decide) ?_
  refine X_icmp_ge dX2_init_36 (tgt := 59) rfl (pc' := 39) rfl ⟨by decide, by decide, by decide, by decide⟩ (fun c => by omega) (fun _ => ?_)
  refine X_aload_n (pc' := 40) dX2_init_39 rfl rfl ?_
  refine C_get (pc' := 43) dX2_init_40 rfl FX2_11 (by decide) (congrArg Prod.fst (shA32 ln)) (by rfl) ?_
  refine X_iload_n (pc' := 44) dX2_init_43 rfl rfl ?_
  refine C_new (c := 1) (r := (RX1, TX1, 11)) (c8 := 103) (s8 := 6189) (pc' := 47) dX2_init_44 rfl rfl tq190 tq77 tq3 (by decide) (congrArg Prod.fst (shA47 ln)) (congrArg Prod.snd (shA47 ln)) hz8 (dfX1 _) rfl rfl ?_
  have hz9 : Zr (zup (zfill (zup (zup (zup (zup z 32 0 1) 32 1 0) 32 2 0) 32 4 0) 34 47) 33 0 1) 48 := Zr_mono hz8 (by decide)
  refine X_dup (pc' := 48) dX2_init_47 rfl rfl ?_
  refine X_aload_n (pc' := 49) dX2_init_48 rfl rfl ?_
  refine C_callI [.ref 1] (pc' := 52) dX2_init_49 rfl IX2_28 (by decide) (by decide) rfl (cs rfl) (cs rfl) rfl (CX1_init kHA47 (Zr_mono hz8 (by decide))) (c7 := 91) (s7 := 5425) rfl rfl (fun _ => ?_)
  have hz10 : Zr (zfill (zup (zfill (zup (zup (zup (zup z 32 0 1) 32 1 0) 32 2 0) 32 4 0) 34 47) 33 0 1) 47 60) 60 := Zr_fill hz8 (by decide)
  refine C_aast (v := 47) (j := 1) (pc' := 53) dX2_init_52 rfl (by decide) (by decide) (shA33 ln) (by decide) (by decide) (by decide) (congrArg Prod.fst (shA47 ln)) rfl ?_
  have hz11 : Zr (zup (zfill (zup (zfill (zup (zup (zup (zup z 32 0 1) 32 1 0) 32 2 0) 32 4 0) 34 47) 33 0 1) 47 60) 33 1 1) 60 := Zr_up hz10 (by decide)
  refine X_iinc (pc' := 56) dX2_init_53 rfl rfl (Or.inr rfl) (L' := [some (.ref 32), some (.ref 1), some (.int (iN 2))]) rfl ?_
  refine X_goto dX2_init_56 (tgt := 30) rfl ?_
  refine X_iload_n (pc' := 31) dX2_init_30 rfl rfl ?_
  refine X_aload_n (pc' := 32) dX2_init_31 rfl rfl ?_
  refine C_get (pc' := 35) dX2_init_32 rfl FX2_11 (by decide) (congrArg Prod.fst (shA32 ln)) (by rfl) ?_
  refine X_alen (pc' := 36) dX2_init_35 rfl (show 33 < 60 by decide) (shA33 ln) (by decide) ?_
  refine X_icmp_ge dX2_init_36 (tgt := 59) rfl (pc' := 39) rfl ⟨by decide, by decide, by decide, by decide⟩ (fun c => by omega) (fun _ => ?_)
  refine X_aload_n (pc' := 40) dX2_init_39 rfl rfl ?_
  refine C_get (pc' := 43) dX2_init_40 rfl FX2_11 (by decide) (congrArg Prod.fst (shA32 ln)) (by rfl) ?_
  refine X_iload_n (pc' := 44) dX2_init_43 rfl rfl ?_
  refine C_new (c := 1) (r := (RX1, TX1, 11)) (c8 := 90) (s8 := 5414) (pc' := 47) dX2_init_44 rfl rfl tq190 tq77 tq3 (by decide) (congrArg Prod.fst (shA60 ln)) (congrArg Prod.snd (shA60 ln)) hz11 (dfX1 _) rfl rfl ?_
  have hz12 : Zr (zup (zfill (zup (zfill (zup (zup (zup (zup z 32 0 1) 32 1 0) 32 2 0) 32 4 0) 34 47) 33 0 1) 47 60) 33 1 1) 61 := Zr_mono hz11 (by decide)
  refine X_dup (pc' := 48) dX2_init_47 rfl rfl ?_
  refine X_aload_n (pc' := 49) dX2_init_48 rfl rfl ?_
  refine C_callI [.ref 1] (pc' := 52) dX2_init_49 rfl IX2_28 (by decide) (by decide) rfl (cs rfl) (cs rfl) rfl (CX1_init kHA60 (Zr_mono hz11 (by decide))) (c7 := 78) (s7 := 4650) rfl rfl (fun _ => ?_)
  have hz13 : Zr (zfill (zup (zfill (zup (zfill (zup (zup (zup (zup z 32 0 1) 32 1 0) 32 2 0) 32 4 0) 34 47) 33 0 1) 47 60) 33 1 1) 60 73) 73 := Zr_fill hz11 (by decide)
  refine C_aast (v := 60) (j := 2) (pc' := 53) dX2_init_52 rfl (by decide) (by decide) (shA33 ln) (by decide) (by decide) (by decide) (congrArg Prod.fst (shA60 ln)) rfl ?_
  have hz14 : Zr (zup (zfill (zup (zfill (zup (zfill (zup (zup (zup (zup z 32 0 1) 32 1 0) 32 2 0) 32 4 0) 34 47) 33 0 1) 47 60) 33 1 1) 60 73) 33 2 1) 73 := Zr_up hz13 (by decide)
  refine X_iinc (pc' := 56) dX2_init_53 rfl rfl (Or.inr rfl) (L' := [some (.ref 32), some (.ref 1), some (.int (iN 3))]) rfl ?_
  refine X_goto dX2_init_56 (tgt := 30) rfl ?_
  refine X_iload_n (pc' := 31) dX2_init_30 rfl rfl ?_
  refine X_aload_n (pc' := 32) dX2_init_31 rfl rfl ?_
  refine C_get (pc' := 35) dX2_init_32 rfl FX2_11 (by decide) (congrArg Prod.fst (shA32 ln)) (by rfl) ?_
  refine X_alen (pc' := 36) dX2_init_35 rfl (show 33 < 73 by decide) (shA33 ln) (by decide) ?_
  refine X_icmp_ge dX2_init_36 (tgt := 59) rfl (pc' := 39) rfl ⟨by decide, by decide, by decide, by decide⟩ (fun c => by omega) (fun _ => ?_)
  refine X_aload_n (pc' := 40) dX2_init_39 rfl rfl ?_
  refine C_get (pc' := 43) dX2_init_40 rfl FX2_11 (by decide) (congrArg Prod.fst (shA32 ln)) (by rfl) ?_
  refine X_iload_n (pc' := 44) dX2_init_43 rfl rfl ?_
  refine C_new (c := 1) (r := (RX1, TX1, 11)) (c8 := 77) (s8 := 4639) (pc' := 47) dX2_init_44 rfl rfl tq190 tq77 tq3 (by decide) (congrArg Prod.fst (shA73 ln)) (congrArg Prod.snd (shA73 ln)) hz14 (dfX1 _) rfl rfl ?_
  have hz15 : Zr (zup (zfill (zup (zfill (zup (zfill (zup (zup (zup (zup z 32 0 1) 32 1 0) 32 2 0) 32 4 0) 34 47) 33 0 1) 47 60) 33 1 1) 60 73) 33 2 1) 74 := Zr_mono hz14 (by decide)
  refine X_dup (pc' := 48) dX2_init_47 rfl rfl ?_
  refine X_aload_n (pc' := 49) dX2_init_48 rfl rfl ?_
  refine C_callI [.ref 1] (pc' := 52) dX2_init_49 rfl IX2_28 (by decide) (by decide) rfl (cs rfl) (cs rfl) rfl (CX1_init kHA73 (Zr_mono hz14 (by decide))) (c7 := 65) (s7 := 3875) rfl rfl (fun _ => ?_)
  have hz16 : Zr (zfill (zup (zfill (zup (zfill (zup (zfill (zup (zup (zup (zup z 32 0 1) 32 1 0) 32 2 0) 32 4 0) 34 47) 33 0 1) 47 60) 33 1 1) 60 73) 33 2 1) 73 86) 86 := Zr_fill hz14 (by decide)
  refine C_aast (v := 73) (j := 3) (pc' := 53) dX2_init_52 rfl (by decide) (by decide) (shA33 ln) (by decide) (by decide) (by decide) (congrArg Prod.fst (shA73 ln)) rfl ?_
  have hz17 : Zr (zup (zfill (zup (zfill (zup (zfill (zup (zfill (zup (zup (zup (zup z 32 0 1) 32 1 0) 32 2 0) 32 4 0) 34 47) 33 0 1) 47 60) 33 1 1) 60 73) 33 2 1) 73 86) 33 3 1) 86 := Zr_up hz16 (by decide)
  refine X_iinc (pc' := 56) dX2_init_53 rfl rfl (Or.inr rfl) (L' := [some (.ref 32), some (.ref 1), some (.int (iN 4))]) rfl ?_
  refine X_goto dX2_init_56 (tgt := 30) rfl ?_
  refine X_iload_n (pc' := 31) dX2_init_30 rfl rfl ?_
  refine X_aload_n (pc' := 32) dX2_init_31 rfl rfl ?_
  refine C_get (pc' := 35) dX2_init_32 rfl FX2_11 (by decide) (congrArg Prod.fst (shA32 ln)) (by rfl) ?_
  refine X_alen (pc' := 36) dX2_init_35 rfl (show 33 < 86 by decide) (shA33 ln) (by decide) ?_
  refine X_icmp_ge dX2_init_36 (tgt := 59) rfl (pc' := 39) rfl ⟨by decide, by decide, by decide, by decide⟩ (fun c => by omega) (fun _ => ?_)
  refine X_aload_n (pc' := 40) dX2_init_39 rfl rfl ?_
  refine C_get (pc' := 43) dX2_init_40 rfl FX2_11 (by decide) (congrArg Prod.fst (shA32 ln)) (by rfl) ?_
  refine X_iload_n (pc' := 44) dX2_init_43 rfl rfl ?_
  refine C_new (c := 1) (r := (RX1, TX1, 11)) (c8 := 64) (s8 := 3864) (pc' := 47) dX2_init_44 rfl rfl tq190 tq77 tq3 (by decide) (congrArg Prod.fst (shA86 ln)) (congrArg Prod.snd (shA86 ln)) hz17 (dfX1 _) rfl rfl ?_
  have hz18 : Zr (zup (zfill (zup (zfill (zup (zfill (zup (zfill (zup (zup (zup (zup z 32 0 1) 32 1 0) 32 2 0) 32 4 0) 34 47) 33 0 1) 47 60) 33 1 1) 60 73) 33 2 1) 73 86) 33 3 1) 87 := Zr_mono hz17 (by decide)
  refine X_dup (pc' := 48) dX2_init_47 rfl rfl ?_
  refine X_aload_n (pc' := 49) dX2_init_48 rfl rfl ?_
  refine C_callI [.ref 1] (pc' := 52) dX2_init_49 rfl IX2_28 (by decide) (by decide) rfl (cs rfl) (cs rfl) rfl (CX1_init kHA86 (Zr_mono hz17 (by decide))) (c7 := 52) (s7 := 3100) rfl rfl (fun _ => ?_)
  have hz19 : Zr (zfill (zup (zfill (zup (zfill (zup (zfill (zup (zfill (zup (zup (zup (zup z 32 0 1) 32 1 0) 32 2 0) 32 4 0) 34 47) 33 0 1) 47 60) 33 1 1) 60 73) 33 2 1) 73 86) 33 3 1) 86 99) 99 := Zr_fill hz17 (by decide)
  refine C_aast (v := 86) (j := 4) (pc' := 53) dX2_init_52 rfl (by decide) (by decide) (shA33 ln) (by decide) (by decide) (by decide) (congrArg Prod.fst (shA86 ln)) rfl ?_
  have hz20 : Zr (zup (zfill (zup (zfill (zup (zfill (zup (zfill (zup (zfill (zup (zup (zup (zup z 32 0 1) 32 1 0) 32 2 0) 32 4 0) 34 47) 33 0 1) 47 60) 33 1 1) 60 73) 33 2 1) 73 86) 33 3 1) 86 99) 33 4 1) 99 := Zr_up hz19 (by decide)
  refine X_iinc (pc' := 56) dX2_init_53 rfl rfl (Or.inr rfl) (L' := [some (.ref 32), some (.ref 1), some (.int (iN 5))]) rfl ?_
  refine X_goto dX2_init_56 (tgt := 30) rfl ?_
  refine X_iload_n (pc' := 31) dX2_init_30 rfl rfl ?_
  refine X_aload_n (pc' := 32) dX2_init_31 rfl rfl ?_
  refine C_get (pc' := 35) dX2_init_32 rfl FX2_11 (by decide) (congrArg Prod.fst (shA32 ln)) (by rfl) ?_
  refine X_alen (pc' := 36) dX2_init_35 rfl (show 33 < 99 by decide) (shA33 ln) (by decide) ?_
  refine X_icmp_ge dX2_init_36 (tgt := 59) rfl (pc' := 39) rfl ⟨by decide, by decide, by decide, by decide⟩ (fun c => by omega) (fun _ => ?_)
  refine X_aload_n (pc' := 40) dX2_init_39 rfl rfl ?_
  refine C_get (pc' := 43) dX2_init_40 rfl FX2_11 (by decide) (congrArg Prod.fst (shA32 ln)) (by rfl) ?_
  refine X_iload_n (pc' := 44) dX2_init_43 rfl rfl ?_
  refine C_new (c := 1) (r := (RX1, TX1, 11)) (c8 := 51) (s8 := 3089) (pc' := 47) dX2_init_44 rfl rfl tq190 tq77 tq3 (by decide) (congrArg Prod.fst (shA99 ln)) (congrArg Prod.snd (shA99 ln)) hz20 (dfX1 _) rfl rfl ?_
  have hz21 : Zr (zup (zfill (zup (zfill (zup (zfill (zup (zfill (zup (zfill (zup (zup (zup (zup z 32 0 1) 32 1 0) 32 2 0) 32 4 0) 34 47) 33 0 1) 47 60) 33 1 1) 60 73) 33 2 1) 73 86) 33 3 1) 86 99) 33 4 1) 100 := Zr_mono hz20 (by decide)
  refine X_dup (pc' := 48) dX2_init_47 rfl rfl ?_
  refine X_aload_n (pc' := 49) dX2_init_48 rfl rfl ?_
  refine C_callI [.ref 1] (pc' := 52) dX2_init_49 rfl IX2_28 (by decide) (by decide) rfl (cs rfl) (cs rfl) rfl (CX1_init kHA99 (Zr_mono hz20 (by decide))) (c7 := 39) (s7 := 2325) rfl rfl (fun _ => ?_)
  have hz22 : Zr (zfill (zup (zfill (zup (zfill (zup (zfill (zup (zfill (zup (zfill (zup (zup (zup (zup z 32 0 1) 32 1 0) 32 2 0) 32 4 0) 34 47) 33 0 1) 47 60) 33 1 1) 60 73) 33 2 1) 73 86) 33 3 1) 86 99) 33 4 1) 99 112) 112 := Zr_fill hz20 (by decide)
  refine C_aast (v := 99) (j := 5) (pc' := 53) dX2_init_52 rfl (by decide) (by decide) (shA33 ln) (by decide) (by decide) (by decide) (congrArg Prod.fst (shA99 ln)) rfl ?_
  have hz23 : Zr (zup (zfill (zup (zfill (zup (zfill (zup (zfill (zup (zfill (zup (zfill (zup (zup (zup (zup z 32 0 1) 32 1 0) 32 2 0) 32 4 0) 34 47) 33 0 1) 47 60) 33 1 1) 60 73) 33 2 1) 73 86) 33 3 1) 86 99) 33 4 1) 99 112) 33 5 1) 112 := Zr_up hz22 (by decide)
  refine X_iinc (pc' := 56) dX2_init_53 rfl rfl (Or.inr rfl) (L' := [some (.ref 32), some (.ref 1), some (.int (iN 6))]) rfl ?_
  refine X_goto dX2_init_56 (tgt := 30) rfl ?_
  refine X_iload_n (pc' := 31) dX2_init_30 rfl rfl ?_
  refine X_aload_n (pc' := 32) dX2_init_31 rfl rfl ?_
  refine C_get (pc' := 35) dX2_init_32 rfl FX2_11 (by decide) (congrArg Prod.fst (shA32 ln)) (by rfl) ?_
  refine X_alen (pc' := 36) dX2_init_35 rfl (show 33 < 112 by decide) (shA33 ln) (by decide) ?_
  refine X_icmp_ge dX2_init_36 (tgt := 59) rfl (pc' := 39) rfl ⟨by decide, by decide, by decide, by decide⟩ (fun c => by omega) (fun _ => ?_)
  refine X_aload_n (pc' := 40) dX2_init_39 rfl rfl ?_
  refine C_get (pc' := 43) dX2_init_40 rfl FX2_11 (by decide) (congrArg Prod.fst (shA32 ln)) (by rfl) ?_
  refine X_iload_n (pc' := 44) dX2_init_43 rfl rfl ?_
  refine C_new (c := 1) (r := (RX1, TX1, 11)) (c8 := 38) (s8 := 2314) (pc' := 47) dX2_init_44 rfl rfl tq190 tq77 tq3 (by decide) (congrArg Prod.fst (shA112 ln)) (congrArg Prod.snd (shA112 ln)) hz23 (dfX1 _) rfl rfl ?_
  have hz24 : Zr (zup (zfill (zup (zfill (zup (zfill (zup (zfill (zup (zfill (zup (zfill (zup (zup (zup (zup z 32 0 1) 32 1 0) 32 2 0) 32 4 0) 34 47) 33 0 1) 47 60) 33 1 1) 60 73) 33 2 1) 73 86) 33 3 1) 86 99) 33 4 1) 99 112) 33 5 1) 113 := Zr_mono hz23 (by decide)
  refine X_dup (pc' := 48) dX2_init_47 rfl rfl ?_
  refine X_aload_n (pc' := 49) dX2_init_48 rfl rfl ?_
  refine C_callI [.ref 1] (pc' := 52) dX2_init_49 rfl IX2_28 (by decide) (by decide) rfl (cs rfl) (cs rfl) rfl (CX1_init kHA112 (Zr_mono hz23 (by decide))) (c7 := 26) (s7 := 1550) rfl rfl (fun _ => ?_)
  have hz25 : Zr (zfill (zup (zfill (zup (zfill (zup (zfill (zup (zfill (zup (zfill (zup (zfill (zup (zup (zup (zup z 32 0 1) 32 1 0) 32 2 0) 32 4 0) 34 47) 33 0 1) 47 60) 33 1 1) 60 73) 33 2 1) 73 86) 33 3 1) 86 99) 33 4 1) 99 112) 33 5 1) 112 125) 125 := Zr_fill hz23 (by decide)
  refine C_aast (v := 112) (j := 6) (pc' := 53) dX2_init_52 rfl (by decide) (by decide) (shA33 ln) (by decide) (by decide) (by decide) (congrArg Prod.fst (shA112 ln)) rfl ?_
  have hz26 : Zr (zup (zfill (zup (zfill (zup (zfill (zup (zfill (zup (zfill (zup (zfill (zup (zfill (zup (zup (zup (zup z 32 0 1) 32 1 0) 32 2 0) 32 4 0) 34 47) 33 0 1) 47 60) 33 1 1) 60 73) 33 2 1) 73 86) 33 3 1) 86 99) 33 4 1) 99 112) 33 5 1) 112 125) 33 6 1) 125 := Zr_up hz25 (by decide)
  refine X_iinc (pc' := 56) dX2_init_53 rfl rfl (Or.inr rfl) (L' := [some (.ref 32), some (.ref 1), some (.int (iN 7))]) rfl ?_
  refine X_goto dX2_init_56 (tgt := 30) rfl ?_
  refine X_iload_n (pc' := 31) dX2_init_30 rfl rfl ?_
  refine X_aload_n (pc' := 32) dX2_init_31 rfl rfl ?_
  refine C_get (pc' := 35) dX2_init_32 rfl FX2_11 (by decide) (congrArg Prod.fst (shA32 ln)) (by rfl) ?_
  refine X_alen (pc' := 36) dX2_init_35 rfl (show 33 < 125 by decide) (shA33 ln) (by decide) ?_
  refine X_icmp_ge dX2_init_36 (tgt := 59) rfl (pc' := 39) rfl ⟨by decide, by decide, by decide, by decide⟩ (fun c => by omega) (fun _ => ?_)
  refine X_aload_n (pc' := 40) dX2_init_39 rfl rfl ?_
  refine C_get (pc' := 43) dX2_init_40 rfl FX2_11 (by decide) (congrArg Prod.fst (shA32 ln)) (by rfl) ?_
  refine X_iload_n (pc' := 44) dX2_init_43 rfl rfl ?_
  refine C_new (c := 1) (r := (RX1, TX1, 11)) (c8 := 25) (s8 := 1539) (pc' := 47) dX2_init_44 rfl rfl tq190 tq77 tq3 (by decide) (congrArg Prod.fst (shA125 ln)) (congrArg Prod.snd (shA125 ln)) hz26 (dfX1 _) rfl rfl ?_
  have hz27 : Zr (zup (zfill (zup (zfill (zup (zfill (zup (zfill (zup (zfill (zup (zfill (zup (zfill (zup (zup (zup (zup z 32 0 1) 32 1 0) 32 2 0) 32 4 0) 34 47) 33 0 1) 47 60) 33 1 1) 60 73) 33 2 1) 73 86) 33 3 1) 86 99) 33 4 1) 99 112) 33 5 1) 112 125) 33 6 1) 126 := Zr_mono hz26 (by decide)
  refine X_dup (pc' := 48) dX2_init_47 rfl rfl ?_
  refine X_aload_n (pc' := 49) dX2_init_48 rfl rfl ?_
  refine C_callI [.ref 1] (pc' := 52) dX2_init_49 rfl IX2_28 (by decide) (by decide) rfl (cs rfl) (cs rfl) rfl (CX1_init kHA125 (Zr_mono hz26 (by decide))) (c7 := 13) (s7 := 775) rfl rfl (fun _ => ?_)
  have hz28 : Zr (zfill (zup (zfill (zup (zfill (zup (zfill (zup (zfill (zup (zfill (zup (zfill (zup (zfill (zup (zup (zup (zup z 32 0 1) 32 1 0) 32 2 0) 32 4 0) 34 47) 33 0 1) 47 60) 33 1 1) 60 73) 33 2 1) 73 86) 33 3 1) 86 99) 33 4 1) 99 112) 33 5 1) 112 125) 33 6 1) 125 138) 138 := Zr_fill hz26 (by decide)
  refine C_aast (v := 125) (j := 7) (pc' := 53) dX2_init_52 rfl (by decide) (by decide) (shA33 ln) (by decide) (by decide) (by decide) (congrArg Prod.fst (shA125 ln)) rfl ?_
  have hz29 : Zr (zup (zfill (zup (zfill (zup (zfill (zup (zfill (zup (zfill (zup (zfill (zup (zfill (zup (zfill (zup (zup (zup (zup z 32 0 1) 32 1 0) 32 2 0) 32 4 0) 34 47) 33 0 1) 47 60) 33 1 1) 60 73) 33 2 1) 73 86) 33 3 1) 86 99) 33 4 1) 99 112) 33 5 1) 112 125) 33 6 1) 125 138) 33 7 1) 138 := Zr_up hz28 (by decide)
  refine X_iinc (pc' := 56) dX2_init_53 rfl rfl (Or.inr rfl) (L' := [some (.ref 32), some (.ref 1), some (.int (iN 8))]) rfl ?_
  refine X_goto dX2_init_56 (tgt := 30) rfl ?_
  refine X_iload_n (pc' := 31) dX2_init_30 rfl rfl ?_
  refine X_aload_n (pc' := 32) dX2_init_31 rfl rfl ?_
  refine C_get (pc' := 35) dX2_init_32 rfl FX2_11 (by decide) (congrArg Prod.fst (shA32 ln)) (by rfl) ?_
  refine X_alen (pc' := 36) dX2_init_35 rfl (show 33 < 138 by decide) (shA33 ln) (by decide) ?_
  refine X_icmp_ge dX2_init_36 (tgt := 59) rfl (pc' := 39) rfl ⟨by decide, by decide, by decide, by decide⟩ (fun _ => ?_) (fun c => by omega)
  refine X_aload_n (pc' := 60) dX2_init_59 rfl rfl ?_
  refine C_new (c := 1) (r := (RX1, TX1, 11)) (c8 := 12) (s8 := 764) (pc' := 63) dX2_init_60 rfl rfl tq190 tq77 tq3 (by decide) (congrArg Prod.fst (shA138 ln)) (congrArg Prod.snd (shA138 ln)) hz29 (dfX1 _) rfl rfl ?_
  have hz30 : Zr (zup (zfill (zup (zfill (zup (zfill (zup (zfill (zup (zfill (zup (zfill (zup (zfill (zup (zfill (zup (zup (zup (zup z 32 0 1) 32 1 0) 32 2 0) 32 4 0) 34 47) 33 0 1) 47 60) 33 1 1) 60 73) 33 2 1) 73 86) 33 3 1) 86 99) 33 4 1) 99 112) 33 5 1) 112 125) 33 6 1) 125 138) 33 7 1) 139 := Zr_mono hz29 (by decide)
  refine X_dup (pc' := 64) dX2_init_63 rfl rfl ?_
  refine X_aload_n (pc' := 65) dX2_init_64 rfl rfl ?_
  refine C_callI [.ref 1] (pc' := 68) dX2_init_65 rfl IX2_28 (by decide) (by decide) rfl (cs rfl) (cs rfl) rfl (CX1_init kHA138 (Zr_mono hz29 (by decide))) (c7 := 0) (s7 := 0) rfl rfl (fun _ => ?_)
  have hz31 : Zr (zfill (zup (zfill (zup (zfill (zup (zfill (zup (zfill (zup (zfill (zup (zfill (zup (zfill (zup (zfill (zup (zup (zup (zup z 32 0 1) 32 1 0) 32 2 0) 32 4 0) 34 47) 33 0 1) 47 60) 33 1 1) 60 73) 33 2 1) 73 86) 33 3 1) 86 99) 33 4 1) 99 112) 33 5 1) 112 125) 33 6 1) 125 138) 33 7 1) 138 151) 151 := Zr_fill hz29 (by decide)
  refine C_put (k := 3) (j := 3) (w := 1) (pc' := 71) dX2_init_68 rfl FX2_31 (by decide) (congrArg Prod.fst (shA32 ln)) (fun r hr => by cases hr; exact Or.inr ⟨rfl, rfl⟩) (xFit_ref (by decide) (Or.inl ⟨_, rfl⟩)) rfl rfl ?_
  have hz32 : Zr (zup (zfill (zup (zfill (zup (zfill (zup (zfill (zup (zfill (zup (zfill (zup (zfill (zup (zfill (zup (zfill (zup (zup (zup (zup z 32 0 1) 32 1 0) 32 2 0) 32 4 0) 34 47) 33 0 1) 47 60) 33 1 1) 60 73) 33 2 1) 73 86) 33 3 1) 86 99) 33 4 1) 99 112) 33 5 1) 112 125) 33 6 1) 125 138) 33 7 1) 138 151) 32 3 1) 151 := Zr_up hz31 (by decide)
  exact X_vret dX2_init_71 rfl ⟨trivial, rfl, rfl⟩
set_option maxHeartbeats 4000000 in
theorem zHist_fill {z : ZZ} (hz : Zr z 32) : zHist z = zfill z 32 151 := by
  funext a k
  unfold zHist
  by_cases e : a = 32
  · subst e
    have h0 := hz 32 (by omega) (by omega) k
    simp [zup, zfill, shA32, zini_Hi, h0]
    try repeat' (first | omega | split)
  · by_cases e1 : a = 33
    · subst e1
      have h0 := hz 33 (by omega) (by omega) k
      simp [zup, zfill, shA33, zini_q, h0]
      try repeat' (first | omega | split)
    · simp only [zup, zfill, e, e1, false_and, if_false]
      repeat (first | (split <;> first | omega | rfl | skip))
      all_goals first | omega | rfl
theorem CX2_init {ln : ZR} {z : ZZ} (hz : Zr z 32) : X mX2_init 0 (xEnt [.ref 32, .ref 1] (xL mX2_init)) [] (zmkC ln 33 z) 118 6983 (Qd True (.inl none) (zmkC ln 151 (zfill z 32 151))) := by
  obtain ⟨z', e, h⟩ := CX2_init0 (ln := ln) hz
  rw [e, zHist_fill hz] at h
  exact h
def fX5_rest (z : ZZ) : Option ZZ := (Option.bind (fX1_addWall 3 (12) (0) (7) z) fun z1 => (Option.bind (fX1_addWall 3 (15) (1) (10) z1) fun z2 => (Option.bind (fX1_addHarness 3 (1) (30) z2) fun z3 => (Option.bind (fX1_addHarness 3 (1) (60) z3) fun z4 => (Option.bind (fX1_addMember 3 (1) (0) z4) fun z5 => (Option.bind (fX1_addMember 3 (1) (1) z5) fun z6 => (Option.bind (fX1_addCourse 3 (1) (4) (5) z6) fun z7 => some z7)))))))
set_option maxRecDepth 100000 in
theorem TfX5_rest {ln : ZR} {N : Nat} {z : ZZ} {c9 s9 : Nat} {Φ : xRes → xS → Prop} (hN : 151 ≤ N ∧ N < 999999) (hz : okz z) {p : ZZ} (h : fX5_rest z = some p) (k : Fin_w Φ ln N p) : X mX5_init 55 [some (.ref (0)), none] [] (zmk ln N z) c9 s9 Φ := by
  unfold fX5_rest at h
  refine X_aload_n (pc' := 56) dX5_init_55 rfl rfl ?_
  refine Y_get (pc' := 59) dX5_init_56 rfl FX5_17 (zlN hN (by decide)) (congrArg Prod.fst (sh0 ln)) (ct0_0 z) ?_
  refine X_bipush (pc' := 61) dX5_init_59 rfl (by decide) ?_
  refine X_iconst (pc' := 62) dX5_init_61 rfl ?_
  refine X_bipush (pc' := 64) dX5_init_62 rfl (by decide) ?_
  obtain ⟨z1, q1, h⟩ := bs h
  refine Y_callVv [.int (iN (12)), .int (iN (0)), .int (iN (7))] (pc' := 67) dX5_init_64 rfl VX5_37 (by decide) (zlN hN (by decide)) (congrArg Prod.fst (sh3 ln)) rfl rfl rfl (cs rfl) (cs rfl) rfl (CX1_addWall hN hz kH3 (inR_c (n := 12) rfl) (inR_c (n := 0) rfl) (inR_c (n := 7) rfl) q1) (Nat.zero_add _).symm (Nat.zero_add _).symm (fun f1 => ?_)
  refine X_aload_n (pc' := 68) dX5_init_67 rfl rfl ?_
  refine Y_get (pc' := 71) dX5_init_68 rfl FX5_17 (zlN hN (by decide)) (congrArg Prod.fst (sh0 ln)) (ct0_0 z1) ?_
  refine X_bipush (pc' := 73) dX5_init_71 rfl (by decide) ?_
  refine X_iconst (pc' := 74) dX5_init_73 rfl ?_
  refine X_bipush (pc' := 76) dX5_init_74 rfl (by decide) ?_
  obtain ⟨z2, q2, h⟩ := bs h
  refine Y_callVv [.int (iN (15)), .int (iN (1)), .int (iN (10))] (pc' := 79) dX5_init_76 rfl VX5_37 (by decide) (zlN hN (by decide)) (congrArg Prod.fst (sh3 ln)) rfl rfl rfl (cs rfl) (cs rfl) rfl (CX1_addWall hN f1 kH3 (inR_c (n := 15) rfl) (inR_c (n := 1) rfl) (inR_c (n := 10) rfl) q2) (Nat.zero_add _).symm (Nat.zero_add _).symm (fun f2 => ?_)
  refine X_aload_n (pc' := 80) dX5_init_79 rfl rfl ?_
  refine Y_get (pc' := 83) dX5_init_80 rfl FX5_17 (zlN hN (by decide)) (congrArg Prod.fst (sh0 ln)) (ct0_0 z2) ?_
  refine X_iconst (pc' := 84) dX5_init_83 rfl ?_
  refine X_bipush (pc' := 86) dX5_init_84 rfl (by decide) ?_
  obtain ⟨z3, q3, h⟩ := bs h
  refine Y_callVv [.int (iN (1)), .int (iN (30))] (pc' := 89) dX5_init_86 rfl VX5_41 (by decide) (zlN hN (by decide)) (congrArg Prod.fst (sh3 ln)) rfl rfl rfl (cs rfl) (cs rfl) rfl (CX1_addHarness hN f2 kH3 (inR_c (n := 1) rfl) (inR_c (n := 30) rfl) q3) (Nat.zero_add _).symm (Nat.zero_add _).symm (fun f3 => ?_)
  refine X_aload_n (pc' := 90) dX5_init_89 rfl rfl ?_
  refine Y_get (pc' := 93) dX5_init_90 rfl FX5_17 (zlN hN (by decide)) (congrArg Prod.fst (sh0 ln)) (ct0_0 z3) ?_
  refine X_iconst (pc' := 94) dX5_init_93 rfl ?_
  refine X_bipush (pc' := 96) dX5_init_94 rfl (by decide) ?_
  obtain ⟨z4, q4, h⟩ := bs h
  refine Y_callVv [.int (iN (1)), .int (iN (60))] (pc' := 99) dX5_init_96 rfl VX5_41 (by decide) (zlN hN (by decide)) (congrArg Prod.fst (sh3 ln)) rfl rfl rfl (cs rfl) (cs rfl) rfl (CX1_addHarness hN f3 kH3 (inR_c (n := 1) rfl) (inR_c (n := 60) rfl) q4) (Nat.zero_add _).symm (Nat.zero_add _).symm (fun f4 => ?_)
  refine X_aload_n (pc' := 100) dX5_init_99 rfl rfl ?_
  refine Y_get (pc' := 103) dX5_init_100 rfl FX5_17 (zlN hN (by decide)) (congrArg Prod.fst (sh0 ln)) (ct0_0 z4) ?_
  refine X_iconst (pc' := 104) dX5_init_103 rfl ?_
  refine X_iconst (pc' := 105) dX5_init_104 rfl ?_
  obtain ⟨z5, q5, h⟩ := bs h
  refine Y_callVv [.int (iN (1)), .int (iN (0))] (pc' := 108) dX5_init_105 rfl VX5_45 (by decide) (zlN hN (by decide)) (congrArg Prod.fst (sh3 ln)) rfl rfl rfl (cs rfl) (cs rfl) rfl (CX1_addMember hN f4 kH3 (inR_c (n := 1) rfl) (inR_c (n := 0) rfl) q5) (Nat.zero_add _).symm (Nat.zero_add _).symm (fun f5 => ?_)
  refine X_aload_n (pc' := 109) dX5_init_108 rfl rfl ?_
  refine Y_get (pc' := 112) dX5_init_109 rfl FX5_17 (zlN hN (by decide)) (congrArg Prod.fst (sh0 ln)) (ct0_0 z5) ?_
  refine X_iconst (pc' := 113) dX5_init_112 rfl ?_
  refine X_iconst (pc' := 114) dX5_init_113 rfl ?_
  obtain ⟨z6, q6, h⟩ := bs h
  refine Y_callVv [.int (iN (1)), .int (iN (1))] (pc' := 117) dX5_init_114 rfl VX5_45 (by decide) (zlN hN (by decide)) (congrArg Prod.fst (sh3 ln)) rfl rfl rfl (cs rfl) (cs rfl) rfl (CX1_addMember hN f5 kH3 (inR_c (n := 1) rfl) (inR_c (n := 1) rfl) q6) (Nat.zero_add _).symm (Nat.zero_add _).symm (fun f6 => ?_)
  refine X_aload_n (pc' := 118) dX5_init_117 rfl rfl ?_
  refine Y_get (pc' := 121) dX5_init_118 rfl FX5_17 (zlN hN (by decide)) (congrArg Prod.fst (sh0 ln)) (ct0_0 z6) ?_
  refine X_iconst (pc' := 122) dX5_init_121 rfl ?_
  refine X_iconst (pc' := 123) dX5_init_122 rfl ?_
  refine X_iconst (pc' := 124) dX5_init_123 rfl ?_
  obtain ⟨z7, q7, h⟩ := bs h
  refine Y_callVv [.int (iN (1)), .int (iN (4)), .int (iN (5))] (pc' := 127) dX5_init_124 rfl VX5_48 (by decide) (zlN hN (by decide)) (congrArg Prod.fst (sh3 ln)) rfl rfl rfl (cs rfl) (cs rfl) rfl (CX1_addCourse hN f6 kH3 (inR_c (n := 1) rfl) (inR_c (n := 4) rfl) (inR_c (n := 5) rfl) q7) (Nat.zero_add _).symm (Nat.zero_add _).symm (fun f7 => ?_)
  cases h
  exact X_vret dX5_init_127 rfl (k f7)
theorem zini_fix {s k : Nat} (h : zfix s k = true) : zini s k ≠ 0 := by
  unfold zini
  rw [if_pos ⟨by omega, by rw [Int.toNat_natCast]; exact h⟩]
  decide
theorem okz_fill {z : ZZ} {b e : Nat} (h : okz z) : okz (zfill z b e) := by
  intro a k ha
  simp only [zfill]
  split
  · unfold zini
    repeat' split
    all_goals exact inR_c rfl
  · exact h a k ha
def zCH (z : ZZ) : ZZ := (zup (zfill (zup (zS (zfill (zup (zfill (zfill z 1 3) 3 16) 0 0 1) 17 30)) 0 1 1) 32 151) 0 2 1)
set_option maxRecDepth 100000 in
set_option maxHeartbeats 4000000 in
theorem CX5_init0 {ln : ZR} {z : ZZ} (hz : Zr z 0) : ∃ z', z' = zCH z ∧ ∀ {Φ : xRes → xS → Prop}, (X mX5_init 55 [some (.ref 0), some (.ref 1)] [] (zmkC ln 151 z') 0 0 Φ) → X mX5_init 0 (xEnt [.ref 0] (xL mX5_init)) [] (zmkC ln 1 z) 150 9182 Φ := by
  refine ⟨_, rfl, fun {Φ} kk => ?_⟩
  refine X_to (M := [some (.ref 0), none]) (su := []) rfl rfl ?_
  have hz0 : Zr z 1 := Zr_mono hz (by decide)
  refine X_aload_n (pc' := 1) dX5_init_0 rfl rfl ?_
  refine X_objInit (pc' := 4) dX5_init_1 rfl tq52 tq53 tq54 (by decide) (cs rfl) ?_
  refine C_new (c := 0) (r := (RX0, TX0, 4)) (c8 := 149) (s8 := 9178) (pc' := 7) dX5_init_4 rfl rfl tq55 tq56 tq2 (by decide) (congrArg Prod.fst (shA1 ln)) (congrArg Prod.snd (shA1 ln)) hz0 (dfX0 _) rfl rfl ?_
  have hz1 : Zr z 2 := Zr_mono hz0 (by decide)
  refine X_dup (pc' := 8) dX5_init_7 rfl rfl ?_
  refine C_callI [] (pc' := 11) dX5_init_8 rfl IX5_11 (by decide) (by decide) rfl (cs rfl) (cs rfl) rfl (CX0_init hz0) (c7 := 148) (s7 := 9148) rfl rfl (fun _ => ?_)
  have hz2 : Zr (zfill z 1 3) 3 := Zr_fill hz0 (by decide)
  refine X_astore_n (pc' := 12) dX5_init_11 rfl (cl rfl) (Or.inr rfl) (by decide) (L' := [some (.ref 0), some (.ref 1)]) rfl ?_
  refine X_aload_n (pc' := 13) dX5_init_12 rfl rfl ?_
  refine C_new (c := 1) (r := (RX1, TX1, 11)) (c8 := 147) (s8 := 9137) (pc' := 16) dX5_init_13 rfl rfl tq76 tq77 tq3 (by decide) (congrArg Prod.fst (shA3 ln)) (congrArg Prod.snd (shA3 ln)) hz2 (dfX1 _) rfl rfl ?_
  have hz3 : Zr (zfill z 1 3) 4 := Zr_mono hz2 (by decide)
  refine X_dup (pc' := 17) dX5_init_16 rfl rfl ?_
  refine X_aload_n (pc' := 18) dX5_init_17 rfl rfl ?_
  refine C_callI [.ref 1] (pc' := 21) dX5_init_18 rfl IX5_14 (by decide) (by decide) rfl (cs rfl) (cs rfl) rfl (CX1_init kHA3 (Zr_mono hz2 (by decide))) (c7 := 135) (s7 := 8373) rfl rfl (fun _ => ?_)
  have hz4 : Zr (zfill (zfill z 1 3) 3 16) 16 := Zr_fill hz2 (by decide)
  refine C_put (k := 0) (j := 0) (w := 1) (pc' := 24) dX5_init_21 rfl FX5_17 (by decide) (congrArg Prod.fst (shA0 ln)) (fun r hr => by cases hr; exact Or.inr ⟨rfl, rfl⟩) (xFit_ref (by decide) (Or.inl ⟨_, rfl⟩)) rfl rfl ?_
  have hz5 : Zr (zup (zfill (zfill z 1 3) 3 16) 0 0 1) 16 := Zr_up hz4 (by decide)
  refine X_aload_n (pc' := 25) dX5_init_24 rfl rfl ?_
  refine C_new (c := 3) (r := (RX3, TX3, 7)) (c8 := 134) (s8 := 8366) (pc' := 28) dX5_init_25 rfl rfl tq154 tq155 tq6 (by decide) (congrArg Prod.fst (shA16 ln)) (congrArg Prod.snd (shA16 ln)) hz5 (dfX3 _) rfl rfl ?_
  have hz6 : Zr (zup (zfill (zfill z 1 3) 3 16) 0 0 1) 17 := Zr_mono hz5 (by decide)
  refine X_dup (pc' := 29) dX5_init_28 rfl rfl ?_
  refine C_new (c := 1) (r := (RX1, TX1, 11)) (c8 := 133) (s8 := 8355) (pc' := 32) dX5_init_29 rfl rfl tq76 tq77 tq3 (by decide) (congrArg Prod.fst (shA17 ln)) (congrArg Prod.snd (shA17 ln)) hz6 (dfX1 _) rfl rfl ?_
  have hz7 : Zr (zup (zfill (zfill z 1 3) 3 16) 0 0 1) 18 := Zr_mono hz6 (by decide)
  refine X_dup (pc' := 33) dX5_init_32 rfl rfl ?_
  refine X_aload_n (pc' := 34) dX5_init_33 rfl rfl ?_
  refine C_callI [.ref 1] (pc' := 37) dX5_init_34 rfl IX5_14 (by decide) (by decide) rfl (cs rfl) (cs rfl) rfl (CX1_init kHA17 (Zr_mono hz6 (by decide))) (c7 := 121) (s7 := 7591) rfl rfl (fun _ => ?_)
  have hz8 : Zr (zfill (zup (zfill (zfill z 1 3) 3 16) 0 0 1) 17 30) 30 := Zr_fill hz6 (by decide)
  refine C_callI [.ref 17] (pc' := 40) dX5_init_37 rfl IX5_23 (by decide) (by decide) rfl (cs rfl) (cs rfl) rfl (CX3_init hz8) (c7 := 119) (s7 := 6988) rfl rfl (fun _ => ?_)
  have hz9 : Zr (zS (zfill (zup (zfill (zfill z 1 3) 3 16) 0 0 1) 17 30)) 32 := Zr_S (Zr_mono hz8 (by decide))
  refine C_put (k := 1) (j := 1) (w := 1) (pc' := 43) dX5_init_40 rfl FX5_26 (by decide) (congrArg Prod.fst (shA0 ln)) (fun r hr => by cases hr; exact Or.inr ⟨rfl, rfl⟩) (xFit_ref (by decide) (Or.inl ⟨_, rfl⟩)) rfl rfl ?_
  have hz10 : Zr (zup (zS (zfill (zup (zfill (zfill z 1 3) 3 16) 0 0 1) 17 30)) 0 1 1) 32 := Zr_up hz9 (by decide)
  refine X_aload_n (pc' := 44) dX5_init_43 rfl rfl ?_
  refine C_new (c := 2) (r := (RX2, TX2, 5)) (c8 := 118) (s8 := 6983) (pc' := 47) dX5_init_44 rfl rfl tq184 tq185 tq7 (by decide) (congrArg Prod.fst (shA32 ln)) (congrArg Prod.snd (shA32 ln)) hz10 (dfX2 _) rfl rfl ?_
  have hz11 : Zr (zup (zS (zfill (zup (zfill (zfill z 1 3) 3 16) 0 0 1) 17 30)) 0 1 1) 33 := Zr_mono hz10 (by decide)
  refine X_dup (pc' := 48) dX5_init_47 rfl rfl ?_
  refine X_aload_n (pc' := 49) dX5_init_48 rfl rfl ?_
  refine C_callI [.ref 1] (pc' := 52) dX5_init_49 rfl IX5_32 (by decide) (by decide) rfl (cs rfl) (cs rfl) rfl (CX2_init hz10) (c7 := 0) (s7 := 0) rfl rfl (fun _ => ?_)
  have hz12 : Zr (zfill (zup (zS (zfill (zup (zfill (zfill z 1 3) 3 16) 0 0 1) 17 30)) 0 1 1) 32 151) 151 := Zr_fill hz10 (by decide)
  refine C_put (k := 2) (j := 2) (w := 1) (pc' := 55) dX5_init_52 rfl FX5_33 (by decide) (congrArg Prod.fst (shA0 ln)) (fun r hr => by cases hr; exact Or.inr ⟨rfl, rfl⟩) (xFit_ref (by decide) (Or.inl ⟨_, rfl⟩)) rfl rfl ?_
  have hz13 : Zr (zup (zfill (zup (zS (zfill (zup (zfill (zfill z 1 3) 3 16) 0 0 1) 17 30)) 0 1 1) 32 151) 0 2 1) 151 := Zr_up hz12 (by decide)
  exact kk
set_option maxHeartbeats 4000000 in
theorem zCH_fill {z : ZZ} (hz : Zr z 0) : zCH z = zfill z 0 151 := by
  funext a k
  unfold zCH zS
  by_cases e : a = 0
  · subst e
    have h0 := hz 0 (by omega) (by omega) k
    simp [zup, zfill, shA0, zini_C, h0]
    try repeat' (first | omega | split)
  · by_cases e1 : a = 16
    · subst e1
      have h0 := hz 16 (by omega) (by omega) k
      simp [zup, zfill, shA16, zini_S, h0]
      try repeat' (first | omega | split)
    · by_cases e2 : a = 30 ∨ a = 31
      · have h0 := hz a (by omega) (by omega) k
        have h1 : (zSH z0 a).1 = 20 := by rcases e2 with rfl | rfl <;> rfl
        simp only [zup, zfill, e, e1, false_and, if_false]
        rw [if_pos (show 0 ≤ a ∧ a < 151 by omega), h1, zini_20]
        repeat (first | (split <;> first | omega | skip))
        all_goals first | omega | rfl
      · simp only [zup, zfill, e, e1, false_and, if_false]
        repeat (first | (split <;> first | omega | rfl | skip))
        all_goals first | omega | rfl
theorem CX5_init {ln : ZR} {z p : ZZ} (hz : Zr z 0) (ho : okz z) (h : fX5_rest (zfill z 0 151) = some p) : X mX5_init 0 (xEnt [.ref 0] (xL mX5_init)) [] (zmkC ln 1 z) 150 9182 (Qd (okz p) (.inl none) (zmk ln 151 p)) := by
  obtain ⟨z', e, hh⟩ := CX5_init0 (ln := ln) hz
  rw [e, zCH_fill hz] at hh
  refine hh (X_from (fun g H hR => zrep_C (fun a ha k hk => ?_) (by decide) hR) (X_sub (sub_s (sub_n sub_0)) (TfX5_rest ⟨by decide, by decide⟩ (okz_fill ho) h (fun hp => ⟨hp, rfl, rfl⟩))))
  simp only [zfill]
  rw [if_pos ⟨by omega, ha⟩]
  exact zini_fix hk

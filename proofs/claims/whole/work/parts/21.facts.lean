theorem sh0 (ln : Nat) : zSH ln 0 = (6, 3) := rfl
theorem sh1 (ln : Nat) : zSH ln 1 = (1, 4) := rfl
theorem sh2 (ln : Nat) : zSH ln 2 = (20, 30) := rfl
theorem sh3 (ln : Nat) : zSH ln 3 = (2, 11) := rfl
theorem sh4 (ln : Nat) : zSH ln 4 = (5, 4) := rfl
theorem sh5 (ln : Nat) : zSH ln 5 = (20, 32) := rfl
theorem sh6 (ln : Nat) : zSH ln 6 = (5, 4) := rfl
theorem sh7 (ln : Nat) : zSH ln 7 = (20, 432) := rfl
theorem sh8 (ln : Nat) : zSH ln 8 = (5, 4) := rfl
theorem sh9 (ln : Nat) : zSH ln 9 = (20, 120) := rfl
theorem sh10 (ln : Nat) : zSH ln 10 = (5, 4) := rfl
theorem sh11 (ln : Nat) : zSH ln 11 = (20, 60) := rfl
theorem sh12 (ln : Nat) : zSH ln 12 = (5, 4) := rfl
theorem sh13 (ln : Nat) : zSH ln 13 = (20, 72) := rfl
theorem sh14 (ln : Nat) : zSH ln 14 = (5, 4) := rfl
theorem sh15 (ln : Nat) : zSH ln 15 = (20, 24) := rfl
theorem sh16 (ln : Nat) : zSH ln 16 = (4, 7) := rfl
theorem sh17 (ln : Nat) : zSH ln 17 = (2, 11) := rfl
theorem sh18 (ln : Nat) : zSH ln 18 = (5, 4) := rfl
theorem sh19 (ln : Nat) : zSH ln 19 = (20, 32) := rfl
theorem sh20 (ln : Nat) : zSH ln 20 = (5, 4) := rfl
theorem sh21 (ln : Nat) : zSH ln 21 = (20, 432) := rfl
theorem sh22 (ln : Nat) : zSH ln 22 = (5, 4) := rfl
theorem sh23 (ln : Nat) : zSH ln 23 = (20, 120) := rfl
theorem sh24 (ln : Nat) : zSH ln 24 = (5, 4) := rfl
theorem sh25 (ln : Nat) : zSH ln 25 = (20, 60) := rfl
theorem sh26 (ln : Nat) : zSH ln 26 = (5, 4) := rfl
theorem sh27 (ln : Nat) : zSH ln 27 = (20, 72) := rfl
theorem sh28 (ln : Nat) : zSH ln 28 = (5, 4) := rfl
theorem sh29 (ln : Nat) : zSH ln 29 = (20, 24) := rfl
theorem sh30 (ln : Nat) : zSH ln 30 = (20, 600) := rfl
theorem sh31 (ln : Nat) : zSH ln 31 = (20, 3) := rfl
theorem sh32 (ln : Nat) : zSH ln 32 = (3, 5) := rfl
theorem sh33 (ln : Nat) : zSH ln 33 = (23, 8) := rfl
theorem sh138 (ln : Nat) : zSH ln 138 = (2, 11) := rfl
theorem sh151 (ln : Nat) : zSH ln 151 = (7, 20) := rfl
theorem sh152 (ln : Nat) : zSH ln 152 = (20, 600) := rfl
theorem sh153 (ln : Nat) : zSH ln 153 = (20, 765) := rfl
theorem sh154 (ln : Nat) : zSH ln 154 = (20, 765) := rfl
theorem sh155 (ln : Nat) : zSH ln 155 = (20, 765) := rfl
theorem sh156 (ln : Nat) : zSH ln 156 = (20, 6120) := rfl
theorem sh157 (ln : Nat) : zSH ln 157 = (20, 30) := rfl
theorem sh158 (ln : Nat) : zSH ln 158 = (20, 15) := rfl
theorem sh159 (ln : Nat) : zSH ln 159 = (21, 1) := rfl
theorem sh160 (ln : Nat) : zSH ln 160 = (22, 1) := rfl
theorem shS (ln : Nat) : zSH ln 1000000 = (30, ln) := rfl
theorem sh1000001 (ln : Nat) : zSH ln 1000001 = (30, 5) := rfl
theorem sh1000002 (ln : Nat) : zSH ln 1000002 = (30, 15) := rfl
theorem sh1000003 (ln : Nat) : zSH ln 1000003 = (30, 15) := rfl
theorem sh1000100 (ln : Nat) : zSH ln 1000100 = (31, 0) := rfl
theorem sh1000200 (ln : Nat) : zSH ln 1000200 = (32, 5) := rfl
theorem sh1000101 (ln : Nat) : zSH ln 1000101 = (31, 0) := rfl
theorem sh1000201 (ln : Nat) : zSH ln 1000201 = (32, 4) := rfl
theorem sh1000102 (ln : Nat) : zSH ln 1000102 = (31, 0) := rfl
theorem sh1000202 (ln : Nat) : zSH ln 1000202 = (32, 7) := rfl
theorem sh1000103 (ln : Nat) : zSH ln 1000103 = (31, 0) := rfl
theorem sh1000203 (ln : Nat) : zSH ln 1000203 = (32, 6) := rfl
theorem sh1000104 (ln : Nat) : zSH ln 1000104 = (31, 0) := rfl
theorem sh1000204 (ln : Nat) : zSH ln 1000204 = (32, 6) := rfl
theorem sh1000127 (ln : Nat) : zSH ln 1000127 = (31, 0) := rfl
theorem sh1000227 (ln : Nat) : zSH ln 1000227 = (32, 5) := rfl
theorem sh1000128 (ln : Nat) : zSH ln 1000128 = (31, 0) := rfl
theorem sh1000228 (ln : Nat) : zSH ln 1000228 = (32, 4) := rfl
theorem sh1000129 (ln : Nat) : zSH ln 1000129 = (31, 0) := rfl
theorem sh1000229 (ln : Nat) : zSH ln 1000229 = (32, 7) := rfl
theorem sh1000130 (ln : Nat) : zSH ln 1000130 = (31, 0) := rfl
theorem sh1000230 (ln : Nat) : zSH ln 1000230 = (32, 6) := rfl
theorem sh1000131 (ln : Nat) : zSH ln 1000131 = (31, 0) := rfl
theorem sh1000231 (ln : Nat) : zSH ln 1000231 = (32, 6) := rfl
theorem ct0_0 (z : ZZ) : zCT z 0 0 = .ref 3 := rfl
theorem ct0_1 (z : ZZ) : zCT z 0 1 = .ref 16 := rfl
theorem ct0_2 (z : ZZ) : zCT z 0 2 = .ref 32 := rfl
theorem ct1_0 (z : ZZ) : zCT z 1 0 = .ref 2 := rfl
theorem ct1_1 (z : ZZ) : zCT z 1 1 = .int (iN (z 1 1)) := rfl
theorem ct1_2 (z : ZZ) : zCT z 1 2 = .int (iN (z 1 2)) := rfl
theorem ct1_3 (z : ZZ) : zCT z 1 3 = .int (iN (z 1 3)) := rfl
theorem ct3_0 (z : ZZ) : zCT z 3 0 = .ref 4 := rfl
theorem ct3_1 (z : ZZ) : zCT z 3 1 = .ref 6 := rfl
theorem ct3_2 (z : ZZ) : zCT z 3 2 = .ref 8 := rfl
theorem ct3_3 (z : ZZ) : zCT z 3 3 = .ref 10 := rfl
theorem ct3_4 (z : ZZ) : zCT z 3 4 = .ref 12 := rfl
theorem ct3_5 (z : ZZ) : zCT z 3 5 = .ref 14 := rfl
theorem ct3_6 (z : ZZ) : zCT z 3 6 = .ref 1 := rfl
theorem ct3_7 (z : ZZ) : zCT z 3 7 = .int (iN (z 3 7)) := rfl
theorem ct3_8 (z : ZZ) : zCT z 3 8 = .int (iN (z 3 8)) := rfl
theorem ct3_9 (z : ZZ) : zCT z 3 9 = .int (iN (z 3 9)) := rfl
theorem ct3_10 (z : ZZ) : zCT z 3 10 = .int (iN (z 3 10)) := rfl
theorem ct4_0 (z : ZZ) : zCT z 4 0 = .int (iN 8) := rfl
theorem ct4_1 (z : ZZ) : zCT z 4 1 = .int (iN 4) := rfl
theorem ct4_2 (z : ZZ) : zCT z 4 2 = .ref 5 := rfl
theorem ct4_3 (z : ZZ) : zCT z 4 3 = .int (iN (z 4 3)) := rfl
theorem ct6_0 (z : ZZ) : zCT z 6 0 = .int (iN 24) := rfl
theorem ct6_1 (z : ZZ) : zCT z 6 1 = .int (iN 18) := rfl
theorem ct6_2 (z : ZZ) : zCT z 6 2 = .ref 7 := rfl
theorem ct6_3 (z : ZZ) : zCT z 6 3 = .int (iN (z 6 3)) := rfl
theorem ct8_0 (z : ZZ) : zCT z 8 0 = .int (iN 30) := rfl
theorem ct8_1 (z : ZZ) : zCT z 8 1 = .int (iN 4) := rfl
theorem ct8_2 (z : ZZ) : zCT z 8 2 = .ref 9 := rfl
theorem ct8_3 (z : ZZ) : zCT z 8 3 = .int (iN (z 8 3)) := rfl
theorem ct10_0 (z : ZZ) : zCT z 10 0 = .int (iN 15) := rfl
theorem ct10_1 (z : ZZ) : zCT z 10 1 = .int (iN 4) := rfl
theorem ct10_2 (z : ZZ) : zCT z 10 2 = .ref 11 := rfl
theorem ct10_3 (z : ZZ) : zCT z 10 3 = .int (iN (z 10 3)) := rfl
theorem ct12_0 (z : ZZ) : zCT z 12 0 = .int (iN 12) := rfl
theorem ct12_1 (z : ZZ) : zCT z 12 1 = .int (iN 6) := rfl
theorem ct12_2 (z : ZZ) : zCT z 12 2 = .ref 13 := rfl
theorem ct12_3 (z : ZZ) : zCT z 12 3 = .int (iN (z 12 3)) := rfl
theorem ct14_0 (z : ZZ) : zCT z 14 0 = .int (iN 8) := rfl
theorem ct14_1 (z : ZZ) : zCT z 14 1 = .int (iN 3) := rfl
theorem ct14_2 (z : ZZ) : zCT z 14 2 = .ref 15 := rfl
theorem ct14_3 (z : ZZ) : zCT z 14 3 = .int (iN (z 14 3)) := rfl
theorem ct16_0 (z : ZZ) : zCT z 16 0 = .ref 30 := rfl
theorem ct16_1 (z : ZZ) : zCT z 16 1 = .int (iN (z 16 1)) := rfl
theorem ct16_2 (z : ZZ) : zCT z 16 2 = .ref 17 := rfl
theorem ct16_3 (z : ZZ) : zCT z 16 3 = .ref 31 := rfl
theorem ct16_4 (z : ZZ) : zCT z 16 4 = .int (iN (z 16 4)) := rfl
theorem ct16_5 (z : ZZ) : zCT z 16 5 = .int (iN (z 16 5)) := rfl
theorem ct16_6 (z : ZZ) : zCT z 16 6 = .int (iN (z 16 6)) := rfl
theorem ct17_0 (z : ZZ) : zCT z 17 0 = .ref 18 := rfl
theorem ct17_1 (z : ZZ) : zCT z 17 1 = .ref 20 := rfl
theorem ct17_2 (z : ZZ) : zCT z 17 2 = .ref 22 := rfl
theorem ct17_3 (z : ZZ) : zCT z 17 3 = .ref 24 := rfl
theorem ct17_4 (z : ZZ) : zCT z 17 4 = .ref 26 := rfl
theorem ct17_5 (z : ZZ) : zCT z 17 5 = .ref 28 := rfl
theorem ct17_6 (z : ZZ) : zCT z 17 6 = .ref 1 := rfl
theorem ct17_7 (z : ZZ) : zCT z 17 7 = .int (iN (z 17 7)) := rfl
theorem ct17_8 (z : ZZ) : zCT z 17 8 = .int (iN (z 17 8)) := rfl
theorem ct17_9 (z : ZZ) : zCT z 17 9 = .int (iN (z 17 9)) := rfl
theorem ct17_10 (z : ZZ) : zCT z 17 10 = .int (iN (z 17 10)) := rfl
theorem ct18_0 (z : ZZ) : zCT z 18 0 = .int (iN 8) := rfl
theorem ct18_1 (z : ZZ) : zCT z 18 1 = .int (iN 4) := rfl
theorem ct18_2 (z : ZZ) : zCT z 18 2 = .ref 19 := rfl
theorem ct18_3 (z : ZZ) : zCT z 18 3 = .int (iN (z 18 3)) := rfl
theorem ct20_0 (z : ZZ) : zCT z 20 0 = .int (iN 24) := rfl
theorem ct20_1 (z : ZZ) : zCT z 20 1 = .int (iN 18) := rfl
theorem ct20_2 (z : ZZ) : zCT z 20 2 = .ref 21 := rfl
theorem ct20_3 (z : ZZ) : zCT z 20 3 = .int (iN (z 20 3)) := rfl
theorem ct22_0 (z : ZZ) : zCT z 22 0 = .int (iN 30) := rfl
theorem ct22_1 (z : ZZ) : zCT z 22 1 = .int (iN 4) := rfl
theorem ct22_2 (z : ZZ) : zCT z 22 2 = .ref 23 := rfl
theorem ct22_3 (z : ZZ) : zCT z 22 3 = .int (iN (z 22 3)) := rfl
theorem ct24_0 (z : ZZ) : zCT z 24 0 = .int (iN 15) := rfl
theorem ct24_1 (z : ZZ) : zCT z 24 1 = .int (iN 4) := rfl
theorem ct24_2 (z : ZZ) : zCT z 24 2 = .ref 25 := rfl
theorem ct24_3 (z : ZZ) : zCT z 24 3 = .int (iN (z 24 3)) := rfl
theorem ct26_0 (z : ZZ) : zCT z 26 0 = .int (iN 12) := rfl
theorem ct26_1 (z : ZZ) : zCT z 26 1 = .int (iN 6) := rfl
theorem ct26_2 (z : ZZ) : zCT z 26 2 = .ref 27 := rfl
theorem ct26_3 (z : ZZ) : zCT z 26 3 = .int (iN (z 26 3)) := rfl
theorem ct28_0 (z : ZZ) : zCT z 28 0 = .int (iN 8) := rfl
theorem ct28_1 (z : ZZ) : zCT z 28 1 = .int (iN 3) := rfl
theorem ct28_2 (z : ZZ) : zCT z 28 2 = .ref 29 := rfl
theorem ct28_3 (z : ZZ) : zCT z 28 3 = .int (iN (z 28 3)) := rfl
theorem ct32_0 (z : ZZ) : zCT z 32 0 = .ref 33 := rfl
theorem ct32_1 (z : ZZ) : zCT z 32 1 = .int (iN (z 32 1)) := rfl
theorem ct32_2 (z : ZZ) : zCT z 32 2 = .int (iN (z 32 2)) := rfl
theorem ct32_3 (z : ZZ) : zCT z 32 3 = .ref 138 := rfl
theorem ct32_4 (z : ZZ) : zCT z 32 4 = .int (iN (z 32 4)) := rfl
theorem ct138_0 (z : ZZ) : zCT z 138 0 = .ref 139 := rfl
theorem ct138_1 (z : ZZ) : zCT z 138 1 = .ref 141 := rfl
theorem ct138_2 (z : ZZ) : zCT z 138 2 = .ref 143 := rfl
theorem ct138_3 (z : ZZ) : zCT z 138 3 = .ref 145 := rfl
theorem ct138_4 (z : ZZ) : zCT z 138 4 = .ref 147 := rfl
theorem ct138_5 (z : ZZ) : zCT z 138 5 = .ref 149 := rfl
theorem ct138_6 (z : ZZ) : zCT z 138 6 = .ref 1 := rfl
theorem ct138_7 (z : ZZ) : zCT z 138 7 = .int (iN (z 138 7)) := rfl
theorem ct138_8 (z : ZZ) : zCT z 138 8 = .int (iN (z 138 8)) := rfl
theorem ct138_9 (z : ZZ) : zCT z 138 9 = .int (iN (z 138 9)) := rfl
theorem ct138_10 (z : ZZ) : zCT z 138 10 = .int (iN (z 138 10)) := rfl
theorem ct151_0 (z : ZZ) : zCT z 151 0 = .int (iN (z 151 0)) := rfl
theorem ct151_1 (z : ZZ) : zCT z 151 1 = .ref 152 := rfl
theorem ct151_2 (z : ZZ) : zCT z 151 2 = .int (iN (z 151 2)) := rfl
theorem ct151_3 (z : ZZ) : zCT z 151 3 = .int (iN (z 151 3)) := rfl
theorem ct151_4 (z : ZZ) : zCT z 151 4 = .int (iN (z 151 4)) := rfl
theorem ct151_5 (z : ZZ) : zCT z 151 5 = .int (iN (z 151 5)) := rfl
theorem ct151_6 (z : ZZ) : zCT z 151 6 = .int (iN (z 151 6)) := rfl
theorem ct151_7 (z : ZZ) : zCT z 151 7 = .int (iN (z 151 7)) := rfl
theorem ct151_8 (z : ZZ) : zCT z 151 8 = .ref 153 := rfl
theorem ct151_9 (z : ZZ) : zCT z 151 9 = .ref 154 := rfl
theorem ct151_10 (z : ZZ) : zCT z 151 10 = .ref 155 := rfl
theorem ct151_11 (z : ZZ) : zCT z 151 11 = .ref 156 := rfl
theorem ct151_12 (z : ZZ) : zCT z 151 12 = .int (iN (z 151 12)) := rfl
theorem ct151_13 (z : ZZ) : zCT z 151 13 = .int (iN (z 151 13)) := rfl
theorem ct151_14 (z : ZZ) : zCT z 151 14 = .int (iN (z 151 14)) := rfl
theorem ct151_15 (z : ZZ) : zCT z 151 15 = .ref 157 := rfl
theorem ct151_16 (z : ZZ) : zCT z 151 16 = .int (iN (z 151 16)) := rfl
theorem ct151_17 (z : ZZ) : zCT z 151 17 = .int (iN (z 151 17)) := rfl
theorem ct151_18 (z : ZZ) : zCT z 151 18 = .int (iN (z 151 18)) := rfl
theorem ct151_19 (z : ZZ) : zCT z 151 19 = .ref 158 := rfl
theorem kH3 : isH 3 := by unfold isH; decide
theorem kT4 : isT 4 := ⟨by decide, rfl⟩
theorem kT6 : isT 6 := ⟨by decide, rfl⟩
theorem kT8 : isT 8 := ⟨by decide, rfl⟩
theorem kT10 : isT 10 := ⟨by decide, rfl⟩
theorem kT12 : isT 12 := ⟨by decide, rfl⟩
theorem kT14 : isT 14 := ⟨by decide, rfl⟩
theorem kH17 : isH 17 := by unfold isH; decide
theorem kT18 : isT 18 := ⟨by decide, rfl⟩
theorem kT20 : isT 20 := ⟨by decide, rfl⟩
theorem kT22 : isT 22 := ⟨by decide, rfl⟩
theorem kT24 : isT 24 := ⟨by decide, rfl⟩
theorem kT26 : isT 26 := ⟨by decide, rfl⟩
theorem kT28 : isT 28 := ⟨by decide, rfl⟩
theorem kH138 : isH 138 := by unfold isH; decide
theorem wW1000100 : isW 1000100 := by unfold isW zWl; decide
theorem wW1000101 : isW 1000101 := by unfold isW zWl; decide
theorem wW1000102 : isW 1000102 := by unfold isW zWl; decide
theorem wW1000103 : isW 1000103 := by unfold isW zWl; decide
theorem wW1000104 : isW 1000104 := by unfold isW zWl; decide
theorem wW1000127 : isW 1000127 := by unfold isW zWl; decide
theorem wW1000128 : isW 1000128 := by unfold isW zWl; decide
theorem wW1000129 : isW 1000129 := by unfold isW zWl; decide
theorem wW1000130 : isW 1000130 := by unfold isW zWl; decide
theorem wW1000131 : isW 1000131 := by unfold isW zWl; decide

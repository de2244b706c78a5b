theorem sh0 (ln : ZR) : zSH ln 0 = (6, 3) := rfl
theorem sh1 (ln : ZR) : zSH ln 1 = (1, 4) := rfl
theorem sh2 (ln : ZR) : zSH ln 2 = (20, 30) := rfl
theorem sh3 (ln : ZR) : zSH ln 3 = (2, 11) := rfl
theorem sh4 (ln : ZR) : zSH ln 4 = (5, 4) := rfl
theorem sh5 (ln : ZR) : zSH ln 5 = (20, 32) := rfl
theorem sh6 (ln : ZR) : zSH ln 6 = (5, 4) := rfl
theorem sh7 (ln : ZR) : zSH ln 7 = (20, 432) := rfl
theorem sh8 (ln : ZR) : zSH ln 8 = (5, 4) := rfl
theorem sh9 (ln : ZR) : zSH ln 9 = (20, 120) := rfl
theorem sh10 (ln : ZR) : zSH ln 10 = (5, 4) := rfl
theorem sh11 (ln : ZR) : zSH ln 11 = (20, 60) := rfl
theorem sh12 (ln : ZR) : zSH ln 12 = (5, 4) := rfl
theorem sh13 (ln : ZR) : zSH ln 13 = (20, 72) := rfl
theorem sh14 (ln : ZR) : zSH ln 14 = (5, 4) := rfl
theorem sh15 (ln : ZR) : zSH ln 15 = (20, 24) := rfl
theorem sh16 (ln : ZR) : zSH ln 16 = (4, 7) := rfl
theorem sh17 (ln : ZR) : zSH ln 17 = (2, 11) := rfl
theorem sh18 (ln : ZR) : zSH ln 18 = (5, 4) := rfl
theorem sh19 (ln : ZR) : zSH ln 19 = (20, 32) := rfl
theorem sh20 (ln : ZR) : zSH ln 20 = (5, 4) := rfl
theorem sh21 (ln : ZR) : zSH ln 21 = (20, 432) := rfl
theorem sh22 (ln : ZR) : zSH ln 22 = (5, 4) := rfl
theorem sh23 (ln : ZR) : zSH ln 23 = (20, 120) := rfl
theorem sh24 (ln : ZR) : zSH ln 24 = (5, 4) := rfl
theorem sh25 (ln : ZR) : zSH ln 25 = (20, 60) := rfl
theorem sh26 (ln : ZR) : zSH ln 26 = (5, 4) := rfl
theorem sh27 (ln : ZR) : zSH ln 27 = (20, 72) := rfl
theorem sh28 (ln : ZR) : zSH ln 28 = (5, 4) := rfl
theorem sh29 (ln : ZR) : zSH ln 29 = (20, 24) := rfl
theorem sh30 (ln : ZR) : zSH ln 30 = (20, 600) := rfl
theorem sh31 (ln : ZR) : zSH ln 31 = (20, 3) := rfl
theorem sh32 (ln : ZR) : zSH ln 32 = (3, 5) := rfl
theorem sh33 (ln : ZR) : zSH ln 33 = (23, 8) := rfl
theorem sh138 (ln : ZR) : zSH ln 138 = (2, 11) := rfl
theorem shS (ln : ZR) : zSH ln 1000000 = (30, ln.1) := rfl
theorem sh1000001 (ln : ZR) : zSH ln 1000001 = (30, 5) := rfl
theorem sh1000002 (ln : ZR) : zSH ln 1000002 = (30, 15) := rfl
theorem sh1000003 (ln : ZR) : zSH ln 1000003 = (30, 15) := rfl
theorem sh1000010 (ln : ZR) : zSH ln 1000010 = (32, 100) := rfl
theorem sh1000011 (ln : ZR) : zSH ln 1000011 = (32, 100) := rfl
theorem sh1000100 (ln : ZR) : zSH ln 1000100 = (31, 0) := rfl
theorem sh1000200 (ln : ZR) : zSH ln 1000200 = (32, 5) := rfl
theorem sh1000101 (ln : ZR) : zSH ln 1000101 = (31, 0) := rfl
theorem sh1000201 (ln : ZR) : zSH ln 1000201 = (32, 4) := rfl
theorem sh1000102 (ln : ZR) : zSH ln 1000102 = (31, 0) := rfl
theorem sh1000202 (ln : ZR) : zSH ln 1000202 = (32, 7) := rfl
theorem sh1000103 (ln : ZR) : zSH ln 1000103 = (31, 0) := rfl
theorem sh1000203 (ln : ZR) : zSH ln 1000203 = (32, 6) := rfl
theorem sh1000104 (ln : ZR) : zSH ln 1000104 = (31, 0) := rfl
theorem sh1000204 (ln : ZR) : zSH ln 1000204 = (32, 6) := rfl
theorem sh1000105 (ln : ZR) : zSH ln 1000105 = (31, 0) := rfl
theorem sh1000205 (ln : ZR) : zSH ln 1000205 = (32, 6) := rfl
theorem sh1000106 (ln : ZR) : zSH ln 1000106 = (31, 0) := rfl
theorem sh1000206 (ln : ZR) : zSH ln 1000206 = (32, 1) := rfl
theorem sh1000107 (ln : ZR) : zSH ln 1000107 = (31, 0) := rfl
theorem sh1000207 (ln : ZR) : zSH ln 1000207 = (32, 3) := rfl
theorem sh1000108 (ln : ZR) : zSH ln 1000108 = (31, 0) := rfl
theorem sh1000208 (ln : ZR) : zSH ln 1000208 = (32, 6) := rfl
theorem sh1000109 (ln : ZR) : zSH ln 1000109 = (31, 0) := rfl
theorem sh1000209 (ln : ZR) : zSH ln 1000209 = (32, 11) := rfl
theorem sh1000110 (ln : ZR) : zSH ln 1000110 = (31, 0) := rfl
theorem sh1000210 (ln : ZR) : zSH ln 1000210 = (32, 8) := rfl
theorem sh1000111 (ln : ZR) : zSH ln 1000111 = (31, 0) := rfl
theorem sh1000211 (ln : ZR) : zSH ln 1000211 = (32, 8) := rfl
theorem sh1000112 (ln : ZR) : zSH ln 1000112 = (31, 0) := rfl
theorem sh1000212 (ln : ZR) : zSH ln 1000212 = (32, 30) := rfl
theorem sh1000113 (ln : ZR) : zSH ln 1000113 = (31, 0) := rfl
theorem sh1000213 (ln : ZR) : zSH ln 1000213 = (32, 28) := rfl
theorem sh1000114 (ln : ZR) : zSH ln 1000114 = (31, 0) := rfl
theorem sh1000214 (ln : ZR) : zSH ln 1000214 = (32, 27) := rfl
theorem sh1000115 (ln : ZR) : zSH ln 1000115 = (31, 0) := rfl
theorem sh1000215 (ln : ZR) : zSH ln 1000215 = (32, 47) := rfl
theorem sh1000116 (ln : ZR) : zSH ln 1000116 = (31, 0) := rfl
theorem sh1000216 (ln : ZR) : zSH ln 1000216 = (32, 35) := rfl
theorem sh1000117 (ln : ZR) : zSH ln 1000117 = (31, 0) := rfl
theorem sh1000217 (ln : ZR) : zSH ln 1000217 = (32, 26) := rfl
theorem sh1000118 (ln : ZR) : zSH ln 1000118 = (31, 0) := rfl
theorem sh1000218 (ln : ZR) : zSH ln 1000218 = (32, 22) := rfl
theorem sh1000119 (ln : ZR) : zSH ln 1000119 = (31, 0) := rfl
theorem sh1000219 (ln : ZR) : zSH ln 1000219 = (32, 24) := rfl
theorem sh1000120 (ln : ZR) : zSH ln 1000120 = (31, 0) := rfl
theorem sh1000220 (ln : ZR) : zSH ln 1000220 = (32, 28) := rfl
theorem sh1000121 (ln : ZR) : zSH ln 1000121 = (31, 0) := rfl
theorem sh1000221 (ln : ZR) : zSH ln 1000221 = (32, 37) := rfl
theorem sh1000122 (ln : ZR) : zSH ln 1000122 = (31, 0) := rfl
theorem sh1000222 (ln : ZR) : zSH ln 1000222 = (32, 24) := rfl
theorem sh1000123 (ln : ZR) : zSH ln 1000123 = (31, 0) := rfl
theorem sh1000223 (ln : ZR) : zSH ln 1000223 = (32, 23) := rfl
theorem sh1000124 (ln : ZR) : zSH ln 1000124 = (31, 0) := rfl
theorem sh1000224 (ln : ZR) : zSH ln 1000224 = (32, 44) := rfl
theorem sh1000125 (ln : ZR) : zSH ln 1000125 = (31, 0) := rfl
theorem sh1000225 (ln : ZR) : zSH ln 1000225 = (32, 25) := rfl
theorem sh1000126 (ln : ZR) : zSH ln 1000126 = (31, 0) := rfl
theorem sh1000226 (ln : ZR) : zSH ln 1000226 = (32, 30) := rfl
theorem sh1000127 (ln : ZR) : zSH ln 1000127 = (31, 0) := rfl
theorem sh1000227 (ln : ZR) : zSH ln 1000227 = (32, 40) := rfl
theorem sh1000128 (ln : ZR) : zSH ln 1000128 = (31, 0) := rfl
theorem sh1000228 (ln : ZR) : zSH ln 1000228 = (32, 26) := rfl
theorem sh1000129 (ln : ZR) : zSH ln 1000129 = (31, 0) := rfl
theorem sh1000229 (ln : ZR) : zSH ln 1000229 = (32, 0) := rfl
theorem sh1000130 (ln : ZR) : zSH ln 1000130 = (31, 0) := rfl
theorem sh1000230 (ln : ZR) : zSH ln 1000230 = (32, 12) := rfl
theorem sh1000131 (ln : ZR) : zSH ln 1000131 = (31, 0) := rfl
theorem sh1000231 (ln : ZR) : zSH ln 1000231 = (32, 12) := rfl
theorem sh1000132 (ln : ZR) : zSH ln 1000132 = (31, 0) := rfl
theorem sh1000232 (ln : ZR) : zSH ln 1000232 = (32, 11) := rfl
theorem sh1000133 (ln : ZR) : zSH ln 1000133 = (31, 0) := rfl
theorem sh1000233 (ln : ZR) : zSH ln 1000233 = (32, 17) := rfl
theorem sh1000134 (ln : ZR) : zSH ln 1000134 = (31, 0) := rfl
theorem sh1000234 (ln : ZR) : zSH ln 1000234 = (32, 10) := rfl
theorem sh1000135 (ln : ZR) : zSH ln 1000135 = (31, 0) := rfl
theorem sh1000235 (ln : ZR) : zSH ln 1000235 = (32, 10) := rfl
theorem sh1000136 (ln : ZR) : zSH ln 1000136 = (31, 0) := rfl
theorem sh1000236 (ln : ZR) : zSH ln 1000236 = (32, 11) := rfl
theorem sh1000137 (ln : ZR) : zSH ln 1000137 = (31, 0) := rfl
theorem sh1000237 (ln : ZR) : zSH ln 1000237 = (32, 11) := rfl
theorem sh1000138 (ln : ZR) : zSH ln 1000138 = (31, 0) := rfl
theorem sh1000238 (ln : ZR) : zSH ln 1000238 = (32, 13) := rfl
theorem sh1000139 (ln : ZR) : zSH ln 1000139 = (31, 0) := rfl
theorem sh1000239 (ln : ZR) : zSH ln 1000239 = (32, 10) := rfl
theorem sh1000140 (ln : ZR) : zSH ln 1000140 = (31, 0) := rfl
theorem sh1000240 (ln : ZR) : zSH ln 1000240 = (32, 12) := rfl
theorem sh1000141 (ln : ZR) : zSH ln 1000141 = (31, 0) := rfl
theorem sh1000241 (ln : ZR) : zSH ln 1000241 = (32, 13) := rfl
theorem sh1000142 (ln : ZR) : zSH ln 1000142 = (31, 0) := rfl
theorem sh1000242 (ln : ZR) : zSH ln 1000242 = (32, 14) := rfl
theorem sh1000143 (ln : ZR) : zSH ln 1000143 = (31, 0) := rfl
theorem sh1000243 (ln : ZR) : zSH ln 1000243 = (32, 13) := rfl
theorem sh1000144 (ln : ZR) : zSH ln 1000144 = (31, 0) := rfl
theorem sh1000244 (ln : ZR) : zSH ln 1000244 = (32, 13) := rfl
theorem sh1000145 (ln : ZR) : zSH ln 1000145 = (31, 0) := rfl
theorem sh1000245 (ln : ZR) : zSH ln 1000245 = (32, 11) := rfl
theorem sh1000146 (ln : ZR) : zSH ln 1000146 = (31, 0) := rfl
theorem sh1000246 (ln : ZR) : zSH ln 1000246 = (32, 8) := rfl
theorem sh1000147 (ln : ZR) : zSH ln 1000147 = (31, 0) := rfl
theorem sh1000247 (ln : ZR) : zSH ln 1000247 = (32, 12) := rfl
theorem sh1000012 (ln : ZR) : zSH ln 1000012 = (35, 0) := rfl
theorem sh1000299 (ln : ZR) : zSH ln 1000299 = (35, 256) := rfl
theorem ct0_0 (z : ZZ) : zCT z 0 0 = .ref 3 := rfl
theorem ct0_1 (z : ZZ) : zCT z 0 1 = .ref 16 := rfl
theorem ct0_2 (z : ZZ) : zCT z 0 2 = .ref 32 := rfl
theorem ct1_0 (z : ZZ) : zCT z 1 0 = .ref 2 := rfl
theorem ct1_1 (z : ZZ) : zCT z 1 1 = .int (iN (z 1 1)) := rfl
theorem ct1_2 (z : ZZ) : zCT z 1 2 = .int (iN (z 1 2)) := rfl
theorem ct1_3 (z : ZZ) : zCT z 1 3 = .int (iN (z 1 3)) := rfl
theorem ct3_0 (z : ZZ) : zCT z 3 0 = .ref 4 := rfl
theorem ct3_1 (z : ZZ) : zCT z 3 1 = .ref 6 := rfl
theorem ct3_2 (z : ZZ) : zCT z 3 2 = .ref 8 := rfl
theorem ct3_3 (z : ZZ) : zCT z 3 3 = .ref 10 := rfl
theorem ct3_4 (z : ZZ) : zCT z 3 4 = .ref 12 := rfl
theorem ct3_5 (z : ZZ) : zCT z 3 5 = .ref 14 := rfl
theorem ct3_6 (z : ZZ) : zCT z 3 6 = .ref 1 := rfl
theorem ct3_7 (z : ZZ) : zCT z 3 7 = .int (iN (z 3 7)) := rfl
theorem ct3_8 (z : ZZ) : zCT z 3 8 = .int (iN (z 3 8)) := rfl
theorem ct3_9 (z : ZZ) : zCT z 3 9 = .int (iN (z 3 9)) := rfl
theorem ct3_10 (z : ZZ) : zCT z 3 10 = .int (iN (z 3 10)) := rfl
theorem ct4_0 (z : ZZ) : zCT z 4 0 = .int (iN 8) := rfl
theorem ct4_1 (z : ZZ) : zCT z 4 1 = .int (iN 4) := rfl
theorem ct4_2 (z : ZZ) : zCT z 4 2 = .ref 5 := rfl
theorem ct4_3 (z : ZZ) : zCT z 4 3 = .int (iN (z 4 3)) := rfl
theorem ct6_0 (z : ZZ) : zCT z 6 0 = .int (iN 24) := rfl
theorem ct6_1 (z : ZZ) : zCT z 6 1 = .int (iN 18) := rfl
theorem ct6_2 (z : ZZ) : zCT z 6 2 = .ref 7 := rfl
theorem ct6_3 (z : ZZ) : zCT z 6 3 = .int (iN (z 6 3)) := rfl
theorem ct8_0 (z : ZZ) : zCT z 8 0 = .int (iN 30) := rfl
theorem ct8_1 (z : ZZ) : zCT z 8 1 = .int (iN 4) := rfl
theorem ct8_2 (z : ZZ) : zCT z 8 2 = .ref 9 := rfl
theorem ct8_3 (z : ZZ) : zCT z 8 3 = .int (iN (z 8 3)) := rfl
theorem ct10_0 (z : ZZ) : zCT z 10 0 = .int (iN 15) := rfl
theorem ct10_1 (z : ZZ) : zCT z 10 1 = .int (iN 4) := rfl
theorem ct10_2 (z : ZZ) : zCT z 10 2 = .ref 11 := rfl
theorem ct10_3 (z : ZZ) : zCT z 10 3 = .int (iN (z 10 3)) := rfl
theorem ct12_0 (z : ZZ) : zCT z 12 0 = .int (iN 12) := rfl
theorem ct12_1 (z : ZZ) : zCT z 12 1 = .int (iN 6) := rfl
theorem ct12_2 (z : ZZ) : zCT z 12 2 = .ref 13 := rfl
theorem ct12_3 (z : ZZ) : zCT z 12 3 = .int (iN (z 12 3)) := rfl
theorem ct14_0 (z : ZZ) : zCT z 14 0 = .int (iN 8) := rfl
theorem ct14_1 (z : ZZ) : zCT z 14 1 = .int (iN 3) := rfl
theorem ct14_2 (z : ZZ) : zCT z 14 2 = .ref 15 := rfl
theorem ct14_3 (z : ZZ) : zCT z 14 3 = .int (iN (z 14 3)) := rfl
theorem ct16_0 (z : ZZ) : zCT z 16 0 = .ref 30 := rfl
theorem ct16_1 (z : ZZ) : zCT z 16 1 = .int (iN (z 16 1)) := rfl
theorem ct16_2 (z : ZZ) : zCT z 16 2 = .ref 17 := rfl
theorem ct16_3 (z : ZZ) : zCT z 16 3 = .ref 31 := rfl
theorem ct16_4 (z : ZZ) : zCT z 16 4 = .int (iN (z 16 4)) := rfl
theorem ct16_5 (z : ZZ) : zCT z 16 5 = .int (iN (z 16 5)) := rfl
theorem ct16_6 (z : ZZ) : zCT z 16 6 = .int (iN (z 16 6)) := rfl
theorem ct17_0 (z : ZZ) : zCT z 17 0 = .ref 18 := rfl
theorem ct17_1 (z : ZZ) : zCT z 17 1 = .ref 20 := rfl
theorem ct17_2 (z : ZZ) : zCT z 17 2 = .ref 22 := rfl
theorem ct17_3 (z : ZZ) : zCT z 17 3 = .ref 24 := rfl
theorem ct17_4 (z : ZZ) : zCT z 17 4 = .ref 26 := rfl
theorem ct17_5 (z : ZZ) : zCT z 17 5 = .ref 28 := rfl
theorem ct17_6 (z : ZZ) : zCT z 17 6 = .ref 1 := rfl
theorem ct17_7 (z : ZZ) : zCT z 17 7 = .int (iN (z 17 7)) := rfl
theorem ct17_8 (z : ZZ) : zCT z 17 8 = .int (iN (z 17 8)) := rfl
theorem ct17_9 (z : ZZ) : zCT z 17 9 = .int (iN (z 17 9)) := rfl
theorem ct17_10 (z : ZZ) : zCT z 17 10 = .int (iN (z 17 10)) := rfl
theorem ct18_0 (z : ZZ) : zCT z 18 0 = .int (iN 8) := rfl
theorem ct18_1 (z : ZZ) : zCT z 18 1 = .int (iN 4) := rfl
theorem ct18_2 (z : ZZ) : zCT z 18 2 = .ref 19 := rfl
theorem ct18_3 (z : ZZ) : zCT z 18 3 = .int (iN (z 18 3)) := rfl
theorem ct20_0 (z : ZZ) : zCT z 20 0 = .int (iN 24) := rfl
theorem ct20_1 (z : ZZ) : zCT z 20 1 = .int (iN 18) := rfl
theorem ct20_2 (z : ZZ) : zCT z 20 2 = .ref 21 := rfl
theorem ct20_3 (z : ZZ) : zCT z 20 3 = .int (iN (z 20 3)) := rfl
theorem ct22_0 (z : ZZ) : zCT z 22 0 = .int (iN 30) := rfl
theorem ct22_1 (z : ZZ) : zCT z 22 1 = .int (iN 4) := rfl
theorem ct22_2 (z : ZZ) : zCT z 22 2 = .ref 23 := rfl
theorem ct22_3 (z : ZZ) : zCT z 22 3 = .int (iN (z 22 3)) := rfl
theorem ct24_0 (z : ZZ) : zCT z 24 0 = .int (iN 15) := rfl
theorem ct24_1 (z : ZZ) : zCT z 24 1 = .int (iN 4) := rfl
theorem ct24_2 (z : ZZ) : zCT z 24 2 = .ref 25 := rfl
theorem ct24_3 (z : ZZ) : zCT z 24 3 = .int (iN (z 24 3)) := rfl
theorem ct26_0 (z : ZZ) : zCT z 26 0 = .int (iN 12) := rfl
theorem ct26_1 (z : ZZ) : zCT z 26 1 = .int (iN 6) := rfl
theorem ct26_2 (z : ZZ) : zCT z 26 2 = .ref 27 := rfl
theorem ct26_3 (z : ZZ) : zCT z 26 3 = .int (iN (z 26 3)) := rfl
theorem ct28_0 (z : ZZ) : zCT z 28 0 = .int (iN 8) := rfl
theorem ct28_1 (z : ZZ) : zCT z 28 1 = .int (iN 3) := rfl
theorem ct28_2 (z : ZZ) : zCT z 28 2 = .ref 29 := rfl
theorem ct28_3 (z : ZZ) : zCT z 28 3 = .int (iN (z 28 3)) := rfl
theorem ct32_0 (z : ZZ) : zCT z 32 0 = .ref 33 := rfl
theorem ct32_1 (z : ZZ) : zCT z 32 1 = .int (iN (z 32 1)) := rfl
theorem ct32_2 (z : ZZ) : zCT z 32 2 = .int (iN (z 32 2)) := rfl
theorem ct32_3 (z : ZZ) : zCT z 32 3 = .ref 138 := rfl
theorem ct32_4 (z : ZZ) : zCT z 32 4 = .int (iN (z 32 4)) := rfl
theorem ct138_0 (z : ZZ) : zCT z 138 0 = .ref 139 := rfl
theorem ct138_1 (z : ZZ) : zCT z 138 1 = .ref 141 := rfl
theorem ct138_2 (z : ZZ) : zCT z 138 2 = .ref 143 := rfl
theorem ct138_3 (z : ZZ) : zCT z 138 3 = .ref 145 := rfl
theorem ct138_4 (z : ZZ) : zCT z 138 4 = .ref 147 := rfl
theorem ct138_5 (z : ZZ) : zCT z 138 5 = .ref 149 := rfl
theorem ct138_6 (z : ZZ) : zCT z 138 6 = .ref 1 := rfl
theorem ct138_7 (z : ZZ) : zCT z 138 7 = .int (iN (z 138 7)) := rfl
theorem ct138_8 (z : ZZ) : zCT z 138 8 = .int (iN (z 138 8)) := rfl
theorem ct138_9 (z : ZZ) : zCT z 138 9 = .int (iN (z 138 9)) := rfl
theorem ct138_10 (z : ZZ) : zCT z 138 10 = .int (iN (z 138 10)) := rfl
theorem kH3 : isH 3 := by unfold isH; decide
theorem kT4 : isT 4 := ⟨by decide, rfl⟩
theorem kT6 : isT 6 := ⟨by decide, rfl⟩
theorem kT8 : isT 8 := ⟨by decide, rfl⟩
theorem kT10 : isT 10 := ⟨by decide, rfl⟩
theorem kT12 : isT 12 := ⟨by decide, rfl⟩
theorem kT14 : isT 14 := ⟨by decide, rfl⟩
theorem kH17 : isH 17 := by unfold isH; decide
theorem kT18 : isT 18 := ⟨by decide, rfl⟩
theorem kT20 : isT 20 := ⟨by decide, rfl⟩
theorem kT22 : isT 22 := ⟨by decide, rfl⟩
theorem kT24 : isT 24 := ⟨by decide, rfl⟩
theorem kT26 : isT 26 := ⟨by decide, rfl⟩
theorem kT28 : isT 28 := ⟨by decide, rfl⟩
theorem kH138 : isH 138 := by unfold isH; decide
theorem wW1000100 : isW 1000100 := by unfold isW zWl; decide
theorem wW1000101 : isW 1000101 := by unfold isW zWl; decide
theorem wW1000102 : isW 1000102 := by unfold isW zWl; decide
theorem wW1000103 : isW 1000103 := by unfold isW zWl; decide
theorem wW1000104 : isW 1000104 := by unfold isW zWl; decide
theorem wW1000105 : isW 1000105 := by unfold isW zWl; decide
theorem wW1000106 : isW 1000106 := by unfold isW zWl; decide
theorem wW1000107 : isW 1000107 := by unfold isW zWl; decide
theorem wW1000108 : isW 1000108 := by unfold isW zWl; decide
theorem wW1000109 : isW 1000109 := by unfold isW zWl; decide
theorem wW1000110 : isW 1000110 := by unfold isW zWl; decide
theorem wW1000111 : isW 1000111 := by unfold isW zWl; decide
theorem wW1000112 : isW 1000112 := by unfold isW zWl; decide
theorem wW1000113 : isW 1000113 := by unfold isW zWl; decide
theorem wW1000114 : isW 1000114 := by unfold isW zWl; decide
theorem wW1000115 : isW 1000115 := by unfold isW zWl; decide
theorem wW1000116 : isW 1000116 := by unfold isW zWl; decide
theorem wW1000117 : isW 1000117 := by unfold isW zWl; decide
theorem wW1000118 : isW 1000118 := by unfold isW zWl; decide
theorem wW1000119 : isW 1000119 := by unfold isW zWl; decide
theorem wW1000120 : isW 1000120 := by unfold isW zWl; decide
theorem wW1000121 : isW 1000121 := by unfold isW zWl; decide
theorem wW1000122 : isW 1000122 := by unfold isW zWl; decide
theorem wW1000123 : isW 1000123 := by unfold isW zWl; decide
theorem wW1000124 : isW 1000124 := by unfold isW zWl; decide
theorem wW1000125 : isW 1000125 := by unfold isW zWl; decide
theorem wW1000126 : isW 1000126 := by unfold isW zWl; decide
theorem wW1000127 : isW 1000127 := by unfold isW zWl; decide
theorem wW1000128 : isW 1000128 := by unfold isW zWl; decide
theorem wW1000129 : isW 1000129 := by unfold isW zWl; decide
theorem wW1000130 : isW 1000130 := by unfold isW zWl; decide
theorem wW1000131 : isW 1000131 := by unfold isW zWl; decide
theorem wW1000132 : isW 1000132 := by unfold isW zWl; decide
theorem wW1000133 : isW 1000133 := by unfold isW zWl; decide
theorem wW1000134 : isW 1000134 := by unfold isW zWl; decide
theorem wW1000135 : isW 1000135 := by unfold isW zWl; decide
theorem wW1000136 : isW 1000136 := by unfold isW zWl; decide
theorem wW1000137 : isW 1000137 := by unfold isW zWl; decide
theorem wW1000138 : isW 1000138 := by unfold isW zWl; decide
theorem wW1000139 : isW 1000139 := by unfold isW zWl; decide
theorem wW1000140 : isW 1000140 := by unfold isW zWl; decide
theorem wW1000141 : isW 1000141 := by unfold isW zWl; decide
theorem wW1000142 : isW 1000142 := by unfold isW zWl; decide
theorem wW1000143 : isW 1000143 := by unfold isW zWl; decide
theorem wW1000144 : isW 1000144 := by unfold isW zWl; decide
theorem wW1000145 : isW 1000145 := by unfold isW zWl; decide
theorem wW1000146 : isW 1000146 := by unfold isW zWl; decide
theorem wW1000147 : isW 1000147 := by unfold isW zWl; decide

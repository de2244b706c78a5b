theorem dX6_init_0 : decode cX6_init 0 = .ok (.aload_n 0, 1) := by decide +kernel
theorem dX6_init_1 : decode cX6_init 1 = .ok (.invokespecial 3, 3) := by decide +kernel
theorem dX6_init_4 : decode cX6_init 4 = .ok (.aload_n 0, 1) := by decide +kernel
theorem dX6_init_5 : decode cX6_init 5 = .ok (.bipush 20, 2) := by decide +kernel
theorem dX6_init_7 : decode cX6_init 7 = .ok (.putfield 9, 3) := by decide +kernel
theorem dX6_init_10 : decode cX6_init 10 = .ok (.aload_n 0, 1) := by decide +kernel
theorem dX6_init_11 : decode cX6_init 11 = .ok (.iconst 2, 1) := by decide +kernel
theorem dX6_init_12 : decode cX6_init 12 = .ok (.putfield 15, 3) := by decide +kernel
theorem dX6_init_15 : decode cX6_init 15 = .ok (.aload_n 0, 1) := by decide +kernel
theorem dX6_init_16 : decode cX6_init 16 = .ok (.bipush 50, 2) := by decide +kernel
theorem dX6_init_18 : decode cX6_init 18 = .ok (.putfield 18, 3) := by decide +kernel
theorem dX6_init_21 : decode cX6_init 21 = .ok (.aload_n 0, 1) := by decide +kernel
theorem dX6_init_22 : decode cX6_init 22 = .ok (.new 21, 3) := by decide +kernel
theorem dX6_init_25 : decode cX6_init 25 = .ok (.dup, 1) := by decide +kernel
theorem dX6_init_26 : decode cX6_init 26 = .ok (.invokespecial 23, 3) := by decide +kernel
theorem dX6_init_29 : decode cX6_init 29 = .ok (.putfield 24, 3) := by decide +kernel
theorem dX6_init_32 : decode cX6_init 32 = .ok (.aload_n 0, 1) := by decide +kernel
theorem dX6_init_33 : decode cX6_init 33 = .ok (.new 21, 3) := by decide +kernel
theorem dX6_init_36 : decode cX6_init 36 = .ok (.dup, 1) := by decide +kernel
theorem dX6_init_37 : decode cX6_init 37 = .ok (.invokespecial 23, 3) := by decide +kernel
theorem dX6_init_40 : decode cX6_init 40 = .ok (.putfield 28, 3) := by decide +kernel
theorem dX6_init_43 : decode cX6_init 43 = .ok (.aload_n 0, 1) := by decide +kernel
theorem dX6_init_44 : decode cX6_init 44 = .ok (.new 21, 3) := by decide +kernel
theorem dX6_init_47 : decode cX6_init 47 = .ok (.dup, 1) := by decide +kernel
theorem dX6_init_48 : decode cX6_init 48 = .ok (.invokespecial 23, 3) := by decide +kernel
theorem dX6_init_51 : decode cX6_init 51 = .ok (.putfield 31, 3) := by decide +kernel
theorem dX6_init_54 : decode cX6_init 54 = .ok (.aload_n 0, 1) := by decide +kernel
theorem dX6_init_55 : decode cX6_init 55 = .ok (.new 21, 3) := by decide +kernel
theorem dX6_init_58 : decode cX6_init 58 = .ok (.dup, 1) := by decide +kernel
theorem dX6_init_59 : decode cX6_init 59 = .ok (.invokespecial 23, 3) := by decide +kernel
theorem dX6_init_62 : decode cX6_init 62 = .ok (.putfield 34, 3) := by decide +kernel
theorem dX6_init_65 : decode cX6_init 65 = .ok (.aload_n 0, 1) := by decide +kernel
theorem dX6_init_66 : decode cX6_init 66 = .ok (.new 21, 3) := by decide +kernel
theorem dX6_init_69 : decode cX6_init 69 = .ok (.dup, 1) := by decide +kernel
theorem dX6_init_70 : decode cX6_init 70 = .ok (.invokespecial 23, 3) := by decide +kernel
theorem dX6_init_73 : decode cX6_init 73 = .ok (.putfield 37, 3) := by decide +kernel
theorem dX6_init_76 : decode cX6_init 76 = .ok (.aload_n 0, 1) := by decide +kernel
theorem dX6_init_77 : decode cX6_init 77 = .ok (.new 21, 3) := by decide +kernel
theorem dX6_init_80 : decode cX6_init 80 = .ok (.dup, 1) := by decide +kernel
theorem dX6_init_81 : decode cX6_init 81 = .ok (.invokespecial 23, 3) := by decide +kernel
theorem dX6_init_84 : decode cX6_init 84 = .ok (.putfield 40, 3) := by decide +kernel
theorem dX6_init_87 : decode cX6_init 87 = .ok (.return_, 1) := by decide +kernel
theorem dX6_init__0 : decode cX6_init_ 0 = .ok (.aload_n 0, 1) := by decide +kernel
theorem dX6_init__1 : decode cX6_init_ 1 = .ok (.invokespecial 3, 3) := by decide +kernel
theorem dX6_init__4 : decode cX6_init_ 4 = .ok (.aload_n 0, 1) := by decide +kernel
theorem dX6_init__5 : decode cX6_init_ 5 = .ok (.bipush 20, 2) := by decide +kernel
theorem dX6_init__7 : decode cX6_init_ 7 = .ok (.putfield 9, 3) := by decide +kernel
theorem dX6_init__10 : decode cX6_init_ 10 = .ok (.aload_n 0, 1) := by decide +kernel
theorem dX6_init__11 : decode cX6_init_ 11 = .ok (.iconst 2, 1) := by decide +kernel
theorem dX6_init__12 : decode cX6_init_ 12 = .ok (.putfield 15, 3) := by decide +kernel
theorem dX6_init__15 : decode cX6_init_ 15 = .ok (.aload_n 0, 1) := by decide +kernel
theorem dX6_init__16 : decode cX6_init_ 16 = .ok (.bipush 50, 2) := by decide +kernel
theorem dX6_init__18 : decode cX6_init_ 18 = .ok (.putfield 18, 3) := by decide +kernel
theorem dX6_init__21 : decode cX6_init_ 21 = .ok (.aload_n 0, 1) := by decide +kernel
theorem dX6_init__22 : decode cX6_init_ 22 = .ok (.new 21, 3) := by decide +kernel
theorem dX6_init__25 : decode cX6_init_ 25 = .ok (.dup, 1) := by decide +kernel
theorem dX6_init__26 : decode cX6_init_ 26 = .ok (.invokespecial 23, 3) := by decide +kernel
theorem dX6_init__29 : decode cX6_init_ 29 = .ok (.putfield 24, 3) := by decide +kernel
theorem dX6_init__32 : decode cX6_init_ 32 = .ok (.aload_n 0, 1) := by decide +kernel
theorem dX6_init__33 : decode cX6_init_ 33 = .ok (.new 21, 3) := by decide +kernel
theorem dX6_init__36 : decode cX6_init_ 36 = .ok (.dup, 1) := by decide +kernel
theorem dX6_init__37 : decode cX6_init_ 37 = .ok (.invokespecial 23, 3) := by decide +kernel
theorem dX6_init__40 : decode cX6_init_ 40 = .ok (.putfield 28, 3) := by decide +kernel
theorem dX6_init__43 : decode cX6_init_ 43 = .ok (.aload_n 0, 1) := by decide +kernel
theorem dX6_init__44 : decode cX6_init_ 44 = .ok (.new 21, 3) := by decide +kernel
theorem dX6_init__47 : decode cX6_init_ 47 = .ok (.dup, 1) := by decide +kernel
theorem dX6_init__48 : decode cX6_init_ 48 = .ok (.invokespecial 23, 3) := by decide +kernel
theorem dX6_init__51 : decode cX6_init_ 51 = .ok (.putfield 31, 3) := by decide +kernel
theorem dX6_init__54 : decode cX6_init_ 54 = .ok (.aload_n 0, 1) := by decide +kernel
theorem dX6_init__55 : decode cX6_init_ 55 = .ok (.new 21, 3) := by decide +kernel
theorem dX6_init__58 : decode cX6_init_ 58 = .ok (.dup, 1) := by decide +kernel
theorem dX6_init__59 : decode cX6_init_ 59 = .ok (.invokespecial 23, 3) := by decide +kernel
theorem dX6_init__62 : decode cX6_init_ 62 = .ok (.putfield 34, 3) := by decide +kernel
theorem dX6_init__65 : decode cX6_init_ 65 = .ok (.aload_n 0, 1) := by decide +kernel
theorem dX6_init__66 : decode cX6_init_ 66 = .ok (.new 21, 3) := by decide +kernel
theorem dX6_init__69 : decode cX6_init_ 69 = .ok (.dup, 1) := by decide +kernel
theorem dX6_init__70 : decode cX6_init_ 70 = .ok (.invokespecial 23, 3) := by decide +kernel
theorem dX6_init__73 : decode cX6_init_ 73 = .ok (.putfield 37, 3) := by decide +kernel
theorem dX6_init__76 : decode cX6_init_ 76 = .ok (.aload_n 0, 1) := by decide +kernel
theorem dX6_init__77 : decode cX6_init_ 77 = .ok (.new 21, 3) := by decide +kernel
theorem dX6_init__80 : decode cX6_init_ 80 = .ok (.dup, 1) := by decide +kernel
theorem dX6_init__81 : decode cX6_init_ 81 = .ok (.invokespecial 23, 3) := by decide +kernel
theorem dX6_init__84 : decode cX6_init_ 84 = .ok (.putfield 40, 3) := by decide +kernel
theorem dX6_init__87 : decode cX6_init_ 87 = .ok (.aload_n 0, 1) := by decide +kernel
theorem dX6_init__88 : decode cX6_init_ 88 = .ok (.aload_n 1, 1) := by decide +kernel
theorem dX6_init__89 : decode cX6_init_ 89 = .ok (.getfield 9, 3) := by decide +kernel
theorem dX6_init__92 : decode cX6_init_ 92 = .ok (.putfield 9, 3) := by decide +kernel
theorem dX6_init__95 : decode cX6_init_ 95 = .ok (.aload_n 0, 1) := by decide +kernel
theorem dX6_init__96 : decode cX6_init_ 96 = .ok (.aload_n 1, 1) := by decide +kernel
theorem dX6_init__97 : decode cX6_init_ 97 = .ok (.getfield 15, 3) := by decide +kernel
theorem dX6_init__100 : decode cX6_init_ 100 = .ok (.putfield 15, 3) := by decide +kernel
theorem dX6_init__103 : decode cX6_init_ 103 = .ok (.aload_n 0, 1) := by decide +kernel
theorem dX6_init__104 : decode cX6_init_ 104 = .ok (.aload_n 1, 1) := by decide +kernel
theorem dX6_init__105 : decode cX6_init_ 105 = .ok (.getfield 18, 3) := by decide +kernel
theorem dX6_init__108 : decode cX6_init_ 108 = .ok (.putfield 18, 3) := by decide +kernel
theorem dX6_init__111 : decode cX6_init_ 111 = .ok (.aload_n 0, 1) := by decide +kernel
theorem dX6_init__112 : decode cX6_init_ 112 = .ok (.aload_n 1, 1) := by decide +kernel
theorem dX6_init__113 : decode cX6_init_ 113 = .ok (.getfield 43, 3) := by decide +kernel
theorem dX6_init__116 : decode cX6_init_ 116 = .ok (.putfield 43, 3) := by decide +kernel
theorem dX6_init__119 : decode cX6_init_ 119 = .ok (.aload_n 1, 1) := by decide +kernel
theorem dX6_init__120 : decode cX6_init_ 120 = .ok (.getfield 24, 3) := by decide +kernel
theorem dX6_init__123 : decode cX6_init_ 123 = .ok (.invokevirtual 46, 3) := by decide +kernel
theorem dX6_init__126 : decode cX6_init_ 126 = .ok (.astore_n 2, 1) := by decide +kernel
theorem dX6_init__127 : decode cX6_init_ 127 = .ok (.aload_n 2, 1) := by decide +kernel
theorem dX6_init__128 : decode cX6_init_ 128 = .ok (.invokeinterface 50 1, 5) := by decide +kernel
theorem dX6_init__133 : decode cX6_init_ 133 = .ok (.ifCond .eq 31, 3) := by decide +kernel
theorem dX6_init__136 : decode cX6_init_ 136 = .ok (.aload_n 2, 1) := by decide +kernel
theorem dX6_init__137 : decode cX6_init_ 137 = .ok (.invokeinterface 56 1, 5) := by decide +kernel
theorem dX6_init__142 : decode cX6_init_ 142 = .ok (.checkcast 60, 3) := by decide +kernel
theorem dX6_init__145 : decode cX6_init_ 145 = .ok (.astore_n 3, 1) := by decide +kernel
theorem dX6_init__146 : decode cX6_init_ 146 = .ok (.aload_n 0, 1) := by decide +kernel
theorem dX6_init__147 : decode cX6_init_ 147 = .ok (.getfield 24, 3) := by decide +kernel
theorem dX6_init__150 : decode cX6_init_ 150 = .ok (.aload_n 3, 1) := by decide +kernel
theorem dX6_init__151 : decode cX6_init_ 151 = .ok (.invokevirtual 62, 3) := by decide +kernel
theorem dX6_init__154 : decode cX6_init_ 154 = .ok (.checkcast 60, 3) := by decide +kernel
theorem dX6_init__157 : decode cX6_init_ 157 = .ok (.invokevirtual 65, 3) := by decide +kernel
theorem dX6_init__160 : decode cX6_init_ 160 = .ok (.pop, 1) := by decide +kernel
theorem dX6_init__161 : decode cX6_init_ 161 = .ok (.goto (-34), 3) := by decide +kernel
theorem dX6_init__164 : decode cX6_init_ 164 = .ok (.aload_n 1, 1) := by decide +kernel
theorem dX6_init__165 : decode cX6_init_ 165 = .ok (.getfield 28, 3) := by decide +kernel
theorem dX6_init__168 : decode cX6_init_ 168 = .ok (.invokevirtual 46, 3) := by decide +kernel
theorem dX6_init__171 : decode cX6_init_ 171 = .ok (.astore_n 2, 1) := by decide +kernel
theorem dX6_init__172 : decode cX6_init_ 172 = .ok (.aload_n 2, 1) := by decide +kernel
theorem dX6_init__173 : decode cX6_init_ 173 = .ok (.invokeinterface 50 1, 5) := by decide +kernel
theorem dX6_init__178 : decode cX6_init_ 178 = .ok (.ifCond .eq 28, 3) := by decide +kernel
theorem dX6_init__181 : decode cX6_init_ 181 = .ok (.aload_n 2, 1) := by decide +kernel
theorem dX6_init__182 : decode cX6_init_ 182 = .ok (.invokeinterface 56 1, 5) := by decide +kernel
theorem dX6_init__187 : decode cX6_init_ 187 = .ok (.checkcast 69, 3) := by decide +kernel
theorem dX6_init__190 : decode cX6_init_ 190 = .ok (.astore_n 3, 1) := by decide +kernel
theorem dX6_init__191 : decode cX6_init_ 191 = .ok (.aload_n 0, 1) := by decide +kernel
theorem dX6_init__192 : decode cX6_init_ 192 = .ok (.getfield 28, 3) := by decide +kernel
theorem dX6_init__195 : decode cX6_init_ 195 = .ok (.aload_n 3, 1) := by decide +kernel
theorem dX6_init__196 : decode cX6_init_ 196 = .ok (.invokevirtual 71, 3) := by decide +kernel
theorem dX6_init__199 : decode cX6_init_ 199 = .ok (.invokevirtual 65, 3) := by decide +kernel
theorem dX6_init__202 : decode cX6_init_ 202 = .ok (.pop, 1) := by decide +kernel
theorem dX6_init__203 : decode cX6_init_ 203 = .ok (.goto (-31), 3) := by decide +kernel
theorem dX6_init__206 : decode cX6_init_ 206 = .ok (.aload_n 1, 1) := by decide +kernel
theorem dX6_init__207 : decode cX6_init_ 207 = .ok (.getfield 31, 3) := by decide +kernel
theorem dX6_init__210 : decode cX6_init_ 210 = .ok (.invokevirtual 46, 3) := by decide +kernel
theorem dX6_init__213 : decode cX6_init_ 213 = .ok (.astore_n 2, 1) := by decide +kernel
theorem dX6_init__214 : decode cX6_init_ 214 = .ok (.aload_n 2, 1) := by decide +kernel
theorem dX6_init__215 : decode cX6_init_ 215 = .ok (.invokeinterface 50 1, 5) := by decide +kernel
theorem dX6_init__220 : decode cX6_init_ 220 = .ok (.ifCond .eq 31, 3) := by decide +kernel
theorem dX6_init__223 : decode cX6_init_ 223 = .ok (.aload_n 2, 1) := by decide +kernel
theorem dX6_init__224 : decode cX6_init_ 224 = .ok (.invokeinterface 56 1, 5) := by decide +kernel
theorem dX6_init__229 : decode cX6_init_ 229 = .ok (.checkcast 60, 3) := by decide +kernel
theorem dX6_init__232 : decode cX6_init_ 232 = .ok (.astore_n 3, 1) := by decide +kernel
theorem dX6_init__233 : decode cX6_init_ 233 = .ok (.aload_n 0, 1) := by decide +kernel
theorem dX6_init__234 : decode cX6_init_ 234 = .ok (.getfield 31, 3) := by decide +kernel
theorem dX6_init__237 : decode cX6_init_ 237 = .ok (.aload_n 3, 1) := by decide +kernel
theorem dX6_init__238 : decode cX6_init_ 238 = .ok (.invokevirtual 62, 3) := by decide +kernel
theorem dX6_init__241 : decode cX6_init_ 241 = .ok (.checkcast 60, 3) := by decide +kernel
theorem dX6_init__244 : decode cX6_init_ 244 = .ok (.invokevirtual 65, 3) := by decide +kernel
theorem dX6_init__247 : decode cX6_init_ 247 = .ok (.pop, 1) := by decide +kernel
theorem dX6_init__248 : decode cX6_init_ 248 = .ok (.goto (-34), 3) := by decide +kernel
theorem dX6_init__251 : decode cX6_init_ 251 = .ok (.aload_n 1, 1) := by decide +kernel
theorem dX6_init__252 : decode cX6_init_ 252 = .ok (.getfield 34, 3) := by decide +kernel
theorem dX6_init__255 : decode cX6_init_ 255 = .ok (.invokevirtual 46, 3) := by decide +kernel
theorem dX6_init__258 : decode cX6_init_ 258 = .ok (.astore_n 2, 1) := by decide +kernel
theorem dX6_init__259 : decode cX6_init_ 259 = .ok (.aload_n 2, 1) := by decide +kernel
theorem dX6_init__260 : decode cX6_init_ 260 = .ok (.invokeinterface 50 1, 5) := by decide +kernel
theorem dX6_init__265 : decode cX6_init_ 265 = .ok (.ifCond .eq 31, 3) := by decide +kernel
theorem dX6_init__268 : decode cX6_init_ 268 = .ok (.aload_n 2, 1) := by decide +kernel
theorem dX6_init__269 : decode cX6_init_ 269 = .ok (.invokeinterface 56 1, 5) := by decide +kernel
theorem dX6_init__274 : decode cX6_init_ 274 = .ok (.checkcast 60, 3) := by decide +kernel
theorem dX6_init__277 : decode cX6_init_ 277 = .ok (.astore_n 3, 1) := by decide +kernel
theorem dX6_init__278 : decode cX6_init_ 278 = .ok (.aload_n 0, 1) := by decide +kernel
theorem dX6_init__279 : decode cX6_init_ 279 = .ok (.getfield 34, 3) := by decide +kernel
theorem dX6_init__282 : decode cX6_init_ 282 = .ok (.aload_n 3, 1) := by decide +kernel
theorem dX6_init__283 : decode cX6_init_ 283 = .ok (.invokevirtual 62, 3) := by decide +kernel
theorem dX6_init__286 : decode cX6_init_ 286 = .ok (.checkcast 60, 3) := by decide +kernel
theorem dX6_init__289 : decode cX6_init_ 289 = .ok (.invokevirtual 65, 3) := by decide +kernel
theorem dX6_init__292 : decode cX6_init_ 292 = .ok (.pop, 1) := by decide +kernel
theorem dX6_init__293 : decode cX6_init_ 293 = .ok (.goto (-34), 3) := by decide +kernel
theorem dX6_init__296 : decode cX6_init_ 296 = .ok (.aload_n 1, 1) := by decide +kernel
theorem dX6_init__297 : decode cX6_init_ 297 = .ok (.getfield 37, 3) := by decide +kernel
theorem dX6_init__300 : decode cX6_init_ 300 = .ok (.invokevirtual 46, 3) := by decide +kernel
theorem dX6_init__303 : decode cX6_init_ 303 = .ok (.astore_n 2, 1) := by decide +kernel
theorem dX6_init__304 : decode cX6_init_ 304 = .ok (.aload_n 2, 1) := by decide +kernel
theorem dX6_init__305 : decode cX6_init_ 305 = .ok (.invokeinterface 50 1, 5) := by decide +kernel
theorem dX6_init__310 : decode cX6_init_ 310 = .ok (.ifCond .eq 25, 3) := by decide +kernel
theorem dX6_init__313 : decode cX6_init_ 313 = .ok (.aload_n 2, 1) := by decide +kernel
theorem dX6_init__314 : decode cX6_init_ 314 = .ok (.invokeinterface 56 1, 5) := by decide +kernel
theorem dX6_init__319 : decode cX6_init_ 319 = .ok (.checkcast 60, 3) := by decide +kernel
theorem dX6_init__322 : decode cX6_init_ 322 = .ok (.astore_n 3, 1) := by decide +kernel
theorem dX6_init__323 : decode cX6_init_ 323 = .ok (.aload_n 0, 1) := by decide +kernel
theorem dX6_init__324 : decode cX6_init_ 324 = .ok (.getfield 37, 3) := by decide +kernel
theorem dX6_init__327 : decode cX6_init_ 327 = .ok (.aload_n 3, 1) := by decide +kernel
theorem dX6_init__328 : decode cX6_init_ 328 = .ok (.invokevirtual 65, 3) := by decide +kernel
theorem dX6_init__331 : decode cX6_init_ 331 = .ok (.pop, 1) := by decide +kernel
theorem dX6_init__332 : decode cX6_init_ 332 = .ok (.goto (-28), 3) := by decide +kernel
theorem dX6_init__335 : decode cX6_init_ 335 = .ok (.aload_n 1, 1) := by decide +kernel
theorem dX6_init__336 : decode cX6_init_ 336 = .ok (.getfield 40, 3) := by decide +kernel
theorem dX6_init__339 : decode cX6_init_ 339 = .ok (.invokevirtual 46, 3) := by decide +kernel
theorem dX6_init__342 : decode cX6_init_ 342 = .ok (.astore_n 2, 1) := by decide +kernel
theorem dX6_init__343 : decode cX6_init_ 343 = .ok (.aload_n 2, 1) := by decide +kernel
theorem dX6_init__344 : decode cX6_init_ 344 = .ok (.invokeinterface 50 1, 5) := by decide +kernel
theorem dX6_init__349 : decode cX6_init_ 349 = .ok (.ifCond .eq 25, 3) := by decide +kernel
theorem dX6_init__352 : decode cX6_init_ 352 = .ok (.aload_n 2, 1) := by decide +kernel
theorem dX6_init__353 : decode cX6_init_ 353 = .ok (.invokeinterface 56 1, 5) := by decide +kernel
theorem dX6_init__358 : decode cX6_init_ 358 = .ok (.checkcast 60, 3) := by decide +kernel
theorem dX6_init__361 : decode cX6_init_ 361 = .ok (.astore_n 3, 1) := by decide +kernel
theorem dX6_init__362 : decode cX6_init_ 362 = .ok (.aload_n 0, 1) := by decide +kernel
theorem dX6_init__363 : decode cX6_init_ 363 = .ok (.getfield 40, 3) := by decide +kernel
theorem dX6_init__366 : decode cX6_init_ 366 = .ok (.aload_n 3, 1) := by decide +kernel
theorem dX6_init__367 : decode cX6_init_ 367 = .ok (.invokevirtual 65, 3) := by decide +kernel
theorem dX6_init__370 : decode cX6_init_ 370 = .ok (.pop, 1) := by decide +kernel
theorem dX6_init__371 : decode cX6_init_ 371 = .ok (.goto (-28), 3) := by decide +kernel
theorem dX6_init__374 : decode cX6_init_ 374 = .ok (.return_, 1) := by decide +kernel
theorem dX6_wall_0 : decode cX6_wall 0 = .ok (.aload_n 0, 1) := by decide +kernel
theorem dX6_wall_1 : decode cX6_wall 1 = .ok (.getfield 24, 3) := by decide +kernel
theorem dX6_wall_4 : decode cX6_wall 4 = .ok (.iconst 4, 1) := by decide +kernel
theorem dX6_wall_5 : decode cX6_wall 5 = .ok (.newarray .int, 2) := by decide +kernel
theorem dX6_wall_7 : decode cX6_wall 7 = .ok (.dup, 1) := by decide +kernel
theorem dX6_wall_8 : decode cX6_wall 8 = .ok (.iconst 0, 1) := by decide +kernel
theorem dX6_wall_9 : decode cX6_wall 9 = .ok (.iload_n 1, 1) := by decide +kernel
theorem dX6_wall_10 : decode cX6_wall 10 = .ok (.iastore, 1) := by decide +kernel
theorem dX6_wall_11 : decode cX6_wall 11 = .ok (.dup, 1) := by decide +kernel
theorem dX6_wall_12 : decode cX6_wall 12 = .ok (.iconst 1, 1) := by decide +kernel
theorem dX6_wall_13 : decode cX6_wall 13 = .ok (.iload_n 2, 1) := by decide +kernel
theorem dX6_wall_14 : decode cX6_wall 14 = .ok (.iastore, 1) := by decide +kernel
theorem dX6_wall_15 : decode cX6_wall 15 = .ok (.dup, 1) := by decide +kernel
theorem dX6_wall_16 : decode cX6_wall 16 = .ok (.iconst 2, 1) := by decide +kernel
theorem dX6_wall_17 : decode cX6_wall 17 = .ok (.iload_n 3, 1) := by decide +kernel
theorem dX6_wall_18 : decode cX6_wall 18 = .ok (.iastore, 1) := by decide +kernel
theorem dX6_wall_19 : decode cX6_wall 19 = .ok (.dup, 1) := by decide +kernel
theorem dX6_wall_20 : decode cX6_wall 20 = .ok (.iconst 3, 1) := by decide +kernel
theorem dX6_wall_21 : decode cX6_wall 21 = .ok (.iload_n 3, 1) := by decide +kernel
theorem dX6_wall_22 : decode cX6_wall 22 = .ok (.iastore, 1) := by decide +kernel
theorem dX6_wall_23 : decode cX6_wall 23 = .ok (.invokevirtual 65, 3) := by decide +kernel
theorem dX6_wall_26 : decode cX6_wall 26 = .ok (.pop, 1) := by decide +kernel
theorem dX6_wall_27 : decode cX6_wall 27 = .ok (.return_, 1) := by decide +kernel
theorem dX6_harness_0 : decode cX6_harness 0 = .ok (.aload_n 0, 1) := by decide +kernel
theorem dX6_harness_1 : decode cX6_harness 1 = .ok (.getfield 31, 3) := by decide +kernel
theorem dX6_harness_4 : decode cX6_harness 4 = .ok (.iconst 4, 1) := by decide +kernel
theorem dX6_harness_5 : decode cX6_harness 5 = .ok (.newarray .int, 2) := by decide +kernel
theorem dX6_harness_7 : decode cX6_harness 7 = .ok (.dup, 1) := by decide +kernel
theorem dX6_harness_8 : decode cX6_harness 8 = .ok (.iconst 0, 1) := by decide +kernel
theorem dX6_harness_9 : decode cX6_harness 9 = .ok (.iload_n 1, 1) := by decide +kernel
theorem dX6_harness_10 : decode cX6_harness 10 = .ok (.iastore, 1) := by decide +kernel
theorem dX6_harness_11 : decode cX6_harness 11 = .ok (.dup, 1) := by decide +kernel
theorem dX6_harness_12 : decode cX6_harness 12 = .ok (.iconst 1, 1) := by decide +kernel
theorem dX6_harness_13 : decode cX6_harness 13 = .ok (.iload_n 2, 1) := by decide +kernel
theorem dX6_harness_14 : decode cX6_harness 14 = .ok (.iastore, 1) := by decide +kernel
theorem dX6_harness_15 : decode cX6_harness 15 = .ok (.dup, 1) := by decide +kernel
theorem dX6_harness_16 : decode cX6_harness 16 = .ok (.iconst 2, 1) := by decide +kernel
theorem dX6_harness_17 : decode cX6_harness 17 = .ok (.iconst 0, 1) := by decide +kernel
theorem dX6_harness_18 : decode cX6_harness 18 = .ok (.iastore, 1) := by decide +kernel
theorem dX6_harness_19 : decode cX6_harness 19 = .ok (.dup, 1) := by decide +kernel
theorem dX6_harness_20 : decode cX6_harness 20 = .ok (.iconst 3, 1) := by decide +kernel
theorem dX6_harness_21 : decode cX6_harness 21 = .ok (.iconst 0, 1) := by decide +kernel
theorem dX6_harness_22 : decode cX6_harness 22 = .ok (.iastore, 1) := by decide +kernel
theorem dX6_harness_23 : decode cX6_harness 23 = .ok (.invokevirtual 65, 3) := by decide +kernel
theorem dX6_harness_26 : decode cX6_harness 26 = .ok (.pop, 1) := by decide +kernel
theorem dX6_harness_27 : decode cX6_harness 27 = .ok (.return_, 1) := by decide +kernel
theorem dX6_member_0 : decode cX6_member 0 = .ok (.aload_n 0, 1) := by decide +kernel
theorem dX6_member_1 : decode cX6_member 1 = .ok (.getfield 34, 3) := by decide +kernel
theorem dX6_member_4 : decode cX6_member 4 = .ok (.bipush 6, 2) := by decide +kernel
theorem dX6_member_6 : decode cX6_member 6 = .ok (.newarray .int, 2) := by decide +kernel
theorem dX6_member_8 : decode cX6_member 8 = .ok (.dup, 1) := by decide +kernel
theorem dX6_member_9 : decode cX6_member 9 = .ok (.iconst 0, 1) := by decide +kernel
theorem dX6_member_10 : decode cX6_member 10 = .ok (.iload_n 1, 1) := by decide +kernel
theorem dX6_member_11 : decode cX6_member 11 = .ok (.iastore, 1) := by decide +kernel
theorem dX6_member_12 : decode cX6_member 12 = .ok (.dup, 1) := by decide +kernel
theorem dX6_member_13 : decode cX6_member 13 = .ok (.iconst 1, 1) := by decide +kernel
theorem dX6_member_14 : decode cX6_member 14 = .ok (.iload_n 2, 1) := by decide +kernel
theorem dX6_member_15 : decode cX6_member 15 = .ok (.iastore, 1) := by decide +kernel
theorem dX6_member_16 : decode cX6_member 16 = .ok (.dup, 1) := by decide +kernel
theorem dX6_member_17 : decode cX6_member 17 = .ok (.iconst 2, 1) := by decide +kernel
theorem dX6_member_18 : decode cX6_member 18 = .ok (.iconst 0, 1) := by decide +kernel
theorem dX6_member_19 : decode cX6_member 19 = .ok (.iastore, 1) := by decide +kernel
theorem dX6_member_20 : decode cX6_member 20 = .ok (.dup, 1) := by decide +kernel
theorem dX6_member_21 : decode cX6_member 21 = .ok (.iconst 3, 1) := by decide +kernel
theorem dX6_member_22 : decode cX6_member 22 = .ok (.iconst (-1), 1) := by decide +kernel
theorem dX6_member_23 : decode cX6_member 23 = .ok (.iastore, 1) := by decide +kernel
theorem dX6_member_24 : decode cX6_member 24 = .ok (.dup, 1) := by decide +kernel
theorem dX6_member_25 : decode cX6_member 25 = .ok (.iconst 4, 1) := by decide +kernel
theorem dX6_member_26 : decode cX6_member 26 = .ok (.iconst (-1), 1) := by decide +kernel
theorem dX6_member_27 : decode cX6_member 27 = .ok (.iastore, 1) := by decide +kernel
theorem dX6_member_28 : decode cX6_member 28 = .ok (.dup, 1) := by decide +kernel
theorem dX6_member_29 : decode cX6_member 29 = .ok (.iconst 5, 1) := by decide +kernel
theorem dX6_member_30 : decode cX6_member 30 = .ok (.iconst 0, 1) := by decide +kernel
theorem dX6_member_31 : decode cX6_member 31 = .ok (.iastore, 1) := by decide +kernel
theorem dX6_member_32 : decode cX6_member 32 = .ok (.invokevirtual 65, 3) := by decide +kernel
theorem dX6_member_35 : decode cX6_member 35 = .ok (.pop, 1) := by decide +kernel
theorem dX6_member_36 : decode cX6_member 36 = .ok (.return_, 1) := by decide +kernel
theorem dX6_plain_0 : decode cX6_plain 0 = .ok (.new 10, 3) := by decide +kernel
theorem dX6_plain_3 : decode cX6_plain 3 = .ok (.dup, 1) := by decide +kernel
theorem dX6_plain_4 : decode cX6_plain 4 = .ok (.invokespecial 75, 3) := by decide +kernel
theorem dX6_plain_7 : decode cX6_plain 7 = .ok (.astore_n 0, 1) := by decide +kernel
theorem dX6_plain_8 : decode cX6_plain 8 = .ok (.aload_n 0, 1) := by decide +kernel
theorem dX6_plain_9 : decode cX6_plain 9 = .ok (.bipush 12, 2) := by decide +kernel
theorem dX6_plain_11 : decode cX6_plain 11 = .ok (.iconst 0, 1) := by decide +kernel
theorem dX6_plain_12 : decode cX6_plain 12 = .ok (.bipush 7, 2) := by decide +kernel
theorem dX6_plain_14 : decode cX6_plain 14 = .ok (.invokevirtual 76, 3) := by decide +kernel
theorem dX6_plain_17 : decode cX6_plain 17 = .ok (.aload_n 0, 1) := by decide +kernel
theorem dX6_plain_18 : decode cX6_plain 18 = .ok (.bipush 15, 2) := by decide +kernel
theorem dX6_plain_20 : decode cX6_plain 20 = .ok (.iconst 1, 1) := by decide +kernel
theorem dX6_plain_21 : decode cX6_plain 21 = .ok (.bipush 10, 2) := by decide +kernel
theorem dX6_plain_23 : decode cX6_plain 23 = .ok (.invokevirtual 76, 3) := by decide +kernel
theorem dX6_plain_26 : decode cX6_plain 26 = .ok (.aload_n 0, 1) := by decide +kernel
theorem dX6_plain_27 : decode cX6_plain 27 = .ok (.iconst 1, 1) := by decide +kernel
theorem dX6_plain_28 : decode cX6_plain 28 = .ok (.bipush 30, 2) := by decide +kernel
theorem dX6_plain_30 : decode cX6_plain 30 = .ok (.invokevirtual 80, 3) := by decide +kernel
theorem dX6_plain_33 : decode cX6_plain 33 = .ok (.aload_n 0, 1) := by decide +kernel
theorem dX6_plain_34 : decode cX6_plain 34 = .ok (.iconst 1, 1) := by decide +kernel
theorem dX6_plain_35 : decode cX6_plain 35 = .ok (.bipush 60, 2) := by decide +kernel
theorem dX6_plain_37 : decode cX6_plain 37 = .ok (.invokevirtual 80, 3) := by decide +kernel
theorem dX6_plain_40 : decode cX6_plain 40 = .ok (.aload_n 0, 1) := by decide +kernel
theorem dX6_plain_41 : decode cX6_plain 41 = .ok (.iconst 1, 1) := by decide +kernel
theorem dX6_plain_42 : decode cX6_plain 42 = .ok (.iconst 0, 1) := by decide +kernel
theorem dX6_plain_43 : decode cX6_plain 43 = .ok (.invokevirtual 84, 3) := by decide +kernel
theorem dX6_plain_46 : decode cX6_plain 46 = .ok (.aload_n 0, 1) := by decide +kernel
theorem dX6_plain_47 : decode cX6_plain 47 = .ok (.iconst 1, 1) := by decide +kernel
theorem dX6_plain_48 : decode cX6_plain 48 = .ok (.iconst 1, 1) := by decide +kernel
theorem dX6_plain_49 : decode cX6_plain 49 = .ok (.invokevirtual 84, 3) := by decide +kernel
theorem dX6_plain_52 : decode cX6_plain 52 = .ok (.aload_n 0, 1) := by decide +kernel
theorem dX6_plain_53 : decode cX6_plain 53 = .ok (.getfield 37, 3) := by decide +kernel
theorem dX6_plain_56 : decode cX6_plain 56 = .ok (.iconst 3, 1) := by decide +kernel
theorem dX6_plain_57 : decode cX6_plain 57 = .ok (.newarray .int, 2) := by decide +kernel
theorem dX6_plain_59 : decode cX6_plain 59 = .ok (.dup, 1) := by decide +kernel
theorem dX6_plain_60 : decode cX6_plain 60 = .ok (.iconst 0, 1) := by decide +kernel
theorem dX6_plain_61 : decode cX6_plain 61 = .ok (.iconst 1, 1) := by decide +kernel
theorem dX6_plain_62 : decode cX6_plain 62 = .ok (.iastore, 1) := by decide +kernel
theorem dX6_plain_63 : decode cX6_plain 63 = .ok (.dup, 1) := by decide +kernel
theorem dX6_plain_64 : decode cX6_plain 64 = .ok (.iconst 1, 1) := by decide +kernel
theorem dX6_plain_65 : decode cX6_plain 65 = .ok (.iconst 4, 1) := by decide +kernel
theorem dX6_plain_66 : decode cX6_plain 66 = .ok (.iastore, 1) := by decide +kernel
theorem dX6_plain_67 : decode cX6_plain 67 = .ok (.dup, 1) := by decide +kernel
theorem dX6_plain_68 : decode cX6_plain 68 = .ok (.iconst 2, 1) := by decide +kernel
theorem dX6_plain_69 : decode cX6_plain 69 = .ok (.iconst 5, 1) := by decide +kernel
theorem dX6_plain_70 : decode cX6_plain 70 = .ok (.iastore, 1) := by decide +kernel
theorem dX6_plain_71 : decode cX6_plain 71 = .ok (.invokevirtual 65, 3) := by decide +kernel
theorem dX6_plain_74 : decode cX6_plain 74 = .ok (.pop, 1) := by decide +kernel
theorem dX6_plain_75 : decode cX6_plain 75 = .ok (.aload_n 0, 1) := by decide +kernel
theorem dX6_plain_76 : decode cX6_plain 76 = .ok (.areturn, 1) := by decide +kernel
theorem dX6_drawn_0 : decode cX6_drawn 0 = .ok (.new 10, 3) := by decide +kernel
theorem dX6_drawn_3 : decode cX6_drawn 3 = .ok (.dup, 1) := by decide +kernel
theorem dX6_drawn_4 : decode cX6_drawn 4 = .ok (.invokespecial 75, 3) := by decide +kernel
theorem dX6_drawn_7 : decode cX6_drawn 7 = .ok (.astore_n 1, 1) := by decide +kernel
theorem dX6_drawn_8 : decode cX6_drawn 8 = .ok (.aload_n 0, 1) := by decide +kernel
theorem dX6_drawn_9 : decode cX6_drawn 9 = .ok (.iconst 0, 1) := by decide +kernel
theorem dX6_drawn_10 : decode cX6_drawn 10 = .ok (.ldc 87, 2) := by decide +kernel
theorem dX6_drawn_12 : decode cX6_drawn 12 = .ok (.invokestatic 88, 3) := by decide +kernel
theorem dX6_drawn_15 : decode cX6_drawn 15 = .ok (.istore_n 2, 1) := by decide +kernel
theorem dX6_drawn_16 : decode cX6_drawn 16 = .ok (.aload_n 0, 1) := by decide +kernel
theorem dX6_drawn_17 : decode cX6_drawn 17 = .ok (.iconst 1, 1) := by decide +kernel
theorem dX6_drawn_18 : decode cX6_drawn 18 = .ok (.ldc 87, 2) := by decide +kernel
theorem dX6_drawn_20 : decode cX6_drawn 20 = .ok (.invokestatic 88, 3) := by decide +kernel
theorem dX6_drawn_23 : decode cX6_drawn 23 = .ok (.istore_n 3, 1) := by decide +kernel
theorem dX6_drawn_24 : decode cX6_drawn 24 = .ok (.iload_n 2, 1) := by decide +kernel
theorem dX6_drawn_25 : decode cX6_drawn 25 = .ok (.iconst 3, 1) := by decide +kernel
theorem dX6_drawn_26 : decode cX6_drawn 26 = .ok (.irem, 1) := by decide +kernel
theorem dX6_drawn_27 : decode cX6_drawn 27 = .ok (.ifCond .le 37, 3) := by decide +kernel
theorem dX6_drawn_30 : decode cX6_drawn 30 = .ok (.aload_n 1, 1) := by decide +kernel
theorem dX6_drawn_31 : decode cX6_drawn 31 = .ok (.iload_n 2, 1) := by decide +kernel
theorem dX6_drawn_32 : decode cX6_drawn 32 = .ok (.iconst 3, 1) := by decide +kernel
theorem dX6_drawn_33 : decode cX6_drawn 33 = .ok (.idiv, 1) := by decide +kernel
theorem dX6_drawn_34 : decode cX6_drawn 34 = .ok (.bipush 41, 2) := by decide +kernel
theorem dX6_drawn_36 : decode cX6_drawn 36 = .ok (.irem, 1) := by decide +kernel
theorem dX6_drawn_37 : decode cX6_drawn 37 = .ok (.putfield 9, 3) := by decide +kernel
theorem dX6_drawn_40 : decode cX6_drawn 40 = .ok (.aload_n 1, 1) := by decide +kernel
theorem dX6_drawn_41 : decode cX6_drawn 41 = .ok (.iload_n 2, 1) := by decide +kernel
theorem dX6_drawn_42 : decode cX6_drawn 42 = .ok (.bipush 123, 2) := by decide +kernel
theorem dX6_drawn_44 : decode cX6_drawn 44 = .ok (.idiv, 1) := by decide +kernel
theorem dX6_drawn_45 : decode cX6_drawn 45 = .ok (.iconst 4, 1) := by decide +kernel
theorem dX6_drawn_46 : decode cX6_drawn 46 = .ok (.irem, 1) := by decide +kernel
theorem dX6_drawn_47 : decode cX6_drawn 47 = .ok (.putfield 15, 3) := by decide +kernel
theorem dX6_drawn_50 : decode cX6_drawn 50 = .ok (.aload_n 1, 1) := by decide +kernel
theorem dX6_drawn_51 : decode cX6_drawn 51 = .ok (.iconst 1, 1) := by decide +kernel
theorem dX6_drawn_52 : decode cX6_drawn 52 = .ok (.iload_n 2, 1) := by decide +kernel
theorem dX6_drawn_53 : decode cX6_drawn 53 = .ok (.sipush 500, 3) := by decide +kernel
theorem dX6_drawn_56 : decode cX6_drawn 56 = .ok (.idiv, 1) := by decide +kernel
theorem dX6_drawn_57 : decode cX6_drawn 57 = .ok (.bipush 30, 2) := by decide +kernel
theorem dX6_drawn_59 : decode cX6_drawn 59 = .ok (.irem, 1) := by decide +kernel
theorem dX6_drawn_60 : decode cX6_drawn 60 = .ok (.iadd, 1) := by decide +kernel
theorem dX6_drawn_61 : decode cX6_drawn 61 = .ok (.putfield 18, 3) := by decide +kernel
theorem dX6_drawn_64 : decode cX6_drawn 64 = .ok (.iconst 0, 1) := by decide +kernel
theorem dX6_drawn_65 : decode cX6_drawn 65 = .ok (.istore 4, 2) := by decide +kernel
theorem dX6_drawn_67 : decode cX6_drawn 67 = .ok (.iload 4, 2) := by decide +kernel
theorem dX6_drawn_69 : decode cX6_drawn 69 = .ok (.iconst 1, 1) := by decide +kernel
theorem dX6_drawn_70 : decode cX6_drawn 70 = .ok (.iload_n 3, 1) := by decide +kernel
theorem dX6_drawn_71 : decode cX6_drawn 71 = .ok (.iconst 5, 1) := by decide +kernel
theorem dX6_drawn_72 : decode cX6_drawn 72 = .ok (.irem, 1) := by decide +kernel
theorem dX6_drawn_73 : decode cX6_drawn 73 = .ok (.iadd, 1) := by decide +kernel
theorem dX6_drawn_74 : decode cX6_drawn 74 = .ok (.if_icmp .ge 49, 3) := by decide +kernel
theorem dX6_drawn_77 : decode cX6_drawn 77 = .ok (.aload_n 0, 1) := by decide +kernel
theorem dX6_drawn_78 : decode cX6_drawn 78 = .ok (.iconst 2, 1) := by decide +kernel
theorem dX6_drawn_79 : decode cX6_drawn 79 = .ok (.iload 4, 2) := by decide +kernel
theorem dX6_drawn_81 : decode cX6_drawn 81 = .ok (.iadd, 1) := by decide +kernel
theorem dX6_drawn_82 : decode cX6_drawn 82 = .ok (.ldc 87, 2) := by decide +kernel
theorem dX6_drawn_84 : decode cX6_drawn 84 = .ok (.invokestatic 88, 3) := by decide +kernel
theorem dX6_drawn_87 : decode cX6_drawn 87 = .ok (.istore 5, 2) := by decide +kernel
theorem dX6_drawn_89 : decode cX6_drawn 89 = .ok (.aload_n 1, 1) := by decide +kernel
theorem dX6_drawn_90 : decode cX6_drawn 90 = .ok (.iconst 3, 1) := by decide +kernel
theorem dX6_drawn_91 : decode cX6_drawn 91 = .ok (.iload 5, 2) := by decide +kernel
theorem dX6_drawn_93 : decode cX6_drawn 93 = .ok (.bipush 28, 2) := by decide +kernel
theorem dX6_drawn_95 : decode cX6_drawn 95 = .ok (.irem, 1) := by decide +kernel
theorem dX6_drawn_96 : decode cX6_drawn 96 = .ok (.iadd, 1) := by decide +kernel
theorem dX6_drawn_97 : decode cX6_drawn 97 = .ok (.iload 5, 2) := by decide +kernel
theorem dX6_drawn_99 : decode cX6_drawn 99 = .ok (.bipush 28, 2) := by decide +kernel
theorem dX6_drawn_101 : decode cX6_drawn 101 = .ok (.idiv, 1) := by decide +kernel
theorem dX6_drawn_102 : decode cX6_drawn 102 = .ok (.iconst 3, 1) := by decide +kernel
theorem dX6_drawn_103 : decode cX6_drawn 103 = .ok (.irem, 1) := by decide +kernel
theorem dX6_drawn_104 : decode cX6_drawn 104 = .ok (.iconst 1, 1) := by decide +kernel
theorem dX6_drawn_105 : decode cX6_drawn 105 = .ok (.iload 5, 2) := by decide +kernel
theorem dX6_drawn_107 : decode cX6_drawn 107 = .ok (.bipush 90, 2) := by decide +kernel
theorem dX6_drawn_109 : decode cX6_drawn 109 = .ok (.idiv, 1) := by decide +kernel
theorem dX6_drawn_110 : decode cX6_drawn 110 = .ok (.bipush 12, 2) := by decide +kernel
theorem dX6_drawn_112 : decode cX6_drawn 112 = .ok (.irem, 1) := by decide +kernel
theorem dX6_drawn_113 : decode cX6_drawn 113 = .ok (.iadd, 1) := by decide +kernel
theorem dX6_drawn_114 : decode cX6_drawn 114 = .ok (.invokevirtual 76, 3) := by decide +kernel
theorem dX6_drawn_117 : decode cX6_drawn 117 = .ok (.iinc 4 1, 3) := by decide +kernel
theorem dX6_drawn_120 : decode cX6_drawn 120 = .ok (.goto (-53), 3) := by decide +kernel
theorem dX6_drawn_123 : decode cX6_drawn 123 = .ok (.iconst 0, 1) := by decide +kernel
theorem dX6_drawn_124 : decode cX6_drawn 124 = .ok (.istore 4, 2) := by decide +kernel
theorem dX6_drawn_126 : decode cX6_drawn 126 = .ok (.iload 4, 2) := by decide +kernel
theorem dX6_drawn_128 : decode cX6_drawn 128 = .ok (.iconst 2, 1) := by decide +kernel
theorem dX6_drawn_129 : decode cX6_drawn 129 = .ok (.iload_n 3, 1) := by decide +kernel
theorem dX6_drawn_130 : decode cX6_drawn 130 = .ok (.iconst 5, 1) := by decide +kernel
theorem dX6_drawn_131 : decode cX6_drawn 131 = .ok (.idiv, 1) := by decide +kernel
theorem dX6_drawn_132 : decode cX6_drawn 132 = .ok (.bipush 6, 2) := by decide +kernel
theorem dX6_drawn_134 : decode cX6_drawn 134 = .ok (.irem, 1) := by decide +kernel
theorem dX6_drawn_135 : decode cX6_drawn 135 = .ok (.iadd, 1) := by decide +kernel
theorem dX6_drawn_136 : decode cX6_drawn 136 = .ok (.if_icmp .ge 53, 3) := by decide +kernel
theorem dX6_drawn_139 : decode cX6_drawn 139 = .ok (.aload_n 0, 1) := by decide +kernel
theorem dX6_drawn_140 : decode cX6_drawn 140 = .ok (.bipush 7, 2) := by decide +kernel
theorem dX6_drawn_142 : decode cX6_drawn 142 = .ok (.iload 4, 2) := by decide +kernel
theorem dX6_drawn_144 : decode cX6_drawn 144 = .ok (.iadd, 1) := by decide +kernel
theorem dX6_drawn_145 : decode cX6_drawn 145 = .ok (.ldc 87, 2) := by decide +kernel
theorem dX6_drawn_147 : decode cX6_drawn 147 = .ok (.invokestatic 88, 3) := by decide +kernel
theorem dX6_drawn_150 : decode cX6_drawn 150 = .ok (.istore 5, 2) := by decide +kernel
theorem dX6_drawn_152 : decode cX6_drawn 152 = .ok (.aload_n 1, 1) := by decide +kernel
theorem dX6_drawn_153 : decode cX6_drawn 153 = .ok (.iload 5, 2) := by decide +kernel
theorem dX6_drawn_155 : decode cX6_drawn 155 = .ok (.iconst 3, 1) := by decide +kernel
theorem dX6_drawn_156 : decode cX6_drawn 156 = .ok (.irem, 1) := by decide +kernel
theorem dX6_drawn_157 : decode cX6_drawn 157 = .ok (.ifCond .ne 12, 3) := by decide +kernel
theorem dX6_drawn_160 : decode cX6_drawn 160 = .ok (.iload 5, 2) := by decide +kernel
theorem dX6_drawn_162 : decode cX6_drawn 162 = .ok (.iconst 3, 1) := by decide +kernel
theorem dX6_drawn_163 : decode cX6_drawn 163 = .ok (.idiv, 1) := by decide +kernel
theorem dX6_drawn_164 : decode cX6_drawn 164 = .ok (.iconst 4, 1) := by decide +kernel
theorem dX6_drawn_165 : decode cX6_drawn 165 = .ok (.irem, 1) := by decide +kernel
theorem dX6_drawn_166 : decode cX6_drawn 166 = .ok (.goto 4, 3) := by decide +kernel
theorem dX6_drawn_169 : decode cX6_drawn 169 = .ok (.iconst 1, 1) := by decide +kernel
theorem dX6_drawn_170 : decode cX6_drawn 170 = .ok (.iconst 1, 1) := by decide +kernel
theorem dX6_drawn_171 : decode cX6_drawn 171 = .ok (.iload 5, 2) := by decide +kernel
theorem dX6_drawn_173 : decode cX6_drawn 173 = .ok (.bipush 12, 2) := by decide +kernel
theorem dX6_drawn_175 : decode cX6_drawn 175 = .ok (.idiv, 1) := by decide +kernel
theorem dX6_drawn_176 : decode cX6_drawn 176 = .ok (.bipush 40, 2) := by decide +kernel
theorem dX6_drawn_178 : decode cX6_drawn 178 = .ok (.irem, 1) := by decide +kernel
theorem dX6_drawn_179 : decode cX6_drawn 179 = .ok (.iadd, 1) := by decide +kernel
theorem dX6_drawn_180 : decode cX6_drawn 180 = .ok (.invokevirtual 80, 3) := by decide +kernel
theorem dX6_drawn_183 : decode cX6_drawn 183 = .ok (.iinc 4 1, 3) := by decide +kernel
theorem dX6_drawn_186 : decode cX6_drawn 186 = .ok (.goto (-60), 3) := by decide +kernel
theorem dX6_drawn_189 : decode cX6_drawn 189 = .ok (.iconst 0, 1) := by decide +kernel
theorem dX6_drawn_190 : decode cX6_drawn 190 = .ok (.istore 4, 2) := by decide +kernel
theorem dX6_drawn_192 : decode cX6_drawn 192 = .ok (.iload 4, 2) := by decide +kernel
theorem dX6_drawn_194 : decode cX6_drawn 194 = .ok (.iconst 1, 1) := by decide +kernel
theorem dX6_drawn_195 : decode cX6_drawn 195 = .ok (.iload_n 3, 1) := by decide +kernel
theorem dX6_drawn_196 : decode cX6_drawn 196 = .ok (.bipush 30, 2) := by decide +kernel
theorem dX6_drawn_198 : decode cX6_drawn 198 = .ok (.idiv, 1) := by decide +kernel
theorem dX6_drawn_199 : decode cX6_drawn 199 = .ok (.bipush 6, 2) := by decide +kernel
theorem dX6_drawn_201 : decode cX6_drawn 201 = .ok (.irem, 1) := by decide +kernel
theorem dX6_drawn_202 : decode cX6_drawn 202 = .ok (.iadd, 1) := by decide +kernel
theorem dX6_drawn_203 : decode cX6_drawn 203 = .ok (.if_icmp .ge 50, 3) := by decide +kernel
theorem dX6_drawn_206 : decode cX6_drawn 206 = .ok (.aload_n 0, 1) := by decide +kernel
theorem dX6_drawn_207 : decode cX6_drawn 207 = .ok (.bipush 14, 2) := by decide +kernel
theorem dX6_drawn_209 : decode cX6_drawn 209 = .ok (.iload 4, 2) := by decide +kernel
theorem dX6_drawn_211 : decode cX6_drawn 211 = .ok (.iadd, 1) := by decide +kernel
theorem dX6_drawn_212 : decode cX6_drawn 212 = .ok (.ldc 87, 2) := by decide +kernel
theorem dX6_drawn_214 : decode cX6_drawn 214 = .ok (.invokestatic 88, 3) := by decide +kernel
theorem dX6_drawn_217 : decode cX6_drawn 217 = .ok (.istore 5, 2) := by decide +kernel
theorem dX6_drawn_219 : decode cX6_drawn 219 = .ok (.aload_n 1, 1) := by decide +kernel
theorem dX6_drawn_220 : decode cX6_drawn 220 = .ok (.iload 5, 2) := by decide +kernel
theorem dX6_drawn_222 : decode cX6_drawn 222 = .ok (.iconst 4, 1) := by decide +kernel
theorem dX6_drawn_223 : decode cX6_drawn 223 = .ok (.irem, 1) := by decide +kernel
theorem dX6_drawn_224 : decode cX6_drawn 224 = .ok (.ifCond .ne 12, 3) := by decide +kernel
theorem dX6_drawn_227 : decode cX6_drawn 227 = .ok (.iload 5, 2) := by decide +kernel
theorem dX6_drawn_229 : decode cX6_drawn 229 = .ok (.iconst 4, 1) := by decide +kernel
theorem dX6_drawn_230 : decode cX6_drawn 230 = .ok (.idiv, 1) := by decide +kernel
theorem dX6_drawn_231 : decode cX6_drawn 231 = .ok (.iconst 4, 1) := by decide +kernel
theorem dX6_drawn_232 : decode cX6_drawn 232 = .ok (.irem, 1) := by decide +kernel
theorem dX6_drawn_233 : decode cX6_drawn 233 = .ok (.goto 4, 3) := by decide +kernel
theorem dX6_drawn_236 : decode cX6_drawn 236 = .ok (.iconst 1, 1) := by decide +kernel
theorem dX6_drawn_237 : decode cX6_drawn 237 = .ok (.iload 5, 2) := by decide +kernel
theorem dX6_drawn_239 : decode cX6_drawn 239 = .ok (.bipush 16, 2) := by decide +kernel
theorem dX6_drawn_241 : decode cX6_drawn 241 = .ok (.idiv, 1) := by decide +kernel
theorem dX6_drawn_242 : decode cX6_drawn 242 = .ok (.iconst 4, 1) := by decide +kernel
theorem dX6_drawn_243 : decode cX6_drawn 243 = .ok (.irem, 1) := by decide +kernel
theorem dX6_drawn_244 : decode cX6_drawn 244 = .ok (.invokevirtual 84, 3) := by decide +kernel
theorem dX6_drawn_247 : decode cX6_drawn 247 = .ok (.iinc 4 1, 3) := by decide +kernel
theorem dX6_drawn_250 : decode cX6_drawn 250 = .ok (.goto (-58), 3) := by decide +kernel
theorem dX6_drawn_253 : decode cX6_drawn 253 = .ok (.iconst 0, 1) := by decide +kernel
theorem dX6_drawn_254 : decode cX6_drawn 254 = .ok (.istore 4, 2) := by decide +kernel
theorem dX6_drawn_256 : decode cX6_drawn 256 = .ok (.iload 4, 2) := by decide +kernel
theorem dX6_drawn_258 : decode cX6_drawn 258 = .ok (.iload_n 3, 1) := by decide +kernel
theorem dX6_drawn_259 : decode cX6_drawn 259 = .ok (.sipush 180, 3) := by decide +kernel
theorem dX6_drawn_262 : decode cX6_drawn 262 = .ok (.idiv, 1) := by decide +kernel
theorem dX6_drawn_263 : decode cX6_drawn 263 = .ok (.iconst 5, 1) := by decide +kernel
theorem dX6_drawn_264 : decode cX6_drawn 264 = .ok (.irem, 1) := by decide +kernel
theorem dX6_drawn_265 : decode cX6_drawn 265 = .ok (.if_icmp .ge 63, 3) := by decide +kernel
theorem dX6_drawn_268 : decode cX6_drawn 268 = .ok (.aload_n 0, 1) := by decide +kernel
theorem dX6_drawn_269 : decode cX6_drawn 269 = .ok (.bipush 20, 2) := by decide +kernel
theorem dX6_drawn_271 : decode cX6_drawn 271 = .ok (.iload 4, 2) := by decide +kernel
theorem dX6_drawn_273 : decode cX6_drawn 273 = .ok (.iadd, 1) := by decide +kernel
theorem dX6_drawn_274 : decode cX6_drawn 274 = .ok (.ldc 87, 2) := by decide +kernel
theorem dX6_drawn_276 : decode cX6_drawn 276 = .ok (.invokestatic 88, 3) := by decide +kernel
theorem dX6_drawn_279 : decode cX6_drawn 279 = .ok (.istore 5, 2) := by decide +kernel
theorem dX6_drawn_281 : decode cX6_drawn 281 = .ok (.aload_n 1, 1) := by decide +kernel
theorem dX6_drawn_282 : decode cX6_drawn 282 = .ok (.getfield 37, 3) := by decide +kernel
theorem dX6_drawn_285 : decode cX6_drawn 285 = .ok (.iconst 3, 1) := by decide +kernel
theorem dX6_drawn_286 : decode cX6_drawn 286 = .ok (.newarray .int, 2) := by decide +kernel
theorem dX6_drawn_288 : decode cX6_drawn 288 = .ok (.dup, 1) := by decide +kernel
theorem dX6_drawn_289 : decode cX6_drawn 289 = .ok (.iconst 0, 1) := by decide +kernel
theorem dX6_drawn_290 : decode cX6_drawn 290 = .ok (.iconst 1, 1) := by decide +kernel
theorem dX6_drawn_291 : decode cX6_drawn 291 = .ok (.iload 5, 2) := by decide +kernel
theorem dX6_drawn_293 : decode cX6_drawn 293 = .ok (.iconst 4, 1) := by decide +kernel
theorem dX6_drawn_294 : decode cX6_drawn 294 = .ok (.irem, 1) := by decide +kernel
theorem dX6_drawn_295 : decode cX6_drawn 295 = .ok (.iadd, 1) := by decide +kernel
theorem dX6_drawn_296 : decode cX6_drawn 296 = .ok (.iastore, 1) := by decide +kernel
theorem dX6_drawn_297 : decode cX6_drawn 297 = .ok (.dup, 1) := by decide +kernel
theorem dX6_drawn_298 : decode cX6_drawn 298 = .ok (.iconst 1, 1) := by decide +kernel
theorem dX6_drawn_299 : decode cX6_drawn 299 = .ok (.iconst 1, 1) := by decide +kernel
theorem dX6_drawn_300 : decode cX6_drawn 300 = .ok (.iload 5, 2) := by decide +kernel
theorem dX6_drawn_302 : decode cX6_drawn 302 = .ok (.iconst 4, 1) := by decide +kernel
theorem dX6_drawn_303 : decode cX6_drawn 303 = .ok (.idiv, 1) := by decide +kernel
theorem dX6_drawn_304 : decode cX6_drawn 304 = .ok (.iconst 3, 1) := by decide +kernel
theorem dX6_drawn_305 : decode cX6_drawn 305 = .ok (.irem, 1) := by decide +kernel
theorem dX6_drawn_306 : decode cX6_drawn 306 = .ok (.iadd, 1) := by decide +kernel
theorem dX6_drawn_307 : decode cX6_drawn 307 = .ok (.iastore, 1) := by decide +kernel
theorem dX6_drawn_308 : decode cX6_drawn 308 = .ok (.dup, 1) := by decide +kernel
theorem dX6_drawn_309 : decode cX6_drawn 309 = .ok (.iconst 2, 1) := by decide +kernel
theorem dX6_drawn_310 : decode cX6_drawn 310 = .ok (.iload 5, 2) := by decide +kernel
theorem dX6_drawn_312 : decode cX6_drawn 312 = .ok (.bipush 12, 2) := by decide +kernel
theorem dX6_drawn_314 : decode cX6_drawn 314 = .ok (.idiv, 1) := by decide +kernel
theorem dX6_drawn_315 : decode cX6_drawn 315 = .ok (.iconst 4, 1) := by decide +kernel
theorem dX6_drawn_316 : decode cX6_drawn 316 = .ok (.irem, 1) := by decide +kernel
theorem dX6_drawn_317 : decode cX6_drawn 317 = .ok (.iastore, 1) := by decide +kernel
theorem dX6_drawn_318 : decode cX6_drawn 318 = .ok (.invokevirtual 65, 3) := by decide +kernel
theorem dX6_drawn_321 : decode cX6_drawn 321 = .ok (.pop, 1) := by decide +kernel
theorem dX6_drawn_322 : decode cX6_drawn 322 = .ok (.iinc 4 1, 3) := by decide +kernel
theorem dX6_drawn_325 : decode cX6_drawn 325 = .ok (.goto (-69), 3) := by decide +kernel
theorem dX6_drawn_328 : decode cX6_drawn 328 = .ok (.aload_n 1, 1) := by decide +kernel
theorem dX6_drawn_329 : decode cX6_drawn 329 = .ok (.areturn, 1) := by decide +kernel
theorem dX6_text_0 : decode cX6_text 0 = .ok (.new 92, 3) := by decide +kernel
theorem dX6_text_3 : decode cX6_text 3 = .ok (.dup, 1) := by decide +kernel
theorem dX6_text_4 : decode cX6_text 4 = .ok (.new 92, 3) := by decide +kernel
theorem dX6_text_7 : decode cX6_text 7 = .ok (.dup, 1) := by decide +kernel
theorem dX6_text_8 : decode cX6_text 8 = .ok (.invokespecial 94, 3) := by decide +kernel
theorem dX6_text_11 : decode cX6_text 11 = .ok (.ldc 95, 2) := by decide +kernel
theorem dX6_text_13 : decode cX6_text 13 = .ok (.invokevirtual 97, 3) := by decide +kernel
theorem dX6_text_16 : decode cX6_text 16 = .ok (.aload_n 0, 1) := by decide +kernel
theorem dX6_text_17 : decode cX6_text 17 = .ok (.getfield 9, 3) := by decide +kernel
theorem dX6_text_20 : decode cX6_text 20 = .ok (.invokevirtual 101, 3) := by decide +kernel
theorem dX6_text_23 : decode cX6_text 23 = .ok (.ldc 104, 2) := by decide +kernel
theorem dX6_text_25 : decode cX6_text 25 = .ok (.invokevirtual 97, 3) := by decide +kernel
theorem dX6_text_28 : decode cX6_text 28 = .ok (.aload_n 0, 1) := by decide +kernel
theorem dX6_text_29 : decode cX6_text 29 = .ok (.getfield 15, 3) := by decide +kernel
theorem dX6_text_32 : decode cX6_text 32 = .ok (.invokevirtual 101, 3) := by decide +kernel
theorem dX6_text_35 : decode cX6_text 35 = .ok (.ldc 104, 2) := by decide +kernel
theorem dX6_text_37 : decode cX6_text 37 = .ok (.invokevirtual 97, 3) := by decide +kernel
theorem dX6_text_40 : decode cX6_text 40 = .ok (.aload_n 0, 1) := by decide +kernel
theorem dX6_text_41 : decode cX6_text 41 = .ok (.getfield 18, 3) := by decide +kernel
theorem dX6_text_44 : decode cX6_text 44 = .ok (.invokevirtual 101, 3) := by decide +kernel
theorem dX6_text_47 : decode cX6_text 47 = .ok (.invokevirtual 106, 3) := by decide +kernel
theorem dX6_text_50 : decode cX6_text 50 = .ok (.invokespecial 110, 3) := by decide +kernel
theorem dX6_text_53 : decode cX6_text 53 = .ok (.astore_n 1, 1) := by decide +kernel
theorem dX6_text_54 : decode cX6_text 54 = .ok (.aload_n 0, 1) := by decide +kernel
theorem dX6_text_55 : decode cX6_text 55 = .ok (.getfield 24, 3) := by decide +kernel
theorem dX6_text_58 : decode cX6_text 58 = .ok (.invokevirtual 46, 3) := by decide +kernel
theorem dX6_text_61 : decode cX6_text 61 = .ok (.astore_n 2, 1) := by decide +kernel
theorem dX6_text_62 : decode cX6_text 62 = .ok (.aload_n 2, 1) := by decide +kernel
theorem dX6_text_63 : decode cX6_text 63 = .ok (.invokeinterface 50 1, 5) := by decide +kernel
theorem dX6_text_68 : decode cX6_text 68 = .ok (.ifCond .eq 51, 3) := by decide +kernel
theorem dX6_text_71 : decode cX6_text 71 = .ok (.aload_n 2, 1) := by decide +kernel
theorem dX6_text_72 : decode cX6_text 72 = .ok (.invokeinterface 56 1, 5) := by decide +kernel
theorem dX6_text_77 : decode cX6_text 77 = .ok (.checkcast 60, 3) := by decide +kernel
theorem dX6_text_80 : decode cX6_text 80 = .ok (.astore_n 3, 1) := by decide +kernel
theorem dX6_text_81 : decode cX6_text 81 = .ok (.aload_n 1, 1) := by decide +kernel
theorem dX6_text_82 : decode cX6_text 82 = .ok (.ldc 113, 2) := by decide +kernel
theorem dX6_text_84 : decode cX6_text 84 = .ok (.invokevirtual 97, 3) := by decide +kernel
theorem dX6_text_87 : decode cX6_text 87 = .ok (.aload_n 3, 1) := by decide +kernel
theorem dX6_text_88 : decode cX6_text 88 = .ok (.iconst 0, 1) := by decide +kernel
theorem dX6_text_89 : decode cX6_text 89 = .ok (.iaload, 1) := by decide +kernel
theorem dX6_text_90 : decode cX6_text 90 = .ok (.invokevirtual 101, 3) := by decide +kernel
theorem dX6_text_93 : decode cX6_text 93 = .ok (.bipush 32, 2) := by decide +kernel
theorem dX6_text_95 : decode cX6_text 95 = .ok (.invokevirtual 115, 3) := by decide +kernel
theorem dX6_text_98 : decode cX6_text 98 = .ok (.aload_n 3, 1) := by decide +kernel
theorem dX6_text_99 : decode cX6_text 99 = .ok (.iconst 1, 1) := by decide +kernel
theorem dX6_text_100 : decode cX6_text 100 = .ok (.iaload, 1) := by decide +kernel
theorem dX6_text_101 : decode cX6_text 101 = .ok (.invokevirtual 101, 3) := by decide +kernel
theorem dX6_text_104 : decode cX6_text 104 = .ok (.bipush 32, 2) := by decide +kernel
theorem dX6_text_106 : decode cX6_text 106 = .ok (.invokevirtual 115, 3) := by decide +kernel
theorem dX6_text_109 : decode cX6_text 109 = .ok (.aload_n 3, 1) := by decide +kernel
theorem dX6_text_110 : decode cX6_text 110 = .ok (.iconst 2, 1) := by decide +kernel
theorem dX6_text_111 : decode cX6_text 111 = .ok (.iaload, 1) := by decide +kernel
theorem dX6_text_112 : decode cX6_text 112 = .ok (.invokevirtual 101, 3) := by decide +kernel
theorem dX6_text_115 : decode cX6_text 115 = .ok (.pop, 1) := by decide +kernel
theorem dX6_text_116 : decode cX6_text 116 = .ok (.goto (-54), 3) := by decide +kernel
theorem dX6_text_119 : decode cX6_text 119 = .ok (.aload_n 0, 1) := by decide +kernel
theorem dX6_text_120 : decode cX6_text 120 = .ok (.getfield 31, 3) := by decide +kernel
theorem dX6_text_123 : decode cX6_text 123 = .ok (.invokevirtual 46, 3) := by decide +kernel
theorem dX6_text_126 : decode cX6_text 126 = .ok (.astore_n 2, 1) := by decide +kernel
theorem dX6_text_127 : decode cX6_text 127 = .ok (.aload_n 2, 1) := by decide +kernel
theorem dX6_text_128 : decode cX6_text 128 = .ok (.invokeinterface 50 1, 5) := by decide +kernel
theorem dX6_text_133 : decode cX6_text 133 = .ok (.ifCond .eq 40, 3) := by decide +kernel
theorem dX6_text_136 : decode cX6_text 136 = .ok (.aload_n 2, 1) := by decide +kernel
theorem dX6_text_137 : decode cX6_text 137 = .ok (.invokeinterface 56 1, 5) := by decide +kernel
theorem dX6_text_142 : decode cX6_text 142 = .ok (.checkcast 60, 3) := by decide +kernel
theorem dX6_text_145 : decode cX6_text 145 = .ok (.astore_n 3, 1) := by decide +kernel
theorem dX6_text_146 : decode cX6_text 146 = .ok (.aload_n 1, 1) := by decide +kernel
theorem dX6_text_147 : decode cX6_text 147 = .ok (.ldc 118, 2) := by decide +kernel
theorem dX6_text_149 : decode cX6_text 149 = .ok (.invokevirtual 97, 3) := by decide +kernel
theorem dX6_text_152 : decode cX6_text 152 = .ok (.aload_n 3, 1) := by decide +kernel
theorem dX6_text_153 : decode cX6_text 153 = .ok (.iconst 0, 1) := by decide +kernel
theorem dX6_text_154 : decode cX6_text 154 = .ok (.iaload, 1) := by decide +kernel
theorem dX6_text_155 : decode cX6_text 155 = .ok (.invokevirtual 101, 3) := by decide +kernel
theorem dX6_text_158 : decode cX6_text 158 = .ok (.bipush 32, 2) := by decide +kernel
theorem dX6_text_160 : decode cX6_text 160 = .ok (.invokevirtual 115, 3) := by decide +kernel
theorem dX6_text_163 : decode cX6_text 163 = .ok (.aload_n 3, 1) := by decide +kernel
theorem dX6_text_164 : decode cX6_text 164 = .ok (.iconst 1, 1) := by decide +kernel
theorem dX6_text_165 : decode cX6_text 165 = .ok (.iaload, 1) := by decide +kernel
theorem dX6_text_166 : decode cX6_text 166 = .ok (.invokevirtual 101, 3) := by decide +kernel
theorem dX6_text_169 : decode cX6_text 169 = .ok (.pop, 1) := by decide +kernel
theorem dX6_text_170 : decode cX6_text 170 = .ok (.goto (-43), 3) := by decide +kernel
theorem dX6_text_173 : decode cX6_text 173 = .ok (.aload_n 0, 1) := by decide +kernel
theorem dX6_text_174 : decode cX6_text 174 = .ok (.getfield 34, 3) := by decide +kernel
theorem dX6_text_177 : decode cX6_text 177 = .ok (.invokevirtual 46, 3) := by decide +kernel
theorem dX6_text_180 : decode cX6_text 180 = .ok (.astore_n 2, 1) := by decide +kernel
theorem dX6_text_181 : decode cX6_text 181 = .ok (.aload_n 2, 1) := by decide +kernel
theorem dX6_text_182 : decode cX6_text 182 = .ok (.invokeinterface 50 1, 5) := by decide +kernel
theorem dX6_text_187 : decode cX6_text 187 = .ok (.ifCond .eq 40, 3) := by decide +kernel
theorem dX6_text_190 : decode cX6_text 190 = .ok (.aload_n 2, 1) := by decide +kernel
theorem dX6_text_191 : decode cX6_text 191 = .ok (.invokeinterface 56 1, 5) := by decide +kernel
theorem dX6_text_196 : decode cX6_text 196 = .ok (.checkcast 60, 3) := by decide +kernel
theorem dX6_text_199 : decode cX6_text 199 = .ok (.astore_n 3, 1) := by decide +kernel
theorem dX6_text_200 : decode cX6_text 200 = .ok (.aload_n 1, 1) := by decide +kernel
theorem dX6_text_201 : decode cX6_text 201 = .ok (.ldc 120, 2) := by decide +kernel
theorem dX6_text_203 : decode cX6_text 203 = .ok (.invokevirtual 97, 3) := by decide +kernel
theorem dX6_text_206 : decode cX6_text 206 = .ok (.aload_n 3, 1) := by decide +kernel
theorem dX6_text_207 : decode cX6_text 207 = .ok (.iconst 0, 1) := by decide +kernel
theorem dX6_text_208 : decode cX6_text 208 = .ok (.iaload, 1) := by decide +kernel
theorem dX6_text_209 : decode cX6_text 209 = .ok (.invokevirtual 101, 3) := by decide +kernel
theorem dX6_text_212 : decode cX6_text 212 = .ok (.bipush 32, 2) := by decide +kernel
theorem dX6_text_214 : decode cX6_text 214 = .ok (.invokevirtual 115, 3) := by decide +kernel
theorem dX6_text_217 : decode cX6_text 217 = .ok (.aload_n 3, 1) := by decide +kernel
theorem dX6_text_218 : decode cX6_text 218 = .ok (.iconst 1, 1) := by decide +kernel
theorem dX6_text_219 : decode cX6_text 219 = .ok (.iaload, 1) := by decide +kernel
theorem dX6_text_220 : decode cX6_text 220 = .ok (.invokevirtual 101, 3) := by decide +kernel
theorem dX6_text_223 : decode cX6_text 223 = .ok (.pop, 1) := by decide +kernel
theorem dX6_text_224 : decode cX6_text 224 = .ok (.goto (-43), 3) := by decide +kernel
theorem dX6_text_227 : decode cX6_text 227 = .ok (.aload_n 0, 1) := by decide +kernel
theorem dX6_text_228 : decode cX6_text 228 = .ok (.getfield 37, 3) := by decide +kernel
theorem dX6_text_231 : decode cX6_text 231 = .ok (.invokevirtual 46, 3) := by decide +kernel
theorem dX6_text_234 : decode cX6_text 234 = .ok (.astore_n 2, 1) := by decide +kernel
theorem dX6_text_235 : decode cX6_text 235 = .ok (.aload_n 2, 1) := by decide +kernel
theorem dX6_text_236 : decode cX6_text 236 = .ok (.invokeinterface 50 1, 5) := by decide +kernel
theorem dX6_text_241 : decode cX6_text 241 = .ok (.ifCond .eq 51, 3) := by decide +kernel
theorem dX6_text_244 : decode cX6_text 244 = .ok (.aload_n 2, 1) := by decide +kernel
theorem dX6_text_245 : decode cX6_text 245 = .ok (.invokeinterface 56 1, 5) := by decide +kernel
theorem dX6_text_250 : decode cX6_text 250 = .ok (.checkcast 60, 3) := by decide +kernel
theorem dX6_text_253 : decode cX6_text 253 = .ok (.astore_n 3, 1) := by decide +kernel
theorem dX6_text_254 : decode cX6_text 254 = .ok (.aload_n 1, 1) := by decide +kernel
theorem dX6_text_255 : decode cX6_text 255 = .ok (.ldc 122, 2) := by decide +kernel
theorem dX6_text_257 : decode cX6_text 257 = .ok (.invokevirtual 97, 3) := by decide +kernel
theorem dX6_text_260 : decode cX6_text 260 = .ok (.aload_n 3, 1) := by decide +kernel
theorem dX6_text_261 : decode cX6_text 261 = .ok (.iconst 0, 1) := by decide +kernel
theorem dX6_text_262 : decode cX6_text 262 = .ok (.iaload, 1) := by decide +kernel
theorem dX6_text_263 : decode cX6_text 263 = .ok (.invokevirtual 101, 3) := by decide +kernel
theorem dX6_text_266 : decode cX6_text 266 = .ok (.bipush 32, 2) := by decide +kernel
theorem dX6_text_268 : decode cX6_text 268 = .ok (.invokevirtual 115, 3) := by decide +kernel
theorem dX6_text_271 : decode cX6_text 271 = .ok (.aload_n 3, 1) := by decide +kernel
theorem dX6_text_272 : decode cX6_text 272 = .ok (.iconst 1, 1) := by decide +kernel
theorem dX6_text_273 : decode cX6_text 273 = .ok (.iaload, 1) := by decide +kernel
theorem dX6_text_274 : decode cX6_text 274 = .ok (.invokevirtual 101, 3) := by decide +kernel
theorem dX6_text_277 : decode cX6_text 277 = .ok (.bipush 32, 2) := by decide +kernel
theorem dX6_text_279 : decode cX6_text 279 = .ok (.invokevirtual 115, 3) := by decide +kernel
theorem dX6_text_282 : decode cX6_text 282 = .ok (.aload_n 3, 1) := by decide +kernel
theorem dX6_text_283 : decode cX6_text 283 = .ok (.iconst 2, 1) := by decide +kernel
theorem dX6_text_284 : decode cX6_text 284 = .ok (.iaload, 1) := by decide +kernel
theorem dX6_text_285 : decode cX6_text 285 = .ok (.invokevirtual 101, 3) := by decide +kernel
theorem dX6_text_288 : decode cX6_text 288 = .ok (.pop, 1) := by decide +kernel
theorem dX6_text_289 : decode cX6_text 289 = .ok (.goto (-54), 3) := by decide +kernel
theorem dX6_text_292 : decode cX6_text 292 = .ok (.aload_n 1, 1) := by decide +kernel
theorem dX6_text_293 : decode cX6_text 293 = .ok (.invokevirtual 106, 3) := by decide +kernel
theorem dX6_text_296 : decode cX6_text 296 = .ok (.areturn, 1) := by decide +kernel
theorem dX6_mean_0 : decode cX6_mean 0 = .ok (.new 21, 3) := by decide +kernel
theorem dX6_mean_3 : decode cX6_mean 3 = .ok (.dup, 1) := by decide +kernel
theorem dX6_mean_4 : decode cX6_mean 4 = .ok (.invokespecial 23, 3) := by decide +kernel
theorem dX6_mean_7 : decode cX6_mean 7 = .ok (.astore 4, 2) := by decide +kernel
theorem dX6_mean_9 : decode cX6_mean 9 = .ok (.aload_n 1, 1) := by decide +kernel
theorem dX6_mean_10 : decode cX6_mean 10 = .ok (.getfield 124, 3) := by decide +kernel
theorem dX6_mean_13 : decode cX6_mean 13 = .ok (.invokevirtual 128, 3) := by decide +kernel
theorem dX6_mean_16 : decode cX6_mean 16 = .ok (.invokeinterface 134 1, 5) := by decide +kernel
theorem dX6_mean_21 : decode cX6_mean 21 = .ok (.astore 5, 2) := by decide +kernel
theorem dX6_mean_23 : decode cX6_mean 23 = .ok (.aload 5, 2) := by decide +kernel
theorem dX6_mean_25 : decode cX6_mean 25 = .ok (.invokeinterface 50 1, 5) := by decide +kernel
theorem dX6_mean_30 : decode cX6_mean 30 = .ok (.ifCond .eq 32, 3) := by decide +kernel
theorem dX6_mean_33 : decode cX6_mean 33 = .ok (.aload 5, 2) := by decide +kernel
theorem dX6_mean_35 : decode cX6_mean 35 = .ok (.invokeinterface 56 1, 5) := by decide +kernel
theorem dX6_mean_40 : decode cX6_mean 40 = .ok (.checkcast 137, 3) := by decide +kernel
theorem dX6_mean_43 : decode cX6_mean 43 = .ok (.invokevirtual 139, 3) := by decide +kernel
theorem dX6_mean_46 : decode cX6_mean 46 = .ok (.istore 6, 2) := by decide +kernel
theorem dX6_mean_48 : decode cX6_mean 48 = .ok (.aload 4, 2) := by decide +kernel
theorem dX6_mean_50 : decode cX6_mean 50 = .ok (.iload 6, 2) := by decide +kernel
theorem dX6_mean_52 : decode cX6_mean 52 = .ok (.invokestatic 143, 3) := by decide +kernel
theorem dX6_mean_55 : decode cX6_mean 55 = .ok (.invokevirtual 65, 3) := by decide +kernel
theorem dX6_mean_58 : decode cX6_mean 58 = .ok (.pop, 1) := by decide +kernel
theorem dX6_mean_59 : decode cX6_mean 59 = .ok (.goto (-36), 3) := by decide +kernel
theorem dX6_mean_62 : decode cX6_mean 62 = .ok (.iconst 0, 1) := by decide +kernel
theorem dX6_mean_63 : decode cX6_mean 63 = .ok (.istore 5, 2) := by decide +kernel
theorem dX6_mean_65 : decode cX6_mean 65 = .ok (.iload 5, 2) := by decide +kernel
theorem dX6_mean_67 : decode cX6_mean 67 = .ok (.aload_n 0, 1) := by decide +kernel
theorem dX6_mean_68 : decode cX6_mean 68 = .ok (.getfield 15, 3) := by decide +kernel
theorem dX6_mean_71 : decode cX6_mean 71 = .ok (.if_icmp .ge 22, 3) := by decide +kernel
theorem dX6_mean_74 : decode cX6_mean 74 = .ok (.aload 4, 2) := by decide +kernel
theorem dX6_mean_76 : decode cX6_mean 76 = .ok (.aload_n 1, 1) := by decide +kernel
theorem dX6_mean_77 : decode cX6_mean 77 = .ok (.getfield 147, 3) := by decide +kernel
theorem dX6_mean_80 : decode cX6_mean 80 = .ok (.invokestatic 143, 3) := by decide +kernel
theorem dX6_mean_83 : decode cX6_mean 83 = .ok (.invokevirtual 65, 3) := by decide +kernel
theorem dX6_mean_86 : decode cX6_mean 86 = .ok (.pop, 1) := by decide +kernel
theorem dX6_mean_87 : decode cX6_mean 87 = .ok (.iinc 5 1, 3) := by decide +kernel
theorem dX6_mean_90 : decode cX6_mean 90 = .ok (.goto (-25), 3) := by decide +kernel
theorem dX6_mean_93 : decode cX6_mean 93 = .ok (.iconst 0, 1) := by decide +kernel
theorem dX6_mean_94 : decode cX6_mean 94 = .ok (.istore 5, 2) := by decide +kernel
theorem dX6_mean_96 : decode cX6_mean 96 = .ok (.iload 5, 2) := by decide +kernel
theorem dX6_mean_98 : decode cX6_mean 98 = .ok (.iload_n 3, 1) := by decide +kernel
theorem dX6_mean_99 : decode cX6_mean 99 = .ok (.if_icmp .ge 19, 3) := by decide +kernel
theorem dX6_mean_102 : decode cX6_mean 102 = .ok (.aload 4, 2) := by decide +kernel
theorem dX6_mean_104 : decode cX6_mean 104 = .ok (.iload_n 2, 1) := by decide +kernel
theorem dX6_mean_105 : decode cX6_mean 105 = .ok (.invokestatic 143, 3) := by decide +kernel
theorem dX6_mean_108 : decode cX6_mean 108 = .ok (.invokevirtual 65, 3) := by decide +kernel
theorem dX6_mean_111 : decode cX6_mean 111 = .ok (.pop, 1) := by decide +kernel
theorem dX6_mean_112 : decode cX6_mean 112 = .ok (.iinc 5 1, 3) := by decide +kernel
theorem dX6_mean_115 : decode cX6_mean 115 = .ok (.goto (-19), 3) := by decide +kernel
theorem dX6_mean_118 : decode cX6_mean 118 = .ok (.aload 4, 2) := by decide +kernel
theorem dX6_mean_120 : decode cX6_mean 120 = .ok (.invokevirtual 148, 3) := by decide +kernel
theorem dX6_mean_123 : decode cX6_mean 123 = .ok (.ifCond .eq 16, 3) := by decide +kernel
theorem dX6_mean_126 : decode cX6_mean 126 = .ok (.aload 4, 2) := by decide +kernel
theorem dX6_mean_128 : decode cX6_mean 128 = .ok (.aload_n 1, 1) := by decide +kernel
theorem dX6_mean_129 : decode cX6_mean 129 = .ok (.getfield 147, 3) := by decide +kernel
theorem dX6_mean_132 : decode cX6_mean 132 = .ok (.invokestatic 143, 3) := by decide +kernel
theorem dX6_mean_135 : decode cX6_mean 135 = .ok (.invokevirtual 65, 3) := by decide +kernel
theorem dX6_mean_138 : decode cX6_mean 138 = .ok (.pop, 1) := by decide +kernel
theorem dX6_mean_139 : decode cX6_mean 139 = .ok (.aload 4, 2) := by decide +kernel
theorem dX6_mean_141 : decode cX6_mean 141 = .ok (.invokevirtual 151, 3) := by decide +kernel
theorem dX6_mean_144 : decode cX6_mean 144 = .ok (.newarray .int, 2) := by decide +kernel
theorem dX6_mean_146 : decode cX6_mean 146 = .ok (.astore 5, 2) := by decide +kernel
theorem dX6_mean_148 : decode cX6_mean 148 = .ok (.iconst 0, 1) := by decide +kernel
theorem dX6_mean_149 : decode cX6_mean 149 = .ok (.istore 6, 2) := by decide +kernel
theorem dX6_mean_151 : decode cX6_mean 151 = .ok (.iload 6, 2) := by decide +kernel
theorem dX6_mean_153 : decode cX6_mean 153 = .ok (.aload 5, 2) := by decide +kernel
theorem dX6_mean_155 : decode cX6_mean 155 = .ok (.arraylength, 1) := by decide +kernel
theorem dX6_mean_156 : decode cX6_mean 156 = .ok (.if_icmp .ge 27, 3) := by decide +kernel
theorem dX6_mean_159 : decode cX6_mean 159 = .ok (.aload 5, 2) := by decide +kernel
theorem dX6_mean_161 : decode cX6_mean 161 = .ok (.iload 6, 2) := by decide +kernel
theorem dX6_mean_163 : decode cX6_mean 163 = .ok (.aload 4, 2) := by decide +kernel
theorem dX6_mean_165 : decode cX6_mean 165 = .ok (.iload 6, 2) := by decide +kernel
theorem dX6_mean_167 : decode cX6_mean 167 = .ok (.invokevirtual 154, 3) := by decide +kernel
theorem dX6_mean_170 : decode cX6_mean 170 = .ok (.checkcast 137, 3) := by decide +kernel
theorem dX6_mean_173 : decode cX6_mean 173 = .ok (.invokevirtual 139, 3) := by decide +kernel
theorem dX6_mean_176 : decode cX6_mean 176 = .ok (.iastore, 1) := by decide +kernel
theorem dX6_mean_177 : decode cX6_mean 177 = .ok (.iinc 6 1, 3) := by decide +kernel
theorem dX6_mean_180 : decode cX6_mean 180 = .ok (.goto (-29), 3) := by decide +kernel
theorem dX6_mean_183 : decode cX6_mean 183 = .ok (.aload 5, 2) := by decide +kernel
theorem dX6_mean_185 : decode cX6_mean 185 = .ok (.invokestatic 158, 3) := by decide +kernel
theorem dX6_mean_188 : decode cX6_mean 188 = .ok (.aload 5, 2) := by decide +kernel
theorem dX6_mean_190 : decode cX6_mean 190 = .ok (.arraylength, 1) := by decide +kernel
theorem dX6_mean_191 : decode cX6_mean 191 = .ok (.aload_n 0, 1) := by decide +kernel
theorem dX6_mean_192 : decode cX6_mean 192 = .ok (.getfield 9, 3) := by decide +kernel
theorem dX6_mean_195 : decode cX6_mean 195 = .ok (.imul, 1) := by decide +kernel
theorem dX6_mean_196 : decode cX6_mean 196 = .ok (.bipush 100, 2) := by decide +kernel
theorem dX6_mean_198 : decode cX6_mean 198 = .ok (.idiv, 1) := by decide +kernel
theorem dX6_mean_199 : decode cX6_mean 199 = .ok (.istore 6, 2) := by decide +kernel
theorem dX6_mean_201 : decode cX6_mean 201 = .ok (.iconst 2, 1) := by decide +kernel
theorem dX6_mean_202 : decode cX6_mean 202 = .ok (.newarray .int, 2) := by decide +kernel
theorem dX6_mean_204 : decode cX6_mean 204 = .ok (.astore 7, 2) := by decide +kernel
theorem dX6_mean_206 : decode cX6_mean 206 = .ok (.iload 6, 2) := by decide +kernel
theorem dX6_mean_208 : decode cX6_mean 208 = .ok (.istore 8, 2) := by decide +kernel
theorem dX6_mean_210 : decode cX6_mean 210 = .ok (.iload 8, 2) := by decide +kernel
theorem dX6_mean_212 : decode cX6_mean 212 = .ok (.aload 5, 2) := by decide +kernel
theorem dX6_mean_214 : decode cX6_mean 214 = .ok (.arraylength, 1) := by decide +kernel
theorem dX6_mean_215 : decode cX6_mean 215 = .ok (.iload 6, 2) := by decide +kernel
theorem dX6_mean_217 : decode cX6_mean 217 = .ok (.isub, 1) := by decide +kernel
theorem dX6_mean_218 : decode cX6_mean 218 = .ok (.if_icmp .ge 29, 3) := by decide +kernel
theorem dX6_mean_221 : decode cX6_mean 221 = .ok (.aload 7, 2) := by decide +kernel
theorem dX6_mean_223 : decode cX6_mean 223 = .ok (.iconst 0, 1) := by decide +kernel
theorem dX6_mean_224 : decode cX6_mean 224 = .ok (.dup2, 1) := by decide +kernel
theorem dX6_mean_225 : decode cX6_mean 225 = .ok (.iaload, 1) := by decide +kernel
theorem dX6_mean_226 : decode cX6_mean 226 = .ok (.aload 5, 2) := by decide +kernel
theorem dX6_mean_228 : decode cX6_mean 228 = .ok (.iload 8, 2) := by decide +kernel
theorem dX6_mean_230 : decode cX6_mean 230 = .ok (.iaload, 1) := by decide +kernel
theorem dX6_mean_231 : decode cX6_mean 231 = .ok (.iadd, 1) := by decide +kernel
theorem dX6_mean_232 : decode cX6_mean 232 = .ok (.iastore, 1) := by decide +kernel
theorem dX6_mean_233 : decode cX6_mean 233 = .ok (.aload 7, 2) := by decide +kernel
theorem dX6_mean_235 : decode cX6_mean 235 = .ok (.iconst 1, 1) := by decide +kernel
theorem dX6_mean_236 : decode cX6_mean 236 = .ok (.dup2, 1) := by decide +kernel
theorem dX6_mean_237 : decode cX6_mean 237 = .ok (.iaload, 1) := by decide +kernel
theorem dX6_mean_238 : decode cX6_mean 238 = .ok (.iconst 1, 1) := by decide +kernel
theorem dX6_mean_239 : decode cX6_mean 239 = .ok (.iadd, 1) := by decide +kernel
theorem dX6_mean_240 : decode cX6_mean 240 = .ok (.iastore, 1) := by decide +kernel
theorem dX6_mean_241 : decode cX6_mean 241 = .ok (.iinc 8 1, 3) := by decide +kernel
theorem dX6_mean_244 : decode cX6_mean 244 = .ok (.goto (-34), 3) := by decide +kernel
theorem dX6_mean_247 : decode cX6_mean 247 = .ok (.aload 7, 2) := by decide +kernel
theorem dX6_mean_249 : decode cX6_mean 249 = .ok (.areturn, 1) := by decide +kernel
theorem dX6_grade_0 : decode cX6_grade 0 = .ok (.aload_n 0, 1) := by decide +kernel
theorem dX6_grade_1 : decode cX6_grade 1 = .ok (.aload_n 1, 1) := by decide +kernel
theorem dX6_grade_2 : decode cX6_grade 2 = .ok (.iload_n 2, 1) := by decide +kernel
theorem dX6_grade_3 : decode cX6_grade 3 = .ok (.iload_n 3, 1) := by decide +kernel
theorem dX6_grade_4 : decode cX6_grade 4 = .ok (.invokevirtual 164, 3) := by decide +kernel
theorem dX6_grade_7 : decode cX6_grade 7 = .ok (.astore 4, 2) := by decide +kernel
theorem dX6_grade_9 : decode cX6_grade 9 = .ok (.aload 4, 2) := by decide +kernel
theorem dX6_grade_11 : decode cX6_grade 11 = .ok (.iconst 0, 1) := by decide +kernel
theorem dX6_grade_12 : decode cX6_grade 12 = .ok (.iaload, 1) := by decide +kernel
theorem dX6_grade_13 : decode cX6_grade 13 = .ok (.aload 4, 2) := by decide +kernel
theorem dX6_grade_15 : decode cX6_grade 15 = .ok (.iconst 1, 1) := by decide +kernel
theorem dX6_grade_16 : decode cX6_grade 16 = .ok (.iaload, 1) := by decide +kernel
theorem dX6_grade_17 : decode cX6_grade 17 = .ok (.idiv, 1) := by decide +kernel
theorem dX6_grade_18 : decode cX6_grade 18 = .ok (.istore 5, 2) := by decide +kernel
theorem dX6_grade_20 : decode cX6_grade 20 = .ok (.iconst 2, 1) := by decide +kernel
theorem dX6_grade_21 : decode cX6_grade 21 = .ok (.aload 4, 2) := by decide +kernel
theorem dX6_grade_23 : decode cX6_grade 23 = .ok (.iconst 0, 1) := by decide +kernel
theorem dX6_grade_24 : decode cX6_grade 24 = .ok (.iaload, 1) := by decide +kernel
theorem dX6_grade_25 : decode cX6_grade 25 = .ok (.iload 5, 2) := by decide +kernel
theorem dX6_grade_27 : decode cX6_grade 27 = .ok (.aload 4, 2) := by decide +kernel
theorem dX6_grade_29 : decode cX6_grade 29 = .ok (.iconst 1, 1) := by decide +kernel
theorem dX6_grade_30 : decode cX6_grade 30 = .ok (.iaload, 1) := by decide +kernel
theorem dX6_grade_31 : decode cX6_grade 31 = .ok (.imul, 1) := by decide +kernel
theorem dX6_grade_32 : decode cX6_grade 32 = .ok (.isub, 1) := by decide +kernel
theorem dX6_grade_33 : decode cX6_grade 33 = .ok (.imul, 1) := by decide +kernel
theorem dX6_grade_34 : decode cX6_grade 34 = .ok (.aload 4, 2) := by decide +kernel
theorem dX6_grade_36 : decode cX6_grade 36 = .ok (.iconst 1, 1) := by decide +kernel
theorem dX6_grade_37 : decode cX6_grade 37 = .ok (.iaload, 1) := by decide +kernel
theorem dX6_grade_38 : decode cX6_grade 38 = .ok (.if_icmp .lt 10, 3) := by decide +kernel
theorem dX6_grade_41 : decode cX6_grade 41 = .ok (.iload 5, 2) := by decide +kernel
theorem dX6_grade_43 : decode cX6_grade 43 = .ok (.iconst 1, 1) := by decide +kernel
theorem dX6_grade_44 : decode cX6_grade 44 = .ok (.iadd, 1) := by decide +kernel
theorem dX6_grade_45 : decode cX6_grade 45 = .ok (.goto 5, 3) := by decide +kernel
theorem dX6_grade_48 : decode cX6_grade 48 = .ok (.iload 5, 2) := by decide +kernel
theorem dX6_grade_50 : decode cX6_grade 50 = .ok (.ireturn, 1) := by decide +kernel
theorem dX6_grade__0 : decode cX6_grade_ 0 = .ok (.aload_n 0, 1) := by decide +kernel
theorem dX6_grade__1 : decode cX6_grade_ 1 = .ok (.aload_n 1, 1) := by decide +kernel
theorem dX6_grade__2 : decode cX6_grade_ 2 = .ok (.iconst 0, 1) := by decide +kernel
theorem dX6_grade__3 : decode cX6_grade_ 3 = .ok (.iconst 0, 1) := by decide +kernel
theorem dX6_grade__4 : decode cX6_grade_ 4 = .ok (.invokevirtual 168, 3) := by decide +kernel
theorem dX6_grade__7 : decode cX6_grade_ 7 = .ok (.ireturn, 1) := by decide +kernel
theorem dX6_isClosed_0 : decode cX6_isClosed 0 = .ok (.aload_n 0, 1) := by decide +kernel
theorem dX6_isClosed_1 : decode cX6_isClosed 1 = .ok (.getfield 24, 3) := by decide +kernel
theorem dX6_isClosed_4 : decode cX6_isClosed 4 = .ok (.iload_n 1, 1) := by decide +kernel
theorem dX6_isClosed_5 : decode cX6_isClosed 5 = .ok (.invokevirtual 154, 3) := by decide +kernel
theorem dX6_isClosed_8 : decode cX6_isClosed 8 = .ok (.checkcast 60, 3) := by decide +kernel
theorem dX6_isClosed_11 : decode cX6_isClosed 11 = .ok (.iconst 3, 1) := by decide +kernel
theorem dX6_isClosed_12 : decode cX6_isClosed 12 = .ok (.iaload, 1) := by decide +kernel
theorem dX6_isClosed_13 : decode cX6_isClosed 13 = .ok (.aload_n 0, 1) := by decide +kernel
theorem dX6_isClosed_14 : decode cX6_isClosed 14 = .ok (.getfield 43, 3) := by decide +kernel
theorem dX6_isClosed_17 : decode cX6_isClosed 17 = .ok (.if_icmp .ne 7, 3) := by decide +kernel
theorem dX6_isClosed_20 : decode cX6_isClosed 20 = .ok (.iconst 1, 1) := by decide +kernel
theorem dX6_isClosed_21 : decode cX6_isClosed 21 = .ok (.goto 4, 3) := by decide +kernel
theorem dX6_isClosed_24 : decode cX6_isClosed 24 = .ok (.iconst 0, 1) := by decide +kernel
theorem dX6_isClosed_25 : decode cX6_isClosed 25 = .ok (.ireturn, 1) := by decide +kernel
theorem dX6_isLent_0 : decode cX6_isLent 0 = .ok (.aload_n 0, 1) := by decide +kernel
theorem dX6_isLent_1 : decode cX6_isLent 1 = .ok (.getfield 34, 3) := by decide +kernel
theorem dX6_isLent_4 : decode cX6_isLent 4 = .ok (.invokevirtual 46, 3) := by decide +kernel
theorem dX6_isLent_7 : decode cX6_isLent 7 = .ok (.astore_n 2, 1) := by decide +kernel
theorem dX6_isLent_8 : decode cX6_isLent 8 = .ok (.aload_n 2, 1) := by decide +kernel
theorem dX6_isLent_9 : decode cX6_isLent 9 = .ok (.invokeinterface 50 1, 5) := by decide +kernel
theorem dX6_isLent_14 : decode cX6_isLent 14 = .ok (.ifCond .eq 25, 3) := by decide +kernel
theorem dX6_isLent_17 : decode cX6_isLent 17 = .ok (.aload_n 2, 1) := by decide +kernel
theorem dX6_isLent_18 : decode cX6_isLent 18 = .ok (.invokeinterface 56 1, 5) := by decide +kernel
theorem dX6_isLent_23 : decode cX6_isLent 23 = .ok (.checkcast 60, 3) := by decide +kernel
theorem dX6_isLent_26 : decode cX6_isLent 26 = .ok (.astore_n 3, 1) := by decide +kernel
theorem dX6_isLent_27 : decode cX6_isLent 27 = .ok (.aload_n 3, 1) := by decide +kernel
theorem dX6_isLent_28 : decode cX6_isLent 28 = .ok (.iconst 3, 1) := by decide +kernel
theorem dX6_isLent_29 : decode cX6_isLent 29 = .ok (.iaload, 1) := by decide +kernel
theorem dX6_isLent_30 : decode cX6_isLent 30 = .ok (.iload_n 1, 1) := by decide +kernel
theorem dX6_isLent_31 : decode cX6_isLent 31 = .ok (.if_icmp .ne 5, 3) := by decide +kernel
theorem dX6_isLent_34 : decode cX6_isLent 34 = .ok (.iconst 1, 1) := by decide +kernel
theorem dX6_isLent_35 : decode cX6_isLent 35 = .ok (.ireturn, 1) := by decide +kernel
theorem dX6_isLent_36 : decode cX6_isLent 36 = .ok (.goto (-28), 3) := by decide +kernel
theorem dX6_isLent_39 : decode cX6_isLent 39 = .ok (.iconst 0, 1) := by decide +kernel
theorem dX6_isLent_40 : decode cX6_isLent 40 = .ok (.ireturn, 1) := by decide +kernel
theorem dX6_inForce_0 : decode cX6_inForce 0 = .ok (.aload_n 0, 1) := by decide +kernel
theorem dX6_inForce_1 : decode cX6_inForce 1 = .ok (.getfield 31, 3) := by decide +kernel
theorem dX6_inForce_4 : decode cX6_inForce 4 = .ok (.iload_n 1, 1) := by decide +kernel
theorem dX6_inForce_5 : decode cX6_inForce 5 = .ok (.invokevirtual 154, 3) := by decide +kernel
theorem dX6_inForce_8 : decode cX6_inForce 8 = .ok (.checkcast 60, 3) := by decide +kernel
theorem dX6_inForce_11 : decode cX6_inForce 11 = .ok (.iconst 3, 1) := by decide +kernel
theorem dX6_inForce_12 : decode cX6_inForce 12 = .ok (.iaload, 1) := by decide +kernel
theorem dX6_inForce_13 : decode cX6_inForce 13 = .ok (.ifCond .ne 38, 3) := by decide +kernel
theorem dX6_inForce_16 : decode cX6_inForce 16 = .ok (.iload_n 2, 1) := by decide +kernel
theorem dX6_inForce_17 : decode cX6_inForce 17 = .ok (.aload_n 0, 1) := by decide +kernel
theorem dX6_inForce_18 : decode cX6_inForce 18 = .ok (.getfield 31, 3) := by decide +kernel
theorem dX6_inForce_21 : decode cX6_inForce 21 = .ok (.iload_n 1, 1) := by decide +kernel
theorem dX6_inForce_22 : decode cX6_inForce 22 = .ok (.invokevirtual 154, 3) := by decide +kernel
theorem dX6_inForce_25 : decode cX6_inForce 25 = .ok (.checkcast 60, 3) := by decide +kernel
theorem dX6_inForce_28 : decode cX6_inForce 28 = .ok (.iconst 1, 1) := by decide +kernel
theorem dX6_inForce_29 : decode cX6_inForce 29 = .ok (.iaload, 1) := by decide +kernel
theorem dX6_inForce_30 : decode cX6_inForce 30 = .ok (.aload_n 0, 1) := by decide +kernel
theorem dX6_inForce_31 : decode cX6_inForce 31 = .ok (.getfield 31, 3) := by decide +kernel
theorem dX6_inForce_34 : decode cX6_inForce 34 = .ok (.iload_n 1, 1) := by decide +kernel
theorem dX6_inForce_35 : decode cX6_inForce 35 = .ok (.invokevirtual 154, 3) := by decide +kernel
theorem dX6_inForce_38 : decode cX6_inForce 38 = .ok (.checkcast 60, 3) := by decide +kernel
theorem dX6_inForce_41 : decode cX6_inForce 41 = .ok (.iconst 2, 1) := by decide +kernel
theorem dX6_inForce_42 : decode cX6_inForce 42 = .ok (.iaload, 1) := by decide +kernel
theorem dX6_inForce_43 : decode cX6_inForce 43 = .ok (.iadd, 1) := by decide +kernel
theorem dX6_inForce_44 : decode cX6_inForce 44 = .ok (.if_icmp .ge 7, 3) := by decide +kernel
theorem dX6_inForce_47 : decode cX6_inForce 47 = .ok (.iconst 1, 1) := by decide +kernel
theorem dX6_inForce_48 : decode cX6_inForce 48 = .ok (.goto 4, 3) := by decide +kernel
theorem dX6_inForce_51 : decode cX6_inForce 51 = .ok (.iconst 0, 1) := by decide +kernel
theorem dX6_inForce_52 : decode cX6_inForce 52 = .ok (.ireturn, 1) := by decide +kernel
theorem dX6_mayClimb_0 : decode cX6_mayClimb 0 = .ok (.aload_n 0, 1) := by decide +kernel
theorem dX6_mayClimb_1 : decode cX6_mayClimb 1 = .ok (.getfield 34, 3) := by decide +kernel
theorem dX6_mayClimb_4 : decode cX6_mayClimb 4 = .ok (.iload_n 1, 1) := by decide +kernel
theorem dX6_mayClimb_5 : decode cX6_mayClimb 5 = .ok (.invokevirtual 154, 3) := by decide +kernel
theorem dX6_mayClimb_8 : decode cX6_mayClimb 8 = .ok (.checkcast 60, 3) := by decide +kernel
theorem dX6_mayClimb_11 : decode cX6_mayClimb 11 = .ok (.astore_n 3, 1) := by decide +kernel
theorem dX6_mayClimb_12 : decode cX6_mayClimb 12 = .ok (.aload_n 0, 1) := by decide +kernel
theorem dX6_mayClimb_13 : decode cX6_mayClimb 13 = .ok (.getfield 28, 3) := by decide +kernel
theorem dX6_mayClimb_16 : decode cX6_mayClimb 16 = .ok (.iload_n 2, 1) := by decide +kernel
theorem dX6_mayClimb_17 : decode cX6_mayClimb 17 = .ok (.invokevirtual 154, 3) := by decide +kernel
theorem dX6_mayClimb_20 : decode cX6_mayClimb 20 = .ok (.checkcast 69, 3) := by decide +kernel
theorem dX6_mayClimb_23 : decode cX6_mayClimb 23 = .ok (.astore 4, 2) := by decide +kernel
theorem dX6_mayClimb_25 : decode cX6_mayClimb 25 = .ok (.aload_n 0, 1) := by decide +kernel
theorem dX6_mayClimb_26 : decode cX6_mayClimb 26 = .ok (.aload 4, 2) := by decide +kernel
theorem dX6_mayClimb_28 : decode cX6_mayClimb 28 = .ok (.getfield 172, 3) := by decide +kernel
theorem dX6_mayClimb_31 : decode cX6_mayClimb 31 = .ok (.invokevirtual 174, 3) := by decide +kernel
theorem dX6_mayClimb_34 : decode cX6_mayClimb 34 = .ok (.ifCond .ne 63, 3) := by decide +kernel
theorem dX6_mayClimb_37 : decode cX6_mayClimb 37 = .ok (.aload_n 3, 1) := by decide +kernel
theorem dX6_mayClimb_38 : decode cX6_mayClimb 38 = .ok (.iconst 1, 1) := by decide +kernel
theorem dX6_mayClimb_39 : decode cX6_mayClimb 39 = .ok (.iaload, 1) := by decide +kernel
theorem dX6_mayClimb_40 : decode cX6_mayClimb 40 = .ok (.aload_n 0, 1) := by decide +kernel
theorem dX6_mayClimb_41 : decode cX6_mayClimb 41 = .ok (.getfield 24, 3) := by decide +kernel
theorem dX6_mayClimb_44 : decode cX6_mayClimb 44 = .ok (.aload 4, 2) := by decide +kernel
theorem dX6_mayClimb_46 : decode cX6_mayClimb 46 = .ok (.getfield 172, 3) := by decide +kernel
theorem dX6_mayClimb_49 : decode cX6_mayClimb 49 = .ok (.invokevirtual 154, 3) := by decide +kernel
theorem dX6_mayClimb_52 : decode cX6_mayClimb 52 = .ok (.checkcast 60, 3) := by decide +kernel
theorem dX6_mayClimb_55 : decode cX6_mayClimb 55 = .ok (.iconst 1, 1) := by decide +kernel
theorem dX6_mayClimb_56 : decode cX6_mayClimb 56 = .ok (.iaload, 1) := by decide +kernel
theorem dX6_mayClimb_57 : decode cX6_mayClimb 57 = .ok (.if_icmp .lt 40, 3) := by decide +kernel
theorem dX6_mayClimb_60 : decode cX6_mayClimb 60 = .ok (.aload_n 3, 1) := by decide +kernel
theorem dX6_mayClimb_61 : decode cX6_mayClimb 61 = .ok (.iconst 3, 1) := by decide +kernel
theorem dX6_mayClimb_62 : decode cX6_mayClimb 62 = .ok (.iaload, 1) := by decide +kernel
theorem dX6_mayClimb_63 : decode cX6_mayClimb 63 = .ok (.iconst (-1), 1) := by decide +kernel
theorem dX6_mayClimb_64 : decode cX6_mayClimb 64 = .ok (.if_icmp .eq 33, 3) := by decide +kernel
theorem dX6_mayClimb_67 : decode cX6_mayClimb 67 = .ok (.aload_n 0, 1) := by decide +kernel
theorem dX6_mayClimb_68 : decode cX6_mayClimb 68 = .ok (.aload_n 3, 1) := by decide +kernel
theorem dX6_mayClimb_69 : decode cX6_mayClimb 69 = .ok (.iconst 3, 1) := by decide +kernel
theorem dX6_mayClimb_70 : decode cX6_mayClimb 70 = .ok (.iaload, 1) := by decide +kernel
theorem dX6_mayClimb_71 : decode cX6_mayClimb 71 = .ok (.aload_n 0, 1) := by decide +kernel
theorem dX6_mayClimb_72 : decode cX6_mayClimb 72 = .ok (.getfield 43, 3) := by decide +kernel
theorem dX6_mayClimb_75 : decode cX6_mayClimb 75 = .ok (.invokevirtual 178, 3) := by decide +kernel
theorem dX6_mayClimb_78 : decode cX6_mayClimb 78 = .ok (.ifCond .eq 19, 3) := by decide +kernel
theorem dX6_mayClimb_81 : decode cX6_mayClimb 81 = .ok (.aload 4, 2) := by decide +kernel
theorem dX6_mayClimb_83 : decode cX6_mayClimb 83 = .ok (.getfield 182, 3) := by decide +kernel
theorem dX6_mayClimb_86 : decode cX6_mayClimb 86 = .ok (.aload_n 0, 1) := by decide +kernel
theorem dX6_mayClimb_87 : decode cX6_mayClimb 87 = .ok (.getfield 18, 3) := by decide +kernel
theorem dX6_mayClimb_90 : decode cX6_mayClimb 90 = .ok (.if_icmp .ge 7, 3) := by decide +kernel
theorem dX6_mayClimb_93 : decode cX6_mayClimb 93 = .ok (.iconst 1, 1) := by decide +kernel
theorem dX6_mayClimb_94 : decode cX6_mayClimb 94 = .ok (.goto 4, 3) := by decide +kernel
theorem dX6_mayClimb_97 : decode cX6_mayClimb 97 = .ok (.iconst 0, 1) := by decide +kernel
theorem dX6_mayClimb_98 : decode cX6_mayClimb 98 = .ok (.ireturn, 1) := by decide +kernel
theorem dX6_onWall_0 : decode cX6_onWall 0 = .ok (.iconst 0, 1) := by decide +kernel
theorem dX6_onWall_1 : decode cX6_onWall 1 = .ok (.istore_n 2, 1) := by decide +kernel
theorem dX6_onWall_2 : decode cX6_onWall 2 = .ok (.aload_n 0, 1) := by decide +kernel
theorem dX6_onWall_3 : decode cX6_onWall 3 = .ok (.getfield 28, 3) := by decide +kernel
theorem dX6_onWall_6 : decode cX6_onWall 6 = .ok (.invokevirtual 46, 3) := by decide +kernel
theorem dX6_onWall_9 : decode cX6_onWall 9 = .ok (.astore_n 3, 1) := by decide +kernel
theorem dX6_onWall_10 : decode cX6_onWall 10 = .ok (.aload_n 3, 1) := by decide +kernel
theorem dX6_onWall_11 : decode cX6_onWall 11 = .ok (.invokeinterface 50 1, 5) := by decide +kernel
theorem dX6_onWall_16 : decode cX6_onWall 16 = .ok (.ifCond .eq 34, 3) := by decide +kernel
theorem dX6_onWall_19 : decode cX6_onWall 19 = .ok (.aload_n 3, 1) := by decide +kernel
theorem dX6_onWall_20 : decode cX6_onWall 20 = .ok (.invokeinterface 56 1, 5) := by decide +kernel
theorem dX6_onWall_25 : decode cX6_onWall 25 = .ok (.checkcast 69, 3) := by decide +kernel
theorem dX6_onWall_28 : decode cX6_onWall 28 = .ok (.astore 4, 2) := by decide +kernel
theorem dX6_onWall_30 : decode cX6_onWall 30 = .ok (.iload_n 2, 1) := by decide +kernel
theorem dX6_onWall_31 : decode cX6_onWall 31 = .ok (.aload 4, 2) := by decide +kernel
theorem dX6_onWall_33 : decode cX6_onWall 33 = .ok (.getfield 172, 3) := by decide +kernel
theorem dX6_onWall_36 : decode cX6_onWall 36 = .ok (.iload_n 1, 1) := by decide +kernel
theorem dX6_onWall_37 : decode cX6_onWall 37 = .ok (.if_icmp .ne 7, 3) := by decide +kernel
theorem dX6_onWall_40 : decode cX6_onWall 40 = .ok (.iconst 1, 1) := by decide +kernel
theorem dX6_onWall_41 : decode cX6_onWall 41 = .ok (.goto 4, 3) := by decide +kernel
theorem dX6_onWall_44 : decode cX6_onWall 44 = .ok (.iconst 0, 1) := by decide +kernel
theorem dX6_onWall_45 : decode cX6_onWall 45 = .ok (.iadd, 1) := by decide +kernel
theorem dX6_onWall_46 : decode cX6_onWall 46 = .ok (.istore_n 2, 1) := by decide +kernel
theorem dX6_onWall_47 : decode cX6_onWall 47 = .ok (.goto (-37), 3) := by decide +kernel
theorem dX6_onWall_50 : decode cX6_onWall 50 = .ok (.iload_n 2, 1) := by decide +kernel
theorem dX6_onWall_51 : decode cX6_onWall 51 = .ok (.ireturn, 1) := by decide +kernel
theorem dX6_takeOff_0 : decode cX6_takeOff 0 = .ok (.aload_n 0, 1) := by decide +kernel
theorem dX6_takeOff_1 : decode cX6_takeOff 1 = .ok (.getfield 28, 3) := by decide +kernel
theorem dX6_takeOff_4 : decode cX6_takeOff 4 = .ok (.iload_n 1, 1) := by decide +kernel
theorem dX6_takeOff_5 : decode cX6_takeOff 5 = .ok (.invokevirtual 154, 3) := by decide +kernel
theorem dX6_takeOff_8 : decode cX6_takeOff 8 = .ok (.checkcast 69, 3) := by decide +kernel
theorem dX6_takeOff_11 : decode cX6_takeOff 11 = .ok (.astore_n 2, 1) := by decide +kernel
theorem dX6_takeOff_12 : decode cX6_takeOff 12 = .ok (.aload_n 0, 1) := by decide +kernel
theorem dX6_takeOff_13 : decode cX6_takeOff 13 = .ok (.getfield 40, 3) := by decide +kernel
theorem dX6_takeOff_16 : decode cX6_takeOff 16 = .ok (.invokevirtual 151, 3) := by decide +kernel
theorem dX6_takeOff_19 : decode cX6_takeOff 19 = .ok (.bipush 30, 2) := by decide +kernel
theorem dX6_takeOff_21 : decode cX6_takeOff 21 = .ok (.if_icmp .ne 12, 3) := by decide +kernel
theorem dX6_takeOff_24 : decode cX6_takeOff 24 = .ok (.aload_n 0, 1) := by decide +kernel
theorem dX6_takeOff_25 : decode cX6_takeOff 25 = .ok (.getfield 40, 3) := by decide +kernel
theorem dX6_takeOff_28 : decode cX6_takeOff 28 = .ok (.iconst 0, 1) := by decide +kernel
theorem dX6_takeOff_29 : decode cX6_takeOff 29 = .ok (.invokevirtual 183, 3) := by decide +kernel
theorem dX6_takeOff_32 : decode cX6_takeOff 32 = .ok (.pop, 1) := by decide +kernel
theorem dX6_takeOff_33 : decode cX6_takeOff 33 = .ok (.aload_n 0, 1) := by decide +kernel
theorem dX6_takeOff_34 : decode cX6_takeOff 34 = .ok (.getfield 40, 3) := by decide +kernel
theorem dX6_takeOff_37 : decode cX6_takeOff 37 = .ok (.iconst 4, 1) := by decide +kernel
theorem dX6_takeOff_38 : decode cX6_takeOff 38 = .ok (.newarray .int, 2) := by decide +kernel
theorem dX6_takeOff_40 : decode cX6_takeOff 40 = .ok (.dup, 1) := by decide +kernel
theorem dX6_takeOff_41 : decode cX6_takeOff 41 = .ok (.iconst 0, 1) := by decide +kernel
theorem dX6_takeOff_42 : decode cX6_takeOff 42 = .ok (.aload_n 2, 1) := by decide +kernel
theorem dX6_takeOff_43 : decode cX6_takeOff 43 = .ok (.getfield 172, 3) := by decide +kernel
theorem dX6_takeOff_46 : decode cX6_takeOff 46 = .ok (.iastore, 1) := by decide +kernel
theorem dX6_takeOff_47 : decode cX6_takeOff 47 = .ok (.dup, 1) := by decide +kernel
theorem dX6_takeOff_48 : decode cX6_takeOff 48 = .ok (.iconst 1, 1) := by decide +kernel
theorem dX6_takeOff_49 : decode cX6_takeOff 49 = .ok (.aload_n 0, 1) := by decide +kernel
theorem dX6_takeOff_50 : decode cX6_takeOff 50 = .ok (.aload_n 2, 1) := by decide +kernel
theorem dX6_takeOff_51 : decode cX6_takeOff 51 = .ok (.invokevirtual 186, 3) := by decide +kernel
theorem dX6_takeOff_54 : decode cX6_takeOff 54 = .ok (.iastore, 1) := by decide +kernel
theorem dX6_takeOff_55 : decode cX6_takeOff 55 = .ok (.dup, 1) := by decide +kernel
theorem dX6_takeOff_56 : decode cX6_takeOff 56 = .ok (.iconst 2, 1) := by decide +kernel
theorem dX6_takeOff_57 : decode cX6_takeOff 57 = .ok (.aload_n 0, 1) := by decide +kernel
theorem dX6_takeOff_58 : decode cX6_takeOff 58 = .ok (.getfield 43, 3) := by decide +kernel
theorem dX6_takeOff_61 : decode cX6_takeOff 61 = .ok (.iastore, 1) := by decide +kernel
theorem dX6_takeOff_62 : decode cX6_takeOff 62 = .ok (.dup, 1) := by decide +kernel
theorem dX6_takeOff_63 : decode cX6_takeOff 63 = .ok (.iconst 3, 1) := by decide +kernel
theorem dX6_takeOff_64 : decode cX6_takeOff 64 = .ok (.aload_n 2, 1) := by decide +kernel
theorem dX6_takeOff_65 : decode cX6_takeOff 65 = .ok (.getfield 189, 3) := by decide +kernel
theorem dX6_takeOff_68 : decode cX6_takeOff 68 = .ok (.iastore, 1) := by decide +kernel
theorem dX6_takeOff_69 : decode cX6_takeOff 69 = .ok (.invokevirtual 65, 3) := by decide +kernel
theorem dX6_takeOff_72 : decode cX6_takeOff 72 = .ok (.pop, 1) := by decide +kernel
theorem dX6_takeOff_73 : decode cX6_takeOff 73 = .ok (.aload_n 0, 1) := by decide +kernel
theorem dX6_takeOff_74 : decode cX6_takeOff 74 = .ok (.getfield 28, 3) := by decide +kernel
theorem dX6_takeOff_77 : decode cX6_takeOff 77 = .ok (.iload_n 1, 1) := by decide +kernel
theorem dX6_takeOff_78 : decode cX6_takeOff 78 = .ok (.invokevirtual 183, 3) := by decide +kernel
theorem dX6_takeOff_81 : decode cX6_takeOff 81 = .ok (.pop, 1) := by decide +kernel
theorem dX6_takeOff_82 : decode cX6_takeOff 82 = .ok (.return_, 1) := by decide +kernel
theorem dX6_inCourse_0 : decode cX6_inCourse 0 = .ok (.iconst 0, 1) := by decide +kernel
theorem dX6_inCourse_1 : decode cX6_inCourse 1 = .ok (.istore_n 2, 1) := by decide +kernel
theorem dX6_inCourse_2 : decode cX6_inCourse 2 = .ok (.iconst 0, 1) := by decide +kernel
theorem dX6_inCourse_3 : decode cX6_inCourse 3 = .ok (.istore_n 3, 1) := by decide +kernel
theorem dX6_inCourse_4 : decode cX6_inCourse 4 = .ok (.iload_n 3, 1) := by decide +kernel
theorem dX6_inCourse_5 : decode cX6_inCourse 5 = .ok (.aload_n 0, 1) := by decide +kernel
theorem dX6_inCourse_6 : decode cX6_inCourse 6 = .ok (.getfield 34, 3) := by decide +kernel
theorem dX6_inCourse_9 : decode cX6_inCourse 9 = .ok (.invokevirtual 151, 3) := by decide +kernel
theorem dX6_inCourse_12 : decode cX6_inCourse 12 = .ok (.if_icmp .ge 36, 3) := by decide +kernel
theorem dX6_inCourse_15 : decode cX6_inCourse 15 = .ok (.iload_n 2, 1) := by decide +kernel
theorem dX6_inCourse_16 : decode cX6_inCourse 16 = .ok (.aload_n 0, 1) := by decide +kernel
theorem dX6_inCourse_17 : decode cX6_inCourse 17 = .ok (.getfield 34, 3) := by decide +kernel
theorem dX6_inCourse_20 : decode cX6_inCourse 20 = .ok (.iload_n 3, 1) := by decide +kernel
theorem dX6_inCourse_21 : decode cX6_inCourse 21 = .ok (.invokevirtual 154, 3) := by decide +kernel
theorem dX6_inCourse_24 : decode cX6_inCourse 24 = .ok (.checkcast 60, 3) := by decide +kernel
theorem dX6_inCourse_27 : decode cX6_inCourse 27 = .ok (.iconst 4, 1) := by decide +kernel
theorem dX6_inCourse_28 : decode cX6_inCourse 28 = .ok (.iaload, 1) := by decide +kernel
theorem dX6_inCourse_29 : decode cX6_inCourse 29 = .ok (.iload_n 1, 1) := by decide +kernel
theorem dX6_inCourse_30 : decode cX6_inCourse 30 = .ok (.if_icmp .ne 9, 3) := by decide +kernel
theorem dX6_inCourse_33 : decode cX6_inCourse 33 = .ok (.iconst 1, 1) := by decide +kernel
theorem dX6_inCourse_34 : decode cX6_inCourse 34 = .ok (.iload_n 3, 1) := by decide +kernel
theorem dX6_inCourse_35 : decode cX6_inCourse 35 = .ok (.ishl, 1) := by decide +kernel
theorem dX6_inCourse_36 : decode cX6_inCourse 36 = .ok (.goto 4, 3) := by decide +kernel
theorem dX6_inCourse_39 : decode cX6_inCourse 39 = .ok (.iconst 0, 1) := by decide +kernel
theorem dX6_inCourse_40 : decode cX6_inCourse 40 = .ok (.ior, 1) := by decide +kernel
theorem dX6_inCourse_41 : decode cX6_inCourse 41 = .ok (.istore_n 2, 1) := by decide +kernel
theorem dX6_inCourse_42 : decode cX6_inCourse 42 = .ok (.iinc 3 1, 3) := by decide +kernel
theorem dX6_inCourse_45 : decode cX6_inCourse 45 = .ok (.goto (-41), 3) := by decide +kernel
theorem dX6_inCourse_48 : decode cX6_inCourse 48 = .ok (.iload_n 2, 1) := by decide +kernel
theorem dX6_inCourse_49 : decode cX6_inCourse 49 = .ok (.ireturn, 1) := by decide +kernel
theorem dX6_ends_0 : decode cX6_ends 0 = .ok (.iconst 0, 1) := by decide +kernel
theorem dX6_ends_1 : decode cX6_ends 1 = .ok (.istore_n 2, 1) := by decide +kernel
theorem dX6_ends_2 : decode cX6_ends 2 = .ok (.iconst 0, 1) := by decide +kernel
theorem dX6_ends_3 : decode cX6_ends 3 = .ok (.istore_n 3, 1) := by decide +kernel
theorem dX6_ends_4 : decode cX6_ends 4 = .ok (.iload_n 3, 1) := by decide +kernel
theorem dX6_ends_5 : decode cX6_ends 5 = .ok (.iload_n 1, 1) := by decide +kernel
theorem dX6_ends_6 : decode cX6_ends 6 = .ok (.if_icmp .ge 195, 3) := by decide +kernel
theorem dX6_ends_9 : decode cX6_ends 9 = .ok (.iconst 0, 1) := by decide +kernel
theorem dX6_ends_10 : decode cX6_ends 10 = .ok (.istore 4, 2) := by decide +kernel
theorem dX6_ends_12 : decode cX6_ends 12 = .ok (.iload 4, 2) := by decide +kernel
theorem dX6_ends_14 : decode cX6_ends 14 = .ok (.aload_n 0, 1) := by decide +kernel
theorem dX6_ends_15 : decode cX6_ends 15 = .ok (.getfield 24, 3) := by decide +kernel
theorem dX6_ends_18 : decode cX6_ends 18 = .ok (.invokevirtual 151, 3) := by decide +kernel
theorem dX6_ends_21 : decode cX6_ends 21 = .ok (.if_icmp .ge 110, 3) := by decide +kernel
theorem dX6_ends_24 : decode cX6_ends 24 = .ok (.aload_n 0, 1) := by decide +kernel
theorem dX6_ends_25 : decode cX6_ends 25 = .ok (.iload 4, 2) := by decide +kernel
theorem dX6_ends_27 : decode cX6_ends 27 = .ok (.invokevirtual 174, 3) := by decide +kernel
theorem dX6_ends_30 : decode cX6_ends 30 = .ok (.ifCond .ne 6, 3) := by decide +kernel
theorem dX6_ends_33 : decode cX6_ends 33 = .ok (.goto 92, 3) := by decide +kernel
theorem dX6_ends_36 : decode cX6_ends 36 = .ok (.iconst 0, 1) := by decide +kernel
theorem dX6_ends_37 : decode cX6_ends 37 = .ok (.istore 5, 2) := by decide +kernel
theorem dX6_ends_39 : decode cX6_ends 39 = .ok (.iload 5, 2) := by decide +kernel
theorem dX6_ends_41 : decode cX6_ends 41 = .ok (.aload_n 0, 1) := by decide +kernel
theorem dX6_ends_42 : decode cX6_ends 42 = .ok (.getfield 28, 3) := by decide +kernel
theorem dX6_ends_45 : decode cX6_ends 45 = .ok (.invokevirtual 151, 3) := by decide +kernel
theorem dX6_ends_48 : decode cX6_ends 48 = .ok (.if_icmp .ge 44, 3) := by decide +kernel
theorem dX6_ends_51 : decode cX6_ends 51 = .ok (.aload_n 0, 1) := by decide +kernel
theorem dX6_ends_52 : decode cX6_ends 52 = .ok (.getfield 28, 3) := by decide +kernel
theorem dX6_ends_55 : decode cX6_ends 55 = .ok (.iload 5, 2) := by decide +kernel
theorem dX6_ends_57 : decode cX6_ends 57 = .ok (.invokevirtual 154, 3) := by decide +kernel
theorem dX6_ends_60 : decode cX6_ends 60 = .ok (.checkcast 69, 3) := by decide +kernel
theorem dX6_ends_63 : decode cX6_ends 63 = .ok (.getfield 172, 3) := by decide +kernel
theorem dX6_ends_66 : decode cX6_ends 66 = .ok (.iload 4, 2) := by decide +kernel
theorem dX6_ends_68 : decode cX6_ends 68 = .ok (.if_icmp .eq 6, 3) := by decide +kernel
theorem dX6_ends_71 : decode cX6_ends 71 = .ok (.goto 15, 3) := by decide +kernel
theorem dX6_ends_74 : decode cX6_ends 74 = .ok (.aload_n 0, 1) := by decide +kernel
theorem dX6_ends_75 : decode cX6_ends 75 = .ok (.iload 5, 2) := by decide +kernel
theorem dX6_ends_77 : decode cX6_ends 77 = .ok (.invokevirtual 192, 3) := by decide +kernel
theorem dX6_ends_80 : decode cX6_ends 80 = .ok (.iinc 5 (-1), 3) := by decide +kernel
theorem dX6_ends_83 : decode cX6_ends 83 = .ok (.iinc 2 1, 3) := by decide +kernel
theorem dX6_ends_86 : decode cX6_ends 86 = .ok (.iinc 5 1, 3) := by decide +kernel
theorem dX6_ends_89 : decode cX6_ends 89 = .ok (.goto (-50), 3) := by decide +kernel
theorem dX6_ends_92 : decode cX6_ends 92 = .ok (.aload_n 0, 1) := by decide +kernel
theorem dX6_ends_93 : decode cX6_ends 93 = .ok (.getfield 24, 3) := by decide +kernel
theorem dX6_ends_96 : decode cX6_ends 96 = .ok (.iload 4, 2) := by decide +kernel
theorem dX6_ends_98 : decode cX6_ends 98 = .ok (.invokevirtual 154, 3) := by decide +kernel
theorem dX6_ends_101 : decode cX6_ends 101 = .ok (.checkcast 60, 3) := by decide +kernel
theorem dX6_ends_104 : decode cX6_ends 104 = .ok (.iconst 3, 1) := by decide +kernel
theorem dX6_ends_105 : decode cX6_ends 105 = .ok (.aload_n 0, 1) := by decide +kernel
theorem dX6_ends_106 : decode cX6_ends 106 = .ok (.getfield 43, 3) := by decide +kernel
theorem dX6_ends_109 : decode cX6_ends 109 = .ok (.aload_n 0, 1) := by decide +kernel
theorem dX6_ends_110 : decode cX6_ends 110 = .ok (.getfield 24, 3) := by decide +kernel
theorem dX6_ends_113 : decode cX6_ends 113 = .ok (.iload 4, 2) := by decide +kernel
theorem dX6_ends_115 : decode cX6_ends 115 = .ok (.invokevirtual 154, 3) := by decide +kernel
theorem dX6_ends_118 : decode cX6_ends 118 = .ok (.checkcast 60, 3) := by decide +kernel
theorem dX6_ends_121 : decode cX6_ends 121 = .ok (.iconst 2, 1) := by decide +kernel
theorem dX6_ends_122 : decode cX6_ends 122 = .ok (.iaload, 1) := by decide +kernel
theorem dX6_ends_123 : decode cX6_ends 123 = .ok (.iadd, 1) := by decide +kernel
theorem dX6_ends_124 : decode cX6_ends 124 = .ok (.iastore, 1) := by decide +kernel
theorem dX6_ends_125 : decode cX6_ends 125 = .ok (.iinc 4 1, 3) := by decide +kernel
theorem dX6_ends_128 : decode cX6_ends 128 = .ok (.goto (-116), 3) := by decide +kernel
theorem dX6_ends_131 : decode cX6_ends 131 = .ok (.aload_n 0, 1) := by decide +kernel
theorem dX6_ends_132 : decode cX6_ends 132 = .ok (.getfield 34, 3) := by decide +kernel
theorem dX6_ends_135 : decode cX6_ends 135 = .ok (.invokevirtual 46, 3) := by decide +kernel
theorem dX6_ends_138 : decode cX6_ends 138 = .ok (.astore 4, 2) := by decide +kernel
theorem dX6_ends_140 : decode cX6_ends 140 = .ok (.aload 4, 2) := by decide +kernel
theorem dX6_ends_142 : decode cX6_ends 142 = .ok (.invokeinterface 50 1, 5) := by decide +kernel
theorem dX6_ends_147 : decode cX6_ends 147 = .ok (.ifCond .eq 38, 3) := by decide +kernel
theorem dX6_ends_150 : decode cX6_ends 150 = .ok (.aload 4, 2) := by decide +kernel
theorem dX6_ends_152 : decode cX6_ends 152 = .ok (.invokeinterface 56 1, 5) := by decide +kernel
theorem dX6_ends_157 : decode cX6_ends 157 = .ok (.checkcast 60, 3) := by decide +kernel
theorem dX6_ends_160 : decode cX6_ends 160 = .ok (.astore 5, 2) := by decide +kernel
theorem dX6_ends_162 : decode cX6_ends 162 = .ok (.aload 5, 2) := by decide +kernel
theorem dX6_ends_164 : decode cX6_ends 164 = .ok (.iconst 5, 1) := by decide +kernel
theorem dX6_ends_165 : decode cX6_ends 165 = .ok (.dup2, 1) := by decide +kernel
theorem dX6_ends_166 : decode cX6_ends 166 = .ok (.iaload, 1) := by decide +kernel
theorem dX6_ends_167 : decode cX6_ends 167 = .ok (.aload 5, 2) := by decide +kernel
theorem dX6_ends_169 : decode cX6_ends 169 = .ok (.iconst 3, 1) := by decide +kernel
theorem dX6_ends_170 : decode cX6_ends 170 = .ok (.iaload, 1) := by decide +kernel
theorem dX6_ends_171 : decode cX6_ends 171 = .ok (.iconst (-1), 1) := by decide +kernel
theorem dX6_ends_172 : decode cX6_ends 172 = .ok (.if_icmp .eq 7, 3) := by decide +kernel
theorem dX6_ends_175 : decode cX6_ends 175 = .ok (.iconst 1, 1) := by decide +kernel
theorem dX6_ends_176 : decode cX6_ends 176 = .ok (.goto 4, 3) := by decide +kernel
theorem dX6_ends_179 : decode cX6_ends 179 = .ok (.iconst 0, 1) := by decide +kernel
theorem dX6_ends_180 : decode cX6_ends 180 = .ok (.iadd, 1) := by decide +kernel
theorem dX6_ends_181 : decode cX6_ends 181 = .ok (.iastore, 1) := by decide +kernel
theorem dX6_ends_182 : decode cX6_ends 182 = .ok (.goto (-42), 3) := by decide +kernel
theorem dX6_ends_185 : decode cX6_ends 185 = .ok (.aload_n 0, 1) := by decide +kernel
theorem dX6_ends_186 : decode cX6_ends 186 = .ok (.dup, 1) := by decide +kernel
theorem dX6_ends_187 : decode cX6_ends 187 = .ok (.getfield 43, 3) := by decide +kernel
theorem dX6_ends_190 : decode cX6_ends 190 = .ok (.iconst 1, 1) := by decide +kernel
theorem dX6_ends_191 : decode cX6_ends 191 = .ok (.iadd, 1) := by decide +kernel
theorem dX6_ends_192 : decode cX6_ends 192 = .ok (.putfield 43, 3) := by decide +kernel
theorem dX6_ends_195 : decode cX6_ends 195 = .ok (.iinc 3 1, 3) := by decide +kernel
theorem dX6_ends_198 : decode cX6_ends 198 = .ok (.goto (-194), 3) := by decide +kernel
theorem dX6_ends_201 : decode cX6_ends 201 = .ok (.iload_n 2, 1) := by decide +kernel
theorem dX6_ends_202 : decode cX6_ends 202 = .ok (.ireturn, 1) := by decide +kernel
theorem dX6_isAs_0 : decode cX6_isAs 0 = .ok (.bipush 10, 2) := by decide +kernel
theorem dX6_isAs_2 : decode cX6_isAs 2 = .ok (.newarray .int, 2) := by decide +kernel
theorem dX6_isAs_4 : decode cX6_isAs 4 = .ok (.dup, 1) := by decide +kernel
theorem dX6_isAs_5 : decode cX6_isAs 5 = .ok (.iconst 0, 1) := by decide +kernel
theorem dX6_isAs_6 : decode cX6_isAs 6 = .ok (.aload_n 0, 1) := by decide +kernel
theorem dX6_isAs_7 : decode cX6_isAs 7 = .ok (.getfield 24, 3) := by decide +kernel
theorem dX6_isAs_10 : decode cX6_isAs 10 = .ok (.invokevirtual 151, 3) := by decide +kernel
theorem dX6_isAs_13 : decode cX6_isAs 13 = .ok (.iastore, 1) := by decide +kernel
theorem dX6_isAs_14 : decode cX6_isAs 14 = .ok (.dup, 1) := by decide +kernel
theorem dX6_isAs_15 : decode cX6_isAs 15 = .ok (.iconst 1, 1) := by decide +kernel
theorem dX6_isAs_16 : decode cX6_isAs 16 = .ok (.aload_n 0, 1) := by decide +kernel
theorem dX6_isAs_17 : decode cX6_isAs 17 = .ok (.getfield 28, 3) := by decide +kernel
theorem dX6_isAs_20 : decode cX6_isAs 20 = .ok (.invokevirtual 151, 3) := by decide +kernel
theorem dX6_isAs_23 : decode cX6_isAs 23 = .ok (.iastore, 1) := by decide +kernel
theorem dX6_isAs_24 : decode cX6_isAs 24 = .ok (.dup, 1) := by decide +kernel
theorem dX6_isAs_25 : decode cX6_isAs 25 = .ok (.iconst 2, 1) := by decide +kernel
theorem dX6_isAs_26 : decode cX6_isAs 26 = .ok (.aload_n 0, 1) := by decide +kernel
theorem dX6_isAs_27 : decode cX6_isAs 27 = .ok (.getfield 31, 3) := by decide +kernel
theorem dX6_isAs_30 : decode cX6_isAs 30 = .ok (.invokevirtual 151, 3) := by decide +kernel
theorem dX6_isAs_33 : decode cX6_isAs 33 = .ok (.iastore, 1) := by decide +kernel
theorem dX6_isAs_34 : decode cX6_isAs 34 = .ok (.dup, 1) := by decide +kernel
theorem dX6_isAs_35 : decode cX6_isAs 35 = .ok (.iconst 3, 1) := by decide +kernel
theorem dX6_isAs_36 : decode cX6_isAs 36 = .ok (.aload_n 0, 1) := by decide +kernel
theorem dX6_isAs_37 : decode cX6_isAs 37 = .ok (.getfield 34, 3) := by decide +kernel
theorem dX6_isAs_40 : decode cX6_isAs 40 = .ok (.invokevirtual 151, 3) := by decide +kernel
theorem dX6_isAs_43 : decode cX6_isAs 43 = .ok (.iastore, 1) := by decide +kernel
theorem dX6_isAs_44 : decode cX6_isAs 44 = .ok (.dup, 1) := by decide +kernel
theorem dX6_isAs_45 : decode cX6_isAs 45 = .ok (.iconst 4, 1) := by decide +kernel
theorem dX6_isAs_46 : decode cX6_isAs 46 = .ok (.aload_n 0, 1) := by decide +kernel
theorem dX6_isAs_47 : decode cX6_isAs 47 = .ok (.getfield 37, 3) := by decide +kernel
theorem dX6_isAs_50 : decode cX6_isAs 50 = .ok (.invokevirtual 151, 3) := by decide +kernel
theorem dX6_isAs_53 : decode cX6_isAs 53 = .ok (.iastore, 1) := by decide +kernel
theorem dX6_isAs_54 : decode cX6_isAs 54 = .ok (.dup, 1) := by decide +kernel
theorem dX6_isAs_55 : decode cX6_isAs 55 = .ok (.iconst 5, 1) := by decide +kernel
theorem dX6_isAs_56 : decode cX6_isAs 56 = .ok (.aload_n 0, 1) := by decide +kernel
theorem dX6_isAs_57 : decode cX6_isAs 57 = .ok (.getfield 40, 3) := by decide +kernel
theorem dX6_isAs_60 : decode cX6_isAs 60 = .ok (.invokevirtual 151, 3) := by decide +kernel
theorem dX6_isAs_63 : decode cX6_isAs 63 = .ok (.iastore, 1) := by decide +kernel
theorem dX6_isAs_64 : decode cX6_isAs 64 = .ok (.dup, 1) := by decide +kernel
theorem dX6_isAs_65 : decode cX6_isAs 65 = .ok (.bipush 6, 2) := by decide +kernel
theorem dX6_isAs_67 : decode cX6_isAs 67 = .ok (.aload_n 0, 1) := by decide +kernel
theorem dX6_isAs_68 : decode cX6_isAs 68 = .ok (.getfield 43, 3) := by decide +kernel
theorem dX6_isAs_71 : decode cX6_isAs 71 = .ok (.iastore, 1) := by decide +kernel
theorem dX6_isAs_72 : decode cX6_isAs 72 = .ok (.dup, 1) := by decide +kernel
theorem dX6_isAs_73 : decode cX6_isAs 73 = .ok (.bipush 7, 2) := by decide +kernel
theorem dX6_isAs_75 : decode cX6_isAs 75 = .ok (.aload_n 0, 1) := by decide +kernel
theorem dX6_isAs_76 : decode cX6_isAs 76 = .ok (.getfield 9, 3) := by decide +kernel
theorem dX6_isAs_79 : decode cX6_isAs 79 = .ok (.iastore, 1) := by decide +kernel
theorem dX6_isAs_80 : decode cX6_isAs 80 = .ok (.dup, 1) := by decide +kernel
theorem dX6_isAs_81 : decode cX6_isAs 81 = .ok (.bipush 8, 2) := by decide +kernel
theorem dX6_isAs_83 : decode cX6_isAs 83 = .ok (.aload_n 0, 1) := by decide +kernel
theorem dX6_isAs_84 : decode cX6_isAs 84 = .ok (.getfield 15, 3) := by decide +kernel
theorem dX6_isAs_87 : decode cX6_isAs 87 = .ok (.iastore, 1) := by decide +kernel
theorem dX6_isAs_88 : decode cX6_isAs 88 = .ok (.dup, 1) := by decide +kernel
theorem dX6_isAs_89 : decode cX6_isAs 89 = .ok (.bipush 9, 2) := by decide +kernel
theorem dX6_isAs_91 : decode cX6_isAs 91 = .ok (.aload_n 0, 1) := by decide +kernel
theorem dX6_isAs_92 : decode cX6_isAs 92 = .ok (.getfield 18, 3) := by decide +kernel
theorem dX6_isAs_95 : decode cX6_isAs 95 = .ok (.iastore, 1) := by decide +kernel
theorem dX6_isAs_96 : decode cX6_isAs 96 = .ok (.astore_n 2, 1) := by decide +kernel
theorem dX6_isAs_97 : decode cX6_isAs 97 = .ok (.iconst 0, 1) := by decide +kernel
theorem dX6_isAs_98 : decode cX6_isAs 98 = .ok (.istore_n 3, 1) := by decide +kernel
theorem dX6_isAs_99 : decode cX6_isAs 99 = .ok (.iload_n 3, 1) := by decide +kernel
theorem dX6_isAs_100 : decode cX6_isAs 100 = .ok (.bipush 10, 2) := by decide +kernel
theorem dX6_isAs_102 : decode cX6_isAs 102 = .ok (.if_icmp .ge 22, 3) := by decide +kernel
theorem dX6_isAs_105 : decode cX6_isAs 105 = .ok (.aload_n 1, 1) := by decide +kernel
theorem dX6_isAs_106 : decode cX6_isAs 106 = .ok (.iload_n 3, 1) := by decide +kernel
theorem dX6_isAs_107 : decode cX6_isAs 107 = .ok (.invokevirtual 196, 3) := by decide +kernel
theorem dX6_isAs_110 : decode cX6_isAs 110 = .ok (.aload_n 2, 1) := by decide +kernel
theorem dX6_isAs_111 : decode cX6_isAs 111 = .ok (.iload_n 3, 1) := by decide +kernel
theorem dX6_isAs_112 : decode cX6_isAs 112 = .ok (.iaload, 1) := by decide +kernel
theorem dX6_isAs_113 : decode cX6_isAs 113 = .ok (.if_icmp .eq 5, 3) := by decide +kernel
theorem dX6_isAs_116 : decode cX6_isAs 116 = .ok (.iconst 0, 1) := by decide +kernel
theorem dX6_isAs_117 : decode cX6_isAs 117 = .ok (.ireturn, 1) := by decide +kernel
theorem dX6_isAs_118 : decode cX6_isAs 118 = .ok (.iinc 3 1, 3) := by decide +kernel
theorem dX6_isAs_121 : decode cX6_isAs 121 = .ok (.goto (-22), 3) := by decide +kernel
theorem dX6_isAs_124 : decode cX6_isAs 124 = .ok (.iconst 0, 1) := by decide +kernel
theorem dX6_isAs_125 : decode cX6_isAs 125 = .ok (.istore_n 3, 1) := by decide +kernel
theorem dX6_isAs_126 : decode cX6_isAs 126 = .ok (.iload_n 3, 1) := by decide +kernel
theorem dX6_isAs_127 : decode cX6_isAs 127 = .ok (.aload_n 0, 1) := by decide +kernel
theorem dX6_isAs_128 : decode cX6_isAs 128 = .ok (.getfield 24, 3) := by decide +kernel
theorem dX6_isAs_131 : decode cX6_isAs 131 = .ok (.invokevirtual 151, 3) := by decide +kernel
theorem dX6_isAs_134 : decode cX6_isAs 134 = .ok (.if_icmp .ge 88, 3) := by decide +kernel
theorem dX6_isAs_137 : decode cX6_isAs 137 = .ok (.iconst 0, 1) := by decide +kernel
theorem dX6_isAs_138 : decode cX6_isAs 138 = .ok (.istore 4, 2) := by decide +kernel
theorem dX6_isAs_140 : decode cX6_isAs 140 = .ok (.iload 4, 2) := by decide +kernel
theorem dX6_isAs_142 : decode cX6_isAs 142 = .ok (.iconst 4, 1) := by decide +kernel
theorem dX6_isAs_143 : decode cX6_isAs 143 = .ok (.if_icmp .ge 35, 3) := by decide +kernel
theorem dX6_isAs_146 : decode cX6_isAs 146 = .ok (.aload_n 1, 1) := by decide +kernel
theorem dX6_isAs_147 : decode cX6_isAs 147 = .ok (.iload_n 3, 1) := by decide +kernel
theorem dX6_isAs_148 : decode cX6_isAs 148 = .ok (.iload 4, 2) := by decide +kernel
theorem dX6_isAs_150 : decode cX6_isAs 150 = .ok (.invokevirtual 202, 3) := by decide +kernel
theorem dX6_isAs_153 : decode cX6_isAs 153 = .ok (.aload_n 0, 1) := by decide +kernel
theorem dX6_isAs_154 : decode cX6_isAs 154 = .ok (.getfield 24, 3) := by decide +kernel
theorem dX6_isAs_157 : decode cX6_isAs 157 = .ok (.iload_n 3, 1) := by decide +kernel
theorem dX6_isAs_158 : decode cX6_isAs 158 = .ok (.invokevirtual 154, 3) := by decide +kernel
theorem dX6_isAs_161 : decode cX6_isAs 161 = .ok (.checkcast 60, 3) := by decide +kernel
theorem dX6_isAs_164 : decode cX6_isAs 164 = .ok (.iload 4, 2) := by decide +kernel
theorem dX6_isAs_166 : decode cX6_isAs 166 = .ok (.iaload, 1) := by decide +kernel
theorem dX6_isAs_167 : decode cX6_isAs 167 = .ok (.if_icmp .eq 5, 3) := by decide +kernel
theorem dX6_isAs_170 : decode cX6_isAs 170 = .ok (.iconst 0, 1) := by decide +kernel
theorem dX6_isAs_171 : decode cX6_isAs 171 = .ok (.ireturn, 1) := by decide +kernel
theorem dX6_isAs_172 : decode cX6_isAs 172 = .ok (.iinc 4 1, 3) := by decide +kernel
theorem dX6_isAs_175 : decode cX6_isAs 175 = .ok (.goto (-35), 3) := by decide +kernel
theorem dX6_isAs_178 : decode cX6_isAs 178 = .ok (.aload_n 1, 1) := by decide +kernel
theorem dX6_isAs_179 : decode cX6_isAs 179 = .ok (.iload_n 3, 1) := by decide +kernel
theorem dX6_isAs_180 : decode cX6_isAs 180 = .ok (.iconst 4, 1) := by decide +kernel
theorem dX6_isAs_181 : decode cX6_isAs 181 = .ok (.invokevirtual 202, 3) := by decide +kernel
theorem dX6_isAs_184 : decode cX6_isAs 184 = .ok (.aload_n 0, 1) := by decide +kernel
theorem dX6_isAs_185 : decode cX6_isAs 185 = .ok (.iload_n 3, 1) := by decide +kernel
theorem dX6_isAs_186 : decode cX6_isAs 186 = .ok (.invokevirtual 205, 3) := by decide +kernel
theorem dX6_isAs_189 : decode cX6_isAs 189 = .ok (.if_icmp .ne 25, 3) := by decide +kernel
theorem dX6_isAs_192 : decode cX6_isAs 192 = .ok (.aload_n 1, 1) := by decide +kernel
theorem dX6_isAs_193 : decode cX6_isAs 193 = .ok (.iload_n 3, 1) := by decide +kernel
theorem dX6_isAs_194 : decode cX6_isAs 194 = .ok (.iconst 5, 1) := by decide +kernel
theorem dX6_isAs_195 : decode cX6_isAs 195 = .ok (.invokevirtual 202, 3) := by decide +kernel
theorem dX6_isAs_198 : decode cX6_isAs 198 = .ok (.aload_n 0, 1) := by decide +kernel
theorem dX6_isAs_199 : decode cX6_isAs 199 = .ok (.iload_n 3, 1) := by decide +kernel
theorem dX6_isAs_200 : decode cX6_isAs 200 = .ok (.invokevirtual 174, 3) := by decide +kernel
theorem dX6_isAs_203 : decode cX6_isAs 203 = .ok (.ifCond .eq 7, 3) := by decide +kernel
theorem dX6_isAs_206 : decode cX6_isAs 206 = .ok (.iconst 1, 1) := by decide +kernel
theorem dX6_isAs_207 : decode cX6_isAs 207 = .ok (.goto 4, 3) := by decide +kernel
theorem dX6_isAs_210 : decode cX6_isAs 210 = .ok (.iconst 0, 1) := by decide +kernel
theorem dX6_isAs_211 : decode cX6_isAs 211 = .ok (.if_icmp .eq 5, 3) := by decide +kernel
theorem dX6_isAs_214 : decode cX6_isAs 214 = .ok (.iconst 0, 1) := by decide +kernel
theorem dX6_isAs_215 : decode cX6_isAs 215 = .ok (.ireturn, 1) := by decide +kernel
theorem dX6_isAs_216 : decode cX6_isAs 216 = .ok (.iinc 3 1, 3) := by decide +kernel
theorem dX6_isAs_219 : decode cX6_isAs 219 = .ok (.goto (-93), 3) := by decide +kernel
theorem dX6_isAs_222 : decode cX6_isAs 222 = .ok (.iconst 0, 1) := by decide +kernel
theorem dX6_isAs_223 : decode cX6_isAs 223 = .ok (.istore_n 3, 1) := by decide +kernel
theorem dX6_isAs_224 : decode cX6_isAs 224 = .ok (.iload_n 3, 1) := by decide +kernel
theorem dX6_isAs_225 : decode cX6_isAs 225 = .ok (.aload_n 0, 1) := by decide +kernel
theorem dX6_isAs_226 : decode cX6_isAs 226 = .ok (.getfield 28, 3) := by decide +kernel
theorem dX6_isAs_229 : decode cX6_isAs 229 = .ok (.invokevirtual 151, 3) := by decide +kernel
theorem dX6_isAs_232 : decode cX6_isAs 232 = .ok (.if_icmp .ge 149, 3) := by decide +kernel
theorem dX6_isAs_235 : decode cX6_isAs 235 = .ok (.aload_n 0, 1) := by decide +kernel
theorem dX6_isAs_236 : decode cX6_isAs 236 = .ok (.getfield 28, 3) := by decide +kernel
theorem dX6_isAs_239 : decode cX6_isAs 239 = .ok (.iload_n 3, 1) := by decide +kernel
theorem dX6_isAs_240 : decode cX6_isAs 240 = .ok (.invokevirtual 154, 3) := by decide +kernel
theorem dX6_isAs_243 : decode cX6_isAs 243 = .ok (.checkcast 69, 3) := by decide +kernel
theorem dX6_isAs_246 : decode cX6_isAs 246 = .ok (.astore 4, 2) := by decide +kernel
theorem dX6_isAs_248 : decode cX6_isAs 248 = .ok (.bipush 7, 2) := by decide +kernel
theorem dX6_isAs_250 : decode cX6_isAs 250 = .ok (.newarray .int, 2) := by decide +kernel
theorem dX6_isAs_252 : decode cX6_isAs 252 = .ok (.dup, 1) := by decide +kernel
theorem dX6_isAs_253 : decode cX6_isAs 253 = .ok (.iconst 0, 1) := by decide +kernel
theorem dX6_isAs_254 : decode cX6_isAs 254 = .ok (.aload 4, 2) := by decide +kernel
theorem dX6_isAs_256 : decode cX6_isAs 256 = .ok (.getfield 172, 3) := by decide +kernel
theorem dX6_isAs_259 : decode cX6_isAs 259 = .ok (.iastore, 1) := by decide +kernel
theorem dX6_isAs_260 : decode cX6_isAs 260 = .ok (.dup, 1) := by decide +kernel
theorem dX6_isAs_261 : decode cX6_isAs 261 = .ok (.iconst 1, 1) := by decide +kernel
theorem dX6_isAs_262 : decode cX6_isAs 262 = .ok (.aload 4, 2) := by decide +kernel
theorem dX6_isAs_264 : decode cX6_isAs 264 = .ok (.getfield 147, 3) := by decide +kernel
theorem dX6_isAs_267 : decode cX6_isAs 267 = .ok (.iastore, 1) := by decide +kernel
theorem dX6_isAs_268 : decode cX6_isAs 268 = .ok (.dup, 1) := by decide +kernel
theorem dX6_isAs_269 : decode cX6_isAs 269 = .ok (.iconst 2, 1) := by decide +kernel
theorem dX6_isAs_270 : decode cX6_isAs 270 = .ok (.aload 4, 2) := by decide +kernel
theorem dX6_isAs_272 : decode cX6_isAs 272 = .ok (.getfield 208, 3) := by decide +kernel
theorem dX6_isAs_275 : decode cX6_isAs 275 = .ok (.iastore, 1) := by decide +kernel
theorem dX6_isAs_276 : decode cX6_isAs 276 = .ok (.dup, 1) := by decide +kernel
theorem dX6_isAs_277 : decode cX6_isAs 277 = .ok (.iconst 3, 1) := by decide +kernel
theorem dX6_isAs_278 : decode cX6_isAs 278 = .ok (.aload 4, 2) := by decide +kernel
theorem dX6_isAs_280 : decode cX6_isAs 280 = .ok (.getfield 182, 3) := by decide +kernel
theorem dX6_isAs_283 : decode cX6_isAs 283 = .ok (.iastore, 1) := by decide +kernel
theorem dX6_isAs_284 : decode cX6_isAs 284 = .ok (.dup, 1) := by decide +kernel
theorem dX6_isAs_285 : decode cX6_isAs 285 = .ok (.iconst 4, 1) := by decide +kernel
theorem dX6_isAs_286 : decode cX6_isAs 286 = .ok (.aload 4, 2) := by decide +kernel
theorem dX6_isAs_288 : decode cX6_isAs 288 = .ok (.getfield 189, 3) := by decide +kernel
theorem dX6_isAs_291 : decode cX6_isAs 291 = .ok (.iastore, 1) := by decide +kernel
theorem dX6_isAs_292 : decode cX6_isAs 292 = .ok (.dup, 1) := by decide +kernel
theorem dX6_isAs_293 : decode cX6_isAs 293 = .ok (.iconst 5, 1) := by decide +kernel
theorem dX6_isAs_294 : decode cX6_isAs 294 = .ok (.aload 4, 2) := by decide +kernel
theorem dX6_isAs_296 : decode cX6_isAs 296 = .ok (.getfield 124, 3) := by decide +kernel
theorem dX6_isAs_299 : decode cX6_isAs 299 = .ok (.invokevirtual 209, 3) := by decide +kernel
theorem dX6_isAs_302 : decode cX6_isAs 302 = .ok (.iastore, 1) := by decide +kernel
theorem dX6_isAs_303 : decode cX6_isAs 303 = .ok (.dup, 1) := by decide +kernel
theorem dX6_isAs_304 : decode cX6_isAs 304 = .ok (.bipush 6, 2) := by decide +kernel
theorem dX6_isAs_306 : decode cX6_isAs 306 = .ok (.aload 4, 2) := by decide +kernel
theorem dX6_isAs_308 : decode cX6_isAs 308 = .ok (.getfield 182, 3) := by decide +kernel
theorem dX6_isAs_311 : decode cX6_isAs 311 = .ok (.aload_n 0, 1) := by decide +kernel
theorem dX6_isAs_312 : decode cX6_isAs 312 = .ok (.getfield 18, 3) := by decide +kernel
theorem dX6_isAs_315 : decode cX6_isAs 315 = .ok (.if_icmp .lt 7, 3) := by decide +kernel
theorem dX6_isAs_318 : decode cX6_isAs 318 = .ok (.iconst 1, 1) := by decide +kernel
theorem dX6_isAs_319 : decode cX6_isAs 319 = .ok (.goto 4, 3) := by decide +kernel
theorem dX6_isAs_322 : decode cX6_isAs 322 = .ok (.iconst 0, 1) := by decide +kernel
theorem dX6_isAs_323 : decode cX6_isAs 323 = .ok (.iastore, 1) := by decide +kernel
theorem dX6_isAs_324 : decode cX6_isAs 324 = .ok (.astore 5, 2) := by decide +kernel
theorem dX6_isAs_326 : decode cX6_isAs 326 = .ok (.iconst 0, 1) := by decide +kernel
theorem dX6_isAs_327 : decode cX6_isAs 327 = .ok (.istore 6, 2) := by decide +kernel
theorem dX6_isAs_329 : decode cX6_isAs 329 = .ok (.iload 6, 2) := by decide +kernel
theorem dX6_isAs_331 : decode cX6_isAs 331 = .ok (.bipush 7, 2) := by decide +kernel
theorem dX6_isAs_333 : decode cX6_isAs 333 = .ok (.if_icmp .ge 26, 3) := by decide +kernel
theorem dX6_isAs_336 : decode cX6_isAs 336 = .ok (.aload_n 1, 1) := by decide +kernel
theorem dX6_isAs_337 : decode cX6_isAs 337 = .ok (.iload_n 3, 1) := by decide +kernel
theorem dX6_isAs_338 : decode cX6_isAs 338 = .ok (.iload 6, 2) := by decide +kernel
theorem dX6_isAs_340 : decode cX6_isAs 340 = .ok (.invokevirtual 210, 3) := by decide +kernel
theorem dX6_isAs_343 : decode cX6_isAs 343 = .ok (.aload 5, 2) := by decide +kernel
theorem dX6_isAs_345 : decode cX6_isAs 345 = .ok (.iload 6, 2) := by decide +kernel
theorem dX6_isAs_347 : decode cX6_isAs 347 = .ok (.iaload, 1) := by decide +kernel
theorem dX6_isAs_348 : decode cX6_isAs 348 = .ok (.if_icmp .eq 5, 3) := by decide +kernel
theorem dX6_isAs_351 : decode cX6_isAs 351 = .ok (.iconst 0, 1) := by decide +kernel
theorem dX6_isAs_352 : decode cX6_isAs 352 = .ok (.ireturn, 1) := by decide +kernel
theorem dX6_isAs_353 : decode cX6_isAs 353 = .ok (.iinc 6 1, 3) := by decide +kernel
theorem dX6_isAs_356 : decode cX6_isAs 356 = .ok (.goto (-27), 3) := by decide +kernel
theorem dX6_isAs_359 : decode cX6_isAs 359 = .ok (.aload_n 1, 1) := by decide +kernel
theorem dX6_isAs_360 : decode cX6_isAs 360 = .ok (.iload_n 3, 1) := by decide +kernel
theorem dX6_isAs_361 : decode cX6_isAs 361 = .ok (.invokevirtual 213, 3) := by decide +kernel
theorem dX6_isAs_364 : decode cX6_isAs 364 = .ok (.aload_n 0, 1) := by decide +kernel
theorem dX6_isAs_365 : decode cX6_isAs 365 = .ok (.aload 4, 2) := by decide +kernel
theorem dX6_isAs_367 : decode cX6_isAs 367 = .ok (.invokevirtual 186, 3) := by decide +kernel
theorem dX6_isAs_370 : decode cX6_isAs 370 = .ok (.if_icmp .eq 5, 3) := by decide +kernel
theorem dX6_isAs_373 : decode cX6_isAs 373 = .ok (.iconst 0, 1) := by decide +kernel
theorem dX6_isAs_374 : decode cX6_isAs 374 = .ok (.ireturn, 1) := by decide +kernel
theorem dX6_isAs_375 : decode cX6_isAs 375 = .ok (.iinc 3 1, 3) := by decide +kernel
theorem dX6_isAs_378 : decode cX6_isAs 378 = .ok (.goto (-154), 3) := by decide +kernel
theorem dX6_isAs_381 : decode cX6_isAs 381 = .ok (.iconst 0, 1) := by decide +kernel
theorem dX6_isAs_382 : decode cX6_isAs 382 = .ok (.istore_n 3, 1) := by decide +kernel
theorem dX6_isAs_383 : decode cX6_isAs 383 = .ok (.iload_n 3, 1) := by decide +kernel
theorem dX6_isAs_384 : decode cX6_isAs 384 = .ok (.aload_n 0, 1) := by decide +kernel
theorem dX6_isAs_385 : decode cX6_isAs 385 = .ok (.getfield 31, 3) := by decide +kernel
theorem dX6_isAs_388 : decode cX6_isAs 388 = .ok (.invokevirtual 151, 3) := by decide +kernel
theorem dX6_isAs_391 : decode cX6_isAs 391 = .ok (.if_icmp .ge 142, 3) := by decide +kernel
theorem dX6_isAs_394 : decode cX6_isAs 394 = .ok (.aload_n 0, 1) := by decide +kernel
theorem dX6_isAs_395 : decode cX6_isAs 395 = .ok (.getfield 31, 3) := by decide +kernel
theorem dX6_isAs_398 : decode cX6_isAs 398 = .ok (.iload_n 3, 1) := by decide +kernel
theorem dX6_isAs_399 : decode cX6_isAs 399 = .ok (.invokevirtual 154, 3) := by decide +kernel
theorem dX6_isAs_402 : decode cX6_isAs 402 = .ok (.checkcast 60, 3) := by decide +kernel
theorem dX6_isAs_405 : decode cX6_isAs 405 = .ok (.astore 4, 2) := by decide +kernel
theorem dX6_isAs_407 : decode cX6_isAs 407 = .ok (.bipush 6, 2) := by decide +kernel
theorem dX6_isAs_409 : decode cX6_isAs 409 = .ok (.newarray .int, 2) := by decide +kernel
theorem dX6_isAs_411 : decode cX6_isAs 411 = .ok (.dup, 1) := by decide +kernel
theorem dX6_isAs_412 : decode cX6_isAs 412 = .ok (.iconst 0, 1) := by decide +kernel
theorem dX6_isAs_413 : decode cX6_isAs 413 = .ok (.aload 4, 2) := by decide +kernel
theorem dX6_isAs_415 : decode cX6_isAs 415 = .ok (.iconst 0, 1) := by decide +kernel
theorem dX6_isAs_416 : decode cX6_isAs 416 = .ok (.iaload, 1) := by decide +kernel
theorem dX6_isAs_417 : decode cX6_isAs 417 = .ok (.iastore, 1) := by decide +kernel
theorem dX6_isAs_418 : decode cX6_isAs 418 = .ok (.dup, 1) := by decide +kernel
theorem dX6_isAs_419 : decode cX6_isAs 419 = .ok (.iconst 1, 1) := by decide +kernel
theorem dX6_isAs_420 : decode cX6_isAs 420 = .ok (.aload 4, 2) := by decide +kernel
theorem dX6_isAs_422 : decode cX6_isAs 422 = .ok (.iconst 1, 1) := by decide +kernel
theorem dX6_isAs_423 : decode cX6_isAs 423 = .ok (.iaload, 1) := by decide +kernel
theorem dX6_isAs_424 : decode cX6_isAs 424 = .ok (.iastore, 1) := by decide +kernel
theorem dX6_isAs_425 : decode cX6_isAs 425 = .ok (.dup, 1) := by decide +kernel
theorem dX6_isAs_426 : decode cX6_isAs 426 = .ok (.iconst 2, 1) := by decide +kernel
theorem dX6_isAs_427 : decode cX6_isAs 427 = .ok (.aload 4, 2) := by decide +kernel
theorem dX6_isAs_429 : decode cX6_isAs 429 = .ok (.iconst 2, 1) := by decide +kernel
theorem dX6_isAs_430 : decode cX6_isAs 430 = .ok (.iaload, 1) := by decide +kernel
theorem dX6_isAs_431 : decode cX6_isAs 431 = .ok (.iastore, 1) := by decide +kernel
theorem dX6_isAs_432 : decode cX6_isAs 432 = .ok (.dup, 1) := by decide +kernel
theorem dX6_isAs_433 : decode cX6_isAs 433 = .ok (.iconst 3, 1) := by decide +kernel
theorem dX6_isAs_434 : decode cX6_isAs 434 = .ok (.aload 4, 2) := by decide +kernel
theorem dX6_isAs_436 : decode cX6_isAs 436 = .ok (.iconst 1, 1) := by decide +kernel
theorem dX6_isAs_437 : decode cX6_isAs 437 = .ok (.iaload, 1) := by decide +kernel
theorem dX6_isAs_438 : decode cX6_isAs 438 = .ok (.aload 4, 2) := by decide +kernel
theorem dX6_isAs_440 : decode cX6_isAs 440 = .ok (.iconst 2, 1) := by decide +kernel
theorem dX6_isAs_441 : decode cX6_isAs 441 = .ok (.iaload, 1) := by decide +kernel
theorem dX6_isAs_442 : decode cX6_isAs 442 = .ok (.iadd, 1) := by decide +kernel
theorem dX6_isAs_443 : decode cX6_isAs 443 = .ok (.iastore, 1) := by decide +kernel
theorem dX6_isAs_444 : decode cX6_isAs 444 = .ok (.dup, 1) := by decide +kernel
theorem dX6_isAs_445 : decode cX6_isAs 445 = .ok (.iconst 4, 1) := by decide +kernel
theorem dX6_isAs_446 : decode cX6_isAs 446 = .ok (.aload 4, 2) := by decide +kernel
theorem dX6_isAs_448 : decode cX6_isAs 448 = .ok (.iconst 3, 1) := by decide +kernel
theorem dX6_isAs_449 : decode cX6_isAs 449 = .ok (.iaload, 1) := by decide +kernel
theorem dX6_isAs_450 : decode cX6_isAs 450 = .ok (.iconst 1, 1) := by decide +kernel
theorem dX6_isAs_451 : decode cX6_isAs 451 = .ok (.if_icmp .ne 7, 3) := by decide +kernel
theorem dX6_isAs_454 : decode cX6_isAs 454 = .ok (.iconst 2, 1) := by decide +kernel
theorem dX6_isAs_455 : decode cX6_isAs 455 = .ok (.goto 16, 3) := by decide +kernel
theorem dX6_isAs_458 : decode cX6_isAs 458 = .ok (.aload_n 0, 1) := by decide +kernel
theorem dX6_isAs_459 : decode cX6_isAs 459 = .ok (.iload_n 3, 1) := by decide +kernel
theorem dX6_isAs_460 : decode cX6_isAs 460 = .ok (.invokevirtual 215, 3) := by decide +kernel
theorem dX6_isAs_463 : decode cX6_isAs 463 = .ok (.ifCond .eq 7, 3) := by decide +kernel
theorem dX6_isAs_466 : decode cX6_isAs 466 = .ok (.iconst 1, 1) := by decide +kernel
theorem dX6_isAs_467 : decode cX6_isAs 467 = .ok (.goto 4, 3) := by decide +kernel
theorem dX6_isAs_470 : decode cX6_isAs 470 = .ok (.iconst 0, 1) := by decide +kernel
theorem dX6_isAs_471 : decode cX6_isAs 471 = .ok (.iastore, 1) := by decide +kernel
theorem dX6_isAs_472 : decode cX6_isAs 472 = .ok (.dup, 1) := by decide +kernel
theorem dX6_isAs_473 : decode cX6_isAs 473 = .ok (.iconst 5, 1) := by decide +kernel
theorem dX6_isAs_474 : decode cX6_isAs 474 = .ok (.aload_n 0, 1) := by decide +kernel
theorem dX6_isAs_475 : decode cX6_isAs 475 = .ok (.iload_n 3, 1) := by decide +kernel
theorem dX6_isAs_476 : decode cX6_isAs 476 = .ok (.aload_n 0, 1) := by decide +kernel
theorem dX6_isAs_477 : decode cX6_isAs 477 = .ok (.getfield 43, 3) := by decide +kernel
theorem dX6_isAs_480 : decode cX6_isAs 480 = .ok (.invokevirtual 178, 3) := by decide +kernel
theorem dX6_isAs_483 : decode cX6_isAs 483 = .ok (.ifCond .eq 7, 3) := by decide +kernel
theorem dX6_isAs_486 : decode cX6_isAs 486 = .ok (.iconst 1, 1) := by decide +kernel
theorem dX6_isAs_487 : decode cX6_isAs 487 = .ok (.goto 4, 3) := by decide +kernel
theorem dX6_isAs_490 : decode cX6_isAs 490 = .ok (.iconst 0, 1) := by decide +kernel
theorem dX6_isAs_491 : decode cX6_isAs 491 = .ok (.iastore, 1) := by decide +kernel
theorem dX6_isAs_492 : decode cX6_isAs 492 = .ok (.astore 5, 2) := by decide +kernel
theorem dX6_isAs_494 : decode cX6_isAs 494 = .ok (.iconst 0, 1) := by decide +kernel
theorem dX6_isAs_495 : decode cX6_isAs 495 = .ok (.istore 6, 2) := by decide +kernel
theorem dX6_isAs_497 : decode cX6_isAs 497 = .ok (.iload 6, 2) := by decide +kernel
theorem dX6_isAs_499 : decode cX6_isAs 499 = .ok (.bipush 6, 2) := by decide +kernel
theorem dX6_isAs_501 : decode cX6_isAs 501 = .ok (.if_icmp .ge 26, 3) := by decide +kernel
theorem dX6_isAs_504 : decode cX6_isAs 504 = .ok (.aload_n 1, 1) := by decide +kernel
theorem dX6_isAs_505 : decode cX6_isAs 505 = .ok (.iload_n 3, 1) := by decide +kernel
theorem dX6_isAs_506 : decode cX6_isAs 506 = .ok (.iload 6, 2) := by decide +kernel
theorem dX6_isAs_508 : decode cX6_isAs 508 = .ok (.invokevirtual 218, 3) := by decide +kernel
theorem dX6_isAs_511 : decode cX6_isAs 511 = .ok (.aload 5, 2) := by decide +kernel
theorem dX6_isAs_513 : decode cX6_isAs 513 = .ok (.iload 6, 2) := by decide +kernel
theorem dX6_isAs_515 : decode cX6_isAs 515 = .ok (.iaload, 1) := by decide +kernel
theorem dX6_isAs_516 : decode cX6_isAs 516 = .ok (.if_icmp .eq 5, 3) := by decide +kernel
theorem dX6_isAs_519 : decode cX6_isAs 519 = .ok (.iconst 0, 1) := by decide +kernel
theorem dX6_isAs_520 : decode cX6_isAs 520 = .ok (.ireturn, 1) := by decide +kernel
theorem dX6_isAs_521 : decode cX6_isAs 521 = .ok (.iinc 6 1, 3) := by decide +kernel
theorem dX6_isAs_524 : decode cX6_isAs 524 = .ok (.goto (-27), 3) := by decide +kernel
theorem dX6_isAs_527 : decode cX6_isAs 527 = .ok (.iinc 3 1, 3) := by decide +kernel
theorem dX6_isAs_530 : decode cX6_isAs 530 = .ok (.goto (-147), 3) := by decide +kernel
theorem dX6_isAs_533 : decode cX6_isAs 533 = .ok (.iconst 0, 1) := by decide +kernel
theorem dX6_isAs_534 : decode cX6_isAs 534 = .ok (.istore_n 3, 1) := by decide +kernel
theorem dX6_isAs_535 : decode cX6_isAs 535 = .ok (.iload_n 3, 1) := by decide +kernel
theorem dX6_isAs_536 : decode cX6_isAs 536 = .ok (.aload_n 0, 1) := by decide +kernel
theorem dX6_isAs_537 : decode cX6_isAs 537 = .ok (.getfield 34, 3) := by decide +kernel
theorem dX6_isAs_540 : decode cX6_isAs 540 = .ok (.invokevirtual 151, 3) := by decide +kernel
theorem dX6_isAs_543 : decode cX6_isAs 543 = .ok (.if_icmp .ge 51, 3) := by decide +kernel
theorem dX6_isAs_546 : decode cX6_isAs 546 = .ok (.iconst 0, 1) := by decide +kernel
theorem dX6_isAs_547 : decode cX6_isAs 547 = .ok (.istore 4, 2) := by decide +kernel
theorem dX6_isAs_549 : decode cX6_isAs 549 = .ok (.iload 4, 2) := by decide +kernel
theorem dX6_isAs_551 : decode cX6_isAs 551 = .ok (.bipush 6, 2) := by decide +kernel
theorem dX6_isAs_553 : decode cX6_isAs 553 = .ok (.if_icmp .ge 35, 3) := by decide +kernel
theorem dX6_isAs_556 : decode cX6_isAs 556 = .ok (.aload_n 1, 1) := by decide +kernel
theorem dX6_isAs_557 : decode cX6_isAs 557 = .ok (.iload_n 3, 1) := by decide +kernel
theorem dX6_isAs_558 : decode cX6_isAs 558 = .ok (.iload 4, 2) := by decide +kernel
theorem dX6_isAs_560 : decode cX6_isAs 560 = .ok (.invokevirtual 220, 3) := by decide +kernel
theorem dX6_isAs_563 : decode cX6_isAs 563 = .ok (.aload_n 0, 1) := by decide +kernel
theorem dX6_isAs_564 : decode cX6_isAs 564 = .ok (.getfield 34, 3) := by decide +kernel
theorem dX6_isAs_567 : decode cX6_isAs 567 = .ok (.iload_n 3, 1) := by decide +kernel
theorem dX6_isAs_568 : decode cX6_isAs 568 = .ok (.invokevirtual 154, 3) := by decide +kernel
theorem dX6_isAs_571 : decode cX6_isAs 571 = .ok (.checkcast 60, 3) := by decide +kernel
theorem dX6_isAs_574 : decode cX6_isAs 574 = .ok (.iload 4, 2) := by decide +kernel
theorem dX6_isAs_576 : decode cX6_isAs 576 = .ok (.iaload, 1) := by decide +kernel
theorem dX6_isAs_577 : decode cX6_isAs 577 = .ok (.if_icmp .eq 5, 3) := by decide +kernel
theorem dX6_isAs_580 : decode cX6_isAs 580 = .ok (.iconst 0, 1) := by decide +kernel
theorem dX6_isAs_581 : decode cX6_isAs 581 = .ok (.ireturn, 1) := by decide +kernel
theorem dX6_isAs_582 : decode cX6_isAs 582 = .ok (.iinc 4 1, 3) := by decide +kernel
theorem dX6_isAs_585 : decode cX6_isAs 585 = .ok (.goto (-36), 3) := by decide +kernel
theorem dX6_isAs_588 : decode cX6_isAs 588 = .ok (.iinc 3 1, 3) := by decide +kernel
theorem dX6_isAs_591 : decode cX6_isAs 591 = .ok (.goto (-56), 3) := by decide +kernel
theorem dX6_isAs_594 : decode cX6_isAs 594 = .ok (.iconst 0, 1) := by decide +kernel
theorem dX6_isAs_595 : decode cX6_isAs 595 = .ok (.istore_n 3, 1) := by decide +kernel
theorem dX6_isAs_596 : decode cX6_isAs 596 = .ok (.iload_n 3, 1) := by decide +kernel
theorem dX6_isAs_597 : decode cX6_isAs 597 = .ok (.aload_n 0, 1) := by decide +kernel
theorem dX6_isAs_598 : decode cX6_isAs 598 = .ok (.getfield 37, 3) := by decide +kernel
theorem dX6_isAs_601 : decode cX6_isAs 601 = .ok (.invokevirtual 151, 3) := by decide +kernel
theorem dX6_isAs_604 : decode cX6_isAs 604 = .ok (.if_icmp .ge 66, 3) := by decide +kernel
theorem dX6_isAs_607 : decode cX6_isAs 607 = .ok (.iconst 0, 1) := by decide +kernel
theorem dX6_isAs_608 : decode cX6_isAs 608 = .ok (.istore 4, 2) := by decide +kernel
theorem dX6_isAs_610 : decode cX6_isAs 610 = .ok (.iload 4, 2) := by decide +kernel
theorem dX6_isAs_612 : decode cX6_isAs 612 = .ok (.iconst 3, 1) := by decide +kernel
theorem dX6_isAs_613 : decode cX6_isAs 613 = .ok (.if_icmp .ge 35, 3) := by decide +kernel
theorem dX6_isAs_616 : decode cX6_isAs 616 = .ok (.aload_n 1, 1) := by decide +kernel
theorem dX6_isAs_617 : decode cX6_isAs 617 = .ok (.iload_n 3, 1) := by decide +kernel
theorem dX6_isAs_618 : decode cX6_isAs 618 = .ok (.iload 4, 2) := by decide +kernel
theorem dX6_isAs_620 : decode cX6_isAs 620 = .ok (.invokevirtual 222, 3) := by decide +kernel
theorem dX6_isAs_623 : decode cX6_isAs 623 = .ok (.aload_n 0, 1) := by decide +kernel
theorem dX6_isAs_624 : decode cX6_isAs 624 = .ok (.getfield 37, 3) := by decide +kernel
theorem dX6_isAs_627 : decode cX6_isAs 627 = .ok (.iload_n 3, 1) := by decide +kernel
theorem dX6_isAs_628 : decode cX6_isAs 628 = .ok (.invokevirtual 154, 3) := by decide +kernel
theorem dX6_isAs_631 : decode cX6_isAs 631 = .ok (.checkcast 60, 3) := by decide +kernel
theorem dX6_isAs_634 : decode cX6_isAs 634 = .ok (.iload 4, 2) := by decide +kernel
theorem dX6_isAs_636 : decode cX6_isAs 636 = .ok (.iaload, 1) := by decide +kernel
theorem dX6_isAs_637 : decode cX6_isAs 637 = .ok (.if_icmp .eq 5, 3) := by decide +kernel
theorem dX6_isAs_640 : decode cX6_isAs 640 = .ok (.iconst 0, 1) := by decide +kernel
theorem dX6_isAs_641 : decode cX6_isAs 641 = .ok (.ireturn, 1) := by decide +kernel
theorem dX6_isAs_642 : decode cX6_isAs 642 = .ok (.iinc 4 1, 3) := by decide +kernel
theorem dX6_isAs_645 : decode cX6_isAs 645 = .ok (.goto (-35), 3) := by decide +kernel
theorem dX6_isAs_648 : decode cX6_isAs 648 = .ok (.aload_n 1, 1) := by decide +kernel
theorem dX6_isAs_649 : decode cX6_isAs 649 = .ok (.iload_n 3, 1) := by decide +kernel
theorem dX6_isAs_650 : decode cX6_isAs 650 = .ok (.iconst 3, 1) := by decide +kernel
theorem dX6_isAs_651 : decode cX6_isAs 651 = .ok (.invokevirtual 222, 3) := by decide +kernel
theorem dX6_isAs_654 : decode cX6_isAs 654 = .ok (.aload_n 0, 1) := by decide +kernel
theorem dX6_isAs_655 : decode cX6_isAs 655 = .ok (.iload_n 3, 1) := by decide +kernel
theorem dX6_isAs_656 : decode cX6_isAs 656 = .ok (.invokevirtual 225, 3) := by decide +kernel
theorem dX6_isAs_659 : decode cX6_isAs 659 = .ok (.if_icmp .eq 5, 3) := by decide +kernel
theorem dX6_isAs_662 : decode cX6_isAs 662 = .ok (.iconst 0, 1) := by decide +kernel
theorem dX6_isAs_663 : decode cX6_isAs 663 = .ok (.ireturn, 1) := by decide +kernel
theorem dX6_isAs_664 : decode cX6_isAs 664 = .ok (.iinc 3 1, 3) := by decide +kernel
theorem dX6_isAs_667 : decode cX6_isAs 667 = .ok (.goto (-71), 3) := by decide +kernel
theorem dX6_isAs_670 : decode cX6_isAs 670 = .ok (.iconst 0, 1) := by decide +kernel
theorem dX6_isAs_671 : decode cX6_isAs 671 = .ok (.istore_n 3, 1) := by decide +kernel
theorem dX6_isAs_672 : decode cX6_isAs 672 = .ok (.iload_n 3, 1) := by decide +kernel
theorem dX6_isAs_673 : decode cX6_isAs 673 = .ok (.aload_n 0, 1) := by decide +kernel
theorem dX6_isAs_674 : decode cX6_isAs 674 = .ok (.getfield 40, 3) := by decide +kernel
theorem dX6_isAs_677 : decode cX6_isAs 677 = .ok (.invokevirtual 151, 3) := by decide +kernel
theorem dX6_isAs_680 : decode cX6_isAs 680 = .ok (.if_icmp .ge 50, 3) := by decide +kernel
theorem dX6_isAs_683 : decode cX6_isAs 683 = .ok (.iconst 0, 1) := by decide +kernel
theorem dX6_isAs_684 : decode cX6_isAs 684 = .ok (.istore 4, 2) := by decide +kernel
theorem dX6_isAs_686 : decode cX6_isAs 686 = .ok (.iload 4, 2) := by decide +kernel
theorem dX6_isAs_688 : decode cX6_isAs 688 = .ok (.iconst 4, 1) := by decide +kernel
theorem dX6_isAs_689 : decode cX6_isAs 689 = .ok (.if_icmp .ge 35, 3) := by decide +kernel
theorem dX6_isAs_692 : decode cX6_isAs 692 = .ok (.aload_n 1, 1) := by decide +kernel
theorem dX6_isAs_693 : decode cX6_isAs 693 = .ok (.iload_n 3, 1) := by decide +kernel
theorem dX6_isAs_694 : decode cX6_isAs 694 = .ok (.iload 4, 2) := by decide +kernel
theorem dX6_isAs_696 : decode cX6_isAs 696 = .ok (.invokevirtual 228, 3) := by decide +kernel
theorem dX6_isAs_699 : decode cX6_isAs 699 = .ok (.aload_n 0, 1) := by decide +kernel
theorem dX6_isAs_700 : decode cX6_isAs 700 = .ok (.getfield 40, 3) := by decide +kernel
theorem dX6_isAs_703 : decode cX6_isAs 703 = .ok (.iload_n 3, 1) := by decide +kernel
theorem dX6_isAs_704 : decode cX6_isAs 704 = .ok (.invokevirtual 154, 3) := by decide +kernel
theorem dX6_isAs_707 : decode cX6_isAs 707 = .ok (.checkcast 60, 3) := by decide +kernel
theorem dX6_isAs_710 : decode cX6_isAs 710 = .ok (.iload 4, 2) := by decide +kernel
theorem dX6_isAs_712 : decode cX6_isAs 712 = .ok (.iaload, 1) := by decide +kernel
theorem dX6_isAs_713 : decode cX6_isAs 713 = .ok (.if_icmp .eq 5, 3) := by decide +kernel
theorem dX6_isAs_716 : decode cX6_isAs 716 = .ok (.iconst 0, 1) := by decide +kernel
theorem dX6_isAs_717 : decode cX6_isAs 717 = .ok (.ireturn, 1) := by decide +kernel
theorem dX6_isAs_718 : decode cX6_isAs 718 = .ok (.iinc 4 1, 3) := by decide +kernel
theorem dX6_isAs_721 : decode cX6_isAs 721 = .ok (.goto (-35), 3) := by decide +kernel
theorem dX6_isAs_724 : decode cX6_isAs 724 = .ok (.iinc 3 1, 3) := by decide +kernel
theorem dX6_isAs_727 : decode cX6_isAs 727 = .ok (.goto (-55), 3) := by decide +kernel
theorem dX6_isAs_730 : decode cX6_isAs 730 = .ok (.iconst 1, 1) := by decide +kernel
theorem dX6_isAs_731 : decode cX6_isAs 731 = .ok (.ireturn, 1) := by decide +kernel
theorem dX7_init_0 : decode cX7_init 0 = .ok (.aload_n 0, 1) := by decide +kernel
theorem dX7_init_1 : decode cX7_init 1 = .ok (.invokespecial 1, 3) := by decide +kernel
theorem dX7_init_4 : decode cX7_init 4 = .ok (.aload_n 0, 1) := by decide +kernel
theorem dX7_init_5 : decode cX7_init 5 = .ok (.new 7, 3) := by decide +kernel
theorem dX7_init_8 : decode cX7_init 8 = .ok (.dup, 1) := by decide +kernel
theorem dX7_init_9 : decode cX7_init 9 = .ok (.invokespecial 9, 3) := by decide +kernel
theorem dX7_init_12 : decode cX7_init 12 = .ok (.putfield 10, 3) := by decide +kernel
theorem dX7_init_15 : decode cX7_init 15 = .ok (.aload_n 0, 1) := by decide +kernel
theorem dX7_init_16 : decode cX7_init 16 = .ok (.iload_n 1, 1) := by decide +kernel
theorem dX7_init_17 : decode cX7_init 17 = .ok (.putfield 16, 3) := by decide +kernel
theorem dX7_init_20 : decode cX7_init 20 = .ok (.aload_n 0, 1) := by decide +kernel
theorem dX7_init_21 : decode cX7_init 21 = .ok (.iload_n 2, 1) := by decide +kernel
theorem dX7_init_22 : decode cX7_init 22 = .ok (.putfield 20, 3) := by decide +kernel
theorem dX7_init_25 : decode cX7_init 25 = .ok (.aload_n 0, 1) := by decide +kernel
theorem dX7_init_26 : decode cX7_init 26 = .ok (.iload_n 3, 1) := by decide +kernel
theorem dX7_init_27 : decode cX7_init 27 = .ok (.putfield 23, 3) := by decide +kernel
theorem dX7_init_30 : decode cX7_init 30 = .ok (.return_, 1) := by decide +kernel
theorem dX7_copy_0 : decode cX7_copy 0 = .ok (.new 11, 3) := by decide +kernel
theorem dX7_copy_3 : decode cX7_copy 3 = .ok (.dup, 1) := by decide +kernel
theorem dX7_copy_4 : decode cX7_copy 4 = .ok (.aload_n 0, 1) := by decide +kernel
theorem dX7_copy_5 : decode cX7_copy 5 = .ok (.getfield 16, 3) := by decide +kernel
theorem dX7_copy_8 : decode cX7_copy 8 = .ok (.aload_n 0, 1) := by decide +kernel
theorem dX7_copy_9 : decode cX7_copy 9 = .ok (.getfield 20, 3) := by decide +kernel
theorem dX7_copy_12 : decode cX7_copy 12 = .ok (.aload_n 0, 1) := by decide +kernel
theorem dX7_copy_13 : decode cX7_copy 13 = .ok (.getfield 23, 3) := by decide +kernel
theorem dX7_copy_16 : decode cX7_copy 16 = .ok (.invokespecial 26, 3) := by decide +kernel
theorem dX7_copy_19 : decode cX7_copy 19 = .ok (.astore_n 1, 1) := by decide +kernel
theorem dX7_copy_20 : decode cX7_copy 20 = .ok (.aload_n 1, 1) := by decide +kernel
theorem dX7_copy_21 : decode cX7_copy 21 = .ok (.aload_n 0, 1) := by decide +kernel
theorem dX7_copy_22 : decode cX7_copy 22 = .ok (.getfield 29, 3) := by decide +kernel
theorem dX7_copy_25 : decode cX7_copy 25 = .ok (.putfield 29, 3) := by decide +kernel
theorem dX7_copy_28 : decode cX7_copy 28 = .ok (.aload_n 1, 1) := by decide +kernel
theorem dX7_copy_29 : decode cX7_copy 29 = .ok (.aload_n 0, 1) := by decide +kernel
theorem dX7_copy_30 : decode cX7_copy 30 = .ok (.getfield 32, 3) := by decide +kernel
theorem dX7_copy_33 : decode cX7_copy 33 = .ok (.putfield 32, 3) := by decide +kernel
theorem dX7_copy_36 : decode cX7_copy 36 = .ok (.aload_n 1, 1) := by decide +kernel
theorem dX7_copy_37 : decode cX7_copy 37 = .ok (.aload_n 0, 1) := by decide +kernel
theorem dX7_copy_38 : decode cX7_copy 38 = .ok (.getfield 35, 3) := by decide +kernel
theorem dX7_copy_41 : decode cX7_copy 41 = .ok (.putfield 35, 3) := by decide +kernel
theorem dX7_copy_44 : decode cX7_copy 44 = .ok (.aload_n 0, 1) := by decide +kernel
theorem dX7_copy_45 : decode cX7_copy 45 = .ok (.getfield 10, 3) := by decide +kernel
theorem dX7_copy_48 : decode cX7_copy 48 = .ok (.invokevirtual 38, 3) := by decide +kernel
theorem dX7_copy_51 : decode cX7_copy 51 = .ok (.invokeinterface 42 1, 5) := by decide +kernel
theorem dX7_copy_56 : decode cX7_copy 56 = .ok (.astore_n 2, 1) := by decide +kernel
theorem dX7_copy_57 : decode cX7_copy 57 = .ok (.aload_n 2, 1) := by decide +kernel
theorem dX7_copy_58 : decode cX7_copy 58 = .ok (.invokeinterface 48 1, 5) := by decide +kernel
theorem dX7_copy_63 : decode cX7_copy 63 = .ok (.ifCond .eq 42, 3) := by decide +kernel
theorem dX7_copy_66 : decode cX7_copy 66 = .ok (.aload_n 2, 1) := by decide +kernel
theorem dX7_copy_67 : decode cX7_copy 67 = .ok (.invokeinterface 54 1, 5) := by decide +kernel
theorem dX7_copy_72 : decode cX7_copy 72 = .ok (.checkcast 58, 3) := by decide +kernel
theorem dX7_copy_75 : decode cX7_copy 75 = .ok (.astore_n 3, 1) := by decide +kernel
theorem dX7_copy_76 : decode cX7_copy 76 = .ok (.aload_n 1, 1) := by decide +kernel
theorem dX7_copy_77 : decode cX7_copy 77 = .ok (.getfield 10, 3) := by decide +kernel
theorem dX7_copy_80 : decode cX7_copy 80 = .ok (.aload_n 3, 1) := by decide +kernel
theorem dX7_copy_81 : decode cX7_copy 81 = .ok (.invokeinterface 60 1, 5) := by decide +kernel
theorem dX7_copy_86 : decode cX7_copy 86 = .ok (.checkcast 63, 3) := by decide +kernel
theorem dX7_copy_89 : decode cX7_copy 89 = .ok (.aload_n 3, 1) := by decide +kernel
theorem dX7_copy_90 : decode cX7_copy 90 = .ok (.invokeinterface 65 1, 5) := by decide +kernel
theorem dX7_copy_95 : decode cX7_copy 95 = .ok (.checkcast 63, 3) := by decide +kernel
theorem dX7_copy_98 : decode cX7_copy 98 = .ok (.invokevirtual 68, 3) := by decide +kernel
theorem dX7_copy_101 : decode cX7_copy 101 = .ok (.pop, 1) := by decide +kernel
theorem dX7_copy_102 : decode cX7_copy 102 = .ok (.goto (-45), 3) := by decide +kernel
theorem dX7_copy_105 : decode cX7_copy 105 = .ok (.aload_n 1, 1) := by decide +kernel
theorem dX7_copy_106 : decode cX7_copy 106 = .ok (.areturn, 1) := by decide +kernel

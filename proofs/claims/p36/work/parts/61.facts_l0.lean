def wl_Law_0 : List Nat := [187, 0, 7, 89, 183, 0, 9, 76, 187, 0, 10, 89, 183, 0, 12, 77, 3, 62, 29, 42, 190, 16, 6, 100, 163, 5, 89, 42, 29, 46, 16, 63, 126, 170, 0, 0, 0, 0]
theorem wi_Law_0 : oC tLaw.2.1 0 wl_Law_0 = true := by decide +kernel
theorem dLaw_0 : dn tLaw 0 (.new 7) 3 3 := ⟨o_187 0 7 7 (oWd (K := 0) (r := 0) wi_Law_0 (by decide +kernel)), rfl⟩
theorem dLaw_3 : dn tLaw 3 (.dup) 1 4 := ⟨o_89 (oW (K := 0) (r := 3) wi_Law_0 (by decide +kernel)), rfl⟩
theorem dLaw_4 : dn tLaw 4 (.invokespecial 9) 3 7 := ⟨o_183 0 9 9 (oWd (K := 0) (r := 4) wi_Law_0 (by decide +kernel)), rfl⟩
theorem dLaw_7 : dl tLaw 7 .astore_n .astore 1 8 := Or.inl ⟨1, o_76 (oW (K := 0) (r := 7) wi_Law_0 (by decide +kernel)), rfl, rfl⟩
theorem dLaw_8 : dn tLaw 8 (.new 10) 3 11 := ⟨o_187 0 10 10 (oWd (K := 0) (r := 8) wi_Law_0 (by decide +kernel)), rfl⟩
theorem dLaw_11 : dn tLaw 11 (.dup) 1 12 := ⟨o_89 (oW (K := 0) (r := 11) wi_Law_0 (by decide +kernel)), rfl⟩
theorem dLaw_12 : dn tLaw 12 (.invokespecial 12) 3 15 := ⟨o_183 0 12 12 (oWd (K := 0) (r := 12) wi_Law_0 (by decide +kernel)), rfl⟩
theorem dLaw_15 : dl tLaw 15 .astore_n .astore 2 16 := Or.inl ⟨2, o_77 (oW (K := 0) (r := 15) wi_Law_0 (by decide +kernel)), rfl, rfl⟩
theorem dLaw_16 : dn tLaw 16 (.iconst 0) 1 17 := ⟨o_3 (oW (K := 0) (r := 16) wi_Law_0 (by decide +kernel)), rfl⟩
theorem dLaw_17 : dl tLaw 17 .istore_n .istore 3 18 := Or.inl ⟨3, o_62 (oW (K := 0) (r := 17) wi_Law_0 (by decide +kernel)), rfl, rfl⟩
theorem dLaw_18 : dl tLaw 18 .iload_n .iload 3 19 := Or.inl ⟨3, o_29 (oW (K := 0) (r := 18) wi_Law_0 (by decide +kernel)), rfl, rfl⟩
theorem dLaw_19 : dl tLaw 19 .aload_n .aload 0 20 := Or.inl ⟨0, o_42 (oW (K := 0) (r := 19) wi_Law_0 (by decide +kernel)), rfl, rfl⟩
theorem dLaw_20 : dn tLaw 20 (.arraylength) 1 21 := ⟨o_190 (oW (K := 0) (r := 20) wi_Law_0 (by decide +kernel)), rfl⟩
theorem dLaw_21 : dn tLaw 21 (.bipush 6) 2 23 := ⟨o_16 6 6 (oWd (K := 0) (r := 21) wi_Law_0 (by decide +kernel)), rfl⟩
theorem dLaw_23 : dn tLaw 23 (.isub) 1 24 := ⟨o_100 (oW (K := 0) (r := 23) wi_Law_0 (by decide +kernel)), rfl⟩
theorem dLaw_24 : db tLaw 24 (.if_icmp .gt) 1393 27 := ⟨1369, o_163 5 89 1369 (oWd (K := 0) (r := 24) wi_Law_0 (by decide +kernel)), rfl, rfl⟩
theorem dLaw_27 : dl tLaw 27 .aload_n .aload 0 28 := Or.inl ⟨0, o_42 (oW (K := 0) (r := 27) wi_Law_0 (by decide +kernel)), rfl, rfl⟩
theorem dLaw_28 : dl tLaw 28 .iload_n .iload 3 29 := Or.inl ⟨3, o_29 (oW (K := 0) (r := 28) wi_Law_0 (by decide +kernel)), rfl, rfl⟩
theorem dLaw_29 : dn tLaw 29 (.iaload) 1 30 := ⟨o_46 (oW (K := 0) (r := 29) wi_Law_0 (by decide +kernel)), rfl⟩
theorem dLaw_30 : dn tLaw 30 (.bipush 63) 2 32 := ⟨o_16 63 63 (oWd (K := 0) (r := 30) wi_Law_0 (by decide +kernel)), rfl⟩
def wl_Law_32 : List Nat := [126, 170, 0, 0, 0, 0, 5, 74, 0, 0, 0, 0, 0, 0, 0, 38, 0, 0, 0, 171, 0, 0, 0, 194, 0, 0, 0, 237, 0, 0, 1, 24, 0, 0, 1, 67, 0, 0]
theorem wi_Law_32 : oC tLaw.2.1 32 wl_Law_32 = true := by decide +kernel
theorem dLaw_32 : dn tLaw 32 (.iand) 1 33 := ⟨o_126 (oW (K := 32) (r := 0) wi_Law_32 (by decide +kernel)), rfl⟩
theorem dLaw_33 : dsw tLaw 33 [(0, 204), (1, 227), (2, 270), (3, 313), (4, 356), (5, 379), (6, 442), (7, 465), (8, 488), (9, 511), (10, 544), (11, 577), (12, 610), (13, 633), (14, 666), (15, 699), (16, 732), (17, 755), (18, 788), (19, 811), (20, 844), (21, 897), (22, 920), (23, 943), (24, 976), (25, 1009), (26, 1032), (27, 1055), (28, 1088), (29, 1111), (30, 1134), (31, 1167), (32, 1200), (33, 1223), (34, 1256), (35, 1279), (36, 1312), (37, 1325), (38, 1364)] 1387 := dsw_t 1354 0 38 #[171, 194, 237, 280, 323, 346, 409, 432, 455, 478, 511, 544, 577, 600, 633, 666, 699, 722, 755, 778, 811, 864, 887, 910, 943, 976, 999, 1022, 1055, 1078, 1101, 1134, 1167, 1190, 1223, 1246, 1279, 1292, 1331] 171 (by decide +kernel) (by decide) (by decide) (by decide +kernel)
def wl_Law_192 : List Nat := [0, 0, 4, 255, 0, 0, 5, 12, 0, 0, 5, 51, 43, 42, 29, 4, 96, 46, 182, 0, 13, 87, 44, 42, 29, 4, 96, 46, 182, 0, 17, 87, 167, 4, 139, 43, 42, 29]
theorem wi_Law_192 : oC tLaw.2.1 192 wl_Law_192 = true := by decide +kernel
theorem dLaw_204 : dl tLaw 204 .aload_n .aload 1 205 := Or.inl ⟨1, o_43 (oW (K := 192) (r := 12) wi_Law_192 (by decide +kernel)), rfl, rfl⟩
theorem dLaw_205 : dl tLaw 205 .aload_n .aload 0 206 := Or.inl ⟨0, o_42 (oW (K := 192) (r := 13) wi_Law_192 (by decide +kernel)), rfl, rfl⟩
theorem dLaw_206 : dl tLaw 206 .iload_n .iload 3 207 := Or.inl ⟨3, o_29 (oW (K := 192) (r := 14) wi_Law_192 (by decide +kernel)), rfl, rfl⟩
theorem dLaw_207 : dn tLaw 207 (.iconst 1) 1 208 := ⟨o_4 (oW (K := 192) (r := 15) wi_Law_192 (by decide +kernel)), rfl⟩
theorem dLaw_208 : dn tLaw 208 (.iadd) 1 209 := ⟨o_96 (oW (K := 192) (r := 16) wi_Law_192 (by decide +kernel)), rfl⟩
theorem dLaw_209 : dn tLaw 209 (.iaload) 1 210 := ⟨o_46 (oW (K := 192) (r := 17) wi_Law_192 (by decide +kernel)), rfl⟩
theorem dLaw_210 : dn tLaw 210 (.invokevirtual 13) 3 213 := ⟨o_182 0 13 13 (oWd (K := 192) (r := 18) wi_Law_192 (by decide +kernel)), rfl⟩
theorem dLaw_213 : dn tLaw 213 (.pop) 1 214 := ⟨o_87 (oW (K := 192) (r := 21) wi_Law_192 (by decide +kernel)), rfl⟩
theorem dLaw_214 : dl tLaw 214 .aload_n .aload 2 215 := Or.inl ⟨2, o_44 (oW (K := 192) (r := 22) wi_Law_192 (by decide +kernel)), rfl, rfl⟩
theorem dLaw_215 : dl tLaw 215 .aload_n .aload 0 216 := Or.inl ⟨0, o_42 (oW (K := 192) (r := 23) wi_Law_192 (by decide +kernel)), rfl, rfl⟩
theorem dLaw_216 : dl tLaw 216 .iload_n .iload 3 217 := Or.inl ⟨3, o_29 (oW (K := 192) (r := 24) wi_Law_192 (by decide +kernel)), rfl, rfl⟩
theorem dLaw_217 : dn tLaw 217 (.iconst 1) 1 218 := ⟨o_4 (oW (K := 192) (r := 25) wi_Law_192 (by decide +kernel)), rfl⟩
theorem dLaw_218 : dn tLaw 218 (.iadd) 1 219 := ⟨o_96 (oW (K := 192) (r := 26) wi_Law_192 (by decide +kernel)), rfl⟩
theorem dLaw_219 : dn tLaw 219 (.iaload) 1 220 := ⟨o_46 (oW (K := 192) (r := 27) wi_Law_192 (by decide +kernel)), rfl⟩
theorem dLaw_220 : dn tLaw 220 (.invokevirtual 17) 3 223 := ⟨o_182 0 17 17 (oWd (K := 192) (r := 28) wi_Law_192 (by decide +kernel)), rfl⟩
theorem dLaw_223 : dn tLaw 223 (.pop) 1 224 := ⟨o_87 (oW (K := 192) (r := 31) wi_Law_192 (by decide +kernel)), rfl⟩
def wl_Law_224 : List Nat := [167, 4, 139, 43, 42, 29, 4, 96, 46, 42, 29, 5, 96, 46, 42, 29, 6, 96, 46, 182, 0, 18, 87, 44, 42, 29, 4, 96, 46, 42, 29, 5, 96, 46, 42, 29, 6, 96]
theorem wi_Law_224 : oC tLaw.2.1 224 wl_Law_224 = true := by decide +kernel
theorem dLaw_224 : db tLaw 224 .goto 1387 227 := ⟨1163, o_167 4 139 1163 (oWd (K := 224) (r := 0) wi_Law_224 (by decide +kernel)), rfl, rfl⟩
theorem dLaw_227 : dl tLaw 227 .aload_n .aload 1 228 := Or.inl ⟨1, o_43 (oW (K := 224) (r := 3) wi_Law_224 (by decide +kernel)), rfl, rfl⟩
theorem dLaw_228 : dl tLaw 228 .aload_n .aload 0 229 := Or.inl ⟨0, o_42 (oW (K := 224) (r := 4) wi_Law_224 (by decide +kernel)), rfl, rfl⟩
theorem dLaw_229 : dl tLaw 229 .iload_n .iload 3 230 := Or.inl ⟨3, o_29 (oW (K := 224) (r := 5) wi_Law_224 (by decide +kernel)), rfl, rfl⟩
theorem dLaw_230 : dn tLaw 230 (.iconst 1) 1 231 := ⟨o_4 (oW (K := 224) (r := 6) wi_Law_224 (by decide +kernel)), rfl⟩
theorem dLaw_231 : dn tLaw 231 (.iadd) 1 232 := ⟨o_96 (oW (K := 224) (r := 7) wi_Law_224 (by decide +kernel)), rfl⟩
theorem dLaw_232 : dn tLaw 232 (.iaload) 1 233 := ⟨o_46 (oW (K := 224) (r := 8) wi_Law_224 (by decide +kernel)), rfl⟩
theorem dLaw_233 : dl tLaw 233 .aload_n .aload 0 234 := Or.inl ⟨0, o_42 (oW (K := 224) (r := 9) wi_Law_224 (by decide +kernel)), rfl, rfl⟩
theorem dLaw_234 : dl tLaw 234 .iload_n .iload 3 235 := Or.inl ⟨3, o_29 (oW (K := 224) (r := 10) wi_Law_224 (by decide +kernel)), rfl, rfl⟩
theorem dLaw_235 : dn tLaw 235 (.iconst 2) 1 236 := ⟨o_5 (oW (K := 224) (r := 11) wi_Law_224 (by decide +kernel)), rfl⟩
theorem dLaw_236 : dn tLaw 236 (.iadd) 1 237 := ⟨o_96 (oW (K := 224) (r := 12) wi_Law_224 (by decide +kernel)), rfl⟩
theorem dLaw_237 : dn tLaw 237 (.iaload) 1 238 := ⟨o_46 (oW (K := 224) (r := 13) wi_Law_224 (by decide +kernel)), rfl⟩
theorem dLaw_238 : dl tLaw 238 .aload_n .aload 0 239 := Or.inl ⟨0, o_42 (oW (K := 224) (r := 14) wi_Law_224 (by decide +kernel)), rfl, rfl⟩
theorem dLaw_239 : dl tLaw 239 .iload_n .iload 3 240 := Or.inl ⟨3, o_29 (oW (K := 224) (r := 15) wi_Law_224 (by decide +kernel)), rfl, rfl⟩
theorem dLaw_240 : dn tLaw 240 (.iconst 3) 1 241 := ⟨o_6 (oW (K := 224) (r := 16) wi_Law_224 (by decide +kernel)), rfl⟩
theorem dLaw_241 : dn tLaw 241 (.iadd) 1 242 := ⟨o_96 (oW (K := 224) (r := 17) wi_Law_224 (by decide +kernel)), rfl⟩
theorem dLaw_242 : dn tLaw 242 (.iaload) 1 243 := ⟨o_46 (oW (K := 224) (r := 18) wi_Law_224 (by decide +kernel)), rfl⟩
theorem dLaw_243 : dn tLaw 243 (.invokevirtual 18) 3 246 := ⟨o_182 0 18 18 (oWd (K := 224) (r := 19) wi_Law_224 (by decide +kernel)), rfl⟩
theorem dLaw_246 : dn tLaw 246 (.pop) 1 247 := ⟨o_87 (oW (K := 224) (r := 22) wi_Law_224 (by decide +kernel)), rfl⟩
theorem dLaw_247 : dl tLaw 247 .aload_n .aload 2 248 := Or.inl ⟨2, o_44 (oW (K := 224) (r := 23) wi_Law_224 (by decide +kernel)), rfl, rfl⟩
theorem dLaw_248 : dl tLaw 248 .aload_n .aload 0 249 := Or.inl ⟨0, o_42 (oW (K := 224) (r := 24) wi_Law_224 (by decide +kernel)), rfl, rfl⟩
theorem dLaw_249 : dl tLaw 249 .iload_n .iload 3 250 := Or.inl ⟨3, o_29 (oW (K := 224) (r := 25) wi_Law_224 (by decide +kernel)), rfl, rfl⟩
theorem dLaw_250 : dn tLaw 250 (.iconst 1) 1 251 := ⟨o_4 (oW (K := 224) (r := 26) wi_Law_224 (by decide +kernel)), rfl⟩
theorem dLaw_251 : dn tLaw 251 (.iadd) 1 252 := ⟨o_96 (oW (K := 224) (r := 27) wi_Law_224 (by decide +kernel)), rfl⟩
theorem dLaw_252 : dn tLaw 252 (.iaload) 1 253 := ⟨o_46 (oW (K := 224) (r := 28) wi_Law_224 (by decide +kernel)), rfl⟩
theorem dLaw_253 : dl tLaw 253 .aload_n .aload 0 254 := Or.inl ⟨0, o_42 (oW (K := 224) (r := 29) wi_Law_224 (by decide +kernel)), rfl, rfl⟩
theorem dLaw_254 : dl tLaw 254 .iload_n .iload 3 255 := Or.inl ⟨3, o_29 (oW (K := 224) (r := 30) wi_Law_224 (by decide +kernel)), rfl, rfl⟩
theorem dLaw_255 : dn tLaw 255 (.iconst 2) 1 256 := ⟨o_5 (oW (K := 224) (r := 31) wi_Law_224 (by decide +kernel)), rfl⟩
def wl_Law_256 : List Nat := [96, 46, 42, 29, 6, 96, 46, 182, 0, 22, 87, 167, 4, 96, 43, 42, 29, 4, 96, 46, 42, 29, 5, 96, 46, 42, 29, 6, 96, 46, 182, 0, 23, 87, 44, 42, 29, 4]
theorem wi_Law_256 : oC tLaw.2.1 256 wl_Law_256 = true := by decide +kernel
theorem dLaw_256 : dn tLaw 256 (.iadd) 1 257 := ⟨o_96 (oW (K := 256) (r := 0) wi_Law_256 (by decide +kernel)), rfl⟩
theorem dLaw_257 : dn tLaw 257 (.iaload) 1 258 := ⟨o_46 (oW (K := 256) (r := 1) wi_Law_256 (by decide +kernel)), rfl⟩
theorem dLaw_258 : dl tLaw 258 .aload_n .aload 0 259 := Or.inl ⟨0, o_42 (oW (K := 256) (r := 2) wi_Law_256 (by decide +kernel)), rfl, rfl⟩
theorem dLaw_259 : dl tLaw 259 .iload_n .iload 3 260 := Or.inl ⟨3, o_29 (oW (K := 256) (r := 3) wi_Law_256 (by decide +kernel)), rfl, rfl⟩
theorem dLaw_260 : dn tLaw 260 (.iconst 3) 1 261 := ⟨o_6 (oW (K := 256) (r := 4) wi_Law_256 (by decide +kernel)), rfl⟩
theorem dLaw_261 : dn tLaw 261 (.iadd) 1 262 := ⟨o_96 (oW (K := 256) (r := 5) wi_Law_256 (by decide +kernel)), rfl⟩
theorem dLaw_262 : dn tLaw 262 (.iaload) 1 263 := ⟨o_46 (oW (K := 256) (r := 6) wi_Law_256 (by decide +kernel)), rfl⟩
theorem dLaw_263 : dn tLaw 263 (.invokevirtual 22) 3 266 := ⟨o_182 0 22 22 (oWd (K := 256) (r := 7) wi_Law_256 (by decide +kernel)), rfl⟩
theorem dLaw_266 : dn tLaw 266 (.pop) 1 267 := ⟨o_87 (oW (K := 256) (r := 10) wi_Law_256 (by decide +kernel)), rfl⟩
theorem dLaw_267 : db tLaw 267 .goto 1387 270 := ⟨1120, o_167 4 96 1120 (oWd (K := 256) (r := 11) wi_Law_256 (by decide +kernel)), rfl, rfl⟩
theorem dLaw_270 : dl tLaw 270 .aload_n .aload 1 271 := Or.inl ⟨1, o_43 (oW (K := 256) (r := 14) wi_Law_256 (by decide +kernel)), rfl, rfl⟩
theorem dLaw_271 : dl tLaw 271 .aload_n .aload 0 272 := Or.inl ⟨0, o_42 (oW (K := 256) (r := 15) wi_Law_256 (by decide +kernel)), rfl, rfl⟩
theorem dLaw_272 : dl tLaw 272 .iload_n .iload 3 273 := Or.inl ⟨3, o_29 (oW (K := 256) (r := 16) wi_Law_256 (by decide +kernel)), rfl, rfl⟩
theorem dLaw_273 : dn tLaw 273 (.iconst 1) 1 274 := ⟨o_4 (oW (K := 256) (r := 17) wi_Law_256 (by decide +kernel)), rfl⟩
theorem dLaw_274 : dn tLaw 274 (.iadd) 1 275 := ⟨o_96 (oW (K := 256) (r := 18) wi_Law_256 (by decide +kernel)), rfl⟩
theorem dLaw_275 : dn tLaw 275 (.iaload) 1 276 := ⟨o_46 (oW (K := 256) (r := 19) wi_Law_256 (by decide +kernel)), rfl⟩
theorem dLaw_276 : dl tLaw 276 .aload_n .aload 0 277 := Or.inl ⟨0, o_42 (oW (K := 256) (r := 20) wi_Law_256 (by decide +kernel)), rfl, rfl⟩
theorem dLaw_277 : dl tLaw 277 .iload_n .iload 3 278 := Or.inl ⟨3, o_29 (oW (K := 256) (r := 21) wi_Law_256 (by decide +kernel)), rfl, rfl⟩
theorem dLaw_278 : dn tLaw 278 (.iconst 2) 1 279 := ⟨o_5 (oW (K := 256) (r := 22) wi_Law_256 (by decide +kernel)), rfl⟩
theorem dLaw_279 : dn tLaw 279 (.iadd) 1 280 := ⟨o_96 (oW (K := 256) (r := 23) wi_Law_256 (by decide +kernel)), rfl⟩
theorem dLaw_280 : dn tLaw 280 (.iaload) 1 281 := ⟨o_46 (oW (K := 256) (r := 24) wi_Law_256 (by decide +kernel)), rfl⟩
theorem dLaw_281 : dl tLaw 281 .aload_n .aload 0 282 := Or.inl ⟨0, o_42 (oW (K := 256) (r := 25) wi_Law_256 (by decide +kernel)), rfl, rfl⟩
theorem dLaw_282 : dl tLaw 282 .iload_n .iload 3 283 := Or.inl ⟨3, o_29 (oW (K := 256) (r := 26) wi_Law_256 (by decide +kernel)), rfl, rfl⟩
theorem dLaw_283 : dn tLaw 283 (.iconst 3) 1 284 := ⟨o_6 (oW (K := 256) (r := 27) wi_Law_256 (by decide +kernel)), rfl⟩
theorem dLaw_284 : dn tLaw 284 (.iadd) 1 285 := ⟨o_96 (oW (K := 256) (r := 28) wi_Law_256 (by decide +kernel)), rfl⟩
theorem dLaw_285 : dn tLaw 285 (.iaload) 1 286 := ⟨o_46 (oW (K := 256) (r := 29) wi_Law_256 (by decide +kernel)), rfl⟩
theorem dLaw_286 : dn tLaw 286 (.invokevirtual 23) 3 289 := ⟨o_182 0 23 23 (oWd (K := 256) (r := 30) wi_Law_256 (by decide +kernel)), rfl⟩
def wl_Law_288 : List Nat := [23, 87, 44, 42, 29, 4, 96, 46, 42, 29, 5, 96, 46, 42, 29, 6, 96, 46, 182, 0, 27, 87, 167, 4, 53, 43, 42, 29, 4, 96, 46, 42, 29, 5, 96, 46, 42, 29]
theorem wi_Law_288 : oC tLaw.2.1 288 wl_Law_288 = true := by decide +kernel
theorem dLaw_289 : dn tLaw 289 (.pop) 1 290 := ⟨o_87 (oW (K := 288) (r := 1) wi_Law_288 (by decide +kernel)), rfl⟩
theorem dLaw_290 : dl tLaw 290 .aload_n .aload 2 291 := Or.inl ⟨2, o_44 (oW (K := 288) (r := 2) wi_Law_288 (by decide +kernel)), rfl, rfl⟩
theorem dLaw_291 : dl tLaw 291 .aload_n .aload 0 292 := Or.inl ⟨0, o_42 (oW (K := 288) (r := 3) wi_Law_288 (by decide +kernel)), rfl, rfl⟩
theorem dLaw_292 : dl tLaw 292 .iload_n .iload 3 293 := Or.inl ⟨3, o_29 (oW (K := 288) (r := 4) wi_Law_288 (by decide +kernel)), rfl, rfl⟩
theorem dLaw_293 : dn tLaw 293 (.iconst 1) 1 294 := ⟨o_4 (oW (K := 288) (r := 5) wi_Law_288 (by decide +kernel)), rfl⟩
theorem dLaw_294 : dn tLaw 294 (.iadd) 1 295 := ⟨o_96 (oW (K := 288) (r := 6) wi_Law_288 (by decide +kernel)), rfl⟩
theorem dLaw_295 : dn tLaw 295 (.iaload) 1 296 := ⟨o_46 (oW (K := 288) (r := 7) wi_Law_288 (by decide +kernel)), rfl⟩
theorem dLaw_296 : dl tLaw 296 .aload_n .aload 0 297 := Or.inl ⟨0, o_42 (oW (K := 288) (r := 8) wi_Law_288 (by decide +kernel)), rfl, rfl⟩
theorem dLaw_297 : dl tLaw 297 .iload_n .iload 3 298 := Or.inl ⟨3, o_29 (oW (K := 288) (r := 9) wi_Law_288 (by decide +kernel)), rfl, rfl⟩
theorem dLaw_298 : dn tLaw 298 (.iconst 2) 1 299 := ⟨o_5 (oW (K := 288) (r := 10) wi_Law_288 (by decide +kernel)), rfl⟩
theorem dLaw_299 : dn tLaw 299 (.iadd) 1 300 := ⟨o_96 (oW (K := 288) (r := 11) wi_Law_288 (by decide +kernel)), rfl⟩
theorem dLaw_300 : dn tLaw 300 (.iaload) 1 301 := ⟨o_46 (oW (K := 288) (r := 12) wi_Law_288 (by decide +kernel)), rfl⟩
theorem dLaw_301 : dl tLaw 301 .aload_n .aload 0 302 := Or.inl ⟨0, o_42 (oW (K := 288) (r := 13) wi_Law_288 (by decide +kernel)), rfl, rfl⟩
theorem dLaw_302 : dl tLaw 302 .iload_n .iload 3 303 := Or.inl ⟨3, o_29 (oW (K := 288) (r := 14) wi_Law_288 (by decide +kernel)), rfl, rfl⟩
theorem dLaw_303 : dn tLaw 303 (.iconst 3) 1 304 := ⟨o_6 (oW (K := 288) (r := 15) wi_Law_288 (by decide +kernel)), rfl⟩
theorem dLaw_304 : dn tLaw 304 (.iadd) 1 305 := ⟨o_96 (oW (K := 288) (r := 16) wi_Law_288 (by decide +kernel)), rfl⟩
theorem dLaw_305 : dn tLaw 305 (.iaload) 1 306 := ⟨o_46 (oW (K := 288) (r := 17) wi_Law_288 (by decide +kernel)), rfl⟩
theorem dLaw_306 : dn tLaw 306 (.invokevirtual 27) 3 309 := ⟨o_182 0 27 27 (oWd (K := 288) (r := 18) wi_Law_288 (by decide +kernel)), rfl⟩
theorem dLaw_309 : dn tLaw 309 (.pop) 1 310 := ⟨o_87 (oW (K := 288) (r := 21) wi_Law_288 (by decide +kernel)), rfl⟩
theorem dLaw_310 : db tLaw 310 .goto 1387 313 := ⟨1077, o_167 4 53 1077 (oWd (K := 288) (r := 22) wi_Law_288 (by decide +kernel)), rfl, rfl⟩
theorem dLaw_313 : dl tLaw 313 .aload_n .aload 1 314 := Or.inl ⟨1, o_43 (oW (K := 288) (r := 25) wi_Law_288 (by decide +kernel)), rfl, rfl⟩
theorem dLaw_314 : dl tLaw 314 .aload_n .aload 0 315 := Or.inl ⟨0, o_42 (oW (K := 288) (r := 26) wi_Law_288 (by decide +kernel)), rfl, rfl⟩
theorem dLaw_315 : dl tLaw 315 .iload_n .iload 3 316 := Or.inl ⟨3, o_29 (oW (K := 288) (r := 27) wi_Law_288 (by decide +kernel)), rfl, rfl⟩
theorem dLaw_316 : dn tLaw 316 (.iconst 1) 1 317 := ⟨o_4 (oW (K := 288) (r := 28) wi_Law_288 (by decide +kernel)), rfl⟩
theorem dLaw_317 : dn tLaw 317 (.iadd) 1 318 := ⟨o_96 (oW (K := 288) (r := 29) wi_Law_288 (by decide +kernel)), rfl⟩
theorem dLaw_318 : dn tLaw 318 (.iaload) 1 319 := ⟨o_46 (oW (K := 288) (r := 30) wi_Law_288 (by decide +kernel)), rfl⟩
theorem dLaw_319 : dl tLaw 319 .aload_n .aload 0 320 := Or.inl ⟨0, o_42 (oW (K := 288) (r := 31) wi_Law_288 (by decide +kernel)), rfl, rfl⟩
def wl_Law_320 : List Nat := [29, 5, 96, 46, 42, 29, 6, 96, 46, 182, 0, 28, 87, 44, 42, 29, 4, 96, 46, 42, 29, 5, 96, 46, 42, 29, 6, 96, 46, 182, 0, 31, 87, 167, 4, 10, 43, 42]
theorem wi_Law_320 : oC tLaw.2.1 320 wl_Law_320 = true := by decide +kernel
theorem dLaw_320 : dl tLaw 320 .iload_n .iload 3 321 := Or.inl ⟨3, o_29 (oW (K := 320) (r := 0) wi_Law_320 (by decide +kernel)), rfl, rfl⟩
theorem dLaw_321 : dn tLaw 321 (.iconst 2) 1 322 := ⟨o_5 (oW (K := 320) (r := 1) wi_Law_320 (by decide +kernel)), rfl⟩
theorem dLaw_322 : dn tLaw 322 (.iadd) 1 323 := ⟨o_96 (oW (K := 320) (r := 2) wi_Law_320 (by decide +kernel)), rfl⟩
theorem dLaw_323 : dn tLaw 323 (.iaload) 1 324 := ⟨o_46 (oW (K := 320) (r := 3) wi_Law_320 (by decide +kernel)), rfl⟩
theorem dLaw_324 : dl tLaw 324 .aload_n .aload 0 325 := Or.inl ⟨0, o_42 (oW (K := 320) (r := 4) wi_Law_320 (by decide +kernel)), rfl, rfl⟩
theorem dLaw_325 : dl tLaw 325 .iload_n .iload 3 326 := Or.inl ⟨3, o_29 (oW (K := 320) (r := 5) wi_Law_320 (by decide +kernel)), rfl, rfl⟩
theorem dLaw_326 : dn tLaw 326 (.iconst 3) 1 327 := ⟨o_6 (oW (K := 320) (r := 6) wi_Law_320 (by decide +kernel)), rfl⟩
theorem dLaw_327 : dn tLaw 327 (.iadd) 1 328 := ⟨o_96 (oW (K := 320) (r := 7) wi_Law_320 (by decide +kernel)), rfl⟩
theorem dLaw_328 : dn tLaw 328 (.iaload) 1 329 := ⟨o_46 (oW (K := 320) (r := 8) wi_Law_320 (by decide +kernel)), rfl⟩
theorem dLaw_329 : dn tLaw 329 (.invokevirtual 28) 3 332 := ⟨o_182 0 28 28 (oWd (K := 320) (r := 9) wi_Law_320 (by decide +kernel)), rfl⟩
theorem dLaw_332 : dn tLaw 332 (.pop) 1 333 := ⟨o_87 (oW (K := 320) (r := 12) wi_Law_320 (by decide +kernel)), rfl⟩
theorem dLaw_333 : dl tLaw 333 .aload_n .aload 2 334 := Or.inl ⟨2, o_44 (oW (K := 320) (r := 13) wi_Law_320 (by decide +kernel)), rfl, rfl⟩
theorem dLaw_334 : dl tLaw 334 .aload_n .aload 0 335 := Or.inl ⟨0, o_42 (oW (K := 320) (r := 14) wi_Law_320 (by decide +kernel)), rfl, rfl⟩
theorem dLaw_335 : dl tLaw 335 .iload_n .iload 3 336 := Or.inl ⟨3, o_29 (oW (K := 320) (r := 15) wi_Law_320 (by decide +kernel)), rfl, rfl⟩
theorem dLaw_336 : dn tLaw 336 (.iconst 1) 1 337 := ⟨o_4 (oW (K := 320) (r := 16) wi_Law_320 (by decide +kernel)), rfl⟩
theorem dLaw_337 : dn tLaw 337 (.iadd) 1 338 := ⟨o_96 (oW (K := 320) (r := 17) wi_Law_320 (by decide +kernel)), rfl⟩
theorem dLaw_338 : dn tLaw 338 (.iaload) 1 339 := ⟨o_46 (oW (K := 320) (r := 18) wi_Law_320 (by decide +kernel)), rfl⟩
theorem dLaw_339 : dl tLaw 339 .aload_n .aload 0 340 := Or.inl ⟨0, o_42 (oW (K := 320) (r := 19) wi_Law_320 (by decide +kernel)), rfl, rfl⟩
theorem dLaw_340 : dl tLaw 340 .iload_n .iload 3 341 := Or.inl ⟨3, o_29 (oW (K := 320) (r := 20) wi_Law_320 (by decide +kernel)), rfl, rfl⟩
theorem dLaw_341 : dn tLaw 341 (.iconst 2) 1 342 := ⟨o_5 (oW (K := 320) (r := 21) wi_Law_320 (by decide +kernel)), rfl⟩
theorem dLaw_342 : dn tLaw 342 (.iadd) 1 343 := ⟨o_96 (oW (K := 320) (r := 22) wi_Law_320 (by decide +kernel)), rfl⟩
theorem dLaw_343 : dn tLaw 343 (.iaload) 1 344 := ⟨o_46 (oW (K := 320) (r := 23) wi_Law_320 (by decide +kernel)), rfl⟩
theorem dLaw_344 : dl tLaw 344 .aload_n .aload 0 345 := Or.inl ⟨0, o_42 (oW (K := 320) (r := 24) wi_Law_320 (by decide +kernel)), rfl, rfl⟩
theorem dLaw_345 : dl tLaw 345 .iload_n .iload 3 346 := Or.inl ⟨3, o_29 (oW (K := 320) (r := 25) wi_Law_320 (by decide +kernel)), rfl, rfl⟩
theorem dLaw_346 : dn tLaw 346 (.iconst 3) 1 347 := ⟨o_6 (oW (K := 320) (r := 26) wi_Law_320 (by decide +kernel)), rfl⟩
theorem dLaw_347 : dn tLaw 347 (.iadd) 1 348 := ⟨o_96 (oW (K := 320) (r := 27) wi_Law_320 (by decide +kernel)), rfl⟩
theorem dLaw_348 : dn tLaw 348 (.iaload) 1 349 := ⟨o_46 (oW (K := 320) (r := 28) wi_Law_320 (by decide +kernel)), rfl⟩
theorem dLaw_349 : dn tLaw 349 (.invokevirtual 31) 3 352 := ⟨o_182 0 31 31 (oWd (K := 320) (r := 29) wi_Law_320 (by decide +kernel)), rfl⟩
def wl_Law_352 : List Nat := [87, 167, 4, 10, 43, 42, 29, 4, 96, 46, 182, 0, 32, 87, 44, 42, 29, 4, 96, 46, 182, 0, 35, 87, 167, 3, 243, 43, 42, 29, 4, 96, 46, 42, 29, 5, 96, 46]
theorem wi_Law_352 : oC tLaw.2.1 352 wl_Law_352 = true := by decide +kernel
theorem dLaw_352 : dn tLaw 352 (.pop) 1 353 := ⟨o_87 (oW (K := 352) (r := 0) wi_Law_352 (by decide +kernel)), rfl⟩
theorem dLaw_353 : db tLaw 353 .goto 1387 356 := ⟨1034, o_167 4 10 1034 (oWd (K := 352) (r := 1) wi_Law_352 (by decide +kernel)), rfl, rfl⟩
theorem dLaw_356 : dl tLaw 356 .aload_n .aload 1 357 := Or.inl ⟨1, o_43 (oW (K := 352) (r := 4) wi_Law_352 (by decide +kernel)), rfl, rfl⟩
theorem dLaw_357 : dl tLaw 357 .aload_n .aload 0 358 := Or.inl ⟨0, o_42 (oW (K := 352) (r := 5) wi_Law_352 (by decide +kernel)), rfl, rfl⟩
theorem dLaw_358 : dl tLaw 358 .iload_n .iload 3 359 := Or.inl ⟨3, o_29 (oW (K := 352) (r := 6) wi_Law_352 (by decide +kernel)), rfl, rfl⟩
theorem dLaw_359 : dn tLaw 359 (.iconst 1) 1 360 := ⟨o_4 (oW (K := 352) (r := 7) wi_Law_352 (by decide +kernel)), rfl⟩
theorem dLaw_360 : dn tLaw 360 (.iadd) 1 361 := ⟨o_96 (oW (K := 352) (r := 8) wi_Law_352 (by decide +kernel)), rfl⟩
theorem dLaw_361 : dn tLaw 361 (.iaload) 1 362 := ⟨o_46 (oW (K := 352) (r := 9) wi_Law_352 (by decide +kernel)), rfl⟩
theorem dLaw_362 : dn tLaw 362 (.invokevirtual 32) 3 365 := ⟨o_182 0 32 32 (oWd (K := 352) (r := 10) wi_Law_352 (by decide +kernel)), rfl⟩
theorem dLaw_365 : dn tLaw 365 (.pop) 1 366 := ⟨o_87 (oW (K := 352) (r := 13) wi_Law_352 (by decide +kernel)), rfl⟩
theorem dLaw_366 : dl tLaw 366 .aload_n .aload 2 367 := Or.inl ⟨2, o_44 (oW (K := 352) (r := 14) wi_Law_352 (by decide +kernel)), rfl, rfl⟩
theorem dLaw_367 : dl tLaw 367 .aload_n .aload 0 368 := Or.inl ⟨0, o_42 (oW (K := 352) (r := 15) wi_Law_352 (by decide +kernel)), rfl, rfl⟩
theorem dLaw_368 : dl tLaw 368 .iload_n .iload 3 369 := Or.inl ⟨3, o_29 (oW (K := 352) (r := 16) wi_Law_352 (by decide +kernel)), rfl, rfl⟩
theorem dLaw_369 : dn tLaw 369 (.iconst 1) 1 370 := ⟨o_4 (oW (K := 352) (r := 17) wi_Law_352 (by decide +kernel)), rfl⟩
theorem dLaw_370 : dn tLaw 370 (.iadd) 1 371 := ⟨o_96 (oW (K := 352) (r := 18) wi_Law_352 (by decide +kernel)), rfl⟩
theorem dLaw_371 : dn tLaw 371 (.iaload) 1 372 := ⟨o_46 (oW (K := 352) (r := 19) wi_Law_352 (by decide +kernel)), rfl⟩
theorem dLaw_372 : dn tLaw 372 (.invokevirtual 35) 3 375 := ⟨o_182 0 35 35 (oWd (K := 352) (r := 20) wi_Law_352 (by decide +kernel)), rfl⟩
theorem dLaw_375 : dn tLaw 375 (.pop) 1 376 := ⟨o_87 (oW (K := 352) (r := 23) wi_Law_352 (by decide +kernel)), rfl⟩
theorem dLaw_376 : db tLaw 376 .goto 1387 379 := ⟨1011, o_167 3 243 1011 (oWd (K := 352) (r := 24) wi_Law_352 (by decide +kernel)), rfl, rfl⟩
theorem dLaw_379 : dl tLaw 379 .aload_n .aload 1 380 := Or.inl ⟨1, o_43 (oW (K := 352) (r := 27) wi_Law_352 (by decide +kernel)), rfl, rfl⟩
theorem dLaw_380 : dl tLaw 380 .aload_n .aload 0 381 := Or.inl ⟨0, o_42 (oW (K := 352) (r := 28) wi_Law_352 (by decide +kernel)), rfl, rfl⟩
theorem dLaw_381 : dl tLaw 381 .iload_n .iload 3 382 := Or.inl ⟨3, o_29 (oW (K := 352) (r := 29) wi_Law_352 (by decide +kernel)), rfl, rfl⟩
theorem dLaw_382 : dn tLaw 382 (.iconst 1) 1 383 := ⟨o_4 (oW (K := 352) (r := 30) wi_Law_352 (by decide +kernel)), rfl⟩
theorem dLaw_383 : dn tLaw 383 (.iadd) 1 384 := ⟨o_96 (oW (K := 352) (r := 31) wi_Law_352 (by decide +kernel)), rfl⟩
def wl_Law_384 : List Nat := [46, 42, 29, 5, 96, 46, 42, 29, 6, 96, 46, 42, 29, 7, 96, 46, 42, 29, 8, 96, 46, 182, 0, 36, 87, 44, 42, 29, 4, 96, 46, 42, 29, 5, 96, 46, 42, 29]
theorem wi_Law_384 : oC tLaw.2.1 384 wl_Law_384 = true := by decide +kernel
theorem dLaw_384 : dn tLaw 384 (.iaload) 1 385 := ⟨o_46 (oW (K := 384) (r := 0) wi_Law_384 (by decide +kernel)), rfl⟩
theorem dLaw_385 : dl tLaw 385 .aload_n .aload 0 386 := Or.inl ⟨0, o_42 (oW (K := 384) (r := 1) wi_Law_384 (by decide +kernel)), rfl, rfl⟩
theorem dLaw_386 : dl tLaw 386 .iload_n .iload 3 387 := Or.inl ⟨3, o_29 (oW (K := 384) (r := 2) wi_Law_384 (by decide +kernel)), rfl, rfl⟩
theorem dLaw_387 : dn tLaw 387 (.iconst 2) 1 388 := ⟨o_5 (oW (K := 384) (r := 3) wi_Law_384 (by decide +kernel)), rfl⟩
theorem dLaw_388 : dn tLaw 388 (.iadd) 1 389 := ⟨o_96 (oW (K := 384) (r := 4) wi_Law_384 (by decide +kernel)), rfl⟩
theorem dLaw_389 : dn tLaw 389 (.iaload) 1 390 := ⟨o_46 (oW (K := 384) (r := 5) wi_Law_384 (by decide +kernel)), rfl⟩
theorem dLaw_390 : dl tLaw 390 .aload_n .aload 0 391 := Or.inl ⟨0, o_42 (oW (K := 384) (r := 6) wi_Law_384 (by decide +kernel)), rfl, rfl⟩
theorem dLaw_391 : dl tLaw 391 .iload_n .iload 3 392 := Or.inl ⟨3, o_29 (oW (K := 384) (r := 7) wi_Law_384 (by decide +kernel)), rfl, rfl⟩
theorem dLaw_392 : dn tLaw 392 (.iconst 3) 1 393 := ⟨o_6 (oW (K := 384) (r := 8) wi_Law_384 (by decide +kernel)), rfl⟩
theorem dLaw_393 : dn tLaw 393 (.iadd) 1 394 := ⟨o_96 (oW (K := 384) (r := 9) wi_Law_384 (by decide +kernel)), rfl⟩
theorem dLaw_394 : dn tLaw 394 (.iaload) 1 395 := ⟨o_46 (oW (K := 384) (r := 10) wi_Law_384 (by decide +kernel)), rfl⟩
theorem dLaw_395 : dl tLaw 395 .aload_n .aload 0 396 := Or.inl ⟨0, o_42 (oW (K := 384) (r := 11) wi_Law_384 (by decide +kernel)), rfl, rfl⟩
theorem dLaw_396 : dl tLaw 396 .iload_n .iload 3 397 := Or.inl ⟨3, o_29 (oW (K := 384) (r := 12) wi_Law_384 (by decide +kernel)), rfl, rfl⟩
theorem dLaw_397 : dn tLaw 397 (.iconst 4) 1 398 := ⟨o_7 (oW (K := 384) (r := 13) wi_Law_384 (by decide +kernel)), rfl⟩
theorem dLaw_398 : dn tLaw 398 (.iadd) 1 399 := ⟨o_96 (oW (K := 384) (r := 14) wi_Law_384 (by decide +kernel)), rfl⟩
theorem dLaw_399 : dn tLaw 399 (.iaload) 1 400 := ⟨o_46 (oW (K := 384) (r := 15) wi_Law_384 (by decide +kernel)), rfl⟩
theorem dLaw_400 : dl tLaw 400 .aload_n .aload 0 401 := Or.inl ⟨0, o_42 (oW (K := 384) (r := 16) wi_Law_384 (by decide +kernel)), rfl, rfl⟩
theorem dLaw_401 : dl tLaw 401 .iload_n .iload 3 402 := Or.inl ⟨3, o_29 (oW (K := 384) (r := 17) wi_Law_384 (by decide +kernel)), rfl, rfl⟩
theorem dLaw_402 : dn tLaw 402 (.iconst 5) 1 403 := ⟨o_8 (oW (K := 384) (r := 18) wi_Law_384 (by decide +kernel)), rfl⟩
theorem dLaw_403 : dn tLaw 403 (.iadd) 1 404 := ⟨o_96 (oW (K := 384) (r := 19) wi_Law_384 (by decide +kernel)), rfl⟩
theorem dLaw_404 : dn tLaw 404 (.iaload) 1 405 := ⟨o_46 (oW (K := 384) (r := 20) wi_Law_384 (by decide +kernel)), rfl⟩
theorem dLaw_405 : dn tLaw 405 (.invokevirtual 36) 3 408 := ⟨o_182 0 36 36 (oWd (K := 384) (r := 21) wi_Law_384 (by decide +kernel)), rfl⟩
theorem dLaw_408 : dn tLaw 408 (.pop) 1 409 := ⟨o_87 (oW (K := 384) (r := 24) wi_Law_384 (by decide +kernel)), rfl⟩
theorem dLaw_409 : dl tLaw 409 .aload_n .aload 2 410 := Or.inl ⟨2, o_44 (oW (K := 384) (r := 25) wi_Law_384 (by decide +kernel)), rfl, rfl⟩
theorem dLaw_410 : dl tLaw 410 .aload_n .aload 0 411 := Or.inl ⟨0, o_42 (oW (K := 384) (r := 26) wi_Law_384 (by decide +kernel)), rfl, rfl⟩
theorem dLaw_411 : dl tLaw 411 .iload_n .iload 3 412 := Or.inl ⟨3, o_29 (oW (K := 384) (r := 27) wi_Law_384 (by decide +kernel)), rfl, rfl⟩
theorem dLaw_412 : dn tLaw 412 (.iconst 1) 1 413 := ⟨o_4 (oW (K := 384) (r := 28) wi_Law_384 (by decide +kernel)), rfl⟩
theorem dLaw_413 : dn tLaw 413 (.iadd) 1 414 := ⟨o_96 (oW (K := 384) (r := 29) wi_Law_384 (by decide +kernel)), rfl⟩
theorem dLaw_414 : dn tLaw 414 (.iaload) 1 415 := ⟨o_46 (oW (K := 384) (r := 30) wi_Law_384 (by decide +kernel)), rfl⟩
theorem dLaw_415 : dl tLaw 415 .aload_n .aload 0 416 := Or.inl ⟨0, o_42 (oW (K := 384) (r := 31) wi_Law_384 (by decide +kernel)), rfl, rfl⟩
def wl_Law_416 : List Nat := [29, 5, 96, 46, 42, 29, 6, 96, 46, 42, 29, 7, 96, 46, 42, 29, 8, 96, 46, 182, 0, 40, 87, 167, 3, 180, 43, 42, 29, 4, 96, 46, 182, 0, 41, 87, 44, 42]
theorem wi_Law_416 : oC tLaw.2.1 416 wl_Law_416 = true := by decide +kernel
theorem dLaw_416 : dl tLaw 416 .iload_n .iload 3 417 := Or.inl ⟨3, o_29 (oW (K := 416) (r := 0) wi_Law_416 (by decide +kernel)), rfl, rfl⟩
theorem dLaw_417 : dn tLaw 417 (.iconst 2) 1 418 := ⟨o_5 (oW (K := 416) (r := 1) wi_Law_416 (by decide +kernel)), rfl⟩
theorem dLaw_418 : dn tLaw 418 (.iadd) 1 419 := ⟨o_96 (oW (K := 416) (r := 2) wi_Law_416 (by decide +kernel)), rfl⟩
theorem dLaw_419 : dn tLaw 419 (.iaload) 1 420 := ⟨o_46 (oW (K := 416) (r := 3) wi_Law_416 (by decide +kernel)), rfl⟩
theorem dLaw_420 : dl tLaw 420 .aload_n .aload 0 421 := Or.inl ⟨0, o_42 (oW (K := 416) (r := 4) wi_Law_416 (by decide +kernel)), rfl, rfl⟩
theorem dLaw_421 : dl tLaw 421 .iload_n .iload 3 422 := Or.inl ⟨3, o_29 (oW (K := 416) (r := 5) wi_Law_416 (by decide +kernel)), rfl, rfl⟩
theorem dLaw_422 : dn tLaw 422 (.iconst 3) 1 423 := ⟨o_6 (oW (K := 416) (r := 6) wi_Law_416 (by decide +kernel)), rfl⟩
theorem dLaw_423 : dn tLaw 423 (.iadd) 1 424 := ⟨o_96 (oW (K := 416) (r := 7) wi_Law_416 (by decide +kernel)), rfl⟩
theorem dLaw_424 : dn tLaw 424 (.iaload) 1 425 := ⟨o_46 (oW (K := 416) (r := 8) wi_Law_416 (by decide +kernel)), rfl⟩
theorem dLaw_425 : dl tLaw 425 .aload_n .aload 0 426 := Or.inl ⟨0, o_42 (oW (K := 416) (r := 9) wi_Law_416 (by decide +kernel)), rfl, rfl⟩
theorem dLaw_426 : dl tLaw 426 .iload_n .iload 3 427 := Or.inl ⟨3, o_29 (oW (K := 416) (r := 10) wi_Law_416 (by decide +kernel)), rfl, rfl⟩
theorem dLaw_427 : dn tLaw 427 (.iconst 4) 1 428 := ⟨o_7 (oW (K := 416) (r := 11) wi_Law_416 (by decide +kernel)), rfl⟩
theorem dLaw_428 : dn tLaw 428 (.iadd) 1 429 := ⟨o_96 (oW (K := 416) (r := 12) wi_Law_416 (by decide +kernel)), rfl⟩
theorem dLaw_429 : dn tLaw 429 (.iaload) 1 430 := ⟨o_46 (oW (K := 416) (r := 13) wi_Law_416 (by decide +kernel)), rfl⟩
theorem dLaw_430 : dl tLaw 430 .aload_n .aload 0 431 := Or.inl ⟨0, o_42 (oW (K := 416) (r := 14) wi_Law_416 (by decide +kernel)), rfl, rfl⟩
theorem dLaw_431 : dl tLaw 431 .iload_n .iload 3 432 := Or.inl ⟨3, o_29 (oW (K := 416) (r := 15) wi_Law_416 (by decide +kernel)), rfl, rfl⟩
theorem dLaw_432 : dn tLaw 432 (.iconst 5) 1 433 := ⟨o_8 (oW (K := 416) (r := 16) wi_Law_416 (by decide +kernel)), rfl⟩
theorem dLaw_433 : dn tLaw 433 (.iadd) 1 434 := ⟨o_96 (oW (K := 416) (r := 17) wi_Law_416 (by decide +kernel)), rfl⟩
theorem dLaw_434 : dn tLaw 434 (.iaload) 1 435 := ⟨o_46 (oW (K := 416) (r := 18) wi_Law_416 (by decide +kernel)), rfl⟩
theorem dLaw_435 : dn tLaw 435 (.invokevirtual 40) 3 438 := ⟨o_182 0 40 40 (oWd (K := 416) (r := 19) wi_Law_416 (by decide +kernel)), rfl⟩
theorem dLaw_438 : dn tLaw 438 (.pop) 1 439 := ⟨o_87 (oW (K := 416) (r := 22) wi_Law_416 (by decide +kernel)), rfl⟩
theorem dLaw_439 : db tLaw 439 .goto 1387 442 := ⟨948, o_167 3 180 948 (oWd (K := 416) (r := 23) wi_Law_416 (by decide +kernel)), rfl, rfl⟩
theorem dLaw_442 : dl tLaw 442 .aload_n .aload 1 443 := Or.inl ⟨1, o_43 (oW (K := 416) (r := 26) wi_Law_416 (by decide +kernel)), rfl, rfl⟩
theorem dLaw_443 : dl tLaw 443 .aload_n .aload 0 444 := Or.inl ⟨0, o_42 (oW (K := 416) (r := 27) wi_Law_416 (by decide +kernel)), rfl, rfl⟩
theorem dLaw_444 : dl tLaw 444 .iload_n .iload 3 445 := Or.inl ⟨3, o_29 (oW (K := 416) (r := 28) wi_Law_416 (by decide +kernel)), rfl, rfl⟩
theorem dLaw_445 : dn tLaw 445 (.iconst 1) 1 446 := ⟨o_4 (oW (K := 416) (r := 29) wi_Law_416 (by decide +kernel)), rfl⟩
theorem dLaw_446 : dn tLaw 446 (.iadd) 1 447 := ⟨o_96 (oW (K := 416) (r := 30) wi_Law_416 (by decide +kernel)), rfl⟩
theorem dLaw_447 : dn tLaw 447 (.iaload) 1 448 := ⟨o_46 (oW (K := 416) (r := 31) wi_Law_416 (by decide +kernel)), rfl⟩
def wl_Law_448 : List Nat := [182, 0, 41, 87, 44, 42, 29, 4, 96, 46, 182, 0, 45, 87, 167, 3, 157, 43, 42, 29, 4, 96, 46, 182, 0, 46, 87, 44, 42, 29, 4, 96, 46, 182, 0, 49, 87, 167]
theorem wi_Law_448 : oC tLaw.2.1 448 wl_Law_448 = true := by decide +kernel
theorem dLaw_448 : dn tLaw 448 (.invokevirtual 41) 3 451 := ⟨o_182 0 41 41 (oWd (K := 448) (r := 0) wi_Law_448 (by decide +kernel)), rfl⟩
theorem dLaw_451 : dn tLaw 451 (.pop) 1 452 := ⟨o_87 (oW (K := 448) (r := 3) wi_Law_448 (by decide +kernel)), rfl⟩
theorem dLaw_452 : dl tLaw 452 .aload_n .aload 2 453 := Or.inl ⟨2, o_44 (oW (K := 448) (r := 4) wi_Law_448 (by decide +kernel)), rfl, rfl⟩
theorem dLaw_453 : dl tLaw 453 .aload_n .aload 0 454 := Or.inl ⟨0, o_42 (oW (K := 448) (r := 5) wi_Law_448 (by decide +kernel)), rfl, rfl⟩
theorem dLaw_454 : dl tLaw 454 .iload_n .iload 3 455 := Or.inl ⟨3, o_29 (oW (K := 448) (r := 6) wi_Law_448 (by decide +kernel)), rfl, rfl⟩
theorem dLaw_455 : dn tLaw 455 (.iconst 1) 1 456 := ⟨o_4 (oW (K := 448) (r := 7) wi_Law_448 (by decide +kernel)), rfl⟩
theorem dLaw_456 : dn tLaw 456 (.iadd) 1 457 := ⟨o_96 (oW (K := 448) (r := 8) wi_Law_448 (by decide +kernel)), rfl⟩
theorem dLaw_457 : dn tLaw 457 (.iaload) 1 458 := ⟨o_46 (oW (K := 448) (r := 9) wi_Law_448 (by decide +kernel)), rfl⟩
theorem dLaw_458 : dn tLaw 458 (.invokevirtual 45) 3 461 := ⟨o_182 0 45 45 (oWd (K := 448) (r := 10) wi_Law_448 (by decide +kernel)), rfl⟩
theorem dLaw_461 : dn tLaw 461 (.pop) 1 462 := ⟨o_87 (oW (K := 448) (r := 13) wi_Law_448 (by decide +kernel)), rfl⟩
theorem dLaw_462 : db tLaw 462 .goto 1387 465 := ⟨925, o_167 3 157 925 (oWd (K := 448) (r := 14) wi_Law_448 (by decide +kernel)), rfl, rfl⟩
theorem dLaw_465 : dl tLaw 465 .aload_n .aload 1 466 := Or.inl ⟨1, o_43 (oW (K := 448) (r := 17) wi_Law_448 (by decide +kernel)), rfl, rfl⟩
theorem dLaw_466 : dl tLaw 466 .aload_n .aload 0 467 := Or.inl ⟨0, o_42 (oW (K := 448) (r := 18) wi_Law_448 (by decide +kernel)), rfl, rfl⟩
theorem dLaw_467 : dl tLaw 467 .iload_n .iload 3 468 := Or.inl ⟨3, o_29 (oW (K := 448) (r := 19) wi_Law_448 (by decide +kernel)), rfl, rfl⟩
theorem dLaw_468 : dn tLaw 468 (.iconst 1) 1 469 := ⟨o_4 (oW (K := 448) (r := 20) wi_Law_448 (by decide +kernel)), rfl⟩
theorem dLaw_469 : dn tLaw 469 (.iadd) 1 470 := ⟨o_96 (oW (K := 448) (r := 21) wi_Law_448 (by decide +kernel)), rfl⟩
theorem dLaw_470 : dn tLaw 470 (.iaload) 1 471 := ⟨o_46 (oW (K := 448) (r := 22) wi_Law_448 (by decide +kernel)), rfl⟩
theorem dLaw_471 : dn tLaw 471 (.invokevirtual 46) 3 474 := ⟨o_182 0 46 46 (oWd (K := 448) (r := 23) wi_Law_448 (by decide +kernel)), rfl⟩
theorem dLaw_474 : dn tLaw 474 (.pop) 1 475 := ⟨o_87 (oW (K := 448) (r := 26) wi_Law_448 (by decide +kernel)), rfl⟩
theorem dLaw_475 : dl tLaw 475 .aload_n .aload 2 476 := Or.inl ⟨2, o_44 (oW (K := 448) (r := 27) wi_Law_448 (by decide +kernel)), rfl, rfl⟩
theorem dLaw_476 : dl tLaw 476 .aload_n .aload 0 477 := Or.inl ⟨0, o_42 (oW (K := 448) (r := 28) wi_Law_448 (by decide +kernel)), rfl, rfl⟩
theorem dLaw_477 : dl tLaw 477 .iload_n .iload 3 478 := Or.inl ⟨3, o_29 (oW (K := 448) (r := 29) wi_Law_448 (by decide +kernel)), rfl, rfl⟩
theorem dLaw_478 : dn tLaw 478 (.iconst 1) 1 479 := ⟨o_4 (oW (K := 448) (r := 30) wi_Law_448 (by decide +kernel)), rfl⟩
theorem dLaw_479 : dn tLaw 479 (.iadd) 1 480 := ⟨o_96 (oW (K := 448) (r := 31) wi_Law_448 (by decide +kernel)), rfl⟩
def wl_Law_480 : List Nat := [46, 182, 0, 49, 87, 167, 3, 134, 43, 42, 29, 4, 96, 46, 182, 0, 50, 87, 44, 42, 29, 4, 96, 46, 182, 0, 53, 87, 167, 3, 111, 43, 42, 29, 4, 96, 46, 42]
theorem wi_Law_480 : oC tLaw.2.1 480 wl_Law_480 = true := by decide +kernel
theorem dLaw_480 : dn tLaw 480 (.iaload) 1 481 := ⟨o_46 (oW (K := 480) (r := 0) wi_Law_480 (by decide +kernel)), rfl⟩
theorem dLaw_481 : dn tLaw 481 (.invokevirtual 49) 3 484 := ⟨o_182 0 49 49 (oWd (K := 480) (r := 1) wi_Law_480 (by decide +kernel)), rfl⟩
theorem dLaw_484 : dn tLaw 484 (.pop) 1 485 := ⟨o_87 (oW (K := 480) (r := 4) wi_Law_480 (by decide +kernel)), rfl⟩
theorem dLaw_485 : db tLaw 485 .goto 1387 488 := ⟨902, o_167 3 134 902 (oWd (K := 480) (r := 5) wi_Law_480 (by decide +kernel)), rfl, rfl⟩
theorem dLaw_488 : dl tLaw 488 .aload_n .aload 1 489 := Or.inl ⟨1, o_43 (oW (K := 480) (r := 8) wi_Law_480 (by decide +kernel)), rfl, rfl⟩
theorem dLaw_489 : dl tLaw 489 .aload_n .aload 0 490 := Or.inl ⟨0, o_42 (oW (K := 480) (r := 9) wi_Law_480 (by decide +kernel)), rfl, rfl⟩
theorem dLaw_490 : dl tLaw 490 .iload_n .iload 3 491 := Or.inl ⟨3, o_29 (oW (K := 480) (r := 10) wi_Law_480 (by decide +kernel)), rfl, rfl⟩
theorem dLaw_491 : dn tLaw 491 (.iconst 1) 1 492 := ⟨o_4 (oW (K := 480) (r := 11) wi_Law_480 (by decide +kernel)), rfl⟩
theorem dLaw_492 : dn tLaw 492 (.iadd) 1 493 := ⟨o_96 (oW (K := 480) (r := 12) wi_Law_480 (by decide +kernel)), rfl⟩
theorem dLaw_493 : dn tLaw 493 (.iaload) 1 494 := ⟨o_46 (oW (K := 480) (r := 13) wi_Law_480 (by decide +kernel)), rfl⟩
theorem dLaw_494 : dn tLaw 494 (.invokevirtual 50) 3 497 := ⟨o_182 0 50 50 (oWd (K := 480) (r := 14) wi_Law_480 (by decide +kernel)), rfl⟩
theorem dLaw_497 : dn tLaw 497 (.pop) 1 498 := ⟨o_87 (oW (K := 480) (r := 17) wi_Law_480 (by decide +kernel)), rfl⟩
theorem dLaw_498 : dl tLaw 498 .aload_n .aload 2 499 := Or.inl ⟨2, o_44 (oW (K := 480) (r := 18) wi_Law_480 (by decide +kernel)), rfl, rfl⟩
theorem dLaw_499 : dl tLaw 499 .aload_n .aload 0 500 := Or.inl ⟨0, o_42 (oW (K := 480) (r := 19) wi_Law_480 (by decide +kernel)), rfl, rfl⟩
theorem dLaw_500 : dl tLaw 500 .iload_n .iload 3 501 := Or.inl ⟨3, o_29 (oW (K := 480) (r := 20) wi_Law_480 (by decide +kernel)), rfl, rfl⟩
theorem dLaw_501 : dn tLaw 501 (.iconst 1) 1 502 := ⟨o_4 (oW (K := 480) (r := 21) wi_Law_480 (by decide +kernel)), rfl⟩
theorem dLaw_502 : dn tLaw 502 (.iadd) 1 503 := ⟨o_96 (oW (K := 480) (r := 22) wi_Law_480 (by decide +kernel)), rfl⟩
theorem dLaw_503 : dn tLaw 503 (.iaload) 1 504 := ⟨o_46 (oW (K := 480) (r := 23) wi_Law_480 (by decide +kernel)), rfl⟩
theorem dLaw_504 : dn tLaw 504 (.invokevirtual 53) 3 507 := ⟨o_182 0 53 53 (oWd (K := 480) (r := 24) wi_Law_480 (by decide +kernel)), rfl⟩
theorem dLaw_507 : dn tLaw 507 (.pop) 1 508 := ⟨o_87 (oW (K := 480) (r := 27) wi_Law_480 (by decide +kernel)), rfl⟩
theorem dLaw_508 : db tLaw 508 .goto 1387 511 := ⟨879, o_167 3 111 879 (oWd (K := 480) (r := 28) wi_Law_480 (by decide +kernel)), rfl, rfl⟩
theorem dLaw_511 : dl tLaw 511 .aload_n .aload 1 512 := Or.inl ⟨1, o_43 (oW (K := 480) (r := 31) wi_Law_480 (by decide +kernel)), rfl, rfl⟩
def wl_Law_512 : List Nat := [42, 29, 4, 96, 46, 42, 29, 5, 96, 46, 182, 0, 54, 87, 44, 42, 29, 4, 96, 46, 42, 29, 5, 96, 46, 182, 0, 58, 87, 167, 3, 78, 43, 42, 29, 4, 96, 46]
theorem wi_Law_512 : oC tLaw.2.1 512 wl_Law_512 = true := by decide +kernel
theorem dLaw_512 : dl tLaw 512 .aload_n .aload 0 513 := Or.inl ⟨0, o_42 (oW (K := 512) (r := 0) wi_Law_512 (by decide +kernel)), rfl, rfl⟩
theorem dLaw_513 : dl tLaw 513 .iload_n .iload 3 514 := Or.inl ⟨3, o_29 (oW (K := 512) (r := 1) wi_Law_512 (by decide +kernel)), rfl, rfl⟩
theorem dLaw_514 : dn tLaw 514 (.iconst 1) 1 515 := ⟨o_4 (oW (K := 512) (r := 2) wi_Law_512 (by decide +kernel)), rfl⟩
theorem dLaw_515 : dn tLaw 515 (.iadd) 1 516 := ⟨o_96 (oW (K := 512) (r := 3) wi_Law_512 (by decide +kernel)), rfl⟩
theorem dLaw_516 : dn tLaw 516 (.iaload) 1 517 := ⟨o_46 (oW (K := 512) (r := 4) wi_Law_512 (by decide +kernel)), rfl⟩
theorem dLaw_517 : dl tLaw 517 .aload_n .aload 0 518 := Or.inl ⟨0, o_42 (oW (K := 512) (r := 5) wi_Law_512 (by decide +kernel)), rfl, rfl⟩
theorem dLaw_518 : dl tLaw 518 .iload_n .iload 3 519 := Or.inl ⟨3, o_29 (oW (K := 512) (r := 6) wi_Law_512 (by decide +kernel)), rfl, rfl⟩
theorem dLaw_519 : dn tLaw 519 (.iconst 2) 1 520 := ⟨o_5 (oW (K := 512) (r := 7) wi_Law_512 (by decide +kernel)), rfl⟩
theorem dLaw_520 : dn tLaw 520 (.iadd) 1 521 := ⟨o_96 (oW (K := 512) (r := 8) wi_Law_512 (by decide +kernel)), rfl⟩
theorem dLaw_521 : dn tLaw 521 (.iaload) 1 522 := ⟨o_46 (oW (K := 512) (r := 9) wi_Law_512 (by decide +kernel)), rfl⟩
theorem dLaw_522 : dn tLaw 522 (.invokevirtual 54) 3 525 := ⟨o_182 0 54 54 (oWd (K := 512) (r := 10) wi_Law_512 (by decide +kernel)), rfl⟩
theorem dLaw_525 : dn tLaw 525 (.pop) 1 526 := ⟨o_87 (oW (K := 512) (r := 13) wi_Law_512 (by decide +kernel)), rfl⟩
theorem dLaw_526 : dl tLaw 526 .aload_n .aload 2 527 := Or.inl ⟨2, o_44 (oW (K := 512) (r := 14) wi_Law_512 (by decide +kernel)), rfl, rfl⟩
theorem dLaw_527 : dl tLaw 527 .aload_n .aload 0 528 := Or.inl ⟨0, o_42 (oW (K := 512) (r := 15) wi_Law_512 (by decide +kernel)), rfl, rfl⟩
theorem dLaw_528 : dl tLaw 528 .iload_n .iload 3 529 := Or.inl ⟨3, o_29 (oW (K := 512) (r := 16) wi_Law_512 (by decide +kernel)), rfl, rfl⟩
theorem dLaw_529 : dn tLaw 529 (.iconst 1) 1 530 := ⟨o_4 (oW (K := 512) (r := 17) wi_Law_512 (by decide +kernel)), rfl⟩
theorem dLaw_530 : dn tLaw 530 (.iadd) 1 531 := ⟨o_96 (oW (K := 512) (r := 18) wi_Law_512 (by decide +kernel)), rfl⟩
theorem dLaw_531 : dn tLaw 531 (.iaload) 1 532 := ⟨o_46 (oW (K := 512) (r := 19) wi_Law_512 (by decide +kernel)), rfl⟩
theorem dLaw_532 : dl tLaw 532 .aload_n .aload 0 533 := Or.inl ⟨0, o_42 (oW (K := 512) (r := 20) wi_Law_512 (by decide +kernel)), rfl, rfl⟩
theorem dLaw_533 : dl tLaw 533 .iload_n .iload 3 534 := Or.inl ⟨3, o_29 (oW (K := 512) (r := 21) wi_Law_512 (by decide +kernel)), rfl, rfl⟩
theorem dLaw_534 : dn tLaw 534 (.iconst 2) 1 535 := ⟨o_5 (oW (K := 512) (r := 22) wi_Law_512 (by decide +kernel)), rfl⟩
theorem dLaw_535 : dn tLaw 535 (.iadd) 1 536 := ⟨o_96 (oW (K := 512) (r := 23) wi_Law_512 (by decide +kernel)), rfl⟩
theorem dLaw_536 : dn tLaw 536 (.iaload) 1 537 := ⟨o_46 (oW (K := 512) (r := 24) wi_Law_512 (by decide +kernel)), rfl⟩
theorem dLaw_537 : dn tLaw 537 (.invokevirtual 58) 3 540 := ⟨o_182 0 58 58 (oWd (K := 512) (r := 25) wi_Law_512 (by decide +kernel)), rfl⟩
theorem dLaw_540 : dn tLaw 540 (.pop) 1 541 := ⟨o_87 (oW (K := 512) (r := 28) wi_Law_512 (by decide +kernel)), rfl⟩
theorem dLaw_541 : db tLaw 541 .goto 1387 544 := ⟨846, o_167 3 78 846 (oWd (K := 512) (r := 29) wi_Law_512 (by decide +kernel)), rfl, rfl⟩
def wl_Law_544 : List Nat := [43, 42, 29, 4, 96, 46, 42, 29, 5, 96, 46, 182, 0, 59, 87, 44, 42, 29, 4, 96, 46, 42, 29, 5, 96, 46, 182, 0, 62, 87, 167, 3, 45, 43, 42, 29, 4, 96]
theorem wi_Law_544 : oC tLaw.2.1 544 wl_Law_544 = true := by decide +kernel
theorem dLaw_544 : dl tLaw 544 .aload_n .aload 1 545 := Or.inl ⟨1, o_43 (oW (K := 544) (r := 0) wi_Law_544 (by decide +kernel)), rfl, rfl⟩
theorem dLaw_545 : dl tLaw 545 .aload_n .aload 0 546 := Or.inl ⟨0, o_42 (oW (K := 544) (r := 1) wi_Law_544 (by decide +kernel)), rfl, rfl⟩
theorem dLaw_546 : dl tLaw 546 .iload_n .iload 3 547 := Or.inl ⟨3, o_29 (oW (K := 544) (r := 2) wi_Law_544 (by decide +kernel)), rfl, rfl⟩
theorem dLaw_547 : dn tLaw 547 (.iconst 1) 1 548 := ⟨o_4 (oW (K := 544) (r := 3) wi_Law_544 (by decide +kernel)), rfl⟩
theorem dLaw_548 : dn tLaw 548 (.iadd) 1 549 := ⟨o_96 (oW (K := 544) (r := 4) wi_Law_544 (by decide +kernel)), rfl⟩
theorem dLaw_549 : dn tLaw 549 (.iaload) 1 550 := ⟨o_46 (oW (K := 544) (r := 5) wi_Law_544 (by decide +kernel)), rfl⟩
theorem dLaw_550 : dl tLaw 550 .aload_n .aload 0 551 := Or.inl ⟨0, o_42 (oW (K := 544) (r := 6) wi_Law_544 (by decide +kernel)), rfl, rfl⟩
theorem dLaw_551 : dl tLaw 551 .iload_n .iload 3 552 := Or.inl ⟨3, o_29 (oW (K := 544) (r := 7) wi_Law_544 (by decide +kernel)), rfl, rfl⟩
theorem dLaw_552 : dn tLaw 552 (.iconst 2) 1 553 := ⟨o_5 (oW (K := 544) (r := 8) wi_Law_544 (by decide +kernel)), rfl⟩
theorem dLaw_553 : dn tLaw 553 (.iadd) 1 554 := ⟨o_96 (oW (K := 544) (r := 9) wi_Law_544 (by decide +kernel)), rfl⟩
theorem dLaw_554 : dn tLaw 554 (.iaload) 1 555 := ⟨o_46 (oW (K := 544) (r := 10) wi_Law_544 (by decide +kernel)), rfl⟩
theorem dLaw_555 : dn tLaw 555 (.invokevirtual 59) 3 558 := ⟨o_182 0 59 59 (oWd (K := 544) (r := 11) wi_Law_544 (by decide +kernel)), rfl⟩
theorem dLaw_558 : dn tLaw 558 (.pop) 1 559 := ⟨o_87 (oW (K := 544) (r := 14) wi_Law_544 (by decide +kernel)), rfl⟩
theorem dLaw_559 : dl tLaw 559 .aload_n .aload 2 560 := Or.inl ⟨2, o_44 (oW (K := 544) (r := 15) wi_Law_544 (by decide +kernel)), rfl, rfl⟩
theorem dLaw_560 : dl tLaw 560 .aload_n .aload 0 561 := Or.inl ⟨0, o_42 (oW (K := 544) (r := 16) wi_Law_544 (by decide +kernel)), rfl, rfl⟩
theorem dLaw_561 : dl tLaw 561 .iload_n .iload 3 562 := Or.inl ⟨3, o_29 (oW (K := 544) (r := 17) wi_Law_544 (by decide +kernel)), rfl, rfl⟩
theorem dLaw_562 : dn tLaw 562 (.iconst 1) 1 563 := ⟨o_4 (oW (K := 544) (r := 18) wi_Law_544 (by decide +kernel)), rfl⟩
theorem dLaw_563 : dn tLaw 563 (.iadd) 1 564 := ⟨o_96 (oW (K := 544) (r := 19) wi_Law_544 (by decide +kernel)), rfl⟩
theorem dLaw_564 : dn tLaw 564 (.iaload) 1 565 := ⟨o_46 (oW (K := 544) (r := 20) wi_Law_544 (by decide +kernel)), rfl⟩
theorem dLaw_565 : dl tLaw 565 .aload_n .aload 0 566 := Or.inl ⟨0, o_42 (oW (K := 544) (r := 21) wi_Law_544 (by decide +kernel)), rfl, rfl⟩
theorem dLaw_566 : dl tLaw 566 .iload_n .iload 3 567 := Or.inl ⟨3, o_29 (oW (K := 544) (r := 22) wi_Law_544 (by decide +kernel)), rfl, rfl⟩
theorem dLaw_567 : dn tLaw 567 (.iconst 2) 1 568 := ⟨o_5 (oW (K := 544) (r := 23) wi_Law_544 (by decide +kernel)), rfl⟩
theorem dLaw_568 : dn tLaw 568 (.iadd) 1 569 := ⟨o_96 (oW (K := 544) (r := 24) wi_Law_544 (by decide +kernel)), rfl⟩
theorem dLaw_569 : dn tLaw 569 (.iaload) 1 570 := ⟨o_46 (oW (K := 544) (r := 25) wi_Law_544 (by decide +kernel)), rfl⟩
theorem dLaw_570 : dn tLaw 570 (.invokevirtual 62) 3 573 := ⟨o_182 0 62 62 (oWd (K := 544) (r := 26) wi_Law_544 (by decide +kernel)), rfl⟩
theorem dLaw_573 : dn tLaw 573 (.pop) 1 574 := ⟨o_87 (oW (K := 544) (r := 29) wi_Law_544 (by decide +kernel)), rfl⟩
theorem dLaw_574 : db tLaw 574 .goto 1387 577 := ⟨813, o_167 3 45 813 (oWd (K := 544) (r := 30) wi_Law_544 (by decide +kernel)), rfl, rfl⟩
def wl_Law_576 : List Nat := [45, 43, 42, 29, 4, 96, 46, 42, 29, 5, 96, 46, 182, 0, 63, 87, 44, 42, 29, 4, 96, 46, 42, 29, 5, 96, 46, 182, 0, 66, 87, 167, 3, 12, 43, 42, 29, 4]
theorem wi_Law_576 : oC tLaw.2.1 576 wl_Law_576 = true := by decide +kernel
theorem dLaw_577 : dl tLaw 577 .aload_n .aload 1 578 := Or.inl ⟨1, o_43 (oW (K := 576) (r := 1) wi_Law_576 (by decide +kernel)), rfl, rfl⟩
theorem dLaw_578 : dl tLaw 578 .aload_n .aload 0 579 := Or.inl ⟨0, o_42 (oW (K := 576) (r := 2) wi_Law_576 (by decide +kernel)), rfl, rfl⟩
theorem dLaw_579 : dl tLaw 579 .iload_n .iload 3 580 := Or.inl ⟨3, o_29 (oW (K := 576) (r := 3) wi_Law_576 (by decide +kernel)), rfl, rfl⟩
theorem dLaw_580 : dn tLaw 580 (.iconst 1) 1 581 := ⟨o_4 (oW (K := 576) (r := 4) wi_Law_576 (by decide +kernel)), rfl⟩
theorem dLaw_581 : dn tLaw 581 (.iadd) 1 582 := ⟨o_96 (oW (K := 576) (r := 5) wi_Law_576 (by decide +kernel)), rfl⟩
theorem dLaw_582 : dn tLaw 582 (.iaload) 1 583 := ⟨o_46 (oW (K := 576) (r := 6) wi_Law_576 (by decide +kernel)), rfl⟩
theorem dLaw_583 : dl tLaw 583 .aload_n .aload 0 584 := Or.inl ⟨0, o_42 (oW (K := 576) (r := 7) wi_Law_576 (by decide +kernel)), rfl, rfl⟩
theorem dLaw_584 : dl tLaw 584 .iload_n .iload 3 585 := Or.inl ⟨3, o_29 (oW (K := 576) (r := 8) wi_Law_576 (by decide +kernel)), rfl, rfl⟩
theorem dLaw_585 : dn tLaw 585 (.iconst 2) 1 586 := ⟨o_5 (oW (K := 576) (r := 9) wi_Law_576 (by decide +kernel)), rfl⟩
theorem dLaw_586 : dn tLaw 586 (.iadd) 1 587 := ⟨o_96 (oW (K := 576) (r := 10) wi_Law_576 (by decide +kernel)), rfl⟩
theorem dLaw_587 : dn tLaw 587 (.iaload) 1 588 := ⟨o_46 (oW (K := 576) (r := 11) wi_Law_576 (by decide +kernel)), rfl⟩
theorem dLaw_588 : dn tLaw 588 (.invokevirtual 63) 3 591 := ⟨o_182 0 63 63 (oWd (K := 576) (r := 12) wi_Law_576 (by decide +kernel)), rfl⟩
theorem dLaw_591 : dn tLaw 591 (.pop) 1 592 := ⟨o_87 (oW (K := 576) (r := 15) wi_Law_576 (by decide +kernel)), rfl⟩
theorem dLaw_592 : dl tLaw 592 .aload_n .aload 2 593 := Or.inl ⟨2, o_44 (oW (K := 576) (r := 16) wi_Law_576 (by decide +kernel)), rfl, rfl⟩
theorem dLaw_593 : dl tLaw 593 .aload_n .aload 0 594 := Or.inl ⟨0, o_42 (oW (K := 576) (r := 17) wi_Law_576 (by decide +kernel)), rfl, rfl⟩
theorem dLaw_594 : dl tLaw 594 .iload_n .iload 3 595 := Or.inl ⟨3, o_29 (oW (K := 576) (r := 18) wi_Law_576 (by decide +kernel)), rfl, rfl⟩
theorem dLaw_595 : dn tLaw 595 (.iconst 1) 1 596 := ⟨o_4 (oW (K := 576) (r := 19) wi_Law_576 (by decide +kernel)), rfl⟩
theorem dLaw_596 : dn tLaw 596 (.iadd) 1 597 := ⟨o_96 (oW (K := 576) (r := 20) wi_Law_576 (by decide +kernel)), rfl⟩
theorem dLaw_597 : dn tLaw 597 (.iaload) 1 598 := ⟨o_46 (oW (K := 576) (r := 21) wi_Law_576 (by decide +kernel)), rfl⟩
theorem dLaw_598 : dl tLaw 598 .aload_n .aload 0 599 := Or.inl ⟨0, o_42 (oW (K := 576) (r := 22) wi_Law_576 (by decide +kernel)), rfl, rfl⟩
theorem dLaw_599 : dl tLaw 599 .iload_n .iload 3 600 := Or.inl ⟨3, o_29 (oW (K := 576) (r := 23) wi_Law_576 (by decide +kernel)), rfl, rfl⟩
theorem dLaw_600 : dn tLaw 600 (.iconst 2) 1 601 := ⟨o_5 (oW (K := 576) (r := 24) wi_Law_576 (by decide +kernel)), rfl⟩
theorem dLaw_601 : dn tLaw 601 (.iadd) 1 602 := ⟨o_96 (oW (K := 576) (r := 25) wi_Law_576 (by decide +kernel)), rfl⟩
theorem dLaw_602 : dn tLaw 602 (.iaload) 1 603 := ⟨o_46 (oW (K := 576) (r := 26) wi_Law_576 (by decide +kernel)), rfl⟩
theorem dLaw_603 : dn tLaw 603 (.invokevirtual 66) 3 606 := ⟨o_182 0 66 66 (oWd (K := 576) (r := 27) wi_Law_576 (by decide +kernel)), rfl⟩
theorem dLaw_606 : dn tLaw 606 (.pop) 1 607 := ⟨o_87 (oW (K := 576) (r := 30) wi_Law_576 (by decide +kernel)), rfl⟩
theorem dLaw_607 : db tLaw 607 .goto 1387 610 := ⟨780, o_167 3 12 780 (oWd (K := 576) (r := 31) wi_Law_576 (by decide +kernel)), rfl, rfl⟩
def wl_Law_608 : List Nat := [3, 12, 43, 42, 29, 4, 96, 46, 182, 0, 67, 87, 44, 42, 29, 4, 96, 46, 182, 0, 70, 87, 167, 2, 245, 43, 42, 29, 4, 96, 46, 42, 29, 5, 96, 46, 182, 0]
theorem wi_Law_608 : oC tLaw.2.1 608 wl_Law_608 = true := by decide +kernel
theorem dLaw_610 : dl tLaw 610 .aload_n .aload 1 611 := Or.inl ⟨1, o_43 (oW (K := 608) (r := 2) wi_Law_608 (by decide +kernel)), rfl, rfl⟩
theorem dLaw_611 : dl tLaw 611 .aload_n .aload 0 612 := Or.inl ⟨0, o_42 (oW (K := 608) (r := 3) wi_Law_608 (by decide +kernel)), rfl, rfl⟩
theorem dLaw_612 : dl tLaw 612 .iload_n .iload 3 613 := Or.inl ⟨3, o_29 (oW (K := 608) (r := 4) wi_Law_608 (by decide +kernel)), rfl, rfl⟩
theorem dLaw_613 : dn tLaw 613 (.iconst 1) 1 614 := ⟨o_4 (oW (K := 608) (r := 5) wi_Law_608 (by decide +kernel)), rfl⟩
theorem dLaw_614 : dn tLaw 614 (.iadd) 1 615 := ⟨o_96 (oW (K := 608) (r := 6) wi_Law_608 (by decide +kernel)), rfl⟩
theorem dLaw_615 : dn tLaw 615 (.iaload) 1 616 := ⟨o_46 (oW (K := 608) (r := 7) wi_Law_608 (by decide +kernel)), rfl⟩
theorem dLaw_616 : dn tLaw 616 (.invokevirtual 67) 3 619 := ⟨o_182 0 67 67 (oWd (K := 608) (r := 8) wi_Law_608 (by decide +kernel)), rfl⟩
theorem dLaw_619 : dn tLaw 619 (.pop) 1 620 := ⟨o_87 (oW (K := 608) (r := 11) wi_Law_608 (by decide +kernel)), rfl⟩
theorem dLaw_620 : dl tLaw 620 .aload_n .aload 2 621 := Or.inl ⟨2, o_44 (oW (K := 608) (r := 12) wi_Law_608 (by decide +kernel)), rfl, rfl⟩
theorem dLaw_621 : dl tLaw 621 .aload_n .aload 0 622 := Or.inl ⟨0, o_42 (oW (K := 608) (r := 13) wi_Law_608 (by decide +kernel)), rfl, rfl⟩
theorem dLaw_622 : dl tLaw 622 .iload_n .iload 3 623 := Or.inl ⟨3, o_29 (oW (K := 608) (r := 14) wi_Law_608 (by decide +kernel)), rfl, rfl⟩
theorem dLaw_623 : dn tLaw 623 (.iconst 1) 1 624 := ⟨o_4 (oW (K := 608) (r := 15) wi_Law_608 (by decide +kernel)), rfl⟩
theorem dLaw_624 : dn tLaw 624 (.iadd) 1 625 := ⟨o_96 (oW (K := 608) (r := 16) wi_Law_608 (by decide +kernel)), rfl⟩
theorem dLaw_625 : dn tLaw 625 (.iaload) 1 626 := ⟨o_46 (oW (K := 608) (r := 17) wi_Law_608 (by decide +kernel)), rfl⟩
theorem dLaw_626 : dn tLaw 626 (.invokevirtual 70) 3 629 := ⟨o_182 0 70 70 (oWd (K := 608) (r := 18) wi_Law_608 (by decide +kernel)), rfl⟩
theorem dLaw_629 : dn tLaw 629 (.pop) 1 630 := ⟨o_87 (oW (K := 608) (r := 21) wi_Law_608 (by decide +kernel)), rfl⟩
theorem dLaw_630 : db tLaw 630 .goto 1387 633 := ⟨757, o_167 2 245 757 (oWd (K := 608) (r := 22) wi_Law_608 (by decide +kernel)), rfl, rfl⟩
theorem dLaw_633 : dl tLaw 633 .aload_n .aload 1 634 := Or.inl ⟨1, o_43 (oW (K := 608) (r := 25) wi_Law_608 (by decide +kernel)), rfl, rfl⟩
theorem dLaw_634 : dl tLaw 634 .aload_n .aload 0 635 := Or.inl ⟨0, o_42 (oW (K := 608) (r := 26) wi_Law_608 (by decide +kernel)), rfl, rfl⟩
theorem dLaw_635 : dl tLaw 635 .iload_n .iload 3 636 := Or.inl ⟨3, o_29 (oW (K := 608) (r := 27) wi_Law_608 (by decide +kernel)), rfl, rfl⟩
theorem dLaw_636 : dn tLaw 636 (.iconst 1) 1 637 := ⟨o_4 (oW (K := 608) (r := 28) wi_Law_608 (by decide +kernel)), rfl⟩
theorem dLaw_637 : dn tLaw 637 (.iadd) 1 638 := ⟨o_96 (oW (K := 608) (r := 29) wi_Law_608 (by decide +kernel)), rfl⟩
theorem dLaw_638 : dn tLaw 638 (.iaload) 1 639 := ⟨o_46 (oW (K := 608) (r := 30) wi_Law_608 (by decide +kernel)), rfl⟩
theorem dLaw_639 : dl tLaw 639 .aload_n .aload 0 640 := Or.inl ⟨0, o_42 (oW (K := 608) (r := 31) wi_Law_608 (by decide +kernel)), rfl, rfl⟩
def wl_Law_640 : List Nat := [29, 5, 96, 46, 182, 0, 71, 87, 44, 42, 29, 4, 96, 46, 42, 29, 5, 96, 46, 182, 0, 74, 87, 167, 2, 212, 43, 42, 29, 4, 96, 46, 42, 29, 5, 96, 46, 182]
theorem wi_Law_640 : oC tLaw.2.1 640 wl_Law_640 = true := by decide +kernel
theorem dLaw_640 : dl tLaw 640 .iload_n .iload 3 641 := Or.inl ⟨3, o_29 (oW (K := 640) (r := 0) wi_Law_640 (by decide +kernel)), rfl, rfl⟩
theorem dLaw_641 : dn tLaw 641 (.iconst 2) 1 642 := ⟨o_5 (oW (K := 640) (r := 1) wi_Law_640 (by decide +kernel)), rfl⟩
theorem dLaw_642 : dn tLaw 642 (.iadd) 1 643 := ⟨o_96 (oW (K := 640) (r := 2) wi_Law_640 (by decide +kernel)), rfl⟩
theorem dLaw_643 : dn tLaw 643 (.iaload) 1 644 := ⟨o_46 (oW (K := 640) (r := 3) wi_Law_640 (by decide +kernel)), rfl⟩
theorem dLaw_644 : dn tLaw 644 (.invokevirtual 71) 3 647 := ⟨o_182 0 71 71 (oWd (K := 640) (r := 4) wi_Law_640 (by decide +kernel)), rfl⟩
theorem dLaw_647 : dn tLaw 647 (.pop) 1 648 := ⟨o_87 (oW (K := 640) (r := 7) wi_Law_640 (by decide +kernel)), rfl⟩
theorem dLaw_648 : dl tLaw 648 .aload_n .aload 2 649 := Or.inl ⟨2, o_44 (oW (K := 640) (r := 8) wi_Law_640 (by decide +kernel)), rfl, rfl⟩
theorem dLaw_649 : dl tLaw 649 .aload_n .aload 0 650 := Or.inl ⟨0, o_42 (oW (K := 640) (r := 9) wi_Law_640 (by decide +kernel)), rfl, rfl⟩
theorem dLaw_650 : dl tLaw 650 .iload_n .iload 3 651 := Or.inl ⟨3, o_29 (oW (K := 640) (r := 10) wi_Law_640 (by decide +kernel)), rfl, rfl⟩
theorem dLaw_651 : dn tLaw 651 (.iconst 1) 1 652 := ⟨o_4 (oW (K := 640) (r := 11) wi_Law_640 (by decide +kernel)), rfl⟩
theorem dLaw_652 : dn tLaw 652 (.iadd) 1 653 := ⟨o_96 (oW (K := 640) (r := 12) wi_Law_640 (by decide +kernel)), rfl⟩
theorem dLaw_653 : dn tLaw 653 (.iaload) 1 654 := ⟨o_46 (oW (K := 640) (r := 13) wi_Law_640 (by decide +kernel)), rfl⟩
theorem dLaw_654 : dl tLaw 654 .aload_n .aload 0 655 := Or.inl ⟨0, o_42 (oW (K := 640) (r := 14) wi_Law_640 (by decide +kernel)), rfl, rfl⟩
theorem dLaw_655 : dl tLaw 655 .iload_n .iload 3 656 := Or.inl ⟨3, o_29 (oW (K := 640) (r := 15) wi_Law_640 (by decide +kernel)), rfl, rfl⟩
theorem dLaw_656 : dn tLaw 656 (.iconst 2) 1 657 := ⟨o_5 (oW (K := 640) (r := 16) wi_Law_640 (by decide +kernel)), rfl⟩
theorem dLaw_657 : dn tLaw 657 (.iadd) 1 658 := ⟨o_96 (oW (K := 640) (r := 17) wi_Law_640 (by decide +kernel)), rfl⟩
theorem dLaw_658 : dn tLaw 658 (.iaload) 1 659 := ⟨o_46 (oW (K := 640) (r := 18) wi_Law_640 (by decide +kernel)), rfl⟩
theorem dLaw_659 : dn tLaw 659 (.invokevirtual 74) 3 662 := ⟨o_182 0 74 74 (oWd (K := 640) (r := 19) wi_Law_640 (by decide +kernel)), rfl⟩
theorem dLaw_662 : dn tLaw 662 (.pop) 1 663 := ⟨o_87 (oW (K := 640) (r := 22) wi_Law_640 (by decide +kernel)), rfl⟩
theorem dLaw_663 : db tLaw 663 .goto 1387 666 := ⟨724, o_167 2 212 724 (oWd (K := 640) (r := 23) wi_Law_640 (by decide +kernel)), rfl, rfl⟩
theorem dLaw_666 : dl tLaw 666 .aload_n .aload 1 667 := Or.inl ⟨1, o_43 (oW (K := 640) (r := 26) wi_Law_640 (by decide +kernel)), rfl, rfl⟩
theorem dLaw_667 : dl tLaw 667 .aload_n .aload 0 668 := Or.inl ⟨0, o_42 (oW (K := 640) (r := 27) wi_Law_640 (by decide +kernel)), rfl, rfl⟩
theorem dLaw_668 : dl tLaw 668 .iload_n .iload 3 669 := Or.inl ⟨3, o_29 (oW (K := 640) (r := 28) wi_Law_640 (by decide +kernel)), rfl, rfl⟩
theorem dLaw_669 : dn tLaw 669 (.iconst 1) 1 670 := ⟨o_4 (oW (K := 640) (r := 29) wi_Law_640 (by decide +kernel)), rfl⟩
theorem dLaw_670 : dn tLaw 670 (.iadd) 1 671 := ⟨o_96 (oW (K := 640) (r := 30) wi_Law_640 (by decide +kernel)), rfl⟩
theorem dLaw_671 : dn tLaw 671 (.iaload) 1 672 := ⟨o_46 (oW (K := 640) (r := 31) wi_Law_640 (by decide +kernel)), rfl⟩
def wl_Law_672 : List Nat := [42, 29, 5, 96, 46, 182, 0, 75, 87, 44, 42, 29, 4, 96, 46, 42, 29, 5, 96, 46, 182, 0, 78, 87, 167, 2, 179, 43, 42, 29, 4, 96, 46, 42, 29, 5, 96, 46]
theorem wi_Law_672 : oC tLaw.2.1 672 wl_Law_672 = true := by decide +kernel
theorem dLaw_672 : dl tLaw 672 .aload_n .aload 0 673 := Or.inl ⟨0, o_42 (oW (K := 672) (r := 0) wi_Law_672 (by decide +kernel)), rfl, rfl⟩
theorem dLaw_673 : dl tLaw 673 .iload_n .iload 3 674 := Or.inl ⟨3, o_29 (oW (K := 672) (r := 1) wi_Law_672 (by decide +kernel)), rfl, rfl⟩
theorem dLaw_674 : dn tLaw 674 (.iconst 2) 1 675 := ⟨o_5 (oW (K := 672) (r := 2) wi_Law_672 (by decide +kernel)), rfl⟩
theorem dLaw_675 : dn tLaw 675 (.iadd) 1 676 := ⟨o_96 (oW (K := 672) (r := 3) wi_Law_672 (by decide +kernel)), rfl⟩
theorem dLaw_676 : dn tLaw 676 (.iaload) 1 677 := ⟨o_46 (oW (K := 672) (r := 4) wi_Law_672 (by decide +kernel)), rfl⟩
theorem dLaw_677 : dn tLaw 677 (.invokevirtual 75) 3 680 := ⟨o_182 0 75 75 (oWd (K := 672) (r := 5) wi_Law_672 (by decide +kernel)), rfl⟩
theorem dLaw_680 : dn tLaw 680 (.pop) 1 681 := ⟨o_87 (oW (K := 672) (r := 8) wi_Law_672 (by decide +kernel)), rfl⟩
theorem dLaw_681 : dl tLaw 681 .aload_n .aload 2 682 := Or.inl ⟨2, o_44 (oW (K := 672) (r := 9) wi_Law_672 (by decide +kernel)), rfl, rfl⟩
theorem dLaw_682 : dl tLaw 682 .aload_n .aload 0 683 := Or.inl ⟨0, o_42 (oW (K := 672) (r := 10) wi_Law_672 (by decide +kernel)), rfl, rfl⟩
theorem dLaw_683 : dl tLaw 683 .iload_n .iload 3 684 := Or.inl ⟨3, o_29 (oW (K := 672) (r := 11) wi_Law_672 (by decide +kernel)), rfl, rfl⟩
theorem dLaw_684 : dn tLaw 684 (.iconst 1) 1 685 := ⟨o_4 (oW (K := 672) (r := 12) wi_Law_672 (by decide +kernel)), rfl⟩
theorem dLaw_685 : dn tLaw 685 (.iadd) 1 686 := ⟨o_96 (oW (K := 672) (r := 13) wi_Law_672 (by decide +kernel)), rfl⟩
theorem dLaw_686 : dn tLaw 686 (.iaload) 1 687 := ⟨o_46 (oW (K := 672) (r := 14) wi_Law_672 (by decide +kernel)), rfl⟩
theorem dLaw_687 : dl tLaw 687 .aload_n .aload 0 688 := Or.inl ⟨0, o_42 (oW (K := 672) (r := 15) wi_Law_672 (by decide +kernel)), rfl, rfl⟩
theorem dLaw_688 : dl tLaw 688 .iload_n .iload 3 689 := Or.inl ⟨3, o_29 (oW (K := 672) (r := 16) wi_Law_672 (by decide +kernel)), rfl, rfl⟩
theorem dLaw_689 : dn tLaw 689 (.iconst 2) 1 690 := ⟨o_5 (oW (K := 672) (r := 17) wi_Law_672 (by decide +kernel)), rfl⟩
theorem dLaw_690 : dn tLaw 690 (.iadd) 1 691 := ⟨o_96 (oW (K := 672) (r := 18) wi_Law_672 (by decide +kernel)), rfl⟩
theorem dLaw_691 : dn tLaw 691 (.iaload) 1 692 := ⟨o_46 (oW (K := 672) (r := 19) wi_Law_672 (by decide +kernel)), rfl⟩
theorem dLaw_692 : dn tLaw 692 (.invokevirtual 78) 3 695 := ⟨o_182 0 78 78 (oWd (K := 672) (r := 20) wi_Law_672 (by decide +kernel)), rfl⟩
theorem dLaw_695 : dn tLaw 695 (.pop) 1 696 := ⟨o_87 (oW (K := 672) (r := 23) wi_Law_672 (by decide +kernel)), rfl⟩
theorem dLaw_696 : db tLaw 696 .goto 1387 699 := ⟨691, o_167 2 179 691 (oWd (K := 672) (r := 24) wi_Law_672 (by decide +kernel)), rfl, rfl⟩
theorem dLaw_699 : dl tLaw 699 .aload_n .aload 1 700 := Or.inl ⟨1, o_43 (oW (K := 672) (r := 27) wi_Law_672 (by decide +kernel)), rfl, rfl⟩
theorem dLaw_700 : dl tLaw 700 .aload_n .aload 0 701 := Or.inl ⟨0, o_42 (oW (K := 672) (r := 28) wi_Law_672 (by decide +kernel)), rfl, rfl⟩
theorem dLaw_701 : dl tLaw 701 .iload_n .iload 3 702 := Or.inl ⟨3, o_29 (oW (K := 672) (r := 29) wi_Law_672 (by decide +kernel)), rfl, rfl⟩
theorem dLaw_702 : dn tLaw 702 (.iconst 1) 1 703 := ⟨o_4 (oW (K := 672) (r := 30) wi_Law_672 (by decide +kernel)), rfl⟩
theorem dLaw_703 : dn tLaw 703 (.iadd) 1 704 := ⟨o_96 (oW (K := 672) (r := 31) wi_Law_672 (by decide +kernel)), rfl⟩
def wl_Law_704 : List Nat := [46, 42, 29, 5, 96, 46, 182, 0, 79, 87, 44, 42, 29, 4, 96, 46, 42, 29, 5, 96, 46, 182, 0, 82, 87, 167, 2, 146, 43, 42, 29, 4, 96, 46, 182, 0, 83, 87]
theorem wi_Law_704 : oC tLaw.2.1 704 wl_Law_704 = true := by decide +kernel
theorem dLaw_704 : dn tLaw 704 (.iaload) 1 705 := ⟨o_46 (oW (K := 704) (r := 0) wi_Law_704 (by decide +kernel)), rfl⟩
theorem dLaw_705 : dl tLaw 705 .aload_n .aload 0 706 := Or.inl ⟨0, o_42 (oW (K := 704) (r := 1) wi_Law_704 (by decide +kernel)), rfl, rfl⟩
theorem dLaw_706 : dl tLaw 706 .iload_n .iload 3 707 := Or.inl ⟨3, o_29 (oW (K := 704) (r := 2) wi_Law_704 (by decide +kernel)), rfl, rfl⟩
theorem dLaw_707 : dn tLaw 707 (.iconst 2) 1 708 := ⟨o_5 (oW (K := 704) (r := 3) wi_Law_704 (by decide +kernel)), rfl⟩
theorem dLaw_708 : dn tLaw 708 (.iadd) 1 709 := ⟨o_96 (oW (K := 704) (r := 4) wi_Law_704 (by decide +kernel)), rfl⟩
theorem dLaw_709 : dn tLaw 709 (.iaload) 1 710 := ⟨o_46 (oW (K := 704) (r := 5) wi_Law_704 (by decide +kernel)), rfl⟩
theorem dLaw_710 : dn tLaw 710 (.invokevirtual 79) 3 713 := ⟨o_182 0 79 79 (oWd (K := 704) (r := 6) wi_Law_704 (by decide +kernel)), rfl⟩
theorem dLaw_713 : dn tLaw 713 (.pop) 1 714 := ⟨o_87 (oW (K := 704) (r := 9) wi_Law_704 (by decide +kernel)), rfl⟩
theorem dLaw_714 : dl tLaw 714 .aload_n .aload 2 715 := Or.inl ⟨2, o_44 (oW (K := 704) (r := 10) wi_Law_704 (by decide +kernel)), rfl, rfl⟩
theorem dLaw_715 : dl tLaw 715 .aload_n .aload 0 716 := Or.inl ⟨0, o_42 (oW (K := 704) (r := 11) wi_Law_704 (by decide +kernel)), rfl, rfl⟩
theorem dLaw_716 : dl tLaw 716 .iload_n .iload 3 717 := Or.inl ⟨3, o_29 (oW (K := 704) (r := 12) wi_Law_704 (by decide +kernel)), rfl, rfl⟩
theorem dLaw_717 : dn tLaw 717 (.iconst 1) 1 718 := ⟨o_4 (oW (K := 704) (r := 13) wi_Law_704 (by decide +kernel)), rfl⟩
theorem dLaw_718 : dn tLaw 718 (.iadd) 1 719 := ⟨o_96 (oW (K := 704) (r := 14) wi_Law_704 (by decide +kernel)), rfl⟩
theorem dLaw_719 : dn tLaw 719 (.iaload) 1 720 := ⟨o_46 (oW (K := 704) (r := 15) wi_Law_704 (by decide +kernel)), rfl⟩
theorem dLaw_720 : dl tLaw 720 .aload_n .aload 0 721 := Or.inl ⟨0, o_42 (oW (K := 704) (r := 16) wi_Law_704 (by decide +kernel)), rfl, rfl⟩
theorem dLaw_721 : dl tLaw 721 .iload_n .iload 3 722 := Or.inl ⟨3, o_29 (oW (K := 704) (r := 17) wi_Law_704 (by decide +kernel)), rfl, rfl⟩
theorem dLaw_722 : dn tLaw 722 (.iconst 2) 1 723 := ⟨o_5 (oW (K := 704) (r := 18) wi_Law_704 (by decide +kernel)), rfl⟩
theorem dLaw_723 : dn tLaw 723 (.iadd) 1 724 := ⟨o_96 (oW (K := 704) (r := 19) wi_Law_704 (by decide +kernel)), rfl⟩
theorem dLaw_724 : dn tLaw 724 (.iaload) 1 725 := ⟨o_46 (oW (K := 704) (r := 20) wi_Law_704 (by decide +kernel)), rfl⟩
theorem dLaw_725 : dn tLaw 725 (.invokevirtual 82) 3 728 := ⟨o_182 0 82 82 (oWd (K := 704) (r := 21) wi_Law_704 (by decide +kernel)), rfl⟩
theorem dLaw_728 : dn tLaw 728 (.pop) 1 729 := ⟨o_87 (oW (K := 704) (r := 24) wi_Law_704 (by decide +kernel)), rfl⟩
theorem dLaw_729 : db tLaw 729 .goto 1387 732 := ⟨658, o_167 2 146 658 (oWd (K := 704) (r := 25) wi_Law_704 (by decide +kernel)), rfl, rfl⟩
theorem dLaw_732 : dl tLaw 732 .aload_n .aload 1 733 := Or.inl ⟨1, o_43 (oW (K := 704) (r := 28) wi_Law_704 (by decide +kernel)), rfl, rfl⟩
theorem dLaw_733 : dl tLaw 733 .aload_n .aload 0 734 := Or.inl ⟨0, o_42 (oW (K := 704) (r := 29) wi_Law_704 (by decide +kernel)), rfl, rfl⟩
theorem dLaw_734 : dl tLaw 734 .iload_n .iload 3 735 := Or.inl ⟨3, o_29 (oW (K := 704) (r := 30) wi_Law_704 (by decide +kernel)), rfl, rfl⟩
theorem dLaw_735 : dn tLaw 735 (.iconst 1) 1 736 := ⟨o_4 (oW (K := 704) (r := 31) wi_Law_704 (by decide +kernel)), rfl⟩
def wl_Law_736 : List Nat := [96, 46, 182, 0, 83, 87, 44, 42, 29, 4, 96, 46, 182, 0, 86, 87, 167, 2, 123, 43, 42, 29, 4, 96, 46, 42, 29, 5, 96, 46, 182, 0, 87, 87, 44, 42, 29, 4]
theorem wi_Law_736 : oC tLaw.2.1 736 wl_Law_736 = true := by decide +kernel
theorem dLaw_736 : dn tLaw 736 (.iadd) 1 737 := ⟨o_96 (oW (K := 736) (r := 0) wi_Law_736 (by decide +kernel)), rfl⟩
theorem dLaw_737 : dn tLaw 737 (.iaload) 1 738 := ⟨o_46 (oW (K := 736) (r := 1) wi_Law_736 (by decide +kernel)), rfl⟩
theorem dLaw_738 : dn tLaw 738 (.invokevirtual 83) 3 741 := ⟨o_182 0 83 83 (oWd (K := 736) (r := 2) wi_Law_736 (by decide +kernel)), rfl⟩
theorem dLaw_741 : dn tLaw 741 (.pop) 1 742 := ⟨o_87 (oW (K := 736) (r := 5) wi_Law_736 (by decide +kernel)), rfl⟩
theorem dLaw_742 : dl tLaw 742 .aload_n .aload 2 743 := Or.inl ⟨2, o_44 (oW (K := 736) (r := 6) wi_Law_736 (by decide +kernel)), rfl, rfl⟩
theorem dLaw_743 : dl tLaw 743 .aload_n .aload 0 744 := Or.inl ⟨0, o_42 (oW (K := 736) (r := 7) wi_Law_736 (by decide +kernel)), rfl, rfl⟩
theorem dLaw_744 : dl tLaw 744 .iload_n .iload 3 745 := Or.inl ⟨3, o_29 (oW (K := 736) (r := 8) wi_Law_736 (by decide +kernel)), rfl, rfl⟩
theorem dLaw_745 : dn tLaw 745 (.iconst 1) 1 746 := ⟨o_4 (oW (K := 736) (r := 9) wi_Law_736 (by decide +kernel)), rfl⟩
theorem dLaw_746 : dn tLaw 746 (.iadd) 1 747 := ⟨o_96 (oW (K := 736) (r := 10) wi_Law_736 (by decide +kernel)), rfl⟩
theorem dLaw_747 : dn tLaw 747 (.iaload) 1 748 := ⟨o_46 (oW (K := 736) (r := 11) wi_Law_736 (by decide +kernel)), rfl⟩
theorem dLaw_748 : dn tLaw 748 (.invokevirtual 86) 3 751 := ⟨o_182 0 86 86 (oWd (K := 736) (r := 12) wi_Law_736 (by decide +kernel)), rfl⟩
theorem dLaw_751 : dn tLaw 751 (.pop) 1 752 := ⟨o_87 (oW (K := 736) (r := 15) wi_Law_736 (by decide +kernel)), rfl⟩
theorem dLaw_752 : db tLaw 752 .goto 1387 755 := ⟨635, o_167 2 123 635 (oWd (K := 736) (r := 16) wi_Law_736 (by decide +kernel)), rfl, rfl⟩
theorem dLaw_755 : dl tLaw 755 .aload_n .aload 1 756 := Or.inl ⟨1, o_43 (oW (K := 736) (r := 19) wi_Law_736 (by decide +kernel)), rfl, rfl⟩
theorem dLaw_756 : dl tLaw 756 .aload_n .aload 0 757 := Or.inl ⟨0, o_42 (oW (K := 736) (r := 20) wi_Law_736 (by decide +kernel)), rfl, rfl⟩
theorem dLaw_757 : dl tLaw 757 .iload_n .iload 3 758 := Or.inl ⟨3, o_29 (oW (K := 736) (r := 21) wi_Law_736 (by decide +kernel)), rfl, rfl⟩
theorem dLaw_758 : dn tLaw 758 (.iconst 1) 1 759 := ⟨o_4 (oW (K := 736) (r := 22) wi_Law_736 (by decide +kernel)), rfl⟩
theorem dLaw_759 : dn tLaw 759 (.iadd) 1 760 := ⟨o_96 (oW (K := 736) (r := 23) wi_Law_736 (by decide +kernel)), rfl⟩
theorem dLaw_760 : dn tLaw 760 (.iaload) 1 761 := ⟨o_46 (oW (K := 736) (r := 24) wi_Law_736 (by decide +kernel)), rfl⟩
theorem dLaw_761 : dl tLaw 761 .aload_n .aload 0 762 := Or.inl ⟨0, o_42 (oW (K := 736) (r := 25) wi_Law_736 (by decide +kernel)), rfl, rfl⟩
theorem dLaw_762 : dl tLaw 762 .iload_n .iload 3 763 := Or.inl ⟨3, o_29 (oW (K := 736) (r := 26) wi_Law_736 (by decide +kernel)), rfl, rfl⟩
theorem dLaw_763 : dn tLaw 763 (.iconst 2) 1 764 := ⟨o_5 (oW (K := 736) (r := 27) wi_Law_736 (by decide +kernel)), rfl⟩
theorem dLaw_764 : dn tLaw 764 (.iadd) 1 765 := ⟨o_96 (oW (K := 736) (r := 28) wi_Law_736 (by decide +kernel)), rfl⟩
theorem dLaw_765 : dn tLaw 765 (.iaload) 1 766 := ⟨o_46 (oW (K := 736) (r := 29) wi_Law_736 (by decide +kernel)), rfl⟩
theorem dLaw_766 : dn tLaw 766 (.invokevirtual 87) 3 769 := ⟨o_182 0 87 87 (oWd (K := 736) (r := 30) wi_Law_736 (by decide +kernel)), rfl⟩
def wl_Law_768 : List Nat := [87, 87, 44, 42, 29, 4, 96, 46, 42, 29, 5, 96, 46, 182, 0, 90, 87, 167, 2, 90, 43, 42, 29, 4, 96, 46, 182, 0, 91, 87, 44, 42, 29, 4, 96, 46, 182, 0]
theorem wi_Law_768 : oC tLaw.2.1 768 wl_Law_768 = true := by decide +kernel
theorem dLaw_769 : dn tLaw 769 (.pop) 1 770 := ⟨o_87 (oW (K := 768) (r := 1) wi_Law_768 (by decide +kernel)), rfl⟩
theorem dLaw_770 : dl tLaw 770 .aload_n .aload 2 771 := Or.inl ⟨2, o_44 (oW (K := 768) (r := 2) wi_Law_768 (by decide +kernel)), rfl, rfl⟩
theorem dLaw_771 : dl tLaw 771 .aload_n .aload 0 772 := Or.inl ⟨0, o_42 (oW (K := 768) (r := 3) wi_Law_768 (by decide +kernel)), rfl, rfl⟩
theorem dLaw_772 : dl tLaw 772 .iload_n .iload 3 773 := Or.inl ⟨3, o_29 (oW (K := 768) (r := 4) wi_Law_768 (by decide +kernel)), rfl, rfl⟩
theorem dLaw_773 : dn tLaw 773 (.iconst 1) 1 774 := ⟨o_4 (oW (K := 768) (r := 5) wi_Law_768 (by decide +kernel)), rfl⟩
theorem dLaw_774 : dn tLaw 774 (.iadd) 1 775 := ⟨o_96 (oW (K := 768) (r := 6) wi_Law_768 (by decide +kernel)), rfl⟩
theorem dLaw_775 : dn tLaw 775 (.iaload) 1 776 := ⟨o_46 (oW (K := 768) (r := 7) wi_Law_768 (by decide +kernel)), rfl⟩
theorem dLaw_776 : dl tLaw 776 .aload_n .aload 0 777 := Or.inl ⟨0, o_42 (oW (K := 768) (r := 8) wi_Law_768 (by decide +kernel)), rfl, rfl⟩
theorem dLaw_777 : dl tLaw 777 .iload_n .iload 3 778 := Or.inl ⟨3, o_29 (oW (K := 768) (r := 9) wi_Law_768 (by decide +kernel)), rfl, rfl⟩
theorem dLaw_778 : dn tLaw 778 (.iconst 2) 1 779 := ⟨o_5 (oW (K := 768) (r := 10) wi_Law_768 (by decide +kernel)), rfl⟩
theorem dLaw_779 : dn tLaw 779 (.iadd) 1 780 := ⟨o_96 (oW (K := 768) (r := 11) wi_Law_768 (by decide +kernel)), rfl⟩
theorem dLaw_780 : dn tLaw 780 (.iaload) 1 781 := ⟨o_46 (oW (K := 768) (r := 12) wi_Law_768 (by decide +kernel)), rfl⟩
theorem dLaw_781 : dn tLaw 781 (.invokevirtual 90) 3 784 := ⟨o_182 0 90 90 (oWd (K := 768) (r := 13) wi_Law_768 (by decide +kernel)), rfl⟩
theorem dLaw_784 : dn tLaw 784 (.pop) 1 785 := ⟨o_87 (oW (K := 768) (r := 16) wi_Law_768 (by decide +kernel)), rfl⟩
theorem dLaw_785 : db tLaw 785 .goto 1387 788 := ⟨602, o_167 2 90 602 (oWd (K := 768) (r := 17) wi_Law_768 (by decide +kernel)), rfl, rfl⟩
theorem dLaw_788 : dl tLaw 788 .aload_n .aload 1 789 := Or.inl ⟨1, o_43 (oW (K := 768) (r := 20) wi_Law_768 (by decide +kernel)), rfl, rfl⟩
theorem dLaw_789 : dl tLaw 789 .aload_n .aload 0 790 := Or.inl ⟨0, o_42 (oW (K := 768) (r := 21) wi_Law_768 (by decide +kernel)), rfl, rfl⟩

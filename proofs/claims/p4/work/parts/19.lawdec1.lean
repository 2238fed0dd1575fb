theorem bdL_law_0 : (decode cL_law 0 = .ok (.new 7, 3)) ∧ (decode cL_law 3 = .ok (.dup, 1)) ∧ (decode cL_law 4 = .ok (.invokespecial 9, 3)) ∧ (decode cL_law 7 = .ok (.astore_n 1, 1)) ∧ (decode cL_law 8 = .ok (.new 10, 3)) ∧ (decode cL_law 11 = .ok (.dup, 1)) ∧ (decode cL_law 12 = .ok (.invokespecial 12, 3)) ∧ (decode cL_law 15 = .ok (.astore_n 2, 1)) ∧ (decode cL_law 16 = .ok (.iconst 0, 1)) ∧ (decode cL_law 17 = .ok (.istore_n 3, 1)) ∧ (decode cL_law 18 = .ok (.iload_n 3, 1)) ∧ (decode cL_law 19 = .ok (.aload_n 0, 1)) ∧ (decode cL_law 20 = .ok (.arraylength, 1)) ∧ (decode cL_law 21 = .ok (.bipush 6, 2)) ∧ (decode cL_law 23 = .ok (.isub, 1)) ∧ (decode cL_law 24 = .ok (.if_icmp .gt 1407, 3)) ∧ (decode cL_law 27 = .ok (.aload_n 0, 1)) ∧ (decode cL_law 28 = .ok (.iload_n 3, 1)) ∧ (decode cL_law 29 = .ok (.iaload, 1)) ∧ (decode cL_law 30 = .ok (.bipush 63, 2)) ∧ (decode cL_law 32 = .ok (.iand, 1)) ∧ (decode cL_law 33 = .ok (.tableswitch 1392 0 40 #[179, 242, 275, 308, 341, 374, 417, 440, 463, 486, 509, 542, 565, 588, 621, 664, 677, 710, 723, 756, 789, 802, 825, 868, 891, 904, 937, 960, 1003, 1046, 1069, 1092, 1155, 1198, 1231, 1264, 1297, 1320, 1343, 1356, 1369], 179)) ∧ (decode cL_law 212 = .ok (.aload_n 1, 1)) ∧ (decode cL_law 213 = .ok (.aload_n 0, 1)) ∧ (decode cL_law 214 = .ok (.iload_n 3, 1)) ∧ (decode cL_law 215 = .ok (.iconst 1, 1)) ∧ (decode cL_law 216 = .ok (.iadd, 1)) ∧ (decode cL_law 217 = .ok (.iaload, 1)) ∧ (decode cL_law 218 = .ok (.aload_n 0, 1)) ∧ (decode cL_law 219 = .ok (.iload_n 3, 1)) ∧ (decode cL_law 220 = .ok (.iconst 2, 1)) ∧ (decode cL_law 221 = .ok (.iadd, 1)) ∧ (decode cL_law 222 = .ok (.iaload, 1)) ∧ (decode cL_law 223 = .ok (.aload_n 0, 1)) ∧ (decode cL_law 224 = .ok (.iload_n 3, 1)) ∧ (decode cL_law 225 = .ok (.iconst 3, 1)) ∧ (decode cL_law 226 = .ok (.iadd, 1)) ∧ (decode cL_law 227 = .ok (.iaload, 1)) ∧ (decode cL_law 228 = .ok (.aload_n 0, 1)) ∧ (decode cL_law 229 = .ok (.iload_n 3, 1)) := by decide +kernel
theorem dL_law_0 : decode cL_law 0 = .ok (.new 7, 3) := bdL_law_0.1
theorem dL_law_3 : decode cL_law 3 = .ok (.dup, 1) := bdL_law_0.2.1
theorem dL_law_4 : decode cL_law 4 = .ok (.invokespecial 9, 3) := bdL_law_0.2.2.1
theorem dL_law_7 : decode cL_law 7 = .ok (.astore_n 1, 1) := bdL_law_0.2.2.2.1
theorem dL_law_8 : decode cL_law 8 = .ok (.new 10, 3) := bdL_law_0.2.2.2.2.1
theorem dL_law_11 : decode cL_law 11 = .ok (.dup, 1) := bdL_law_0.2.2.2.2.2.1
theorem dL_law_12 : decode cL_law 12 = .ok (.invokespecial 12, 3) := bdL_law_0.2.2.2.2.2.2.1
theorem dL_law_15 : decode cL_law 15 = .ok (.astore_n 2, 1) := bdL_law_0.2.2.2.2.2.2.2.1
theorem dL_law_16 : decode cL_law 16 = .ok (.iconst 0, 1) := bdL_law_0.2.2.2.2.2.2.2.2.1
theorem dL_law_17 : decode cL_law 17 = .ok (.istore_n 3, 1) := bdL_law_0.2.2.2.2.2.2.2.2.2.1
theorem dL_law_18 : decode cL_law 18 = .ok (.iload_n 3, 1) := bdL_law_0.2.2.2.2.2.2.2.2.2.2.1
theorem dL_law_19 : decode cL_law 19 = .ok (.aload_n 0, 1) := bdL_law_0.2.2.2.2.2.2.2.2.2.2.2.1
theorem dL_law_20 : decode cL_law 20 = .ok (.arraylength, 1) := bdL_law_0.2.2.2.2.2.2.2.2.2.2.2.2.1
theorem dL_law_21 : decode cL_law 21 = .ok (.bipush 6, 2) := bdL_law_0.2.2.2.2.2.2.2.2.2.2.2.2.2.1
theorem dL_law_23 : decode cL_law 23 = .ok (.isub, 1) := bdL_law_0.2.2.2.2.2.2.2.2.2.2.2.2.2.2.1
theorem dL_law_24 : decode cL_law 24 = .ok (.if_icmp .gt 1407, 3) := bdL_law_0.2.2.2.2.2.2.2.2.2.2.2.2.2.2.2.1
theorem dL_law_27 : decode cL_law 27 = .ok (.aload_n 0, 1) := bdL_law_0.2.2.2.2.2.2.2.2.2.2.2.2.2.2.2.2.1
theorem dL_law_28 : decode cL_law 28 = .ok (.iload_n 3, 1) := bdL_law_0.2.2.2.2.2.2.2.2.2.2.2.2.2.2.2.2.2.1
theorem dL_law_29 : decode cL_law 29 = .ok (.iaload, 1) := bdL_law_0.2.2.2.2.2.2.2.2.2.2.2.2.2.2.2.2.2.2.1
theorem dL_law_30 : decode cL_law 30 = .ok (.bipush 63, 2) := bdL_law_0.2.2.2.2.2.2.2.2.2.2.2.2.2.2.2.2.2.2.2.1
theorem dL_law_32 : decode cL_law 32 = .ok (.iand, 1) := bdL_law_0.2.2.2.2.2.2.2.2.2.2.2.2.2.2.2.2.2.2.2.2.1
theorem dL_law_33 : decode cL_law 33 = .ok (.tableswitch 1392 0 40 #[179, 242, 275, 308, 341, 374, 417, 440, 463, 486, 509, 542, 565, 588, 621, 664, 677, 710, 723, 756, 789, 802, 825, 868, 891, 904, 937, 960, 1003, 1046, 1069, 1092, 1155, 1198, 1231, 1264, 1297, 1320, 1343, 1356, 1369], 179) := bdL_law_0.2.2.2.2.2.2.2.2.2.2.2.2.2.2.2.2.2.2.2.2.2.1
theorem dL_law_212 : decode cL_law 212 = .ok (.aload_n 1, 1) := bdL_law_0.2.2.2.2.2.2.2.2.2.2.2.2.2.2.2.2.2.2.2.2.2.2.1
theorem dL_law_213 : decode cL_law 213 = .ok (.aload_n 0, 1) := bdL_law_0.2.2.2.2.2.2.2.2.2.2.2.2.2.2.2.2.2.2.2.2.2.2.2.1
theorem dL_law_214 : decode cL_law 214 = .ok (.iload_n 3, 1) := bdL_law_0.2.2.2.2.2.2.2.2.2.2.2.2.2.2.2.2.2.2.2.2.2.2.2.2.1
theorem dL_law_215 : decode cL_law 215 = .ok (.iconst 1, 1) := bdL_law_0.2.2.2.2.2.2.2.2.2.2.2.2.2.2.2.2.2.2.2.2.2.2.2.2.2.1
theorem dL_law_216 : decode cL_law 216 = .ok (.iadd, 1) := bdL_law_0.2.2.2.2.2.2.2.2.2.2.2.2.2.2.2.2.2.2.2.2.2.2.2.2.2.2.1
theorem dL_law_217 : decode cL_law 217 = .ok (.iaload, 1) := bdL_law_0.2.2.2.2.2.2.2.2.2.2.2.2.2.2.2.2.2.2.2.2.2.2.2.2.2.2.2.1
theorem dL_law_218 : decode cL_law 218 = .ok (.aload_n 0, 1) := bdL_law_0.2.2.2.2.2.2.2.2.2.2.2.2.2.2.2.2.2.2.2.2.2.2.2.2.2.2.2.2.1
theorem dL_law_219 : decode cL_law 219 = .ok (.iload_n 3, 1) := bdL_law_0.2.2.2.2.2.2.2.2.2.2.2.2.2.2.2.2.2.2.2.2.2.2.2.2.2.2.2.2.2.1
theorem dL_law_220 : decode cL_law 220 = .ok (.iconst 2, 1) := bdL_law_0.2.2.2.2.2.2.2.2.2.2.2.2.2.2.2.2.2.2.2.2.2.2.2.2.2.2.2.2.2.2.1
theorem dL_law_221 : decode cL_law 221 = .ok (.iadd, 1) := bdL_law_0.2.2.2.2.2.2.2.2.2.2.2.2.2.2.2.2.2.2.2.2.2.2.2.2.2.2.2.2.2.2.2.1
theorem dL_law_222 : decode cL_law 222 = .ok (.iaload, 1) := bdL_law_0.2.2.2.2.2.2.2.2.2.2.2.2.2.2.2.2.2.2.2.2.2.2.2.2.2.2.2.2.2.2.2.2.1
theorem dL_law_223 : decode cL_law 223 = .ok (.aload_n 0, 1) := bdL_law_0.2.2.2.2.2.2.2.2.2.2.2.2.2.2.2.2.2.2.2.2.2.2.2.2.2.2.2.2.2.2.2.2.2.1
theorem dL_law_224 : decode cL_law 224 = .ok (.iload_n 3, 1) := bdL_law_0.2.2.2.2.2.2.2.2.2.2.2.2.2.2.2.2.2.2.2.2.2.2.2.2.2.2.2.2.2.2.2.2.2.2.1
theorem dL_law_225 : decode cL_law 225 = .ok (.iconst 3, 1) := bdL_law_0.2.2.2.2.2.2.2.2.2.2.2.2.2.2.2.2.2.2.2.2.2.2.2.2.2.2.2.2.2.2.2.2.2.2.2.1
theorem dL_law_226 : decode cL_law 226 = .ok (.iadd, 1) := bdL_law_0.2.2.2.2.2.2.2.2.2.2.2.2.2.2.2.2.2.2.2.2.2.2.2.2.2.2.2.2.2.2.2.2.2.2.2.2.1
theorem dL_law_227 : decode cL_law 227 = .ok (.iaload, 1) := bdL_law_0.2.2.2.2.2.2.2.2.2.2.2.2.2.2.2.2.2.2.2.2.2.2.2.2.2.2.2.2.2.2.2.2.2.2.2.2.2.1
theorem dL_law_228 : decode cL_law 228 = .ok (.aload_n 0, 1) := bdL_law_0.2.2.2.2.2.2.2.2.2.2.2.2.2.2.2.2.2.2.2.2.2.2.2.2.2.2.2.2.2.2.2.2.2.2.2.2.2.2.1
theorem dL_law_229 : decode cL_law 229 = .ok (.iload_n 3, 1) := bdL_law_0.2.2.2.2.2.2.2.2.2.2.2.2.2.2.2.2.2.2.2.2.2.2.2.2.2.2.2.2.2.2.2.2.2.2.2.2.2.2.2
theorem bdL_law_230 : (decode cL_law 230 = .ok (.iconst 4, 1)) ∧ (decode cL_law 231 = .ok (.iadd, 1)) ∧ (decode cL_law 232 = .ok (.iaload, 1)) ∧ (decode cL_law 233 = .ok (.aload_n 0, 1)) ∧ (decode cL_law 234 = .ok (.iload_n 3, 1)) ∧ (decode cL_law 235 = .ok (.iconst 5, 1)) ∧ (decode cL_law 236 = .ok (.iadd, 1)) ∧ (decode cL_law 237 = .ok (.iaload, 1)) ∧ (decode cL_law 238 = .ok (.invokevirtual 13, 3)) ∧ (decode cL_law 241 = .ok (.pop, 1)) ∧ (decode cL_law 242 = .ok (.aload_n 2, 1)) ∧ (decode cL_law 243 = .ok (.aload_n 0, 1)) ∧ (decode cL_law 244 = .ok (.iload_n 3, 1)) ∧ (decode cL_law 245 = .ok (.iconst 1, 1)) ∧ (decode cL_law 246 = .ok (.iadd, 1)) ∧ (decode cL_law 247 = .ok (.iaload, 1)) ∧ (decode cL_law 248 = .ok (.aload_n 0, 1)) ∧ (decode cL_law 249 = .ok (.iload_n 3, 1)) ∧ (decode cL_law 250 = .ok (.iconst 2, 1)) ∧ (decode cL_law 251 = .ok (.iadd, 1)) ∧ (decode cL_law 252 = .ok (.iaload, 1)) ∧ (decode cL_law 253 = .ok (.aload_n 0, 1)) ∧ (decode cL_law 254 = .ok (.iload_n 3, 1)) ∧ (decode cL_law 255 = .ok (.iconst 3, 1)) ∧ (decode cL_law 256 = .ok (.iadd, 1)) ∧ (decode cL_law 257 = .ok (.iaload, 1)) ∧ (decode cL_law 258 = .ok (.aload_n 0, 1)) ∧ (decode cL_law 259 = .ok (.iload_n 3, 1)) ∧ (decode cL_law 260 = .ok (.iconst 4, 1)) ∧ (decode cL_law 261 = .ok (.iadd, 1)) ∧ (decode cL_law 262 = .ok (.iaload, 1)) ∧ (decode cL_law 263 = .ok (.aload_n 0, 1)) ∧ (decode cL_law 264 = .ok (.iload_n 3, 1)) ∧ (decode cL_law 265 = .ok (.iconst 5, 1)) ∧ (decode cL_law 266 = .ok (.iadd, 1)) ∧ (decode cL_law 267 = .ok (.iaload, 1)) ∧ (decode cL_law 268 = .ok (.invokevirtual 17, 3)) ∧ (decode cL_law 271 = .ok (.pop, 1)) ∧ (decode cL_law 272 = .ok (.goto 1153, 3)) ∧ (decode cL_law 275 = .ok (.aload_n 1, 1)) := by decide +kernel
theorem dL_law_230 : decode cL_law 230 = .ok (.iconst 4, 1) := bdL_law_230.1
theorem dL_law_231 : decode cL_law 231 = .ok (.iadd, 1) := bdL_law_230.2.1
theorem dL_law_232 : decode cL_law 232 = .ok (.iaload, 1) := bdL_law_230.2.2.1
theorem dL_law_233 : decode cL_law 233 = .ok (.aload_n 0, 1) := bdL_law_230.2.2.2.1
theorem dL_law_234 : decode cL_law 234 = .ok (.iload_n 3, 1) := bdL_law_230.2.2.2.2.1
theorem dL_law_235 : decode cL_law 235 = .ok (.iconst 5, 1) := bdL_law_230.2.2.2.2.2.1
theorem dL_law_236 : decode cL_law 236 = .ok (.iadd, 1) := bdL_law_230.2.2.2.2.2.2.1
theorem dL_law_237 : decode cL_law 237 = .ok (.iaload, 1) := bdL_law_230.2.2.2.2.2.2.2.1
theorem dL_law_238 : decode cL_law 238 = .ok (.invokevirtual 13, 3) := bdL_law_230.2.2.2.2.2.2.2.2.1
theorem dL_law_241 : decode cL_law 241 = .ok (.pop, 1) := bdL_law_230.2.2.2.2.2.2.2.2.2.1
theorem dL_law_242 : decode cL_law 242 = .ok (.aload_n 2, 1) := bdL_law_230.2.2.2.2.2.2.2.2.2.2.1
theorem dL_law_243 : decode cL_law 243 = .ok (.aload_n 0, 1) := bdL_law_230.2.2.2.2.2.2.2.2.2.2.2.1
theorem dL_law_244 : decode cL_law 244 = .ok (.iload_n 3, 1) := bdL_law_230.2.2.2.2.2.2.2.2.2.2.2.2.1
theorem dL_law_245 : decode cL_law 245 = .ok (.iconst 1, 1) := bdL_law_230.2.2.2.2.2.2.2.2.2.2.2.2.2.1
theorem dL_law_246 : decode cL_law 246 = .ok (.iadd, 1) := bdL_law_230.2.2.2.2.2.2.2.2.2.2.2.2.2.2.1
theorem dL_law_247 : decode cL_law 247 = .ok (.iaload, 1) := bdL_law_230.2.2.2.2.2.2.2.2.2.2.2.2.2.2.2.1
theorem dL_law_248 : decode cL_law 248 = .ok (.aload_n 0, 1) := bdL_law_230.2.2.2.2.2.2.2.2.2.2.2.2.2.2.2.2.1
theorem dL_law_249 : decode cL_law 249 = .ok (.iload_n 3, 1) := bdL_law_230.2.2.2.2.2.2.2.2.2.2.2.2.2.2.2.2.2.1
theorem dL_law_250 : decode cL_law 250 = .ok (.iconst 2, 1) := bdL_law_230.2.2.2.2.2.2.2.2.2.2.2.2.2.2.2.2.2.2.1
theorem dL_law_251 : decode cL_law 251 = .ok (.iadd, 1) := bdL_law_230.2.2.2.2.2.2.2.2.2.2.2.2.2.2.2.2.2.2.2.1
theorem dL_law_252 : decode cL_law 252 = .ok (.iaload, 1) := bdL_law_230.2.2.2.2.2.2.2.2.2.2.2.2.2.2.2.2.2.2.2.2.1
theorem dL_law_253 : decode cL_law 253 = .ok (.aload_n 0, 1) := bdL_law_230.2.2.2.2.2.2.2.2.2.2.2.2.2.2.2.2.2.2.2.2.2.1
theorem dL_law_254 : decode cL_law 254 = .ok (.iload_n 3, 1) := bdL_law_230.2.2.2.2.2.2.2.2.2.2.2.2.2.2.2.2.2.2.2.2.2.2.1
theorem dL_law_255 : decode cL_law 255 = .ok (.iconst 3, 1) := bdL_law_230.2.2.2.2.2.2.2.2.2.2.2.2.2.2.2.2.2.2.2.2.2.2.2.1
theorem dL_law_256 : decode cL_law 256 = .ok (.iadd, 1) := bdL_law_230.2.2.2.2.2.2.2.2.2.2.2.2.2.2.2.2.2.2.2.2.2.2.2.2.1
theorem dL_law_257 : decode cL_law 257 = .ok (.iaload, 1) := bdL_law_230.2.2.2.2.2.2.2.2.2.2.2.2.2.2.2.2.2.2.2.2.2.2.2.2.2.1
theorem dL_law_258 : decode cL_law 258 = .ok (.aload_n 0, 1) := bdL_law_230.2.2.2.2.2.2.2.2.2.2.2.2.2.2.2.2.2.2.2.2.2.2.2.2.2.2.1
theorem dL_law_259 : decode cL_law 259 = .ok (.iload_n 3, 1) := bdL_law_230.2.2.2.2.2.2.2.2.2.2.2.2.2.2.2.2.2.2.2.2.2.2.2.2.2.2.2.1
theorem dL_law_260 : decode cL_law 260 = .ok (.iconst 4, 1) := bdL_law_230.2.2.2.2.2.2.2.2.2.2.2.2.2.2.2.2.2.2.2.2.2.2.2.2.2.2.2.2.1
theorem dL_law_261 : decode cL_law 261 = .ok (.iadd, 1) := bdL_law_230.2.2.2.2.2.2.2.2.2.2.2.2.2.2.2.2.2.2.2.2.2.2.2.2.2.2.2.2.2.1
theorem dL_law_262 : decode cL_law 262 = .ok (.iaload, 1) := bdL_law_230.2.2.2.2.2.2.2.2.2.2.2.2.2.2.2.2.2.2.2.2.2.2.2.2.2.2.2.2.2.2.1
theorem dL_law_263 : decode cL_law 263 = .ok (.aload_n 0, 1) := bdL_law_230.2.2.2.2.2.2.2.2.2.2.2.2.2.2.2.2.2.2.2.2.2.2.2.2.2.2.2.2.2.2.2.1
theorem dL_law_264 : decode cL_law 264 = .ok (.iload_n 3, 1) := bdL_law_230.2.2.2.2.2.2.2.2.2.2.2.2.2.2.2.2.2.2.2.2.2.2.2.2.2.2.2.2.2.2.2.2.1
theorem dL_law_265 : decode cL_law 265 = .ok (.iconst 5, 1) := bdL_law_230.2.2.2.2.2.2.2.2.2.2.2.2.2.2.2.2.2.2.2.2.2.2.2.2.2.2.2.2.2.2.2.2.2.1
theorem dL_law_266 : decode cL_law 266 = .ok (.iadd, 1) := bdL_law_230.2.2.2.2.2.2.2.2.2.2.2.2.2.2.2.2.2.2.2.2.2.2.2.2.2.2.2.2.2.2.2.2.2.2.1
theorem dL_law_267 : decode cL_law 267 = .ok (.iaload, 1) := bdL_law_230.2.2.2.2.2.2.2.2.2.2.2.2.2.2.2.2.2.2.2.2.2.2.2.2.2.2.2.2.2.2.2.2.2.2.2.1
theorem dL_law_268 : decode cL_law 268 = .ok (.invokevirtual 17, 3) := bdL_law_230.2.2.2.2.2.2.2.2.2.2.2.2.2.2.2.2.2.2.2.2.2.2.2.2.2.2.2.2.2.2.2.2.2.2.2.2.1
theorem dL_law_271 : decode cL_law 271 = .ok (.pop, 1) := bdL_law_230.2.2.2.2.2.2.2.2.2.2.2.2.2.2.2.2.2.2.2.2.2.2.2.2.2.2.2.2.2.2.2.2.2.2.2.2.2.1
theorem dL_law_272 : decode cL_law 272 = .ok (.goto 1153, 3) := bdL_law_230.2.2.2.2.2.2.2.2.2.2.2.2.2.2.2.2.2.2.2.2.2.2.2.2.2.2.2.2.2.2.2.2.2.2.2.2.2.2.1
theorem dL_law_275 : decode cL_law 275 = .ok (.aload_n 1, 1) := bdL_law_230.2.2.2.2.2.2.2.2.2.2.2.2.2.2.2.2.2.2.2.2.2.2.2.2.2.2.2.2.2.2.2.2.2.2.2.2.2.2.2
theorem bdL_law_276 : (decode cL_law 276 = .ok (.aload_n 0, 1)) ∧ (decode cL_law 277 = .ok (.iload_n 3, 1)) ∧ (decode cL_law 278 = .ok (.iconst 1, 1)) ∧ (decode cL_law 279 = .ok (.iadd, 1)) ∧ (decode cL_law 280 = .ok (.iaload, 1)) ∧ (decode cL_law 281 = .ok (.aload_n 0, 1)) ∧ (decode cL_law 282 = .ok (.iload_n 3, 1)) ∧ (decode cL_law 283 = .ok (.iconst 2, 1)) ∧ (decode cL_law 284 = .ok (.iadd, 1)) ∧ (decode cL_law 285 = .ok (.iaload, 1)) ∧ (decode cL_law 286 = .ok (.invokevirtual 18, 3)) ∧ (decode cL_law 289 = .ok (.pop, 1)) ∧ (decode cL_law 290 = .ok (.aload_n 2, 1)) ∧ (decode cL_law 291 = .ok (.aload_n 0, 1)) ∧ (decode cL_law 292 = .ok (.iload_n 3, 1)) ∧ (decode cL_law 293 = .ok (.iconst 1, 1)) ∧ (decode cL_law 294 = .ok (.iadd, 1)) ∧ (decode cL_law 295 = .ok (.iaload, 1)) ∧ (decode cL_law 296 = .ok (.aload_n 0, 1)) ∧ (decode cL_law 297 = .ok (.iload_n 3, 1)) ∧ (decode cL_law 298 = .ok (.iconst 2, 1)) ∧ (decode cL_law 299 = .ok (.iadd, 1)) ∧ (decode cL_law 300 = .ok (.iaload, 1)) ∧ (decode cL_law 301 = .ok (.invokevirtual 22, 3)) ∧ (decode cL_law 304 = .ok (.pop, 1)) ∧ (decode cL_law 305 = .ok (.goto 1120, 3)) ∧ (decode cL_law 308 = .ok (.aload_n 1, 1)) ∧ (decode cL_law 309 = .ok (.aload_n 0, 1)) ∧ (decode cL_law 310 = .ok (.iload_n 3, 1)) ∧ (decode cL_law 311 = .ok (.iconst 1, 1)) ∧ (decode cL_law 312 = .ok (.iadd, 1)) ∧ (decode cL_law 313 = .ok (.iaload, 1)) ∧ (decode cL_law 314 = .ok (.aload_n 0, 1)) ∧ (decode cL_law 315 = .ok (.iload_n 3, 1)) ∧ (decode cL_law 316 = .ok (.iconst 2, 1)) ∧ (decode cL_law 317 = .ok (.iadd, 1)) ∧ (decode cL_law 318 = .ok (.iaload, 1)) ∧ (decode cL_law 319 = .ok (.invokevirtual 23, 3)) ∧ (decode cL_law 322 = .ok (.aload_n 2, 1)) ∧ (decode cL_law 323 = .ok (.aload_n 0, 1)) := by decide +kernel
theorem dL_law_276 : decode cL_law 276 = .ok (.aload_n 0, 1) := bdL_law_276.1
theorem dL_law_277 : decode cL_law 277 = .ok (.iload_n 3, 1) := bdL_law_276.2.1
theorem dL_law_278 : decode cL_law 278 = .ok (.iconst 1, 1) := bdL_law_276.2.2.1
theorem dL_law_279 : decode cL_law 279 = .ok (.iadd, 1) := bdL_law_276.2.2.2.1
theorem dL_law_280 : decode cL_law 280 = .ok (.iaload, 1) := bdL_law_276.2.2.2.2.1
theorem dL_law_281 : decode cL_law 281 = .ok (.aload_n 0, 1) := bdL_law_276.2.2.2.2.2.1
theorem dL_law_282 : decode cL_law 282 = .ok (.iload_n 3, 1) := bdL_law_276.2.2.2.2.2.2.1
theorem dL_law_283 : decode cL_law 283 = .ok (.iconst 2, 1) := bdL_law_276.2.2.2.2.2.2.2.1
theorem dL_law_284 : decode cL_law 284 = .ok (.iadd, 1) := bdL_law_276.2.2.2.2.2.2.2.2.1
theorem dL_law_285 : decode cL_law 285 = .ok (.iaload, 1) := bdL_law_276.2.2.2.2.2.2.2.2.2.1
theorem dL_law_286 : decode cL_law 286 = .ok (.invokevirtual 18, 3) := bdL_law_276.2.2.2.2.2.2.2.2.2.2.1
theorem dL_law_289 : decode cL_law 289 = .ok (.pop, 1) := bdL_law_276.2.2.2.2.2.2.2.2.2.2.2.1
theorem dL_law_290 : decode cL_law 290 = .ok (.aload_n 2, 1) := bdL_law_276.2.2.2.2.2.2.2.2.2.2.2.2.1
theorem dL_law_291 : decode cL_law 291 = .ok (.aload_n 0, 1) := bdL_law_276.2.2.2.2.2.2.2.2.2.2.2.2.2.1
theorem dL_law_292 : decode cL_law 292 = .ok (.iload_n 3, 1) := bdL_law_276.2.2.2.2.2.2.2.2.2.2.2.2.2.2.1
theorem dL_law_293 : decode cL_law 293 = .ok (.iconst 1, 1) := bdL_law_276.2.2.2.2.2.2.2.2.2.2.2.2.2.2.2.1
theorem dL_law_294 : decode cL_law 294 = .ok (.iadd, 1) := bdL_law_276.2.2.2.2.2.2.2.2.2.2.2.2.2.2.2.2.1
theorem dL_law_295 : decode cL_law 295 = .ok (.iaload, 1) := bdL_law_276.2.2.2.2.2.2.2.2.2.2.2.2.2.2.2.2.2.1
theorem dL_law_296 : decode cL_law 296 = .ok (.aload_n 0, 1) := bdL_law_276.2.2.2.2.2.2.2.2.2.2.2.2.2.2.2.2.2.2.1
theorem dL_law_297 : decode cL_law 297 = .ok (.iload_n 3, 1) := bdL_law_276.2.2.2.2.2.2.2.2.2.2.2.2.2.2.2.2.2.2.2.1
theorem dL_law_298 : decode cL_law 298 = .ok (.iconst 2, 1) := bdL_law_276.2.2.2.2.2.2.2.2.2.2.2.2.2.2.2.2.2.2.2.2.1
theorem dL_law_299 : decode cL_law 299 = .ok (.iadd, 1) := bdL_law_276.2.2.2.2.2.2.2.2.2.2.2.2.2.2.2.2.2.2.2.2.2.1
theorem dL_law_300 : decode cL_law 300 = .ok (.iaload, 1) := bdL_law_276.2.2.2.2.2.2.2.2.2.2.2.2.2.2.2.2.2.2.2.2.2.2.1
theorem dL_law_301 : decode cL_law 301 = .ok (.invokevirtual 22, 3) := bdL_law_276.2.2.2.2.2.2.2.2.2.2.2.2.2.2.2.2.2.2.2.2.2.2.2.1
theorem dL_law_304 : decode cL_law 304 = .ok (.pop, 1) := bdL_law_276.2.2.2.2.2.2.2.2.2.2.2.2.2.2.2.2.2.2.2.2.2.2.2.2.1
theorem dL_law_305 : decode cL_law 305 = .ok (.goto 1120, 3) := bdL_law_276.2.2.2.2.2.2.2.2.2.2.2.2.2.2.2.2.2.2.2.2.2.2.2.2.2.1
theorem dL_law_308 : decode cL_law 308 = .ok (.aload_n 1, 1) := bdL_law_276.2.2.2.2.2.2.2.2.2.2.2.2.2.2.2.2.2.2.2.2.2.2.2.2.2.2.1
theorem dL_law_309 : decode cL_law 309 = .ok (.aload_n 0, 1) := bdL_law_276.2.2.2.2.2.2.2.2.2.2.2.2.2.2.2.2.2.2.2.2.2.2.2.2.2.2.2.1
theorem dL_law_310 : decode cL_law 310 = .ok (.iload_n 3, 1) := bdL_law_276.2.2.2.2.2.2.2.2.2.2.2.2.2.2.2.2.2.2.2.2.2.2.2.2.2.2.2.2.1
theorem dL_law_311 : decode cL_law 311 = .ok (.iconst 1, 1) := bdL_law_276.2.2.2.2.2.2.2.2.2.2.2.2.2.2.2.2.2.2.2.2.2.2.2.2.2.2.2.2.2.1
theorem dL_law_312 : decode cL_law 312 = .ok (.iadd, 1) := bdL_law_276.2.2.2.2.2.2.2.2.2.2.2.2.2.2.2.2.2.2.2.2.2.2.2.2.2.2.2.2.2.2.1
theorem dL_law_313 : decode cL_law 313 = .ok (.iaload, 1) := bdL_law_276.2.2.2.2.2.2.2.2.2.2.2.2.2.2.2.2.2.2.2.2.2.2.2.2.2.2.2.2.2.2.2.1
theorem dL_law_314 : decode cL_law 314 = .ok (.aload_n 0, 1) := bdL_law_276.2.2.2.2.2.2.2.2.2.2.2.2.2.2.2.2.2.2.2.2.2.2.2.2.2.2.2.2.2.2.2.2.1
theorem dL_law_315 : decode cL_law 315 = .ok (.iload_n 3, 1) := bdL_law_276.2.2.2.2.2.2.2.2.2.2.2.2.2.2.2.2.2.2.2.2.2.2.2.2.2.2.2.2.2.2.2.2.2.1
theorem dL_law_316 : decode cL_law 316 = .ok (.iconst 2, 1) := bdL_law_276.2.2.2.2.2.2.2.2.2.2.2.2.2.2.2.2.2.2.2.2.2.2.2.2.2.2.2.2.2.2.2.2.2.2.1
theorem dL_law_317 : decode cL_law 317 = .ok (.iadd, 1) := bdL_law_276.2.2.2.2.2.2.2.2.2.2.2.2.2.2.2.2.2.2.2.2.2.2.2.2.2.2.2.2.2.2.2.2.2.2.2.1
theorem dL_law_318 : decode cL_law 318 = .ok (.iaload, 1) := bdL_law_276.2.2.2.2.2.2.2.2.2.2.2.2.2.2.2.2.2.2.2.2.2.2.2.2.2.2.2.2.2.2.2.2.2.2.2.2.1
theorem dL_law_319 : decode cL_law 319 = .ok (.invokevirtual 23, 3) := bdL_law_276.2.2.2.2.2.2.2.2.2.2.2.2.2.2.2.2.2.2.2.2.2.2.2.2.2.2.2.2.2.2.2.2.2.2.2.2.2.1
theorem dL_law_322 : decode cL_law 322 = .ok (.aload_n 2, 1) := bdL_law_276.2.2.2.2.2.2.2.2.2.2.2.2.2.2.2.2.2.2.2.2.2.2.2.2.2.2.2.2.2.2.2.2.2.2.2.2.2.2.1
theorem dL_law_323 : decode cL_law 323 = .ok (.aload_n 0, 1) := bdL_law_276.2.2.2.2.2.2.2.2.2.2.2.2.2.2.2.2.2.2.2.2.2.2.2.2.2.2.2.2.2.2.2.2.2.2.2.2.2.2.2
theorem bdL_law_324 : (decode cL_law 324 = .ok (.iload_n 3, 1)) ∧ (decode cL_law 325 = .ok (.iconst 1, 1)) ∧ (decode cL_law 326 = .ok (.iadd, 1)) ∧ (decode cL_law 327 = .ok (.iaload, 1)) ∧ (decode cL_law 328 = .ok (.aload_n 0, 1)) ∧ (decode cL_law 329 = .ok (.iload_n 3, 1)) ∧ (decode cL_law 330 = .ok (.iconst 2, 1)) ∧ (decode cL_law 331 = .ok (.iadd, 1)) ∧ (decode cL_law 332 = .ok (.iaload, 1)) ∧ (decode cL_law 333 = .ok (.invokevirtual 26, 3)) ∧ (decode cL_law 336 = .ok (.if_icmp .eq 1089, 3)) ∧ (decode cL_law 339 = .ok (.iconst 0, 1)) ∧ (decode cL_law 340 = .ok (.ireturn, 1)) ∧ (decode cL_law 341 = .ok (.aload_n 1, 1)) ∧ (decode cL_law 342 = .ok (.aload_n 0, 1)) ∧ (decode cL_law 343 = .ok (.iload_n 3, 1)) ∧ (decode cL_law 344 = .ok (.iconst 1, 1)) ∧ (decode cL_law 345 = .ok (.iadd, 1)) ∧ (decode cL_law 346 = .ok (.iaload, 1)) ∧ (decode cL_law 347 = .ok (.aload_n 0, 1)) ∧ (decode cL_law 348 = .ok (.iload_n 3, 1)) ∧ (decode cL_law 349 = .ok (.iconst 2, 1)) ∧ (decode cL_law 350 = .ok (.iadd, 1)) ∧ (decode cL_law 351 = .ok (.iaload, 1)) ∧ (decode cL_law 352 = .ok (.invokevirtual 27, 3)) ∧ (decode cL_law 355 = .ok (.pop, 1)) ∧ (decode cL_law 356 = .ok (.aload_n 2, 1)) ∧ (decode cL_law 357 = .ok (.aload_n 0, 1)) ∧ (decode cL_law 358 = .ok (.iload_n 3, 1)) ∧ (decode cL_law 359 = .ok (.iconst 1, 1)) ∧ (decode cL_law 360 = .ok (.iadd, 1)) ∧ (decode cL_law 361 = .ok (.iaload, 1)) ∧ (decode cL_law 362 = .ok (.aload_n 0, 1)) ∧ (decode cL_law 363 = .ok (.iload_n 3, 1)) ∧ (decode cL_law 364 = .ok (.iconst 2, 1)) ∧ (decode cL_law 365 = .ok (.iadd, 1)) ∧ (decode cL_law 366 = .ok (.iaload, 1)) ∧ (decode cL_law 367 = .ok (.invokevirtual 30, 3)) ∧ (decode cL_law 370 = .ok (.pop, 1)) ∧ (decode cL_law 371 = .ok (.goto 1054, 3)) := by decide +kernel
theorem dL_law_324 : decode cL_law 324 = .ok (.iload_n 3, 1) := bdL_law_324.1
theorem dL_law_325 : decode cL_law 325 = .ok (.iconst 1, 1) := bdL_law_324.2.1
theorem dL_law_326 : decode cL_law 326 = .ok (.iadd, 1) := bdL_law_324.2.2.1
theorem dL_law_327 : decode cL_law 327 = .ok (.iaload, 1) := bdL_law_324.2.2.2.1
theorem dL_law_328 : decode cL_law 328 = .ok (.aload_n 0, 1) := bdL_law_324.2.2.2.2.1
theorem dL_law_329 : decode cL_law 329 = .ok (.iload_n 3, 1) := bdL_law_324.2.2.2.2.2.1
theorem dL_law_330 : decode cL_law 330 = .ok (.iconst 2, 1) := bdL_law_324.2.2.2.2.2.2.1
theorem dL_law_331 : decode cL_law 331 = .ok (.iadd, 1) := bdL_law_324.2.2.2.2.2.2.2.1
theorem dL_law_332 : decode cL_law 332 = .ok (.iaload, 1) := bdL_law_324.2.2.2.2.2.2.2.2.1
theorem dL_law_333 : decode cL_law 333 = .ok (.invokevirtual 26, 3) := bdL_law_324.2.2.2.2.2.2.2.2.2.1
theorem dL_law_336 : decode cL_law 336 = .ok (.if_icmp .eq 1089, 3) := bdL_law_324.2.2.2.2.2.2.2.2.2.2.1
theorem dL_law_339 : decode cL_law 339 = .ok (.iconst 0, 1) := bdL_law_324.2.2.2.2.2.2.2.2.2.2.2.1
theorem dL_law_340 : decode cL_law 340 = .ok (.ireturn, 1) := bdL_law_324.2.2.2.2.2.2.2.2.2.2.2.2.1
theorem dL_law_341 : decode cL_law 341 = .ok (.aload_n 1, 1) := bdL_law_324.2.2.2.2.2.2.2.2.2.2.2.2.2.1
theorem dL_law_342 : decode cL_law 342 = .ok (.aload_n 0, 1) := bdL_law_324.2.2.2.2.2.2.2.2.2.2.2.2.2.2.1
theorem dL_law_343 : decode cL_law 343 = .ok (.iload_n 3, 1) := bdL_law_324.2.2.2.2.2.2.2.2.2.2.2.2.2.2.2.1
theorem dL_law_344 : decode cL_law 344 = .ok (.iconst 1, 1) := bdL_law_324.2.2.2.2.2.2.2.2.2.2.2.2.2.2.2.2.1
theorem dL_law_345 : decode cL_law 345 = .ok (.iadd, 1) := bdL_law_324.2.2.2.2.2.2.2.2.2.2.2.2.2.2.2.2.2.1
theorem dL_law_346 : decode cL_law 346 = .ok (.iaload, 1) := bdL_law_324.2.2.2.2.2.2.2.2.2.2.2.2.2.2.2.2.2.2.1
theorem dL_law_347 : decode cL_law 347 = .ok (.aload_n 0, 1) := bdL_law_324.2.2.2.2.2.2.2.2.2.2.2.2.2.2.2.2.2.2.2.1
theorem dL_law_348 : decode cL_law 348 = .ok (.iload_n 3, 1) := bdL_law_324.2.2.2.2.2.2.2.2.2.2.2.2.2.2.2.2.2.2.2.2.1
theorem dL_law_349 : decode cL_law 349 = .ok (.iconst 2, 1) := bdL_law_324.2.2.2.2.2.2.2.2.2.2.2.2.2.2.2.2.2.2.2.2.2.1
theorem dL_law_350 : decode cL_law 350 = .ok (.iadd, 1) := bdL_law_324.2.2.2.2.2.2.2.2.2.2.2.2.2.2.2.2.2.2.2.2.2.2.1
theorem dL_law_351 : decode cL_law 351 = .ok (.iaload, 1) := bdL_law_324.2.2.2.2.2.2.2.2.2.2.2.2.2.2.2.2.2.2.2.2.2.2.2.1
theorem dL_law_352 : decode cL_law 352 = .ok (.invokevirtual 27, 3) := bdL_law_324.2.2.2.2.2.2.2.2.2.2.2.2.2.2.2.2.2.2.2.2.2.2.2.2.1
theorem dL_law_355 : decode cL_law 355 = .ok (.pop, 1) := bdL_law_324.2.2.2.2.2.2.2.2.2.2.2.2.2.2.2.2.2.2.2.2.2.2.2.2.2.1
theorem dL_law_356 : decode cL_law 356 = .ok (.aload_n 2, 1) := bdL_law_324.2.2.2.2.2.2.2.2.2.2.2.2.2.2.2.2.2.2.2.2.2.2.2.2.2.2.1
theorem dL_law_357 : decode cL_law 357 = .ok (.aload_n 0, 1) := bdL_law_324.2.2.2.2.2.2.2.2.2.2.2.2.2.2.2.2.2.2.2.2.2.2.2.2.2.2.2.1
theorem dL_law_358 : decode cL_law 358 = .ok (.iload_n 3, 1) := bdL_law_324.2.2.2.2.2.2.2.2.2.2.2.2.2.2.2.2.2.2.2.2.2.2.2.2.2.2.2.2.1
theorem dL_law_359 : decode cL_law 359 = .ok (.iconst 1, 1) := bdL_law_324.2.2.2.2.2.2.2.2.2.2.2.2.2.2.2.2.2.2.2.2.2.2.2.2.2.2.2.2.2.1
theorem dL_law_360 : decode cL_law 360 = .ok (.iadd, 1) := bdL_law_324.2.2.2.2.2.2.2.2.2.2.2.2.2.2.2.2.2.2.2.2.2.2.2.2.2.2.2.2.2.2.1
theorem dL_law_361 : decode cL_law 361 = .ok (.iaload, 1) := bdL_law_324.2.2.2.2.2.2.2.2.2.2.2.2.2.2.2.2.2.2.2.2.2.2.2.2.2.2.2.2.2.2.2.1
theorem dL_law_362 : decode cL_law 362 = .ok (.aload_n 0, 1) := bdL_law_324.2.2.2.2.2.2.2.2.2.2.2.2.2.2.2.2.2.2.2.2.2.2.2.2.2.2.2.2.2.2.2.2.1
theorem dL_law_363 : decode cL_law 363 = .ok (.iload_n 3, 1) := bdL_law_324.2.2.2.2.2.2.2.2.2.2.2.2.2.2.2.2.2.2.2.2.2.2.2.2.2.2.2.2.2.2.2.2.2.1
theorem dL_law_364 : decode cL_law 364 = .ok (.iconst 2, 1) := bdL_law_324.2.2.2.2.2.2.2.2.2.2.2.2.2.2.2.2.2.2.2.2.2.2.2.2.2.2.2.2.2.2.2.2.2.2.1
theorem dL_law_365 : decode cL_law 365 = .ok (.iadd, 1) := bdL_law_324.2.2.2.2.2.2.2.2.2.2.2.2.2.2.2.2.2.2.2.2.2.2.2.2.2.2.2.2.2.2.2.2.2.2.2.1
theorem dL_law_366 : decode cL_law 366 = .ok (.iaload, 1) := bdL_law_324.2.2.2.2.2.2.2.2.2.2.2.2.2.2.2.2.2.2.2.2.2.2.2.2.2.2.2.2.2.2.2.2.2.2.2.2.1
theorem dL_law_367 : decode cL_law 367 = .ok (.invokevirtual 30, 3) := bdL_law_324.2.2.2.2.2.2.2.2.2.2.2.2.2.2.2.2.2.2.2.2.2.2.2.2.2.2.2.2.2.2.2.2.2.2.2.2.2.1
theorem dL_law_370 : decode cL_law 370 = .ok (.pop, 1) := bdL_law_324.2.2.2.2.2.2.2.2.2.2.2.2.2.2.2.2.2.2.2.2.2.2.2.2.2.2.2.2.2.2.2.2.2.2.2.2.2.2.1
theorem dL_law_371 : decode cL_law 371 = .ok (.goto 1054, 3) := bdL_law_324.2.2.2.2.2.2.2.2.2.2.2.2.2.2.2.2.2.2.2.2.2.2.2.2.2.2.2.2.2.2.2.2.2.2.2.2.2.2.2
theorem bdL_law_374 : (decode cL_law 374 = .ok (.aload_n 1, 1)) ∧ (decode cL_law 375 = .ok (.aload_n 0, 1)) ∧ (decode cL_law 376 = .ok (.iload_n 3, 1)) ∧ (decode cL_law 377 = .ok (.iconst 1, 1)) ∧ (decode cL_law 378 = .ok (.iadd, 1)) ∧ (decode cL_law 379 = .ok (.iaload, 1)) ∧ (decode cL_law 380 = .ok (.aload_n 0, 1)) ∧ (decode cL_law 381 = .ok (.iload_n 3, 1)) ∧ (decode cL_law 382 = .ok (.iconst 2, 1)) ∧ (decode cL_law 383 = .ok (.iadd, 1)) ∧ (decode cL_law 384 = .ok (.iaload, 1)) ∧ (decode cL_law 385 = .ok (.invokevirtual 31, 3)) ∧ (decode cL_law 388 = .ok (.pop, 1)) ∧ (decode cL_law 389 = .ok (.aload_n 2, 1)) ∧ (decode cL_law 390 = .ok (.aload_n 0, 1)) ∧ (decode cL_law 391 = .ok (.iload_n 3, 1)) ∧ (decode cL_law 392 = .ok (.iconst 1, 1)) ∧ (decode cL_law 393 = .ok (.iadd, 1)) ∧ (decode cL_law 394 = .ok (.iaload, 1)) ∧ (decode cL_law 395 = .ok (.aload_n 0, 1)) ∧ (decode cL_law 396 = .ok (.iload_n 3, 1)) ∧ (decode cL_law 397 = .ok (.iconst 2, 1)) ∧ (decode cL_law 398 = .ok (.iadd, 1)) ∧ (decode cL_law 399 = .ok (.iaload, 1)) ∧ (decode cL_law 400 = .ok (.invokevirtual 34, 3)) ∧ (decode cL_law 403 = .ok (.pop, 1)) ∧ (decode cL_law 404 = .ok (.goto 1021, 3)) ∧ (decode cL_law 407 = .ok (.aload_n 1, 1)) ∧ (decode cL_law 408 = .ok (.aload_n 0, 1)) ∧ (decode cL_law 409 = .ok (.iload_n 3, 1)) ∧ (decode cL_law 410 = .ok (.iconst 1, 1)) ∧ (decode cL_law 411 = .ok (.iadd, 1)) ∧ (decode cL_law 412 = .ok (.iaload, 1)) ∧ (decode cL_law 413 = .ok (.aload_n 0, 1)) ∧ (decode cL_law 414 = .ok (.iload_n 3, 1)) ∧ (decode cL_law 415 = .ok (.iconst 2, 1)) ∧ (decode cL_law 416 = .ok (.iadd, 1)) ∧ (decode cL_law 417 = .ok (.iaload, 1)) ∧ (decode cL_law 418 = .ok (.aload_n 0, 1)) ∧ (decode cL_law 419 = .ok (.iload_n 3, 1)) := by decide +kernel
theorem dL_law_374 : decode cL_law 374 = .ok (.aload_n 1, 1) := bdL_law_374.1
theorem dL_law_375 : decode cL_law 375 = .ok (.aload_n 0, 1) := bdL_law_374.2.1
theorem dL_law_376 : decode cL_law 376 = .ok (.iload_n 3, 1) := bdL_law_374.2.2.1
theorem dL_law_377 : decode cL_law 377 = .ok (.iconst 1, 1) := bdL_law_374.2.2.2.1
theorem dL_law_378 : decode cL_law 378 = .ok (.iadd, 1) := bdL_law_374.2.2.2.2.1
theorem dL_law_379 : decode cL_law 379 = .ok (.iaload, 1) := bdL_law_374.2.2.2.2.2.1
theorem dL_law_380 : decode cL_law 380 = .ok (.aload_n 0, 1) := bdL_law_374.2.2.2.2.2.2.1
theorem dL_law_381 : decode cL_law 381 = .ok (.iload_n 3, 1) := bdL_law_374.2.2.2.2.2.2.2.1
theorem dL_law_382 : decode cL_law 382 = .ok (.iconst 2, 1) := bdL_law_374.2.2.2.2.2.2.2.2.1
theorem dL_law_383 : decode cL_law 383 = .ok (.iadd, 1) := bdL_law_374.2.2.2.2.2.2.2.2.2.1
theorem dL_law_384 : decode cL_law 384 = .ok (.iaload, 1) := bdL_law_374.2.2.2.2.2.2.2.2.2.2.1
theorem dL_law_385 : decode cL_law 385 = .ok (.invokevirtual 31, 3) := bdL_law_374.2.2.2.2.2.2.2.2.2.2.2.1
theorem dL_law_388 : decode cL_law 388 = .ok (.pop, 1) := bdL_law_374.2.2.2.2.2.2.2.2.2.2.2.2.1
theorem dL_law_389 : decode cL_law 389 = .ok (.aload_n 2, 1) := bdL_law_374.2.2.2.2.2.2.2.2.2.2.2.2.2.1
theorem dL_law_390 : decode cL_law 390 = .ok (.aload_n 0, 1) := bdL_law_374.2.2.2.2.2.2.2.2.2.2.2.2.2.2.1
theorem dL_law_391 : decode cL_law 391 = .ok (.iload_n 3, 1) := bdL_law_374.2.2.2.2.2.2.2.2.2.2.2.2.2.2.2.1
theorem dL_law_392 : decode cL_law 392 = .ok (.iconst 1, 1) := bdL_law_374.2.2.2.2.2.2.2.2.2.2.2.2.2.2.2.2.1
theorem dL_law_393 : decode cL_law 393 = .ok (.iadd, 1) := bdL_law_374.2.2.2.2.2.2.2.2.2.2.2.2.2.2.2.2.2.1
theorem dL_law_394 : decode cL_law 394 = .ok (.iaload, 1) := bdL_law_374.2.2.2.2.2.2.2.2.2.2.2.2.2.2.2.2.2.2.1
theorem dL_law_395 : decode cL_law 395 = .ok (.aload_n 0, 1) := bdL_law_374.2.2.2.2.2.2.2.2.2.2.2.2.2.2.2.2.2.2.2.1
theorem dL_law_396 : decode cL_law 396 = .ok (.iload_n 3, 1) := bdL_law_374.2.2.2.2.2.2.2.2.2.2.2.2.2.2.2.2.2.2.2.2.1
theorem dL_law_397 : decode cL_law 397 = .ok (.iconst 2, 1) := bdL_law_374.2.2.2.2.2.2.2.2.2.2.2.2.2.2.2.2.2.2.2.2.2.1
theorem dL_law_398 : decode cL_law 398 = .ok (.iadd, 1) := bdL_law_374.2.2.2.2.2.2.2.2.2.2.2.2.2.2.2.2.2.2.2.2.2.2.1
theorem dL_law_399 : decode cL_law 399 = .ok (.iaload, 1) := bdL_law_374.2.2.2.2.2.2.2.2.2.2.2.2.2.2.2.2.2.2.2.2.2.2.2.1
theorem dL_law_400 : decode cL_law 400 = .ok (.invokevirtual 34, 3) := bdL_law_374.2.2.2.2.2.2.2.2.2.2.2.2.2.2.2.2.2.2.2.2.2.2.2.2.1
theorem dL_law_403 : decode cL_law 403 = .ok (.pop, 1) := bdL_law_374.2.2.2.2.2.2.2.2.2.2.2.2.2.2.2.2.2.2.2.2.2.2.2.2.2.1
theorem dL_law_404 : decode cL_law 404 = .ok (.goto 1021, 3) := bdL_law_374.2.2.2.2.2.2.2.2.2.2.2.2.2.2.2.2.2.2.2.2.2.2.2.2.2.2.1
theorem dL_law_407 : decode cL_law 407 = .ok (.aload_n 1, 1) := bdL_law_374.2.2.2.2.2.2.2.2.2.2.2.2.2.2.2.2.2.2.2.2.2.2.2.2.2.2.2.1
theorem dL_law_408 : decode cL_law 408 = .ok (.aload_n 0, 1) := bdL_law_374.2.2.2.2.2.2.2.2.2.2.2.2.2.2.2.2.2.2.2.2.2.2.2.2.2.2.2.2.1
theorem dL_law_409 : decode cL_law 409 = .ok (.iload_n 3, 1) := bdL_law_374.2.2.2.2.2.2.2.2.2.2.2.2.2.2.2.2.2.2.2.2.2.2.2.2.2.2.2.2.2.1
theorem dL_law_410 : decode cL_law 410 = .ok (.iconst 1, 1) := bdL_law_374.2.2.2.2.2.2.2.2.2.2.2.2.2.2.2.2.2.2.2.2.2.2.2.2.2.2.2.2.2.2.1
theorem dL_law_411 : decode cL_law 411 = .ok (.iadd, 1) := bdL_law_374.2.2.2.2.2.2.2.2.2.2.2.2.2.2.2.2.2.2.2.2.2.2.2.2.2.2.2.2.2.2.2.1
theorem dL_law_412 : decode cL_law 412 = .ok (.iaload, 1) := bdL_law_374.2.2.2.2.2.2.2.2.2.2.2.2.2.2.2.2.2.2.2.2.2.2.2.2.2.2.2.2.2.2.2.2.1
theorem dL_law_413 : decode cL_law 413 = .ok (.aload_n 0, 1) := bdL_law_374.2.2.2.2.2.2.2.2.2.2.2.2.2.2.2.2.2.2.2.2.2.2.2.2.2.2.2.2.2.2.2.2.2.1
theorem dL_law_414 : decode cL_law 414 = .ok (.iload_n 3, 1) := bdL_law_374.2.2.2.2.2.2.2.2.2.2.2.2.2.2.2.2.2.2.2.2.2.2.2.2.2.2.2.2.2.2.2.2.2.2.1
theorem dL_law_415 : decode cL_law 415 = .ok (.iconst 2, 1) := bdL_law_374.2.2.2.2.2.2.2.2.2.2.2.2.2.2.2.2.2.2.2.2.2.2.2.2.2.2.2.2.2.2.2.2.2.2.2.1
theorem dL_law_416 : decode cL_law 416 = .ok (.iadd, 1) := bdL_law_374.2.2.2.2.2.2.2.2.2.2.2.2.2.2.2.2.2.2.2.2.2.2.2.2.2.2.2.2.2.2.2.2.2.2.2.2.1
theorem dL_law_417 : decode cL_law 417 = .ok (.iaload, 1) := bdL_law_374.2.2.2.2.2.2.2.2.2.2.2.2.2.2.2.2.2.2.2.2.2.2.2.2.2.2.2.2.2.2.2.2.2.2.2.2.2.1
theorem dL_law_418 : decode cL_law 418 = .ok (.aload_n 0, 1) := bdL_law_374.2.2.2.2.2.2.2.2.2.2.2.2.2.2.2.2.2.2.2.2.2.2.2.2.2.2.2.2.2.2.2.2.2.2.2.2.2.2.1
theorem dL_law_419 : decode cL_law 419 = .ok (.iload_n 3, 1) := bdL_law_374.2.2.2.2.2.2.2.2.2.2.2.2.2.2.2.2.2.2.2.2.2.2.2.2.2.2.2.2.2.2.2.2.2.2.2.2.2.2.2
theorem bdL_law_420 : (decode cL_law 420 = .ok (.iconst 3, 1)) ∧ (decode cL_law 421 = .ok (.iadd, 1)) ∧ (decode cL_law 422 = .ok (.iaload, 1)) ∧ (decode cL_law 423 = .ok (.invokevirtual 35, 3)) ∧ (decode cL_law 426 = .ok (.pop, 1)) ∧ (decode cL_law 427 = .ok (.aload_n 2, 1)) ∧ (decode cL_law 428 = .ok (.aload_n 0, 1)) ∧ (decode cL_law 429 = .ok (.iload_n 3, 1)) ∧ (decode cL_law 430 = .ok (.iconst 1, 1)) ∧ (decode cL_law 431 = .ok (.iadd, 1)) ∧ (decode cL_law 432 = .ok (.iaload, 1)) ∧ (decode cL_law 433 = .ok (.aload_n 0, 1)) ∧ (decode cL_law 434 = .ok (.iload_n 3, 1)) ∧ (decode cL_law 435 = .ok (.iconst 2, 1)) ∧ (decode cL_law 436 = .ok (.iadd, 1)) ∧ (decode cL_law 437 = .ok (.iaload, 1)) ∧ (decode cL_law 438 = .ok (.aload_n 0, 1)) ∧ (decode cL_law 439 = .ok (.iload_n 3, 1)) ∧ (decode cL_law 440 = .ok (.iconst 3, 1)) ∧ (decode cL_law 441 = .ok (.iadd, 1)) ∧ (decode cL_law 442 = .ok (.iaload, 1)) ∧ (decode cL_law 443 = .ok (.invokevirtual 39, 3)) ∧ (decode cL_law 446 = .ok (.pop, 1)) ∧ (decode cL_law 447 = .ok (.goto 978, 3)) ∧ (decode cL_law 450 = .ok (.aload_n 1, 1)) ∧ (decode cL_law 451 = .ok (.aload_n 0, 1)) ∧ (decode cL_law 452 = .ok (.iload_n 3, 1)) ∧ (decode cL_law 453 = .ok (.iconst 1, 1)) ∧ (decode cL_law 454 = .ok (.iadd, 1)) ∧ (decode cL_law 455 = .ok (.iaload, 1)) ∧ (decode cL_law 456 = .ok (.invokevirtual 40, 3)) ∧ (decode cL_law 459 = .ok (.pop, 1)) ∧ (decode cL_law 460 = .ok (.aload_n 2, 1)) ∧ (decode cL_law 461 = .ok (.aload_n 0, 1)) ∧ (decode cL_law 462 = .ok (.iload_n 3, 1)) ∧ (decode cL_law 463 = .ok (.iconst 1, 1)) ∧ (decode cL_law 464 = .ok (.iadd, 1)) ∧ (decode cL_law 465 = .ok (.iaload, 1)) ∧ (decode cL_law 466 = .ok (.invokevirtual 44, 3)) ∧ (decode cL_law 469 = .ok (.pop, 1)) := by decide +kernel
theorem dL_law_420 : decode cL_law 420 = .ok (.iconst 3, 1) := bdL_law_420.1
theorem dL_law_421 : decode cL_law 421 = .ok (.iadd, 1) := bdL_law_420.2.1
theorem dL_law_422 : decode cL_law 422 = .ok (.iaload, 1) := bdL_law_420.2.2.1
theorem dL_law_423 : decode cL_law 423 = .ok (.invokevirtual 35, 3) := bdL_law_420.2.2.2.1
theorem dL_law_426 : decode cL_law 426 = .ok (.pop, 1) := bdL_law_420.2.2.2.2.1
theorem dL_law_427 : decode cL_law 427 = .ok (.aload_n 2, 1) := bdL_law_420.2.2.2.2.2.1
theorem dL_law_428 : decode cL_law 428 = .ok (.aload_n 0, 1) := bdL_law_420.2.2.2.2.2.2.1
theorem dL_law_429 : decode cL_law 429 = .ok (.iload_n 3, 1) := bdL_law_420.2.2.2.2.2.2.2.1
theorem dL_law_430 : decode cL_law 430 = .ok (.iconst 1, 1) := bdL_law_420.2.2.2.2.2.2.2.2.1
theorem dL_law_431 : decode cL_law 431 = .ok (.iadd, 1) := bdL_law_420.2.2.2.2.2.2.2.2.2.1
theorem dL_law_432 : decode cL_law 432 = .ok (.iaload, 1) := bdL_law_420.2.2.2.2.2.2.2.2.2.2.1
theorem dL_law_433 : decode cL_law 433 = .ok (.aload_n 0, 1) := bdL_law_420.2.2.2.2.2.2.2.2.2.2.2.1
theorem dL_law_434 : decode cL_law 434 = .ok (.iload_n 3, 1) := bdL_law_420.2.2.2.2.2.2.2.2.2.2.2.2.1
theorem dL_law_435 : decode cL_law 435 = .ok (.iconst 2, 1) := bdL_law_420.2.2.2.2.2.2.2.2.2.2.2.2.2.1
theorem dL_law_436 : decode cL_law 436 = .ok (.iadd, 1) := bdL_law_420.2.2.2.2.2.2.2.2.2.2.2.2.2.2.1
theorem dL_law_437 : decode cL_law 437 = .ok (.iaload, 1) := bdL_law_420.2.2.2.2.2.2.2.2.2.2.2.2.2.2.2.1
theorem dL_law_438 : decode cL_law 438 = .ok (.aload_n 0, 1) := bdL_law_420.2.2.2.2.2.2.2.2.2.2.2.2.2.2.2.2.1
theorem dL_law_439 : decode cL_law 439 = .ok (.iload_n 3, 1) := bdL_law_420.2.2.2.2.2.2.2.2.2.2.2.2.2.2.2.2.2.1
theorem dL_law_440 : decode cL_law 440 = .ok (.iconst 3, 1) := bdL_law_420.2.2.2.2.2.2.2.2.2.2.2.2.2.2.2.2.2.2.1
theorem dL_law_441 : decode cL_law 441 = .ok (.iadd, 1) := bdL_law_420.2.2.2.2.2.2.2.2.2.2.2.2.2.2.2.2.2.2.2.1
theorem dL_law_442 : decode cL_law 442 = .ok (.iaload, 1) := bdL_law_420.2.2.2.2.2.2.2.2.2.2.2.2.2.2.2.2.2.2.2.2.1
theorem dL_law_443 : decode cL_law 443 = .ok (.invokevirtual 39, 3) := bdL_law_420.2.2.2.2.2.2.2.2.2.2.2.2.2.2.2.2.2.2.2.2.2.1
theorem dL_law_446 : decode cL_law 446 = .ok (.pop, 1) := bdL_law_420.2.2.2.2.2.2.2.2.2.2.2.2.2.2.2.2.2.2.2.2.2.2.1
theorem dL_law_447 : decode cL_law 447 = .ok (.goto 978, 3) := bdL_law_420.2.2.2.2.2.2.2.2.2.2.2.2.2.2.2.2.2.2.2.2.2.2.2.1
theorem dL_law_450 : decode cL_law 450 = .ok (.aload_n 1, 1) := bdL_law_420.2.2.2.2.2.2.2.2.2.2.2.2.2.2.2.2.2.2.2.2.2.2.2.2.1
theorem dL_law_451 : decode cL_law 451 = .ok (.aload_n 0, 1) := bdL_law_420.2.2.2.2.2.2.2.2.2.2.2.2.2.2.2.2.2.2.2.2.2.2.2.2.2.1
theorem dL_law_452 : decode cL_law 452 = .ok (.iload_n 3, 1) := bdL_law_420.2.2.2.2.2.2.2.2.2.2.2.2.2.2.2.2.2.2.2.2.2.2.2.2.2.2.1
theorem dL_law_453 : decode cL_law 453 = .ok (.iconst 1, 1) := bdL_law_420.2.2.2.2.2.2.2.2.2.2.2.2.2.2.2.2.2.2.2.2.2.2.2.2.2.2.2.1
theorem dL_law_454 : decode cL_law 454 = .ok (.iadd, 1) := bdL_law_420.2.2.2.2.2.2.2.2.2.2.2.2.2.2.2.2.2.2.2.2.2.2.2.2.2.2.2.2.1
theorem dL_law_455 : decode cL_law 455 = .ok (.iaload, 1) := bdL_law_420.2.2.2.2.2.2.2.2.2.2.2.2.2.2.2.2.2.2.2.2.2.2.2.2.2.2.2.2.2.1
theorem dL_law_456 : decode cL_law 456 = .ok (.invokevirtual 40, 3) := bdL_law_420.2.2.2.2.2.2.2.2.2.2.2.2.2.2.2.2.2.2.2.2.2.2.2.2.2.2.2.2.2.2.1
theorem dL_law_459 : decode cL_law 459 = .ok (.pop, 1) := bdL_law_420.2.2.2.2.2.2.2.2.2.2.2.2.2.2.2.2.2.2.2.2.2.2.2.2.2.2.2.2.2.2.2.1
theorem dL_law_460 : decode cL_law 460 = .ok (.aload_n 2, 1) := bdL_law_420.2.2.2.2.2.2.2.2.2.2.2.2.2.2.2.2.2.2.2.2.2.2.2.2.2.2.2.2.2.2.2.2.1
theorem dL_law_461 : decode cL_law 461 = .ok (.aload_n 0, 1) := bdL_law_420.2.2.2.2.2.2.2.2.2.2.2.2.2.2.2.2.2.2.2.2.2.2.2.2.2.2.2.2.2.2.2.2.2.1
theorem dL_law_462 : decode cL_law 462 = .ok (.iload_n 3, 1) := bdL_law_420.2.2.2.2.2.2.2.2.2.2.2.2.2.2.2.2.2.2.2.2.2.2.2.2.2.2.2.2.2.2.2.2.2.2.1
theorem dL_law_463 : decode cL_law 463 = .ok (.iconst 1, 1) := bdL_law_420.2.2.2.2.2.2.2.2.2.2.2.2.2.2.2.2.2.2.2.2.2.2.2.2.2.2.2.2.2.2.2.2.2.2.2.1
theorem dL_law_464 : decode cL_law 464 = .ok (.iadd, 1) := bdL_law_420.2.2.2.2.2.2.2.2.2.2.2.2.2.2.2.2.2.2.2.2.2.2.2.2.2.2.2.2.2.2.2.2.2.2.2.2.1
theorem dL_law_465 : decode cL_law 465 = .ok (.iaload, 1) := bdL_law_420.2.2.2.2.2.2.2.2.2.2.2.2.2.2.2.2.2.2.2.2.2.2.2.2.2.2.2.2.2.2.2.2.2.2.2.2.2.1
theorem dL_law_466 : decode cL_law 466 = .ok (.invokevirtual 44, 3) := bdL_law_420.2.2.2.2.2.2.2.2.2.2.2.2.2.2.2.2.2.2.2.2.2.2.2.2.2.2.2.2.2.2.2.2.2.2.2.2.2.2.1
theorem dL_law_469 : decode cL_law 469 = .ok (.pop, 1) := bdL_law_420.2.2.2.2.2.2.2.2.2.2.2.2.2.2.2.2.2.2.2.2.2.2.2.2.2.2.2.2.2.2.2.2.2.2.2.2.2.2.2
theorem bdL_law_470 : (decode cL_law 470 = .ok (.goto 955, 3)) ∧ (decode cL_law 473 = .ok (.aload_n 1, 1)) ∧ (decode cL_law 474 = .ok (.aload_n 0, 1)) ∧ (decode cL_law 475 = .ok (.iload_n 3, 1)) ∧ (decode cL_law 476 = .ok (.iconst 1, 1)) ∧ (decode cL_law 477 = .ok (.iadd, 1)) ∧ (decode cL_law 478 = .ok (.iaload, 1)) ∧ (decode cL_law 479 = .ok (.invokevirtual 45, 3)) ∧ (decode cL_law 482 = .ok (.pop, 1)) ∧ (decode cL_law 483 = .ok (.aload_n 2, 1)) ∧ (decode cL_law 484 = .ok (.aload_n 0, 1)) ∧ (decode cL_law 485 = .ok (.iload_n 3, 1)) ∧ (decode cL_law 486 = .ok (.iconst 1, 1)) ∧ (decode cL_law 487 = .ok (.iadd, 1)) ∧ (decode cL_law 488 = .ok (.iaload, 1)) ∧ (decode cL_law 489 = .ok (.invokevirtual 48, 3)) ∧ (decode cL_law 492 = .ok (.pop, 1)) ∧ (decode cL_law 493 = .ok (.goto 932, 3)) ∧ (decode cL_law 496 = .ok (.aload_n 1, 1)) ∧ (decode cL_law 497 = .ok (.aload_n 0, 1)) ∧ (decode cL_law 498 = .ok (.iload_n 3, 1)) ∧ (decode cL_law 499 = .ok (.iconst 1, 1)) ∧ (decode cL_law 500 = .ok (.iadd, 1)) ∧ (decode cL_law 501 = .ok (.iaload, 1)) ∧ (decode cL_law 502 = .ok (.invokevirtual 49, 3)) ∧ (decode cL_law 505 = .ok (.pop, 1)) ∧ (decode cL_law 506 = .ok (.aload_n 2, 1)) ∧ (decode cL_law 507 = .ok (.aload_n 0, 1)) ∧ (decode cL_law 508 = .ok (.iload_n 3, 1)) ∧ (decode cL_law 509 = .ok (.iconst 1, 1)) ∧ (decode cL_law 510 = .ok (.iadd, 1)) ∧ (decode cL_law 511 = .ok (.iaload, 1)) ∧ (decode cL_law 512 = .ok (.invokevirtual 52, 3)) ∧ (decode cL_law 515 = .ok (.pop, 1)) ∧ (decode cL_law 516 = .ok (.goto 909, 3)) ∧ (decode cL_law 519 = .ok (.aload_n 1, 1)) ∧ (decode cL_law 520 = .ok (.aload_n 0, 1)) ∧ (decode cL_law 521 = .ok (.iload_n 3, 1)) ∧ (decode cL_law 522 = .ok (.iconst 1, 1)) ∧ (decode cL_law 523 = .ok (.iadd, 1)) := by decide +kernel
theorem dL_law_470 : decode cL_law 470 = .ok (.goto 955, 3) := bdL_law_470.1
theorem dL_law_473 : decode cL_law 473 = .ok (.aload_n 1, 1) := bdL_law_470.2.1
theorem dL_law_474 : decode cL_law 474 = .ok (.aload_n 0, 1) := bdL_law_470.2.2.1
theorem dL_law_475 : decode cL_law 475 = .ok (.iload_n 3, 1) := bdL_law_470.2.2.2.1
theorem dL_law_476 : decode cL_law 476 = .ok (.iconst 1, 1) := bdL_law_470.2.2.2.2.1
theorem dL_law_477 : decode cL_law 477 = .ok (.iadd, 1) := bdL_law_470.2.2.2.2.2.1
theorem dL_law_478 : decode cL_law 478 = .ok (.iaload, 1) := bdL_law_470.2.2.2.2.2.2.1
theorem dL_law_479 : decode cL_law 479 = .ok (.invokevirtual 45, 3) := bdL_law_470.2.2.2.2.2.2.2.1
theorem dL_law_482 : decode cL_law 482 = .ok (.pop, 1) := bdL_law_470.2.2.2.2.2.2.2.2.1
theorem dL_law_483 : decode cL_law 483 = .ok (.aload_n 2, 1) := bdL_law_470.2.2.2.2.2.2.2.2.2.1
theorem dL_law_484 : decode cL_law 484 = .ok (.aload_n 0, 1) := bdL_law_470.2.2.2.2.2.2.2.2.2.2.1
theorem dL_law_485 : decode cL_law 485 = .ok (.iload_n 3, 1) := bdL_law_470.2.2.2.2.2.2.2.2.2.2.2.1
theorem dL_law_486 : decode cL_law 486 = .ok (.iconst 1, 1) := bdL_law_470.2.2.2.2.2.2.2.2.2.2.2.2.1
theorem dL_law_487 : decode cL_law 487 = .ok (.iadd, 1) := bdL_law_470.2.2.2.2.2.2.2.2.2.2.2.2.2.1
theorem dL_law_488 : decode cL_law 488 = .ok (.iaload, 1) := bdL_law_470.2.2.2.2.2.2.2.2.2.2.2.2.2.2.1
theorem dL_law_489 : decode cL_law 489 = .ok (.invokevirtual 48, 3) := bdL_law_470.2.2.2.2.2.2.2.2.2.2.2.2.2.2.2.1
theorem dL_law_492 : decode cL_law 492 = .ok (.pop, 1) := bdL_law_470.2.2.2.2.2.2.2.2.2.2.2.2.2.2.2.2.1
theorem dL_law_493 : decode cL_law 493 = .ok (.goto 932, 3) := bdL_law_470.2.2.2.2.2.2.2.2.2.2.2.2.2.2.2.2.2.1
theorem dL_law_496 : decode cL_law 496 = .ok (.aload_n 1, 1) := bdL_law_470.2.2.2.2.2.2.2.2.2.2.2.2.2.2.2.2.2.2.1
theorem dL_law_497 : decode cL_law 497 = .ok (.aload_n 0, 1) := bdL_law_470.2.2.2.2.2.2.2.2.2.2.2.2.2.2.2.2.2.2.2.1
theorem dL_law_498 : decode cL_law 498 = .ok (.iload_n 3, 1) := bdL_law_470.2.2.2.2.2.2.2.2.2.2.2.2.2.2.2.2.2.2.2.2.1
theorem dL_law_499 : decode cL_law 499 = .ok (.iconst 1, 1) := bdL_law_470.2.2.2.2.2.2.2.2.2.2.2.2.2.2.2.2.2.2.2.2.2.1
theorem dL_law_500 : decode cL_law 500 = .ok (.iadd, 1) := bdL_law_470.2.2.2.2.2.2.2.2.2.2.2.2.2.2.2.2.2.2.2.2.2.2.1
theorem dL_law_501 : decode cL_law 501 = .ok (.iaload, 1) := bdL_law_470.2.2.2.2.2.2.2.2.2.2.2.2.2.2.2.2.2.2.2.2.2.2.2.1
theorem dL_law_502 : decode cL_law 502 = .ok (.invokevirtual 49, 3) := bdL_law_470.2.2.2.2.2.2.2.2.2.2.2.2.2.2.2.2.2.2.2.2.2.2.2.2.1
theorem dL_law_505 : decode cL_law 505 = .ok (.pop, 1) := bdL_law_470.2.2.2.2.2.2.2.2.2.2.2.2.2.2.2.2.2.2.2.2.2.2.2.2.2.1
theorem dL_law_506 : decode cL_law 506 = .ok (.aload_n 2, 1) := bdL_law_470.2.2.2.2.2.2.2.2.2.2.2.2.2.2.2.2.2.2.2.2.2.2.2.2.2.2.1
theorem dL_law_507 : decode cL_law 507 = .ok (.aload_n 0, 1) := bdL_law_470.2.2.2.2.2.2.2.2.2.2.2.2.2.2.2.2.2.2.2.2.2.2.2.2.2.2.2.1
theorem dL_law_508 : decode cL_law 508 = .ok (.iload_n 3, 1) := bdL_law_470.2.2.2.2.2.2.2.2.2.2.2.2.2.2.2.2.2.2.2.2.2.2.2.2.2.2.2.2.1
theorem dL_law_509 : decode cL_law 509 = .ok (.iconst 1, 1) := bdL_law_470.2.2.2.2.2.2.2.2.2.2.2.2.2.2.2.2.2.2.2.2.2.2.2.2.2.2.2.2.2.1
theorem dL_law_510 : decode cL_law 510 = .ok (.iadd, 1) := bdL_law_470.2.2.2.2.2.2.2.2.2.2.2.2.2.2.2.2.2.2.2.2.2.2.2.2.2.2.2.2.2.2.1
theorem dL_law_511 : decode cL_law 511 = .ok (.iaload, 1) := bdL_law_470.2.2.2.2.2.2.2.2.2.2.2.2.2.2.2.2.2.2.2.2.2.2.2.2.2.2.2.2.2.2.2.1
theorem dL_law_512 : decode cL_law 512 = .ok (.invokevirtual 52, 3) := bdL_law_470.2.2.2.2.2.2.2.2.2.2.2.2.2.2.2.2.2.2.2.2.2.2.2.2.2.2.2.2.2.2.2.2.1
theorem dL_law_515 : decode cL_law 515 = .ok (.pop, 1) := bdL_law_470.2.2.2.2.2.2.2.2.2.2.2.2.2.2.2.2.2.2.2.2.2.2.2.2.2.2.2.2.2.2.2.2.2.1
theorem dL_law_516 : decode cL_law 516 = .ok (.goto 909, 3) := bdL_law_470.2.2.2.2.2.2.2.2.2.2.2.2.2.2.2.2.2.2.2.2.2.2.2.2.2.2.2.2.2.2.2.2.2.2.1
theorem dL_law_519 : decode cL_law 519 = .ok (.aload_n 1, 1) := bdL_law_470.2.2.2.2.2.2.2.2.2.2.2.2.2.2.2.2.2.2.2.2.2.2.2.2.2.2.2.2.2.2.2.2.2.2.2.1
theorem dL_law_520 : decode cL_law 520 = .ok (.aload_n 0, 1) := bdL_law_470.2.2.2.2.2.2.2.2.2.2.2.2.2.2.2.2.2.2.2.2.2.2.2.2.2.2.2.2.2.2.2.2.2.2.2.2.1
theorem dL_law_521 : decode cL_law 521 = .ok (.iload_n 3, 1) := bdL_law_470.2.2.2.2.2.2.2.2.2.2.2.2.2.2.2.2.2.2.2.2.2.2.2.2.2.2.2.2.2.2.2.2.2.2.2.2.2.1
theorem dL_law_522 : decode cL_law 522 = .ok (.iconst 1, 1) := bdL_law_470.2.2.2.2.2.2.2.2.2.2.2.2.2.2.2.2.2.2.2.2.2.2.2.2.2.2.2.2.2.2.2.2.2.2.2.2.2.2.1
theorem dL_law_523 : decode cL_law 523 = .ok (.iadd, 1) := bdL_law_470.2.2.2.2.2.2.2.2.2.2.2.2.2.2.2.2.2.2.2.2.2.2.2.2.2.2.2.2.2.2.2.2.2.2.2.2.2.2.2
theorem bdL_law_524 : (decode cL_law 524 = .ok (.iaload, 1)) ∧ (decode cL_law 525 = .ok (.invokevirtual 53, 3)) ∧ (decode cL_law 528 = .ok (.pop, 1)) ∧ (decode cL_law 529 = .ok (.aload_n 2, 1)) ∧ (decode cL_law 530 = .ok (.aload_n 0, 1)) ∧ (decode cL_law 531 = .ok (.iload_n 3, 1)) ∧ (decode cL_law 532 = .ok (.iconst 1, 1)) ∧ (decode cL_law 533 = .ok (.iadd, 1)) ∧ (decode cL_law 534 = .ok (.iaload, 1)) ∧ (decode cL_law 535 = .ok (.invokevirtual 56, 3)) ∧ (decode cL_law 538 = .ok (.pop, 1)) ∧ (decode cL_law 539 = .ok (.goto 886, 3)) ∧ (decode cL_law 542 = .ok (.aload_n 1, 1)) ∧ (decode cL_law 543 = .ok (.aload_n 0, 1)) ∧ (decode cL_law 544 = .ok (.iload_n 3, 1)) ∧ (decode cL_law 545 = .ok (.iconst 1, 1)) ∧ (decode cL_law 546 = .ok (.iadd, 1)) ∧ (decode cL_law 547 = .ok (.iaload, 1)) ∧ (decode cL_law 548 = .ok (.aload_n 0, 1)) ∧ (decode cL_law 549 = .ok (.iload_n 3, 1)) ∧ (decode cL_law 550 = .ok (.iconst 2, 1)) ∧ (decode cL_law 551 = .ok (.iadd, 1)) ∧ (decode cL_law 552 = .ok (.iaload, 1)) ∧ (decode cL_law 553 = .ok (.invokevirtual 57, 3)) ∧ (decode cL_law 556 = .ok (.pop, 1)) ∧ (decode cL_law 557 = .ok (.aload_n 2, 1)) ∧ (decode cL_law 558 = .ok (.aload_n 0, 1)) ∧ (decode cL_law 559 = .ok (.iload_n 3, 1)) ∧ (decode cL_law 560 = .ok (.iconst 1, 1)) ∧ (decode cL_law 561 = .ok (.iadd, 1)) ∧ (decode cL_law 562 = .ok (.iaload, 1)) ∧ (decode cL_law 563 = .ok (.aload_n 0, 1)) ∧ (decode cL_law 564 = .ok (.iload_n 3, 1)) ∧ (decode cL_law 565 = .ok (.iconst 2, 1)) ∧ (decode cL_law 566 = .ok (.iadd, 1)) ∧ (decode cL_law 567 = .ok (.iaload, 1)) ∧ (decode cL_law 568 = .ok (.invokevirtual 60, 3)) ∧ (decode cL_law 571 = .ok (.pop, 1)) ∧ (decode cL_law 572 = .ok (.goto 853, 3)) ∧ (decode cL_law 575 = .ok (.aload_n 1, 1)) := by decide +kernel
theorem dL_law_524 : decode cL_law 524 = .ok (.iaload, 1) := bdL_law_524.1
theorem dL_law_525 : decode cL_law 525 = .ok (.invokevirtual 53, 3) := bdL_law_524.2.1
theorem dL_law_528 : decode cL_law 528 = .ok (.pop, 1) := bdL_law_524.2.2.1
theorem dL_law_529 : decode cL_law 529 = .ok (.aload_n 2, 1) := bdL_law_524.2.2.2.1
theorem dL_law_530 : decode cL_law 530 = .ok (.aload_n 0, 1) := bdL_law_524.2.2.2.2.1
theorem dL_law_531 : decode cL_law 531 = .ok (.iload_n 3, 1) := bdL_law_524.2.2.2.2.2.1
theorem dL_law_532 : decode cL_law 532 = .ok (.iconst 1, 1) := bdL_law_524.2.2.2.2.2.2.1
theorem dL_law_533 : decode cL_law 533 = .ok (.iadd, 1) := bdL_law_524.2.2.2.2.2.2.2.1
theorem dL_law_534 : decode cL_law 534 = .ok (.iaload, 1) := bdL_law_524.2.2.2.2.2.2.2.2.1
theorem dL_law_535 : decode cL_law 535 = .ok (.invokevirtual 56, 3) := bdL_law_524.2.2.2.2.2.2.2.2.2.1
theorem dL_law_538 : decode cL_law 538 = .ok (.pop, 1) := bdL_law_524.2.2.2.2.2.2.2.2.2.2.1
theorem dL_law_539 : decode cL_law 539 = .ok (.goto 886, 3) := bdL_law_524.2.2.2.2.2.2.2.2.2.2.2.1
theorem dL_law_542 : decode cL_law 542 = .ok (.aload_n 1, 1) := bdL_law_524.2.2.2.2.2.2.2.2.2.2.2.2.1
theorem dL_law_543 : decode cL_law 543 = .ok (.aload_n 0, 1) := bdL_law_524.2.2.2.2.2.2.2.2.2.2.2.2.2.1
theorem dL_law_544 : decode cL_law 544 = .ok (.iload_n 3, 1) := bdL_law_524.2.2.2.2.2.2.2.2.2.2.2.2.2.2.1
theorem dL_law_545 : decode cL_law 545 = .ok (.iconst 1, 1) := bdL_law_524.2.2.2.2.2.2.2.2.2.2.2.2.2.2.2.1
theorem dL_law_546 : decode cL_law 546 = .ok (.iadd, 1) := bdL_law_524.2.2.2.2.2.2.2.2.2.2.2.2.2.2.2.2.1
theorem dL_law_547 : decode cL_law 547 = .ok (.iaload, 1) := bdL_law_524.2.2.2.2.2.2.2.2.2.2.2.2.2.2.2.2.2.1
theorem dL_law_548 : decode cL_law 548 = .ok (.aload_n 0, 1) := bdL_law_524.2.2.2.2.2.2.2.2.2.2.2.2.2.2.2.2.2.2.1
theorem dL_law_549 : decode cL_law 549 = .ok (.iload_n 3, 1) := bdL_law_524.2.2.2.2.2.2.2.2.2.2.2.2.2.2.2.2.2.2.2.1
theorem dL_law_550 : decode cL_law 550 = .ok (.iconst 2, 1) := bdL_law_524.2.2.2.2.2.2.2.2.2.2.2.2.2.2.2.2.2.2.2.2.1
theorem dL_law_551 : decode cL_law 551 = .ok (.iadd, 1) := bdL_law_524.2.2.2.2.2.2.2.2.2.2.2.2.2.2.2.2.2.2.2.2.2.1
theorem dL_law_552 : decode cL_law 552 = .ok (.iaload, 1) := bdL_law_524.2.2.2.2.2.2.2.2.2.2.2.2.2.2.2.2.2.2.2.2.2.2.1
theorem dL_law_553 : decode cL_law 553 = .ok (.invokevirtual 57, 3) := bdL_law_524.2.2.2.2.2.2.2.2.2.2.2.2.2.2.2.2.2.2.2.2.2.2.2.1
theorem dL_law_556 : decode cL_law 556 = .ok (.pop, 1) := bdL_law_524.2.2.2.2.2.2.2.2.2.2.2.2.2.2.2.2.2.2.2.2.2.2.2.2.1
theorem dL_law_557 : decode cL_law 557 = .ok (.aload_n 2, 1) := bdL_law_524.2.2.2.2.2.2.2.2.2.2.2.2.2.2.2.2.2.2.2.2.2.2.2.2.2.1
theorem dL_law_558 : decode cL_law 558 = .ok (.aload_n 0, 1) := bdL_law_524.2.2.2.2.2.2.2.2.2.2.2.2.2.2.2.2.2.2.2.2.2.2.2.2.2.2.1
theorem dL_law_559 : decode cL_law 559 = .ok (.iload_n 3, 1) := bdL_law_524.2.2.2.2.2.2.2.2.2.2.2.2.2.2.2.2.2.2.2.2.2.2.2.2.2.2.2.1
theorem dL_law_560 : decode cL_law 560 = .ok (.iconst 1, 1) := bdL_law_524.2.2.2.2.2.2.2.2.2.2.2.2.2.2.2.2.2.2.2.2.2.2.2.2.2.2.2.2.1
theorem dL_law_561 : decode cL_law 561 = .ok (.iadd, 1) := bdL_law_524.2.2.2.2.2.2.2.2.2.2.2.2.2.2.2.2.2.2.2.2.2.2.2.2.2.2.2.2.2.1
theorem dL_law_562 : decode cL_law 562 = .ok (.iaload, 1) := bdL_law_524.2.2.2.2.2.2.2.2.2.2.2.2.2.2.2.2.2.2.2.2.2.2.2.2.2.2.2.2.2.2.1
theorem dL_law_563 : decode cL_law 563 = .ok (.aload_n 0, 1) := bdL_law_524.2.2.2.2.2.2.2.2.2.2.2.2.2.2.2.2.2.2.2.2.2.2.2.2.2.2.2.2.2.2.2.1
theorem dL_law_564 : decode cL_law 564 = .ok (.iload_n 3, 1) := bdL_law_524.2.2.2.2.2.2.2.2.2.2.2.2.2.2.2.2.2.2.2.2.2.2.2.2.2.2.2.2.2.2.2.2.1
theorem dL_law_565 : decode cL_law 565 = .ok (.iconst 2, 1) := bdL_law_524.2.2.2.2.2.2.2.2.2.2.2.2.2.2.2.2.2.2.2.2.2.2.2.2.2.2.2.2.2.2.2.2.2.1
theorem dL_law_566 : decode cL_law 566 = .ok (.iadd, 1) := bdL_law_524.2.2.2.2.2.2.2.2.2.2.2.2.2.2.2.2.2.2.2.2.2.2.2.2.2.2.2.2.2.2.2.2.2.2.1
theorem dL_law_567 : decode cL_law 567 = .ok (.iaload, 1) := bdL_law_524.2.2.2.2.2.2.2.2.2.2.2.2.2.2.2.2.2.2.2.2.2.2.2.2.2.2.2.2.2.2.2.2.2.2.2.1
theorem dL_law_568 : decode cL_law 568 = .ok (.invokevirtual 60, 3) := bdL_law_524.2.2.2.2.2.2.2.2.2.2.2.2.2.2.2.2.2.2.2.2.2.2.2.2.2.2.2.2.2.2.2.2.2.2.2.2.1
theorem dL_law_571 : decode cL_law 571 = .ok (.pop, 1) := bdL_law_524.2.2.2.2.2.2.2.2.2.2.2.2.2.2.2.2.2.2.2.2.2.2.2.2.2.2.2.2.2.2.2.2.2.2.2.2.2.1
theorem dL_law_572 : decode cL_law 572 = .ok (.goto 853, 3) := bdL_law_524.2.2.2.2.2.2.2.2.2.2.2.2.2.2.2.2.2.2.2.2.2.2.2.2.2.2.2.2.2.2.2.2.2.2.2.2.2.2.1
theorem dL_law_575 : decode cL_law 575 = .ok (.aload_n 1, 1) := bdL_law_524.2.2.2.2.2.2.2.2.2.2.2.2.2.2.2.2.2.2.2.2.2.2.2.2.2.2.2.2.2.2.2.2.2.2.2.2.2.2.2
theorem bdL_law_576 : (decode cL_law 576 = .ok (.aload_n 0, 1)) ∧ (decode cL_law 577 = .ok (.iload_n 3, 1)) ∧ (decode cL_law 578 = .ok (.iconst 1, 1)) ∧ (decode cL_law 579 = .ok (.iadd, 1)) ∧ (decode cL_law 580 = .ok (.iaload, 1)) ∧ (decode cL_law 581 = .ok (.invokevirtual 61, 3)) ∧ (decode cL_law 584 = .ok (.pop, 1)) ∧ (decode cL_law 585 = .ok (.aload_n 2, 1)) ∧ (decode cL_law 586 = .ok (.aload_n 0, 1)) ∧ (decode cL_law 587 = .ok (.iload_n 3, 1)) ∧ (decode cL_law 588 = .ok (.iconst 1, 1)) ∧ (decode cL_law 589 = .ok (.iadd, 1)) ∧ (decode cL_law 590 = .ok (.iaload, 1)) ∧ (decode cL_law 591 = .ok (.invokevirtual 64, 3)) ∧ (decode cL_law 594 = .ok (.pop, 1)) ∧ (decode cL_law 595 = .ok (.goto 830, 3)) ∧ (decode cL_law 598 = .ok (.aload_n 1, 1)) ∧ (decode cL_law 599 = .ok (.aload_n 0, 1)) ∧ (decode cL_law 600 = .ok (.iload_n 3, 1)) ∧ (decode cL_law 601 = .ok (.iconst 1, 1)) ∧ (decode cL_law 602 = .ok (.iadd, 1)) ∧ (decode cL_law 603 = .ok (.iaload, 1)) ∧ (decode cL_law 604 = .ok (.invokevirtual 65, 3)) ∧ (decode cL_law 607 = .ok (.pop, 1)) ∧ (decode cL_law 608 = .ok (.aload_n 2, 1)) ∧ (decode cL_law 609 = .ok (.aload_n 0, 1)) ∧ (decode cL_law 610 = .ok (.iload_n 3, 1)) ∧ (decode cL_law 611 = .ok (.iconst 1, 1)) ∧ (decode cL_law 612 = .ok (.iadd, 1)) ∧ (decode cL_law 613 = .ok (.iaload, 1)) ∧ (decode cL_law 614 = .ok (.invokevirtual 68, 3)) ∧ (decode cL_law 617 = .ok (.pop, 1)) ∧ (decode cL_law 618 = .ok (.goto 807, 3)) ∧ (decode cL_law 621 = .ok (.aload_n 1, 1)) ∧ (decode cL_law 622 = .ok (.aload_n 0, 1)) ∧ (decode cL_law 623 = .ok (.iload_n 3, 1)) ∧ (decode cL_law 624 = .ok (.iconst 1, 1)) ∧ (decode cL_law 625 = .ok (.iadd, 1)) ∧ (decode cL_law 626 = .ok (.iaload, 1)) ∧ (decode cL_law 627 = .ok (.aload_n 0, 1)) := by decide +kernel
theorem dL_law_576 : decode cL_law 576 = .ok (.aload_n 0, 1) := bdL_law_576.1
theorem dL_law_577 : decode cL_law 577 = .ok (.iload_n 3, 1) := bdL_law_576.2.1
theorem dL_law_578 : decode cL_law 578 = .ok (.iconst 1, 1) := bdL_law_576.2.2.1
theorem dL_law_579 : decode cL_law 579 = .ok (.iadd, 1) := bdL_law_576.2.2.2.1
theorem dL_law_580 : decode cL_law 580 = .ok (.iaload, 1) := bdL_law_576.2.2.2.2.1
theorem dL_law_581 : decode cL_law 581 = .ok (.invokevirtual 61, 3) := bdL_law_576.2.2.2.2.2.1
theorem dL_law_584 : decode cL_law 584 = .ok (.pop, 1) := bdL_law_576.2.2.2.2.2.2.1
theorem dL_law_585 : decode cL_law 585 = .ok (.aload_n 2, 1) := bdL_law_576.2.2.2.2.2.2.2.1
theorem dL_law_586 : decode cL_law 586 = .ok (.aload_n 0, 1) := bdL_law_576.2.2.2.2.2.2.2.2.1
theorem dL_law_587 : decode cL_law 587 = .ok (.iload_n 3, 1) := bdL_law_576.2.2.2.2.2.2.2.2.2.1
theorem dL_law_588 : decode cL_law 588 = .ok (.iconst 1, 1) := bdL_law_576.2.2.2.2.2.2.2.2.2.2.1
theorem dL_law_589 : decode cL_law 589 = .ok (.iadd, 1) := bdL_law_576.2.2.2.2.2.2.2.2.2.2.2.1
theorem dL_law_590 : decode cL_law 590 = .ok (.iaload, 1) := bdL_law_576.2.2.2.2.2.2.2.2.2.2.2.2.1
theorem dL_law_591 : decode cL_law 591 = .ok (.invokevirtual 64, 3) := bdL_law_576.2.2.2.2.2.2.2.2.2.2.2.2.2.1
theorem dL_law_594 : decode cL_law 594 = .ok (.pop, 1) := bdL_law_576.2.2.2.2.2.2.2.2.2.2.2.2.2.2.1
theorem dL_law_595 : decode cL_law 595 = .ok (.goto 830, 3) := bdL_law_576.2.2.2.2.2.2.2.2.2.2.2.2.2.2.2.1
theorem dL_law_598 : decode cL_law 598 = .ok (.aload_n 1, 1) := bdL_law_576.2.2.2.2.2.2.2.2.2.2.2.2.2.2.2.2.1
theorem dL_law_599 : decode cL_law 599 = .ok (.aload_n 0, 1) := bdL_law_576.2.2.2.2.2.2.2.2.2.2.2.2.2.2.2.2.2.1
theorem dL_law_600 : decode cL_law 600 = .ok (.iload_n 3, 1) := bdL_law_576.2.2.2.2.2.2.2.2.2.2.2.2.2.2.2.2.2.2.1
theorem dL_law_601 : decode cL_law 601 = .ok (.iconst 1, 1) := bdL_law_576.2.2.2.2.2.2.2.2.2.2.2.2.2.2.2.2.2.2.2.1
theorem dL_law_602 : decode cL_law 602 = .ok (.iadd, 1) := bdL_law_576.2.2.2.2.2.2.2.2.2.2.2.2.2.2.2.2.2.2.2.2.1
theorem dL_law_603 : decode cL_law 603 = .ok (.iaload, 1) := bdL_law_576.2.2.2.2.2.2.2.2.2.2.2.2.2.2.2.2.2.2.2.2.2.1
theorem dL_law_604 : decode cL_law 604 = .ok (.invokevirtual 65, 3) := bdL_law_576.2.2.2.2.2.2.2.2.2.2.2.2.2.2.2.2.2.2.2.2.2.2.1
theorem dL_law_607 : decode cL_law 607 = .ok (.pop, 1) := bdL_law_576.2.2.2.2.2.2.2.2.2.2.2.2.2.2.2.2.2.2.2.2.2.2.2.1
theorem dL_law_608 : decode cL_law 608 = .ok (.aload_n 2, 1) := bdL_law_576.2.2.2.2.2.2.2.2.2.2.2.2.2.2.2.2.2.2.2.2.2.2.2.2.1
theorem dL_law_609 : decode cL_law 609 = .ok (.aload_n 0, 1) := bdL_law_576.2.2.2.2.2.2.2.2.2.2.2.2.2.2.2.2.2.2.2.2.2.2.2.2.2.1
theorem dL_law_610 : decode cL_law 610 = .ok (.iload_n 3, 1) := bdL_law_576.2.2.2.2.2.2.2.2.2.2.2.2.2.2.2.2.2.2.2.2.2.2.2.2.2.2.1
theorem dL_law_611 : decode cL_law 611 = .ok (.iconst 1, 1) := bdL_law_576.2.2.2.2.2.2.2.2.2.2.2.2.2.2.2.2.2.2.2.2.2.2.2.2.2.2.2.1
theorem dL_law_612 : decode cL_law 612 = .ok (.iadd, 1) := bdL_law_576.2.2.2.2.2.2.2.2.2.2.2.2.2.2.2.2.2.2.2.2.2.2.2.2.2.2.2.2.1
theorem dL_law_613 : decode cL_law 613 = .ok (.iaload, 1) := bdL_law_576.2.2.2.2.2.2.2.2.2.2.2.2.2.2.2.2.2.2.2.2.2.2.2.2.2.2.2.2.2.1
theorem dL_law_614 : decode cL_law 614 = .ok (.invokevirtual 68, 3) := bdL_law_576.2.2.2.2.2.2.2.2.2.2.2.2.2.2.2.2.2.2.2.2.2.2.2.2.2.2.2.2.2.2.1
theorem dL_law_617 : decode cL_law 617 = .ok (.pop, 1) := bdL_law_576.2.2.2.2.2.2.2.2.2.2.2.2.2.2.2.2.2.2.2.2.2.2.2.2.2.2.2.2.2.2.2.1
theorem dL_law_618 : decode cL_law 618 = .ok (.goto 807, 3) := bdL_law_576.2.2.2.2.2.2.2.2.2.2.2.2.2.2.2.2.2.2.2.2.2.2.2.2.2.2.2.2.2.2.2.2.1
theorem dL_law_621 : decode cL_law 621 = .ok (.aload_n 1, 1) := bdL_law_576.2.2.2.2.2.2.2.2.2.2.2.2.2.2.2.2.2.2.2.2.2.2.2.2.2.2.2.2.2.2.2.2.2.1
theorem dL_law_622 : decode cL_law 622 = .ok (.aload_n 0, 1) := bdL_law_576.2.2.2.2.2.2.2.2.2.2.2.2.2.2.2.2.2.2.2.2.2.2.2.2.2.2.2.2.2.2.2.2.2.2.1
theorem dL_law_623 : decode cL_law 623 = .ok (.iload_n 3, 1) := bdL_law_576.2.2.2.2.2.2.2.2.2.2.2.2.2.2.2.2.2.2.2.2.2.2.2.2.2.2.2.2.2.2.2.2.2.2.2.1
theorem dL_law_624 : decode cL_law 624 = .ok (.iconst 1, 1) := bdL_law_576.2.2.2.2.2.2.2.2.2.2.2.2.2.2.2.2.2.2.2.2.2.2.2.2.2.2.2.2.2.2.2.2.2.2.2.2.1
theorem dL_law_625 : decode cL_law 625 = .ok (.iadd, 1) := bdL_law_576.2.2.2.2.2.2.2.2.2.2.2.2.2.2.2.2.2.2.2.2.2.2.2.2.2.2.2.2.2.2.2.2.2.2.2.2.2.1
theorem dL_law_626 : decode cL_law 626 = .ok (.iaload, 1) := bdL_law_576.2.2.2.2.2.2.2.2.2.2.2.2.2.2.2.2.2.2.2.2.2.2.2.2.2.2.2.2.2.2.2.2.2.2.2.2.2.2.1
theorem dL_law_627 : decode cL_law 627 = .ok (.aload_n 0, 1) := bdL_law_576.2.2.2.2.2.2.2.2.2.2.2.2.2.2.2.2.2.2.2.2.2.2.2.2.2.2.2.2.2.2.2.2.2.2.2.2.2.2.2
theorem bdL_law_628 : (decode cL_law 628 = .ok (.iload_n 3, 1)) ∧ (decode cL_law 629 = .ok (.iconst 2, 1)) ∧ (decode cL_law 630 = .ok (.iadd, 1)) ∧ (decode cL_law 631 = .ok (.iaload, 1)) ∧ (decode cL_law 632 = .ok (.invokevirtual 69, 3)) ∧ (decode cL_law 635 = .ok (.pop, 1)) ∧ (decode cL_law 636 = .ok (.aload_n 2, 1)) ∧ (decode cL_law 637 = .ok (.aload_n 0, 1)) ∧ (decode cL_law 638 = .ok (.iload_n 3, 1)) ∧ (decode cL_law 639 = .ok (.iconst 1, 1)) ∧ (decode cL_law 640 = .ok (.iadd, 1)) ∧ (decode cL_law 641 = .ok (.iaload, 1)) ∧ (decode cL_law 642 = .ok (.aload_n 0, 1)) ∧ (decode cL_law 643 = .ok (.iload_n 3, 1)) ∧ (decode cL_law 644 = .ok (.iconst 2, 1)) ∧ (decode cL_law 645 = .ok (.iadd, 1)) ∧ (decode cL_law 646 = .ok (.iaload, 1)) ∧ (decode cL_law 647 = .ok (.invokevirtual 72, 3)) ∧ (decode cL_law 650 = .ok (.pop, 1)) ∧ (decode cL_law 651 = .ok (.goto 774, 3)) ∧ (decode cL_law 654 = .ok (.aload_n 1, 1)) ∧ (decode cL_law 655 = .ok (.aload_n 0, 1)) ∧ (decode cL_law 656 = .ok (.iload_n 3, 1)) ∧ (decode cL_law 657 = .ok (.iconst 1, 1)) ∧ (decode cL_law 658 = .ok (.iadd, 1)) ∧ (decode cL_law 659 = .ok (.iaload, 1)) ∧ (decode cL_law 660 = .ok (.aload_n 0, 1)) ∧ (decode cL_law 661 = .ok (.iload_n 3, 1)) ∧ (decode cL_law 662 = .ok (.iconst 2, 1)) ∧ (decode cL_law 663 = .ok (.iadd, 1)) ∧ (decode cL_law 664 = .ok (.iaload, 1)) ∧ (decode cL_law 665 = .ok (.aload_n 0, 1)) ∧ (decode cL_law 666 = .ok (.iload_n 3, 1)) ∧ (decode cL_law 667 = .ok (.iconst 3, 1)) ∧ (decode cL_law 668 = .ok (.iadd, 1)) ∧ (decode cL_law 669 = .ok (.iaload, 1)) ∧ (decode cL_law 670 = .ok (.invokevirtual 73, 3)) ∧ (decode cL_law 673 = .ok (.pop, 1)) ∧ (decode cL_law 674 = .ok (.aload_n 2, 1)) ∧ (decode cL_law 675 = .ok (.aload_n 0, 1)) := by decide +kernel
theorem dL_law_628 : decode cL_law 628 = .ok (.iload_n 3, 1) := bdL_law_628.1
theorem dL_law_629 : decode cL_law 629 = .ok (.iconst 2, 1) := bdL_law_628.2.1
theorem dL_law_630 : decode cL_law 630 = .ok (.iadd, 1) := bdL_law_628.2.2.1
theorem dL_law_631 : decode cL_law 631 = .ok (.iaload, 1) := bdL_law_628.2.2.2.1
theorem dL_law_632 : decode cL_law 632 = .ok (.invokevirtual 69, 3) := bdL_law_628.2.2.2.2.1
theorem dL_law_635 : decode cL_law 635 = .ok (.pop, 1) := bdL_law_628.2.2.2.2.2.1
theorem dL_law_636 : decode cL_law 636 = .ok (.aload_n 2, 1) := bdL_law_628.2.2.2.2.2.2.1
theorem dL_law_637 : decode cL_law 637 = .ok (.aload_n 0, 1) := bdL_law_628.2.2.2.2.2.2.2.1
theorem dL_law_638 : decode cL_law 638 = .ok (.iload_n 3, 1) := bdL_law_628.2.2.2.2.2.2.2.2.1
theorem dL_law_639 : decode cL_law 639 = .ok (.iconst 1, 1) := bdL_law_628.2.2.2.2.2.2.2.2.2.1
theorem dL_law_640 : decode cL_law 640 = .ok (.iadd, 1) := bdL_law_628.2.2.2.2.2.2.2.2.2.2.1
theorem dL_law_641 : decode cL_law 641 = .ok (.iaload, 1) := bdL_law_628.2.2.2.2.2.2.2.2.2.2.2.1
theorem dL_law_642 : decode cL_law 642 = .ok (.aload_n 0, 1) := bdL_law_628.2.2.2.2.2.2.2.2.2.2.2.2.1
theorem dL_law_643 : decode cL_law 643 = .ok (.iload_n 3, 1) := bdL_law_628.2.2.2.2.2.2.2.2.2.2.2.2.2.1
theorem dL_law_644 : decode cL_law 644 = .ok (.iconst 2, 1) := bdL_law_628.2.2.2.2.2.2.2.2.2.2.2.2.2.2.1
theorem dL_law_645 : decode cL_law 645 = .ok (.iadd, 1) := bdL_law_628.2.2.2.2.2.2.2.2.2.2.2.2.2.2.2.1
theorem dL_law_646 : decode cL_law 646 = .ok (.iaload, 1) := bdL_law_628.2.2.2.2.2.2.2.2.2.2.2.2.2.2.2.2.1
theorem dL_law_647 : decode cL_law 647 = .ok (.invokevirtual 72, 3) := bdL_law_628.2.2.2.2.2.2.2.2.2.2.2.2.2.2.2.2.2.1
theorem dL_law_650 : decode cL_law 650 = .ok (.pop, 1) := bdL_law_628.2.2.2.2.2.2.2.2.2.2.2.2.2.2.2.2.2.2.1
theorem dL_law_651 : decode cL_law 651 = .ok (.goto 774, 3) := bdL_law_628.2.2.2.2.2.2.2.2.2.2.2.2.2.2.2.2.2.2.2.1
theorem dL_law_654 : decode cL_law 654 = .ok (.aload_n 1, 1) := bdL_law_628.2.2.2.2.2.2.2.2.2.2.2.2.2.2.2.2.2.2.2.2.1
theorem dL_law_655 : decode cL_law 655 = .ok (.aload_n 0, 1) := bdL_law_628.2.2.2.2.2.2.2.2.2.2.2.2.2.2.2.2.2.2.2.2.2.1
theorem dL_law_656 : decode cL_law 656 = .ok (.iload_n 3, 1) := bdL_law_628.2.2.2.2.2.2.2.2.2.2.2.2.2.2.2.2.2.2.2.2.2.2.1
theorem dL_law_657 : decode cL_law 657 = .ok (.iconst 1, 1) := bdL_law_628.2.2.2.2.2.2.2.2.2.2.2.2.2.2.2.2.2.2.2.2.2.2.2.1
theorem dL_law_658 : decode cL_law 658 = .ok (.iadd, 1) := bdL_law_628.2.2.2.2.2.2.2.2.2.2.2.2.2.2.2.2.2.2.2.2.2.2.2.2.1
theorem dL_law_659 : decode cL_law 659 = .ok (.iaload, 1) := bdL_law_628.2.2.2.2.2.2.2.2.2.2.2.2.2.2.2.2.2.2.2.2.2.2.2.2.2.1
theorem dL_law_660 : decode cL_law 660 = .ok (.aload_n 0, 1) := bdL_law_628.2.2.2.2.2.2.2.2.2.2.2.2.2.2.2.2.2.2.2.2.2.2.2.2.2.2.1
theorem dL_law_661 : decode cL_law 661 = .ok (.iload_n 3, 1) := bdL_law_628.2.2.2.2.2.2.2.2.2.2.2.2.2.2.2.2.2.2.2.2.2.2.2.2.2.2.2.1
theorem dL_law_662 : decode cL_law 662 = .ok (.iconst 2, 1) := bdL_law_628.2.2.2.2.2.2.2.2.2.2.2.2.2.2.2.2.2.2.2.2.2.2.2.2.2.2.2.2.1
theorem dL_law_663 : decode cL_law 663 = .ok (.iadd, 1) := bdL_law_628.2.2.2.2.2.2.2.2.2.2.2.2.2.2.2.2.2.2.2.2.2.2.2.2.2.2.2.2.2.1
theorem dL_law_664 : decode cL_law 664 = .ok (.iaload, 1) := bdL_law_628.2.2.2.2.2.2.2.2.2.2.2.2.2.2.2.2.2.2.2.2.2.2.2.2.2.2.2.2.2.2.1
theorem dL_law_665 : decode cL_law 665 = .ok (.aload_n 0, 1) := bdL_law_628.2.2.2.2.2.2.2.2.2.2.2.2.2.2.2.2.2.2.2.2.2.2.2.2.2.2.2.2.2.2.2.1
theorem dL_law_666 : decode cL_law 666 = .ok (.iload_n 3, 1) := bdL_law_628.2.2.2.2.2.2.2.2.2.2.2.2.2.2.2.2.2.2.2.2.2.2.2.2.2.2.2.2.2.2.2.2.1
theorem dL_law_667 : decode cL_law 667 = .ok (.iconst 3, 1) := bdL_law_628.2.2.2.2.2.2.2.2.2.2.2.2.2.2.2.2.2.2.2.2.2.2.2.2.2.2.2.2.2.2.2.2.2.1
theorem dL_law_668 : decode cL_law 668 = .ok (.iadd, 1) := bdL_law_628.2.2.2.2.2.2.2.2.2.2.2.2.2.2.2.2.2.2.2.2.2.2.2.2.2.2.2.2.2.2.2.2.2.2.1
theorem dL_law_669 : decode cL_law 669 = .ok (.iaload, 1) := bdL_law_628.2.2.2.2.2.2.2.2.2.2.2.2.2.2.2.2.2.2.2.2.2.2.2.2.2.2.2.2.2.2.2.2.2.2.2.1
theorem dL_law_670 : decode cL_law 670 = .ok (.invokevirtual 73, 3) := bdL_law_628.2.2.2.2.2.2.2.2.2.2.2.2.2.2.2.2.2.2.2.2.2.2.2.2.2.2.2.2.2.2.2.2.2.2.2.2.1
theorem dL_law_673 : decode cL_law 673 = .ok (.pop, 1) := bdL_law_628.2.2.2.2.2.2.2.2.2.2.2.2.2.2.2.2.2.2.2.2.2.2.2.2.2.2.2.2.2.2.2.2.2.2.2.2.2.1
theorem dL_law_674 : decode cL_law 674 = .ok (.aload_n 2, 1) := bdL_law_628.2.2.2.2.2.2.2.2.2.2.2.2.2.2.2.2.2.2.2.2.2.2.2.2.2.2.2.2.2.2.2.2.2.2.2.2.2.2.1
theorem dL_law_675 : decode cL_law 675 = .ok (.aload_n 0, 1) := bdL_law_628.2.2.2.2.2.2.2.2.2.2.2.2.2.2.2.2.2.2.2.2.2.2.2.2.2.2.2.2.2.2.2.2.2.2.2.2.2.2.2
theorem bdL_law_676 : (decode cL_law 676 = .ok (.iload_n 3, 1)) ∧ (decode cL_law 677 = .ok (.iconst 1, 1)) ∧ (decode cL_law 678 = .ok (.iadd, 1)) ∧ (decode cL_law 679 = .ok (.iaload, 1)) ∧ (decode cL_law 680 = .ok (.aload_n 0, 1)) ∧ (decode cL_law 681 = .ok (.iload_n 3, 1)) ∧ (decode cL_law 682 = .ok (.iconst 2, 1)) ∧ (decode cL_law 683 = .ok (.iadd, 1)) ∧ (decode cL_law 684 = .ok (.iaload, 1)) ∧ (decode cL_law 685 = .ok (.aload_n 0, 1)) ∧ (decode cL_law 686 = .ok (.iload_n 3, 1)) ∧ (decode cL_law 687 = .ok (.iconst 3, 1)) ∧ (decode cL_law 688 = .ok (.iadd, 1)) ∧ (decode cL_law 689 = .ok (.iaload, 1)) ∧ (decode cL_law 690 = .ok (.invokevirtual 76, 3)) ∧ (decode cL_law 693 = .ok (.pop, 1)) ∧ (decode cL_law 694 = .ok (.goto 731, 3)) ∧ (decode cL_law 697 = .ok (.aload_n 1, 1)) ∧ (decode cL_law 698 = .ok (.invokevirtual 77, 3)) ∧ (decode cL_law 701 = .ok (.pop, 1)) ∧ (decode cL_law 702 = .ok (.aload_n 2, 1)) ∧ (decode cL_law 703 = .ok (.invokevirtual 81, 3)) ∧ (decode cL_law 706 = .ok (.pop, 1)) ∧ (decode cL_law 707 = .ok (.goto 718, 3)) ∧ (decode cL_law 710 = .ok (.aload_n 1, 1)) ∧ (decode cL_law 711 = .ok (.aload_n 0, 1)) ∧ (decode cL_law 712 = .ok (.iload_n 3, 1)) ∧ (decode cL_law 713 = .ok (.iconst 1, 1)) ∧ (decode cL_law 714 = .ok (.iadd, 1)) ∧ (decode cL_law 715 = .ok (.iaload, 1)) ∧ (decode cL_law 716 = .ok (.aload_n 0, 1)) ∧ (decode cL_law 717 = .ok (.iload_n 3, 1)) ∧ (decode cL_law 718 = .ok (.iconst 2, 1)) ∧ (decode cL_law 719 = .ok (.iadd, 1)) ∧ (decode cL_law 720 = .ok (.iaload, 1)) ∧ (decode cL_law 721 = .ok (.invokevirtual 82, 3)) ∧ (decode cL_law 724 = .ok (.pop, 1)) ∧ (decode cL_law 725 = .ok (.aload_n 2, 1)) ∧ (decode cL_law 726 = .ok (.aload_n 0, 1)) ∧ (decode cL_law 727 = .ok (.iload_n 3, 1)) := by decide +kernel
theorem dL_law_676 : decode cL_law 676 = .ok (.iload_n 3, 1) := bdL_law_676.1
theorem dL_law_677 : decode cL_law 677 = .ok (.iconst 1, 1) := bdL_law_676.2.1
theorem dL_law_678 : decode cL_law 678 = .ok (.iadd, 1) := bdL_law_676.2.2.1
theorem dL_law_679 : decode cL_law 679 = .ok (.iaload, 1) := bdL_law_676.2.2.2.1
theorem dL_law_680 : decode cL_law 680 = .ok (.aload_n 0, 1) := bdL_law_676.2.2.2.2.1
theorem dL_law_681 : decode cL_law 681 = .ok (.iload_n 3, 1) := bdL_law_676.2.2.2.2.2.1
theorem dL_law_682 : decode cL_law 682 = .ok (.iconst 2, 1) := bdL_law_676.2.2.2.2.2.2.1
theorem dL_law_683 : decode cL_law 683 = .ok (.iadd, 1) := bdL_law_676.2.2.2.2.2.2.2.1
theorem dL_law_684 : decode cL_law 684 = .ok (.iaload, 1) := bdL_law_676.2.2.2.2.2.2.2.2.1
theorem dL_law_685 : decode cL_law 685 = .ok (.aload_n 0, 1) := bdL_law_676.2.2.2.2.2.2.2.2.2.1
theorem dL_law_686 : decode cL_law 686 = .ok (.iload_n 3, 1) := bdL_law_676.2.2.2.2.2.2.2.2.2.2.1
theorem dL_law_687 : decode cL_law 687 = .ok (.iconst 3, 1) := bdL_law_676.2.2.2.2.2.2.2.2.2.2.2.1
theorem dL_law_688 : decode cL_law 688 = .ok (.iadd, 1) := bdL_law_676.2.2.2.2.2.2.2.2.2.2.2.2.1
theorem dL_law_689 : decode cL_law 689 = .ok (.iaload, 1) := bdL_law_676.2.2.2.2.2.2.2.2.2.2.2.2.2.1
theorem dL_law_690 : decode cL_law 690 = .ok (.invokevirtual 76, 3) := bdL_law_676.2.2.2.2.2.2.2.2.2.2.2.2.2.2.1
theorem dL_law_693 : decode cL_law 693 = .ok (.pop, 1) := bdL_law_676.2.2.2.2.2.2.2.2.2.2.2.2.2.2.2.1
theorem dL_law_694 : decode cL_law 694 = .ok (.goto 731, 3) := bdL_law_676.2.2.2.2.2.2.2.2.2.2.2.2.2.2.2.2.1
theorem dL_law_697 : decode cL_law 697 = .ok (.aload_n 1, 1) := bdL_law_676.2.2.2.2.2.2.2.2.2.2.2.2.2.2.2.2.2.1
theorem dL_law_698 : decode cL_law 698 = .ok (.invokevirtual 77, 3) := bdL_law_676.2.2.2.2.2.2.2.2.2.2.2.2.2.2.2.2.2.2.1
theorem dL_law_701 : decode cL_law 701 = .ok (.pop, 1) := bdL_law_676.2.2.2.2.2.2.2.2.2.2.2.2.2.2.2.2.2.2.2.1
theorem dL_law_702 : decode cL_law 702 = .ok (.aload_n 2, 1) := bdL_law_676.2.2.2.2.2.2.2.2.2.2.2.2.2.2.2.2.2.2.2.2.1
theorem dL_law_703 : decode cL_law 703 = .ok (.invokevirtual 81, 3) := bdL_law_676.2.2.2.2.2.2.2.2.2.2.2.2.2.2.2.2.2.2.2.2.2.1
theorem dL_law_706 : decode cL_law 706 = .ok (.pop, 1) := bdL_law_676.2.2.2.2.2.2.2.2.2.2.2.2.2.2.2.2.2.2.2.2.2.2.1
theorem dL_law_707 : decode cL_law 707 = .ok (.goto 718, 3) := bdL_law_676.2.2.2.2.2.2.2.2.2.2.2.2.2.2.2.2.2.2.2.2.2.2.2.1
theorem dL_law_710 : decode cL_law 710 = .ok (.aload_n 1, 1) := bdL_law_676.2.2.2.2.2.2.2.2.2.2.2.2.2.2.2.2.2.2.2.2.2.2.2.2.1
theorem dL_law_711 : decode cL_law 711 = .ok (.aload_n 0, 1) := bdL_law_676.2.2.2.2.2.2.2.2.2.2.2.2.2.2.2.2.2.2.2.2.2.2.2.2.2.1
theorem dL_law_712 : decode cL_law 712 = .ok (.iload_n 3, 1) := bdL_law_676.2.2.2.2.2.2.2.2.2.2.2.2.2.2.2.2.2.2.2.2.2.2.2.2.2.2.1
theorem dL_law_713 : decode cL_law 713 = .ok (.iconst 1, 1) := bdL_law_676.2.2.2.2.2.2.2.2.2.2.2.2.2.2.2.2.2.2.2.2.2.2.2.2.2.2.2.1
theorem dL_law_714 : decode cL_law 714 = .ok (.iadd, 1) := bdL_law_676.2.2.2.2.2.2.2.2.2.2.2.2.2.2.2.2.2.2.2.2.2.2.2.2.2.2.2.2.1
theorem dL_law_715 : decode cL_law 715 = .ok (.iaload, 1) := bdL_law_676.2.2.2.2.2.2.2.2.2.2.2.2.2.2.2.2.2.2.2.2.2.2.2.2.2.2.2.2.2.1
theorem dL_law_716 : decode cL_law 716 = .ok (.aload_n 0, 1) := bdL_law_676.2.2.2.2.2.2.2.2.2.2.2.2.2.2.2.2.2.2.2.2.2.2.2.2.2.2.2.2.2.2.1
theorem dL_law_717 : decode cL_law 717 = .ok (.iload_n 3, 1) := bdL_law_676.2.2.2.2.2.2.2.2.2.2.2.2.2.2.2.2.2.2.2.2.2.2.2.2.2.2.2.2.2.2.2.1
theorem dL_law_718 : decode cL_law 718 = .ok (.iconst 2, 1) := bdL_law_676.2.2.2.2.2.2.2.2.2.2.2.2.2.2.2.2.2.2.2.2.2.2.2.2.2.2.2.2.2.2.2.2.1
theorem dL_law_719 : decode cL_law 719 = .ok (.iadd, 1) := bdL_law_676.2.2.2.2.2.2.2.2.2.2.2.2.2.2.2.2.2.2.2.2.2.2.2.2.2.2.2.2.2.2.2.2.2.1
theorem dL_law_720 : decode cL_law 720 = .ok (.iaload, 1) := bdL_law_676.2.2.2.2.2.2.2.2.2.2.2.2.2.2.2.2.2.2.2.2.2.2.2.2.2.2.2.2.2.2.2.2.2.2.1
theorem dL_law_721 : decode cL_law 721 = .ok (.invokevirtual 82, 3) := bdL_law_676.2.2.2.2.2.2.2.2.2.2.2.2.2.2.2.2.2.2.2.2.2.2.2.2.2.2.2.2.2.2.2.2.2.2.2.1
theorem dL_law_724 : decode cL_law 724 = .ok (.pop, 1) := bdL_law_676.2.2.2.2.2.2.2.2.2.2.2.2.2.2.2.2.2.2.2.2.2.2.2.2.2.2.2.2.2.2.2.2.2.2.2.2.1
theorem dL_law_725 : decode cL_law 725 = .ok (.aload_n 2, 1) := bdL_law_676.2.2.2.2.2.2.2.2.2.2.2.2.2.2.2.2.2.2.2.2.2.2.2.2.2.2.2.2.2.2.2.2.2.2.2.2.2.1
theorem dL_law_726 : decode cL_law 726 = .ok (.aload_n 0, 1) := bdL_law_676.2.2.2.2.2.2.2.2.2.2.2.2.2.2.2.2.2.2.2.2.2.2.2.2.2.2.2.2.2.2.2.2.2.2.2.2.2.2.1
theorem dL_law_727 : decode cL_law 727 = .ok (.iload_n 3, 1) := bdL_law_676.2.2.2.2.2.2.2.2.2.2.2.2.2.2.2.2.2.2.2.2.2.2.2.2.2.2.2.2.2.2.2.2.2.2.2.2.2.2.2
theorem bdL_law_728 : (decode cL_law 728 = .ok (.iconst 1, 1)) ∧ (decode cL_law 729 = .ok (.iadd, 1)) ∧ (decode cL_law 730 = .ok (.iaload, 1)) ∧ (decode cL_law 731 = .ok (.aload_n 0, 1)) ∧ (decode cL_law 732 = .ok (.iload_n 3, 1)) ∧ (decode cL_law 733 = .ok (.iconst 2, 1)) ∧ (decode cL_law 734 = .ok (.iadd, 1)) ∧ (decode cL_law 735 = .ok (.iaload, 1)) ∧ (decode cL_law 736 = .ok (.invokevirtual 85, 3)) ∧ (decode cL_law 739 = .ok (.pop, 1)) ∧ (decode cL_law 740 = .ok (.goto 685, 3)) ∧ (decode cL_law 743 = .ok (.aload_n 1, 1)) ∧ (decode cL_law 744 = .ok (.invokevirtual 86, 3)) ∧ (decode cL_law 747 = .ok (.pop, 1)) ∧ (decode cL_law 748 = .ok (.aload_n 2, 1)) ∧ (decode cL_law 749 = .ok (.invokevirtual 89, 3)) ∧ (decode cL_law 752 = .ok (.pop, 1)) ∧ (decode cL_law 753 = .ok (.goto 672, 3)) ∧ (decode cL_law 756 = .ok (.aload_n 1, 1)) ∧ (decode cL_law 757 = .ok (.aload_n 0, 1)) ∧ (decode cL_law 758 = .ok (.iload_n 3, 1)) ∧ (decode cL_law 759 = .ok (.iconst 1, 1)) ∧ (decode cL_law 760 = .ok (.iadd, 1)) ∧ (decode cL_law 761 = .ok (.iaload, 1)) ∧ (decode cL_law 762 = .ok (.aload_n 0, 1)) ∧ (decode cL_law 763 = .ok (.iload_n 3, 1)) ∧ (decode cL_law 764 = .ok (.iconst 2, 1)) ∧ (decode cL_law 765 = .ok (.iadd, 1)) ∧ (decode cL_law 766 = .ok (.iaload, 1)) ∧ (decode cL_law 767 = .ok (.invokevirtual 90, 3)) ∧ (decode cL_law 770 = .ok (.pop, 1)) ∧ (decode cL_law 771 = .ok (.aload_n 2, 1)) ∧ (decode cL_law 772 = .ok (.aload_n 0, 1)) ∧ (decode cL_law 773 = .ok (.iload_n 3, 1)) ∧ (decode cL_law 774 = .ok (.iconst 1, 1)) ∧ (decode cL_law 775 = .ok (.iadd, 1)) ∧ (decode cL_law 776 = .ok (.iaload, 1)) ∧ (decode cL_law 777 = .ok (.aload_n 0, 1)) ∧ (decode cL_law 778 = .ok (.iload_n 3, 1)) ∧ (decode cL_law 779 = .ok (.iconst 2, 1)) := by decide +kernel
theorem dL_law_728 : decode cL_law 728 = .ok (.iconst 1, 1) := bdL_law_728.1
theorem dL_law_729 : decode cL_law 729 = .ok (.iadd, 1) := bdL_law_728.2.1
theorem dL_law_730 : decode cL_law 730 = .ok (.iaload, 1) := bdL_law_728.2.2.1
theorem dL_law_731 : decode cL_law 731 = .ok (.aload_n 0, 1) := bdL_law_728.2.2.2.1
theorem dL_law_732 : decode cL_law 732 = .ok (.iload_n 3, 1) := bdL_law_728.2.2.2.2.1
theorem dL_law_733 : decode cL_law 733 = .ok (.iconst 2, 1) := bdL_law_728.2.2.2.2.2.1
theorem dL_law_734 : decode cL_law 734 = .ok (.iadd, 1) := bdL_law_728.2.2.2.2.2.2.1
theorem dL_law_735 : decode cL_law 735 = .ok (.iaload, 1) := bdL_law_728.2.2.2.2.2.2.2.1
theorem dL_law_736 : decode cL_law 736 = .ok (.invokevirtual 85, 3) := bdL_law_728.2.2.2.2.2.2.2.2.1
theorem dL_law_739 : decode cL_law 739 = .ok (.pop, 1) := bdL_law_728.2.2.2.2.2.2.2.2.2.1
theorem dL_law_740 : decode cL_law 740 = .ok (.goto 685, 3) := bdL_law_728.2.2.2.2.2.2.2.2.2.2.1
theorem dL_law_743 : decode cL_law 743 = .ok (.aload_n 1, 1) := bdL_law_728.2.2.2.2.2.2.2.2.2.2.2.1
theorem dL_law_744 : decode cL_law 744 = .ok (.invokevirtual 86, 3) := bdL_law_728.2.2.2.2.2.2.2.2.2.2.2.2.1
theorem dL_law_747 : decode cL_law 747 = .ok (.pop, 1) := bdL_law_728.2.2.2.2.2.2.2.2.2.2.2.2.2.1
theorem dL_law_748 : decode cL_law 748 = .ok (.aload_n 2, 1) := bdL_law_728.2.2.2.2.2.2.2.2.2.2.2.2.2.2.1
theorem dL_law_749 : decode cL_law 749 = .ok (.invokevirtual 89, 3) := bdL_law_728.2.2.2.2.2.2.2.2.2.2.2.2.2.2.2.1
theorem dL_law_752 : decode cL_law 752 = .ok (.pop, 1) := bdL_law_728.2.2.2.2.2.2.2.2.2.2.2.2.2.2.2.2.1
theorem dL_law_753 : decode cL_law 753 = .ok (.goto 672, 3) := bdL_law_728.2.2.2.2.2.2.2.2.2.2.2.2.2.2.2.2.2.1
theorem dL_law_756 : decode cL_law 756 = .ok (.aload_n 1, 1) := bdL_law_728.2.2.2.2.2.2.2.2.2.2.2.2.2.2.2.2.2.2.1
theorem dL_law_757 : decode cL_law 757 = .ok (.aload_n 0, 1) := bdL_law_728.2.2.2.2.2.2.2.2.2.2.2.2.2.2.2.2.2.2.2.1
theorem dL_law_758 : decode cL_law 758 = .ok (.iload_n 3, 1) := bdL_law_728.2.2.2.2.2.2.2.2.2.2.2.2.2.2.2.2.2.2.2.2.1
theorem dL_law_759 : decode cL_law 759 = .ok (.iconst 1, 1) := bdL_law_728.2.2.2.2.2.2.2.2.2.2.2.2.2.2.2.2.2.2.2.2.2.1
theorem dL_law_760 : decode cL_law 760 = .ok (.iadd, 1) := bdL_law_728.2.2.2.2.2.2.2.2.2.2.2.2.2.2.2.2.2.2.2.2.2.2.1
theorem dL_law_761 : decode cL_law 761 = .ok (.iaload, 1) := bdL_law_728.2.2.2.2.2.2.2.2.2.2.2.2.2.2.2.2.2.2.2.2.2.2.2.1
theorem dL_law_762 : decode cL_law 762 = .ok (.aload_n 0, 1) := bdL_law_728.2.2.2.2.2.2.2.2.2.2.2.2.2.2.2.2.2.2.2.2.2.2.2.2.1
theorem dL_law_763 : decode cL_law 763 = .ok (.iload_n 3, 1) := bdL_law_728.2.2.2.2.2.2.2.2.2.2.2.2.2.2.2.2.2.2.2.2.2.2.2.2.2.1
theorem dL_law_764 : decode cL_law 764 = .ok (.iconst 2, 1) := bdL_law_728.2.2.2.2.2.2.2.2.2.2.2.2.2.2.2.2.2.2.2.2.2.2.2.2.2.2.1
theorem dL_law_765 : decode cL_law 765 = .ok (.iadd, 1) := bdL_law_728.2.2.2.2.2.2.2.2.2.2.2.2.2.2.2.2.2.2.2.2.2.2.2.2.2.2.2.1
theorem dL_law_766 : decode cL_law 766 = .ok (.iaload, 1) := bdL_law_728.2.2.2.2.2.2.2.2.2.2.2.2.2.2.2.2.2.2.2.2.2.2.2.2.2.2.2.2.1
theorem dL_law_767 : decode cL_law 767 = .ok (.invokevirtual 90, 3) := bdL_law_728.2.2.2.2.2.2.2.2.2.2.2.2.2.2.2.2.2.2.2.2.2.2.2.2.2.2.2.2.2.1
theorem dL_law_770 : decode cL_law 770 = .ok (.pop, 1) := bdL_law_728.2.2.2.2.2.2.2.2.2.2.2.2.2.2.2.2.2.2.2.2.2.2.2.2.2.2.2.2.2.2.1
theorem dL_law_771 : decode cL_law 771 = .ok (.aload_n 2, 1) := bdL_law_728.2.2.2.2.2.2.2.2.2.2.2.2.2.2.2.2.2.2.2.2.2.2.2.2.2.2.2.2.2.2.2.1
theorem dL_law_772 : decode cL_law 772 = .ok (.aload_n 0, 1) := bdL_law_728.2.2.2.2.2.2.2.2.2.2.2.2.2.2.2.2.2.2.2.2.2.2.2.2.2.2.2.2.2.2.2.2.1
theorem dL_law_773 : decode cL_law 773 = .ok (.iload_n 3, 1) := bdL_law_728.2.2.2.2.2.2.2.2.2.2.2.2.2.2.2.2.2.2.2.2.2.2.2.2.2.2.2.2.2.2.2.2.2.1
theorem dL_law_774 : decode cL_law 774 = .ok (.iconst 1, 1) := bdL_law_728.2.2.2.2.2.2.2.2.2.2.2.2.2.2.2.2.2.2.2.2.2.2.2.2.2.2.2.2.2.2.2.2.2.2.1
theorem dL_law_775 : decode cL_law 775 = .ok (.iadd, 1) := bdL_law_728.2.2.2.2.2.2.2.2.2.2.2.2.2.2.2.2.2.2.2.2.2.2.2.2.2.2.2.2.2.2.2.2.2.2.2.1
theorem dL_law_776 : decode cL_law 776 = .ok (.iaload, 1) := bdL_law_728.2.2.2.2.2.2.2.2.2.2.2.2.2.2.2.2.2.2.2.2.2.2.2.2.2.2.2.2.2.2.2.2.2.2.2.2.1
theorem dL_law_777 : decode cL_law 777 = .ok (.aload_n 0, 1) := bdL_law_728.2.2.2.2.2.2.2.2.2.2.2.2.2.2.2.2.2.2.2.2.2.2.2.2.2.2.2.2.2.2.2.2.2.2.2.2.2.1
theorem dL_law_778 : decode cL_law 778 = .ok (.iload_n 3, 1) := bdL_law_728.2.2.2.2.2.2.2.2.2.2.2.2.2.2.2.2.2.2.2.2.2.2.2.2.2.2.2.2.2.2.2.2.2.2.2.2.2.2.1
theorem dL_law_779 : decode cL_law 779 = .ok (.iconst 2, 1) := bdL_law_728.2.2.2.2.2.2.2.2.2.2.2.2.2.2.2.2.2.2.2.2.2.2.2.2.2.2.2.2.2.2.2.2.2.2.2.2.2.2.2
theorem bdL_law_780 : (decode cL_law 780 = .ok (.iadd, 1)) ∧ (decode cL_law 781 = .ok (.iaload, 1)) ∧ (decode cL_law 782 = .ok (.invokevirtual 93, 3)) ∧ (decode cL_law 785 = .ok (.pop, 1)) ∧ (decode cL_law 786 = .ok (.goto 639, 3)) ∧ (decode cL_law 789 = .ok (.aload_n 1, 1)) ∧ (decode cL_law 790 = .ok (.aload_n 0, 1)) ∧ (decode cL_law 791 = .ok (.iload_n 3, 1)) ∧ (decode cL_law 792 = .ok (.iconst 1, 1)) ∧ (decode cL_law 793 = .ok (.iadd, 1)) ∧ (decode cL_law 794 = .ok (.iaload, 1)) ∧ (decode cL_law 795 = .ok (.aload_n 0, 1)) ∧ (decode cL_law 796 = .ok (.iload_n 3, 1)) ∧ (decode cL_law 797 = .ok (.iconst 2, 1)) ∧ (decode cL_law 798 = .ok (.iadd, 1)) ∧ (decode cL_law 799 = .ok (.iaload, 1)) := by decide +kernel
theorem dL_law_780 : decode cL_law 780 = .ok (.iadd, 1) := bdL_law_780.1
theorem dL_law_781 : decode cL_law 781 = .ok (.iaload, 1) := bdL_law_780.2.1
theorem dL_law_782 : decode cL_law 782 = .ok (.invokevirtual 93, 3) := bdL_law_780.2.2.1
theorem dL_law_785 : decode cL_law 785 = .ok (.pop, 1) := bdL_law_780.2.2.2.1
theorem dL_law_786 : decode cL_law 786 = .ok (.goto 639, 3) := bdL_law_780.2.2.2.2.1
theorem dL_law_789 : decode cL_law 789 = .ok (.aload_n 1, 1) := bdL_law_780.2.2.2.2.2.1
theorem dL_law_790 : decode cL_law 790 = .ok (.aload_n 0, 1) := bdL_law_780.2.2.2.2.2.2.1
theorem dL_law_791 : decode cL_law 791 = .ok (.iload_n 3, 1) := bdL_law_780.2.2.2.2.2.2.2.1
theorem dL_law_792 : decode cL_law 792 = .ok (.iconst 1, 1) := bdL_law_780.2.2.2.2.2.2.2.2.1
theorem dL_law_793 : decode cL_law 793 = .ok (.iadd, 1) := bdL_law_780.2.2.2.2.2.2.2.2.2.1
theorem dL_law_794 : decode cL_law 794 = .ok (.iaload, 1) := bdL_law_780.2.2.2.2.2.2.2.2.2.2.1
theorem dL_law_795 : decode cL_law 795 = .ok (.aload_n 0, 1) := bdL_law_780.2.2.2.2.2.2.2.2.2.2.2.1
theorem dL_law_796 : decode cL_law 796 = .ok (.iload_n 3, 1) := bdL_law_780.2.2.2.2.2.2.2.2.2.2.2.2.1
theorem dL_law_797 : decode cL_law 797 = .ok (.iconst 2, 1) := bdL_law_780.2.2.2.2.2.2.2.2.2.2.2.2.2.1
theorem dL_law_798 : decode cL_law 798 = .ok (.iadd, 1) := bdL_law_780.2.2.2.2.2.2.2.2.2.2.2.2.2.2.1
theorem dL_law_799 : decode cL_law 799 = .ok (.iaload, 1) := bdL_law_780.2.2.2.2.2.2.2.2.2.2.2.2.2.2.2

theorem eL_law_0 : decode cL_law 0 = .ok (.new 7, 3) ∧ 0 + 3 = 3 := ⟨by decide +kernel, rfl⟩
theorem eL_law_3 : decode cL_law 3 = .ok (.dup, 1) ∧ 3 + 1 = 4 := ⟨by decide +kernel, rfl⟩
theorem eL_law_4 : decode cL_law 4 = .ok (.invokespecial 9, 3) ∧ 4 + 3 = 7 := ⟨by decide +kernel, rfl⟩
theorem eL_law_7 : decode cL_law 7 = .ok (.astore_n 1, 1) ∧ 7 + 1 = 8 := ⟨by decide +kernel, rfl⟩
theorem eL_law_8 : decode cL_law 8 = .ok (.new 10, 3) ∧ 8 + 3 = 11 := ⟨by decide +kernel, rfl⟩
theorem eL_law_11 : decode cL_law 11 = .ok (.dup, 1) ∧ 11 + 1 = 12 := ⟨by decide +kernel, rfl⟩
theorem eL_law_12 : decode cL_law 12 = .ok (.invokespecial 12, 3) ∧ 12 + 3 = 15 := ⟨by decide +kernel, rfl⟩
theorem eL_law_15 : decode cL_law 15 = .ok (.astore_n 2, 1) ∧ 15 + 1 = 16 := ⟨by decide +kernel, rfl⟩
theorem eL_law_16 : decode cL_law 16 = .ok (.iconst 0, 1) ∧ 16 + 1 = 17 := ⟨by decide +kernel, rfl⟩
theorem eL_law_17 : decode cL_law 17 = .ok (.istore_n 3, 1) ∧ 17 + 1 = 18 := ⟨by decide +kernel, rfl⟩
theorem eL_law_18 : decode cL_law 18 = .ok (.iload_n 3, 1) ∧ 18 + 1 = 19 := ⟨by decide +kernel, rfl⟩
theorem eL_law_19 : decode cL_law 19 = .ok (.aload_n 0, 1) ∧ 19 + 1 = 20 := ⟨by decide +kernel, rfl⟩
theorem eL_law_20 : decode cL_law 20 = .ok (.arraylength, 1) ∧ 20 + 1 = 21 := ⟨by decide +kernel, rfl⟩
theorem eL_law_21 : decode cL_law 21 = .ok (.iconst 5, 1) ∧ 21 + 1 = 22 := ⟨by decide +kernel, rfl⟩
theorem eL_law_22 : decode cL_law 22 = .ok (.isub, 1) ∧ 22 + 1 = 23 := ⟨by decide +kernel, rfl⟩
theorem eL_law_23 : decode cL_law 23 = .ok (.if_icmp .gt 906, 3) ∧ ((23 : Nat) : Int) + 906 = ((929 : Nat) : Int) ∧ 23 + 3 = 26 := ⟨by decide +kernel, by decide, rfl⟩
theorem eL_law_26 : decode cL_law 26 = .ok (.aload_n 0, 1) ∧ 26 + 1 = 27 := ⟨by decide +kernel, rfl⟩
theorem eL_law_27 : decode cL_law 27 = .ok (.iload_n 3, 1) ∧ 27 + 1 = 28 := ⟨by decide +kernel, rfl⟩
theorem eL_law_28 : decode cL_law 28 = .ok (.iaload, 1) ∧ 28 + 1 = 29 := ⟨by decide +kernel, rfl⟩
theorem eL_law_29 : decode cL_law 29 = .ok (.bipush 31, 2) ∧ 29 + 2 = 31 := ⟨by decide +kernel, rfl⟩
theorem eL_law_31 : decode cL_law 31 = .ok (.iand, 1) ∧ 31 + 1 = 32 := ⟨by decide +kernel, rfl⟩
theorem eL_law_32 : decode cL_law 32 = .ok (.tableswitch 891 0 27 #[128, 151, 164, 177, 190, 223, 246, 279, 302, 325, 338, 361, 374, 397, 410, 449, 482, 505, 538, 551, 584, 633, 676, 745, 799, 822, 845, 868], 128) := by decide +kernel
theorem eL_law_160 : decode cL_law 160 = .ok (.aload_n 1, 1) ∧ 160 + 1 = 161 := ⟨by decide +kernel, rfl⟩
theorem eL_law_161 : decode cL_law 161 = .ok (.aload_n 0, 1) ∧ 161 + 1 = 162 := ⟨by decide +kernel, rfl⟩
theorem eL_law_162 : decode cL_law 162 = .ok (.iload_n 3, 1) ∧ 162 + 1 = 163 := ⟨by decide +kernel, rfl⟩
theorem eL_law_163 : decode cL_law 163 = .ok (.iconst 1, 1) ∧ 163 + 1 = 164 := ⟨by decide +kernel, rfl⟩
theorem eL_law_164 : decode cL_law 164 = .ok (.iadd, 1) ∧ 164 + 1 = 165 := ⟨by decide +kernel, rfl⟩
theorem eL_law_165 : decode cL_law 165 = .ok (.iaload, 1) ∧ 165 + 1 = 166 := ⟨by decide +kernel, rfl⟩
theorem eL_law_166 : decode cL_law 166 = .ok (.invokevirtual 13, 3) ∧ 166 + 3 = 169 := ⟨by decide +kernel, rfl⟩
theorem eL_law_169 : decode cL_law 169 = .ok (.aload_n 2, 1) ∧ 169 + 1 = 170 := ⟨by decide +kernel, rfl⟩
theorem eL_law_170 : decode cL_law 170 = .ok (.aload_n 0, 1) ∧ 170 + 1 = 171 := ⟨by decide +kernel, rfl⟩
theorem eL_law_171 : decode cL_law 171 = .ok (.iload_n 3, 1) ∧ 171 + 1 = 172 := ⟨by decide +kernel, rfl⟩
theorem eL_law_172 : decode cL_law 172 = .ok (.iconst 1, 1) ∧ 172 + 1 = 173 := ⟨by decide +kernel, rfl⟩
theorem eL_law_173 : decode cL_law 173 = .ok (.iadd, 1) ∧ 173 + 1 = 174 := ⟨by decide +kernel, rfl⟩
theorem eL_law_174 : decode cL_law 174 = .ok (.iaload, 1) ∧ 174 + 1 = 175 := ⟨by decide +kernel, rfl⟩
theorem eL_law_175 : decode cL_law 175 = .ok (.invokevirtual 17, 3) ∧ 175 + 3 = 178 := ⟨by decide +kernel, rfl⟩
theorem eL_law_178 : decode cL_law 178 = .ok (.if_icmp .eq 745, 3) ∧ ((178 : Nat) : Int) + 745 = ((923 : Nat) : Int) ∧ 178 + 3 = 181 := ⟨by decide +kernel, by decide, rfl⟩
theorem eL_law_181 : decode cL_law 181 = .ok (.iconst 0, 1) ∧ 181 + 1 = 182 := ⟨by decide +kernel, rfl⟩
theorem eL_law_182 : decode cL_law 182 = .ok (.ireturn, 1) := by decide +kernel
theorem eL_law_183 : decode cL_law 183 = .ok (.aload_n 1, 1) ∧ 183 + 1 = 184 := ⟨by decide +kernel, rfl⟩
theorem eL_law_184 : decode cL_law 184 = .ok (.invokevirtual 18, 3) ∧ 184 + 3 = 187 := ⟨by decide +kernel, rfl⟩
theorem eL_law_187 : decode cL_law 187 = .ok (.aload_n 2, 1) ∧ 187 + 1 = 188 := ⟨by decide +kernel, rfl⟩
theorem eL_law_188 : decode cL_law 188 = .ok (.invokevirtual 22, 3) ∧ 188 + 3 = 191 := ⟨by decide +kernel, rfl⟩
theorem eL_law_191 : decode cL_law 191 = .ok (.if_icmp .eq 732, 3) ∧ ((191 : Nat) : Int) + 732 = ((923 : Nat) : Int) ∧ 191 + 3 = 194 := ⟨by decide +kernel, by decide, rfl⟩
theorem eL_law_194 : decode cL_law 194 = .ok (.iconst 0, 1) ∧ 194 + 1 = 195 := ⟨by decide +kernel, rfl⟩
theorem eL_law_195 : decode cL_law 195 = .ok (.ireturn, 1) := by decide +kernel
theorem eL_law_196 : decode cL_law 196 = .ok (.aload_n 1, 1) ∧ 196 + 1 = 197 := ⟨by decide +kernel, rfl⟩
theorem eL_law_197 : decode cL_law 197 = .ok (.invokevirtual 23, 3) ∧ 197 + 3 = 200 := ⟨by decide +kernel, rfl⟩
theorem eL_law_200 : decode cL_law 200 = .ok (.aload_n 2, 1) ∧ 200 + 1 = 201 := ⟨by decide +kernel, rfl⟩
theorem eL_law_201 : decode cL_law 201 = .ok (.invokevirtual 26, 3) ∧ 201 + 3 = 204 := ⟨by decide +kernel, rfl⟩
theorem eL_law_204 : decode cL_law 204 = .ok (.if_icmp .eq 719, 3) ∧ ((204 : Nat) : Int) + 719 = ((923 : Nat) : Int) ∧ 204 + 3 = 207 := ⟨by decide +kernel, by decide, rfl⟩
theorem eL_law_207 : decode cL_law 207 = .ok (.iconst 0, 1) ∧ 207 + 1 = 208 := ⟨by decide +kernel, rfl⟩
theorem eL_law_208 : decode cL_law 208 = .ok (.ireturn, 1) := by decide +kernel
theorem eL_law_209 : decode cL_law 209 = .ok (.aload_n 1, 1) ∧ 209 + 1 = 210 := ⟨by decide +kernel, rfl⟩
theorem eL_law_210 : decode cL_law 210 = .ok (.invokevirtual 27, 3) ∧ 210 + 3 = 213 := ⟨by decide +kernel, rfl⟩
theorem eL_law_213 : decode cL_law 213 = .ok (.aload_n 2, 1) ∧ 213 + 1 = 214 := ⟨by decide +kernel, rfl⟩
theorem eL_law_214 : decode cL_law 214 = .ok (.invokevirtual 30, 3) ∧ 214 + 3 = 217 := ⟨by decide +kernel, rfl⟩
theorem eL_law_217 : decode cL_law 217 = .ok (.if_icmp .eq 706, 3) ∧ ((217 : Nat) : Int) + 706 = ((923 : Nat) : Int) ∧ 217 + 3 = 220 := ⟨by decide +kernel, by decide, rfl⟩
theorem eL_law_220 : decode cL_law 220 = .ok (.iconst 0, 1) ∧ 220 + 1 = 221 := ⟨by decide +kernel, rfl⟩
theorem eL_law_221 : decode cL_law 221 = .ok (.ireturn, 1) := by decide +kernel
theorem eL_law_222 : decode cL_law 222 = .ok (.aload_n 1, 1) ∧ 222 + 1 = 223 := ⟨by decide +kernel, rfl⟩
theorem eL_law_223 : decode cL_law 223 = .ok (.aload_n 0, 1) ∧ 223 + 1 = 224 := ⟨by decide +kernel, rfl⟩
theorem eL_law_224 : decode cL_law 224 = .ok (.iload_n 3, 1) ∧ 224 + 1 = 225 := ⟨by decide +kernel, rfl⟩
theorem eL_law_225 : decode cL_law 225 = .ok (.iconst 1, 1) ∧ 225 + 1 = 226 := ⟨by decide +kernel, rfl⟩
theorem eL_law_226 : decode cL_law 226 = .ok (.iadd, 1) ∧ 226 + 1 = 227 := ⟨by decide +kernel, rfl⟩
theorem eL_law_227 : decode cL_law 227 = .ok (.iaload, 1) ∧ 227 + 1 = 228 := ⟨by decide +kernel, rfl⟩
theorem eL_law_228 : decode cL_law 228 = .ok (.aload_n 0, 1) ∧ 228 + 1 = 229 := ⟨by decide +kernel, rfl⟩
theorem eL_law_229 : decode cL_law 229 = .ok (.iload_n 3, 1) ∧ 229 + 1 = 230 := ⟨by decide +kernel, rfl⟩
theorem eL_law_230 : decode cL_law 230 = .ok (.iconst 2, 1) ∧ 230 + 1 = 231 := ⟨by decide +kernel, rfl⟩
theorem eL_law_231 : decode cL_law 231 = .ok (.iadd, 1) ∧ 231 + 1 = 232 := ⟨by decide +kernel, rfl⟩
theorem eL_law_232 : decode cL_law 232 = .ok (.iaload, 1) ∧ 232 + 1 = 233 := ⟨by decide +kernel, rfl⟩
theorem eL_law_233 : decode cL_law 233 = .ok (.invokevirtual 31, 3) ∧ 233 + 3 = 236 := ⟨by decide +kernel, rfl⟩
theorem eL_law_236 : decode cL_law 236 = .ok (.aload_n 2, 1) ∧ 236 + 1 = 237 := ⟨by decide +kernel, rfl⟩
theorem eL_law_237 : decode cL_law 237 = .ok (.aload_n 0, 1) ∧ 237 + 1 = 238 := ⟨by decide +kernel, rfl⟩
theorem eL_law_238 : decode cL_law 238 = .ok (.iload_n 3, 1) ∧ 238 + 1 = 239 := ⟨by decide +kernel, rfl⟩
theorem eL_law_239 : decode cL_law 239 = .ok (.iconst 1, 1) ∧ 239 + 1 = 240 := ⟨by decide +kernel, rfl⟩
theorem eL_law_240 : decode cL_law 240 = .ok (.iadd, 1) ∧ 240 + 1 = 241 := ⟨by decide +kernel, rfl⟩
theorem eL_law_241 : decode cL_law 241 = .ok (.iaload, 1) ∧ 241 + 1 = 242 := ⟨by decide +kernel, rfl⟩
theorem eL_law_242 : decode cL_law 242 = .ok (.aload_n 0, 1) ∧ 242 + 1 = 243 := ⟨by decide +kernel, rfl⟩
theorem eL_law_243 : decode cL_law 243 = .ok (.iload_n 3, 1) ∧ 243 + 1 = 244 := ⟨by decide +kernel, rfl⟩
theorem eL_law_244 : decode cL_law 244 = .ok (.iconst 2, 1) ∧ 244 + 1 = 245 := ⟨by decide +kernel, rfl⟩
theorem eL_law_245 : decode cL_law 245 = .ok (.iadd, 1) ∧ 245 + 1 = 246 := ⟨by decide +kernel, rfl⟩
theorem eL_law_246 : decode cL_law 246 = .ok (.iaload, 1) ∧ 246 + 1 = 247 := ⟨by decide +kernel, rfl⟩
theorem eL_law_247 : decode cL_law 247 = .ok (.invokevirtual 35, 3) ∧ 247 + 3 = 250 := ⟨by decide +kernel, rfl⟩
theorem eL_law_250 : decode cL_law 250 = .ok (.if_icmp .eq 673, 3) ∧ ((250 : Nat) : Int) + 673 = ((923 : Nat) : Int) ∧ 250 + 3 = 253 := ⟨by decide +kernel, by decide, rfl⟩
theorem eL_law_253 : decode cL_law 253 = .ok (.iconst 0, 1) ∧ 253 + 1 = 254 := ⟨by decide +kernel, rfl⟩
theorem eL_law_254 : decode cL_law 254 = .ok (.ireturn, 1) := by decide +kernel
theorem eL_law_255 : decode cL_law 255 = .ok (.aload_n 1, 1) ∧ 255 + 1 = 256 := ⟨by decide +kernel, rfl⟩
theorem eL_law_256 : decode cL_law 256 = .ok (.aload_n 0, 1) ∧ 256 + 1 = 257 := ⟨by decide +kernel, rfl⟩
theorem eL_law_257 : decode cL_law 257 = .ok (.iload_n 3, 1) ∧ 257 + 1 = 258 := ⟨by decide +kernel, rfl⟩
theorem eL_law_258 : decode cL_law 258 = .ok (.iconst 1, 1) ∧ 258 + 1 = 259 := ⟨by decide +kernel, rfl⟩
theorem eL_law_259 : decode cL_law 259 = .ok (.iadd, 1) ∧ 259 + 1 = 260 := ⟨by decide +kernel, rfl⟩
theorem eL_law_260 : decode cL_law 260 = .ok (.iaload, 1) ∧ 260 + 1 = 261 := ⟨by decide +kernel, rfl⟩
theorem eL_law_261 : decode cL_law 261 = .ok (.invokevirtual 36, 3) ∧ 261 + 3 = 264 := ⟨by decide +kernel, rfl⟩
theorem eL_law_264 : decode cL_law 264 = .ok (.aload_n 2, 1) ∧ 264 + 1 = 265 := ⟨by decide +kernel, rfl⟩
theorem eL_law_265 : decode cL_law 265 = .ok (.aload_n 0, 1) ∧ 265 + 1 = 266 := ⟨by decide +kernel, rfl⟩
theorem eL_law_266 : decode cL_law 266 = .ok (.iload_n 3, 1) ∧ 266 + 1 = 267 := ⟨by decide +kernel, rfl⟩
theorem eL_law_267 : decode cL_law 267 = .ok (.iconst 1, 1) ∧ 267 + 1 = 268 := ⟨by decide +kernel, rfl⟩
theorem eL_law_268 : decode cL_law 268 = .ok (.iadd, 1) ∧ 268 + 1 = 269 := ⟨by decide +kernel, rfl⟩
theorem eL_law_269 : decode cL_law 269 = .ok (.iaload, 1) ∧ 269 + 1 = 270 := ⟨by decide +kernel, rfl⟩
theorem eL_law_270 : decode cL_law 270 = .ok (.invokevirtual 39, 3) ∧ 270 + 3 = 273 := ⟨by decide +kernel, rfl⟩
theorem eL_law_273 : decode cL_law 273 = .ok (.if_icmp .eq 650, 3) ∧ ((273 : Nat) : Int) + 650 = ((923 : Nat) : Int) ∧ 273 + 3 = 276 := ⟨by decide +kernel, by decide, rfl⟩
theorem eL_law_276 : decode cL_law 276 = .ok (.iconst 0, 1) ∧ 276 + 1 = 277 := ⟨by decide +kernel, rfl⟩
theorem eL_law_277 : decode cL_law 277 = .ok (.ireturn, 1) := by decide +kernel
theorem eL_law_278 : decode cL_law 278 = .ok (.aload_n 1, 1) ∧ 278 + 1 = 279 := ⟨by decide +kernel, rfl⟩
theorem eL_law_279 : decode cL_law 279 = .ok (.aload_n 0, 1) ∧ 279 + 1 = 280 := ⟨by decide +kernel, rfl⟩
theorem eL_law_280 : decode cL_law 280 = .ok (.iload_n 3, 1) ∧ 280 + 1 = 281 := ⟨by decide +kernel, rfl⟩
theorem eL_law_281 : decode cL_law 281 = .ok (.iconst 1, 1) ∧ 281 + 1 = 282 := ⟨by decide +kernel, rfl⟩
theorem eL_law_282 : decode cL_law 282 = .ok (.iadd, 1) ∧ 282 + 1 = 283 := ⟨by decide +kernel, rfl⟩
theorem eL_law_283 : decode cL_law 283 = .ok (.iaload, 1) ∧ 283 + 1 = 284 := ⟨by decide +kernel, rfl⟩
theorem eL_law_284 : decode cL_law 284 = .ok (.aload_n 0, 1) ∧ 284 + 1 = 285 := ⟨by decide +kernel, rfl⟩
theorem eL_law_285 : decode cL_law 285 = .ok (.iload_n 3, 1) ∧ 285 + 1 = 286 := ⟨by decide +kernel, rfl⟩
theorem eL_law_286 : decode cL_law 286 = .ok (.iconst 2, 1) ∧ 286 + 1 = 287 := ⟨by decide +kernel, rfl⟩
theorem eL_law_287 : decode cL_law 287 = .ok (.iadd, 1) ∧ 287 + 1 = 288 := ⟨by decide +kernel, rfl⟩
theorem eL_law_288 : decode cL_law 288 = .ok (.iaload, 1) ∧ 288 + 1 = 289 := ⟨by decide +kernel, rfl⟩
theorem eL_law_289 : decode cL_law 289 = .ok (.invokevirtual 40, 3) ∧ 289 + 3 = 292 := ⟨by decide +kernel, rfl⟩
theorem eL_law_292 : decode cL_law 292 = .ok (.aload_n 2, 1) ∧ 292 + 1 = 293 := ⟨by decide +kernel, rfl⟩
theorem eL_law_293 : decode cL_law 293 = .ok (.aload_n 0, 1) ∧ 293 + 1 = 294 := ⟨by decide +kernel, rfl⟩
theorem eL_law_294 : decode cL_law 294 = .ok (.iload_n 3, 1) ∧ 294 + 1 = 295 := ⟨by decide +kernel, rfl⟩
theorem eL_law_295 : decode cL_law 295 = .ok (.iconst 1, 1) ∧ 295 + 1 = 296 := ⟨by decide +kernel, rfl⟩
theorem eL_law_296 : decode cL_law 296 = .ok (.iadd, 1) ∧ 296 + 1 = 297 := ⟨by decide +kernel, rfl⟩
theorem eL_law_297 : decode cL_law 297 = .ok (.iaload, 1) ∧ 297 + 1 = 298 := ⟨by decide +kernel, rfl⟩
theorem eL_law_298 : decode cL_law 298 = .ok (.aload_n 0, 1) ∧ 298 + 1 = 299 := ⟨by decide +kernel, rfl⟩
theorem eL_law_299 : decode cL_law 299 = .ok (.iload_n 3, 1) ∧ 299 + 1 = 300 := ⟨by decide +kernel, rfl⟩
theorem eL_law_300 : decode cL_law 300 = .ok (.iconst 2, 1) ∧ 300 + 1 = 301 := ⟨by decide +kernel, rfl⟩
theorem eL_law_301 : decode cL_law 301 = .ok (.iadd, 1) ∧ 301 + 1 = 302 := ⟨by decide +kernel, rfl⟩
theorem eL_law_302 : decode cL_law 302 = .ok (.iaload, 1) ∧ 302 + 1 = 303 := ⟨by decide +kernel, rfl⟩
theorem eL_law_303 : decode cL_law 303 = .ok (.invokevirtual 43, 3) ∧ 303 + 3 = 306 := ⟨by decide +kernel, rfl⟩
theorem eL_law_306 : decode cL_law 306 = .ok (.if_icmp .eq 617, 3) ∧ ((306 : Nat) : Int) + 617 = ((923 : Nat) : Int) ∧ 306 + 3 = 309 := ⟨by decide +kernel, by decide, rfl⟩
theorem eL_law_309 : decode cL_law 309 = .ok (.iconst 0, 1) ∧ 309 + 1 = 310 := ⟨by decide +kernel, rfl⟩
theorem eL_law_310 : decode cL_law 310 = .ok (.ireturn, 1) := by decide +kernel
theorem eL_law_311 : decode cL_law 311 = .ok (.aload_n 1, 1) ∧ 311 + 1 = 312 := ⟨by decide +kernel, rfl⟩
theorem eL_law_312 : decode cL_law 312 = .ok (.aload_n 0, 1) ∧ 312 + 1 = 313 := ⟨by decide +kernel, rfl⟩
theorem eL_law_313 : decode cL_law 313 = .ok (.iload_n 3, 1) ∧ 313 + 1 = 314 := ⟨by decide +kernel, rfl⟩
theorem eL_law_314 : decode cL_law 314 = .ok (.iconst 1, 1) ∧ 314 + 1 = 315 := ⟨by decide +kernel, rfl⟩
theorem eL_law_315 : decode cL_law 315 = .ok (.iadd, 1) ∧ 315 + 1 = 316 := ⟨by decide +kernel, rfl⟩
theorem eL_law_316 : decode cL_law 316 = .ok (.iaload, 1) ∧ 316 + 1 = 317 := ⟨by decide +kernel, rfl⟩
theorem eL_law_317 : decode cL_law 317 = .ok (.invokevirtual 44, 3) ∧ 317 + 3 = 320 := ⟨by decide +kernel, rfl⟩
theorem eL_law_320 : decode cL_law 320 = .ok (.aload_n 2, 1) ∧ 320 + 1 = 321 := ⟨by decide +kernel, rfl⟩
theorem eL_law_321 : decode cL_law 321 = .ok (.aload_n 0, 1) ∧ 321 + 1 = 322 := ⟨by decide +kernel, rfl⟩
theorem eL_law_322 : decode cL_law 322 = .ok (.iload_n 3, 1) ∧ 322 + 1 = 323 := ⟨by decide +kernel, rfl⟩
theorem eL_law_323 : decode cL_law 323 = .ok (.iconst 1, 1) ∧ 323 + 1 = 324 := ⟨by decide +kernel, rfl⟩
theorem eL_law_324 : decode cL_law 324 = .ok (.iadd, 1) ∧ 324 + 1 = 325 := ⟨by decide +kernel, rfl⟩
theorem eL_law_325 : decode cL_law 325 = .ok (.iaload, 1) ∧ 325 + 1 = 326 := ⟨by decide +kernel, rfl⟩
theorem eL_law_326 : decode cL_law 326 = .ok (.invokevirtual 47, 3) ∧ 326 + 3 = 329 := ⟨by decide +kernel, rfl⟩
theorem eL_law_329 : decode cL_law 329 = .ok (.if_icmp .eq 594, 3) ∧ ((329 : Nat) : Int) + 594 = ((923 : Nat) : Int) ∧ 329 + 3 = 332 := ⟨by decide +kernel, by decide, rfl⟩
theorem eL_law_332 : decode cL_law 332 = .ok (.iconst 0, 1) ∧ 332 + 1 = 333 := ⟨by decide +kernel, rfl⟩
theorem eL_law_333 : decode cL_law 333 = .ok (.ireturn, 1) := by decide +kernel
theorem eL_law_334 : decode cL_law 334 = .ok (.aload_n 1, 1) ∧ 334 + 1 = 335 := ⟨by decide +kernel, rfl⟩
theorem eL_law_335 : decode cL_law 335 = .ok (.aload_n 0, 1) ∧ 335 + 1 = 336 := ⟨by decide +kernel, rfl⟩
theorem eL_law_336 : decode cL_law 336 = .ok (.iload_n 3, 1) ∧ 336 + 1 = 337 := ⟨by decide +kernel, rfl⟩
theorem eL_law_337 : decode cL_law 337 = .ok (.iconst 1, 1) ∧ 337 + 1 = 338 := ⟨by decide +kernel, rfl⟩
theorem eL_law_338 : decode cL_law 338 = .ok (.iadd, 1) ∧ 338 + 1 = 339 := ⟨by decide +kernel, rfl⟩
theorem eL_law_339 : decode cL_law 339 = .ok (.iaload, 1) ∧ 339 + 1 = 340 := ⟨by decide +kernel, rfl⟩
theorem eL_law_340 : decode cL_law 340 = .ok (.invokevirtual 48, 3) ∧ 340 + 3 = 343 := ⟨by decide +kernel, rfl⟩
theorem eL_law_343 : decode cL_law 343 = .ok (.aload_n 2, 1) ∧ 343 + 1 = 344 := ⟨by decide +kernel, rfl⟩
theorem eL_law_344 : decode cL_law 344 = .ok (.aload_n 0, 1) ∧ 344 + 1 = 345 := ⟨by decide +kernel, rfl⟩
theorem eL_law_345 : decode cL_law 345 = .ok (.iload_n 3, 1) ∧ 345 + 1 = 346 := ⟨by decide +kernel, rfl⟩
theorem eL_law_346 : decode cL_law 346 = .ok (.iconst 1, 1) ∧ 346 + 1 = 347 := ⟨by decide +kernel, rfl⟩
theorem eL_law_347 : decode cL_law 347 = .ok (.iadd, 1) ∧ 347 + 1 = 348 := ⟨by decide +kernel, rfl⟩
theorem eL_law_348 : decode cL_law 348 = .ok (.iaload, 1) ∧ 348 + 1 = 349 := ⟨by decide +kernel, rfl⟩
theorem eL_law_349 : decode cL_law 349 = .ok (.invokevirtual 51, 3) ∧ 349 + 3 = 352 := ⟨by decide +kernel, rfl⟩
theorem eL_law_352 : decode cL_law 352 = .ok (.if_icmp .eq 571, 3) ∧ ((352 : Nat) : Int) + 571 = ((923 : Nat) : Int) ∧ 352 + 3 = 355 := ⟨by decide +kernel, by decide, rfl⟩
theorem eL_law_355 : decode cL_law 355 = .ok (.iconst 0, 1) ∧ 355 + 1 = 356 := ⟨by decide +kernel, rfl⟩
theorem eL_law_356 : decode cL_law 356 = .ok (.ireturn, 1) := by decide +kernel
theorem eL_law_357 : decode cL_law 357 = .ok (.aload_n 1, 1) ∧ 357 + 1 = 358 := ⟨by decide +kernel, rfl⟩
theorem eL_law_358 : decode cL_law 358 = .ok (.invokevirtual 52, 3) ∧ 358 + 3 = 361 := ⟨by decide +kernel, rfl⟩
theorem eL_law_361 : decode cL_law 361 = .ok (.aload_n 2, 1) ∧ 361 + 1 = 362 := ⟨by decide +kernel, rfl⟩
theorem eL_law_362 : decode cL_law 362 = .ok (.invokevirtual 55, 3) ∧ 362 + 3 = 365 := ⟨by decide +kernel, rfl⟩
theorem eL_law_365 : decode cL_law 365 = .ok (.if_icmp .eq 558, 3) ∧ ((365 : Nat) : Int) + 558 = ((923 : Nat) : Int) ∧ 365 + 3 = 368 := ⟨by decide +kernel, by decide, rfl⟩
theorem eL_law_368 : decode cL_law 368 = .ok (.iconst 0, 1) ∧ 368 + 1 = 369 := ⟨by decide +kernel, rfl⟩
theorem eL_law_369 : decode cL_law 369 = .ok (.ireturn, 1) := by decide +kernel
theorem eL_law_370 : decode cL_law 370 = .ok (.aload_n 1, 1) ∧ 370 + 1 = 371 := ⟨by decide +kernel, rfl⟩
theorem eL_law_371 : decode cL_law 371 = .ok (.aload_n 0, 1) ∧ 371 + 1 = 372 := ⟨by decide +kernel, rfl⟩
theorem eL_law_372 : decode cL_law 372 = .ok (.iload_n 3, 1) ∧ 372 + 1 = 373 := ⟨by decide +kernel, rfl⟩
theorem eL_law_373 : decode cL_law 373 = .ok (.iconst 1, 1) ∧ 373 + 1 = 374 := ⟨by decide +kernel, rfl⟩
theorem eL_law_374 : decode cL_law 374 = .ok (.iadd, 1) ∧ 374 + 1 = 375 := ⟨by decide +kernel, rfl⟩
theorem eL_law_375 : decode cL_law 375 = .ok (.iaload, 1) ∧ 375 + 1 = 376 := ⟨by decide +kernel, rfl⟩
theorem eL_law_376 : decode cL_law 376 = .ok (.invokevirtual 56, 3) ∧ 376 + 3 = 379 := ⟨by decide +kernel, rfl⟩
theorem eL_law_379 : decode cL_law 379 = .ok (.aload_n 2, 1) ∧ 379 + 1 = 380 := ⟨by decide +kernel, rfl⟩
theorem eL_law_380 : decode cL_law 380 = .ok (.aload_n 0, 1) ∧ 380 + 1 = 381 := ⟨by decide +kernel, rfl⟩
theorem eL_law_381 : decode cL_law 381 = .ok (.iload_n 3, 1) ∧ 381 + 1 = 382 := ⟨by decide +kernel, rfl⟩
theorem eL_law_382 : decode cL_law 382 = .ok (.iconst 1, 1) ∧ 382 + 1 = 383 := ⟨by decide +kernel, rfl⟩
theorem eL_law_383 : decode cL_law 383 = .ok (.iadd, 1) ∧ 383 + 1 = 384 := ⟨by decide +kernel, rfl⟩
theorem eL_law_384 : decode cL_law 384 = .ok (.iaload, 1) ∧ 384 + 1 = 385 := ⟨by decide +kernel, rfl⟩
theorem eL_law_385 : decode cL_law 385 = .ok (.invokevirtual 59, 3) ∧ 385 + 3 = 388 := ⟨by decide +kernel, rfl⟩
theorem eL_law_388 : decode cL_law 388 = .ok (.if_icmp .eq 535, 3) ∧ ((388 : Nat) : Int) + 535 = ((923 : Nat) : Int) ∧ 388 + 3 = 391 := ⟨by decide +kernel, by decide, rfl⟩
theorem eL_law_391 : decode cL_law 391 = .ok (.iconst 0, 1) ∧ 391 + 1 = 392 := ⟨by decide +kernel, rfl⟩
theorem eL_law_392 : decode cL_law 392 = .ok (.ireturn, 1) := by decide +kernel
theorem eL_law_393 : decode cL_law 393 = .ok (.aload_n 1, 1) ∧ 393 + 1 = 394 := ⟨by decide +kernel, rfl⟩
theorem eL_law_394 : decode cL_law 394 = .ok (.invokevirtual 60, 3) ∧ 394 + 3 = 397 := ⟨by decide +kernel, rfl⟩
theorem eL_law_397 : decode cL_law 397 = .ok (.aload_n 2, 1) ∧ 397 + 1 = 398 := ⟨by decide +kernel, rfl⟩
theorem eL_law_398 : decode cL_law 398 = .ok (.invokevirtual 63, 3) ∧ 398 + 3 = 401 := ⟨by decide +kernel, rfl⟩
theorem eL_law_401 : decode cL_law 401 = .ok (.if_icmp .eq 522, 3) ∧ ((401 : Nat) : Int) + 522 = ((923 : Nat) : Int) ∧ 401 + 3 = 404 := ⟨by decide +kernel, by decide, rfl⟩
theorem eL_law_404 : decode cL_law 404 = .ok (.iconst 0, 1) ∧ 404 + 1 = 405 := ⟨by decide +kernel, rfl⟩
theorem eL_law_405 : decode cL_law 405 = .ok (.ireturn, 1) := by decide +kernel
theorem eL_law_406 : decode cL_law 406 = .ok (.aload_n 1, 1) ∧ 406 + 1 = 407 := ⟨by decide +kernel, rfl⟩
theorem eL_law_407 : decode cL_law 407 = .ok (.aload_n 0, 1) ∧ 407 + 1 = 408 := ⟨by decide +kernel, rfl⟩
theorem eL_law_408 : decode cL_law 408 = .ok (.iload_n 3, 1) ∧ 408 + 1 = 409 := ⟨by decide +kernel, rfl⟩
theorem eL_law_409 : decode cL_law 409 = .ok (.iconst 1, 1) ∧ 409 + 1 = 410 := ⟨by decide +kernel, rfl⟩
theorem eL_law_410 : decode cL_law 410 = .ok (.iadd, 1) ∧ 410 + 1 = 411 := ⟨by decide +kernel, rfl⟩
theorem eL_law_411 : decode cL_law 411 = .ok (.iaload, 1) ∧ 411 + 1 = 412 := ⟨by decide +kernel, rfl⟩
theorem eL_law_412 : decode cL_law 412 = .ok (.invokevirtual 64, 3) ∧ 412 + 3 = 415 := ⟨by decide +kernel, rfl⟩
theorem eL_law_415 : decode cL_law 415 = .ok (.aload_n 2, 1) ∧ 415 + 1 = 416 := ⟨by decide +kernel, rfl⟩
theorem eL_law_416 : decode cL_law 416 = .ok (.aload_n 0, 1) ∧ 416 + 1 = 417 := ⟨by decide +kernel, rfl⟩
theorem eL_law_417 : decode cL_law 417 = .ok (.iload_n 3, 1) ∧ 417 + 1 = 418 := ⟨by decide +kernel, rfl⟩
theorem eL_law_418 : decode cL_law 418 = .ok (.iconst 1, 1) ∧ 418 + 1 = 419 := ⟨by decide +kernel, rfl⟩
theorem eL_law_419 : decode cL_law 419 = .ok (.iadd, 1) ∧ 419 + 1 = 420 := ⟨by decide +kernel, rfl⟩
theorem eL_law_420 : decode cL_law 420 = .ok (.iaload, 1) ∧ 420 + 1 = 421 := ⟨by decide +kernel, rfl⟩
theorem eL_law_421 : decode cL_law 421 = .ok (.invokevirtual 67, 3) ∧ 421 + 3 = 424 := ⟨by decide +kernel, rfl⟩
theorem eL_law_424 : decode cL_law 424 = .ok (.if_icmp .eq 499, 3) ∧ ((424 : Nat) : Int) + 499 = ((923 : Nat) : Int) ∧ 424 + 3 = 427 := ⟨by decide +kernel, by decide, rfl⟩
theorem eL_law_427 : decode cL_law 427 = .ok (.iconst 0, 1) ∧ 427 + 1 = 428 := ⟨by decide +kernel, rfl⟩
theorem eL_law_428 : decode cL_law 428 = .ok (.ireturn, 1) := by decide +kernel
theorem eL_law_429 : decode cL_law 429 = .ok (.aload_n 1, 1) ∧ 429 + 1 = 430 := ⟨by decide +kernel, rfl⟩
theorem eL_law_430 : decode cL_law 430 = .ok (.invokevirtual 68, 3) ∧ 430 + 3 = 433 := ⟨by decide +kernel, rfl⟩
theorem eL_law_433 : decode cL_law 433 = .ok (.aload_n 2, 1) ∧ 433 + 1 = 434 := ⟨by decide +kernel, rfl⟩
theorem eL_law_434 : decode cL_law 434 = .ok (.invokevirtual 71, 3) ∧ 434 + 3 = 437 := ⟨by decide +kernel, rfl⟩
theorem eL_law_437 : decode cL_law 437 = .ok (.if_icmp .eq 486, 3) ∧ ((437 : Nat) : Int) + 486 = ((923 : Nat) : Int) ∧ 437 + 3 = 440 := ⟨by decide +kernel, by decide, rfl⟩
theorem eL_law_440 : decode cL_law 440 = .ok (.iconst 0, 1) ∧ 440 + 1 = 441 := ⟨by decide +kernel, rfl⟩
theorem eL_law_441 : decode cL_law 441 = .ok (.ireturn, 1) := by decide +kernel
theorem eL_law_442 : decode cL_law 442 = .ok (.aload_n 1, 1) ∧ 442 + 1 = 443 := ⟨by decide +kernel, rfl⟩
theorem eL_law_443 : decode cL_law 443 = .ok (.aload_n 0, 1) ∧ 443 + 1 = 444 := ⟨by decide +kernel, rfl⟩
theorem eL_law_444 : decode cL_law 444 = .ok (.iload_n 3, 1) ∧ 444 + 1 = 445 := ⟨by decide +kernel, rfl⟩
theorem eL_law_445 : decode cL_law 445 = .ok (.iconst 1, 1) ∧ 445 + 1 = 446 := ⟨by decide +kernel, rfl⟩
theorem eL_law_446 : decode cL_law 446 = .ok (.iadd, 1) ∧ 446 + 1 = 447 := ⟨by decide +kernel, rfl⟩
theorem eL_law_447 : decode cL_law 447 = .ok (.iaload, 1) ∧ 447 + 1 = 448 := ⟨by decide +kernel, rfl⟩
theorem eL_law_448 : decode cL_law 448 = .ok (.ifCond .eq 7, 3) ∧ ((448 : Nat) : Int) + 7 = ((455 : Nat) : Int) ∧ 448 + 3 = 451 := ⟨by decide +kernel, by decide, rfl⟩
theorem eL_law_451 : decode cL_law 451 = .ok (.iconst 1, 1) ∧ 451 + 1 = 452 := ⟨by decide +kernel, rfl⟩
theorem eL_law_452 : decode cL_law 452 = .ok (.goto 4, 3) ∧ ((452 : Nat) : Int) + 4 = ((456 : Nat) : Int) := ⟨by decide +kernel, by decide⟩
theorem eL_law_455 : decode cL_law 455 = .ok (.iconst 0, 1) ∧ 455 + 1 = 456 := ⟨by decide +kernel, rfl⟩
theorem eL_law_456 : decode cL_law 456 = .ok (.invokevirtual 72, 3) ∧ 456 + 3 = 459 := ⟨by decide +kernel, rfl⟩
theorem eL_law_459 : decode cL_law 459 = .ok (.aload_n 2, 1) ∧ 459 + 1 = 460 := ⟨by decide +kernel, rfl⟩
theorem eL_law_460 : decode cL_law 460 = .ok (.aload_n 0, 1) ∧ 460 + 1 = 461 := ⟨by decide +kernel, rfl⟩
theorem eL_law_461 : decode cL_law 461 = .ok (.iload_n 3, 1) ∧ 461 + 1 = 462 := ⟨by decide +kernel, rfl⟩
theorem eL_law_462 : decode cL_law 462 = .ok (.iconst 1, 1) ∧ 462 + 1 = 463 := ⟨by decide +kernel, rfl⟩
theorem eL_law_463 : decode cL_law 463 = .ok (.iadd, 1) ∧ 463 + 1 = 464 := ⟨by decide +kernel, rfl⟩
theorem eL_law_464 : decode cL_law 464 = .ok (.iaload, 1) ∧ 464 + 1 = 465 := ⟨by decide +kernel, rfl⟩
theorem eL_law_465 : decode cL_law 465 = .ok (.ifCond .eq 7, 3) ∧ ((465 : Nat) : Int) + 7 = ((472 : Nat) : Int) ∧ 465 + 3 = 468 := ⟨by decide +kernel, by decide, rfl⟩
theorem eL_law_468 : decode cL_law 468 = .ok (.iconst 1, 1) ∧ 468 + 1 = 469 := ⟨by decide +kernel, rfl⟩
theorem eL_law_469 : decode cL_law 469 = .ok (.goto 4, 3) ∧ ((469 : Nat) : Int) + 4 = ((473 : Nat) : Int) := ⟨by decide +kernel, by decide⟩
theorem eL_law_472 : decode cL_law 472 = .ok (.iconst 0, 1) ∧ 472 + 1 = 473 := ⟨by decide +kernel, rfl⟩
theorem eL_law_473 : decode cL_law 473 = .ok (.invokevirtual 76, 3) ∧ 473 + 3 = 476 := ⟨by decide +kernel, rfl⟩
theorem eL_law_476 : decode cL_law 476 = .ok (.if_icmp .eq 447, 3) ∧ ((476 : Nat) : Int) + 447 = ((923 : Nat) : Int) ∧ 476 + 3 = 479 := ⟨by decide +kernel, by decide, rfl⟩
theorem eL_law_479 : decode cL_law 479 = .ok (.iconst 0, 1) ∧ 479 + 1 = 480 := ⟨by decide +kernel, rfl⟩
theorem eL_law_480 : decode cL_law 480 = .ok (.ireturn, 1) := by decide +kernel
theorem eL_law_481 : decode cL_law 481 = .ok (.aload_n 1, 1) ∧ 481 + 1 = 482 := ⟨by decide +kernel, rfl⟩
theorem eL_law_482 : decode cL_law 482 = .ok (.aload_n 0, 1) ∧ 482 + 1 = 483 := ⟨by decide +kernel, rfl⟩
theorem eL_law_483 : decode cL_law 483 = .ok (.iload_n 3, 1) ∧ 483 + 1 = 484 := ⟨by decide +kernel, rfl⟩
theorem eL_law_484 : decode cL_law 484 = .ok (.iconst 1, 1) ∧ 484 + 1 = 485 := ⟨by decide +kernel, rfl⟩
theorem eL_law_485 : decode cL_law 485 = .ok (.iadd, 1) ∧ 485 + 1 = 486 := ⟨by decide +kernel, rfl⟩
theorem eL_law_486 : decode cL_law 486 = .ok (.iaload, 1) ∧ 486 + 1 = 487 := ⟨by decide +kernel, rfl⟩
theorem eL_law_487 : decode cL_law 487 = .ok (.aload_n 0, 1) ∧ 487 + 1 = 488 := ⟨by decide +kernel, rfl⟩
theorem eL_law_488 : decode cL_law 488 = .ok (.iload_n 3, 1) ∧ 488 + 1 = 489 := ⟨by decide +kernel, rfl⟩
theorem eL_law_489 : decode cL_law 489 = .ok (.iconst 2, 1) ∧ 489 + 1 = 490 := ⟨by decide +kernel, rfl⟩
theorem eL_law_490 : decode cL_law 490 = .ok (.iadd, 1) ∧ 490 + 1 = 491 := ⟨by decide +kernel, rfl⟩
theorem eL_law_491 : decode cL_law 491 = .ok (.iaload, 1) ∧ 491 + 1 = 492 := ⟨by decide +kernel, rfl⟩
theorem eL_law_492 : decode cL_law 492 = .ok (.invokevirtual 77, 3) ∧ 492 + 3 = 495 := ⟨by decide +kernel, rfl⟩
theorem eL_law_495 : decode cL_law 495 = .ok (.aload_n 2, 1) ∧ 495 + 1 = 496 := ⟨by decide +kernel, rfl⟩
theorem eL_law_496 : decode cL_law 496 = .ok (.aload_n 0, 1) ∧ 496 + 1 = 497 := ⟨by decide +kernel, rfl⟩
theorem eL_law_497 : decode cL_law 497 = .ok (.iload_n 3, 1) ∧ 497 + 1 = 498 := ⟨by decide +kernel, rfl⟩
theorem eL_law_498 : decode cL_law 498 = .ok (.iconst 1, 1) ∧ 498 + 1 = 499 := ⟨by decide +kernel, rfl⟩
theorem eL_law_499 : decode cL_law 499 = .ok (.iadd, 1) ∧ 499 + 1 = 500 := ⟨by decide +kernel, rfl⟩
theorem eL_law_500 : decode cL_law 500 = .ok (.iaload, 1) ∧ 500 + 1 = 501 := ⟨by decide +kernel, rfl⟩
theorem eL_law_501 : decode cL_law 501 = .ok (.aload_n 0, 1) ∧ 501 + 1 = 502 := ⟨by decide +kernel, rfl⟩
theorem eL_law_502 : decode cL_law 502 = .ok (.iload_n 3, 1) ∧ 502 + 1 = 503 := ⟨by decide +kernel, rfl⟩
theorem eL_law_503 : decode cL_law 503 = .ok (.iconst 2, 1) ∧ 503 + 1 = 504 := ⟨by decide +kernel, rfl⟩
theorem eL_law_504 : decode cL_law 504 = .ok (.iadd, 1) ∧ 504 + 1 = 505 := ⟨by decide +kernel, rfl⟩
theorem eL_law_505 : decode cL_law 505 = .ok (.iaload, 1) ∧ 505 + 1 = 506 := ⟨by decide +kernel, rfl⟩
theorem eL_law_506 : decode cL_law 506 = .ok (.invokevirtual 80, 3) ∧ 506 + 3 = 509 := ⟨by decide +kernel, rfl⟩
theorem eL_law_509 : decode cL_law 509 = .ok (.if_icmp .eq 414, 3) ∧ ((509 : Nat) : Int) + 414 = ((923 : Nat) : Int) ∧ 509 + 3 = 512 := ⟨by decide +kernel, by decide, rfl⟩
theorem eL_law_512 : decode cL_law 512 = .ok (.iconst 0, 1) ∧ 512 + 1 = 513 := ⟨by decide +kernel, rfl⟩
theorem eL_law_513 : decode cL_law 513 = .ok (.ireturn, 1) := by decide +kernel
theorem eL_law_514 : decode cL_law 514 = .ok (.aload_n 1, 1) ∧ 514 + 1 = 515 := ⟨by decide +kernel, rfl⟩
theorem eL_law_515 : decode cL_law 515 = .ok (.aload_n 0, 1) ∧ 515 + 1 = 516 := ⟨by decide +kernel, rfl⟩
theorem eL_law_516 : decode cL_law 516 = .ok (.iload_n 3, 1) ∧ 516 + 1 = 517 := ⟨by decide +kernel, rfl⟩
theorem eL_law_517 : decode cL_law 517 = .ok (.iconst 1, 1) ∧ 517 + 1 = 518 := ⟨by decide +kernel, rfl⟩
theorem eL_law_518 : decode cL_law 518 = .ok (.iadd, 1) ∧ 518 + 1 = 519 := ⟨by decide +kernel, rfl⟩
theorem eL_law_519 : decode cL_law 519 = .ok (.iaload, 1) ∧ 519 + 1 = 520 := ⟨by decide +kernel, rfl⟩
theorem eL_law_520 : decode cL_law 520 = .ok (.invokevirtual 81, 3) ∧ 520 + 3 = 523 := ⟨by decide +kernel, rfl⟩
theorem eL_law_523 : decode cL_law 523 = .ok (.aload_n 2, 1) ∧ 523 + 1 = 524 := ⟨by decide +kernel, rfl⟩
theorem eL_law_524 : decode cL_law 524 = .ok (.aload_n 0, 1) ∧ 524 + 1 = 525 := ⟨by decide +kernel, rfl⟩
theorem eL_law_525 : decode cL_law 525 = .ok (.iload_n 3, 1) ∧ 525 + 1 = 526 := ⟨by decide +kernel, rfl⟩
theorem eL_law_526 : decode cL_law 526 = .ok (.iconst 1, 1) ∧ 526 + 1 = 527 := ⟨by decide +kernel, rfl⟩
theorem eL_law_527 : decode cL_law 527 = .ok (.iadd, 1) ∧ 527 + 1 = 528 := ⟨by decide +kernel, rfl⟩
theorem eL_law_528 : decode cL_law 528 = .ok (.iaload, 1) ∧ 528 + 1 = 529 := ⟨by decide +kernel, rfl⟩
theorem eL_law_529 : decode cL_law 529 = .ok (.invokevirtual 84, 3) ∧ 529 + 3 = 532 := ⟨by decide +kernel, rfl⟩
theorem eL_law_532 : decode cL_law 532 = .ok (.if_icmp .eq 391, 3) ∧ ((532 : Nat) : Int) + 391 = ((923 : Nat) : Int) ∧ 532 + 3 = 535 := ⟨by decide +kernel, by decide, rfl⟩
theorem eL_law_535 : decode cL_law 535 = .ok (.iconst 0, 1) ∧ 535 + 1 = 536 := ⟨by decide +kernel, rfl⟩
theorem eL_law_536 : decode cL_law 536 = .ok (.ireturn, 1) := by decide +kernel
theorem eL_law_537 : decode cL_law 537 = .ok (.aload_n 1, 1) ∧ 537 + 1 = 538 := ⟨by decide +kernel, rfl⟩
theorem eL_law_538 : decode cL_law 538 = .ok (.aload_n 0, 1) ∧ 538 + 1 = 539 := ⟨by decide +kernel, rfl⟩
theorem eL_law_539 : decode cL_law 539 = .ok (.iload_n 3, 1) ∧ 539 + 1 = 540 := ⟨by decide +kernel, rfl⟩
theorem eL_law_540 : decode cL_law 540 = .ok (.iconst 1, 1) ∧ 540 + 1 = 541 := ⟨by decide +kernel, rfl⟩
theorem eL_law_541 : decode cL_law 541 = .ok (.iadd, 1) ∧ 541 + 1 = 542 := ⟨by decide +kernel, rfl⟩
theorem eL_law_542 : decode cL_law 542 = .ok (.iaload, 1) ∧ 542 + 1 = 543 := ⟨by decide +kernel, rfl⟩
theorem eL_law_543 : decode cL_law 543 = .ok (.aload_n 0, 1) ∧ 543 + 1 = 544 := ⟨by decide +kernel, rfl⟩
theorem eL_law_544 : decode cL_law 544 = .ok (.iload_n 3, 1) ∧ 544 + 1 = 545 := ⟨by decide +kernel, rfl⟩
theorem eL_law_545 : decode cL_law 545 = .ok (.iconst 2, 1) ∧ 545 + 1 = 546 := ⟨by decide +kernel, rfl⟩
theorem eL_law_546 : decode cL_law 546 = .ok (.iadd, 1) ∧ 546 + 1 = 547 := ⟨by decide +kernel, rfl⟩
theorem eL_law_547 : decode cL_law 547 = .ok (.iaload, 1) ∧ 547 + 1 = 548 := ⟨by decide +kernel, rfl⟩
theorem eL_law_548 : decode cL_law 548 = .ok (.invokevirtual 85, 3) ∧ 548 + 3 = 551 := ⟨by decide +kernel, rfl⟩
theorem eL_law_551 : decode cL_law 551 = .ok (.aload_n 2, 1) ∧ 551 + 1 = 552 := ⟨by decide +kernel, rfl⟩
theorem eL_law_552 : decode cL_law 552 = .ok (.aload_n 0, 1) ∧ 552 + 1 = 553 := ⟨by decide +kernel, rfl⟩
theorem eL_law_553 : decode cL_law 553 = .ok (.iload_n 3, 1) ∧ 553 + 1 = 554 := ⟨by decide +kernel, rfl⟩
theorem eL_law_554 : decode cL_law 554 = .ok (.iconst 1, 1) ∧ 554 + 1 = 555 := ⟨by decide +kernel, rfl⟩
theorem eL_law_555 : decode cL_law 555 = .ok (.iadd, 1) ∧ 555 + 1 = 556 := ⟨by decide +kernel, rfl⟩
theorem eL_law_556 : decode cL_law 556 = .ok (.iaload, 1) ∧ 556 + 1 = 557 := ⟨by decide +kernel, rfl⟩
theorem eL_law_557 : decode cL_law 557 = .ok (.aload_n 0, 1) ∧ 557 + 1 = 558 := ⟨by decide +kernel, rfl⟩
theorem eL_law_558 : decode cL_law 558 = .ok (.iload_n 3, 1) ∧ 558 + 1 = 559 := ⟨by decide +kernel, rfl⟩
theorem eL_law_559 : decode cL_law 559 = .ok (.iconst 2, 1) ∧ 559 + 1 = 560 := ⟨by decide +kernel, rfl⟩
theorem eL_law_560 : decode cL_law 560 = .ok (.iadd, 1) ∧ 560 + 1 = 561 := ⟨by decide +kernel, rfl⟩
theorem eL_law_561 : decode cL_law 561 = .ok (.iaload, 1) ∧ 561 + 1 = 562 := ⟨by decide +kernel, rfl⟩
theorem eL_law_562 : decode cL_law 562 = .ok (.invokevirtual 88, 3) ∧ 562 + 3 = 565 := ⟨by decide +kernel, rfl⟩
theorem eL_law_565 : decode cL_law 565 = .ok (.if_icmp .eq 358, 3) ∧ ((565 : Nat) : Int) + 358 = ((923 : Nat) : Int) ∧ 565 + 3 = 568 := ⟨by decide +kernel, by decide, rfl⟩
theorem eL_law_568 : decode cL_law 568 = .ok (.iconst 0, 1) ∧ 568 + 1 = 569 := ⟨by decide +kernel, rfl⟩
theorem eL_law_569 : decode cL_law 569 = .ok (.ireturn, 1) := by decide +kernel
theorem eL_law_570 : decode cL_law 570 = .ok (.aload_n 1, 1) ∧ 570 + 1 = 571 := ⟨by decide +kernel, rfl⟩
theorem eL_law_571 : decode cL_law 571 = .ok (.invokevirtual 89, 3) ∧ 571 + 3 = 574 := ⟨by decide +kernel, rfl⟩
theorem eL_law_574 : decode cL_law 574 = .ok (.aload_n 2, 1) ∧ 574 + 1 = 575 := ⟨by decide +kernel, rfl⟩
theorem eL_law_575 : decode cL_law 575 = .ok (.invokevirtual 92, 3) ∧ 575 + 3 = 578 := ⟨by decide +kernel, rfl⟩
theorem eL_law_578 : decode cL_law 578 = .ok (.if_icmp .eq 345, 3) ∧ ((578 : Nat) : Int) + 345 = ((923 : Nat) : Int) ∧ 578 + 3 = 581 := ⟨by decide +kernel, by decide, rfl⟩
theorem eL_law_581 : decode cL_law 581 = .ok (.iconst 0, 1) ∧ 581 + 1 = 582 := ⟨by decide +kernel, rfl⟩
theorem eL_law_582 : decode cL_law 582 = .ok (.ireturn, 1) := by decide +kernel
theorem eL_law_583 : decode cL_law 583 = .ok (.aload_n 1, 1) ∧ 583 + 1 = 584 := ⟨by decide +kernel, rfl⟩
theorem eL_law_584 : decode cL_law 584 = .ok (.aload_n 0, 1) ∧ 584 + 1 = 585 := ⟨by decide +kernel, rfl⟩
theorem eL_law_585 : decode cL_law 585 = .ok (.iload_n 3, 1) ∧ 585 + 1 = 586 := ⟨by decide +kernel, rfl⟩
theorem eL_law_586 : decode cL_law 586 = .ok (.iconst 1, 1) ∧ 586 + 1 = 587 := ⟨by decide +kernel, rfl⟩
theorem eL_law_587 : decode cL_law 587 = .ok (.iadd, 1) ∧ 587 + 1 = 588 := ⟨by decide +kernel, rfl⟩
theorem eL_law_588 : decode cL_law 588 = .ok (.iaload, 1) ∧ 588 + 1 = 589 := ⟨by decide +kernel, rfl⟩
theorem eL_law_589 : decode cL_law 589 = .ok (.aload_n 0, 1) ∧ 589 + 1 = 590 := ⟨by decide +kernel, rfl⟩
theorem eL_law_590 : decode cL_law 590 = .ok (.iload_n 3, 1) ∧ 590 + 1 = 591 := ⟨by decide +kernel, rfl⟩
theorem eL_law_591 : decode cL_law 591 = .ok (.iconst 2, 1) ∧ 591 + 1 = 592 := ⟨by decide +kernel, rfl⟩
theorem eL_law_592 : decode cL_law 592 = .ok (.iadd, 1) ∧ 592 + 1 = 593 := ⟨by decide +kernel, rfl⟩
theorem eL_law_593 : decode cL_law 593 = .ok (.iaload, 1) ∧ 593 + 1 = 594 := ⟨by decide +kernel, rfl⟩
theorem eL_law_594 : decode cL_law 594 = .ok (.invokevirtual 93, 3) ∧ 594 + 3 = 597 := ⟨by decide +kernel, rfl⟩
theorem eL_law_597 : decode cL_law 597 = .ok (.aload_n 2, 1) ∧ 597 + 1 = 598 := ⟨by decide +kernel, rfl⟩
theorem eL_law_598 : decode cL_law 598 = .ok (.aload_n 0, 1) ∧ 598 + 1 = 599 := ⟨by decide +kernel, rfl⟩
theorem eL_law_599 : decode cL_law 599 = .ok (.iload_n 3, 1) ∧ 599 + 1 = 600 := ⟨by decide +kernel, rfl⟩
theorem eL_law_600 : decode cL_law 600 = .ok (.iconst 1, 1) ∧ 600 + 1 = 601 := ⟨by decide +kernel, rfl⟩
theorem eL_law_601 : decode cL_law 601 = .ok (.iadd, 1) ∧ 601 + 1 = 602 := ⟨by decide +kernel, rfl⟩
theorem eL_law_602 : decode cL_law 602 = .ok (.iaload, 1) ∧ 602 + 1 = 603 := ⟨by decide +kernel, rfl⟩
theorem eL_law_603 : decode cL_law 603 = .ok (.aload_n 0, 1) ∧ 603 + 1 = 604 := ⟨by decide +kernel, rfl⟩
theorem eL_law_604 : decode cL_law 604 = .ok (.iload_n 3, 1) ∧ 604 + 1 = 605 := ⟨by decide +kernel, rfl⟩
theorem eL_law_605 : decode cL_law 605 = .ok (.iconst 2, 1) ∧ 605 + 1 = 606 := ⟨by decide +kernel, rfl⟩
theorem eL_law_606 : decode cL_law 606 = .ok (.iadd, 1) ∧ 606 + 1 = 607 := ⟨by decide +kernel, rfl⟩
theorem eL_law_607 : decode cL_law 607 = .ok (.iaload, 1) ∧ 607 + 1 = 608 := ⟨by decide +kernel, rfl⟩
theorem eL_law_608 : decode cL_law 608 = .ok (.invokevirtual 96, 3) ∧ 608 + 3 = 611 := ⟨by decide +kernel, rfl⟩
theorem eL_law_611 : decode cL_law 611 = .ok (.if_icmp .eq 312, 3) ∧ ((611 : Nat) : Int) + 312 = ((923 : Nat) : Int) ∧ 611 + 3 = 614 := ⟨by decide +kernel, by decide, rfl⟩
theorem eL_law_614 : decode cL_law 614 = .ok (.iconst 0, 1) ∧ 614 + 1 = 615 := ⟨by decide +kernel, rfl⟩
theorem eL_law_615 : decode cL_law 615 = .ok (.ireturn, 1) := by decide +kernel
theorem eL_law_616 : decode cL_law 616 = .ok (.aload_n 1, 1) ∧ 616 + 1 = 617 := ⟨by decide +kernel, rfl⟩
theorem eL_law_617 : decode cL_law 617 = .ok (.aload_n 0, 1) ∧ 617 + 1 = 618 := ⟨by decide +kernel, rfl⟩
theorem eL_law_618 : decode cL_law 618 = .ok (.iload_n 3, 1) ∧ 618 + 1 = 619 := ⟨by decide +kernel, rfl⟩
theorem eL_law_619 : decode cL_law 619 = .ok (.iconst 1, 1) ∧ 619 + 1 = 620 := ⟨by decide +kernel, rfl⟩
theorem eL_law_620 : decode cL_law 620 = .ok (.iadd, 1) ∧ 620 + 1 = 621 := ⟨by decide +kernel, rfl⟩
theorem eL_law_621 : decode cL_law 621 = .ok (.iaload, 1) ∧ 621 + 1 = 622 := ⟨by decide +kernel, rfl⟩
theorem eL_law_622 : decode cL_law 622 = .ok (.aload_n 0, 1) ∧ 622 + 1 = 623 := ⟨by decide +kernel, rfl⟩
theorem eL_law_623 : decode cL_law 623 = .ok (.iload_n 3, 1) ∧ 623 + 1 = 624 := ⟨by decide +kernel, rfl⟩
theorem eL_law_624 : decode cL_law 624 = .ok (.iconst 2, 1) ∧ 624 + 1 = 625 := ⟨by decide +kernel, rfl⟩
theorem eL_law_625 : decode cL_law 625 = .ok (.iadd, 1) ∧ 625 + 1 = 626 := ⟨by decide +kernel, rfl⟩
theorem eL_law_626 : decode cL_law 626 = .ok (.iaload, 1) ∧ 626 + 1 = 627 := ⟨by decide +kernel, rfl⟩
theorem eL_law_627 : decode cL_law 627 = .ok (.ifCond .eq 7, 3) ∧ ((627 : Nat) : Int) + 7 = ((634 : Nat) : Int) ∧ 627 + 3 = 630 := ⟨by decide +kernel, by decide, rfl⟩
theorem eL_law_630 : decode cL_law 630 = .ok (.iconst 1, 1) ∧ 630 + 1 = 631 := ⟨by decide +kernel, rfl⟩
theorem eL_law_631 : decode cL_law 631 = .ok (.goto 4, 3) ∧ ((631 : Nat) : Int) + 4 = ((635 : Nat) : Int) := ⟨by decide +kernel, by decide⟩
theorem eL_law_634 : decode cL_law 634 = .ok (.iconst 0, 1) ∧ 634 + 1 = 635 := ⟨by decide +kernel, rfl⟩
theorem eL_law_635 : decode cL_law 635 = .ok (.invokevirtual 97, 3) ∧ 635 + 3 = 638 := ⟨by decide +kernel, rfl⟩
theorem eL_law_638 : decode cL_law 638 = .ok (.aload_n 2, 1) ∧ 638 + 1 = 639 := ⟨by decide +kernel, rfl⟩
theorem eL_law_639 : decode cL_law 639 = .ok (.aload_n 0, 1) ∧ 639 + 1 = 640 := ⟨by decide +kernel, rfl⟩
theorem eL_law_640 : decode cL_law 640 = .ok (.iload_n 3, 1) ∧ 640 + 1 = 641 := ⟨by decide +kernel, rfl⟩
theorem eL_law_641 : decode cL_law 641 = .ok (.iconst 1, 1) ∧ 641 + 1 = 642 := ⟨by decide +kernel, rfl⟩
theorem eL_law_642 : decode cL_law 642 = .ok (.iadd, 1) ∧ 642 + 1 = 643 := ⟨by decide +kernel, rfl⟩
theorem eL_law_643 : decode cL_law 643 = .ok (.iaload, 1) ∧ 643 + 1 = 644 := ⟨by decide +kernel, rfl⟩
theorem eL_law_644 : decode cL_law 644 = .ok (.aload_n 0, 1) ∧ 644 + 1 = 645 := ⟨by decide +kernel, rfl⟩
theorem eL_law_645 : decode cL_law 645 = .ok (.iload_n 3, 1) ∧ 645 + 1 = 646 := ⟨by decide +kernel, rfl⟩
theorem eL_law_646 : decode cL_law 646 = .ok (.iconst 2, 1) ∧ 646 + 1 = 647 := ⟨by decide +kernel, rfl⟩
theorem eL_law_647 : decode cL_law 647 = .ok (.iadd, 1) ∧ 647 + 1 = 648 := ⟨by decide +kernel, rfl⟩
theorem eL_law_648 : decode cL_law 648 = .ok (.iaload, 1) ∧ 648 + 1 = 649 := ⟨by decide +kernel, rfl⟩
theorem eL_law_649 : decode cL_law 649 = .ok (.ifCond .eq 7, 3) ∧ ((649 : Nat) : Int) + 7 = ((656 : Nat) : Int) ∧ 649 + 3 = 652 := ⟨by decide +kernel, by decide, rfl⟩
theorem eL_law_652 : decode cL_law 652 = .ok (.iconst 1, 1) ∧ 652 + 1 = 653 := ⟨by decide +kernel, rfl⟩
theorem eL_law_653 : decode cL_law 653 = .ok (.goto 4, 3) ∧ ((653 : Nat) : Int) + 4 = ((657 : Nat) : Int) := ⟨by decide +kernel, by decide⟩
theorem eL_law_656 : decode cL_law 656 = .ok (.iconst 0, 1) ∧ 656 + 1 = 657 := ⟨by decide +kernel, rfl⟩
theorem eL_law_657 : decode cL_law 657 = .ok (.invokevirtual 101, 3) ∧ 657 + 3 = 660 := ⟨by decide +kernel, rfl⟩
theorem eL_law_660 : decode cL_law 660 = .ok (.if_icmp .eq 263, 3) ∧ ((660 : Nat) : Int) + 263 = ((923 : Nat) : Int) ∧ 660 + 3 = 663 := ⟨by decide +kernel, by decide, rfl⟩
theorem eL_law_663 : decode cL_law 663 = .ok (.iconst 0, 1) ∧ 663 + 1 = 664 := ⟨by decide +kernel, rfl⟩
theorem eL_law_664 : decode cL_law 664 = .ok (.ireturn, 1) := by decide +kernel
theorem eL_law_665 : decode cL_law 665 = .ok (.aload_n 1, 1) ∧ 665 + 1 = 666 := ⟨by decide +kernel, rfl⟩
theorem eL_law_666 : decode cL_law 666 = .ok (.aload_n 0, 1) ∧ 666 + 1 = 667 := ⟨by decide +kernel, rfl⟩
theorem eL_law_667 : decode cL_law 667 = .ok (.iload_n 3, 1) ∧ 667 + 1 = 668 := ⟨by decide +kernel, rfl⟩
theorem eL_law_668 : decode cL_law 668 = .ok (.iconst 1, 1) ∧ 668 + 1 = 669 := ⟨by decide +kernel, rfl⟩
theorem eL_law_669 : decode cL_law 669 = .ok (.iadd, 1) ∧ 669 + 1 = 670 := ⟨by decide +kernel, rfl⟩
theorem eL_law_670 : decode cL_law 670 = .ok (.iaload, 1) ∧ 670 + 1 = 671 := ⟨by decide +kernel, rfl⟩
theorem eL_law_671 : decode cL_law 671 = .ok (.aload_n 0, 1) ∧ 671 + 1 = 672 := ⟨by decide +kernel, rfl⟩
theorem eL_law_672 : decode cL_law 672 = .ok (.iload_n 3, 1) ∧ 672 + 1 = 673 := ⟨by decide +kernel, rfl⟩
theorem eL_law_673 : decode cL_law 673 = .ok (.iconst 2, 1) ∧ 673 + 1 = 674 := ⟨by decide +kernel, rfl⟩
theorem eL_law_674 : decode cL_law 674 = .ok (.iadd, 1) ∧ 674 + 1 = 675 := ⟨by decide +kernel, rfl⟩
theorem eL_law_675 : decode cL_law 675 = .ok (.iaload, 1) ∧ 675 + 1 = 676 := ⟨by decide +kernel, rfl⟩
theorem eL_law_676 : decode cL_law 676 = .ok (.aload_n 0, 1) ∧ 676 + 1 = 677 := ⟨by decide +kernel, rfl⟩
theorem eL_law_677 : decode cL_law 677 = .ok (.iload_n 3, 1) ∧ 677 + 1 = 678 := ⟨by decide +kernel, rfl⟩
theorem eL_law_678 : decode cL_law 678 = .ok (.iconst 3, 1) ∧ 678 + 1 = 679 := ⟨by decide +kernel, rfl⟩
theorem eL_law_679 : decode cL_law 679 = .ok (.iadd, 1) ∧ 679 + 1 = 680 := ⟨by decide +kernel, rfl⟩
theorem eL_law_680 : decode cL_law 680 = .ok (.iaload, 1) ∧ 680 + 1 = 681 := ⟨by decide +kernel, rfl⟩
theorem eL_law_681 : decode cL_law 681 = .ok (.invokevirtual 102, 3) ∧ 681 + 3 = 684 := ⟨by decide +kernel, rfl⟩
theorem eL_law_684 : decode cL_law 684 = .ok (.aload_n 2, 1) ∧ 684 + 1 = 685 := ⟨by decide +kernel, rfl⟩
theorem eL_law_685 : decode cL_law 685 = .ok (.aload_n 0, 1) ∧ 685 + 1 = 686 := ⟨by decide +kernel, rfl⟩
theorem eL_law_686 : decode cL_law 686 = .ok (.iload_n 3, 1) ∧ 686 + 1 = 687 := ⟨by decide +kernel, rfl⟩
theorem eL_law_687 : decode cL_law 687 = .ok (.iconst 1, 1) ∧ 687 + 1 = 688 := ⟨by decide +kernel, rfl⟩
theorem eL_law_688 : decode cL_law 688 = .ok (.iadd, 1) ∧ 688 + 1 = 689 := ⟨by decide +kernel, rfl⟩
theorem eL_law_689 : decode cL_law 689 = .ok (.iaload, 1) ∧ 689 + 1 = 690 := ⟨by decide +kernel, rfl⟩
theorem eL_law_690 : decode cL_law 690 = .ok (.aload_n 0, 1) ∧ 690 + 1 = 691 := ⟨by decide +kernel, rfl⟩
theorem eL_law_691 : decode cL_law 691 = .ok (.iload_n 3, 1) ∧ 691 + 1 = 692 := ⟨by decide +kernel, rfl⟩
theorem eL_law_692 : decode cL_law 692 = .ok (.iconst 2, 1) ∧ 692 + 1 = 693 := ⟨by decide +kernel, rfl⟩
theorem eL_law_693 : decode cL_law 693 = .ok (.iadd, 1) ∧ 693 + 1 = 694 := ⟨by decide +kernel, rfl⟩
theorem eL_law_694 : decode cL_law 694 = .ok (.iaload, 1) ∧ 694 + 1 = 695 := ⟨by decide +kernel, rfl⟩
theorem eL_law_695 : decode cL_law 695 = .ok (.aload_n 0, 1) ∧ 695 + 1 = 696 := ⟨by decide +kernel, rfl⟩
theorem eL_law_696 : decode cL_law 696 = .ok (.iload_n 3, 1) ∧ 696 + 1 = 697 := ⟨by decide +kernel, rfl⟩
theorem eL_law_697 : decode cL_law 697 = .ok (.iconst 3, 1) ∧ 697 + 1 = 698 := ⟨by decide +kernel, rfl⟩
theorem eL_law_698 : decode cL_law 698 = .ok (.iadd, 1) ∧ 698 + 1 = 699 := ⟨by decide +kernel, rfl⟩
theorem eL_law_699 : decode cL_law 699 = .ok (.iaload, 1) ∧ 699 + 1 = 700 := ⟨by decide +kernel, rfl⟩
theorem eL_law_700 : decode cL_law 700 = .ok (.invokevirtual 106, 3) ∧ 700 + 3 = 703 := ⟨by decide +kernel, rfl⟩
theorem eL_law_703 : decode cL_law 703 = .ok (.if_icmp .eq 220, 3) ∧ ((703 : Nat) : Int) + 220 = ((923 : Nat) : Int) ∧ 703 + 3 = 706 := ⟨by decide +kernel, by decide, rfl⟩
theorem eL_law_706 : decode cL_law 706 = .ok (.iconst 0, 1) ∧ 706 + 1 = 707 := ⟨by decide +kernel, rfl⟩
theorem eL_law_707 : decode cL_law 707 = .ok (.ireturn, 1) := by decide +kernel
theorem eL_law_708 : decode cL_law 708 = .ok (.aload_n 1, 1) ∧ 708 + 1 = 709 := ⟨by decide +kernel, rfl⟩
theorem eL_law_709 : decode cL_law 709 = .ok (.aload_n 0, 1) ∧ 709 + 1 = 710 := ⟨by decide +kernel, rfl⟩
theorem eL_law_710 : decode cL_law 710 = .ok (.iload_n 3, 1) ∧ 710 + 1 = 711 := ⟨by decide +kernel, rfl⟩
theorem eL_law_711 : decode cL_law 711 = .ok (.iconst 1, 1) ∧ 711 + 1 = 712 := ⟨by decide +kernel, rfl⟩
theorem eL_law_712 : decode cL_law 712 = .ok (.iadd, 1) ∧ 712 + 1 = 713 := ⟨by decide +kernel, rfl⟩
theorem eL_law_713 : decode cL_law 713 = .ok (.iaload, 1) ∧ 713 + 1 = 714 := ⟨by decide +kernel, rfl⟩
theorem eL_law_714 : decode cL_law 714 = .ok (.aload_n 0, 1) ∧ 714 + 1 = 715 := ⟨by decide +kernel, rfl⟩
theorem eL_law_715 : decode cL_law 715 = .ok (.iload_n 3, 1) ∧ 715 + 1 = 716 := ⟨by decide +kernel, rfl⟩
theorem eL_law_716 : decode cL_law 716 = .ok (.iconst 2, 1) ∧ 716 + 1 = 717 := ⟨by decide +kernel, rfl⟩
theorem eL_law_717 : decode cL_law 717 = .ok (.iadd, 1) ∧ 717 + 1 = 718 := ⟨by decide +kernel, rfl⟩
theorem eL_law_718 : decode cL_law 718 = .ok (.iaload, 1) ∧ 718 + 1 = 719 := ⟨by decide +kernel, rfl⟩
theorem eL_law_719 : decode cL_law 719 = .ok (.aload_n 0, 1) ∧ 719 + 1 = 720 := ⟨by decide +kernel, rfl⟩
theorem eL_law_720 : decode cL_law 720 = .ok (.iload_n 3, 1) ∧ 720 + 1 = 721 := ⟨by decide +kernel, rfl⟩
theorem eL_law_721 : decode cL_law 721 = .ok (.iconst 3, 1) ∧ 721 + 1 = 722 := ⟨by decide +kernel, rfl⟩
theorem eL_law_722 : decode cL_law 722 = .ok (.iadd, 1) ∧ 722 + 1 = 723 := ⟨by decide +kernel, rfl⟩
theorem eL_law_723 : decode cL_law 723 = .ok (.iaload, 1) ∧ 723 + 1 = 724 := ⟨by decide +kernel, rfl⟩
theorem eL_law_724 : decode cL_law 724 = .ok (.aload_n 0, 1) ∧ 724 + 1 = 725 := ⟨by decide +kernel, rfl⟩
theorem eL_law_725 : decode cL_law 725 = .ok (.iload_n 3, 1) ∧ 725 + 1 = 726 := ⟨by decide +kernel, rfl⟩
theorem eL_law_726 : decode cL_law 726 = .ok (.iconst 4, 1) ∧ 726 + 1 = 727 := ⟨by decide +kernel, rfl⟩
theorem eL_law_727 : decode cL_law 727 = .ok (.iadd, 1) ∧ 727 + 1 = 728 := ⟨by decide +kernel, rfl⟩
theorem eL_law_728 : decode cL_law 728 = .ok (.iaload, 1) ∧ 728 + 1 = 729 := ⟨by decide +kernel, rfl⟩
theorem eL_law_729 : decode cL_law 729 = .ok (.ifCond .eq 7, 3) ∧ ((729 : Nat) : Int) + 7 = ((736 : Nat) : Int) ∧ 729 + 3 = 732 := ⟨by decide +kernel, by decide, rfl⟩
theorem eL_law_732 : decode cL_law 732 = .ok (.iconst 1, 1) ∧ 732 + 1 = 733 := ⟨by decide +kernel, rfl⟩
theorem eL_law_733 : decode cL_law 733 = .ok (.goto 4, 3) ∧ ((733 : Nat) : Int) + 4 = ((737 : Nat) : Int) := ⟨by decide +kernel, by decide⟩
theorem eL_law_736 : decode cL_law 736 = .ok (.iconst 0, 1) ∧ 736 + 1 = 737 := ⟨by decide +kernel, rfl⟩
theorem eL_law_737 : decode cL_law 737 = .ok (.invokevirtual 107, 3) ∧ 737 + 3 = 740 := ⟨by decide +kernel, rfl⟩
theorem eL_law_740 : decode cL_law 740 = .ok (.aload_n 2, 1) ∧ 740 + 1 = 741 := ⟨by decide +kernel, rfl⟩
theorem eL_law_741 : decode cL_law 741 = .ok (.aload_n 0, 1) ∧ 741 + 1 = 742 := ⟨by decide +kernel, rfl⟩
theorem eL_law_742 : decode cL_law 742 = .ok (.iload_n 3, 1) ∧ 742 + 1 = 743 := ⟨by decide +kernel, rfl⟩
theorem eL_law_743 : decode cL_law 743 = .ok (.iconst 1, 1) ∧ 743 + 1 = 744 := ⟨by decide +kernel, rfl⟩
theorem eL_law_744 : decode cL_law 744 = .ok (.iadd, 1) ∧ 744 + 1 = 745 := ⟨by decide +kernel, rfl⟩
theorem eL_law_745 : decode cL_law 745 = .ok (.iaload, 1) ∧ 745 + 1 = 746 := ⟨by decide +kernel, rfl⟩
theorem eL_law_746 : decode cL_law 746 = .ok (.aload_n 0, 1) ∧ 746 + 1 = 747 := ⟨by decide +kernel, rfl⟩
theorem eL_law_747 : decode cL_law 747 = .ok (.iload_n 3, 1) ∧ 747 + 1 = 748 := ⟨by decide +kernel, rfl⟩
theorem eL_law_748 : decode cL_law 748 = .ok (.iconst 2, 1) ∧ 748 + 1 = 749 := ⟨by decide +kernel, rfl⟩
theorem eL_law_749 : decode cL_law 749 = .ok (.iadd, 1) ∧ 749 + 1 = 750 := ⟨by decide +kernel, rfl⟩
theorem eL_law_750 : decode cL_law 750 = .ok (.iaload, 1) ∧ 750 + 1 = 751 := ⟨by decide +kernel, rfl⟩
theorem eL_law_751 : decode cL_law 751 = .ok (.aload_n 0, 1) ∧ 751 + 1 = 752 := ⟨by decide +kernel, rfl⟩
theorem eL_law_752 : decode cL_law 752 = .ok (.iload_n 3, 1) ∧ 752 + 1 = 753 := ⟨by decide +kernel, rfl⟩
theorem eL_law_753 : decode cL_law 753 = .ok (.iconst 3, 1) ∧ 753 + 1 = 754 := ⟨by decide +kernel, rfl⟩
theorem eL_law_754 : decode cL_law 754 = .ok (.iadd, 1) ∧ 754 + 1 = 755 := ⟨by decide +kernel, rfl⟩
theorem eL_law_755 : decode cL_law 755 = .ok (.iaload, 1) ∧ 755 + 1 = 756 := ⟨by decide +kernel, rfl⟩
theorem eL_law_756 : decode cL_law 756 = .ok (.aload_n 0, 1) ∧ 756 + 1 = 757 := ⟨by decide +kernel, rfl⟩
theorem eL_law_757 : decode cL_law 757 = .ok (.iload_n 3, 1) ∧ 757 + 1 = 758 := ⟨by decide +kernel, rfl⟩
theorem eL_law_758 : decode cL_law 758 = .ok (.iconst 4, 1) ∧ 758 + 1 = 759 := ⟨by decide +kernel, rfl⟩
theorem eL_law_759 : decode cL_law 759 = .ok (.iadd, 1) ∧ 759 + 1 = 760 := ⟨by decide +kernel, rfl⟩
theorem eL_law_760 : decode cL_law 760 = .ok (.iaload, 1) ∧ 760 + 1 = 761 := ⟨by decide +kernel, rfl⟩
theorem eL_law_761 : decode cL_law 761 = .ok (.ifCond .eq 7, 3) ∧ ((761 : Nat) : Int) + 7 = ((768 : Nat) : Int) ∧ 761 + 3 = 764 := ⟨by decide +kernel, by decide, rfl⟩
theorem eL_law_764 : decode cL_law 764 = .ok (.iconst 1, 1) ∧ 764 + 1 = 765 := ⟨by decide +kernel, rfl⟩
theorem eL_law_765 : decode cL_law 765 = .ok (.goto 4, 3) ∧ ((765 : Nat) : Int) + 4 = ((769 : Nat) : Int) := ⟨by decide +kernel, by decide⟩
theorem eL_law_768 : decode cL_law 768 = .ok (.iconst 0, 1) ∧ 768 + 1 = 769 := ⟨by decide +kernel, rfl⟩
theorem eL_law_769 : decode cL_law 769 = .ok (.invokevirtual 111, 3) ∧ 769 + 3 = 772 := ⟨by decide +kernel, rfl⟩
theorem eL_law_772 : decode cL_law 772 = .ok (.if_icmp .eq 151, 3) ∧ ((772 : Nat) : Int) + 151 = ((923 : Nat) : Int) ∧ 772 + 3 = 775 := ⟨by decide +kernel, by decide, rfl⟩
theorem eL_law_775 : decode cL_law 775 = .ok (.iconst 0, 1) ∧ 775 + 1 = 776 := ⟨by decide +kernel, rfl⟩
theorem eL_law_776 : decode cL_law 776 = .ok (.ireturn, 1) := by decide +kernel
theorem eL_law_777 : decode cL_law 777 = .ok (.aload_n 1, 1) ∧ 777 + 1 = 778 := ⟨by decide +kernel, rfl⟩
theorem eL_law_778 : decode cL_law 778 = .ok (.aload_n 0, 1) ∧ 778 + 1 = 779 := ⟨by decide +kernel, rfl⟩
theorem eL_law_779 : decode cL_law 779 = .ok (.iload_n 3, 1) ∧ 779 + 1 = 780 := ⟨by decide +kernel, rfl⟩
theorem eL_law_780 : decode cL_law 780 = .ok (.iconst 1, 1) ∧ 780 + 1 = 781 := ⟨by decide +kernel, rfl⟩
theorem eL_law_781 : decode cL_law 781 = .ok (.iadd, 1) ∧ 781 + 1 = 782 := ⟨by decide +kernel, rfl⟩
theorem eL_law_782 : decode cL_law 782 = .ok (.iaload, 1) ∧ 782 + 1 = 783 := ⟨by decide +kernel, rfl⟩
theorem eL_law_783 : decode cL_law 783 = .ok (.i2l, 1) ∧ 783 + 1 = 784 := ⟨by decide +kernel, rfl⟩
theorem eL_law_784 : decode cL_law 784 = .ok (.bipush 32, 2) ∧ 784 + 2 = 786 := ⟨by decide +kernel, rfl⟩
theorem eL_law_786 : decode cL_law 786 = .ok (.lshl, 1) ∧ 786 + 1 = 787 := ⟨by decide +kernel, rfl⟩
theorem eL_law_787 : decode cL_law 787 = .ok (.aload_n 0, 1) ∧ 787 + 1 = 788 := ⟨by decide +kernel, rfl⟩
theorem eL_law_788 : decode cL_law 788 = .ok (.iload_n 3, 1) ∧ 788 + 1 = 789 := ⟨by decide +kernel, rfl⟩
theorem eL_law_789 : decode cL_law 789 = .ok (.iconst 2, 1) ∧ 789 + 1 = 790 := ⟨by decide +kernel, rfl⟩
theorem eL_law_790 : decode cL_law 790 = .ok (.iadd, 1) ∧ 790 + 1 = 791 := ⟨by decide +kernel, rfl⟩
theorem eL_law_791 : decode cL_law 791 = .ok (.iaload, 1) ∧ 791 + 1 = 792 := ⟨by decide +kernel, rfl⟩
theorem eL_law_792 : decode cL_law 792 = .ok (.i2l, 1) ∧ 792 + 1 = 793 := ⟨by decide +kernel, rfl⟩
theorem eL_law_793 : decode cL_law 793 = .ok (.ldc2_w 112, 3) ∧ 793 + 3 = 796 := ⟨by decide +kernel, rfl⟩
theorem eL_law_796 : decode cL_law 796 = .ok (.land, 1) ∧ 796 + 1 = 797 := ⟨by decide +kernel, rfl⟩
theorem eL_law_797 : decode cL_law 797 = .ok (.lor, 1) ∧ 797 + 1 = 798 := ⟨by decide +kernel, rfl⟩
theorem eL_law_798 : decode cL_law 798 = .ok (.invokevirtual 114, 3) ∧ 798 + 3 = 801 := ⟨by decide +kernel, rfl⟩
theorem eL_law_801 : decode cL_law 801 = .ok (.aload_n 2, 1) ∧ 801 + 1 = 802 := ⟨by decide +kernel, rfl⟩
theorem eL_law_802 : decode cL_law 802 = .ok (.aload_n 0, 1) ∧ 802 + 1 = 803 := ⟨by decide +kernel, rfl⟩
theorem eL_law_803 : decode cL_law 803 = .ok (.iload_n 3, 1) ∧ 803 + 1 = 804 := ⟨by decide +kernel, rfl⟩
theorem eL_law_804 : decode cL_law 804 = .ok (.iconst 1, 1) ∧ 804 + 1 = 805 := ⟨by decide +kernel, rfl⟩
theorem eL_law_805 : decode cL_law 805 = .ok (.iadd, 1) ∧ 805 + 1 = 806 := ⟨by decide +kernel, rfl⟩
theorem eL_law_806 : decode cL_law 806 = .ok (.iaload, 1) ∧ 806 + 1 = 807 := ⟨by decide +kernel, rfl⟩
theorem eL_law_807 : decode cL_law 807 = .ok (.i2l, 1) ∧ 807 + 1 = 808 := ⟨by decide +kernel, rfl⟩
theorem eL_law_808 : decode cL_law 808 = .ok (.bipush 32, 2) ∧ 808 + 2 = 810 := ⟨by decide +kernel, rfl⟩
theorem eL_law_810 : decode cL_law 810 = .ok (.lshl, 1) ∧ 810 + 1 = 811 := ⟨by decide +kernel, rfl⟩
theorem eL_law_811 : decode cL_law 811 = .ok (.aload_n 0, 1) ∧ 811 + 1 = 812 := ⟨by decide +kernel, rfl⟩
theorem eL_law_812 : decode cL_law 812 = .ok (.iload_n 3, 1) ∧ 812 + 1 = 813 := ⟨by decide +kernel, rfl⟩
theorem eL_law_813 : decode cL_law 813 = .ok (.iconst 2, 1) ∧ 813 + 1 = 814 := ⟨by decide +kernel, rfl⟩
theorem eL_law_814 : decode cL_law 814 = .ok (.iadd, 1) ∧ 814 + 1 = 815 := ⟨by decide +kernel, rfl⟩
theorem eL_law_815 : decode cL_law 815 = .ok (.iaload, 1) ∧ 815 + 1 = 816 := ⟨by decide +kernel, rfl⟩
theorem eL_law_816 : decode cL_law 816 = .ok (.i2l, 1) ∧ 816 + 1 = 817 := ⟨by decide +kernel, rfl⟩
theorem eL_law_817 : decode cL_law 817 = .ok (.ldc2_w 112, 3) ∧ 817 + 3 = 820 := ⟨by decide +kernel, rfl⟩
theorem eL_law_820 : decode cL_law 820 = .ok (.land, 1) ∧ 820 + 1 = 821 := ⟨by decide +kernel, rfl⟩
theorem eL_law_821 : decode cL_law 821 = .ok (.lor, 1) ∧ 821 + 1 = 822 := ⟨by decide +kernel, rfl⟩
theorem eL_law_822 : decode cL_law 822 = .ok (.invokevirtual 118, 3) ∧ 822 + 3 = 825 := ⟨by decide +kernel, rfl⟩
theorem eL_law_825 : decode cL_law 825 = .ok (.lcmp, 1) ∧ 825 + 1 = 826 := ⟨by decide +kernel, rfl⟩
theorem eL_law_826 : decode cL_law 826 = .ok (.ifCond .eq 97, 3) ∧ ((826 : Nat) : Int) + 97 = ((923 : Nat) : Int) ∧ 826 + 3 = 829 := ⟨by decide +kernel, by decide, rfl⟩
theorem eL_law_829 : decode cL_law 829 = .ok (.iconst 0, 1) ∧ 829 + 1 = 830 := ⟨by decide +kernel, rfl⟩
theorem eL_law_830 : decode cL_law 830 = .ok (.ireturn, 1) := by decide +kernel
theorem eL_law_831 : decode cL_law 831 = .ok (.aload_n 1, 1) ∧ 831 + 1 = 832 := ⟨by decide +kernel, rfl⟩
theorem eL_law_832 : decode cL_law 832 = .ok (.aload_n 0, 1) ∧ 832 + 1 = 833 := ⟨by decide +kernel, rfl⟩
theorem eL_law_833 : decode cL_law 833 = .ok (.iload_n 3, 1) ∧ 833 + 1 = 834 := ⟨by decide +kernel, rfl⟩
theorem eL_law_834 : decode cL_law 834 = .ok (.iconst 1, 1) ∧ 834 + 1 = 835 := ⟨by decide +kernel, rfl⟩
theorem eL_law_835 : decode cL_law 835 = .ok (.iadd, 1) ∧ 835 + 1 = 836 := ⟨by decide +kernel, rfl⟩
theorem eL_law_836 : decode cL_law 836 = .ok (.iaload, 1) ∧ 836 + 1 = 837 := ⟨by decide +kernel, rfl⟩
theorem eL_law_837 : decode cL_law 837 = .ok (.invokevirtual 119, 3) ∧ 837 + 3 = 840 := ⟨by decide +kernel, rfl⟩
theorem eL_law_840 : decode cL_law 840 = .ok (.aload_n 2, 1) ∧ 840 + 1 = 841 := ⟨by decide +kernel, rfl⟩
theorem eL_law_841 : decode cL_law 841 = .ok (.aload_n 0, 1) ∧ 841 + 1 = 842 := ⟨by decide +kernel, rfl⟩
theorem eL_law_842 : decode cL_law 842 = .ok (.iload_n 3, 1) ∧ 842 + 1 = 843 := ⟨by decide +kernel, rfl⟩
theorem eL_law_843 : decode cL_law 843 = .ok (.iconst 1, 1) ∧ 843 + 1 = 844 := ⟨by decide +kernel, rfl⟩
theorem eL_law_844 : decode cL_law 844 = .ok (.iadd, 1) ∧ 844 + 1 = 845 := ⟨by decide +kernel, rfl⟩
theorem eL_law_845 : decode cL_law 845 = .ok (.iaload, 1) ∧ 845 + 1 = 846 := ⟨by decide +kernel, rfl⟩
theorem eL_law_846 : decode cL_law 846 = .ok (.invokevirtual 122, 3) ∧ 846 + 3 = 849 := ⟨by decide +kernel, rfl⟩
theorem eL_law_849 : decode cL_law 849 = .ok (.if_icmp .eq 74, 3) ∧ ((849 : Nat) : Int) + 74 = ((923 : Nat) : Int) ∧ 849 + 3 = 852 := ⟨by decide +kernel, by decide, rfl⟩
theorem eL_law_852 : decode cL_law 852 = .ok (.iconst 0, 1) ∧ 852 + 1 = 853 := ⟨by decide +kernel, rfl⟩
theorem eL_law_853 : decode cL_law 853 = .ok (.ireturn, 1) := by decide +kernel
theorem eL_law_854 : decode cL_law 854 = .ok (.aload_n 1, 1) ∧ 854 + 1 = 855 := ⟨by decide +kernel, rfl⟩
theorem eL_law_855 : decode cL_law 855 = .ok (.aload_n 0, 1) ∧ 855 + 1 = 856 := ⟨by decide +kernel, rfl⟩
theorem eL_law_856 : decode cL_law 856 = .ok (.iload_n 3, 1) ∧ 856 + 1 = 857 := ⟨by decide +kernel, rfl⟩
theorem eL_law_857 : decode cL_law 857 = .ok (.iconst 1, 1) ∧ 857 + 1 = 858 := ⟨by decide +kernel, rfl⟩
theorem eL_law_858 : decode cL_law 858 = .ok (.iadd, 1) ∧ 858 + 1 = 859 := ⟨by decide +kernel, rfl⟩
theorem eL_law_859 : decode cL_law 859 = .ok (.iaload, 1) ∧ 859 + 1 = 860 := ⟨by decide +kernel, rfl⟩
theorem eL_law_860 : decode cL_law 860 = .ok (.invokevirtual 123, 3) ∧ 860 + 3 = 863 := ⟨by decide +kernel, rfl⟩
theorem eL_law_863 : decode cL_law 863 = .ok (.aload_n 2, 1) ∧ 863 + 1 = 864 := ⟨by decide +kernel, rfl⟩
theorem eL_law_864 : decode cL_law 864 = .ok (.aload_n 0, 1) ∧ 864 + 1 = 865 := ⟨by decide +kernel, rfl⟩
theorem eL_law_865 : decode cL_law 865 = .ok (.iload_n 3, 1) ∧ 865 + 1 = 866 := ⟨by decide +kernel, rfl⟩
theorem eL_law_866 : decode cL_law 866 = .ok (.iconst 1, 1) ∧ 866 + 1 = 867 := ⟨by decide +kernel, rfl⟩
theorem eL_law_867 : decode cL_law 867 = .ok (.iadd, 1) ∧ 867 + 1 = 868 := ⟨by decide +kernel, rfl⟩
theorem eL_law_868 : decode cL_law 868 = .ok (.iaload, 1) ∧ 868 + 1 = 869 := ⟨by decide +kernel, rfl⟩
theorem eL_law_869 : decode cL_law 869 = .ok (.invokevirtual 126, 3) ∧ 869 + 3 = 872 := ⟨by decide +kernel, rfl⟩
theorem eL_law_872 : decode cL_law 872 = .ok (.if_icmp .eq 51, 3) ∧ ((872 : Nat) : Int) + 51 = ((923 : Nat) : Int) ∧ 872 + 3 = 875 := ⟨by decide +kernel, by decide, rfl⟩
theorem eL_law_875 : decode cL_law 875 = .ok (.iconst 0, 1) ∧ 875 + 1 = 876 := ⟨by decide +kernel, rfl⟩
theorem eL_law_876 : decode cL_law 876 = .ok (.ireturn, 1) := by decide +kernel
theorem eL_law_877 : decode cL_law 877 = .ok (.aload_n 1, 1) ∧ 877 + 1 = 878 := ⟨by decide +kernel, rfl⟩
theorem eL_law_878 : decode cL_law 878 = .ok (.aload_n 0, 1) ∧ 878 + 1 = 879 := ⟨by decide +kernel, rfl⟩
theorem eL_law_879 : decode cL_law 879 = .ok (.iload_n 3, 1) ∧ 879 + 1 = 880 := ⟨by decide +kernel, rfl⟩
theorem eL_law_880 : decode cL_law 880 = .ok (.iconst 1, 1) ∧ 880 + 1 = 881 := ⟨by decide +kernel, rfl⟩
theorem eL_law_881 : decode cL_law 881 = .ok (.iadd, 1) ∧ 881 + 1 = 882 := ⟨by decide +kernel, rfl⟩
theorem eL_law_882 : decode cL_law 882 = .ok (.iaload, 1) ∧ 882 + 1 = 883 := ⟨by decide +kernel, rfl⟩
theorem eL_law_883 : decode cL_law 883 = .ok (.invokevirtual 127, 3) ∧ 883 + 3 = 886 := ⟨by decide +kernel, rfl⟩
theorem eL_law_886 : decode cL_law 886 = .ok (.aload_n 2, 1) ∧ 886 + 1 = 887 := ⟨by decide +kernel, rfl⟩
theorem eL_law_887 : decode cL_law 887 = .ok (.aload_n 0, 1) ∧ 887 + 1 = 888 := ⟨by decide +kernel, rfl⟩
theorem eL_law_888 : decode cL_law 888 = .ok (.iload_n 3, 1) ∧ 888 + 1 = 889 := ⟨by decide +kernel, rfl⟩
theorem eL_law_889 : decode cL_law 889 = .ok (.iconst 1, 1) ∧ 889 + 1 = 890 := ⟨by decide +kernel, rfl⟩
theorem eL_law_890 : decode cL_law 890 = .ok (.iadd, 1) ∧ 890 + 1 = 891 := ⟨by decide +kernel, rfl⟩
theorem eL_law_891 : decode cL_law 891 = .ok (.iaload, 1) ∧ 891 + 1 = 892 := ⟨by decide +kernel, rfl⟩
theorem eL_law_892 : decode cL_law 892 = .ok (.invokevirtual 130, 3) ∧ 892 + 3 = 895 := ⟨by decide +kernel, rfl⟩
theorem eL_law_895 : decode cL_law 895 = .ok (.if_icmp .eq 28, 3) ∧ ((895 : Nat) : Int) + 28 = ((923 : Nat) : Int) ∧ 895 + 3 = 898 := ⟨by decide +kernel, by decide, rfl⟩
theorem eL_law_898 : decode cL_law 898 = .ok (.iconst 0, 1) ∧ 898 + 1 = 899 := ⟨by decide +kernel, rfl⟩
theorem eL_law_899 : decode cL_law 899 = .ok (.ireturn, 1) := by decide +kernel
theorem eL_law_900 : decode cL_law 900 = .ok (.aload_n 1, 1) ∧ 900 + 1 = 901 := ⟨by decide +kernel, rfl⟩
theorem eL_law_901 : decode cL_law 901 = .ok (.aload_n 0, 1) ∧ 901 + 1 = 902 := ⟨by decide +kernel, rfl⟩
theorem eL_law_902 : decode cL_law 902 = .ok (.iload_n 3, 1) ∧ 902 + 1 = 903 := ⟨by decide +kernel, rfl⟩
theorem eL_law_903 : decode cL_law 903 = .ok (.iconst 1, 1) ∧ 903 + 1 = 904 := ⟨by decide +kernel, rfl⟩
theorem eL_law_904 : decode cL_law 904 = .ok (.iadd, 1) ∧ 904 + 1 = 905 := ⟨by decide +kernel, rfl⟩
theorem eL_law_905 : decode cL_law 905 = .ok (.iaload, 1) ∧ 905 + 1 = 906 := ⟨by decide +kernel, rfl⟩
theorem eL_law_906 : decode cL_law 906 = .ok (.invokevirtual 131, 3) ∧ 906 + 3 = 909 := ⟨by decide +kernel, rfl⟩
theorem eL_law_909 : decode cL_law 909 = .ok (.aload_n 2, 1) ∧ 909 + 1 = 910 := ⟨by decide +kernel, rfl⟩
theorem eL_law_910 : decode cL_law 910 = .ok (.aload_n 0, 1) ∧ 910 + 1 = 911 := ⟨by decide +kernel, rfl⟩
theorem eL_law_911 : decode cL_law 911 = .ok (.iload_n 3, 1) ∧ 911 + 1 = 912 := ⟨by decide +kernel, rfl⟩
theorem eL_law_912 : decode cL_law 912 = .ok (.iconst 1, 1) ∧ 912 + 1 = 913 := ⟨by decide +kernel, rfl⟩
theorem eL_law_913 : decode cL_law 913 = .ok (.iadd, 1) ∧ 913 + 1 = 914 := ⟨by decide +kernel, rfl⟩
theorem eL_law_914 : decode cL_law 914 = .ok (.iaload, 1) ∧ 914 + 1 = 915 := ⟨by decide +kernel, rfl⟩
theorem eL_law_915 : decode cL_law 915 = .ok (.invokevirtual 134, 3) ∧ 915 + 3 = 918 := ⟨by decide +kernel, rfl⟩
theorem eL_law_918 : decode cL_law 918 = .ok (.if_icmp .eq 5, 3) ∧ ((918 : Nat) : Int) + 5 = ((923 : Nat) : Int) ∧ 918 + 3 = 921 := ⟨by decide +kernel, by decide, rfl⟩
theorem eL_law_921 : decode cL_law 921 = .ok (.iconst 0, 1) ∧ 921 + 1 = 922 := ⟨by decide +kernel, rfl⟩
theorem eL_law_922 : decode cL_law 922 = .ok (.ireturn, 1) := by decide +kernel
theorem eL_law_923 : decode cL_law 923 = .ok (.iinc 3 5, 3) ∧ 923 + 3 = 926 := ⟨by decide +kernel, rfl⟩
theorem eL_law_926 : decode cL_law 926 = .ok (.goto (-908), 3) ∧ ((926 : Nat) : Int) + (-908) = ((18 : Nat) : Int) := ⟨by decide +kernel, by decide⟩
theorem eL_law_929 : decode cL_law 929 = .ok (.iconst 1, 1) ∧ 929 + 1 = 930 := ⟨by decide +kernel, rfl⟩
theorem eL_law_930 : decode cL_law 930 = .ok (.ireturn, 1) := by decide +kernel

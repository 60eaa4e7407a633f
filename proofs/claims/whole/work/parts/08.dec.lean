theorem dX12_header_151 : decode cX12_header 151 = .ok (.bipush 110, 2) := by decide +kernel
theorem dX12_header_153 : decode cX12_header 153 = .ok (.if_icmp .eq 9, 3) := by decide +kernel
theorem dX12_header_156 : decode cX12_header 156 = .ok (.aload_n 0, 1) := by decide +kernel
theorem dX12_header_157 : decode cX12_header 157 = .ok (.iconst 1, 1) := by decide +kernel
theorem dX12_header_158 : decode cX12_header 158 = .ok (.invokevirtual 153, 3) := by decide +kernel
theorem dX12_header_161 : decode cX12_header 161 = .ok (.ireturn, 1) := by decide +kernel
theorem dX12_header_162 : decode cX12_header 162 = .ok (.aload_n 0, 1) := by decide +kernel
theorem dX12_header_163 : decode cX12_header 163 = .ok (.getfield 140, 3) := by decide +kernel
theorem dX12_header_166 : decode cX12_header 166 = .ok (.bipush 110, 2) := by decide +kernel
theorem dX12_header_168 : decode cX12_header 168 = .ok (.if_icmp .ne 107, 3) := by decide +kernel
theorem dX12_header_171 : decode cX12_header 171 = .ok (.aload_n 0, 1) := by decide +kernel
theorem dX12_header_172 : decode cX12_header 172 = .ok (.aload_n 0, 1) := by decide +kernel
theorem dX12_header_173 : decode cX12_header 173 = .ok (.getfield 147, 3) := by decide +kernel
theorem dX12_header_176 : decode cX12_header 176 = .ok (.invokevirtual 181, 3) := by decide +kernel
theorem dX12_header_179 : decode cX12_header 179 = .ok (.iconst (-1), 1) := by decide +kernel
theorem dX12_header_180 : decode cX12_header 180 = .ok (.if_icmp .eq 9, 3) := by decide +kernel
theorem dX12_header_183 : decode cX12_header 183 = .ok (.aload_n 0, 1) := by decide +kernel
theorem dX12_header_184 : decode cX12_header 184 = .ok (.iconst 3, 1) := by decide +kernel
theorem dX12_header_185 : decode cX12_header 185 = .ok (.invokevirtual 153, 3) := by decide +kernel
theorem dX12_header_188 : decode cX12_header 188 = .ok (.ireturn, 1) := by decide +kernel
theorem dX12_header_189 : decode cX12_header 189 = .ok (.aload_n 0, 1) := by decide +kernel
theorem dX12_header_190 : decode cX12_header 190 = .ok (.getfield 159, 3) := by decide +kernel
theorem dX12_header_193 : decode cX12_header 193 = .ok (.bipush 10, 2) := by decide +kernel
theorem dX12_header_195 : decode cX12_header 195 = .ok (.if_icmp .ne 9, 3) := by decide +kernel
theorem dX12_header_198 : decode cX12_header 198 = .ok (.aload_n 0, 1) := by decide +kernel
theorem dX12_header_199 : decode cX12_header 199 = .ok (.iconst 4, 1) := by decide +kernel
theorem dX12_header_200 : decode cX12_header 200 = .ok (.invokevirtual 153, 3) := by decide +kernel
theorem dX12_header_203 : decode cX12_header 203 = .ok (.ireturn, 1) := by decide +kernel
theorem dX12_header_204 : decode cX12_header 204 = .ok (.aload_n 0, 1) := by decide +kernel
theorem dX12_header_205 : decode cX12_header 205 = .ok (.getfield 20, 3) := by decide +kernel
theorem dX12_header_208 : decode cX12_header 208 = .ok (.aload_n 0, 1) := by decide +kernel
theorem dX12_header_209 : decode cX12_header 209 = .ok (.getfield 159, 3) := by decide +kernel
theorem dX12_header_212 : decode cX12_header 212 = .ok (.aload_n 0, 1) := by decide +kernel
theorem dX12_header_213 : decode cX12_header 213 = .ok (.getfield 147, 3) := by decide +kernel
theorem dX12_header_216 : decode cX12_header 216 = .ok (.iastore, 1) := by decide +kernel
theorem dX12_header_217 : decode cX12_header 217 = .ok (.aload_n 0, 1) := by decide +kernel
theorem dX12_header_218 : decode cX12_header 218 = .ok (.getfield 24, 3) := by decide +kernel
theorem dX12_header_221 : decode cX12_header 221 = .ok (.aload_n 0, 1) := by decide +kernel
theorem dX12_header_222 : decode cX12_header 222 = .ok (.getfield 159, 3) := by decide +kernel
theorem dX12_header_225 : decode cX12_header 225 = .ok (.aload_n 0, 1) := by decide +kernel
theorem dX12_header_226 : decode cX12_header 226 = .ok (.getfield 165, 3) := by decide +kernel
theorem dX12_header_229 : decode cX12_header 229 = .ok (.iconst 1, 1) := by decide +kernel
theorem dX12_header_230 : decode cX12_header 230 = .ok (.isub, 1) := by decide +kernel
theorem dX12_header_231 : decode cX12_header 231 = .ok (.iastore, 1) := by decide +kernel
theorem dX12_header_232 : decode cX12_header 232 = .ok (.aload_n 0, 1) := by decide +kernel
theorem dX12_header_233 : decode cX12_header 233 = .ok (.getfield 27, 3) := by decide +kernel
theorem dX12_header_236 : decode cX12_header 236 = .ok (.aload_n 0, 1) := by decide +kernel
theorem dX12_header_237 : decode cX12_header 237 = .ok (.getfield 165, 3) := by decide +kernel
theorem dX12_header_240 : decode cX12_header 240 = .ok (.iconst 1, 1) := by decide +kernel
theorem dX12_header_241 : decode cX12_header 241 = .ok (.isub, 1) := by decide +kernel
theorem dX12_header_242 : decode cX12_header 242 = .ok (.aload_n 0, 1) := by decide +kernel
theorem dX12_header_243 : decode cX12_header 243 = .ok (.getfield 27, 3) := by decide +kernel
theorem dX12_header_246 : decode cX12_header 246 = .ok (.aload_n 0, 1) := by decide +kernel
theorem dX12_header_247 : decode cX12_header 247 = .ok (.getfield 165, 3) := by decide +kernel
theorem dX12_header_250 : decode cX12_header 250 = .ok (.iconst 1, 1) := by decide +kernel
theorem dX12_header_251 : decode cX12_header 251 = .ok (.isub, 1) := by decide +kernel
theorem dX12_header_252 : decode cX12_header 252 = .ok (.iaload, 1) := by decide +kernel
theorem dX12_header_253 : decode cX12_header 253 = .ok (.iconst 1, 1) := by decide +kernel
theorem dX12_header_254 : decode cX12_header 254 = .ok (.iadd, 1) := by decide +kernel
theorem dX12_header_255 : decode cX12_header 255 = .ok (.iastore, 1) := by decide +kernel
theorem dX12_header_256 : decode cX12_header 256 = .ok (.aload_n 0, 1) := by decide +kernel
theorem dX12_header_257 : decode cX12_header 257 = .ok (.aload_n 0, 1) := by decide +kernel
theorem dX12_header_258 : decode cX12_header 258 = .ok (.getfield 159, 3) := by decide +kernel
theorem dX12_header_261 : decode cX12_header 261 = .ok (.iconst 1, 1) := by decide +kernel
theorem dX12_header_262 : decode cX12_header 262 = .ok (.iadd, 1) := by decide +kernel
theorem dX12_header_263 : decode cX12_header 263 = .ok (.putfield 159, 3) := by decide +kernel
theorem dX12_header_266 : decode cX12_header 266 = .ok (.aload_n 0, 1) := by decide +kernel
theorem dX12_header_267 : decode cX12_header 267 = .ok (.invokevirtual 177, 3) := by decide +kernel
theorem dX12_header_270 : decode cX12_header 270 = .ok (.ifCond .ne (-108), 3) := by decide +kernel
theorem dX12_header_273 : decode cX12_header 273 = .ok (.iconst 0, 1) := by decide +kernel
theorem dX12_header_274 : decode cX12_header 274 = .ok (.ireturn, 1) := by decide +kernel
theorem dX12_header_275 : decode cX12_header 275 = .ok (.aload_n 0, 1) := by decide +kernel
theorem dX12_header_276 : decode cX12_header 276 = .ok (.getfield 140, 3) := by decide +kernel
theorem dX12_header_279 : decode cX12_header 279 = .ok (.bipush 59, 2) := by decide +kernel
theorem dX12_header_281 : decode cX12_header 281 = .ok (.if_icmp .ne 7, 3) := by decide +kernel
theorem dX12_header_284 : decode cX12_header 284 = .ok (.iconst 1, 1) := by decide +kernel
theorem dX12_header_285 : decode cX12_header 285 = .ok (.goto 4, 3) := by decide +kernel
theorem dX12_header_288 : decode cX12_header 288 = .ok (.iconst 0, 1) := by decide +kernel
theorem dX12_header_289 : decode cX12_header 289 = .ok (.istore_n 2, 1) := by decide +kernel
theorem dX12_header_290 : decode cX12_header 290 = .ok (.iload_n 2, 1) := by decide +kernel
theorem dX12_header_291 : decode cX12_header 291 = .ok (.ifCond .eq 12, 3) := by decide +kernel
theorem dX12_header_294 : decode cX12_header 294 = .ok (.aload_n 0, 1) := by decide +kernel
theorem dX12_header_295 : decode cX12_header 295 = .ok (.invokevirtual 177, 3) := by decide +kernel
theorem dX12_header_298 : decode cX12_header 298 = .ok (.ifCond .ne 5, 3) := by decide +kernel
theorem dX12_header_301 : decode cX12_header 301 = .ok (.iconst 0, 1) := by decide +kernel
theorem dX12_header_302 : decode cX12_header 302 = .ok (.ireturn, 1) := by decide +kernel
theorem dX12_header_303 : decode cX12_header 303 = .ok (.goto (-276), 3) := by decide +kernel
theorem dX12_header_306 : decode cX12_header 306 = .ok (.aload_n 0, 1) := by decide +kernel
theorem dX12_header_307 : decode cX12_header 307 = .ok (.getfield 140, 3) := by decide +kernel
theorem dX12_header_310 : decode cX12_header 310 = .ok (.bipush 58, 2) := by decide +kernel
theorem dX12_header_312 : decode cX12_header 312 = .ok (.if_icmp .ne 10, 3) := by decide +kernel
theorem dX12_header_315 : decode cX12_header 315 = .ok (.aload_n 0, 1) := by decide +kernel
theorem dX12_header_316 : decode cX12_header 316 = .ok (.invokevirtual 177, 3) := by decide +kernel
theorem dX12_header_319 : decode cX12_header 319 = .ok (.goto 8, 3) := by decide +kernel
theorem dX12_header_322 : decode cX12_header 322 = .ok (.aload_n 0, 1) := by decide +kernel
theorem dX12_header_323 : decode cX12_header 323 = .ok (.iconst 1, 1) := by decide +kernel
theorem dX12_header_324 : decode cX12_header 324 = .ok (.invokevirtual 153, 3) := by decide +kernel
theorem dX12_header_327 : decode cX12_header 327 = .ok (.ireturn, 1) := by decide +kernel
theorem dX12_levelOf_0 : decode cX12_levelOf 0 = .ok (.iload_n 0, 1) := by decide +kernel
theorem dX12_levelOf_1 : decode cX12_levelOf 1 = .ok (.lookupswitch 61 #[(38, 59), (61, 51), (62, 53), (94, 57), (124, 55)], 51) := by decide +kernel
theorem dX12_levelOf_52 : decode cX12_levelOf 52 = .ok (.iconst 1, 1) := by decide +kernel
theorem dX12_levelOf_53 : decode cX12_levelOf 53 = .ok (.ireturn, 1) := by decide +kernel
theorem dX12_levelOf_54 : decode cX12_levelOf 54 = .ok (.iconst 2, 1) := by decide +kernel
theorem dX12_levelOf_55 : decode cX12_levelOf 55 = .ok (.ireturn, 1) := by decide +kernel
theorem dX12_levelOf_56 : decode cX12_levelOf 56 = .ok (.iconst 3, 1) := by decide +kernel
theorem dX12_levelOf_57 : decode cX12_levelOf 57 = .ok (.ireturn, 1) := by decide +kernel
theorem dX12_levelOf_58 : decode cX12_levelOf 58 = .ok (.iconst 4, 1) := by decide +kernel
theorem dX12_levelOf_59 : decode cX12_levelOf 59 = .ok (.ireturn, 1) := by decide +kernel
theorem dX12_levelOf_60 : decode cX12_levelOf 60 = .ok (.iconst 5, 1) := by decide +kernel
theorem dX12_levelOf_61 : decode cX12_levelOf 61 = .ok (.ireturn, 1) := by decide +kernel
theorem dX12_levelOf_62 : decode cX12_levelOf 62 = .ok (.bipush 6, 2) := by decide +kernel
theorem dX12_levelOf_64 : decode cX12_levelOf 64 = .ok (.ireturn, 1) := by decide +kernel
theorem dX12_node_0 : decode cX12_node 0 = .ok (.aload_n 0, 1) := by decide +kernel
theorem dX12_node_1 : decode cX12_node 1 = .ok (.getfield 34, 3) := by decide +kernel
theorem dX12_node_4 : decode cX12_node 4 = .ok (.aload_n 0, 1) := by decide +kernel
theorem dX12_node_5 : decode cX12_node 5 = .ok (.getfield 91, 3) := by decide +kernel
theorem dX12_node_8 : decode cX12_node 8 = .ok (.iload_n 1, 1) := by decide +kernel
theorem dX12_node_9 : decode cX12_node 9 = .ok (.iastore, 1) := by decide +kernel
theorem dX12_node_10 : decode cX12_node 10 = .ok (.aload_n 0, 1) := by decide +kernel
theorem dX12_node_11 : decode cX12_node 11 = .ok (.getfield 37, 3) := by decide +kernel
theorem dX12_node_14 : decode cX12_node 14 = .ok (.aload_n 0, 1) := by decide +kernel
theorem dX12_node_15 : decode cX12_node 15 = .ok (.getfield 91, 3) := by decide +kernel
theorem dX12_node_18 : decode cX12_node 18 = .ok (.iload_n 2, 1) := by decide +kernel
theorem dX12_node_19 : decode cX12_node 19 = .ok (.iastore, 1) := by decide +kernel
theorem dX12_node_20 : decode cX12_node 20 = .ok (.aload_n 0, 1) := by decide +kernel
theorem dX12_node_21 : decode cX12_node 21 = .ok (.getfield 40, 3) := by decide +kernel
theorem dX12_node_24 : decode cX12_node 24 = .ok (.aload_n 0, 1) := by decide +kernel
theorem dX12_node_25 : decode cX12_node 25 = .ok (.getfield 91, 3) := by decide +kernel
theorem dX12_node_28 : decode cX12_node 28 = .ok (.iload_n 3, 1) := by decide +kernel
theorem dX12_node_29 : decode cX12_node 29 = .ok (.iastore, 1) := by decide +kernel
theorem dX12_node_30 : decode cX12_node 30 = .ok (.aload_n 0, 1) := by decide +kernel
theorem dX12_node_31 : decode cX12_node 31 = .ok (.aload_n 0, 1) := by decide +kernel
theorem dX12_node_32 : decode cX12_node 32 = .ok (.getfield 91, 3) := by decide +kernel
theorem dX12_node_35 : decode cX12_node 35 = .ok (.iconst 1, 1) := by decide +kernel
theorem dX12_node_36 : decode cX12_node 36 = .ok (.iadd, 1) := by decide +kernel
theorem dX12_node_37 : decode cX12_node 37 = .ok (.putfield 91, 3) := by decide +kernel
theorem dX12_node_40 : decode cX12_node 40 = .ok (.aload_n 0, 1) := by decide +kernel
theorem dX12_node_41 : decode cX12_node 41 = .ok (.getfield 91, 3) := by decide +kernel
theorem dX12_node_44 : decode cX12_node 44 = .ok (.iconst 1, 1) := by decide +kernel
theorem dX12_node_45 : decode cX12_node 45 = .ok (.isub, 1) := by decide +kernel
theorem dX12_node_46 : decode cX12_node 46 = .ok (.ireturn, 1) := by decide +kernel
theorem dX12_pushes_0 : decode cX12_pushes 0 = .ok (.aload_n 0, 1) := by decide +kernel
theorem dX12_pushes_1 : decode cX12_pushes 1 = .ok (.getfield 67, 3) := by decide +kernel
theorem dX12_pushes_4 : decode cX12_pushes 4 = .ok (.aload_n 0, 1) := by decide +kernel
theorem dX12_pushes_5 : decode cX12_pushes 5 = .ok (.getfield 184, 3) := by decide +kernel
theorem dX12_pushes_8 : decode cX12_pushes 8 = .ok (.iload_n 1, 1) := by decide +kernel
theorem dX12_pushes_9 : decode cX12_pushes 9 = .ok (.iastore, 1) := by decide +kernel
theorem dX12_pushes_10 : decode cX12_pushes 10 = .ok (.aload_n 0, 1) := by decide +kernel
theorem dX12_pushes_11 : decode cX12_pushes 11 = .ok (.aload_n 0, 1) := by decide +kernel
theorem dX12_pushes_12 : decode cX12_pushes 12 = .ok (.getfield 184, 3) := by decide +kernel
theorem dX12_pushes_15 : decode cX12_pushes 15 = .ok (.iconst 1, 1) := by decide +kernel
theorem dX12_pushes_16 : decode cX12_pushes 16 = .ok (.iadd, 1) := by decide +kernel
theorem dX12_pushes_17 : decode cX12_pushes 17 = .ok (.putfield 184, 3) := by decide +kernel
theorem dX12_pushes_20 : decode cX12_pushes 20 = .ok (.return_, 1) := by decide +kernel
theorem dX12_joins_0 : decode cX12_joins 0 = .ok (.aload_n 0, 1) := by decide +kernel
theorem dX12_joins_1 : decode cX12_joins 1 = .ok (.aload_n 0, 1) := by decide +kernel
theorem dX12_joins_2 : decode cX12_joins 2 = .ok (.getfield 187, 3) := by decide +kernel
theorem dX12_joins_5 : decode cX12_joins 5 = .ok (.iconst 1, 1) := by decide +kernel
theorem dX12_joins_6 : decode cX12_joins 6 = .ok (.isub, 1) := by decide +kernel
theorem dX12_joins_7 : decode cX12_joins 7 = .ok (.putfield 187, 3) := by decide +kernel
theorem dX12_joins_10 : decode cX12_joins 10 = .ok (.aload_n 0, 1) := by decide +kernel
theorem dX12_joins_11 : decode cX12_joins 11 = .ok (.getfield 67, 3) := by decide +kernel
theorem dX12_joins_14 : decode cX12_joins 14 = .ok (.aload_n 0, 1) := by decide +kernel
theorem dX12_joins_15 : decode cX12_joins 15 = .ok (.getfield 184, 3) := by decide +kernel
theorem dX12_joins_18 : decode cX12_joins 18 = .ok (.iconst 1, 1) := by decide +kernel
theorem dX12_joins_19 : decode cX12_joins 19 = .ok (.isub, 1) := by decide +kernel
theorem dX12_joins_20 : decode cX12_joins 20 = .ok (.iaload, 1) := by decide +kernel
theorem dX12_joins_21 : decode cX12_joins 21 = .ok (.istore_n 1, 1) := by decide +kernel
theorem dX12_joins_22 : decode cX12_joins 22 = .ok (.aload_n 0, 1) := by decide +kernel
theorem dX12_joins_23 : decode cX12_joins 23 = .ok (.getfield 67, 3) := by decide +kernel
theorem dX12_joins_26 : decode cX12_joins 26 = .ok (.aload_n 0, 1) := by decide +kernel
theorem dX12_joins_27 : decode cX12_joins 27 = .ok (.getfield 184, 3) := by decide +kernel
theorem dX12_joins_30 : decode cX12_joins 30 = .ok (.iconst 2, 1) := by decide +kernel
theorem dX12_joins_31 : decode cX12_joins 31 = .ok (.isub, 1) := by decide +kernel
theorem dX12_joins_32 : decode cX12_joins 32 = .ok (.iaload, 1) := by decide +kernel
theorem dX12_joins_33 : decode cX12_joins 33 = .ok (.istore_n 2, 1) := by decide +kernel
theorem dX12_joins_34 : decode cX12_joins 34 = .ok (.aload_n 0, 1) := by decide +kernel
theorem dX12_joins_35 : decode cX12_joins 35 = .ok (.aload_n 0, 1) := by decide +kernel
theorem dX12_joins_36 : decode cX12_joins 36 = .ok (.getfield 184, 3) := by decide +kernel
theorem dX12_joins_39 : decode cX12_joins 39 = .ok (.iconst 2, 1) := by decide +kernel
theorem dX12_joins_40 : decode cX12_joins 40 = .ok (.isub, 1) := by decide +kernel
theorem dX12_joins_41 : decode cX12_joins 41 = .ok (.putfield 184, 3) := by decide +kernel
theorem dX12_joins_44 : decode cX12_joins 44 = .ok (.aload_n 0, 1) := by decide +kernel
theorem dX12_joins_45 : decode cX12_joins 45 = .ok (.aload_n 0, 1) := by decide +kernel
theorem dX12_joins_46 : decode cX12_joins 46 = .ok (.aload_n 0, 1) := by decide +kernel
theorem dX12_joins_47 : decode cX12_joins 47 = .ok (.getfield 64, 3) := by decide +kernel
theorem dX12_joins_50 : decode cX12_joins 50 = .ok (.aload_n 0, 1) := by decide +kernel
theorem dX12_joins_51 : decode cX12_joins 51 = .ok (.getfield 187, 3) := by decide +kernel
theorem dX12_joins_54 : decode cX12_joins 54 = .ok (.iaload, 1) := by decide +kernel
theorem dX12_joins_55 : decode cX12_joins 55 = .ok (.iload_n 2, 1) := by decide +kernel
theorem dX12_joins_56 : decode cX12_joins 56 = .ok (.iload_n 1, 1) := by decide +kernel
theorem dX12_joins_57 : decode cX12_joins 57 = .ok (.invokevirtual 190, 3) := by decide +kernel
theorem dX12_joins_60 : decode cX12_joins 60 = .ok (.invokevirtual 194, 3) := by decide +kernel
theorem dX12_joins_63 : decode cX12_joins 63 = .ok (.return_, 1) := by decide +kernel
theorem dX12_turns_0 : decode cX12_turns 0 = .ok (.aload_n 0, 1) := by decide +kernel
theorem dX12_turns_1 : decode cX12_turns 1 = .ok (.getfield 187, 3) := by decide +kernel
theorem dX12_turns_4 : decode cX12_turns 4 = .ok (.ifCond .le 72, 3) := by decide +kernel
theorem dX12_turns_7 : decode cX12_turns 7 = .ok (.aload_n 0, 1) := by decide +kernel
theorem dX12_turns_8 : decode cX12_turns 8 = .ok (.getfield 64, 3) := by decide +kernel
theorem dX12_turns_11 : decode cX12_turns 11 = .ok (.aload_n 0, 1) := by decide +kernel
theorem dX12_turns_12 : decode cX12_turns 12 = .ok (.getfield 187, 3) := by decide +kernel
theorem dX12_turns_15 : decode cX12_turns 15 = .ok (.iconst 1, 1) := by decide +kernel
theorem dX12_turns_16 : decode cX12_turns 16 = .ok (.isub, 1) := by decide +kernel
theorem dX12_turns_17 : decode cX12_turns 17 = .ok (.iaload, 1) := by decide +kernel
theorem dX12_turns_18 : decode cX12_turns 18 = .ok (.bipush 33, 2) := by decide +kernel
theorem dX12_turns_20 : decode cX12_turns 20 = .ok (.if_icmp .ne 56, 3) := by decide +kernel
theorem dX12_turns_23 : decode cX12_turns 23 = .ok (.aload_n 0, 1) := by decide +kernel
theorem dX12_turns_24 : decode cX12_turns 24 = .ok (.aload_n 0, 1) := by decide +kernel
theorem dX12_turns_25 : decode cX12_turns 25 = .ok (.getfield 187, 3) := by decide +kernel
theorem dX12_turns_28 : decode cX12_turns 28 = .ok (.iconst 1, 1) := by decide +kernel
theorem dX12_turns_29 : decode cX12_turns 29 = .ok (.isub, 1) := by decide +kernel
theorem dX12_turns_30 : decode cX12_turns 30 = .ok (.putfield 187, 3) := by decide +kernel
theorem dX12_turns_33 : decode cX12_turns 33 = .ok (.aload_n 0, 1) := by decide +kernel
theorem dX12_turns_34 : decode cX12_turns 34 = .ok (.aload_n 0, 1) := by decide +kernel
theorem dX12_turns_35 : decode cX12_turns 35 = .ok (.getfield 197, 3) := by decide +kernel
theorem dX12_turns_38 : decode cX12_turns 38 = .ok (.iconst 1, 1) := by decide +kernel
theorem dX12_turns_39 : decode cX12_turns 39 = .ok (.isub, 1) := by decide +kernel
theorem dX12_turns_40 : decode cX12_turns 40 = .ok (.putfield 197, 3) := by decide +kernel
theorem dX12_turns_43 : decode cX12_turns 43 = .ok (.aload_n 0, 1) := by decide +kernel
theorem dX12_turns_44 : decode cX12_turns 44 = .ok (.aload_n 0, 1) := by decide +kernel
theorem dX12_turns_45 : decode cX12_turns 45 = .ok (.getfield 184, 3) := by decide +kernel
theorem dX12_turns_48 : decode cX12_turns 48 = .ok (.iconst 1, 1) := by decide +kernel
theorem dX12_turns_49 : decode cX12_turns 49 = .ok (.isub, 1) := by decide +kernel
theorem dX12_turns_50 : decode cX12_turns 50 = .ok (.putfield 184, 3) := by decide +kernel
theorem dX12_turns_53 : decode cX12_turns 53 = .ok (.aload_n 0, 1) := by decide +kernel
theorem dX12_turns_54 : decode cX12_turns 54 = .ok (.aload_n 0, 1) := by decide +kernel
theorem dX12_turns_55 : decode cX12_turns 55 = .ok (.bipush 33, 2) := by decide +kernel
theorem dX12_turns_57 : decode cX12_turns 57 = .ok (.aload_n 0, 1) := by decide +kernel
theorem dX12_turns_58 : decode cX12_turns 58 = .ok (.getfield 67, 3) := by decide +kernel
theorem dX12_turns_61 : decode cX12_turns 61 = .ok (.aload_n 0, 1) := by decide +kernel
theorem dX12_turns_62 : decode cX12_turns 62 = .ok (.getfield 184, 3) := by decide +kernel
theorem dX12_turns_65 : decode cX12_turns 65 = .ok (.iaload, 1) := by decide +kernel
theorem dX12_turns_66 : decode cX12_turns 66 = .ok (.iconst 0, 1) := by decide +kernel
theorem dX12_turns_67 : decode cX12_turns 67 = .ok (.invokevirtual 190, 3) := by decide +kernel
theorem dX12_turns_70 : decode cX12_turns 70 = .ok (.invokevirtual 194, 3) := by decide +kernel
theorem dX12_turns_73 : decode cX12_turns 73 = .ok (.goto (-73), 3) := by decide +kernel
theorem dX12_turns_76 : decode cX12_turns 76 = .ok (.return_, 1) := by decide +kernel
theorem dX12_waitsFor_0 : decode cX12_waitsFor 0 = .ok (.aload_n 0, 1) := by decide +kernel
theorem dX12_waitsFor_1 : decode cX12_waitsFor 1 = .ok (.getfield 187, 3) := by decide +kernel
theorem dX12_waitsFor_4 : decode cX12_waitsFor 4 = .ok (.ifCond .eq 19, 3) := by decide +kernel
theorem dX12_waitsFor_7 : decode cX12_waitsFor 7 = .ok (.aload_n 0, 1) := by decide +kernel
theorem dX12_waitsFor_8 : decode cX12_waitsFor 8 = .ok (.getfield 64, 3) := by decide +kernel
theorem dX12_waitsFor_11 : decode cX12_waitsFor 11 = .ok (.aload_n 0, 1) := by decide +kernel
theorem dX12_waitsFor_12 : decode cX12_waitsFor 12 = .ok (.getfield 187, 3) := by decide +kernel
theorem dX12_waitsFor_15 : decode cX12_waitsFor 15 = .ok (.iconst 1, 1) := by decide +kernel
theorem dX12_waitsFor_16 : decode cX12_waitsFor 16 = .ok (.isub, 1) := by decide +kernel
theorem dX12_waitsFor_17 : decode cX12_waitsFor 17 = .ok (.iaload, 1) := by decide +kernel
theorem dX12_waitsFor_18 : decode cX12_waitsFor 18 = .ok (.bipush 40, 2) := by decide +kernel
theorem dX12_waitsFor_20 : decode cX12_waitsFor 20 = .ok (.if_icmp .ne 5, 3) := by decide +kernel
theorem dX12_waitsFor_23 : decode cX12_waitsFor 23 = .ok (.iconst 0, 1) := by decide +kernel
theorem dX12_waitsFor_24 : decode cX12_waitsFor 24 = .ok (.ireturn, 1) := by decide +kernel
theorem dX12_waitsFor_25 : decode cX12_waitsFor 25 = .ok (.aload_n 0, 1) := by decide +kernel
theorem dX12_waitsFor_26 : decode cX12_waitsFor 26 = .ok (.getfield 64, 3) := by decide +kernel
theorem dX12_waitsFor_29 : decode cX12_waitsFor 29 = .ok (.aload_n 0, 1) := by decide +kernel
theorem dX12_waitsFor_30 : decode cX12_waitsFor 30 = .ok (.getfield 187, 3) := by decide +kernel
theorem dX12_waitsFor_33 : decode cX12_waitsFor 33 = .ok (.iconst 1, 1) := by decide +kernel
theorem dX12_waitsFor_34 : decode cX12_waitsFor 34 = .ok (.isub, 1) := by decide +kernel
theorem dX12_waitsFor_35 : decode cX12_waitsFor 35 = .ok (.iaload, 1) := by decide +kernel
theorem dX12_waitsFor_36 : decode cX12_waitsFor 36 = .ok (.invokestatic 200, 3) := by decide +kernel
theorem dX12_waitsFor_39 : decode cX12_waitsFor 39 = .ok (.istore_n 2, 1) := by decide +kernel
theorem dX12_waitsFor_40 : decode cX12_waitsFor 40 = .ok (.iload_n 2, 1) := by decide +kernel
theorem dX12_waitsFor_41 : decode cX12_waitsFor 41 = .ok (.iload_n 1, 1) := by decide +kernel
theorem dX12_waitsFor_42 : decode cX12_waitsFor 42 = .ok (.if_icmp .gt 13, 3) := by decide +kernel
theorem dX12_waitsFor_45 : decode cX12_waitsFor 45 = .ok (.iload_n 2, 1) := by decide +kernel
theorem dX12_waitsFor_46 : decode cX12_waitsFor 46 = .ok (.iload_n 1, 1) := by decide +kernel
theorem dX12_waitsFor_47 : decode cX12_waitsFor 47 = .ok (.if_icmp .ne 12, 3) := by decide +kernel
theorem dX12_waitsFor_50 : decode cX12_waitsFor 50 = .ok (.iload_n 1, 1) := by decide +kernel
theorem dX12_waitsFor_51 : decode cX12_waitsFor 51 = .ok (.iconst 2, 1) := by decide +kernel
theorem dX12_waitsFor_52 : decode cX12_waitsFor 52 = .ok (.if_icmp .eq 7, 3) := by decide +kernel
theorem dX12_waitsFor_55 : decode cX12_waitsFor 55 = .ok (.iconst 1, 1) := by decide +kernel
theorem dX12_waitsFor_56 : decode cX12_waitsFor 56 = .ok (.goto 4, 3) := by decide +kernel
theorem dX12_waitsFor_59 : decode cX12_waitsFor 59 = .ok (.iconst 0, 1) := by decide +kernel
theorem dX12_waitsFor_60 : decode cX12_waitsFor 60 = .ok (.ireturn, 1) := by decide +kernel
theorem dX12_formula_0 : decode cX12_formula 0 = .ok (.aload_n 0, 1) := by decide +kernel
theorem dX12_formula_1 : decode cX12_formula 1 = .ok (.iconst 0, 1) := by decide +kernel
theorem dX12_formula_2 : decode cX12_formula 2 = .ok (.putfield 91, 3) := by decide +kernel
theorem dX12_formula_5 : decode cX12_formula 5 = .ok (.aload_n 0, 1) := by decide +kernel
theorem dX12_formula_6 : decode cX12_formula 6 = .ok (.iconst 0, 1) := by decide +kernel
theorem dX12_formula_7 : decode cX12_formula 7 = .ok (.putfield 187, 3) := by decide +kernel
theorem dX12_formula_10 : decode cX12_formula 10 = .ok (.aload_n 0, 1) := by decide +kernel
theorem dX12_formula_11 : decode cX12_formula 11 = .ok (.iconst 0, 1) := by decide +kernel
theorem dX12_formula_12 : decode cX12_formula 12 = .ok (.putfield 184, 3) := by decide +kernel
theorem dX12_formula_15 : decode cX12_formula 15 = .ok (.aload_n 0, 1) := by decide +kernel
theorem dX12_formula_16 : decode cX12_formula 16 = .ok (.iconst 0, 1) := by decide +kernel
theorem dX12_formula_17 : decode cX12_formula 17 = .ok (.putfield 197, 3) := by decide +kernel
theorem dX12_formula_20 : decode cX12_formula 20 = .ok (.iconst 1, 1) := by decide +kernel
theorem dX12_formula_21 : decode cX12_formula 21 = .ok (.istore_n 1, 1) := by decide +kernel
theorem dX12_formula_22 : decode cX12_formula 22 = .ok (.iload_n 1, 1) := by decide +kernel
theorem dX12_formula_23 : decode cX12_formula 23 = .ok (.ifCond .ne 17, 3) := by decide +kernel
theorem dX12_formula_26 : decode cX12_formula 26 = .ok (.aload_n 0, 1) := by decide +kernel
theorem dX12_formula_27 : decode cX12_formula 27 = .ok (.getfield 140, 3) := by decide +kernel
theorem dX12_formula_30 : decode cX12_formula 30 = .ok (.ifCond .ne 10, 3) := by decide +kernel
theorem dX12_formula_33 : decode cX12_formula 33 = .ok (.aload_n 0, 1) := by decide +kernel
theorem dX12_formula_34 : decode cX12_formula 34 = .ok (.getfield 187, 3) := by decide +kernel
theorem dX12_formula_37 : decode cX12_formula 37 = .ok (.ifCond .le 385, 3) := by decide +kernel
theorem dX12_formula_40 : decode cX12_formula 40 = .ok (.iload_n 1, 1) := by decide +kernel
theorem dX12_formula_41 : decode cX12_formula 41 = .ok (.ifCond .eq 170, 3) := by decide +kernel
theorem dX12_formula_44 : decode cX12_formula 44 = .ok (.aload_n 0, 1) := by decide +kernel
theorem dX12_formula_45 : decode cX12_formula 45 = .ok (.getfield 140, 3) := by decide +kernel
theorem dX12_formula_48 : decode cX12_formula 48 = .ok (.bipush 33, 2) := by decide +kernel
theorem dX12_formula_50 : decode cX12_formula 50 = .ok (.if_icmp .eq 12, 3) := by decide +kernel
theorem dX12_formula_53 : decode cX12_formula 53 = .ok (.aload_n 0, 1) := by decide +kernel
theorem dX12_formula_54 : decode cX12_formula 54 = .ok (.getfield 140, 3) := by decide +kernel
theorem dX12_formula_57 : decode cX12_formula 57 = .ok (.bipush 40, 2) := by decide +kernel
theorem dX12_formula_59 : decode cX12_formula 59 = .ok (.if_icmp .ne 54, 3) := by decide +kernel
theorem dX12_formula_62 : decode cX12_formula 62 = .ok (.aload_n 0, 1) := by decide +kernel
theorem dX12_formula_63 : decode cX12_formula 63 = .ok (.getfield 197, 3) := by decide +kernel
theorem dX12_formula_66 : decode cX12_formula 66 = .ok (.bipush 20, 2) := by decide +kernel
theorem dX12_formula_68 : decode cX12_formula 68 = .ok (.if_icmp .ne 9, 3) := by decide +kernel
theorem dX12_formula_71 : decode cX12_formula 71 = .ok (.aload_n 0, 1) := by decide +kernel
theorem dX12_formula_72 : decode cX12_formula 72 = .ok (.iconst 1, 1) := by decide +kernel
theorem dX12_formula_73 : decode cX12_formula 73 = .ok (.invokevirtual 153, 3) := by decide +kernel
theorem dX12_formula_76 : decode cX12_formula 76 = .ok (.ireturn, 1) := by decide +kernel
theorem dX12_formula_77 : decode cX12_formula 77 = .ok (.aload_n 0, 1) := by decide +kernel
theorem dX12_formula_78 : decode cX12_formula 78 = .ok (.getfield 64, 3) := by decide +kernel
theorem dX12_formula_81 : decode cX12_formula 81 = .ok (.aload_n 0, 1) := by decide +kernel
theorem dX12_formula_82 : decode cX12_formula 82 = .ok (.getfield 187, 3) := by decide +kernel
theorem dX12_formula_85 : decode cX12_formula 85 = .ok (.aload_n 0, 1) := by decide +kernel
theorem dX12_formula_86 : decode cX12_formula 86 = .ok (.getfield 140, 3) := by decide +kernel
theorem dX12_formula_89 : decode cX12_formula 89 = .ok (.iastore, 1) := by decide +kernel
theorem dX12_formula_90 : decode cX12_formula 90 = .ok (.aload_n 0, 1) := by decide +kernel
theorem dX12_formula_91 : decode cX12_formula 91 = .ok (.aload_n 0, 1) := by decide +kernel
theorem dX12_formula_92 : decode cX12_formula 92 = .ok (.getfield 187, 3) := by decide +kernel
theorem dX12_formula_95 : decode cX12_formula 95 = .ok (.iconst 1, 1) := by decide +kernel
theorem dX12_formula_96 : decode cX12_formula 96 = .ok (.iadd, 1) := by decide +kernel
theorem dX12_formula_97 : decode cX12_formula 97 = .ok (.putfield 187, 3) := by decide +kernel
theorem dX12_formula_100 : decode cX12_formula 100 = .ok (.aload_n 0, 1) := by decide +kernel
theorem dX12_formula_101 : decode cX12_formula 101 = .ok (.aload_n 0, 1) := by decide +kernel
theorem dX12_formula_102 : decode cX12_formula 102 = .ok (.getfield 197, 3) := by decide +kernel
theorem dX12_formula_105 : decode cX12_formula 105 = .ok (.iconst 1, 1) := by decide +kernel
theorem dX12_formula_106 : decode cX12_formula 106 = .ok (.iadd, 1) := by decide +kernel
theorem dX12_formula_107 : decode cX12_formula 107 = .ok (.putfield 197, 3) := by decide +kernel
theorem dX12_formula_110 : decode cX12_formula 110 = .ok (.goto 92, 3) := by decide +kernel
theorem dX12_formula_113 : decode cX12_formula 113 = .ok (.aload_n 0, 1) := by decide +kernel
theorem dX12_formula_114 : decode cX12_formula 114 = .ok (.getfield 140, 3) := by decide +kernel
theorem dX12_formula_117 : decode cX12_formula 117 = .ok (.bipush 110, 2) := by decide +kernel
theorem dX12_formula_119 : decode cX12_formula 119 = .ok (.if_icmp .eq 21, 3) := by decide +kernel
theorem dX12_formula_122 : decode cX12_formula 122 = .ok (.aload_n 0, 1) := by decide +kernel
theorem dX12_formula_123 : decode cX12_formula 123 = .ok (.getfield 140, 3) := by decide +kernel
theorem dX12_formula_126 : decode cX12_formula 126 = .ok (.bipush 48, 2) := by decide +kernel
theorem dX12_formula_128 : decode cX12_formula 128 = .ok (.if_icmp .eq 12, 3) := by decide +kernel
theorem dX12_formula_131 : decode cX12_formula 131 = .ok (.aload_n 0, 1) := by decide +kernel
theorem dX12_formula_132 : decode cX12_formula 132 = .ok (.getfield 140, 3) := by decide +kernel
theorem dX12_formula_135 : decode cX12_formula 135 = .ok (.bipush 49, 2) := by decide +kernel
theorem dX12_formula_137 : decode cX12_formula 137 = .ok (.if_icmp .ne 59, 3) := by decide +kernel
theorem dX12_formula_140 : decode cX12_formula 140 = .ok (.aload_n 0, 1) := by decide +kernel
theorem dX12_formula_141 : decode cX12_formula 141 = .ok (.getfield 140, 3) := by decide +kernel
theorem dX12_formula_144 : decode cX12_formula 144 = .ok (.bipush 110, 2) := by decide +kernel
theorem dX12_formula_146 : decode cX12_formula 146 = .ok (.if_icmp .ne 14, 3) := by decide +kernel
theorem dX12_formula_149 : decode cX12_formula 149 = .ok (.aload_n 0, 1) := by decide +kernel
theorem dX12_formula_150 : decode cX12_formula 150 = .ok (.aload_n 0, 1) := by decide +kernel
theorem dX12_formula_151 : decode cX12_formula 151 = .ok (.getfield 147, 3) := by decide +kernel
theorem dX12_formula_154 : decode cX12_formula 154 = .ok (.invokevirtual 181, 3) := by decide +kernel
theorem dX12_formula_157 : decode cX12_formula 157 = .ok (.goto 4, 3) := by decide +kernel
theorem dX12_formula_160 : decode cX12_formula 160 = .ok (.iconst 0, 1) := by decide +kernel
theorem dX12_formula_161 : decode cX12_formula 161 = .ok (.istore_n 2, 1) := by decide +kernel
theorem dX12_formula_162 : decode cX12_formula 162 = .ok (.iload_n 2, 1) := by decide +kernel
theorem dX12_formula_163 : decode cX12_formula 163 = .ok (.iconst (-1), 1) := by decide +kernel
theorem dX12_formula_164 : decode cX12_formula 164 = .ok (.if_icmp .ne 9, 3) := by decide +kernel
theorem dX12_formula_167 : decode cX12_formula 167 = .ok (.aload_n 0, 1) := by decide +kernel
theorem dX12_formula_168 : decode cX12_formula 168 = .ok (.iconst 2, 1) := by decide +kernel
theorem dX12_formula_169 : decode cX12_formula 169 = .ok (.invokevirtual 153, 3) := by decide +kernel
theorem dX12_formula_172 : decode cX12_formula 172 = .ok (.ireturn, 1) := by decide +kernel
theorem dX12_formula_173 : decode cX12_formula 173 = .ok (.aload_n 0, 1) := by decide +kernel
theorem dX12_formula_174 : decode cX12_formula 174 = .ok (.aload_n 0, 1) := by decide +kernel
theorem dX12_formula_175 : decode cX12_formula 175 = .ok (.aload_n 0, 1) := by decide +kernel
theorem dX12_formula_176 : decode cX12_formula 176 = .ok (.getfield 140, 3) := by decide +kernel
theorem dX12_formula_179 : decode cX12_formula 179 = .ok (.iload_n 2, 1) := by decide +kernel
theorem dX12_formula_180 : decode cX12_formula 180 = .ok (.iconst 0, 1) := by decide +kernel
theorem dX12_formula_181 : decode cX12_formula 181 = .ok (.invokevirtual 190, 3) := by decide +kernel
theorem dX12_formula_184 : decode cX12_formula 184 = .ok (.invokevirtual 194, 3) := by decide +kernel
theorem dX12_formula_187 : decode cX12_formula 187 = .ok (.aload_n 0, 1) := by decide +kernel
theorem dX12_formula_188 : decode cX12_formula 188 = .ok (.invokevirtual 203, 3) := by decide +kernel
theorem dX12_formula_191 : decode cX12_formula 191 = .ok (.iconst 0, 1) := by decide +kernel
theorem dX12_formula_192 : decode cX12_formula 192 = .ok (.istore_n 1, 1) := by decide +kernel
theorem dX12_formula_193 : decode cX12_formula 193 = .ok (.goto 9, 3) := by decide +kernel
theorem dX12_formula_196 : decode cX12_formula 196 = .ok (.aload_n 0, 1) := by decide +kernel
theorem dX12_formula_197 : decode cX12_formula 197 = .ok (.iconst 1, 1) := by decide +kernel
theorem dX12_formula_198 : decode cX12_formula 198 = .ok (.invokevirtual 153, 3) := by decide +kernel
theorem dX12_formula_201 : decode cX12_formula 201 = .ok (.ireturn, 1) := by decide +kernel
theorem dX12_formula_202 : decode cX12_formula 202 = .ok (.aload_n 0, 1) := by decide +kernel
theorem dX12_formula_203 : decode cX12_formula 203 = .ok (.invokevirtual 177, 3) := by decide +kernel
theorem dX12_formula_206 : decode cX12_formula 206 = .ok (.ifCond .ne (-184), 3) := by decide +kernel
theorem dX12_formula_209 : decode cX12_formula 209 = .ok (.iconst 0, 1) := by decide +kernel
theorem dX12_formula_210 : decode cX12_formula 210 = .ok (.ireturn, 1) := by decide +kernel
theorem dX12_formula_211 : decode cX12_formula 211 = .ok (.aload_n 0, 1) := by decide +kernel
theorem dX12_formula_212 : decode cX12_formula 212 = .ok (.getfield 140, 3) := by decide +kernel
theorem dX12_formula_215 : decode cX12_formula 215 = .ok (.bipush 41, 2) := by decide +kernel
theorem dX12_formula_217 : decode cX12_formula 217 = .ok (.if_icmp .ne 64, 3) := by decide +kernel
theorem dX12_formula_220 : decode cX12_formula 220 = .ok (.aload_n 0, 1) := by decide +kernel
theorem dX12_formula_221 : decode cX12_formula 221 = .ok (.iconst 0, 1) := by decide +kernel
theorem dX12_formula_222 : decode cX12_formula 222 = .ok (.invokevirtual 206, 3) := by decide +kernel
theorem dX12_formula_225 : decode cX12_formula 225 = .ok (.ifCond .eq 10, 3) := by decide +kernel
theorem dX12_formula_228 : decode cX12_formula 228 = .ok (.aload_n 0, 1) := by decide +kernel
theorem dX12_formula_229 : decode cX12_formula 229 = .ok (.invokevirtual 209, 3) := by decide +kernel
theorem dX12_formula_232 : decode cX12_formula 232 = .ok (.goto (-12), 3) := by decide +kernel
theorem dX12_formula_235 : decode cX12_formula 235 = .ok (.aload_n 0, 1) := by decide +kernel
theorem dX12_formula_236 : decode cX12_formula 236 = .ok (.getfield 187, 3) := by decide +kernel
theorem dX12_formula_239 : decode cX12_formula 239 = .ok (.ifCond .ne 9, 3) := by decide +kernel
theorem dX12_formula_242 : decode cX12_formula 242 = .ok (.aload_n 0, 1) := by decide +kernel
theorem dX12_formula_243 : decode cX12_formula 243 = .ok (.iconst 1, 1) := by decide +kernel
theorem dX12_formula_244 : decode cX12_formula 244 = .ok (.invokevirtual 153, 3) := by decide +kernel
theorem dX12_formula_247 : decode cX12_formula 247 = .ok (.ireturn, 1) := by decide +kernel
theorem dX12_formula_248 : decode cX12_formula 248 = .ok (.aload_n 0, 1) := by decide +kernel
theorem dX12_formula_249 : decode cX12_formula 249 = .ok (.aload_n 0, 1) := by decide +kernel
theorem dX12_formula_250 : decode cX12_formula 250 = .ok (.getfield 187, 3) := by decide +kernel
theorem dX12_formula_253 : decode cX12_formula 253 = .ok (.iconst 1, 1) := by decide +kernel
theorem dX12_formula_254 : decode cX12_formula 254 = .ok (.isub, 1) := by decide +kernel
theorem dX12_formula_255 : decode cX12_formula 255 = .ok (.putfield 187, 3) := by decide +kernel
theorem dX12_formula_258 : decode cX12_formula 258 = .ok (.aload_n 0, 1) := by decide +kernel
theorem dX12_formula_259 : decode cX12_formula 259 = .ok (.aload_n 0, 1) := by decide +kernel
theorem dX12_formula_260 : decode cX12_formula 260 = .ok (.getfield 197, 3) := by decide +kernel
theorem dX12_formula_263 : decode cX12_formula 263 = .ok (.iconst 1, 1) := by decide +kernel
theorem dX12_formula_264 : decode cX12_formula 264 = .ok (.isub, 1) := by decide +kernel
theorem dX12_formula_265 : decode cX12_formula 265 = .ok (.putfield 197, 3) := by decide +kernel
theorem dX12_formula_268 : decode cX12_formula 268 = .ok (.aload_n 0, 1) := by decide +kernel
theorem dX12_formula_269 : decode cX12_formula 269 = .ok (.invokevirtual 203, 3) := by decide +kernel
theorem dX12_formula_272 : decode cX12_formula 272 = .ok (.aload_n 0, 1) := by decide +kernel
theorem dX12_formula_273 : decode cX12_formula 273 = .ok (.invokevirtual 177, 3) := by decide +kernel
theorem dX12_formula_276 : decode cX12_formula 276 = .ok (.ifCond .ne (-254), 3) := by decide +kernel
theorem dX12_formula_279 : decode cX12_formula 279 = .ok (.iconst 0, 1) := by decide +kernel
theorem dX12_formula_280 : decode cX12_formula 280 = .ok (.ireturn, 1) := by decide +kernel
theorem dX12_formula_281 : decode cX12_formula 281 = .ok (.aload_n 0, 1) := by decide +kernel
theorem dX12_formula_282 : decode cX12_formula 282 = .ok (.getfield 140, 3) := by decide +kernel
theorem dX12_formula_285 : decode cX12_formula 285 = .ok (.ifCond .ne 31, 3) := by decide +kernel
theorem dX12_formula_288 : decode cX12_formula 288 = .ok (.aload_n 0, 1) := by decide +kernel
theorem dX12_formula_289 : decode cX12_formula 289 = .ok (.iconst 0, 1) := by decide +kernel
theorem dX12_formula_290 : decode cX12_formula 290 = .ok (.invokevirtual 206, 3) := by decide +kernel
theorem dX12_formula_293 : decode cX12_formula 293 = .ok (.ifCond .eq 10, 3) := by decide +kernel
theorem dX12_formula_296 : decode cX12_formula 296 = .ok (.aload_n 0, 1) := by decide +kernel
theorem dX12_formula_297 : decode cX12_formula 297 = .ok (.invokevirtual 209, 3) := by decide +kernel
theorem dX12_formula_300 : decode cX12_formula 300 = .ok (.goto (-12), 3) := by decide +kernel
theorem dX12_formula_303 : decode cX12_formula 303 = .ok (.aload_n 0, 1) := by decide +kernel
theorem dX12_formula_304 : decode cX12_formula 304 = .ok (.getfield 187, 3) := by decide +kernel
theorem dX12_formula_307 : decode cX12_formula 307 = .ok (.ifCond .le (-285), 3) := by decide +kernel
theorem dX12_formula_310 : decode cX12_formula 310 = .ok (.aload_n 0, 1) := by decide +kernel
theorem dX12_formula_311 : decode cX12_formula 311 = .ok (.iconst 1, 1) := by decide +kernel
theorem dX12_formula_312 : decode cX12_formula 312 = .ok (.invokevirtual 153, 3) := by decide +kernel
theorem dX12_formula_315 : decode cX12_formula 315 = .ok (.ireturn, 1) := by decide +kernel
theorem dX12_formula_316 : decode cX12_formula 316 = .ok (.aload_n 0, 1) := by decide +kernel
theorem dX12_formula_317 : decode cX12_formula 317 = .ok (.getfield 140, 3) := by decide +kernel
theorem dX12_formula_320 : decode cX12_formula 320 = .ok (.bipush 61, 2) := by decide +kernel
theorem dX12_formula_322 : decode cX12_formula 322 = .ok (.if_icmp .eq 39, 3) := by decide +kernel
theorem dX12_formula_325 : decode cX12_formula 325 = .ok (.aload_n 0, 1) := by decide +kernel
theorem dX12_formula_326 : decode cX12_formula 326 = .ok (.getfield 140, 3) := by decide +kernel
theorem dX12_formula_329 : decode cX12_formula 329 = .ok (.bipush 62, 2) := by decide +kernel
theorem dX12_formula_331 : decode cX12_formula 331 = .ok (.if_icmp .eq 30, 3) := by decide +kernel
theorem dX12_formula_334 : decode cX12_formula 334 = .ok (.aload_n 0, 1) := by decide +kernel
theorem dX12_formula_335 : decode cX12_formula 335 = .ok (.getfield 140, 3) := by decide +kernel
theorem dX12_formula_338 : decode cX12_formula 338 = .ok (.bipush 124, 2) := by decide +kernel
theorem dX12_formula_340 : decode cX12_formula 340 = .ok (.if_icmp .eq 21, 3) := by decide +kernel
theorem dX12_formula_343 : decode cX12_formula 343 = .ok (.aload_n 0, 1) := by decide +kernel
theorem dX12_formula_344 : decode cX12_formula 344 = .ok (.getfield 140, 3) := by decide +kernel
theorem dX12_formula_347 : decode cX12_formula 347 = .ok (.bipush 94, 2) := by decide +kernel
theorem dX12_formula_349 : decode cX12_formula 349 = .ok (.if_icmp .eq 12, 3) := by decide +kernel
theorem dX12_formula_352 : decode cX12_formula 352 = .ok (.aload_n 0, 1) := by decide +kernel
theorem dX12_formula_353 : decode cX12_formula 353 = .ok (.getfield 140, 3) := by decide +kernel
theorem dX12_formula_356 : decode cX12_formula 356 = .ok (.bipush 38, 2) := by decide +kernel
theorem dX12_formula_358 : decode cX12_formula 358 = .ok (.if_icmp .ne 58, 3) := by decide +kernel
theorem dX12_formula_361 : decode cX12_formula 361 = .ok (.aload_n 0, 1) := by decide +kernel
theorem dX12_formula_362 : decode cX12_formula 362 = .ok (.aload_n 0, 1) := by decide +kernel
theorem dX12_formula_363 : decode cX12_formula 363 = .ok (.getfield 140, 3) := by decide +kernel
theorem dX12_formula_366 : decode cX12_formula 366 = .ok (.invokestatic 200, 3) := by decide +kernel
theorem dX12_formula_369 : decode cX12_formula 369 = .ok (.invokevirtual 206, 3) := by decide +kernel
theorem dX12_formula_372 : decode cX12_formula 372 = .ok (.ifCond .eq 10, 3) := by decide +kernel
theorem dX12_formula_375 : decode cX12_formula 375 = .ok (.aload_n 0, 1) := by decide +kernel
theorem dX12_formula_376 : decode cX12_formula 376 = .ok (.invokevirtual 209, 3) := by decide +kernel
theorem dX12_formula_379 : decode cX12_formula 379 = .ok (.goto (-18), 3) := by decide +kernel
theorem dX12_formula_382 : decode cX12_formula 382 = .ok (.aload_n 0, 1) := by decide +kernel
theorem dX12_formula_383 : decode cX12_formula 383 = .ok (.getfield 64, 3) := by decide +kernel
theorem dX12_formula_386 : decode cX12_formula 386 = .ok (.aload_n 0, 1) := by decide +kernel
theorem dX12_formula_387 : decode cX12_formula 387 = .ok (.getfield 187, 3) := by decide +kernel
theorem dX12_formula_390 : decode cX12_formula 390 = .ok (.aload_n 0, 1) := by decide +kernel
theorem dX12_formula_391 : decode cX12_formula 391 = .ok (.getfield 140, 3) := by decide +kernel
theorem dX12_formula_394 : decode cX12_formula 394 = .ok (.iastore, 1) := by decide +kernel
theorem dX12_formula_395 : decode cX12_formula 395 = .ok (.aload_n 0, 1) := by decide +kernel
theorem dX12_formula_396 : decode cX12_formula 396 = .ok (.aload_n 0, 1) := by decide +kernel
theorem dX12_formula_397 : decode cX12_formula 397 = .ok (.getfield 187, 3) := by decide +kernel
theorem dX12_formula_400 : decode cX12_formula 400 = .ok (.iconst 1, 1) := by decide +kernel
theorem dX12_formula_401 : decode cX12_formula 401 = .ok (.iadd, 1) := by decide +kernel
theorem dX12_formula_402 : decode cX12_formula 402 = .ok (.putfield 187, 3) := by decide +kernel
theorem dX12_formula_405 : decode cX12_formula 405 = .ok (.iconst 1, 1) := by decide +kernel
theorem dX12_formula_406 : decode cX12_formula 406 = .ok (.istore_n 1, 1) := by decide +kernel
theorem dX12_formula_407 : decode cX12_formula 407 = .ok (.aload_n 0, 1) := by decide +kernel
theorem dX12_formula_408 : decode cX12_formula 408 = .ok (.invokevirtual 177, 3) := by decide +kernel
theorem dX12_formula_411 : decode cX12_formula 411 = .ok (.ifCond .ne (-389), 3) := by decide +kernel
theorem dX12_formula_414 : decode cX12_formula 414 = .ok (.iconst 0, 1) := by decide +kernel
theorem dX12_formula_415 : decode cX12_formula 415 = .ok (.ireturn, 1) := by decide +kernel
theorem dX12_formula_416 : decode cX12_formula 416 = .ok (.aload_n 0, 1) := by decide +kernel
theorem dX12_formula_417 : decode cX12_formula 417 = .ok (.iconst 1, 1) := by decide +kernel
theorem dX12_formula_418 : decode cX12_formula 418 = .ok (.invokevirtual 153, 3) := by decide +kernel
theorem dX12_formula_421 : decode cX12_formula 421 = .ok (.ireturn, 1) := by decide +kernel
theorem dX12_formula_422 : decode cX12_formula 422 = .ok (.aload_n 0, 1) := by decide +kernel
theorem dX12_formula_423 : decode cX12_formula 423 = .ok (.aload_n 0, 1) := by decide +kernel
theorem dX12_formula_424 : decode cX12_formula 424 = .ok (.getfield 67, 3) := by decide +kernel
theorem dX12_formula_427 : decode cX12_formula 427 = .ok (.iconst 0, 1) := by decide +kernel
theorem dX12_formula_428 : decode cX12_formula 428 = .ok (.iaload, 1) := by decide +kernel
theorem dX12_formula_429 : decode cX12_formula 429 = .ok (.putfield 94, 3) := by decide +kernel
theorem dX12_formula_432 : decode cX12_formula 432 = .ok (.iconst 1, 1) := by decide +kernel
theorem dX12_formula_433 : decode cX12_formula 433 = .ok (.ireturn, 1) := by decide +kernel
theorem dX12_read_0 : decode cX12_read 0 = .ok (.iload_n 1, 1) := by decide +kernel
theorem dX12_read_1 : decode cX12_read 1 = .ok (.ifCond .lt 11, 3) := by decide +kernel
theorem dX12_read_4 : decode cX12_read 4 = .ok (.iload_n 1, 1) := by decide +kernel
theorem dX12_read_5 : decode cX12_read 5 = .ok (.aload_n 0, 1) := by decide +kernel
theorem dX12_read_6 : decode cX12_read 6 = .ok (.getfield 107, 3) := by decide +kernel
theorem dX12_read_9 : decode cX12_read 9 = .ok (.if_icmp .le 5, 3) := by decide +kernel
theorem dX12_read_12 : decode cX12_read 12 = .ok (.iconst (-1), 1) := by decide +kernel
theorem dX12_read_13 : decode cX12_read 13 = .ok (.ireturn, 1) := by decide +kernel
theorem dX12_read_14 : decode cX12_read 14 = .ok (.iconst 0, 1) := by decide +kernel
theorem dX12_read_15 : decode cX12_read 15 = .ok (.istore_n 2, 1) := by decide +kernel
theorem dX12_read_16 : decode cX12_read 16 = .ok (.iload_n 2, 1) := by decide +kernel
theorem dX12_read_17 : decode cX12_read 17 = .ok (.iload_n 1, 1) := by decide +kernel
theorem dX12_read_18 : decode cX12_read 18 = .ok (.if_icmp .ge 21, 3) := by decide +kernel
theorem dX12_read_21 : decode cX12_read 21 = .ok (.aload_n 0, 1) := by decide +kernel
theorem dX12_read_22 : decode cX12_read 22 = .ok (.getfield 13, 3) := by decide +kernel
theorem dX12_read_25 : decode cX12_read 25 = .ok (.iload_n 2, 1) := by decide +kernel
theorem dX12_read_26 : decode cX12_read 26 = .ok (.aload_n 0, 1) := by decide +kernel
theorem dX12_read_27 : decode cX12_read 27 = .ok (.getfield 7, 3) := by decide +kernel
theorem dX12_read_30 : decode cX12_read 30 = .ok (.iload_n 2, 1) := by decide +kernel
theorem dX12_read_31 : decode cX12_read 31 = .ok (.baload, 1) := by decide +kernel
theorem dX12_read_32 : decode cX12_read 32 = .ok (.bastore, 1) := by decide +kernel
theorem dX12_read_33 : decode cX12_read 33 = .ok (.iinc 2 1, 3) := by decide +kernel
theorem dX12_read_36 : decode cX12_read 36 = .ok (.goto (-20), 3) := by decide +kernel
theorem dX12_read_39 : decode cX12_read 39 = .ok (.aload_n 0, 1) := by decide +kernel
theorem dX12_read_40 : decode cX12_read 40 = .ok (.iload_n 1, 1) := by decide +kernel
theorem dX12_read_41 : decode cX12_read 41 = .ok (.putfield 114, 3) := by decide +kernel
theorem dX12_read_44 : decode cX12_read 44 = .ok (.aload_n 0, 1) := by decide +kernel
theorem dX12_read_45 : decode cX12_read 45 = .ok (.iconst 0, 1) := by decide +kernel
theorem dX12_read_46 : decode cX12_read 46 = .ok (.putfield 107, 3) := by decide +kernel
theorem dX12_read_49 : decode cX12_read 49 = .ok (.aload_n 0, 1) := by decide +kernel
theorem dX12_read_50 : decode cX12_read 50 = .ok (.iconst 1, 1) := by decide +kernel
theorem dX12_read_51 : decode cX12_read 51 = .ok (.invokevirtual 212, 3) := by decide +kernel
theorem dX12_read_54 : decode cX12_read 54 = .ok (.aload_n 0, 1) := by decide +kernel
theorem dX12_read_55 : decode cX12_read 55 = .ok (.iconst 0, 1) := by decide +kernel
theorem dX12_read_56 : decode cX12_read 56 = .ok (.putfield 150, 3) := by decide +kernel
theorem dX12_read_59 : decode cX12_read 59 = .ok (.aload_n 0, 1) := by decide +kernel
theorem dX12_read_60 : decode cX12_read 60 = .ok (.iconst (-1), 1) := by decide +kernel
theorem dX12_read_61 : decode cX12_read 61 = .ok (.putfield 16, 3) := by decide +kernel
theorem dX12_read_64 : decode cX12_read 64 = .ok (.aload_n 0, 1) := by decide +kernel
theorem dX12_read_65 : decode cX12_read 65 = .ok (.iconst 0, 1) := by decide +kernel
theorem dX12_read_66 : decode cX12_read 66 = .ok (.putfield 124, 3) := by decide +kernel
theorem dX12_read_69 : decode cX12_read 69 = .ok (.aload_n 0, 1) := by decide +kernel
theorem dX12_read_70 : decode cX12_read 70 = .ok (.iconst 0, 1) := by decide +kernel
theorem dX12_read_71 : decode cX12_read 71 = .ok (.putfield 137, 3) := by decide +kernel
theorem dX12_read_74 : decode cX12_read 74 = .ok (.aload_n 0, 1) := by decide +kernel
theorem dX12_read_75 : decode cX12_read 75 = .ok (.invokevirtual 156, 3) := by decide +kernel
theorem dX12_read_78 : decode cX12_read 78 = .ok (.aload_n 0, 1) := by decide +kernel
theorem dX12_read_79 : decode cX12_read 79 = .ok (.invokevirtual 216, 3) := by decide +kernel
theorem dX12_read_82 : decode cX12_read 82 = .ok (.ifCond .eq 10, 3) := by decide +kernel
theorem dX12_read_85 : decode cX12_read 85 = .ok (.aload_n 0, 1) := by decide +kernel
theorem dX12_read_86 : decode cX12_read 86 = .ok (.invokevirtual 219, 3) := by decide +kernel
theorem dX12_read_89 : decode cX12_read 89 = .ok (.ifCond .ne 11, 3) := by decide +kernel
theorem dX12_read_92 : decode cX12_read 92 = .ok (.aload_n 0, 1) := by decide +kernel
theorem dX12_read_93 : decode cX12_read 93 = .ok (.iconst 0, 1) := by decide +kernel
theorem dX12_read_94 : decode cX12_read 94 = .ok (.invokevirtual 212, 3) := by decide +kernel
theorem dX12_read_97 : decode cX12_read 97 = .ok (.bipush (-2), 2) := by decide +kernel
theorem dX12_read_99 : decode cX12_read 99 = .ok (.ireturn, 1) := by decide +kernel
theorem dX12_read_100 : decode cX12_read 100 = .ok (.aload_n 0, 1) := by decide +kernel
theorem dX12_read_101 : decode cX12_read 101 = .ok (.invokevirtual 97, 3) := by decide +kernel
theorem dX12_read_104 : decode cX12_read 104 = .ok (.aload_n 0, 1) := by decide +kernel
theorem dX12_read_105 : decode cX12_read 105 = .ok (.iconst (-1), 1) := by decide +kernel
theorem dX12_read_106 : decode cX12_read 106 = .ok (.iconst 0, 1) := by decide +kernel
theorem dX12_read_107 : decode cX12_read 107 = .ok (.iconst (-1), 1) := by decide +kernel
theorem dX12_read_108 : decode cX12_read 108 = .ok (.invokevirtual 100, 3) := by decide +kernel
theorem dX12_read_111 : decode cX12_read 111 = .ok (.aload_n 0, 1) := by decide +kernel
theorem dX12_read_112 : decode cX12_read 112 = .ok (.invokevirtual 104, 3) := by decide +kernel
theorem dX12_read_115 : decode cX12_read 115 = .ok (.aload_n 0, 1) := by decide +kernel
theorem dX12_read_116 : decode cX12_read 116 = .ok (.iconst 0, 1) := by decide +kernel
theorem dX12_read_117 : decode cX12_read 117 = .ok (.putfield 222, 3) := by decide +kernel
theorem dX12_read_120 : decode cX12_read 120 = .ok (.aload_n 0, 1) := by decide +kernel
theorem dX12_read_121 : decode cX12_read 121 = .ok (.iconst 0, 1) := by decide +kernel
theorem dX12_read_122 : decode cX12_read 122 = .ok (.putfield 225, 3) := by decide +kernel
theorem dX12_read_125 : decode cX12_read 125 = .ok (.aload_n 0, 1) := by decide +kernel
theorem dX12_read_126 : decode cX12_read 126 = .ok (.iconst 0, 1) := by decide +kernel
theorem dX12_read_127 : decode cX12_read 127 = .ok (.putfield 228, 3) := by decide +kernel
theorem dX12_read_130 : decode cX12_read 130 = .ok (.aload_n 0, 1) := by decide +kernel
theorem dX12_read_131 : decode cX12_read 131 = .ok (.getfield 165, 3) := by decide +kernel
theorem dX12_read_134 : decode cX12_read 134 = .ok (.ireturn, 1) := by decide +kernel
theorem dX12_valueOf_0 : decode cX12_valueOf 0 = .ok (.aload_n 0, 1) := by decide +kernel
theorem dX12_valueOf_1 : decode cX12_valueOf 1 = .ok (.getfield 34, 3) := by decide +kernel
theorem dX12_valueOf_4 : decode cX12_valueOf 4 = .ok (.iload_n 1, 1) := by decide +kernel
theorem dX12_valueOf_5 : decode cX12_valueOf 5 = .ok (.iaload, 1) := by decide +kernel
theorem dX12_valueOf_6 : decode cX12_valueOf 6 = .ok (.lookupswitch 255 #[(33, 105), (38, 125), (48, 74), (49, 76), (61, 224), (94, 193), (110, 78), (124, 159)], 74) := by decide +kernel
theorem dX12_valueOf_80 : decode cX12_valueOf 80 = .ok (.iconst 0, 1) := by decide +kernel
theorem dX12_valueOf_81 : decode cX12_valueOf 81 = .ok (.ireturn, 1) := by decide +kernel
theorem dX12_valueOf_82 : decode cX12_valueOf 82 = .ok (.iconst 1, 1) := by decide +kernel
theorem dX12_valueOf_83 : decode cX12_valueOf 83 = .ok (.ireturn, 1) := by decide +kernel
theorem dX12_valueOf_84 : decode cX12_valueOf 84 = .ok (.iload_n 2, 1) := by decide +kernel
theorem dX12_valueOf_85 : decode cX12_valueOf 85 = .ok (.aload_n 0, 1) := by decide +kernel
theorem dX12_valueOf_86 : decode cX12_valueOf 86 = .ok (.getfield 159, 3) := by decide +kernel
theorem dX12_valueOf_89 : decode cX12_valueOf 89 = .ok (.iconst 1, 1) := by decide +kernel
theorem dX12_valueOf_90 : decode cX12_valueOf 90 = .ok (.isub, 1) := by decide +kernel
theorem dX12_valueOf_91 : decode cX12_valueOf 91 = .ok (.aload_n 0, 1) := by decide +kernel
theorem dX12_valueOf_92 : decode cX12_valueOf 92 = .ok (.getfield 37, 3) := by decide +kernel
theorem dX12_valueOf_95 : decode cX12_valueOf 95 = .ok (.iload_n 1, 1) := by decide +kernel
theorem dX12_valueOf_96 : decode cX12_valueOf 96 = .ok (.iaload, 1) := by decide +kernel
theorem dX12_valueOf_97 : decode cX12_valueOf 97 = .ok (.isub, 1) := by decide +kernel
theorem dX12_valueOf_98 : decode cX12_valueOf 98 = .ok (.ishr, 1) := by decide +kernel
theorem dX12_valueOf_99 : decode cX12_valueOf 99 = .ok (.iconst 1, 1) := by decide +kernel
theorem dX12_valueOf_100 : decode cX12_valueOf 100 = .ok (.iand, 1) := by decide +kernel
theorem dX12_valueOf_101 : decode cX12_valueOf 101 = .ok (.iconst 1, 1) := by decide +kernel
theorem dX12_valueOf_102 : decode cX12_valueOf 102 = .ok (.if_icmp .ne 7, 3) := by decide +kernel
theorem dX12_valueOf_105 : decode cX12_valueOf 105 = .ok (.iconst 1, 1) := by decide +kernel
theorem dX12_valueOf_106 : decode cX12_valueOf 106 = .ok (.goto 4, 3) := by decide +kernel
theorem dX12_valueOf_109 : decode cX12_valueOf 109 = .ok (.iconst 0, 1) := by decide +kernel
theorem dX12_valueOf_110 : decode cX12_valueOf 110 = .ok (.ireturn, 1) := by decide +kernel
theorem dX12_valueOf_111 : decode cX12_valueOf 111 = .ok (.aload_n 0, 1) := by decide +kernel
theorem dX12_valueOf_112 : decode cX12_valueOf 112 = .ok (.getfield 79, 3) := by decide +kernel
theorem dX12_valueOf_115 : decode cX12_valueOf 115 = .ok (.aload_n 0, 1) := by decide +kernel
theorem dX12_valueOf_116 : decode cX12_valueOf 116 = .ok (.getfield 37, 3) := by decide +kernel
theorem dX12_valueOf_119 : decode cX12_valueOf 119 = .ok (.iload_n 1, 1) := by decide +kernel
theorem dX12_valueOf_120 : decode cX12_valueOf 120 = .ok (.iaload, 1) := by decide +kernel
theorem dX12_valueOf_121 : decode cX12_valueOf 121 = .ok (.baload, 1) := by decide +kernel
theorem dX12_valueOf_122 : decode cX12_valueOf 122 = .ok (.ifCond .ne 7, 3) := by decide +kernel
theorem dX12_valueOf_125 : decode cX12_valueOf 125 = .ok (.iconst 1, 1) := by decide +kernel
theorem dX12_valueOf_126 : decode cX12_valueOf 126 = .ok (.goto 4, 3) := by decide +kernel
theorem dX12_valueOf_129 : decode cX12_valueOf 129 = .ok (.iconst 0, 1) := by decide +kernel
theorem dX12_valueOf_130 : decode cX12_valueOf 130 = .ok (.ireturn, 1) := by decide +kernel
theorem dX12_valueOf_131 : decode cX12_valueOf 131 = .ok (.aload_n 0, 1) := by decide +kernel
theorem dX12_valueOf_132 : decode cX12_valueOf 132 = .ok (.getfield 79, 3) := by decide +kernel
theorem dX12_valueOf_135 : decode cX12_valueOf 135 = .ok (.aload_n 0, 1) := by decide +kernel
theorem dX12_valueOf_136 : decode cX12_valueOf 136 = .ok (.getfield 37, 3) := by decide +kernel
theorem dX12_valueOf_139 : decode cX12_valueOf 139 = .ok (.iload_n 1, 1) := by decide +kernel
theorem dX12_valueOf_140 : decode cX12_valueOf 140 = .ok (.iaload, 1) := by decide +kernel
theorem dX12_valueOf_141 : decode cX12_valueOf 141 = .ok (.baload, 1) := by decide +kernel
theorem dX12_valueOf_142 : decode cX12_valueOf 142 = .ok (.ifCond .eq 21, 3) := by decide +kernel
theorem dX12_valueOf_145 : decode cX12_valueOf 145 = .ok (.aload_n 0, 1) := by decide +kernel
theorem dX12_valueOf_146 : decode cX12_valueOf 146 = .ok (.getfield 79, 3) := by decide +kernel
theorem dX12_valueOf_149 : decode cX12_valueOf 149 = .ok (.aload_n 0, 1) := by decide +kernel
theorem dX12_valueOf_150 : decode cX12_valueOf 150 = .ok (.getfield 40, 3) := by decide +kernel
theorem dX12_valueOf_153 : decode cX12_valueOf 153 = .ok (.iload_n 1, 1) := by decide +kernel
theorem dX12_valueOf_154 : decode cX12_valueOf 154 = .ok (.iaload, 1) := by decide +kernel
theorem dX12_valueOf_155 : decode cX12_valueOf 155 = .ok (.baload, 1) := by decide +kernel
theorem dX12_valueOf_156 : decode cX12_valueOf 156 = .ok (.ifCond .eq 7, 3) := by decide +kernel
theorem dX12_valueOf_159 : decode cX12_valueOf 159 = .ok (.iconst 1, 1) := by decide +kernel
theorem dX12_valueOf_160 : decode cX12_valueOf 160 = .ok (.goto 4, 3) := by decide +kernel
theorem dX12_valueOf_163 : decode cX12_valueOf 163 = .ok (.iconst 0, 1) := by decide +kernel
theorem dX12_valueOf_164 : decode cX12_valueOf 164 = .ok (.ireturn, 1) := by decide +kernel
theorem dX12_valueOf_165 : decode cX12_valueOf 165 = .ok (.aload_n 0, 1) := by decide +kernel
theorem dX12_valueOf_166 : decode cX12_valueOf 166 = .ok (.getfield 79, 3) := by decide +kernel
theorem dX12_valueOf_169 : decode cX12_valueOf 169 = .ok (.aload_n 0, 1) := by decide +kernel
theorem dX12_valueOf_170 : decode cX12_valueOf 170 = .ok (.getfield 37, 3) := by decide +kernel
theorem dX12_valueOf_173 : decode cX12_valueOf 173 = .ok (.iload_n 1, 1) := by decide +kernel
theorem dX12_valueOf_174 : decode cX12_valueOf 174 = .ok (.iaload, 1) := by decide +kernel
theorem dX12_valueOf_175 : decode cX12_valueOf 175 = .ok (.baload, 1) := by decide +kernel
theorem dX12_valueOf_176 : decode cX12_valueOf 176 = .ok (.ifCond .ne 17, 3) := by decide +kernel
theorem dX12_valueOf_179 : decode cX12_valueOf 179 = .ok (.aload_n 0, 1) := by decide +kernel
theorem dX12_valueOf_180 : decode cX12_valueOf 180 = .ok (.getfield 79, 3) := by decide +kernel
theorem dX12_valueOf_183 : decode cX12_valueOf 183 = .ok (.aload_n 0, 1) := by decide +kernel
theorem dX12_valueOf_184 : decode cX12_valueOf 184 = .ok (.getfield 40, 3) := by decide +kernel
theorem dX12_valueOf_187 : decode cX12_valueOf 187 = .ok (.iload_n 1, 1) := by decide +kernel
theorem dX12_valueOf_188 : decode cX12_valueOf 188 = .ok (.iaload, 1) := by decide +kernel
theorem dX12_valueOf_189 : decode cX12_valueOf 189 = .ok (.baload, 1) := by decide +kernel
theorem dX12_valueOf_190 : decode cX12_valueOf 190 = .ok (.ifCond .eq 7, 3) := by decide +kernel
theorem dX12_valueOf_193 : decode cX12_valueOf 193 = .ok (.iconst 1, 1) := by decide +kernel
theorem dX12_valueOf_194 : decode cX12_valueOf 194 = .ok (.goto 4, 3) := by decide +kernel
theorem dX12_valueOf_197 : decode cX12_valueOf 197 = .ok (.iconst 0, 1) := by decide +kernel
theorem dX12_valueOf_198 : decode cX12_valueOf 198 = .ok (.ireturn, 1) := by decide +kernel
theorem dX12_valueOf_199 : decode cX12_valueOf 199 = .ok (.aload_n 0, 1) := by decide +kernel
theorem dX12_valueOf_200 : decode cX12_valueOf 200 = .ok (.getfield 79, 3) := by decide +kernel
theorem dX12_valueOf_203 : decode cX12_valueOf 203 = .ok (.aload_n 0, 1) := by decide +kernel
theorem dX12_valueOf_204 : decode cX12_valueOf 204 = .ok (.getfield 37, 3) := by decide +kernel
theorem dX12_valueOf_207 : decode cX12_valueOf 207 = .ok (.iload_n 1, 1) := by decide +kernel
theorem dX12_valueOf_208 : decode cX12_valueOf 208 = .ok (.iaload, 1) := by decide +kernel
theorem dX12_valueOf_209 : decode cX12_valueOf 209 = .ok (.baload, 1) := by decide +kernel
theorem dX12_valueOf_210 : decode cX12_valueOf 210 = .ok (.aload_n 0, 1) := by decide +kernel
theorem dX12_valueOf_211 : decode cX12_valueOf 211 = .ok (.getfield 79, 3) := by decide +kernel
theorem dX12_valueOf_214 : decode cX12_valueOf 214 = .ok (.aload_n 0, 1) := by decide +kernel
theorem dX12_valueOf_215 : decode cX12_valueOf 215 = .ok (.getfield 40, 3) := by decide +kernel
theorem dX12_valueOf_218 : decode cX12_valueOf 218 = .ok (.iload_n 1, 1) := by decide +kernel
theorem dX12_valueOf_219 : decode cX12_valueOf 219 = .ok (.iaload, 1) := by decide +kernel
theorem dX12_valueOf_220 : decode cX12_valueOf 220 = .ok (.baload, 1) := by decide +kernel
theorem dX12_valueOf_221 : decode cX12_valueOf 221 = .ok (.if_icmp .eq 7, 3) := by decide +kernel
theorem dX12_valueOf_224 : decode cX12_valueOf 224 = .ok (.iconst 1, 1) := by decide +kernel
theorem dX12_valueOf_225 : decode cX12_valueOf 225 = .ok (.goto 4, 3) := by decide +kernel
theorem dX12_valueOf_228 : decode cX12_valueOf 228 = .ok (.iconst 0, 1) := by decide +kernel
theorem dX12_valueOf_229 : decode cX12_valueOf 229 = .ok (.ireturn, 1) := by decide +kernel
theorem dX12_valueOf_230 : decode cX12_valueOf 230 = .ok (.aload_n 0, 1) := by decide +kernel
theorem dX12_valueOf_231 : decode cX12_valueOf 231 = .ok (.getfield 79, 3) := by decide +kernel
theorem dX12_valueOf_234 : decode cX12_valueOf 234 = .ok (.aload_n 0, 1) := by decide +kernel
theorem dX12_valueOf_235 : decode cX12_valueOf 235 = .ok (.getfield 37, 3) := by decide +kernel
theorem dX12_valueOf_238 : decode cX12_valueOf 238 = .ok (.iload_n 1, 1) := by decide +kernel
theorem dX12_valueOf_239 : decode cX12_valueOf 239 = .ok (.iaload, 1) := by decide +kernel
theorem dX12_valueOf_240 : decode cX12_valueOf 240 = .ok (.baload, 1) := by decide +kernel
theorem dX12_valueOf_241 : decode cX12_valueOf 241 = .ok (.aload_n 0, 1) := by decide +kernel
theorem dX12_valueOf_242 : decode cX12_valueOf 242 = .ok (.getfield 79, 3) := by decide +kernel
theorem dX12_valueOf_245 : decode cX12_valueOf 245 = .ok (.aload_n 0, 1) := by decide +kernel
theorem dX12_valueOf_246 : decode cX12_valueOf 246 = .ok (.getfield 40, 3) := by decide +kernel
theorem dX12_valueOf_249 : decode cX12_valueOf 249 = .ok (.iload_n 1, 1) := by decide +kernel
theorem dX12_valueOf_250 : decode cX12_valueOf 250 = .ok (.iaload, 1) := by decide +kernel
theorem dX12_valueOf_251 : decode cX12_valueOf 251 = .ok (.baload, 1) := by decide +kernel
theorem dX12_valueOf_252 : decode cX12_valueOf 252 = .ok (.if_icmp .ne 7, 3) := by decide +kernel
theorem dX12_valueOf_255 : decode cX12_valueOf 255 = .ok (.iconst 1, 1) := by decide +kernel
theorem dX12_valueOf_256 : decode cX12_valueOf 256 = .ok (.goto 4, 3) := by decide +kernel
theorem dX12_valueOf_259 : decode cX12_valueOf 259 = .ok (.iconst 0, 1) := by decide +kernel
theorem dX12_valueOf_260 : decode cX12_valueOf 260 = .ok (.ireturn, 1) := by decide +kernel
theorem dX12_valueOf_261 : decode cX12_valueOf 261 = .ok (.aload_n 0, 1) := by decide +kernel
theorem dX12_valueOf_262 : decode cX12_valueOf 262 = .ok (.getfield 79, 3) := by decide +kernel
theorem dX12_valueOf_265 : decode cX12_valueOf 265 = .ok (.aload_n 0, 1) := by decide +kernel
theorem dX12_valueOf_266 : decode cX12_valueOf 266 = .ok (.getfield 37, 3) := by decide +kernel

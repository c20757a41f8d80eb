theorem smd_S_perform_0 : decode prog_1_method_34_code 0 = .ok (.aload_n 1, 1) := by decide +kernel
theorem smd_S_perform_1 : decode prog_1_method_34_code 1 = .ok (.getfield 139, 3) := by decide +kernel
theorem smd_S_perform_4 : decode prog_1_method_34_code 4 = .ok (.iconst 1, 1) := by decide +kernel
theorem smd_S_perform_5 : decode prog_1_method_34_code 5 = .ok (.isub, 1) := by decide +kernel
theorem smd_S_perform_6 : decode prog_1_method_34_code 6 = .ok (.istore_n 2, 1) := by decide +kernel
theorem smd_S_perform_7 : decode prog_1_method_34_code 7 = .ok (.aload_n 1, 1) := by decide +kernel
theorem smd_S_perform_8 : decode prog_1_method_34_code 8 = .ok (.getfield 142, 3) := by decide +kernel
theorem smd_S_perform_11 : decode prog_1_method_34_code 11 = .ok (.iload_n 2, 1) := by decide +kernel
theorem smd_S_perform_12 : decode prog_1_method_34_code 12 = .ok (.iaload, 1) := by decide +kernel
theorem smd_S_perform_13 : decode prog_1_method_34_code 13 = .ok (.aload_n 1, 1) := by decide +kernel
theorem smd_S_perform_14 : decode prog_1_method_34_code 14 = .ok (.getfield 145, 3) := by decide +kernel
theorem smd_S_perform_17 : decode prog_1_method_34_code 17 = .ok (.iload_n 2, 1) := by decide +kernel
theorem smd_S_perform_18 : decode prog_1_method_34_code 18 = .ok (.iaload, 1) := by decide +kernel
theorem smd_S_perform_19 : decode prog_1_method_34_code 19 = .ok (.invokestatic 185, 3) := by decide +kernel
theorem smd_S_perform_22 : decode prog_1_method_34_code 22 = .ok (.istore_n 3, 1) := by decide +kernel
theorem smd_S_perform_23 : decode prog_1_method_34_code 23 = .ok (.aload_n 0, 1) := by decide +kernel
theorem smd_S_perform_24 : decode prog_1_method_34_code 24 = .ok (.getfield 10, 3) := by decide +kernel
theorem smd_S_perform_27 : decode prog_1_method_34_code 27 = .ok (.getfield 188, 3) := by decide +kernel
theorem smd_S_perform_30 : decode prog_1_method_34_code 30 = .ok (.iload_n 3, 1) := by decide +kernel
theorem smd_S_perform_31 : decode prog_1_method_34_code 31 = .ok (.iaload, 1) := by decide +kernel
theorem smd_S_perform_32 : decode prog_1_method_34_code 32 = .ok (.bipush 11, 2) := by decide +kernel
theorem smd_S_perform_34 : decode prog_1_method_34_code 34 = .ok (.if_icmp .ne 16, 3) := by decide +kernel
theorem smd_S_perform_37 : decode prog_1_method_34_code 37 = .ok (.aload_n 1, 1) := by decide +kernel
theorem smd_S_perform_38 : decode prog_1_method_34_code 38 = .ok (.getfield 130, 3) := by decide +kernel
theorem smd_S_perform_41 : decode prog_1_method_34_code 41 = .ok (.ifCond .ne 9, 3) := by decide +kernel
theorem smd_S_perform_44 : decode prog_1_method_34_code 44 = .ok (.aload_n 1, 1) := by decide +kernel
theorem smd_S_perform_45 : decode prog_1_method_34_code 45 = .ok (.iconst 1, 1) := by decide +kernel
theorem smd_S_perform_46 : decode prog_1_method_34_code 46 = .ok (.putfield 123, 3) := by decide +kernel
theorem smd_S_perform_49 : decode prog_1_method_34_code 49 = .ok (.return_, 1) := by decide +kernel
theorem smd_S_perform_50 : decode prog_1_method_34_code 50 = .ok (.aload_n 1, 1) := by decide +kernel
theorem smd_S_perform_51 : decode prog_1_method_34_code 51 = .ok (.getfield 145, 3) := by decide +kernel
theorem smd_S_perform_54 : decode prog_1_method_34_code 54 = .ok (.iload_n 2, 1) := by decide +kernel
theorem smd_S_perform_55 : decode prog_1_method_34_code 55 = .ok (.dup2, 1) := by decide +kernel
theorem smd_S_perform_56 : decode prog_1_method_34_code 56 = .ok (.iaload, 1) := by decide +kernel
theorem smd_S_perform_57 : decode prog_1_method_34_code 57 = .ok (.iconst 1, 1) := by decide +kernel
theorem smd_S_perform_58 : decode prog_1_method_34_code 58 = .ok (.iadd, 1) := by decide +kernel
theorem smd_S_perform_59 : decode prog_1_method_34_code 59 = .ok (.iastore, 1) := by decide +kernel
theorem smd_S_perform_60 : decode prog_1_method_34_code 60 = .ok (.aload_n 0, 1) := by decide +kernel
theorem smd_S_perform_61 : decode prog_1_method_34_code 61 = .ok (.getfield 10, 3) := by decide +kernel
theorem smd_S_perform_64 : decode prog_1_method_34_code 64 = .ok (.getfield 191, 3) := by decide +kernel
theorem smd_S_perform_67 : decode prog_1_method_34_code 67 = .ok (.iload_n 3, 1) := by decide +kernel
theorem smd_S_perform_68 : decode prog_1_method_34_code 68 = .ok (.iaload, 1) := by decide +kernel
theorem smd_S_perform_69 : decode prog_1_method_34_code 69 = .ok (.istore 4, 2) := by decide +kernel
theorem smd_S_perform_71 : decode prog_1_method_34_code 71 = .ok (.aload_n 0, 1) := by decide +kernel
theorem smd_S_perform_72 : decode prog_1_method_34_code 72 = .ok (.getfield 10, 3) := by decide +kernel
theorem smd_S_perform_75 : decode prog_1_method_34_code 75 = .ok (.getfield 212, 3) := by decide +kernel
theorem smd_S_perform_78 : decode prog_1_method_34_code 78 = .ok (.iload_n 3, 1) := by decide +kernel
theorem smd_S_perform_79 : decode prog_1_method_34_code 79 = .ok (.iaload, 1) := by decide +kernel
theorem smd_S_perform_80 : decode prog_1_method_34_code 80 = .ok (.istore 5, 2) := by decide +kernel
theorem smd_S_perform_82 : decode prog_1_method_34_code 82 = .ok (.aload_n 0, 1) := by decide +kernel
theorem smd_S_perform_83 : decode prog_1_method_34_code 83 = .ok (.getfield 10, 3) := by decide +kernel
theorem smd_S_perform_86 : decode prog_1_method_34_code 86 = .ok (.getfield 215, 3) := by decide +kernel
theorem smd_S_perform_89 : decode prog_1_method_34_code 89 = .ok (.iload_n 3, 1) := by decide +kernel
theorem smd_S_perform_90 : decode prog_1_method_34_code 90 = .ok (.iaload, 1) := by decide +kernel
theorem smd_S_perform_91 : decode prog_1_method_34_code 91 = .ok (.istore 6, 2) := by decide +kernel
theorem smd_S_perform_93 : decode prog_1_method_34_code 93 = .ok (.aload_n 0, 1) := by decide +kernel
theorem smd_S_perform_94 : decode prog_1_method_34_code 94 = .ok (.getfield 10, 3) := by decide +kernel
theorem smd_S_perform_97 : decode prog_1_method_34_code 97 = .ok (.getfield 188, 3) := by decide +kernel
theorem smd_S_perform_100 : decode prog_1_method_34_code 100 = .ok (.iload_n 3, 1) := by decide +kernel
theorem smd_S_perform_101 : decode prog_1_method_34_code 101 = .ok (.iaload, 1) := by decide +kernel
theorem smd_S_perform_102 : decode prog_1_method_34_code 102 = .ok (.tableswitch 257 0 11 #[62, 75, 86, 108, 130, 159, 172, 184, 198, 212, 228, 244], 62) := by decide +kernel
theorem smd_S_perform_164 : decode prog_1_method_34_code 164 = .ok (.aload_n 1, 1) := by decide +kernel
theorem smd_S_perform_165 : decode prog_1_method_34_code 165 = .ok (.aload_n 1, 1) := by decide +kernel
theorem smd_S_perform_166 : decode prog_1_method_34_code 166 = .ok (.iload 4, 2) := by decide +kernel
theorem smd_S_perform_168 : decode prog_1_method_34_code 168 = .ok (.invokevirtual 218, 3) := by decide +kernel
theorem smd_S_perform_171 : decode prog_1_method_34_code 171 = .ok (.invokevirtual 221, 3) := by decide +kernel
theorem smd_S_perform_174 : decode prog_1_method_34_code 174 = .ok (.goto 185, 3) := by decide +kernel
theorem smd_S_perform_177 : decode prog_1_method_34_code 177 = .ok (.aload_n 1, 1) := by decide +kernel
theorem smd_S_perform_178 : decode prog_1_method_34_code 178 = .ok (.iload 4, 2) := by decide +kernel
theorem smd_S_perform_180 : decode prog_1_method_34_code 180 = .ok (.iload 5, 2) := by decide +kernel
theorem smd_S_perform_182 : decode prog_1_method_34_code 182 = .ok (.invokevirtual 224, 3) := by decide +kernel
theorem smd_S_perform_185 : decode prog_1_method_34_code 185 = .ok (.goto 174, 3) := by decide +kernel
theorem smd_S_perform_188 : decode prog_1_method_34_code 188 = .ok (.aload_n 1, 1) := by decide +kernel
theorem smd_S_perform_189 : decode prog_1_method_34_code 189 = .ok (.iload 4, 2) := by decide +kernel
theorem smd_S_perform_191 : decode prog_1_method_34_code 191 = .ok (.aload_n 1, 1) := by decide +kernel
theorem smd_S_perform_192 : decode prog_1_method_34_code 192 = .ok (.iload 5, 2) := by decide +kernel
theorem smd_S_perform_194 : decode prog_1_method_34_code 194 = .ok (.invokevirtual 218, 3) := by decide +kernel
theorem smd_S_perform_197 : decode prog_1_method_34_code 197 = .ok (.aload_n 1, 1) := by decide +kernel
theorem smd_S_perform_198 : decode prog_1_method_34_code 198 = .ok (.iload 6, 2) := by decide +kernel
theorem smd_S_perform_200 : decode prog_1_method_34_code 200 = .ok (.invokevirtual 218, 3) := by decide +kernel
theorem smd_S_perform_203 : decode prog_1_method_34_code 203 = .ok (.iadd, 1) := by decide +kernel
theorem smd_S_perform_204 : decode prog_1_method_34_code 204 = .ok (.invokevirtual 224, 3) := by decide +kernel
theorem smd_S_perform_207 : decode prog_1_method_34_code 207 = .ok (.goto 152, 3) := by decide +kernel
theorem smd_S_perform_210 : decode prog_1_method_34_code 210 = .ok (.aload_n 1, 1) := by decide +kernel
theorem smd_S_perform_211 : decode prog_1_method_34_code 211 = .ok (.iload 4, 2) := by decide +kernel
theorem smd_S_perform_213 : decode prog_1_method_34_code 213 = .ok (.aload_n 1, 1) := by decide +kernel
theorem smd_S_perform_214 : decode prog_1_method_34_code 214 = .ok (.iload 5, 2) := by decide +kernel
theorem smd_S_perform_216 : decode prog_1_method_34_code 216 = .ok (.invokevirtual 218, 3) := by decide +kernel
theorem smd_S_perform_219 : decode prog_1_method_34_code 219 = .ok (.aload_n 1, 1) := by decide +kernel
theorem smd_S_perform_220 : decode prog_1_method_34_code 220 = .ok (.iload 6, 2) := by decide +kernel
theorem smd_S_perform_222 : decode prog_1_method_34_code 222 = .ok (.invokevirtual 218, 3) := by decide +kernel
theorem smd_S_perform_225 : decode prog_1_method_34_code 225 = .ok (.isub, 1) := by decide +kernel
theorem smd_S_perform_226 : decode prog_1_method_34_code 226 = .ok (.invokevirtual 224, 3) := by decide +kernel
theorem smd_S_perform_229 : decode prog_1_method_34_code 229 = .ok (.goto 130, 3) := by decide +kernel
theorem smd_S_perform_232 : decode prog_1_method_34_code 232 = .ok (.aload_n 1, 1) := by decide +kernel
theorem smd_S_perform_233 : decode prog_1_method_34_code 233 = .ok (.getfield 145, 3) := by decide +kernel
theorem smd_S_perform_236 : decode prog_1_method_34_code 236 = .ok (.iload_n 2, 1) := by decide +kernel
theorem smd_S_perform_237 : decode prog_1_method_34_code 237 = .ok (.aload_n 1, 1) := by decide +kernel
theorem smd_S_perform_238 : decode prog_1_method_34_code 238 = .ok (.iload 4, 2) := by decide +kernel
theorem smd_S_perform_240 : decode prog_1_method_34_code 240 = .ok (.invokevirtual 218, 3) := by decide +kernel
theorem smd_S_perform_243 : decode prog_1_method_34_code 243 = .ok (.ifCond .ne 8, 3) := by decide +kernel
theorem smd_S_perform_246 : decode prog_1_method_34_code 246 = .ok (.iload 5, 2) := by decide +kernel
theorem smd_S_perform_248 : decode prog_1_method_34_code 248 = .ok (.goto 9, 3) := by decide +kernel
theorem smd_S_perform_251 : decode prog_1_method_34_code 251 = .ok (.aload_n 1, 1) := by decide +kernel
theorem smd_S_perform_252 : decode prog_1_method_34_code 252 = .ok (.getfield 145, 3) := by decide +kernel
theorem smd_S_perform_255 : decode prog_1_method_34_code 255 = .ok (.iload_n 2, 1) := by decide +kernel
theorem smd_S_perform_256 : decode prog_1_method_34_code 256 = .ok (.iaload, 1) := by decide +kernel
theorem smd_S_perform_257 : decode prog_1_method_34_code 257 = .ok (.iastore, 1) := by decide +kernel
theorem smd_S_perform_258 : decode prog_1_method_34_code 258 = .ok (.goto 101, 3) := by decide +kernel
theorem smd_S_perform_261 : decode prog_1_method_34_code 261 = .ok (.aload_n 1, 1) := by decide +kernel
theorem smd_S_perform_262 : decode prog_1_method_34_code 262 = .ok (.iload 4, 2) := by decide +kernel
theorem smd_S_perform_264 : decode prog_1_method_34_code 264 = .ok (.iload 5, 2) := by decide +kernel
theorem smd_S_perform_266 : decode prog_1_method_34_code 266 = .ok (.iload 6, 2) := by decide +kernel
theorem smd_S_perform_268 : decode prog_1_method_34_code 268 = .ok (.invokestatic 228, 3) := by decide +kernel
theorem smd_S_perform_271 : decode prog_1_method_34_code 271 = .ok (.goto 88, 3) := by decide +kernel
theorem smd_S_perform_274 : decode prog_1_method_34_code 274 = .ok (.aload_n 0, 1) := by decide +kernel
theorem smd_S_perform_275 : decode prog_1_method_34_code 275 = .ok (.aload_n 1, 1) := by decide +kernel
theorem smd_S_perform_276 : decode prog_1_method_34_code 276 = .ok (.iload 4, 2) := by decide +kernel
theorem smd_S_perform_278 : decode prog_1_method_34_code 278 = .ok (.iload 5, 2) := by decide +kernel
theorem smd_S_perform_280 : decode prog_1_method_34_code 280 = .ok (.invokevirtual 232, 3) := by decide +kernel
theorem smd_S_perform_283 : decode prog_1_method_34_code 283 = .ok (.goto 76, 3) := by decide +kernel
theorem smd_S_perform_286 : decode prog_1_method_34_code 286 = .ok (.aload_n 0, 1) := by decide +kernel
theorem smd_S_perform_287 : decode prog_1_method_34_code 287 = .ok (.aload_n 1, 1) := by decide +kernel
theorem smd_S_perform_288 : decode prog_1_method_34_code 288 = .ok (.iload 4, 2) := by decide +kernel
theorem smd_S_perform_290 : decode prog_1_method_34_code 290 = .ok (.iload 5, 2) := by decide +kernel
theorem smd_S_perform_292 : decode prog_1_method_34_code 292 = .ok (.iload 6, 2) := by decide +kernel
theorem smd_S_perform_294 : decode prog_1_method_34_code 294 = .ok (.invokevirtual 236, 3) := by decide +kernel
theorem smd_S_perform_297 : decode prog_1_method_34_code 297 = .ok (.goto 62, 3) := by decide +kernel
theorem smd_S_perform_300 : decode prog_1_method_34_code 300 = .ok (.aload_n 0, 1) := by decide +kernel
theorem smd_S_perform_301 : decode prog_1_method_34_code 301 = .ok (.aload_n 1, 1) := by decide +kernel
theorem smd_S_perform_302 : decode prog_1_method_34_code 302 = .ok (.iload 4, 2) := by decide +kernel
theorem smd_S_perform_304 : decode prog_1_method_34_code 304 = .ok (.iload 5, 2) := by decide +kernel
theorem smd_S_perform_306 : decode prog_1_method_34_code 306 = .ok (.iload 6, 2) := by decide +kernel
theorem smd_S_perform_308 : decode prog_1_method_34_code 308 = .ok (.invokevirtual 239, 3) := by decide +kernel
theorem smd_S_perform_311 : decode prog_1_method_34_code 311 = .ok (.goto 48, 3) := by decide +kernel
theorem smd_S_perform_314 : decode prog_1_method_34_code 314 = .ok (.aload_n 1, 1) := by decide +kernel
theorem smd_S_perform_315 : decode prog_1_method_34_code 315 = .ok (.iload 4, 2) := by decide +kernel
theorem smd_S_perform_317 : decode prog_1_method_34_code 317 = .ok (.aload_n 0, 1) := by decide +kernel
theorem smd_S_perform_318 : decode prog_1_method_34_code 318 = .ok (.getfield 33, 3) := by decide +kernel
theorem smd_S_perform_321 : decode prog_1_method_34_code 321 = .ok (.iload 5, 2) := by decide +kernel
theorem smd_S_perform_323 : decode prog_1_method_34_code 323 = .ok (.iaload, 1) := by decide +kernel
theorem smd_S_perform_324 : decode prog_1_method_34_code 324 = .ok (.invokevirtual 224, 3) := by decide +kernel
theorem smd_S_perform_327 : decode prog_1_method_34_code 327 = .ok (.goto 32, 3) := by decide +kernel
theorem smd_S_perform_330 : decode prog_1_method_34_code 330 = .ok (.aload_n 0, 1) := by decide +kernel
theorem smd_S_perform_331 : decode prog_1_method_34_code 331 = .ok (.getfield 33, 3) := by decide +kernel
theorem smd_S_perform_334 : decode prog_1_method_34_code 334 = .ok (.iload 5, 2) := by decide +kernel
theorem smd_S_perform_336 : decode prog_1_method_34_code 336 = .ok (.aload_n 1, 1) := by decide +kernel
theorem smd_S_perform_337 : decode prog_1_method_34_code 337 = .ok (.iload 4, 2) := by decide +kernel
theorem smd_S_perform_339 : decode prog_1_method_34_code 339 = .ok (.invokevirtual 218, 3) := by decide +kernel
theorem smd_S_perform_342 : decode prog_1_method_34_code 342 = .ok (.iastore, 1) := by decide +kernel
theorem smd_S_perform_343 : decode prog_1_method_34_code 343 = .ok (.goto 16, 3) := by decide +kernel
theorem smd_S_perform_346 : decode prog_1_method_34_code 346 = .ok (.aload_n 1, 1) := by decide +kernel
theorem smd_S_perform_347 : decode prog_1_method_34_code 347 = .ok (.iload 4, 2) := by decide +kernel
theorem smd_S_perform_349 : decode prog_1_method_34_code 349 = .ok (.aload_n 1, 1) := by decide +kernel
theorem smd_S_perform_350 : decode prog_1_method_34_code 350 = .ok (.invokevirtual 242, 3) := by decide +kernel
theorem smd_S_perform_353 : decode prog_1_method_34_code 353 = .ok (.invokevirtual 224, 3) := by decide +kernel
theorem smd_S_perform_356 : decode prog_1_method_34_code 356 = .ok (.goto 3, 3) := by decide +kernel
theorem smd_S_perform_359 : decode prog_1_method_34_code 359 = .ok (.return_, 1) := by decide +kernel
theorem smd_S_call_0 : decode prog_1_method_35_code 0 = .ok (.aload_n 0, 1) := by decide +kernel
theorem smd_S_call_1 : decode prog_1_method_35_code 1 = .ok (.getfield 139, 3) := by decide +kernel
theorem smd_S_call_4 : decode prog_1_method_35_code 4 = .ok (.bipush 6, 2) := by decide +kernel
theorem smd_S_call_6 : decode prog_1_method_35_code 6 = .ok (.if_icmp .lt 10, 3) := by decide +kernel
theorem smd_S_call_9 : decode prog_1_method_35_code 9 = .ok (.aload_n 0, 1) := by decide +kernel
theorem smd_S_call_10 : decode prog_1_method_35_code 10 = .ok (.invokevirtual 245, 3) := by decide +kernel
theorem smd_S_call_13 : decode prog_1_method_35_code 13 = .ok (.goto 14, 3) := by decide +kernel
theorem smd_S_call_16 : decode prog_1_method_35_code 16 = .ok (.aload_n 0, 1) := by decide +kernel
theorem smd_S_call_17 : decode prog_1_method_35_code 17 = .ok (.iload_n 2, 1) := by decide +kernel
theorem smd_S_call_18 : decode prog_1_method_35_code 18 = .ok (.aload_n 0, 1) := by decide +kernel
theorem smd_S_call_19 : decode prog_1_method_35_code 19 = .ok (.iload_n 3, 1) := by decide +kernel
theorem smd_S_call_20 : decode prog_1_method_35_code 20 = .ok (.invokevirtual 218, 3) := by decide +kernel
theorem smd_S_call_23 : decode prog_1_method_35_code 23 = .ok (.iload_n 1, 1) := by decide +kernel
theorem smd_S_call_24 : decode prog_1_method_35_code 24 = .ok (.invokevirtual 116, 3) := by decide +kernel
theorem smd_S_call_27 : decode prog_1_method_35_code 27 = .ok (.return_, 1) := by decide +kernel
theorem smd_S_makeObject_0 : decode prog_1_method_36_code 0 = .ok (.aload_n 0, 1) := by decide +kernel
theorem smd_S_makeObject_1 : decode prog_1_method_36_code 1 = .ok (.getfield 29, 3) := by decide +kernel
theorem smd_S_makeObject_4 : decode prog_1_method_36_code 4 = .ok (.invokevirtual 248, 3) := by decide +kernel
theorem smd_S_makeObject_7 : decode prog_1_method_36_code 7 = .ok (.iconst (-1), 1) := by decide +kernel
theorem smd_S_makeObject_8 : decode prog_1_method_36_code 8 = .ok (.if_icmp .ne 8, 3) := by decide +kernel
theorem smd_S_makeObject_11 : decode prog_1_method_36_code 11 = .ok (.aload_n 0, 1) := by decide +kernel
theorem smd_S_makeObject_12 : decode prog_1_method_36_code 12 = .ok (.invokevirtual 96, 3) := by decide +kernel
theorem smd_S_makeObject_15 : decode prog_1_method_36_code 15 = .ok (.pop, 1) := by decide +kernel
theorem smd_S_makeObject_16 : decode prog_1_method_36_code 16 = .ok (.aload_n 0, 1) := by decide +kernel
theorem smd_S_makeObject_17 : decode prog_1_method_36_code 17 = .ok (.getfield 29, 3) := by decide +kernel
theorem smd_S_makeObject_20 : decode prog_1_method_36_code 20 = .ok (.invokevirtual 248, 3) := by decide +kernel
theorem smd_S_makeObject_23 : decode prog_1_method_36_code 23 = .ok (.istore 4, 2) := by decide +kernel
theorem smd_S_makeObject_25 : decode prog_1_method_36_code 25 = .ok (.iload 4, 2) := by decide +kernel
theorem smd_S_makeObject_27 : decode prog_1_method_36_code 27 = .ok (.iconst (-1), 1) := by decide +kernel
theorem smd_S_makeObject_28 : decode prog_1_method_36_code 28 = .ok (.if_icmp .ne 10, 3) := by decide +kernel
theorem smd_S_makeObject_31 : decode prog_1_method_36_code 31 = .ok (.aload_n 1, 1) := by decide +kernel
theorem smd_S_makeObject_32 : decode prog_1_method_36_code 32 = .ok (.invokevirtual 245, 3) := by decide +kernel
theorem smd_S_makeObject_35 : decode prog_1_method_36_code 35 = .ok (.goto 20, 3) := by decide +kernel
theorem smd_S_makeObject_38 : decode prog_1_method_36_code 38 = .ok (.aload_n 0, 1) := by decide +kernel
theorem smd_S_makeObject_39 : decode prog_1_method_36_code 39 = .ok (.getfield 29, 3) := by decide +kernel
theorem smd_S_makeObject_42 : decode prog_1_method_36_code 42 = .ok (.iload 4, 2) := by decide +kernel
theorem smd_S_makeObject_44 : decode prog_1_method_36_code 44 = .ok (.iload_n 3, 1) := by decide +kernel
theorem smd_S_makeObject_45 : decode prog_1_method_36_code 45 = .ok (.invokevirtual 251, 3) := by decide +kernel
theorem smd_S_makeObject_48 : decode prog_1_method_36_code 48 = .ok (.aload_n 1, 1) := by decide +kernel
theorem smd_S_makeObject_49 : decode prog_1_method_36_code 49 = .ok (.iload_n 2, 1) := by decide +kernel
theorem smd_S_makeObject_50 : decode prog_1_method_36_code 50 = .ok (.iload 4, 2) := by decide +kernel
theorem smd_S_makeObject_52 : decode prog_1_method_36_code 52 = .ok (.invokevirtual 224, 3) := by decide +kernel
theorem smd_S_makeObject_55 : decode prog_1_method_36_code 55 = .ok (.return_, 1) := by decide +kernel
theorem smd_S_get_0 : decode prog_1_method_37_code 0 = .ok (.aload_n 0, 1) := by decide +kernel
theorem smd_S_get_1 : decode prog_1_method_37_code 1 = .ok (.getfield 29, 3) := by decide +kernel
theorem smd_S_get_4 : decode prog_1_method_37_code 4 = .ok (.aload_n 1, 1) := by decide +kernel
theorem smd_S_get_5 : decode prog_1_method_37_code 5 = .ok (.iload_n 3, 1) := by decide +kernel
theorem smd_S_get_6 : decode prog_1_method_37_code 6 = .ok (.invokevirtual 218, 3) := by decide +kernel
theorem smd_S_get_9 : decode prog_1_method_37_code 9 = .ok (.iload 4, 2) := by decide +kernel
theorem smd_S_get_11 : decode prog_1_method_37_code 11 = .ok (.invokevirtual 254, 3) := by decide +kernel
theorem smd_S_get_14 : decode prog_1_method_37_code 14 = .ok (.istore 5, 2) := by decide +kernel
theorem smd_S_get_16 : decode prog_1_method_37_code 16 = .ok (.iload 5, 2) := by decide +kernel
theorem smd_S_get_18 : decode prog_1_method_37_code 18 = .ok (.iconst (-1), 1) := by decide +kernel
theorem smd_S_get_19 : decode prog_1_method_37_code 19 = .ok (.if_icmp .ne 10, 3) := by decide +kernel
theorem smd_S_get_22 : decode prog_1_method_37_code 22 = .ok (.aload_n 1, 1) := by decide +kernel
theorem smd_S_get_23 : decode prog_1_method_37_code 23 = .ok (.invokevirtual 245, 3) := by decide +kernel
theorem smd_S_get_26 : decode prog_1_method_37_code 26 = .ok (.goto 18, 3) := by decide +kernel
theorem smd_S_get_29 : decode prog_1_method_37_code 29 = .ok (.aload_n 1, 1) := by decide +kernel
theorem smd_S_get_30 : decode prog_1_method_37_code 30 = .ok (.iload_n 2, 1) := by decide +kernel
theorem smd_S_get_31 : decode prog_1_method_37_code 31 = .ok (.aload_n 0, 1) := by decide +kernel
theorem smd_S_get_32 : decode prog_1_method_37_code 32 = .ok (.getfield 29, 3) := by decide +kernel
theorem smd_S_get_35 : decode prog_1_method_37_code 35 = .ok (.getfield 157, 3) := by decide +kernel
theorem smd_S_get_38 : decode prog_1_method_37_code 38 = .ok (.iload 5, 2) := by decide +kernel
theorem smd_S_get_40 : decode prog_1_method_37_code 40 = .ok (.iaload, 1) := by decide +kernel
theorem smd_S_get_41 : decode prog_1_method_37_code 41 = .ok (.invokevirtual 224, 3) := by decide +kernel
theorem smd_S_get_44 : decode prog_1_method_37_code 44 = .ok (.return_, 1) := by decide +kernel
theorem smd_S_put_0 : decode prog_1_method_38_code 0 = .ok (.aload_n 0, 1) := by decide +kernel
theorem smd_S_put_1 : decode prog_1_method_38_code 1 = .ok (.getfield 29, 3) := by decide +kernel
theorem smd_S_put_4 : decode prog_1_method_38_code 4 = .ok (.aload_n 1, 1) := by decide +kernel
theorem smd_S_put_5 : decode prog_1_method_38_code 5 = .ok (.iload_n 2, 1) := by decide +kernel
theorem smd_S_put_6 : decode prog_1_method_38_code 6 = .ok (.invokevirtual 218, 3) := by decide +kernel
theorem smd_S_put_9 : decode prog_1_method_38_code 9 = .ok (.iload 4, 2) := by decide +kernel
theorem smd_S_put_11 : decode prog_1_method_38_code 11 = .ok (.invokevirtual 254, 3) := by decide +kernel
theorem smd_S_put_14 : decode prog_1_method_38_code 14 = .ok (.istore 5, 2) := by decide +kernel
theorem smd_S_put_16 : decode prog_1_method_38_code 16 = .ok (.iload 5, 2) := by decide +kernel
theorem smd_S_put_18 : decode prog_1_method_38_code 18 = .ok (.iconst (-1), 1) := by decide +kernel
theorem smd_S_put_19 : decode prog_1_method_38_code 19 = .ok (.if_icmp .ne 10, 3) := by decide +kernel
theorem smd_S_put_22 : decode prog_1_method_38_code 22 = .ok (.aload_n 1, 1) := by decide +kernel
theorem smd_S_put_23 : decode prog_1_method_38_code 23 = .ok (.invokevirtual 245, 3) := by decide +kernel
theorem smd_S_put_26 : decode prog_1_method_38_code 26 = .ok (.goto 18, 3) := by decide +kernel
theorem smd_S_put_29 : decode prog_1_method_38_code 29 = .ok (.aload_n 0, 1) := by decide +kernel
theorem smd_S_put_30 : decode prog_1_method_38_code 30 = .ok (.getfield 29, 3) := by decide +kernel
theorem smd_S_put_33 : decode prog_1_method_38_code 33 = .ok (.getfield 157, 3) := by decide +kernel
theorem smd_S_put_36 : decode prog_1_method_38_code 36 = .ok (.iload 5, 2) := by decide +kernel
theorem smd_S_put_38 : decode prog_1_method_38_code 38 = .ok (.aload_n 1, 1) := by decide +kernel
theorem smd_S_put_39 : decode prog_1_method_38_code 39 = .ok (.iload_n 3, 1) := by decide +kernel
theorem smd_S_put_40 : decode prog_1_method_38_code 40 = .ok (.invokevirtual 218, 3) := by decide +kernel
theorem smd_S_put_43 : decode prog_1_method_38_code 43 = .ok (.iastore, 1) := by decide +kernel
theorem smd_S_put_44 : decode prog_1_method_38_code 44 = .ok (.return_, 1) := by decide +kernel
theorem smd_M_init_0 : decode prog_7_method_1_code 0 = .ok (.aload_n 0, 1) := by decide +kernel
theorem smd_M_init_1 : decode prog_7_method_1_code 1 = .ok (.invokespecial 1, 3) := by decide +kernel
theorem smd_M_init_4 : decode prog_7_method_1_code 4 = .ok (.aload_n 0, 1) := by decide +kernel
theorem smd_M_init_5 : decode prog_7_method_1_code 5 = .ok (.sipush 576, 3) := by decide +kernel
theorem smd_M_init_8 : decode prog_7_method_1_code 8 = .ok (.newarray .int, 2) := by decide +kernel
theorem smd_M_init_10 : decode prog_7_method_1_code 10 = .ok (.putfield 7, 3) := by decide +kernel
theorem smd_M_init_13 : decode prog_7_method_1_code 13 = .ok (.aload_n 0, 1) := by decide +kernel
theorem smd_M_init_14 : decode prog_7_method_1_code 14 = .ok (.bipush 12, 2) := by decide +kernel
theorem smd_M_init_16 : decode prog_7_method_1_code 16 = .ok (.newarray .int, 2) := by decide +kernel
theorem smd_M_init_18 : decode prog_7_method_1_code 18 = .ok (.putfield 13, 3) := by decide +kernel
theorem smd_M_init_21 : decode prog_7_method_1_code 21 = .ok (.aload_n 0, 1) := by decide +kernel
theorem smd_M_init_22 : decode prog_7_method_1_code 22 = .ok (.bipush 6, 2) := by decide +kernel
theorem smd_M_init_24 : decode prog_7_method_1_code 24 = .ok (.newarray .int, 2) := by decide +kernel
theorem smd_M_init_26 : decode prog_7_method_1_code 26 = .ok (.putfield 16, 3) := by decide +kernel
theorem smd_M_init_29 : decode prog_7_method_1_code 29 = .ok (.aload_n 0, 1) := by decide +kernel
theorem smd_M_init_30 : decode prog_7_method_1_code 30 = .ok (.bipush 36, 2) := by decide +kernel
theorem smd_M_init_32 : decode prog_7_method_1_code 32 = .ok (.newarray .int, 2) := by decide +kernel
theorem smd_M_init_34 : decode prog_7_method_1_code 34 = .ok (.putfield 19, 3) := by decide +kernel
theorem smd_M_init_37 : decode prog_7_method_1_code 37 = .ok (.aload_n 0, 1) := by decide +kernel
theorem smd_M_init_38 : decode prog_7_method_1_code 38 = .ok (.iconst 3, 1) := by decide +kernel
theorem smd_M_init_39 : decode prog_7_method_1_code 39 = .ok (.newarray .boolean, 2) := by decide +kernel
theorem smd_M_init_41 : decode prog_7_method_1_code 41 = .ok (.putfield 22, 3) := by decide +kernel
theorem smd_M_init_44 : decode prog_7_method_1_code 44 = .ok (.aload_n 0, 1) := by decide +kernel
theorem smd_M_init_45 : decode prog_7_method_1_code 45 = .ok (.iconst 4, 1) := by decide +kernel
theorem smd_M_init_46 : decode prog_7_method_1_code 46 = .ok (.newarray .int, 2) := by decide +kernel
theorem smd_M_init_48 : decode prog_7_method_1_code 48 = .ok (.putfield 26, 3) := by decide +kernel
theorem smd_M_init_51 : decode prog_7_method_1_code 51 = .ok (.aload_n 0, 1) := by decide +kernel
theorem smd_M_init_52 : decode prog_7_method_1_code 52 = .ok (.bipush 17, 2) := by decide +kernel
theorem smd_M_init_54 : decode prog_7_method_1_code 54 = .ok (.newarray .int, 2) := by decide +kernel
theorem smd_M_init_56 : decode prog_7_method_1_code 56 = .ok (.putfield 29, 3) := by decide +kernel
theorem smd_M_init_59 : decode prog_7_method_1_code 59 = .ok (.aload_n 0, 1) := by decide +kernel
theorem smd_M_init_60 : decode prog_7_method_1_code 60 = .ok (.bipush 68, 2) := by decide +kernel
theorem smd_M_init_62 : decode prog_7_method_1_code 62 = .ok (.newarray .int, 2) := by decide +kernel
theorem smd_M_init_64 : decode prog_7_method_1_code 64 = .ok (.putfield 32, 3) := by decide +kernel
theorem smd_M_init_67 : decode prog_7_method_1_code 67 = .ok (.aload_n 0, 1) := by decide +kernel
theorem smd_M_init_68 : decode prog_7_method_1_code 68 = .ok (.bipush 68, 2) := by decide +kernel
theorem smd_M_init_70 : decode prog_7_method_1_code 70 = .ok (.newarray .int, 2) := by decide +kernel
theorem smd_M_init_72 : decode prog_7_method_1_code 72 = .ok (.putfield 35, 3) := by decide +kernel
theorem smd_M_init_75 : decode prog_7_method_1_code 75 = .ok (.aload_n 0, 1) := by decide +kernel
theorem smd_M_init_76 : decode prog_7_method_1_code 76 = .ok (.bipush 17, 2) := by decide +kernel
theorem smd_M_init_78 : decode prog_7_method_1_code 78 = .ok (.newarray .boolean, 2) := by decide +kernel
theorem smd_M_init_80 : decode prog_7_method_1_code 80 = .ok (.putfield 38, 3) := by decide +kernel
theorem smd_M_init_83 : decode prog_7_method_1_code 83 = .ok (.aload_n 0, 1) := by decide +kernel
theorem smd_M_init_84 : decode prog_7_method_1_code 84 = .ok (.bipush 7, 2) := by decide +kernel
theorem smd_M_init_86 : decode prog_7_method_1_code 86 = .ok (.newarray .int, 2) := by decide +kernel
theorem smd_M_init_88 : decode prog_7_method_1_code 88 = .ok (.putfield 41, 3) := by decide +kernel
theorem smd_M_init_91 : decode prog_7_method_1_code 91 = .ok (.aload_n 0, 1) := by decide +kernel
theorem smd_M_init_92 : decode prog_7_method_1_code 92 = .ok (.bipush 7, 2) := by decide +kernel
theorem smd_M_init_94 : decode prog_7_method_1_code 94 = .ok (.newarray .int, 2) := by decide +kernel
theorem smd_M_init_96 : decode prog_7_method_1_code 96 = .ok (.putfield 44, 3) := by decide +kernel
theorem smd_M_init_99 : decode prog_7_method_1_code 99 = .ok (.aload_n 0, 1) := by decide +kernel
theorem smd_M_init_100 : decode prog_7_method_1_code 100 = .ok (.bipush 7, 2) := by decide +kernel
theorem smd_M_init_102 : decode prog_7_method_1_code 102 = .ok (.newarray .int, 2) := by decide +kernel
theorem smd_M_init_104 : decode prog_7_method_1_code 104 = .ok (.putfield 47, 3) := by decide +kernel
theorem smd_M_init_107 : decode prog_7_method_1_code 107 = .ok (.aload_n 0, 1) := by decide +kernel
theorem smd_M_init_108 : decode prog_7_method_1_code 108 = .ok (.sipush 252, 3) := by decide +kernel
theorem smd_M_init_111 : decode prog_7_method_1_code 111 = .ok (.newarray .int, 2) := by decide +kernel
theorem smd_M_init_113 : decode prog_7_method_1_code 113 = .ok (.putfield 50, 3) := by decide +kernel
theorem smd_M_init_116 : decode prog_7_method_1_code 116 = .ok (.aload_n 0, 1) := by decide +kernel
theorem smd_M_init_117 : decode prog_7_method_1_code 117 = .ok (.bipush 7, 2) := by decide +kernel
theorem smd_M_init_119 : decode prog_7_method_1_code 119 = .ok (.newarray .int, 2) := by decide +kernel
theorem smd_M_init_121 : decode prog_7_method_1_code 121 = .ok (.putfield 53, 3) := by decide +kernel
theorem smd_M_init_124 : decode prog_7_method_1_code 124 = .ok (.aload_n 0, 1) := by decide +kernel
theorem smd_M_init_125 : decode prog_7_method_1_code 125 = .ok (.bipush 56, 2) := by decide +kernel
theorem smd_M_init_127 : decode prog_7_method_1_code 127 = .ok (.newarray .int, 2) := by decide +kernel
theorem smd_M_init_129 : decode prog_7_method_1_code 129 = .ok (.putfield 56, 3) := by decide +kernel
theorem smd_M_init_132 : decode prog_7_method_1_code 132 = .ok (.iconst 0, 1) := by decide +kernel
theorem smd_M_init_133 : decode prog_7_method_1_code 133 = .ok (.istore_n 1, 1) := by decide +kernel
theorem smd_M_init_134 : decode prog_7_method_1_code 134 = .ok (.iload_n 1, 1) := by decide +kernel
theorem smd_M_init_135 : decode prog_7_method_1_code 135 = .ok (.bipush 17, 2) := by decide +kernel
theorem smd_M_init_137 : decode prog_7_method_1_code 137 = .ok (.if_icmp .ge 16, 3) := by decide +kernel
theorem smd_M_init_140 : decode prog_7_method_1_code 140 = .ok (.aload_n 0, 1) := by decide +kernel
theorem smd_M_init_141 : decode prog_7_method_1_code 141 = .ok (.getfield 29, 3) := by decide +kernel
theorem smd_M_init_144 : decode prog_7_method_1_code 144 = .ok (.iload_n 1, 1) := by decide +kernel
theorem smd_M_init_145 : decode prog_7_method_1_code 145 = .ok (.iconst (-1), 1) := by decide +kernel
theorem smd_M_init_146 : decode prog_7_method_1_code 146 = .ok (.iastore, 1) := by decide +kernel
theorem smd_M_init_147 : decode prog_7_method_1_code 147 = .ok (.iinc 1 1, 3) := by decide +kernel
theorem smd_M_init_150 : decode prog_7_method_1_code 150 = .ok (.goto (-16), 3) := by decide +kernel
theorem smd_M_init_153 : decode prog_7_method_1_code 153 = .ok (.return_, 1) := by decide +kernel
theorem smd_M_isProcedure_0 : decode prog_7_method_2_code 0 = .ok (.iload_n 0, 1) := by decide +kernel
theorem smd_M_isProcedure_1 : decode prog_7_method_2_code 1 = .ok (.ifCond .lt 13, 3) := by decide +kernel
theorem smd_M_isProcedure_4 : decode prog_7_method_2_code 4 = .ok (.iload_n 0, 1) := by decide +kernel
theorem smd_M_isProcedure_5 : decode prog_7_method_2_code 5 = .ok (.bipush 6, 2) := by decide +kernel
theorem smd_M_isProcedure_7 : decode prog_7_method_2_code 7 = .ok (.if_icmp .ge 7, 3) := by decide +kernel
theorem smd_M_isProcedure_10 : decode prog_7_method_2_code 10 = .ok (.iconst 1, 1) := by decide +kernel
theorem smd_M_isProcedure_11 : decode prog_7_method_2_code 11 = .ok (.goto 4, 3) := by decide +kernel
theorem smd_M_isProcedure_14 : decode prog_7_method_2_code 14 = .ok (.iconst 0, 1) := by decide +kernel
theorem smd_M_isProcedure_15 : decode prog_7_method_2_code 15 = .ok (.ireturn, 1) := by decide +kernel
theorem smd_M_isType_0 : decode prog_7_method_3_code 0 = .ok (.iload_n 0, 1) := by decide +kernel
theorem smd_M_isType_1 : decode prog_7_method_3_code 1 = .ok (.ifCond .lt 12, 3) := by decide +kernel
theorem smd_M_isType_4 : decode prog_7_method_3_code 4 = .ok (.iload_n 0, 1) := by decide +kernel
theorem smd_M_isType_5 : decode prog_7_method_3_code 5 = .ok (.iconst 3, 1) := by decide +kernel
theorem smd_M_isType_6 : decode prog_7_method_3_code 6 = .ok (.if_icmp .ge 7, 3) := by decide +kernel
theorem smd_M_isType_9 : decode prog_7_method_3_code 9 = .ok (.iconst 1, 1) := by decide +kernel
theorem smd_M_isType_10 : decode prog_7_method_3_code 10 = .ok (.goto 4, 3) := by decide +kernel
theorem smd_M_isType_13 : decode prog_7_method_3_code 13 = .ok (.iconst 0, 1) := by decide +kernel
theorem smd_M_isType_14 : decode prog_7_method_3_code 14 = .ok (.ireturn, 1) := by decide +kernel
theorem smd_M_isLocal_0 : decode prog_7_method_4_code 0 = .ok (.iload_n 0, 1) := by decide +kernel
theorem smd_M_isLocal_1 : decode prog_7_method_4_code 1 = .ok (.ifCond .lt 12, 3) := by decide +kernel
theorem smd_M_isLocal_4 : decode prog_7_method_4_code 4 = .ok (.iload_n 0, 1) := by decide +kernel
theorem smd_M_isLocal_5 : decode prog_7_method_4_code 5 = .ok (.iconst 3, 1) := by decide +kernel
theorem smd_M_isLocal_6 : decode prog_7_method_4_code 6 = .ok (.if_icmp .ge 7, 3) := by decide +kernel
theorem smd_M_isLocal_9 : decode prog_7_method_4_code 9 = .ok (.iconst 1, 1) := by decide +kernel
theorem smd_M_isLocal_10 : decode prog_7_method_4_code 10 = .ok (.goto 4, 3) := by decide +kernel
theorem smd_M_isLocal_13 : decode prog_7_method_4_code 13 = .ok (.iconst 0, 1) := by decide +kernel
theorem smd_M_isLocal_14 : decode prog_7_method_4_code 14 = .ok (.ireturn, 1) := by decide +kernel
theorem smd_M_word_0 : decode prog_7_method_5_code 0 = .ok (.iload_n 1, 1) := by decide +kernel
theorem smd_M_word_1 : decode prog_7_method_5_code 1 = .ok (.invokestatic 59, 3) := by decide +kernel
theorem smd_M_word_4 : decode prog_7_method_5_code 4 = .ok (.ifCond .eq 26, 3) := by decide +kernel
theorem smd_M_word_7 : decode prog_7_method_5_code 7 = .ok (.iload_n 2, 1) := by decide +kernel
theorem smd_M_word_8 : decode prog_7_method_5_code 8 = .ok (.ifCond .lt 22, 3) := by decide +kernel
theorem smd_M_word_11 : decode prog_7_method_5_code 11 = .ok (.iload_n 2, 1) := by decide +kernel
theorem smd_M_word_12 : decode prog_7_method_5_code 12 = .ok (.aload_n 0, 1) := by decide +kernel
theorem smd_M_word_13 : decode prog_7_method_5_code 13 = .ok (.getfield 13, 3) := by decide +kernel
theorem smd_M_word_16 : decode prog_7_method_5_code 16 = .ok (.bipush 6, 2) := by decide +kernel
theorem smd_M_word_18 : decode prog_7_method_5_code 18 = .ok (.iload_n 1, 1) := by decide +kernel
theorem smd_M_word_19 : decode prog_7_method_5_code 19 = .ok (.iadd, 1) := by decide +kernel
theorem smd_M_word_20 : decode prog_7_method_5_code 20 = .ok (.iaload, 1) := by decide +kernel
theorem smd_M_word_21 : decode prog_7_method_5_code 21 = .ok (.if_icmp .gt 9, 3) := by decide +kernel
theorem smd_M_word_24 : decode prog_7_method_5_code 24 = .ok (.iload_n 2, 1) := by decide +kernel
theorem smd_M_word_25 : decode prog_7_method_5_code 25 = .ok (.bipush 12, 2) := by decide +kernel
theorem smd_M_word_27 : decode prog_7_method_5_code 27 = .ok (.if_icmp .ne 5, 3) := by decide +kernel
theorem smd_M_word_30 : decode prog_7_method_5_code 30 = .ok (.iconst (-1), 1) := by decide +kernel
theorem smd_M_word_31 : decode prog_7_method_5_code 31 = .ok (.ireturn, 1) := by decide +kernel
theorem smd_M_word_32 : decode prog_7_method_5_code 32 = .ok (.aload_n 0, 1) := by decide +kernel
theorem smd_M_word_33 : decode prog_7_method_5_code 33 = .ok (.getfield 63, 3) := by decide +kernel
theorem smd_M_word_36 : decode prog_7_method_5_code 36 = .ok (.ifCond .eq 6, 3) := by decide +kernel
theorem smd_M_word_39 : decode prog_7_method_5_code 39 = .ok (.bipush (-2), 2) := by decide +kernel
theorem smd_M_word_41 : decode prog_7_method_5_code 41 = .ok (.ireturn, 1) := by decide +kernel
theorem smd_M_word_42 : decode prog_7_method_5_code 42 = .ok (.sipush 288, 3) := by decide +kernel
theorem smd_M_word_45 : decode prog_7_method_5_code 45 = .ok (.bipush 48, 2) := by decide +kernel
theorem smd_M_word_47 : decode prog_7_method_5_code 47 = .ok (.iload_n 1, 1) := by decide +kernel
theorem smd_M_word_48 : decode prog_7_method_5_code 48 = .ok (.imul, 1) := by decide +kernel
theorem smd_M_word_49 : decode prog_7_method_5_code 49 = .ok (.iadd, 1) := by decide +kernel
theorem smd_M_word_50 : decode prog_7_method_5_code 50 = .ok (.iconst 4, 1) := by decide +kernel
theorem smd_M_word_51 : decode prog_7_method_5_code 51 = .ok (.iload_n 2, 1) := by decide +kernel
theorem smd_M_word_52 : decode prog_7_method_5_code 52 = .ok (.imul, 1) := by decide +kernel
theorem smd_M_word_53 : decode prog_7_method_5_code 53 = .ok (.iadd, 1) := by decide +kernel
theorem smd_M_word_54 : decode prog_7_method_5_code 54 = .ok (.istore 7, 2) := by decide +kernel
theorem smd_M_word_56 : decode prog_7_method_5_code 56 = .ok (.aload_n 0, 1) := by decide +kernel
theorem smd_M_word_57 : decode prog_7_method_5_code 57 = .ok (.getfield 7, 3) := by decide +kernel
theorem smd_M_word_60 : decode prog_7_method_5_code 60 = .ok (.iload 7, 2) := by decide +kernel
theorem smd_M_word_62 : decode prog_7_method_5_code 62 = .ok (.iload_n 3, 1) := by decide +kernel
theorem smd_M_word_63 : decode prog_7_method_5_code 63 = .ok (.iastore, 1) := by decide +kernel
theorem smd_M_word_64 : decode prog_7_method_5_code 64 = .ok (.aload_n 0, 1) := by decide +kernel
theorem smd_M_word_65 : decode prog_7_method_5_code 65 = .ok (.getfield 7, 3) := by decide +kernel
theorem smd_M_word_68 : decode prog_7_method_5_code 68 = .ok (.iload 7, 2) := by decide +kernel
theorem smd_M_word_70 : decode prog_7_method_5_code 70 = .ok (.iconst 1, 1) := by decide +kernel
theorem smd_M_word_71 : decode prog_7_method_5_code 71 = .ok (.iadd, 1) := by decide +kernel
theorem smd_M_word_72 : decode prog_7_method_5_code 72 = .ok (.iload 4, 2) := by decide +kernel
theorem smd_M_word_74 : decode prog_7_method_5_code 74 = .ok (.iastore, 1) := by decide +kernel
theorem smd_M_word_75 : decode prog_7_method_5_code 75 = .ok (.aload_n 0, 1) := by decide +kernel
theorem smd_M_word_76 : decode prog_7_method_5_code 76 = .ok (.getfield 7, 3) := by decide +kernel
theorem smd_M_word_79 : decode prog_7_method_5_code 79 = .ok (.iload 7, 2) := by decide +kernel
theorem smd_M_word_81 : decode prog_7_method_5_code 81 = .ok (.iconst 2, 1) := by decide +kernel
theorem smd_M_word_82 : decode prog_7_method_5_code 82 = .ok (.iadd, 1) := by decide +kernel
theorem smd_M_word_83 : decode prog_7_method_5_code 83 = .ok (.iload 5, 2) := by decide +kernel
theorem smd_M_word_85 : decode prog_7_method_5_code 85 = .ok (.iastore, 1) := by decide +kernel
theorem smd_M_word_86 : decode prog_7_method_5_code 86 = .ok (.aload_n 0, 1) := by decide +kernel
theorem smd_M_word_87 : decode prog_7_method_5_code 87 = .ok (.getfield 7, 3) := by decide +kernel
theorem smd_M_word_90 : decode prog_7_method_5_code 90 = .ok (.iload 7, 2) := by decide +kernel
theorem smd_M_word_92 : decode prog_7_method_5_code 92 = .ok (.iconst 3, 1) := by decide +kernel
theorem smd_M_word_93 : decode prog_7_method_5_code 93 = .ok (.iadd, 1) := by decide +kernel
theorem smd_M_word_94 : decode prog_7_method_5_code 94 = .ok (.iload 6, 2) := by decide +kernel
theorem smd_M_word_96 : decode prog_7_method_5_code 96 = .ok (.iastore, 1) := by decide +kernel
theorem smd_M_word_97 : decode prog_7_method_5_code 97 = .ok (.aload_n 0, 1) := by decide +kernel
theorem smd_M_word_98 : decode prog_7_method_5_code 98 = .ok (.getfield 13, 3) := by decide +kernel
theorem smd_M_word_101 : decode prog_7_method_5_code 101 = .ok (.bipush 6, 2) := by decide +kernel
theorem smd_M_word_103 : decode prog_7_method_5_code 103 = .ok (.iload_n 1, 1) := by decide +kernel
theorem smd_M_word_104 : decode prog_7_method_5_code 104 = .ok (.iadd, 1) := by decide +kernel
theorem smd_M_word_105 : decode prog_7_method_5_code 105 = .ok (.iload_n 2, 1) := by decide +kernel
theorem smd_M_word_106 : decode prog_7_method_5_code 106 = .ok (.aload_n 0, 1) := by decide +kernel
theorem smd_M_word_107 : decode prog_7_method_5_code 107 = .ok (.getfield 13, 3) := by decide +kernel
theorem smd_M_word_110 : decode prog_7_method_5_code 110 = .ok (.bipush 6, 2) := by decide +kernel
theorem smd_M_word_112 : decode prog_7_method_5_code 112 = .ok (.iload_n 1, 1) := by decide +kernel
theorem smd_M_word_113 : decode prog_7_method_5_code 113 = .ok (.iadd, 1) := by decide +kernel
theorem smd_M_word_114 : decode prog_7_method_5_code 114 = .ok (.iaload, 1) := by decide +kernel
theorem smd_M_word_115 : decode prog_7_method_5_code 115 = .ok (.if_icmp .ne 9, 3) := by decide +kernel
theorem smd_M_word_118 : decode prog_7_method_5_code 118 = .ok (.iload_n 2, 1) := by decide +kernel
theorem smd_M_word_119 : decode prog_7_method_5_code 119 = .ok (.iconst 1, 1) := by decide +kernel
theorem smd_M_word_120 : decode prog_7_method_5_code 120 = .ok (.iadd, 1) := by decide +kernel
theorem smd_M_word_121 : decode prog_7_method_5_code 121 = .ok (.goto 12, 3) := by decide +kernel
theorem smd_M_word_124 : decode prog_7_method_5_code 124 = .ok (.aload_n 0, 1) := by decide +kernel
theorem smd_M_word_125 : decode prog_7_method_5_code 125 = .ok (.getfield 13, 3) := by decide +kernel
theorem smd_M_word_128 : decode prog_7_method_5_code 128 = .ok (.bipush 6, 2) := by decide +kernel
theorem smd_M_word_130 : decode prog_7_method_5_code 130 = .ok (.iload_n 1, 1) := by decide +kernel
theorem smd_M_word_131 : decode prog_7_method_5_code 131 = .ok (.iadd, 1) := by decide +kernel
theorem smd_M_word_132 : decode prog_7_method_5_code 132 = .ok (.iaload, 1) := by decide +kernel
theorem smd_M_word_133 : decode prog_7_method_5_code 133 = .ok (.iastore, 1) := by decide +kernel
theorem smd_M_word_134 : decode prog_7_method_5_code 134 = .ok (.aload_n 0, 1) := by decide +kernel
theorem smd_M_word_135 : decode prog_7_method_5_code 135 = .ok (.getfield 13, 3) := by decide +kernel
theorem smd_M_word_138 : decode prog_7_method_5_code 138 = .ok (.bipush 6, 2) := by decide +kernel
theorem smd_M_word_140 : decode prog_7_method_5_code 140 = .ok (.iload_n 1, 1) := by decide +kernel
theorem smd_M_word_141 : decode prog_7_method_5_code 141 = .ok (.iadd, 1) := by decide +kernel
theorem smd_M_word_142 : decode prog_7_method_5_code 142 = .ok (.iaload, 1) := by decide +kernel
theorem smd_M_word_143 : decode prog_7_method_5_code 143 = .ok (.ireturn, 1) := by decide +kernel
theorem smd_M_cut_0 : decode prog_7_method_6_code 0 = .ok (.iload_n 1, 1) := by decide +kernel
theorem smd_M_cut_1 : decode prog_7_method_6_code 1 = .ok (.invokestatic 59, 3) := by decide +kernel
theorem smd_M_cut_4 : decode prog_7_method_6_code 4 = .ok (.ifCond .eq 27, 3) := by decide +kernel
theorem smd_M_cut_7 : decode prog_7_method_6_code 7 = .ok (.iload_n 2, 1) := by decide +kernel
theorem smd_M_cut_8 : decode prog_7_method_6_code 8 = .ok (.ifCond .lt 23, 3) := by decide +kernel
theorem smd_M_cut_11 : decode prog_7_method_6_code 11 = .ok (.iload_n 2, 1) := by decide +kernel
theorem smd_M_cut_12 : decode prog_7_method_6_code 12 = .ok (.aload_n 0, 1) := by decide +kernel
theorem smd_M_cut_13 : decode prog_7_method_6_code 13 = .ok (.getfield 13, 3) := by decide +kernel
theorem smd_M_cut_16 : decode prog_7_method_6_code 16 = .ok (.bipush 6, 2) := by decide +kernel
theorem smd_M_cut_18 : decode prog_7_method_6_code 18 = .ok (.iload_n 1, 1) := by decide +kernel
theorem smd_M_cut_19 : decode prog_7_method_6_code 19 = .ok (.iadd, 1) := by decide +kernel
theorem smd_M_cut_20 : decode prog_7_method_6_code 20 = .ok (.iaload, 1) := by decide +kernel
theorem smd_M_cut_21 : decode prog_7_method_6_code 21 = .ok (.if_icmp .gt 10, 3) := by decide +kernel
theorem smd_M_cut_24 : decode prog_7_method_6_code 24 = .ok (.aload_n 0, 1) := by decide +kernel
theorem smd_M_cut_25 : decode prog_7_method_6_code 25 = .ok (.getfield 63, 3) := by decide +kernel
theorem smd_M_cut_28 : decode prog_7_method_6_code 28 = .ok (.ifCond .eq 5, 3) := by decide +kernel
theorem smd_M_cut_31 : decode prog_7_method_6_code 31 = .ok (.iconst 0, 1) := by decide +kernel
theorem smd_M_cut_32 : decode prog_7_method_6_code 32 = .ok (.ireturn, 1) := by decide +kernel
theorem smd_M_cut_33 : decode prog_7_method_6_code 33 = .ok (.aload_n 0, 1) := by decide +kernel
theorem smd_M_cut_34 : decode prog_7_method_6_code 34 = .ok (.getfield 13, 3) := by decide +kernel
theorem smd_M_cut_37 : decode prog_7_method_6_code 37 = .ok (.bipush 6, 2) := by decide +kernel
theorem smd_M_cut_39 : decode prog_7_method_6_code 39 = .ok (.iload_n 1, 1) := by decide +kernel
theorem smd_M_cut_40 : decode prog_7_method_6_code 40 = .ok (.iadd, 1) := by decide +kernel
theorem smd_M_cut_41 : decode prog_7_method_6_code 41 = .ok (.iload_n 2, 1) := by decide +kernel
theorem smd_M_cut_42 : decode prog_7_method_6_code 42 = .ok (.iastore, 1) := by decide +kernel
theorem smd_M_cut_43 : decode prog_7_method_6_code 43 = .ok (.iconst 1, 1) := by decide +kernel
theorem smd_M_cut_44 : decode prog_7_method_6_code 44 = .ok (.ireturn, 1) := by decide +kernel
theorem smd_M_clearRules_0 : decode prog_7_method_7_code 0 = .ok (.bipush 12, 2) := by decide +kernel
theorem smd_M_clearRules_2 : decode prog_7_method_7_code 2 = .ok (.iload_n 1, 1) := by decide +kernel
theorem smd_M_clearRules_3 : decode prog_7_method_7_code 3 = .ok (.imul, 1) := by decide +kernel
theorem smd_M_clearRules_4 : decode prog_7_method_7_code 4 = .ok (.istore_n 2, 1) := by decide +kernel
theorem smd_M_clearRules_5 : decode prog_7_method_7_code 5 = .ok (.iload_n 2, 1) := by decide +kernel
theorem smd_M_clearRules_6 : decode prog_7_method_7_code 6 = .ok (.bipush 12, 2) := by decide +kernel
theorem smd_M_clearRules_8 : decode prog_7_method_7_code 8 = .ok (.iload_n 1, 1) := by decide +kernel
theorem smd_M_clearRules_9 : decode prog_7_method_7_code 9 = .ok (.imul, 1) := by decide +kernel
theorem smd_M_clearRules_10 : decode prog_7_method_7_code 10 = .ok (.bipush 12, 2) := by decide +kernel
theorem smd_M_clearRules_12 : decode prog_7_method_7_code 12 = .ok (.iadd, 1) := by decide +kernel
theorem smd_M_clearRules_13 : decode prog_7_method_7_code 13 = .ok (.if_icmp .ge 16, 3) := by decide +kernel
theorem smd_M_clearRules_16 : decode prog_7_method_7_code 16 = .ok (.aload_n 0, 1) := by decide +kernel
theorem smd_M_clearRules_17 : decode prog_7_method_7_code 17 = .ok (.getfield 19, 3) := by decide +kernel
theorem smd_M_clearRules_20 : decode prog_7_method_7_code 20 = .ok (.iload_n 2, 1) := by decide +kernel
theorem smd_M_clearRules_21 : decode prog_7_method_7_code 21 = .ok (.iconst 0, 1) := by decide +kernel
theorem smd_M_clearRules_22 : decode prog_7_method_7_code 22 = .ok (.iastore, 1) := by decide +kernel
theorem smd_M_clearRules_23 : decode prog_7_method_7_code 23 = .ok (.iinc 2 1, 3) := by decide +kernel
theorem smd_M_clearRules_26 : decode prog_7_method_7_code 26 = .ok (.goto (-21), 3) := by decide +kernel
theorem smd_M_clearRules_29 : decode prog_7_method_7_code 29 = .ok (.return_, 1) := by decide +kernel
theorem smd_M_fields_0 : decode prog_7_method_8_code 0 = .ok (.iload_n 1, 1) := by decide +kernel
theorem smd_M_fields_1 : decode prog_7_method_8_code 1 = .ok (.invokestatic 67, 3) := by decide +kernel
theorem smd_M_fields_4 : decode prog_7_method_8_code 4 = .ok (.ifCond .eq 19, 3) := by decide +kernel
theorem smd_M_fields_7 : decode prog_7_method_8_code 7 = .ok (.iload_n 2, 1) := by decide +kernel
theorem smd_M_fields_8 : decode prog_7_method_8_code 8 = .ok (.ifCond .lt 15, 3) := by decide +kernel
theorem smd_M_fields_11 : decode prog_7_method_8_code 11 = .ok (.iload_n 2, 1) := by decide +kernel
theorem smd_M_fields_12 : decode prog_7_method_8_code 12 = .ok (.iconst 4, 1) := by decide +kernel
theorem smd_M_fields_13 : decode prog_7_method_8_code 13 = .ok (.if_icmp .gt 10, 3) := by decide +kernel
theorem smd_M_fields_16 : decode prog_7_method_8_code 16 = .ok (.aload_n 0, 1) := by decide +kernel
theorem smd_M_fields_17 : decode prog_7_method_8_code 17 = .ok (.getfield 63, 3) := by decide +kernel
theorem smd_M_fields_20 : decode prog_7_method_8_code 20 = .ok (.ifCond .eq 5, 3) := by decide +kernel
theorem smd_M_fields_23 : decode prog_7_method_8_code 23 = .ok (.iconst 0, 1) := by decide +kernel
theorem smd_M_fields_24 : decode prog_7_method_8_code 24 = .ok (.ireturn, 1) := by decide +kernel
theorem smd_M_fields_25 : decode prog_7_method_8_code 25 = .ok (.aload_n 0, 1) := by decide +kernel
theorem smd_M_fields_26 : decode prog_7_method_8_code 26 = .ok (.getfield 16, 3) := by decide +kernel
theorem smd_M_fields_29 : decode prog_7_method_8_code 29 = .ok (.iconst 3, 1) := by decide +kernel
theorem smd_M_fields_30 : decode prog_7_method_8_code 30 = .ok (.iload_n 1, 1) := by decide +kernel
theorem smd_M_fields_31 : decode prog_7_method_8_code 31 = .ok (.iadd, 1) := by decide +kernel
theorem smd_M_fields_32 : decode prog_7_method_8_code 32 = .ok (.iload_n 2, 1) := by decide +kernel
theorem smd_M_fields_33 : decode prog_7_method_8_code 33 = .ok (.iastore, 1) := by decide +kernel
theorem smd_M_fields_34 : decode prog_7_method_8_code 34 = .ok (.aload_n 0, 1) := by decide +kernel
theorem smd_M_fields_35 : decode prog_7_method_8_code 35 = .ok (.iload_n 1, 1) := by decide +kernel
theorem smd_M_fields_36 : decode prog_7_method_8_code 36 = .ok (.invokevirtual 70, 3) := by decide +kernel
theorem smd_M_fields_39 : decode prog_7_method_8_code 39 = .ok (.aload_n 0, 1) := by decide +kernel
theorem smd_M_fields_40 : decode prog_7_method_8_code 40 = .ok (.getfield 22, 3) := by decide +kernel
theorem smd_M_fields_43 : decode prog_7_method_8_code 43 = .ok (.iload_n 1, 1) := by decide +kernel
theorem smd_M_fields_44 : decode prog_7_method_8_code 44 = .ok (.iconst 1, 1) := by decide +kernel
theorem smd_M_fields_45 : decode prog_7_method_8_code 45 = .ok (.bastore, 1) := by decide +kernel
theorem smd_M_fields_46 : decode prog_7_method_8_code 46 = .ok (.iconst 1, 1) := by decide +kernel
theorem smd_M_fields_47 : decode prog_7_method_8_code 47 = .ok (.ireturn, 1) := by decide +kernel
theorem smd_M_rule_0 : decode prog_7_method_9_code 0 = .ok (.iload_n 1, 1) := by decide +kernel
theorem smd_M_rule_1 : decode prog_7_method_9_code 1 = .ok (.invokestatic 67, 3) := by decide +kernel
theorem smd_M_rule_4 : decode prog_7_method_9_code 4 = .ok (.ifCond .eq 39, 3) := by decide +kernel
theorem smd_M_rule_7 : decode prog_7_method_9_code 7 = .ok (.iload_n 2, 1) := by decide +kernel
theorem smd_M_rule_8 : decode prog_7_method_9_code 8 = .ok (.ifCond .lt 35, 3) := by decide +kernel
theorem smd_M_rule_11 : decode prog_7_method_9_code 11 = .ok (.iload_n 2, 1) := by decide +kernel
theorem smd_M_rule_12 : decode prog_7_method_9_code 12 = .ok (.aload_n 0, 1) := by decide +kernel
theorem smd_M_rule_13 : decode prog_7_method_9_code 13 = .ok (.getfield 16, 3) := by decide +kernel
theorem smd_M_rule_16 : decode prog_7_method_9_code 16 = .ok (.iconst 3, 1) := by decide +kernel
theorem smd_M_rule_17 : decode prog_7_method_9_code 17 = .ok (.iload_n 1, 1) := by decide +kernel
theorem smd_M_rule_18 : decode prog_7_method_9_code 18 = .ok (.iadd, 1) := by decide +kernel
theorem smd_M_rule_19 : decode prog_7_method_9_code 19 = .ok (.iaload, 1) := by decide +kernel
theorem smd_M_rule_20 : decode prog_7_method_9_code 20 = .ok (.if_icmp .ge 23, 3) := by decide +kernel
theorem smd_M_rule_23 : decode prog_7_method_9_code 23 = .ok (.iload_n 3, 1) := by decide +kernel
theorem smd_M_rule_24 : decode prog_7_method_9_code 24 = .ok (.ifCond .lt 19, 3) := by decide +kernel
theorem smd_M_rule_27 : decode prog_7_method_9_code 27 = .ok (.iload_n 3, 1) := by decide +kernel
theorem smd_M_rule_28 : decode prog_7_method_9_code 28 = .ok (.iconst 2, 1) := by decide +kernel
theorem smd_M_rule_29 : decode prog_7_method_9_code 29 = .ok (.if_icmp .gt 14, 3) := by decide +kernel
theorem smd_M_rule_32 : decode prog_7_method_9_code 32 = .ok (.iload 4, 2) := by decide +kernel
theorem smd_M_rule_34 : decode prog_7_method_9_code 34 = .ok (.ifCond .lt 9, 3) := by decide +kernel
theorem smd_M_rule_37 : decode prog_7_method_9_code 37 = .ok (.iload 4, 2) := by decide +kernel
theorem smd_M_rule_39 : decode prog_7_method_9_code 39 = .ok (.iconst 3, 1) := by decide +kernel
theorem smd_M_rule_40 : decode prog_7_method_9_code 40 = .ok (.if_icmp .le 5, 3) := by decide +kernel
theorem smd_M_rule_43 : decode prog_7_method_9_code 43 = .ok (.iconst (-1), 1) := by decide +kernel
theorem smd_M_rule_44 : decode prog_7_method_9_code 44 = .ok (.ireturn, 1) := by decide +kernel
theorem smd_M_rule_45 : decode prog_7_method_9_code 45 = .ok (.aload_n 0, 1) := by decide +kernel
theorem smd_M_rule_46 : decode prog_7_method_9_code 46 = .ok (.getfield 63, 3) := by decide +kernel
theorem smd_M_rule_49 : decode prog_7_method_9_code 49 = .ok (.ifCond .eq 6, 3) := by decide +kernel
theorem smd_M_rule_52 : decode prog_7_method_9_code 52 = .ok (.bipush (-2), 2) := by decide +kernel
theorem smd_M_rule_54 : decode prog_7_method_9_code 54 = .ok (.ireturn, 1) := by decide +kernel
theorem smd_M_rule_55 : decode prog_7_method_9_code 55 = .ok (.aload_n 0, 1) := by decide +kernel
theorem smd_M_rule_56 : decode prog_7_method_9_code 56 = .ok (.getfield 19, 3) := by decide +kernel
theorem smd_M_rule_59 : decode prog_7_method_9_code 59 = .ok (.bipush 12, 2) := by decide +kernel
theorem smd_M_rule_61 : decode prog_7_method_9_code 61 = .ok (.iload_n 1, 1) := by decide +kernel
theorem smd_M_rule_62 : decode prog_7_method_9_code 62 = .ok (.imul, 1) := by decide +kernel
theorem smd_M_rule_63 : decode prog_7_method_9_code 63 = .ok (.iconst 3, 1) := by decide +kernel
theorem smd_M_rule_64 : decode prog_7_method_9_code 64 = .ok (.iload_n 2, 1) := by decide +kernel
theorem smd_M_rule_65 : decode prog_7_method_9_code 65 = .ok (.imul, 1) := by decide +kernel
theorem smd_M_rule_66 : decode prog_7_method_9_code 66 = .ok (.iadd, 1) := by decide +kernel
theorem smd_M_rule_67 : decode prog_7_method_9_code 67 = .ok (.iload_n 3, 1) := by decide +kernel
theorem smd_M_rule_68 : decode prog_7_method_9_code 68 = .ok (.iastore, 1) := by decide +kernel
theorem smd_M_rule_69 : decode prog_7_method_9_code 69 = .ok (.aload_n 0, 1) := by decide +kernel
theorem smd_M_rule_70 : decode prog_7_method_9_code 70 = .ok (.getfield 19, 3) := by decide +kernel
theorem smd_M_rule_73 : decode prog_7_method_9_code 73 = .ok (.bipush 12, 2) := by decide +kernel
theorem smd_M_rule_75 : decode prog_7_method_9_code 75 = .ok (.iload_n 1, 1) := by decide +kernel
theorem smd_M_rule_76 : decode prog_7_method_9_code 76 = .ok (.imul, 1) := by decide +kernel
theorem smd_M_rule_77 : decode prog_7_method_9_code 77 = .ok (.iconst 3, 1) := by decide +kernel
theorem smd_M_rule_78 : decode prog_7_method_9_code 78 = .ok (.iload_n 2, 1) := by decide +kernel
theorem smd_M_rule_79 : decode prog_7_method_9_code 79 = .ok (.imul, 1) := by decide +kernel
theorem smd_M_rule_80 : decode prog_7_method_9_code 80 = .ok (.iadd, 1) := by decide +kernel
theorem smd_M_rule_81 : decode prog_7_method_9_code 81 = .ok (.iconst 1, 1) := by decide +kernel
theorem smd_M_rule_82 : decode prog_7_method_9_code 82 = .ok (.iadd, 1) := by decide +kernel
theorem smd_M_rule_83 : decode prog_7_method_9_code 83 = .ok (.iload 4, 2) := by decide +kernel
theorem smd_M_rule_85 : decode prog_7_method_9_code 85 = .ok (.iastore, 1) := by decide +kernel
theorem smd_M_rule_86 : decode prog_7_method_9_code 86 = .ok (.aload_n 0, 1) := by decide +kernel
theorem smd_M_rule_87 : decode prog_7_method_9_code 87 = .ok (.getfield 19, 3) := by decide +kernel
theorem smd_M_rule_90 : decode prog_7_method_9_code 90 = .ok (.bipush 12, 2) := by decide +kernel
theorem smd_M_rule_92 : decode prog_7_method_9_code 92 = .ok (.iload_n 1, 1) := by decide +kernel
theorem smd_M_rule_93 : decode prog_7_method_9_code 93 = .ok (.imul, 1) := by decide +kernel
theorem smd_M_rule_94 : decode prog_7_method_9_code 94 = .ok (.iconst 3, 1) := by decide +kernel
theorem smd_M_rule_95 : decode prog_7_method_9_code 95 = .ok (.iload_n 2, 1) := by decide +kernel
theorem smd_M_rule_96 : decode prog_7_method_9_code 96 = .ok (.imul, 1) := by decide +kernel
theorem smd_M_rule_97 : decode prog_7_method_9_code 97 = .ok (.iadd, 1) := by decide +kernel
theorem smd_M_rule_98 : decode prog_7_method_9_code 98 = .ok (.iconst 2, 1) := by decide +kernel
theorem smd_M_rule_99 : decode prog_7_method_9_code 99 = .ok (.iadd, 1) := by decide +kernel
theorem smd_M_rule_100 : decode prog_7_method_9_code 100 = .ok (.iload 5, 2) := by decide +kernel
theorem smd_M_rule_102 : decode prog_7_method_9_code 102 = .ok (.iastore, 1) := by decide +kernel
theorem smd_M_rule_103 : decode prog_7_method_9_code 103 = .ok (.aload_n 0, 1) := by decide +kernel
theorem smd_M_rule_104 : decode prog_7_method_9_code 104 = .ok (.getfield 22, 3) := by decide +kernel
theorem smd_M_rule_107 : decode prog_7_method_9_code 107 = .ok (.iload_n 1, 1) := by decide +kernel
theorem smd_M_rule_108 : decode prog_7_method_9_code 108 = .ok (.iconst 1, 1) := by decide +kernel
theorem smd_M_rule_109 : decode prog_7_method_9_code 109 = .ok (.bastore, 1) := by decide +kernel
theorem smd_M_rule_110 : decode prog_7_method_9_code 110 = .ok (.iconst 0, 1) := by decide +kernel
theorem smd_M_rule_111 : decode prog_7_method_9_code 111 = .ok (.ireturn, 1) := by decide +kernel
theorem smd_M_settle_0 : decode prog_7_method_10_code 0 = .ok (.iconst 0, 1) := by decide +kernel
theorem smd_M_settle_1 : decode prog_7_method_10_code 1 = .ok (.istore_n 1, 1) := by decide +kernel
theorem smd_M_settle_2 : decode prog_7_method_10_code 2 = .ok (.iload_n 1, 1) := by decide +kernel
theorem smd_M_settle_3 : decode prog_7_method_10_code 3 = .ok (.iconst 3, 1) := by decide +kernel
theorem smd_M_settle_4 : decode prog_7_method_10_code 4 = .ok (.if_icmp .ge 21, 3) := by decide +kernel
theorem smd_M_settle_7 : decode prog_7_method_10_code 7 = .ok (.aload_n 0, 1) := by decide +kernel
theorem smd_M_settle_8 : decode prog_7_method_10_code 8 = .ok (.iload_n 1, 1) := by decide +kernel
theorem smd_M_settle_9 : decode prog_7_method_10_code 9 = .ok (.invokevirtual 70, 3) := by decide +kernel
theorem smd_M_settle_12 : decode prog_7_method_10_code 12 = .ok (.aload_n 0, 1) := by decide +kernel
theorem smd_M_settle_13 : decode prog_7_method_10_code 13 = .ok (.getfield 22, 3) := by decide +kernel
theorem smd_M_settle_16 : decode prog_7_method_10_code 16 = .ok (.iload_n 1, 1) := by decide +kernel
theorem smd_M_settle_17 : decode prog_7_method_10_code 17 = .ok (.iconst 0, 1) := by decide +kernel
theorem smd_M_settle_18 : decode prog_7_method_10_code 18 = .ok (.bastore, 1) := by decide +kernel
theorem smd_M_settle_19 : decode prog_7_method_10_code 19 = .ok (.iinc 1 1, 3) := by decide +kernel
theorem smd_M_settle_22 : decode prog_7_method_10_code 22 = .ok (.goto (-20), 3) := by decide +kernel
theorem smd_M_settle_25 : decode prog_7_method_10_code 25 = .ok (.return_, 1) := by decide +kernel
theorem smd_M_reset_0 : decode prog_7_method_11_code 0 = .ok (.aload_n 0, 1) := by decide +kernel
theorem smd_M_reset_1 : decode prog_7_method_11_code 1 = .ok (.getfield 63, 3) := by decide +kernel
theorem smd_M_reset_4 : decode prog_7_method_11_code 4 = .ok (.ifCond .eq 5, 3) := by decide +kernel
theorem smd_M_reset_7 : decode prog_7_method_11_code 7 = .ok (.iconst 0, 1) := by decide +kernel
theorem smd_M_reset_8 : decode prog_7_method_11_code 8 = .ok (.ireturn, 1) := by decide +kernel
theorem smd_M_reset_9 : decode prog_7_method_11_code 9 = .ok (.iconst 0, 1) := by decide +kernel
theorem smd_M_reset_10 : decode prog_7_method_11_code 10 = .ok (.istore_n 1, 1) := by decide +kernel
theorem smd_M_reset_11 : decode prog_7_method_11_code 11 = .ok (.iload_n 1, 1) := by decide +kernel
theorem smd_M_reset_12 : decode prog_7_method_11_code 12 = .ok (.sipush 288, 3) := by decide +kernel
theorem smd_M_reset_15 : decode prog_7_method_11_code 15 = .ok (.if_icmp .ge 25, 3) := by decide +kernel
theorem smd_M_reset_18 : decode prog_7_method_11_code 18 = .ok (.aload_n 0, 1) := by decide +kernel
theorem smd_M_reset_19 : decode prog_7_method_11_code 19 = .ok (.getfield 7, 3) := by decide +kernel
theorem smd_M_reset_22 : decode prog_7_method_11_code 22 = .ok (.sipush 288, 3) := by decide +kernel
theorem smd_M_reset_25 : decode prog_7_method_11_code 25 = .ok (.iload_n 1, 1) := by decide +kernel
theorem smd_M_reset_26 : decode prog_7_method_11_code 26 = .ok (.iadd, 1) := by decide +kernel
theorem smd_M_reset_27 : decode prog_7_method_11_code 27 = .ok (.aload_n 0, 1) := by decide +kernel
theorem smd_M_reset_28 : decode prog_7_method_11_code 28 = .ok (.getfield 7, 3) := by decide +kernel
theorem smd_M_reset_31 : decode prog_7_method_11_code 31 = .ok (.iload_n 1, 1) := by decide +kernel
theorem smd_M_reset_32 : decode prog_7_method_11_code 32 = .ok (.iaload, 1) := by decide +kernel
theorem smd_M_reset_33 : decode prog_7_method_11_code 33 = .ok (.iastore, 1) := by decide +kernel
theorem smd_M_reset_34 : decode prog_7_method_11_code 34 = .ok (.iinc 1 1, 3) := by decide +kernel
theorem smd_M_reset_37 : decode prog_7_method_11_code 37 = .ok (.goto (-26), 3) := by decide +kernel
theorem smd_M_reset_40 : decode prog_7_method_11_code 40 = .ok (.iconst 0, 1) := by decide +kernel
theorem smd_M_reset_41 : decode prog_7_method_11_code 41 = .ok (.istore_n 1, 1) := by decide +kernel
theorem smd_M_reset_42 : decode prog_7_method_11_code 42 = .ok (.iload_n 1, 1) := by decide +kernel
theorem smd_M_reset_43 : decode prog_7_method_11_code 43 = .ok (.bipush 6, 2) := by decide +kernel
theorem smd_M_reset_45 : decode prog_7_method_11_code 45 = .ok (.if_icmp .ge 24, 3) := by decide +kernel
theorem smd_M_reset_48 : decode prog_7_method_11_code 48 = .ok (.aload_n 0, 1) := by decide +kernel
theorem smd_M_reset_49 : decode prog_7_method_11_code 49 = .ok (.getfield 13, 3) := by decide +kernel
theorem smd_M_reset_52 : decode prog_7_method_11_code 52 = .ok (.bipush 6, 2) := by decide +kernel
theorem smd_M_reset_54 : decode prog_7_method_11_code 54 = .ok (.iload_n 1, 1) := by decide +kernel
theorem smd_M_reset_55 : decode prog_7_method_11_code 55 = .ok (.iadd, 1) := by decide +kernel
theorem smd_M_reset_56 : decode prog_7_method_11_code 56 = .ok (.aload_n 0, 1) := by decide +kernel
theorem smd_M_reset_57 : decode prog_7_method_11_code 57 = .ok (.getfield 13, 3) := by decide +kernel
theorem smd_M_reset_60 : decode prog_7_method_11_code 60 = .ok (.iload_n 1, 1) := by decide +kernel
theorem smd_M_reset_61 : decode prog_7_method_11_code 61 = .ok (.iaload, 1) := by decide +kernel
theorem smd_M_reset_62 : decode prog_7_method_11_code 62 = .ok (.iastore, 1) := by decide +kernel
theorem smd_M_reset_63 : decode prog_7_method_11_code 63 = .ok (.iinc 1 1, 3) := by decide +kernel
theorem smd_M_reset_66 : decode prog_7_method_11_code 66 = .ok (.goto (-24), 3) := by decide +kernel
theorem smd_M_reset_69 : decode prog_7_method_11_code 69 = .ok (.iconst 0, 1) := by decide +kernel
theorem smd_M_reset_70 : decode prog_7_method_11_code 70 = .ok (.istore_n 1, 1) := by decide +kernel
theorem smd_M_reset_71 : decode prog_7_method_11_code 71 = .ok (.iload_n 1, 1) := by decide +kernel
theorem smd_M_reset_72 : decode prog_7_method_11_code 72 = .ok (.iconst 3, 1) := by decide +kernel
theorem smd_M_reset_73 : decode prog_7_method_11_code 73 = .ok (.if_icmp .ge 23, 3) := by decide +kernel
theorem smd_M_reset_76 : decode prog_7_method_11_code 76 = .ok (.aload_n 0, 1) := by decide +kernel
theorem smd_M_reset_77 : decode prog_7_method_11_code 77 = .ok (.getfield 16, 3) := by decide +kernel
theorem smd_M_reset_80 : decode prog_7_method_11_code 80 = .ok (.iconst 3, 1) := by decide +kernel
theorem smd_M_reset_81 : decode prog_7_method_11_code 81 = .ok (.iload_n 1, 1) := by decide +kernel
theorem smd_M_reset_82 : decode prog_7_method_11_code 82 = .ok (.iadd, 1) := by decide +kernel
theorem smd_M_reset_83 : decode prog_7_method_11_code 83 = .ok (.aload_n 0, 1) := by decide +kernel
theorem smd_M_reset_84 : decode prog_7_method_11_code 84 = .ok (.getfield 16, 3) := by decide +kernel
theorem smd_M_reset_87 : decode prog_7_method_11_code 87 = .ok (.iload_n 1, 1) := by decide +kernel
theorem smd_M_reset_88 : decode prog_7_method_11_code 88 = .ok (.iaload, 1) := by decide +kernel
theorem smd_M_reset_89 : decode prog_7_method_11_code 89 = .ok (.iastore, 1) := by decide +kernel
theorem smd_M_reset_90 : decode prog_7_method_11_code 90 = .ok (.iinc 1 1, 3) := by decide +kernel
theorem smd_M_reset_93 : decode prog_7_method_11_code 93 = .ok (.goto (-22), 3) := by decide +kernel
theorem smd_M_reset_96 : decode prog_7_method_11_code 96 = .ok (.aload_n 0, 1) := by decide +kernel
theorem smd_M_reset_97 : decode prog_7_method_11_code 97 = .ok (.invokevirtual 74, 3) := by decide +kernel
theorem smd_M_reset_100 : decode prog_7_method_11_code 100 = .ok (.iconst 1, 1) := by decide +kernel
theorem smd_M_reset_101 : decode prog_7_method_11_code 101 = .ok (.ireturn, 1) := by decide +kernel
theorem smd_M_isField_0 : decode prog_7_method_12_code 0 = .ok (.iload_n 1, 1) := by decide +kernel
theorem smd_M_isField_1 : decode prog_7_method_12_code 1 = .ok (.ifCond .lt 29, 3) := by decide +kernel
theorem smd_M_isField_4 : decode prog_7_method_12_code 4 = .ok (.iload_n 1, 1) := by decide +kernel
theorem smd_M_isField_5 : decode prog_7_method_12_code 5 = .ok (.bipush 12, 2) := by decide +kernel
theorem smd_M_isField_7 : decode prog_7_method_12_code 7 = .ok (.if_icmp .ge 23, 3) := by decide +kernel
theorem smd_M_isField_10 : decode prog_7_method_12_code 10 = .ok (.iload_n 1, 1) := by decide +kernel
theorem smd_M_isField_11 : decode prog_7_method_12_code 11 = .ok (.iconst 4, 1) := by decide +kernel
theorem smd_M_isField_12 : decode prog_7_method_12_code 12 = .ok (.irem, 1) := by decide +kernel
theorem smd_M_isField_13 : decode prog_7_method_12_code 13 = .ok (.aload_n 0, 1) := by decide +kernel
theorem smd_M_isField_14 : decode prog_7_method_12_code 14 = .ok (.getfield 16, 3) := by decide +kernel
theorem smd_M_isField_17 : decode prog_7_method_12_code 17 = .ok (.iconst 3, 1) := by decide +kernel
theorem smd_M_isField_18 : decode prog_7_method_12_code 18 = .ok (.iload_n 1, 1) := by decide +kernel
theorem smd_M_isField_19 : decode prog_7_method_12_code 19 = .ok (.iconst 4, 1) := by decide +kernel
theorem smd_M_isField_20 : decode prog_7_method_12_code 20 = .ok (.idiv, 1) := by decide +kernel
theorem smd_M_isField_21 : decode prog_7_method_12_code 21 = .ok (.iadd, 1) := by decide +kernel
theorem smd_M_isField_22 : decode prog_7_method_12_code 22 = .ok (.iaload, 1) := by decide +kernel
theorem smd_M_isField_23 : decode prog_7_method_12_code 23 = .ok (.if_icmp .ge 7, 3) := by decide +kernel
theorem smd_M_isField_26 : decode prog_7_method_12_code 26 = .ok (.iconst 1, 1) := by decide +kernel
theorem smd_M_isField_27 : decode prog_7_method_12_code 27 = .ok (.goto 4, 3) := by decide +kernel
theorem smd_M_isField_30 : decode prog_7_method_12_code 30 = .ok (.iconst 0, 1) := by decide +kernel
theorem smd_M_isField_31 : decode prog_7_method_12_code 31 = .ok (.ireturn, 1) := by decide +kernel
theorem smd_M_isRight_0 : decode prog_7_method_13_code 0 = .ok (.sipush 288, 3) := by decide +kernel
theorem smd_M_isRight_3 : decode prog_7_method_13_code 3 = .ok (.bipush 48, 2) := by decide +kernel
theorem smd_M_isRight_5 : decode prog_7_method_13_code 5 = .ok (.iload_n 1, 1) := by decide +kernel
theorem smd_M_isRight_6 : decode prog_7_method_13_code 6 = .ok (.imul, 1) := by decide +kernel
theorem smd_M_isRight_7 : decode prog_7_method_13_code 7 = .ok (.iadd, 1) := by decide +kernel
theorem smd_M_isRight_8 : decode prog_7_method_13_code 8 = .ok (.iconst 4, 1) := by decide +kernel
theorem smd_M_isRight_9 : decode prog_7_method_13_code 9 = .ok (.iload_n 2, 1) := by decide +kernel
theorem smd_M_isRight_10 : decode prog_7_method_13_code 10 = .ok (.imul, 1) := by decide +kernel
theorem smd_M_isRight_11 : decode prog_7_method_13_code 11 = .ok (.iadd, 1) := by decide +kernel
theorem smd_M_isRight_12 : decode prog_7_method_13_code 12 = .ok (.istore_n 3, 1) := by decide +kernel
theorem smd_M_isRight_13 : decode prog_7_method_13_code 13 = .ok (.aload_n 0, 1) := by decide +kernel
theorem smd_M_isRight_14 : decode prog_7_method_13_code 14 = .ok (.getfield 7, 3) := by decide +kernel
theorem smd_M_isRight_17 : decode prog_7_method_13_code 17 = .ok (.iload_n 3, 1) := by decide +kernel
theorem smd_M_isRight_18 : decode prog_7_method_13_code 18 = .ok (.iaload, 1) := by decide +kernel
theorem smd_M_isRight_19 : decode prog_7_method_13_code 19 = .ok (.istore 4, 2) := by decide +kernel
theorem smd_M_isRight_21 : decode prog_7_method_13_code 21 = .ok (.aload_n 0, 1) := by decide +kernel
theorem smd_M_isRight_22 : decode prog_7_method_13_code 22 = .ok (.getfield 7, 3) := by decide +kernel
theorem smd_M_isRight_25 : decode prog_7_method_13_code 25 = .ok (.iload_n 3, 1) := by decide +kernel
theorem smd_M_isRight_26 : decode prog_7_method_13_code 26 = .ok (.iconst 1, 1) := by decide +kernel
theorem smd_M_isRight_27 : decode prog_7_method_13_code 27 = .ok (.iadd, 1) := by decide +kernel
theorem smd_M_isRight_28 : decode prog_7_method_13_code 28 = .ok (.iaload, 1) := by decide +kernel
theorem smd_M_isRight_29 : decode prog_7_method_13_code 29 = .ok (.istore 5, 2) := by decide +kernel
theorem smd_M_isRight_31 : decode prog_7_method_13_code 31 = .ok (.aload_n 0, 1) := by decide +kernel
theorem smd_M_isRight_32 : decode prog_7_method_13_code 32 = .ok (.getfield 7, 3) := by decide +kernel
theorem smd_M_isRight_35 : decode prog_7_method_13_code 35 = .ok (.iload_n 3, 1) := by decide +kernel
theorem smd_M_isRight_36 : decode prog_7_method_13_code 36 = .ok (.iconst 2, 1) := by decide +kernel
theorem smd_M_isRight_37 : decode prog_7_method_13_code 37 = .ok (.iadd, 1) := by decide +kernel
theorem smd_M_isRight_38 : decode prog_7_method_13_code 38 = .ok (.iaload, 1) := by decide +kernel
theorem smd_M_isRight_39 : decode prog_7_method_13_code 39 = .ok (.istore 6, 2) := by decide +kernel
theorem smd_M_isRight_41 : decode prog_7_method_13_code 41 = .ok (.aload_n 0, 1) := by decide +kernel
theorem smd_M_isRight_42 : decode prog_7_method_13_code 42 = .ok (.getfield 7, 3) := by decide +kernel
theorem smd_M_isRight_45 : decode prog_7_method_13_code 45 = .ok (.iload_n 3, 1) := by decide +kernel
theorem smd_M_isRight_46 : decode prog_7_method_13_code 46 = .ok (.iconst 3, 1) := by decide +kernel
theorem smd_M_isRight_47 : decode prog_7_method_13_code 47 = .ok (.iadd, 1) := by decide +kernel
theorem smd_M_isRight_48 : decode prog_7_method_13_code 48 = .ok (.iaload, 1) := by decide +kernel
theorem smd_M_isRight_49 : decode prog_7_method_13_code 49 = .ok (.istore 7, 2) := by decide +kernel
theorem smd_M_isRight_51 : decode prog_7_method_13_code 51 = .ok (.iload 4, 2) := by decide +kernel
theorem smd_M_isRight_53 : decode prog_7_method_13_code 53 = .ok (.tableswitch 286 0 12 #[67, 67, 73, 73, 103, 136, 179, 213, 213, 244, 244, 67, 269], 67) := by decide +kernel
theorem smd_M_isRight_120 : decode prog_7_method_13_code 120 = .ok (.iload 5, 2) := by decide +kernel
theorem smd_M_isRight_122 : decode prog_7_method_13_code 122 = .ok (.invokestatic 77, 3) := by decide +kernel
theorem smd_M_isRight_125 : decode prog_7_method_13_code 125 = .ok (.ireturn, 1) := by decide +kernel
theorem smd_M_isRight_126 : decode prog_7_method_13_code 126 = .ok (.iload 5, 2) := by decide +kernel
theorem smd_M_isRight_128 : decode prog_7_method_13_code 128 = .ok (.invokestatic 77, 3) := by decide +kernel
theorem smd_M_isRight_131 : decode prog_7_method_13_code 131 = .ok (.ifCond .eq 23, 3) := by decide +kernel
theorem smd_M_isRight_134 : decode prog_7_method_13_code 134 = .ok (.iload 6, 2) := by decide +kernel
theorem smd_M_isRight_136 : decode prog_7_method_13_code 136 = .ok (.invokestatic 77, 3) := by decide +kernel
theorem smd_M_isRight_139 : decode prog_7_method_13_code 139 = .ok (.ifCond .eq 15, 3) := by decide +kernel
theorem smd_M_isRight_142 : decode prog_7_method_13_code 142 = .ok (.iload 7, 2) := by decide +kernel
theorem smd_M_isRight_144 : decode prog_7_method_13_code 144 = .ok (.invokestatic 77, 3) := by decide +kernel
theorem smd_M_isRight_147 : decode prog_7_method_13_code 147 = .ok (.ifCond .eq 7, 3) := by decide +kernel
theorem smd_M_isRight_150 : decode prog_7_method_13_code 150 = .ok (.iconst 1, 1) := by decide +kernel
theorem smd_M_isRight_151 : decode prog_7_method_13_code 151 = .ok (.goto 4, 3) := by decide +kernel
theorem smd_M_isRight_154 : decode prog_7_method_13_code 154 = .ok (.iconst 0, 1) := by decide +kernel
theorem smd_M_isRight_155 : decode prog_7_method_13_code 155 = .ok (.ireturn, 1) := by decide +kernel
theorem smd_M_isRight_156 : decode prog_7_method_13_code 156 = .ok (.iload 5, 2) := by decide +kernel
theorem smd_M_isRight_158 : decode prog_7_method_13_code 158 = .ok (.invokestatic 77, 3) := by decide +kernel
theorem smd_M_isRight_161 : decode prog_7_method_13_code 161 = .ok (.ifCond .eq 26, 3) := by decide +kernel
theorem smd_M_isRight_164 : decode prog_7_method_13_code 164 = .ok (.iload 6, 2) := by decide +kernel
theorem smd_M_isRight_166 : decode prog_7_method_13_code 166 = .ok (.ifCond .lt 21, 3) := by decide +kernel
theorem smd_M_isRight_169 : decode prog_7_method_13_code 169 = .ok (.iload 6, 2) := by decide +kernel
theorem smd_M_isRight_171 : decode prog_7_method_13_code 171 = .ok (.aload_n 0, 1) := by decide +kernel
theorem smd_M_isRight_172 : decode prog_7_method_13_code 172 = .ok (.getfield 13, 3) := by decide +kernel
theorem smd_M_isRight_175 : decode prog_7_method_13_code 175 = .ok (.bipush 6, 2) := by decide +kernel
theorem smd_M_isRight_177 : decode prog_7_method_13_code 177 = .ok (.iload_n 1, 1) := by decide +kernel
theorem smd_M_isRight_178 : decode prog_7_method_13_code 178 = .ok (.iadd, 1) := by decide +kernel
theorem smd_M_isRight_179 : decode prog_7_method_13_code 179 = .ok (.iaload, 1) := by decide +kernel
theorem smd_M_isRight_180 : decode prog_7_method_13_code 180 = .ok (.if_icmp .ge 7, 3) := by decide +kernel
theorem smd_M_isRight_183 : decode prog_7_method_13_code 183 = .ok (.iconst 1, 1) := by decide +kernel
theorem smd_M_isRight_184 : decode prog_7_method_13_code 184 = .ok (.goto 4, 3) := by decide +kernel
theorem smd_M_isRight_187 : decode prog_7_method_13_code 187 = .ok (.iconst 0, 1) := by decide +kernel
theorem smd_M_isRight_188 : decode prog_7_method_13_code 188 = .ok (.ireturn, 1) := by decide +kernel
theorem smd_M_isRight_189 : decode prog_7_method_13_code 189 = .ok (.iload 5, 2) := by decide +kernel
theorem smd_M_isRight_191 : decode prog_7_method_13_code 191 = .ok (.invokestatic 77, 3) := by decide +kernel
theorem smd_M_isRight_194 : decode prog_7_method_13_code 194 = .ok (.ifCond .eq 36, 3) := by decide +kernel
theorem smd_M_isRight_197 : decode prog_7_method_13_code 197 = .ok (.iload 7, 2) := by decide +kernel
theorem smd_M_isRight_199 : decode prog_7_method_13_code 199 = .ok (.invokestatic 77, 3) := by decide +kernel
theorem smd_M_isRight_202 : decode prog_7_method_13_code 202 = .ok (.ifCond .eq 28, 3) := by decide +kernel
theorem smd_M_isRight_205 : decode prog_7_method_13_code 205 = .ok (.iload 6, 2) := by decide +kernel
theorem smd_M_isRight_207 : decode prog_7_method_13_code 207 = .ok (.invokestatic 59, 3) := by decide +kernel
theorem smd_M_isRight_210 : decode prog_7_method_13_code 210 = .ok (.ifCond .eq 20, 3) := by decide +kernel
theorem smd_M_isRight_213 : decode prog_7_method_13_code 213 = .ok (.aload_n 0, 1) := by decide +kernel
theorem smd_M_isRight_214 : decode prog_7_method_13_code 214 = .ok (.getfield 13, 3) := by decide +kernel
theorem smd_M_isRight_217 : decode prog_7_method_13_code 217 = .ok (.bipush 6, 2) := by decide +kernel
theorem smd_M_isRight_219 : decode prog_7_method_13_code 219 = .ok (.iload 6, 2) := by decide +kernel
theorem smd_M_isRight_221 : decode prog_7_method_13_code 221 = .ok (.iadd, 1) := by decide +kernel
theorem smd_M_isRight_222 : decode prog_7_method_13_code 222 = .ok (.iaload, 1) := by decide +kernel
theorem smd_M_isRight_223 : decode prog_7_method_13_code 223 = .ok (.ifCond .le 7, 3) := by decide +kernel
theorem smd_M_isRight_226 : decode prog_7_method_13_code 226 = .ok (.iconst 1, 1) := by decide +kernel
theorem smd_M_isRight_227 : decode prog_7_method_13_code 227 = .ok (.goto 4, 3) := by decide +kernel
theorem smd_M_isRight_230 : decode prog_7_method_13_code 230 = .ok (.iconst 0, 1) := by decide +kernel
theorem smd_M_isRight_231 : decode prog_7_method_13_code 231 = .ok (.ireturn, 1) := by decide +kernel
theorem smd_M_isRight_232 : decode prog_7_method_13_code 232 = .ok (.iload 5, 2) := by decide +kernel
theorem smd_M_isRight_234 : decode prog_7_method_13_code 234 = .ok (.invokestatic 77, 3) := by decide +kernel
theorem smd_M_isRight_237 : decode prog_7_method_13_code 237 = .ok (.ifCond .eq 27, 3) := by decide +kernel
theorem smd_M_isRight_240 : decode prog_7_method_13_code 240 = .ok (.iload 6, 2) := by decide +kernel
theorem smd_M_isRight_242 : decode prog_7_method_13_code 242 = .ok (.invokestatic 67, 3) := by decide +kernel
theorem smd_M_isRight_245 : decode prog_7_method_13_code 245 = .ok (.ifCond .eq 19, 3) := by decide +kernel
theorem smd_M_isRight_248 : decode prog_7_method_13_code 248 = .ok (.aload_n 0, 1) := by decide +kernel
theorem smd_M_isRight_249 : decode prog_7_method_13_code 249 = .ok (.getfield 16, 3) := by decide +kernel
theorem smd_M_isRight_252 : decode prog_7_method_13_code 252 = .ok (.iconst 3, 1) := by decide +kernel
theorem smd_M_isRight_253 : decode prog_7_method_13_code 253 = .ok (.iload 6, 2) := by decide +kernel
theorem smd_M_isRight_255 : decode prog_7_method_13_code 255 = .ok (.iadd, 1) := by decide +kernel
theorem smd_M_isRight_256 : decode prog_7_method_13_code 256 = .ok (.iaload, 1) := by decide +kernel
theorem smd_M_isRight_257 : decode prog_7_method_13_code 257 = .ok (.ifCond .le 7, 3) := by decide +kernel
theorem smd_M_isRight_260 : decode prog_7_method_13_code 260 = .ok (.iconst 1, 1) := by decide +kernel
theorem smd_M_isRight_261 : decode prog_7_method_13_code 261 = .ok (.goto 4, 3) := by decide +kernel
theorem smd_M_isRight_264 : decode prog_7_method_13_code 264 = .ok (.iconst 0, 1) := by decide +kernel
theorem smd_M_isRight_265 : decode prog_7_method_13_code 265 = .ok (.ireturn, 1) := by decide +kernel
theorem smd_M_isRight_266 : decode prog_7_method_13_code 266 = .ok (.iload 5, 2) := by decide +kernel
theorem smd_M_isRight_268 : decode prog_7_method_13_code 268 = .ok (.invokestatic 77, 3) := by decide +kernel
theorem smd_M_isRight_271 : decode prog_7_method_13_code 271 = .ok (.ifCond .eq 24, 3) := by decide +kernel
theorem smd_M_isRight_274 : decode prog_7_method_13_code 274 = .ok (.iload 6, 2) := by decide +kernel
theorem smd_M_isRight_276 : decode prog_7_method_13_code 276 = .ok (.invokestatic 77, 3) := by decide +kernel
theorem smd_M_isRight_279 : decode prog_7_method_13_code 279 = .ok (.ifCond .eq 16, 3) := by decide +kernel
theorem smd_M_isRight_282 : decode prog_7_method_13_code 282 = .ok (.aload_n 0, 1) := by decide +kernel
theorem smd_M_isRight_283 : decode prog_7_method_13_code 283 = .ok (.iload 7, 2) := by decide +kernel
theorem smd_M_isRight_285 : decode prog_7_method_13_code 285 = .ok (.invokevirtual 80, 3) := by decide +kernel
theorem smd_M_isRight_288 : decode prog_7_method_13_code 288 = .ok (.ifCond .eq 7, 3) := by decide +kernel
theorem smd_M_isRight_291 : decode prog_7_method_13_code 291 = .ok (.iconst 1, 1) := by decide +kernel
theorem smd_M_isRight_292 : decode prog_7_method_13_code 292 = .ok (.goto 4, 3) := by decide +kernel
theorem smd_M_isRight_295 : decode prog_7_method_13_code 295 = .ok (.iconst 0, 1) := by decide +kernel
theorem smd_M_isRight_296 : decode prog_7_method_13_code 296 = .ok (.ireturn, 1) := by decide +kernel
theorem smd_M_isRight_297 : decode prog_7_method_13_code 297 = .ok (.iload 5, 2) := by decide +kernel
theorem smd_M_isRight_299 : decode prog_7_method_13_code 299 = .ok (.invokestatic 77, 3) := by decide +kernel
theorem smd_M_isRight_302 : decode prog_7_method_13_code 302 = .ok (.ifCond .eq 18, 3) := by decide +kernel
theorem smd_M_isRight_305 : decode prog_7_method_13_code 305 = .ok (.iload 6, 2) := by decide +kernel
theorem smd_M_isRight_307 : decode prog_7_method_13_code 307 = .ok (.ifCond .lt 13, 3) := by decide +kernel
theorem smd_M_isRight_310 : decode prog_7_method_13_code 310 = .ok (.iload 6, 2) := by decide +kernel
theorem smd_M_isRight_312 : decode prog_7_method_13_code 312 = .ok (.iconst 4, 1) := by decide +kernel
theorem smd_M_isRight_313 : decode prog_7_method_13_code 313 = .ok (.if_icmp .ge 7, 3) := by decide +kernel
theorem smd_M_isRight_316 : decode prog_7_method_13_code 316 = .ok (.iconst 1, 1) := by decide +kernel
theorem smd_M_isRight_317 : decode prog_7_method_13_code 317 = .ok (.goto 4, 3) := by decide +kernel
theorem smd_M_isRight_320 : decode prog_7_method_13_code 320 = .ok (.iconst 0, 1) := by decide +kernel
theorem smd_M_isRight_321 : decode prog_7_method_13_code 321 = .ok (.ireturn, 1) := by decide +kernel
theorem smd_M_isRight_322 : decode prog_7_method_13_code 322 = .ok (.iload 5, 2) := by decide +kernel
theorem smd_M_isRight_324 : decode prog_7_method_13_code 324 = .ok (.ifCond .lt 13, 3) := by decide +kernel
theorem smd_M_isRight_327 : decode prog_7_method_13_code 327 = .ok (.iload 5, 2) := by decide +kernel
theorem smd_M_isRight_329 : decode prog_7_method_13_code 329 = .ok (.iconst 4, 1) := by decide +kernel
theorem smd_M_isRight_330 : decode prog_7_method_13_code 330 = .ok (.if_icmp .ge 7, 3) := by decide +kernel
theorem smd_M_isRight_333 : decode prog_7_method_13_code 333 = .ok (.iconst 1, 1) := by decide +kernel
theorem smd_M_isRight_334 : decode prog_7_method_13_code 334 = .ok (.goto 4, 3) := by decide +kernel
theorem smd_M_isRight_337 : decode prog_7_method_13_code 337 = .ok (.iconst 0, 1) := by decide +kernel
theorem smd_M_isRight_338 : decode prog_7_method_13_code 338 = .ok (.ireturn, 1) := by decide +kernel
theorem smd_M_isRight_339 : decode prog_7_method_13_code 339 = .ok (.iconst 0, 1) := by decide +kernel
theorem smd_M_isRight_340 : decode prog_7_method_13_code 340 = .ok (.ireturn, 1) := by decide +kernel

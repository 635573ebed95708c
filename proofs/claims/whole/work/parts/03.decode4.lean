theorem dX6_goes_68 : decode cX6_goes 68 = .ok (.istore 5, 2) := by decide +kernel
theorem dX6_goes_70 : decode cX6_goes 70 = .ok (.iload_n 3, 1) := by decide +kernel
theorem dX6_goes_71 : decode cX6_goes 71 = .ok (.ifCond .lt 26, 3) := by decide +kernel
theorem dX6_goes_74 : decode cX6_goes 74 = .ok (.iload_n 3, 1) := by decide +kernel
theorem dX6_goes_75 : decode cX6_goes 75 = .ok (.i2l, 1) := by decide +kernel
theorem dX6_goes_76 : decode cX6_goes 76 = .ok (.iconst 2, 1) := by decide +kernel
theorem dX6_goes_77 : decode cX6_goes 77 = .ok (.iload_n 1, 1) := by decide +kernel
theorem dX6_goes_78 : decode cX6_goes 78 = .ok (.imul, 1) := by decide +kernel
theorem dX6_goes_79 : decode cX6_goes 79 = .ok (.iconst 1, 1) := by decide +kernel
theorem dX6_goes_80 : decode cX6_goes 80 = .ok (.isub, 1) := by decide +kernel
theorem dX6_goes_81 : decode cX6_goes 81 = .ok (.iload 5, 2) := by decide +kernel
theorem dX6_goes_83 : decode cX6_goes 83 = .ok (.imul, 1) := by decide +kernel
theorem dX6_goes_84 : decode cX6_goes 84 = .ok (.i2l, 1) := by decide +kernel
theorem dX6_goes_85 : decode cX6_goes 85 = .ok (.ladd, 1) := by decide +kernel
theorem dX6_goes_86 : decode cX6_goes 86 = .ok (.aload_n 0, 1) := by decide +kernel
theorem dX6_goes_87 : decode cX6_goes 87 = .ok (.getfield 13, 3) := by decide +kernel
theorem dX6_goes_90 : decode cX6_goes 90 = .ok (.iload_n 2, 1) := by decide +kernel
theorem dX6_goes_91 : decode cX6_goes 91 = .ok (.iaload, 1) := by decide +kernel
theorem dX6_goes_92 : decode cX6_goes 92 = .ok (.i2l, 1) := by decide +kernel
theorem dX6_goes_93 : decode cX6_goes 93 = .ok (.lcmp, 1) := by decide +kernel
theorem dX6_goes_94 : decode cX6_goes 94 = .ok (.ifCond .le 9, 3) := by decide +kernel
theorem dX6_goes_97 : decode cX6_goes 97 = .ok (.aload_n 0, 1) := by decide +kernel
theorem dX6_goes_98 : decode cX6_goes 98 = .ok (.iconst 2, 1) := by decide +kernel
theorem dX6_goes_99 : decode cX6_goes 99 = .ok (.invokevirtual 102, 3) := by decide +kernel
theorem dX6_goes_102 : decode cX6_goes 102 = .ok (.ireturn, 1) := by decide +kernel
theorem dX6_goes_103 : decode cX6_goes 103 = .ok (.bipush 64, 2) := by decide +kernel
theorem dX6_goes_105 : decode cX6_goes 105 = .ok (.iload_n 2, 1) := by decide +kernel
theorem dX6_goes_106 : decode cX6_goes 106 = .ok (.imul, 1) := by decide +kernel
theorem dX6_goes_107 : decode cX6_goes 107 = .ok (.iload_n 3, 1) := by decide +kernel
theorem dX6_goes_108 : decode cX6_goes 108 = .ok (.iadd, 1) := by decide +kernel
theorem dX6_goes_109 : decode cX6_goes 109 = .ok (.istore 6, 2) := by decide +kernel
theorem dX6_goes_111 : decode cX6_goes 111 = .ok (.iload 4, 2) := by decide +kernel
theorem dX6_goes_113 : decode cX6_goes 113 = .ok (.istore 7, 2) := by decide +kernel
theorem dX6_goes_115 : decode cX6_goes 115 = .ok (.iconst 0, 1) := by decide +kernel
theorem dX6_goes_116 : decode cX6_goes 116 = .ok (.istore 8, 2) := by decide +kernel
theorem dX6_goes_118 : decode cX6_goes 118 = .ok (.iconst 0, 1) := by decide +kernel
theorem dX6_goes_119 : decode cX6_goes 119 = .ok (.istore 9, 2) := by decide +kernel
theorem dX6_goes_121 : decode cX6_goes 121 = .ok (.iload 9, 2) := by decide +kernel
theorem dX6_goes_123 : decode cX6_goes 123 = .ok (.iload_n 1, 1) := by decide +kernel
theorem dX6_goes_124 : decode cX6_goes 124 = .ok (.if_icmp .ge 107, 3) := by decide +kernel
theorem dX6_goes_127 : decode cX6_goes 127 = .ok (.iconst 1, 1) := by decide +kernel
theorem dX6_goes_128 : decode cX6_goes 128 = .ok (.iload_n 1, 1) := by decide +kernel
theorem dX6_goes_129 : decode cX6_goes 129 = .ok (.iload 9, 2) := by decide +kernel
theorem dX6_goes_131 : decode cX6_goes 131 = .ok (.isub, 1) := by decide +kernel
theorem dX6_goes_132 : decode cX6_goes 132 = .ok (.ishl, 1) := by decide +kernel
theorem dX6_goes_133 : decode cX6_goes 133 = .ok (.istore 10, 2) := by decide +kernel
theorem dX6_goes_135 : decode cX6_goes 135 = .ok (.aload_n 0, 1) := by decide +kernel
theorem dX6_goes_136 : decode cX6_goes 136 = .ok (.getfield 16, 3) := by decide +kernel
theorem dX6_goes_139 : decode cX6_goes 139 = .ok (.iload 6, 2) := by decide +kernel
theorem dX6_goes_141 : decode cX6_goes 141 = .ok (.iload 9, 2) := by decide +kernel
theorem dX6_goes_143 : decode cX6_goes 143 = .ok (.iload 5, 2) := by decide +kernel
theorem dX6_goes_145 : decode cX6_goes 145 = .ok (.imul, 1) := by decide +kernel
theorem dX6_goes_146 : decode cX6_goes 146 = .ok (.iadd, 1) := by decide +kernel
theorem dX6_goes_147 : decode cX6_goes 147 = .ok (.iload 8, 2) := by decide +kernel
theorem dX6_goes_149 : decode cX6_goes 149 = .ok (.iload 10, 2) := by decide +kernel
theorem dX6_goes_151 : decode cX6_goes 151 = .ok (.imul, 1) := by decide +kernel
theorem dX6_goes_152 : decode cX6_goes 152 = .ok (.iconst 2, 1) := by decide +kernel
theorem dX6_goes_153 : decode cX6_goes 153 = .ok (.idiv, 1) := by decide +kernel
theorem dX6_goes_154 : decode cX6_goes 154 = .ok (.iadd, 1) := by decide +kernel
theorem dX6_goes_155 : decode cX6_goes 155 = .ok (.iload 7, 2) := by decide +kernel
theorem dX6_goes_157 : decode cX6_goes 157 = .ok (.iconst 2, 1) := by decide +kernel
theorem dX6_goes_158 : decode cX6_goes 158 = .ok (.idiv, 1) := by decide +kernel
theorem dX6_goes_159 : decode cX6_goes 159 = .ok (.iadd, 1) := by decide +kernel
theorem dX6_goes_160 : decode cX6_goes 160 = .ok (.iaload, 1) := by decide +kernel
theorem dX6_goes_161 : decode cX6_goes 161 = .ok (.ifCond .eq 7, 3) := by decide +kernel
theorem dX6_goes_164 : decode cX6_goes 164 = .ok (.iconst 1, 1) := by decide +kernel
theorem dX6_goes_165 : decode cX6_goes 165 = .ok (.goto 4, 3) := by decide +kernel
theorem dX6_goes_168 : decode cX6_goes 168 = .ok (.iconst 0, 1) := by decide +kernel
theorem dX6_goes_169 : decode cX6_goes 169 = .ok (.istore 11, 2) := by decide +kernel
theorem dX6_goes_171 : decode cX6_goes 171 = .ok (.aload_n 0, 1) := by decide +kernel
theorem dX6_goes_172 : decode cX6_goes 172 = .ok (.getfield 59, 3) := by decide +kernel
theorem dX6_goes_175 : decode cX6_goes 175 = .ok (.iload 9, 2) := by decide +kernel
theorem dX6_goes_177 : decode cX6_goes 177 = .ok (.iload 8, 2) := by decide +kernel
theorem dX6_goes_179 : decode cX6_goes 179 = .ok (.iastore, 1) := by decide +kernel
theorem dX6_goes_180 : decode cX6_goes 180 = .ok (.aload_n 0, 1) := by decide +kernel
theorem dX6_goes_181 : decode cX6_goes 181 = .ok (.getfield 62, 3) := by decide +kernel
theorem dX6_goes_184 : decode cX6_goes 184 = .ok (.iload 9, 2) := by decide +kernel
theorem dX6_goes_186 : decode cX6_goes 186 = .ok (.iload 11, 2) := by decide +kernel
theorem dX6_goes_188 : decode cX6_goes 188 = .ok (.ifCond .eq 12, 3) := by decide +kernel
theorem dX6_goes_191 : decode cX6_goes 191 = .ok (.iconst 1, 1) := by decide +kernel
theorem dX6_goes_192 : decode cX6_goes 192 = .ok (.iload 7, 2) := by decide +kernel
theorem dX6_goes_194 : decode cX6_goes 194 = .ok (.iconst 2, 1) := by decide +kernel
theorem dX6_goes_195 : decode cX6_goes 195 = .ok (.irem, 1) := by decide +kernel
theorem dX6_goes_196 : decode cX6_goes 196 = .ok (.isub, 1) := by decide +kernel
theorem dX6_goes_197 : decode cX6_goes 197 = .ok (.goto 7, 3) := by decide +kernel
theorem dX6_goes_200 : decode cX6_goes 200 = .ok (.iload 7, 2) := by decide +kernel
theorem dX6_goes_202 : decode cX6_goes 202 = .ok (.iconst 2, 1) := by decide +kernel
theorem dX6_goes_203 : decode cX6_goes 203 = .ok (.irem, 1) := by decide +kernel
theorem dX6_goes_204 : decode cX6_goes 204 = .ok (.iastore, 1) := by decide +kernel
theorem dX6_goes_205 : decode cX6_goes 205 = .ok (.iconst 2, 1) := by decide +kernel
theorem dX6_goes_206 : decode cX6_goes 206 = .ok (.iload 8, 2) := by decide +kernel
theorem dX6_goes_208 : decode cX6_goes 208 = .ok (.imul, 1) := by decide +kernel
theorem dX6_goes_209 : decode cX6_goes 209 = .ok (.aload_n 0, 1) := by decide +kernel
theorem dX6_goes_210 : decode cX6_goes 210 = .ok (.getfield 62, 3) := by decide +kernel
theorem dX6_goes_213 : decode cX6_goes 213 = .ok (.iload 9, 2) := by decide +kernel
theorem dX6_goes_215 : decode cX6_goes 215 = .ok (.iaload, 1) := by decide +kernel
theorem dX6_goes_216 : decode cX6_goes 216 = .ok (.iadd, 1) := by decide +kernel
theorem dX6_goes_217 : decode cX6_goes 217 = .ok (.istore 8, 2) := by decide +kernel
theorem dX6_goes_219 : decode cX6_goes 219 = .ok (.iload 7, 2) := by decide +kernel
theorem dX6_goes_221 : decode cX6_goes 221 = .ok (.iconst 2, 1) := by decide +kernel
theorem dX6_goes_222 : decode cX6_goes 222 = .ok (.idiv, 1) := by decide +kernel
theorem dX6_goes_223 : decode cX6_goes 223 = .ok (.istore 7, 2) := by decide +kernel
theorem dX6_goes_225 : decode cX6_goes 225 = .ok (.iinc 9 1, 3) := by decide +kernel
theorem dX6_goes_228 : decode cX6_goes 228 = .ok (.goto (-107), 3) := by decide +kernel
theorem dX6_goes_231 : decode cX6_goes 231 = .ok (.aload_n 0, 1) := by decide +kernel
theorem dX6_goes_232 : decode cX6_goes 232 = .ok (.getfield 62, 3) := by decide +kernel
theorem dX6_goes_235 : decode cX6_goes 235 = .ok (.iload_n 1, 1) := by decide +kernel
theorem dX6_goes_236 : decode cX6_goes 236 = .ok (.iconst 1, 1) := by decide +kernel
theorem dX6_goes_237 : decode cX6_goes 237 = .ok (.isub, 1) := by decide +kernel
theorem dX6_goes_238 : decode cX6_goes 238 = .ok (.iaload, 1) := by decide +kernel
theorem dX6_goes_239 : decode cX6_goes 239 = .ok (.istore 7, 2) := by decide +kernel
theorem dX6_goes_241 : decode cX6_goes 241 = .ok (.iload_n 1, 1) := by decide +kernel
theorem dX6_goes_242 : decode cX6_goes 242 = .ok (.iconst 2, 1) := by decide +kernel
theorem dX6_goes_243 : decode cX6_goes 243 = .ok (.isub, 1) := by decide +kernel
theorem dX6_goes_244 : decode cX6_goes 244 = .ok (.istore 9, 2) := by decide +kernel
theorem dX6_goes_246 : decode cX6_goes 246 = .ok (.iload 9, 2) := by decide +kernel
theorem dX6_goes_248 : decode cX6_goes 248 = .ok (.ifCond .lt 93, 3) := by decide +kernel
theorem dX6_goes_251 : decode cX6_goes 251 = .ok (.iconst 1, 1) := by decide +kernel
theorem dX6_goes_252 : decode cX6_goes 252 = .ok (.iload_n 1, 1) := by decide +kernel
theorem dX6_goes_253 : decode cX6_goes 253 = .ok (.iload 9, 2) := by decide +kernel
theorem dX6_goes_255 : decode cX6_goes 255 = .ok (.isub, 1) := by decide +kernel
theorem dX6_goes_256 : decode cX6_goes 256 = .ok (.ishl, 1) := by decide +kernel
theorem dX6_goes_257 : decode cX6_goes 257 = .ok (.istore 10, 2) := by decide +kernel
theorem dX6_goes_259 : decode cX6_goes 259 = .ok (.aload_n 0, 1) := by decide +kernel
theorem dX6_goes_260 : decode cX6_goes 260 = .ok (.getfield 16, 3) := by decide +kernel
theorem dX6_goes_263 : decode cX6_goes 263 = .ok (.iload 6, 2) := by decide +kernel
theorem dX6_goes_265 : decode cX6_goes 265 = .ok (.iconst 2, 1) := by decide +kernel
theorem dX6_goes_266 : decode cX6_goes 266 = .ok (.iload_n 1, 1) := by decide +kernel
theorem dX6_goes_267 : decode cX6_goes 267 = .ok (.imul, 1) := by decide +kernel
theorem dX6_goes_268 : decode cX6_goes 268 = .ok (.iconst 2, 1) := by decide +kernel
theorem dX6_goes_269 : decode cX6_goes 269 = .ok (.isub, 1) := by decide +kernel
theorem dX6_goes_270 : decode cX6_goes 270 = .ok (.iload 9, 2) := by decide +kernel
theorem dX6_goes_272 : decode cX6_goes 272 = .ok (.isub, 1) := by decide +kernel
theorem dX6_goes_273 : decode cX6_goes 273 = .ok (.iload 5, 2) := by decide +kernel
theorem dX6_goes_275 : decode cX6_goes 275 = .ok (.imul, 1) := by decide +kernel
theorem dX6_goes_276 : decode cX6_goes 276 = .ok (.iadd, 1) := by decide +kernel
theorem dX6_goes_277 : decode cX6_goes 277 = .ok (.aload_n 0, 1) := by decide +kernel
theorem dX6_goes_278 : decode cX6_goes 278 = .ok (.getfield 59, 3) := by decide +kernel
theorem dX6_goes_281 : decode cX6_goes 281 = .ok (.iload 9, 2) := by decide +kernel
theorem dX6_goes_283 : decode cX6_goes 283 = .ok (.iaload, 1) := by decide +kernel
theorem dX6_goes_284 : decode cX6_goes 284 = .ok (.iload 10, 2) := by decide +kernel
theorem dX6_goes_286 : decode cX6_goes 286 = .ok (.imul, 1) := by decide +kernel
theorem dX6_goes_287 : decode cX6_goes 287 = .ok (.iconst 2, 1) := by decide +kernel
theorem dX6_goes_288 : decode cX6_goes 288 = .ok (.idiv, 1) := by decide +kernel
theorem dX6_goes_289 : decode cX6_goes 289 = .ok (.iadd, 1) := by decide +kernel
theorem dX6_goes_290 : decode cX6_goes 290 = .ok (.iload 7, 2) := by decide +kernel
theorem dX6_goes_292 : decode cX6_goes 292 = .ok (.iadd, 1) := by decide +kernel
theorem dX6_goes_293 : decode cX6_goes 293 = .ok (.iaload, 1) := by decide +kernel
theorem dX6_goes_294 : decode cX6_goes 294 = .ok (.ifCond .eq 7, 3) := by decide +kernel
theorem dX6_goes_297 : decode cX6_goes 297 = .ok (.iconst 1, 1) := by decide +kernel
theorem dX6_goes_298 : decode cX6_goes 298 = .ok (.goto 4, 3) := by decide +kernel
theorem dX6_goes_301 : decode cX6_goes 301 = .ok (.iconst 0, 1) := by decide +kernel
theorem dX6_goes_302 : decode cX6_goes 302 = .ok (.istore 11, 2) := by decide +kernel
theorem dX6_goes_304 : decode cX6_goes 304 = .ok (.iconst 2, 1) := by decide +kernel
theorem dX6_goes_305 : decode cX6_goes 305 = .ok (.iload 7, 2) := by decide +kernel
theorem dX6_goes_307 : decode cX6_goes 307 = .ok (.imul, 1) := by decide +kernel
theorem dX6_goes_308 : decode cX6_goes 308 = .ok (.iload 11, 2) := by decide +kernel
theorem dX6_goes_310 : decode cX6_goes 310 = .ok (.ifCond .eq 15, 3) := by decide +kernel
theorem dX6_goes_313 : decode cX6_goes 313 = .ok (.iconst 1, 1) := by decide +kernel
theorem dX6_goes_314 : decode cX6_goes 314 = .ok (.aload_n 0, 1) := by decide +kernel
theorem dX6_goes_315 : decode cX6_goes 315 = .ok (.getfield 62, 3) := by decide +kernel
theorem dX6_goes_318 : decode cX6_goes 318 = .ok (.iload 9, 2) := by decide +kernel
theorem dX6_goes_320 : decode cX6_goes 320 = .ok (.iaload, 1) := by decide +kernel
theorem dX6_goes_321 : decode cX6_goes 321 = .ok (.isub, 1) := by decide +kernel
theorem dX6_goes_322 : decode cX6_goes 322 = .ok (.goto 10, 3) := by decide +kernel
theorem dX6_goes_325 : decode cX6_goes 325 = .ok (.aload_n 0, 1) := by decide +kernel
theorem dX6_goes_326 : decode cX6_goes 326 = .ok (.getfield 62, 3) := by decide +kernel
theorem dX6_goes_329 : decode cX6_goes 329 = .ok (.iload 9, 2) := by decide +kernel
theorem dX6_goes_331 : decode cX6_goes 331 = .ok (.iaload, 1) := by decide +kernel
theorem dX6_goes_332 : decode cX6_goes 332 = .ok (.iadd, 1) := by decide +kernel
theorem dX6_goes_333 : decode cX6_goes 333 = .ok (.istore 7, 2) := by decide +kernel
theorem dX6_goes_335 : decode cX6_goes 335 = .ok (.iinc 9 (-1), 3) := by decide +kernel
theorem dX6_goes_338 : decode cX6_goes 338 = .ok (.goto (-92), 3) := by decide +kernel
theorem dX6_goes_341 : decode cX6_goes 341 = .ok (.iload 7, 2) := by decide +kernel
theorem dX6_goes_343 : decode cX6_goes 343 = .ok (.ireturn, 1) := by decide +kernel
theorem dX6_next_0 : decode cX6_next 0 = .ok (.iload_n 1, 1) := by decide +kernel
theorem dX6_next_1 : decode cX6_next 1 = .ok (.iconst 2, 1) := by decide +kernel
theorem dX6_next_2 : decode cX6_next 2 = .ok (.isub, 1) := by decide +kernel
theorem dX6_next_3 : decode cX6_next 3 = .ok (.istore_n 2, 1) := by decide +kernel
theorem dX6_next_4 : decode cX6_next 4 = .ok (.iload_n 2, 1) := by decide +kernel
theorem dX6_next_5 : decode cX6_next 5 = .ok (.ifCond .lt 26, 3) := by decide +kernel
theorem dX6_next_8 : decode cX6_next 8 = .ok (.aload_n 0, 1) := by decide +kernel
theorem dX6_next_9 : decode cX6_next 9 = .ok (.getfield 74, 3) := by decide +kernel
theorem dX6_next_12 : decode cX6_next 12 = .ok (.iload_n 2, 1) := by decide +kernel
theorem dX6_next_13 : decode cX6_next 13 = .ok (.iaload, 1) := by decide +kernel
theorem dX6_next_14 : decode cX6_next 14 = .ok (.aload_n 0, 1) := by decide +kernel
theorem dX6_next_15 : decode cX6_next 15 = .ok (.getfield 74, 3) := by decide +kernel
theorem dX6_next_18 : decode cX6_next 18 = .ok (.iload_n 2, 1) := by decide +kernel
theorem dX6_next_19 : decode cX6_next 19 = .ok (.iconst 1, 1) := by decide +kernel
theorem dX6_next_20 : decode cX6_next 20 = .ok (.iadd, 1) := by decide +kernel
theorem dX6_next_21 : decode cX6_next 21 = .ok (.iaload, 1) := by decide +kernel
theorem dX6_next_22 : decode cX6_next 22 = .ok (.if_icmp .le 9, 3) := by decide +kernel
theorem dX6_next_25 : decode cX6_next 25 = .ok (.iinc 2 (-1), 3) := by decide +kernel
theorem dX6_next_28 : decode cX6_next 28 = .ok (.goto (-24), 3) := by decide +kernel
theorem dX6_next_31 : decode cX6_next 31 = .ok (.iload_n 2, 1) := by decide +kernel
theorem dX6_next_32 : decode cX6_next 32 = .ok (.ifCond .ge 5, 3) := by decide +kernel
theorem dX6_next_35 : decode cX6_next 35 = .ok (.iconst 0, 1) := by decide +kernel
theorem dX6_next_36 : decode cX6_next 36 = .ok (.ireturn, 1) := by decide +kernel
theorem dX6_next_37 : decode cX6_next 37 = .ok (.iload_n 1, 1) := by decide +kernel
theorem dX6_next_38 : decode cX6_next 38 = .ok (.iconst 1, 1) := by decide +kernel
theorem dX6_next_39 : decode cX6_next 39 = .ok (.isub, 1) := by decide +kernel
theorem dX6_next_40 : decode cX6_next 40 = .ok (.istore_n 3, 1) := by decide +kernel
theorem dX6_next_41 : decode cX6_next 41 = .ok (.aload_n 0, 1) := by decide +kernel
theorem dX6_next_42 : decode cX6_next 42 = .ok (.getfield 74, 3) := by decide +kernel
theorem dX6_next_45 : decode cX6_next 45 = .ok (.iload_n 3, 1) := by decide +kernel
theorem dX6_next_46 : decode cX6_next 46 = .ok (.iaload, 1) := by decide +kernel
theorem dX6_next_47 : decode cX6_next 47 = .ok (.aload_n 0, 1) := by decide +kernel
theorem dX6_next_48 : decode cX6_next 48 = .ok (.getfield 74, 3) := by decide +kernel
theorem dX6_next_51 : decode cX6_next 51 = .ok (.iload_n 2, 1) := by decide +kernel
theorem dX6_next_52 : decode cX6_next 52 = .ok (.iaload, 1) := by decide +kernel
theorem dX6_next_53 : decode cX6_next 53 = .ok (.if_icmp .ge 9, 3) := by decide +kernel
theorem dX6_next_56 : decode cX6_next 56 = .ok (.iinc 3 (-1), 3) := by decide +kernel
theorem dX6_next_59 : decode cX6_next 59 = .ok (.goto (-18), 3) := by decide +kernel
theorem dX6_next_62 : decode cX6_next 62 = .ok (.aload_n 0, 1) := by decide +kernel
theorem dX6_next_63 : decode cX6_next 63 = .ok (.getfield 74, 3) := by decide +kernel
theorem dX6_next_66 : decode cX6_next 66 = .ok (.iload_n 2, 1) := by decide +kernel
theorem dX6_next_67 : decode cX6_next 67 = .ok (.iaload, 1) := by decide +kernel
theorem dX6_next_68 : decode cX6_next 68 = .ok (.istore 4, 2) := by decide +kernel
theorem dX6_next_70 : decode cX6_next 70 = .ok (.aload_n 0, 1) := by decide +kernel
theorem dX6_next_71 : decode cX6_next 71 = .ok (.getfield 74, 3) := by decide +kernel
theorem dX6_next_74 : decode cX6_next 74 = .ok (.iload_n 2, 1) := by decide +kernel
theorem dX6_next_75 : decode cX6_next 75 = .ok (.aload_n 0, 1) := by decide +kernel
theorem dX6_next_76 : decode cX6_next 76 = .ok (.getfield 74, 3) := by decide +kernel
theorem dX6_next_79 : decode cX6_next 79 = .ok (.iload_n 3, 1) := by decide +kernel
theorem dX6_next_80 : decode cX6_next 80 = .ok (.iaload, 1) := by decide +kernel
theorem dX6_next_81 : decode cX6_next 81 = .ok (.iastore, 1) := by decide +kernel
theorem dX6_next_82 : decode cX6_next 82 = .ok (.aload_n 0, 1) := by decide +kernel
theorem dX6_next_83 : decode cX6_next 83 = .ok (.getfield 74, 3) := by decide +kernel
theorem dX6_next_86 : decode cX6_next 86 = .ok (.iload_n 3, 1) := by decide +kernel
theorem dX6_next_87 : decode cX6_next 87 = .ok (.iload 4, 2) := by decide +kernel
theorem dX6_next_89 : decode cX6_next 89 = .ok (.iastore, 1) := by decide +kernel
theorem dX6_next_90 : decode cX6_next 90 = .ok (.iload_n 2, 1) := by decide +kernel
theorem dX6_next_91 : decode cX6_next 91 = .ok (.iconst 1, 1) := by decide +kernel
theorem dX6_next_92 : decode cX6_next 92 = .ok (.iadd, 1) := by decide +kernel
theorem dX6_next_93 : decode cX6_next 93 = .ok (.istore 5, 2) := by decide +kernel
theorem dX6_next_95 : decode cX6_next 95 = .ok (.iload_n 1, 1) := by decide +kernel
theorem dX6_next_96 : decode cX6_next 96 = .ok (.iconst 1, 1) := by decide +kernel
theorem dX6_next_97 : decode cX6_next 97 = .ok (.isub, 1) := by decide +kernel
theorem dX6_next_98 : decode cX6_next 98 = .ok (.istore 6, 2) := by decide +kernel
theorem dX6_next_100 : decode cX6_next 100 = .ok (.iload 5, 2) := by decide +kernel
theorem dX6_next_102 : decode cX6_next 102 = .ok (.iload 6, 2) := by decide +kernel
theorem dX6_next_104 : decode cX6_next 104 = .ok (.if_icmp .ge 44, 3) := by decide +kernel
theorem dX6_next_107 : decode cX6_next 107 = .ok (.aload_n 0, 1) := by decide +kernel
theorem dX6_next_108 : decode cX6_next 108 = .ok (.getfield 74, 3) := by decide +kernel
theorem dX6_next_111 : decode cX6_next 111 = .ok (.iload 5, 2) := by decide +kernel
theorem dX6_next_113 : decode cX6_next 113 = .ok (.iaload, 1) := by decide +kernel
theorem dX6_next_114 : decode cX6_next 114 = .ok (.istore 4, 2) := by decide +kernel
theorem dX6_next_116 : decode cX6_next 116 = .ok (.aload_n 0, 1) := by decide +kernel
theorem dX6_next_117 : decode cX6_next 117 = .ok (.getfield 74, 3) := by decide +kernel
theorem dX6_next_120 : decode cX6_next 120 = .ok (.iload 5, 2) := by decide +kernel
theorem dX6_next_122 : decode cX6_next 122 = .ok (.aload_n 0, 1) := by decide +kernel
theorem dX6_next_123 : decode cX6_next 123 = .ok (.getfield 74, 3) := by decide +kernel
theorem dX6_next_126 : decode cX6_next 126 = .ok (.iload 6, 2) := by decide +kernel
theorem dX6_next_128 : decode cX6_next 128 = .ok (.iaload, 1) := by decide +kernel
theorem dX6_next_129 : decode cX6_next 129 = .ok (.iastore, 1) := by decide +kernel
theorem dX6_next_130 : decode cX6_next 130 = .ok (.aload_n 0, 1) := by decide +kernel
theorem dX6_next_131 : decode cX6_next 131 = .ok (.getfield 74, 3) := by decide +kernel
theorem dX6_next_134 : decode cX6_next 134 = .ok (.iload 6, 2) := by decide +kernel
theorem dX6_next_136 : decode cX6_next 136 = .ok (.iload 4, 2) := by decide +kernel
theorem dX6_next_138 : decode cX6_next 138 = .ok (.iastore, 1) := by decide +kernel
theorem dX6_next_139 : decode cX6_next 139 = .ok (.iinc 5 1, 3) := by decide +kernel
theorem dX6_next_142 : decode cX6_next 142 = .ok (.iinc 6 (-1), 3) := by decide +kernel
theorem dX6_next_145 : decode cX6_next 145 = .ok (.goto (-45), 3) := by decide +kernel
theorem dX6_next_148 : decode cX6_next 148 = .ok (.iconst 1, 1) := by decide +kernel
theorem dX6_next_149 : decode cX6_next 149 = .ok (.ireturn, 1) := by decide +kernel
theorem dX6_leastBy_0 : decode cX6_leastBy 0 = .ok (.ldc 194, 2) := by decide +kernel
theorem dX6_leastBy_2 : decode cX6_leastBy 2 = .ok (.istore_n 2, 1) := by decide +kernel
theorem dX6_leastBy_3 : decode cX6_leastBy 3 = .ok (.iconst 0, 1) := by decide +kernel
theorem dX6_leastBy_4 : decode cX6_leastBy 4 = .ok (.istore_n 3, 1) := by decide +kernel
theorem dX6_leastBy_5 : decode cX6_leastBy 5 = .ok (.iload_n 3, 1) := by decide +kernel
theorem dX6_leastBy_6 : decode cX6_leastBy 6 = .ok (.iload_n 1, 1) := by decide +kernel
theorem dX6_leastBy_7 : decode cX6_leastBy 7 = .ok (.if_icmp .ge 50, 3) := by decide +kernel
theorem dX6_leastBy_10 : decode cX6_leastBy 10 = .ok (.aload_n 0, 1) := by decide +kernel
theorem dX6_leastBy_11 : decode cX6_leastBy 11 = .ok (.getfield 65, 3) := by decide +kernel
theorem dX6_leastBy_14 : decode cX6_leastBy 14 = .ok (.bipush 6, 2) := by decide +kernel
theorem dX6_leastBy_16 : decode cX6_leastBy 16 = .ok (.iload_n 3, 1) := by decide +kernel
theorem dX6_leastBy_17 : decode cX6_leastBy 17 = .ok (.imul, 1) := by decide +kernel
theorem dX6_leastBy_18 : decode cX6_leastBy 18 = .ok (.aload_n 0, 1) := by decide +kernel
theorem dX6_leastBy_19 : decode cX6_leastBy 19 = .ok (.getfield 74, 3) := by decide +kernel
theorem dX6_leastBy_22 : decode cX6_leastBy 22 = .ok (.iload_n 3, 1) := by decide +kernel
theorem dX6_leastBy_23 : decode cX6_leastBy 23 = .ok (.iaload, 1) := by decide +kernel
theorem dX6_leastBy_24 : decode cX6_leastBy 24 = .ok (.iadd, 1) := by decide +kernel
theorem dX6_leastBy_25 : decode cX6_leastBy 25 = .ok (.iaload, 1) := by decide +kernel
theorem dX6_leastBy_26 : decode cX6_leastBy 26 = .ok (.iload_n 2, 1) := by decide +kernel
theorem dX6_leastBy_27 : decode cX6_leastBy 27 = .ok (.if_icmp .ge 22, 3) := by decide +kernel
theorem dX6_leastBy_30 : decode cX6_leastBy 30 = .ok (.aload_n 0, 1) := by decide +kernel
theorem dX6_leastBy_31 : decode cX6_leastBy 31 = .ok (.getfield 65, 3) := by decide +kernel
theorem dX6_leastBy_34 : decode cX6_leastBy 34 = .ok (.bipush 6, 2) := by decide +kernel
theorem dX6_leastBy_36 : decode cX6_leastBy 36 = .ok (.iload_n 3, 1) := by decide +kernel
theorem dX6_leastBy_37 : decode cX6_leastBy 37 = .ok (.imul, 1) := by decide +kernel
theorem dX6_leastBy_38 : decode cX6_leastBy 38 = .ok (.aload_n 0, 1) := by decide +kernel
theorem dX6_leastBy_39 : decode cX6_leastBy 39 = .ok (.getfield 74, 3) := by decide +kernel
theorem dX6_leastBy_42 : decode cX6_leastBy 42 = .ok (.iload_n 3, 1) := by decide +kernel
theorem dX6_leastBy_43 : decode cX6_leastBy 43 = .ok (.iaload, 1) := by decide +kernel
theorem dX6_leastBy_44 : decode cX6_leastBy 44 = .ok (.iadd, 1) := by decide +kernel
theorem dX6_leastBy_45 : decode cX6_leastBy 45 = .ok (.iaload, 1) := by decide +kernel
theorem dX6_leastBy_46 : decode cX6_leastBy 46 = .ok (.goto 4, 3) := by decide +kernel
theorem dX6_leastBy_49 : decode cX6_leastBy 49 = .ok (.iload_n 2, 1) := by decide +kernel
theorem dX6_leastBy_50 : decode cX6_leastBy 50 = .ok (.istore_n 2, 1) := by decide +kernel
theorem dX6_leastBy_51 : decode cX6_leastBy 51 = .ok (.iinc 3 1, 3) := by decide +kernel
theorem dX6_leastBy_54 : decode cX6_leastBy 54 = .ok (.goto (-49), 3) := by decide +kernel
theorem dX6_leastBy_57 : decode cX6_leastBy 57 = .ok (.iload_n 2, 1) := by decide +kernel
theorem dX6_leastBy_58 : decode cX6_leastBy 58 = .ok (.ireturn, 1) := by decide +kernel
set_option maxRecDepth 20000 in
theorem ggX6_findParts_X6_leastBy : GoodIn wsX6_findParts wsX6_leastBy := goodIn_r _ [10, 11, 4, 2, 16, 17, 18, 19, 20, 21, 22, 23, 24, 25, 26, 27, 28, 29, 30, 31, 32, 33, 34, 35, 36, 37, 38, 39, 40, 41, 42, 43, 44, 45] (by decide +kernel) (by decide +kernel)
set_option maxRecDepth 20000 in
theorem gX6_findParts_X6_leastBy : GoodIn wsX6_findParts (wsV RX6 198 RX6 yX6_leastBy wsX6_leastBy) := goodIn_app (goodIn_of _ (by decide +kernel)) ggX6_findParts_X6_leastBy
set_option maxRecDepth 20000 in
theorem ggX6_findParts_X6_next : GoodIn wsX6_findParts wsX6_next := goodIn_r _ [15, 2, 16, 17, 18, 19, 20, 21, 22, 23, 24, 25, 26, 27, 28, 29, 30, 31, 32, 33, 34, 35, 36, 37, 38, 39, 40, 41, 42, 43, 44, 45] (by decide +kernel) (by decide +kernel)
set_option maxRecDepth 20000 in
theorem gX6_findParts_X6_next : GoodIn wsX6_findParts (wsV RX6 201 RX6 yX6_next wsX6_next) := goodIn_app (goodIn_of _ (by decide +kernel)) ggX6_findParts_X6_next
theorem dX6_findParts_0 : decode cX6_findParts 0 = .ok (.aload_n 0, 1) := by decide +kernel
theorem dX6_findParts_1 : decode cX6_findParts 1 = .ok (.iconst 0, 1) := by decide +kernel
theorem dX6_findParts_2 : decode cX6_findParts 2 = .ok (.putfield 195, 3) := by decide +kernel
theorem dX6_findParts_5 : decode cX6_findParts 5 = .ok (.iload_n 2, 1) := by decide +kernel
theorem dX6_findParts_6 : decode cX6_findParts 6 = .ok (.istore_n 3, 1) := by decide +kernel
theorem dX6_findParts_7 : decode cX6_findParts 7 = .ok (.iload_n 3, 1) := by decide +kernel
theorem dX6_findParts_8 : decode cX6_findParts 8 = .ok (.ifCond .le 169, 3) := by decide +kernel
theorem dX6_findParts_11 : decode cX6_findParts 11 = .ok (.iconst 0, 1) := by decide +kernel
theorem dX6_findParts_12 : decode cX6_findParts 12 = .ok (.istore 4, 2) := by decide +kernel
theorem dX6_findParts_14 : decode cX6_findParts 14 = .ok (.iload 4, 2) := by decide +kernel
theorem dX6_findParts_16 : decode cX6_findParts 16 = .ok (.iload_n 1, 1) := by decide +kernel
theorem dX6_findParts_17 : decode cX6_findParts 17 = .ok (.if_icmp .ge 18, 3) := by decide +kernel
theorem dX6_findParts_20 : decode cX6_findParts 20 = .ok (.aload_n 0, 1) := by decide +kernel
theorem dX6_findParts_21 : decode cX6_findParts 21 = .ok (.getfield 74, 3) := by decide +kernel
theorem dX6_findParts_24 : decode cX6_findParts 24 = .ok (.iload 4, 2) := by decide +kernel
theorem dX6_findParts_26 : decode cX6_findParts 26 = .ok (.iload 4, 2) := by decide +kernel
theorem dX6_findParts_28 : decode cX6_findParts 28 = .ok (.iastore, 1) := by decide +kernel
theorem dX6_findParts_29 : decode cX6_findParts 29 = .ok (.iinc 4 1, 3) := by decide +kernel
theorem dX6_findParts_32 : decode cX6_findParts 32 = .ok (.goto (-18), 3) := by decide +kernel
theorem dX6_findParts_35 : decode cX6_findParts 35 = .ok (.aload_n 0, 1) := by decide +kernel
theorem dX6_findParts_36 : decode cX6_findParts 36 = .ok (.iload_n 1, 1) := by decide +kernel
theorem dX6_findParts_37 : decode cX6_findParts 37 = .ok (.invokevirtual 198, 3) := by decide +kernel
theorem dX6_findParts_40 : decode cX6_findParts 40 = .ok (.ifCond .ne 7, 3) := by decide +kernel
theorem dX6_findParts_43 : decode cX6_findParts 43 = .ok (.iconst 1, 1) := by decide +kernel
theorem dX6_findParts_44 : decode cX6_findParts 44 = .ok (.goto 4, 3) := by decide +kernel
theorem dX6_findParts_47 : decode cX6_findParts 47 = .ok (.iconst 0, 1) := by decide +kernel
theorem dX6_findParts_48 : decode cX6_findParts 48 = .ok (.istore 4, 2) := by decide +kernel
theorem dX6_findParts_50 : decode cX6_findParts 50 = .ok (.iload 4, 2) := by decide +kernel
theorem dX6_findParts_52 : decode cX6_findParts 52 = .ok (.ifCond .eq 29, 3) := by decide +kernel
theorem dX6_findParts_55 : decode cX6_findParts 55 = .ok (.aload_n 0, 1) := by decide +kernel
theorem dX6_findParts_56 : decode cX6_findParts 56 = .ok (.iload_n 1, 1) := by decide +kernel
theorem dX6_findParts_57 : decode cX6_findParts 57 = .ok (.invokevirtual 201, 3) := by decide +kernel
theorem dX6_findParts_60 : decode cX6_findParts 60 = .ok (.ifCond .eq 15, 3) := by decide +kernel
theorem dX6_findParts_63 : decode cX6_findParts 63 = .ok (.aload_n 0, 1) := by decide +kernel
theorem dX6_findParts_64 : decode cX6_findParts 64 = .ok (.iload_n 1, 1) := by decide +kernel
theorem dX6_findParts_65 : decode cX6_findParts 65 = .ok (.invokevirtual 198, 3) := by decide +kernel
theorem dX6_findParts_68 : decode cX6_findParts 68 = .ok (.ifCond .ne 7, 3) := by decide +kernel
theorem dX6_findParts_71 : decode cX6_findParts 71 = .ok (.iconst 1, 1) := by decide +kernel
theorem dX6_findParts_72 : decode cX6_findParts 72 = .ok (.goto 4, 3) := by decide +kernel
theorem dX6_findParts_75 : decode cX6_findParts 75 = .ok (.iconst 0, 1) := by decide +kernel
theorem dX6_findParts_76 : decode cX6_findParts 76 = .ok (.istore 4, 2) := by decide +kernel
theorem dX6_findParts_78 : decode cX6_findParts 78 = .ok (.goto (-28), 3) := by decide +kernel
theorem dX6_findParts_81 : decode cX6_findParts 81 = .ok (.aload_n 0, 1) := by decide +kernel
theorem dX6_findParts_82 : decode cX6_findParts 82 = .ok (.iload_n 1, 1) := by decide +kernel
theorem dX6_findParts_83 : decode cX6_findParts 83 = .ok (.invokevirtual 198, 3) := by decide +kernel
theorem dX6_findParts_86 : decode cX6_findParts 86 = .ok (.istore 5, 2) := by decide +kernel
theorem dX6_findParts_88 : decode cX6_findParts 88 = .ok (.iconst 0, 1) := by decide +kernel
theorem dX6_findParts_89 : decode cX6_findParts 89 = .ok (.istore 6, 2) := by decide +kernel
theorem dX6_findParts_91 : decode cX6_findParts 91 = .ok (.iload 6, 2) := by decide +kernel
theorem dX6_findParts_93 : decode cX6_findParts 93 = .ok (.iload_n 1, 1) := by decide +kernel
theorem dX6_findParts_94 : decode cX6_findParts 94 = .ok (.if_icmp .ge 54, 3) := by decide +kernel
theorem dX6_findParts_97 : decode cX6_findParts 97 = .ok (.aload_n 0, 1) := by decide +kernel
theorem dX6_findParts_98 : decode cX6_findParts 98 = .ok (.getfield 68, 3) := by decide +kernel
theorem dX6_findParts_101 : decode cX6_findParts 101 = .ok (.bipush 6, 2) := by decide +kernel
theorem dX6_findParts_103 : decode cX6_findParts 103 = .ok (.aload_n 0, 1) := by decide +kernel
theorem dX6_findParts_104 : decode cX6_findParts 104 = .ok (.getfield 195, 3) := by decide +kernel
theorem dX6_findParts_107 : decode cX6_findParts 107 = .ok (.imul, 1) := by decide +kernel
theorem dX6_findParts_108 : decode cX6_findParts 108 = .ok (.iload 6, 2) := by decide +kernel
theorem dX6_findParts_110 : decode cX6_findParts 110 = .ok (.iadd, 1) := by decide +kernel
theorem dX6_findParts_111 : decode cX6_findParts 111 = .ok (.aload_n 0, 1) := by decide +kernel
theorem dX6_findParts_112 : decode cX6_findParts 112 = .ok (.getfield 74, 3) := by decide +kernel
theorem dX6_findParts_115 : decode cX6_findParts 115 = .ok (.iload 6, 2) := by decide +kernel
theorem dX6_findParts_117 : decode cX6_findParts 117 = .ok (.iaload, 1) := by decide +kernel
theorem dX6_findParts_118 : decode cX6_findParts 118 = .ok (.iastore, 1) := by decide +kernel
theorem dX6_findParts_119 : decode cX6_findParts 119 = .ok (.aload_n 0, 1) := by decide +kernel
theorem dX6_findParts_120 : decode cX6_findParts 120 = .ok (.getfield 65, 3) := by decide +kernel
theorem dX6_findParts_123 : decode cX6_findParts 123 = .ok (.bipush 6, 2) := by decide +kernel
theorem dX6_findParts_125 : decode cX6_findParts 125 = .ok (.iload 6, 2) := by decide +kernel
theorem dX6_findParts_127 : decode cX6_findParts 127 = .ok (.imul, 1) := by decide +kernel
theorem dX6_findParts_128 : decode cX6_findParts 128 = .ok (.aload_n 0, 1) := by decide +kernel
theorem dX6_findParts_129 : decode cX6_findParts 129 = .ok (.getfield 74, 3) := by decide +kernel
theorem dX6_findParts_132 : decode cX6_findParts 132 = .ok (.iload 6, 2) := by decide +kernel
theorem dX6_findParts_134 : decode cX6_findParts 134 = .ok (.iaload, 1) := by decide +kernel
theorem dX6_findParts_135 : decode cX6_findParts 135 = .ok (.iadd, 1) := by decide +kernel
theorem dX6_findParts_136 : decode cX6_findParts 136 = .ok (.dup2, 1) := by decide +kernel
theorem dX6_findParts_137 : decode cX6_findParts 137 = .ok (.iaload, 1) := by decide +kernel
theorem dX6_findParts_138 : decode cX6_findParts 138 = .ok (.iload 5, 2) := by decide +kernel
theorem dX6_findParts_140 : decode cX6_findParts 140 = .ok (.isub, 1) := by decide +kernel
theorem dX6_findParts_141 : decode cX6_findParts 141 = .ok (.iastore, 1) := by decide +kernel
theorem dX6_findParts_142 : decode cX6_findParts 142 = .ok (.iinc 6 1, 3) := by decide +kernel
theorem dX6_findParts_145 : decode cX6_findParts 145 = .ok (.goto (-54), 3) := by decide +kernel
theorem dX6_findParts_148 : decode cX6_findParts 148 = .ok (.aload_n 0, 1) := by decide +kernel
theorem dX6_findParts_149 : decode cX6_findParts 149 = .ok (.getfield 71, 3) := by decide +kernel
theorem dX6_findParts_152 : decode cX6_findParts 152 = .ok (.aload_n 0, 1) := by decide +kernel
theorem dX6_findParts_153 : decode cX6_findParts 153 = .ok (.getfield 195, 3) := by decide +kernel
theorem dX6_findParts_156 : decode cX6_findParts 156 = .ok (.iload 5, 2) := by decide +kernel
theorem dX6_findParts_158 : decode cX6_findParts 158 = .ok (.iastore, 1) := by decide +kernel
theorem dX6_findParts_159 : decode cX6_findParts 159 = .ok (.aload_n 0, 1) := by decide +kernel
theorem dX6_findParts_160 : decode cX6_findParts 160 = .ok (.dup, 1) := by decide +kernel
theorem dX6_findParts_161 : decode cX6_findParts 161 = .ok (.getfield 195, 3) := by decide +kernel
theorem dX6_findParts_164 : decode cX6_findParts 164 = .ok (.iconst 1, 1) := by decide +kernel
theorem dX6_findParts_165 : decode cX6_findParts 165 = .ok (.iadd, 1) := by decide +kernel
theorem dX6_findParts_166 : decode cX6_findParts 166 = .ok (.putfield 195, 3) := by decide +kernel
theorem dX6_findParts_169 : decode cX6_findParts 169 = .ok (.iload_n 3, 1) := by decide +kernel
theorem dX6_findParts_170 : decode cX6_findParts 170 = .ok (.iload 5, 2) := by decide +kernel
theorem dX6_findParts_172 : decode cX6_findParts 172 = .ok (.isub, 1) := by decide +kernel
theorem dX6_findParts_173 : decode cX6_findParts 173 = .ok (.istore_n 3, 1) := by decide +kernel
theorem dX6_findParts_174 : decode cX6_findParts 174 = .ok (.goto (-167), 3) := by decide +kernel
theorem dX6_findParts_177 : decode cX6_findParts 177 = .ok (.return_, 1) := by decide +kernel
set_option maxRecDepth 20000 in
theorem ggX6_demand_X6_isSheet : GoodIn wsX6_demand wsX6_isSheet := goodIn_r _ [18, 19, 20, 21, 17, 22] (by decide +kernel) (by decide +kernel)
set_option maxRecDepth 20000 in
theorem gX6_demand_X6_isSheet : GoodIn wsX6_demand (va_wsS RX6 95 yX6_isSheet wsX6_isSheet) := goodIn_app (goodIn_of _ (by decide +kernel)) ggX6_demand_X6_isSheet
set_option maxRecDepth 20000 in
theorem ggX6_demand_X6_in : GoodIn wsX6_demand wsX6_in := goodIn_r _ [22] (by decide +kernel) (by decide +kernel)
set_option maxRecDepth 20000 in
theorem gX6_demand_X6_in : GoodIn wsX6_demand (va_wsS RX6 91 yX6_in wsX6_in) := goodIn_app (goodIn_of _ (by decide +kernel)) ggX6_demand_X6_in
set_option maxRecDepth 20000 in
theorem ggX6_demand_X6_found : GoodIn wsX6_demand wsX6_found := goodIn_r _ [26, 10, 27, 42, 43, 44, 45, 46, 47, 48, 49, 50, 51, 52, 53, 54, 55, 56, 57, 58, 59, 60, 61, 62, 63, 64, 65, 66, 67, 68, 69, 70, 71] (by decide +kernel) (by decide +kernel)
set_option maxRecDepth 20000 in
theorem gX6_demand_X6_found : GoodIn wsX6_demand (wsV RX6 102 RX6 yX6_found wsX6_found) := goodIn_app (goodIn_of _ (by decide +kernel)) ggX6_demand_X6_found
set_option maxRecDepth 20000 in
theorem ggX6_demand_X6_findParts : GoodIn wsX6_demand wsX6_findParts := goodIn_r _ [31, 12, 32, 14, 9, 13, 33, 34, 35, 17, 36, 37, 38, 39, 40, 41, 42, 43, 44, 45, 46, 47, 48, 49, 50, 51, 52, 53, 54, 55, 56, 57, 58, 59, 60, 61, 62, 63, 64, 65, 66, 67, 68, 69, 70, 71] (by decide +kernel) (by decide +kernel)
set_option maxRecDepth 20000 in
theorem gX6_demand_X6_findParts : GoodIn wsX6_demand (wsV RX6 208 RX6 yX6_findParts wsX6_findParts) := goodIn_app (goodIn_of _ (by decide +kernel)) ggX6_demand_X6_findParts
theorem dX6_demand_0 : decode cX6_demand 0 = .ok (.aload_n 0, 1) := by decide +kernel
theorem dX6_demand_1 : decode cX6_demand 1 = .ok (.iconst 0, 1) := by decide +kernel
theorem dX6_demand_2 : decode cX6_demand 2 = .ok (.putfield 81, 3) := by decide +kernel
theorem dX6_demand_5 : decode cX6_demand 5 = .ok (.iload_n 1, 1) := by decide +kernel
theorem dX6_demand_6 : decode cX6_demand 6 = .ok (.invokestatic 95, 3) := by decide +kernel
theorem dX6_demand_9 : decode cX6_demand 9 = .ok (.ifCond .eq 31, 3) := by decide +kernel
theorem dX6_demand_12 : decode cX6_demand 12 = .ok (.iload_n 3, 1) := by decide +kernel
theorem dX6_demand_13 : decode cX6_demand 13 = .ok (.i2l, 1) := by decide +kernel
theorem dX6_demand_14 : decode cX6_demand 14 = .ok (.lconst 1, 1) := by decide +kernel
theorem dX6_demand_15 : decode cX6_demand 15 = .ok (.ldc2_w 116, 3) := by decide +kernel
theorem dX6_demand_18 : decode cX6_demand 18 = .ok (.invokestatic 91, 3) := by decide +kernel
theorem dX6_demand_21 : decode cX6_demand 21 = .ok (.ifCond .eq 19, 3) := by decide +kernel
theorem dX6_demand_24 : decode cX6_demand 24 = .ok (.iload 5, 2) := by decide +kernel
theorem dX6_demand_26 : decode cX6_demand 26 = .ok (.i2l, 1) := by decide +kernel
theorem dX6_demand_27 : decode cX6_demand 27 = .ok (.ldc2_w 204, 3) := by decide +kernel
theorem dX6_demand_30 : decode cX6_demand 30 = .ok (.iload_n 3, 1) := by decide +kernel
theorem dX6_demand_31 : decode cX6_demand 31 = .ok (.iconst 1, 1) := by decide +kernel
theorem dX6_demand_32 : decode cX6_demand 32 = .ok (.isub, 1) := by decide +kernel
theorem dX6_demand_33 : decode cX6_demand 33 = .ok (.i2l, 1) := by decide +kernel
theorem dX6_demand_34 : decode cX6_demand 34 = .ok (.invokestatic 91, 3) := by decide +kernel
theorem dX6_demand_37 : decode cX6_demand 37 = .ok (.ifCond .ne 6, 3) := by decide +kernel
theorem dX6_demand_40 : decode cX6_demand 40 = .ok (.ldc 101, 2) := by decide +kernel
theorem dX6_demand_42 : decode cX6_demand 42 = .ok (.ireturn, 1) := by decide +kernel
theorem dX6_demand_43 : decode cX6_demand 43 = .ok (.aload_n 0, 1) := by decide +kernel
theorem dX6_demand_44 : decode cX6_demand 44 = .ok (.getfield 7, 3) := by decide +kernel
theorem dX6_demand_47 : decode cX6_demand 47 = .ok (.iload_n 1, 1) := by decide +kernel
theorem dX6_demand_48 : decode cX6_demand 48 = .ok (.iaload, 1) := by decide +kernel
theorem dX6_demand_49 : decode cX6_demand 49 = .ok (.ifCond .ge 9, 3) := by decide +kernel
theorem dX6_demand_52 : decode cX6_demand 52 = .ok (.aload_n 0, 1) := by decide +kernel
theorem dX6_demand_53 : decode cX6_demand 53 = .ok (.iconst 1, 1) := by decide +kernel
theorem dX6_demand_54 : decode cX6_demand 54 = .ok (.invokevirtual 102, 3) := by decide +kernel
theorem dX6_demand_57 : decode cX6_demand 57 = .ok (.ireturn, 1) := by decide +kernel
theorem dX6_demand_58 : decode cX6_demand 58 = .ok (.iload_n 2, 1) := by decide +kernel
theorem dX6_demand_59 : decode cX6_demand 59 = .ok (.ifCond .lt 21, 3) := by decide +kernel
theorem dX6_demand_62 : decode cX6_demand 62 = .ok (.iload_n 2, 1) := by decide +kernel
theorem dX6_demand_63 : decode cX6_demand 63 = .ok (.i2l, 1) := by decide +kernel
theorem dX6_demand_64 : decode cX6_demand 64 = .ok (.iload_n 3, 1) := by decide +kernel
theorem dX6_demand_65 : decode cX6_demand 65 = .ok (.iload_n 3, 1) := by decide +kernel
theorem dX6_demand_66 : decode cX6_demand 66 = .ok (.imul, 1) := by decide +kernel
theorem dX6_demand_67 : decode cX6_demand 67 = .ok (.i2l, 1) := by decide +kernel
theorem dX6_demand_68 : decode cX6_demand 68 = .ok (.ladd, 1) := by decide +kernel
theorem dX6_demand_69 : decode cX6_demand 69 = .ok (.aload_n 0, 1) := by decide +kernel
theorem dX6_demand_70 : decode cX6_demand 70 = .ok (.getfield 13, 3) := by decide +kernel
theorem dX6_demand_73 : decode cX6_demand 73 = .ok (.iload_n 1, 1) := by decide +kernel
theorem dX6_demand_74 : decode cX6_demand 74 = .ok (.iaload, 1) := by decide +kernel
theorem dX6_demand_75 : decode cX6_demand 75 = .ok (.i2l, 1) := by decide +kernel
theorem dX6_demand_76 : decode cX6_demand 76 = .ok (.lcmp, 1) := by decide +kernel
theorem dX6_demand_77 : decode cX6_demand 77 = .ok (.ifCond .le 9, 3) := by decide +kernel
theorem dX6_demand_80 : decode cX6_demand 80 = .ok (.aload_n 0, 1) := by decide +kernel
theorem dX6_demand_81 : decode cX6_demand 81 = .ok (.iconst 2, 1) := by decide +kernel
theorem dX6_demand_82 : decode cX6_demand 82 = .ok (.invokevirtual 102, 3) := by decide +kernel
theorem dX6_demand_85 : decode cX6_demand 85 = .ok (.ireturn, 1) := by decide +kernel
theorem dX6_demand_86 : decode cX6_demand 86 = .ok (.iconst 0, 1) := by decide +kernel
theorem dX6_demand_87 : decode cX6_demand 87 = .ok (.istore 6, 2) := by decide +kernel
theorem dX6_demand_89 : decode cX6_demand 89 = .ok (.iconst 1, 1) := by decide +kernel
theorem dX6_demand_90 : decode cX6_demand 90 = .ok (.istore 7, 2) := by decide +kernel
theorem dX6_demand_92 : decode cX6_demand 92 = .ok (.iconst 0, 1) := by decide +kernel
theorem dX6_demand_93 : decode cX6_demand 93 = .ok (.istore 8, 2) := by decide +kernel
theorem dX6_demand_95 : decode cX6_demand 95 = .ok (.iload 8, 2) := by decide +kernel
theorem dX6_demand_97 : decode cX6_demand 97 = .ok (.iload_n 3, 1) := by decide +kernel
theorem dX6_demand_98 : decode cX6_demand 98 = .ok (.if_icmp .ge 197, 3) := by decide +kernel
theorem dX6_demand_101 : decode cX6_demand 101 = .ok (.iconst 0, 1) := by decide +kernel
theorem dX6_demand_102 : decode cX6_demand 102 = .ok (.istore 9, 2) := by decide +kernel
theorem dX6_demand_104 : decode cX6_demand 104 = .ok (.iconst 0, 1) := by decide +kernel
theorem dX6_demand_105 : decode cX6_demand 105 = .ok (.istore 10, 2) := by decide +kernel
theorem dX6_demand_107 : decode cX6_demand 107 = .ok (.iconst 0, 1) := by decide +kernel
theorem dX6_demand_108 : decode cX6_demand 108 = .ok (.istore 11, 2) := by decide +kernel
theorem dX6_demand_110 : decode cX6_demand 110 = .ok (.iload 11, 2) := by decide +kernel
theorem dX6_demand_112 : decode cX6_demand 112 = .ok (.iload_n 3, 1) := by decide +kernel
theorem dX6_demand_113 : decode cX6_demand 113 = .ok (.if_icmp .ge 136, 3) := by decide +kernel
theorem dX6_demand_116 : decode cX6_demand 116 = .ok (.aload_n 0, 1) := by decide +kernel
theorem dX6_demand_117 : decode cX6_demand 117 = .ok (.getfield 16, 3) := by decide +kernel
theorem dX6_demand_120 : decode cX6_demand 120 = .ok (.bipush 64, 2) := by decide +kernel
theorem dX6_demand_122 : decode cX6_demand 122 = .ok (.iload_n 1, 1) := by decide +kernel
theorem dX6_demand_123 : decode cX6_demand 123 = .ok (.imul, 1) := by decide +kernel
theorem dX6_demand_124 : decode cX6_demand 124 = .ok (.iload_n 2, 1) := by decide +kernel
theorem dX6_demand_125 : decode cX6_demand 125 = .ok (.iadd, 1) := by decide +kernel
theorem dX6_demand_126 : decode cX6_demand 126 = .ok (.iload_n 3, 1) := by decide +kernel
theorem dX6_demand_127 : decode cX6_demand 127 = .ok (.iload 8, 2) := by decide +kernel
theorem dX6_demand_129 : decode cX6_demand 129 = .ok (.imul, 1) := by decide +kernel
theorem dX6_demand_130 : decode cX6_demand 130 = .ok (.iadd, 1) := by decide +kernel
theorem dX6_demand_131 : decode cX6_demand 131 = .ok (.iload 11, 2) := by decide +kernel
theorem dX6_demand_133 : decode cX6_demand 133 = .ok (.iadd, 1) := by decide +kernel
theorem dX6_demand_134 : decode cX6_demand 134 = .ok (.iaload, 1) := by decide +kernel
theorem dX6_demand_135 : decode cX6_demand 135 = .ok (.istore 12, 2) := by decide +kernel
theorem dX6_demand_137 : decode cX6_demand 137 = .ok (.aload_n 0, 1) := by decide +kernel
theorem dX6_demand_138 : decode cX6_demand 138 = .ok (.getfield 16, 3) := by decide +kernel
theorem dX6_demand_141 : decode cX6_demand 141 = .ok (.bipush 64, 2) := by decide +kernel
theorem dX6_demand_143 : decode cX6_demand 143 = .ok (.iload_n 1, 1) := by decide +kernel
theorem dX6_demand_144 : decode cX6_demand 144 = .ok (.imul, 1) := by decide +kernel
theorem dX6_demand_145 : decode cX6_demand 145 = .ok (.iload_n 2, 1) := by decide +kernel
theorem dX6_demand_146 : decode cX6_demand 146 = .ok (.iadd, 1) := by decide +kernel
theorem dX6_demand_147 : decode cX6_demand 147 = .ok (.iload_n 3, 1) := by decide +kernel
theorem dX6_demand_148 : decode cX6_demand 148 = .ok (.iload 11, 2) := by decide +kernel
theorem dX6_demand_150 : decode cX6_demand 150 = .ok (.imul, 1) := by decide +kernel
theorem dX6_demand_151 : decode cX6_demand 151 = .ok (.iadd, 1) := by decide +kernel
theorem dX6_demand_152 : decode cX6_demand 152 = .ok (.iload 8, 2) := by decide +kernel
theorem dX6_demand_154 : decode cX6_demand 154 = .ok (.iadd, 1) := by decide +kernel
theorem dX6_demand_155 : decode cX6_demand 155 = .ok (.iaload, 1) := by decide +kernel
theorem dX6_demand_156 : decode cX6_demand 156 = .ok (.istore 13, 2) := by decide +kernel
theorem dX6_demand_158 : decode cX6_demand 158 = .ok (.iload 7, 2) := by decide +kernel
theorem dX6_demand_160 : decode cX6_demand 160 = .ok (.ifCond .eq 33, 3) := by decide +kernel
theorem dX6_demand_163 : decode cX6_demand 163 = .ok (.iload 12, 2) := by decide +kernel
theorem dX6_demand_165 : decode cX6_demand 165 = .ok (.i2l, 1) := by decide +kernel
theorem dX6_demand_166 : decode cX6_demand 166 = .ok (.lconst 0, 1) := by decide +kernel
theorem dX6_demand_167 : decode cX6_demand 167 = .ok (.ldc2_w 206, 3) := by decide +kernel
theorem dX6_demand_170 : decode cX6_demand 170 = .ok (.invokestatic 91, 3) := by decide +kernel
theorem dX6_demand_173 : decode cX6_demand 173 = .ok (.ifCond .eq 20, 3) := by decide +kernel
theorem dX6_demand_176 : decode cX6_demand 176 = .ok (.iload 13, 2) := by decide +kernel
theorem dX6_demand_178 : decode cX6_demand 178 = .ok (.i2l, 1) := by decide +kernel
theorem dX6_demand_179 : decode cX6_demand 179 = .ok (.lconst 0, 1) := by decide +kernel
theorem dX6_demand_180 : decode cX6_demand 180 = .ok (.ldc2_w 206, 3) := by decide +kernel
theorem dX6_demand_183 : decode cX6_demand 183 = .ok (.invokestatic 91, 3) := by decide +kernel
theorem dX6_demand_186 : decode cX6_demand 186 = .ok (.ifCond .eq 7, 3) := by decide +kernel
theorem dX6_demand_189 : decode cX6_demand 189 = .ok (.iconst 1, 1) := by decide +kernel
theorem dX6_demand_190 : decode cX6_demand 190 = .ok (.goto 4, 3) := by decide +kernel
theorem dX6_demand_193 : decode cX6_demand 193 = .ok (.iconst 0, 1) := by decide +kernel
theorem dX6_demand_194 : decode cX6_demand 194 = .ok (.istore 7, 2) := by decide +kernel
theorem dX6_demand_196 : decode cX6_demand 196 = .ok (.iload 9, 2) := by decide +kernel
theorem dX6_demand_198 : decode cX6_demand 198 = .ok (.iload 7, 2) := by decide +kernel
theorem dX6_demand_200 : decode cX6_demand 200 = .ok (.ifCond .eq 8, 3) := by decide +kernel
theorem dX6_demand_203 : decode cX6_demand 203 = .ok (.iload 12, 2) := by decide +kernel
theorem dX6_demand_205 : decode cX6_demand 205 = .ok (.goto 4, 3) := by decide +kernel
theorem dX6_demand_208 : decode cX6_demand 208 = .ok (.iconst 0, 1) := by decide +kernel
theorem dX6_demand_209 : decode cX6_demand 209 = .ok (.iadd, 1) := by decide +kernel
theorem dX6_demand_210 : decode cX6_demand 210 = .ok (.istore 9, 2) := by decide +kernel
theorem dX6_demand_212 : decode cX6_demand 212 = .ok (.iload 10, 2) := by decide +kernel
theorem dX6_demand_214 : decode cX6_demand 214 = .ok (.iload 7, 2) := by decide +kernel
theorem dX6_demand_216 : decode cX6_demand 216 = .ok (.ifCond .eq 8, 3) := by decide +kernel
theorem dX6_demand_219 : decode cX6_demand 219 = .ok (.iload 13, 2) := by decide +kernel
theorem dX6_demand_221 : decode cX6_demand 221 = .ok (.goto 4, 3) := by decide +kernel
theorem dX6_demand_224 : decode cX6_demand 224 = .ok (.iconst 0, 1) := by decide +kernel
theorem dX6_demand_225 : decode cX6_demand 225 = .ok (.iadd, 1) := by decide +kernel
theorem dX6_demand_226 : decode cX6_demand 226 = .ok (.istore 10, 2) := by decide +kernel
theorem dX6_demand_228 : decode cX6_demand 228 = .ok (.aload_n 0, 1) := by decide +kernel
theorem dX6_demand_229 : decode cX6_demand 229 = .ok (.getfield 65, 3) := by decide +kernel
theorem dX6_demand_232 : decode cX6_demand 232 = .ok (.bipush 6, 2) := by decide +kernel
theorem dX6_demand_234 : decode cX6_demand 234 = .ok (.iload 8, 2) := by decide +kernel
theorem dX6_demand_236 : decode cX6_demand 236 = .ok (.imul, 1) := by decide +kernel
theorem dX6_demand_237 : decode cX6_demand 237 = .ok (.iload 11, 2) := by decide +kernel
theorem dX6_demand_239 : decode cX6_demand 239 = .ok (.iadd, 1) := by decide +kernel
theorem dX6_demand_240 : decode cX6_demand 240 = .ok (.iload 12, 2) := by decide +kernel
theorem dX6_demand_242 : decode cX6_demand 242 = .ok (.iastore, 1) := by decide +kernel
theorem dX6_demand_243 : decode cX6_demand 243 = .ok (.iinc 11 1, 3) := by decide +kernel
theorem dX6_demand_246 : decode cX6_demand 246 = .ok (.goto (-136), 3) := by decide +kernel
theorem dX6_demand_249 : decode cX6_demand 249 = .ok (.iload 8, 2) := by decide +kernel
theorem dX6_demand_251 : decode cX6_demand 251 = .ok (.ifCond .ne 8, 3) := by decide +kernel
theorem dX6_demand_254 : decode cX6_demand 254 = .ok (.iload 9, 2) := by decide +kernel
theorem dX6_demand_256 : decode cX6_demand 256 = .ok (.goto 5, 3) := by decide +kernel
theorem dX6_demand_259 : decode cX6_demand 259 = .ok (.iload 6, 2) := by decide +kernel
theorem dX6_demand_261 : decode cX6_demand 261 = .ok (.istore 6, 2) := by decide +kernel
theorem dX6_demand_263 : decode cX6_demand 263 = .ok (.iload 7, 2) := by decide +kernel
theorem dX6_demand_265 : decode cX6_demand 265 = .ok (.ifCond .eq 21, 3) := by decide +kernel
theorem dX6_demand_268 : decode cX6_demand 268 = .ok (.iload 9, 2) := by decide +kernel
theorem dX6_demand_270 : decode cX6_demand 270 = .ok (.iload 6, 2) := by decide +kernel
theorem dX6_demand_272 : decode cX6_demand 272 = .ok (.if_icmp .ne 14, 3) := by decide +kernel
theorem dX6_demand_275 : decode cX6_demand 275 = .ok (.iload 10, 2) := by decide +kernel
theorem dX6_demand_277 : decode cX6_demand 277 = .ok (.iload 6, 2) := by decide +kernel
theorem dX6_demand_279 : decode cX6_demand 279 = .ok (.if_icmp .ne 7, 3) := by decide +kernel
theorem dX6_demand_282 : decode cX6_demand 282 = .ok (.iconst 1, 1) := by decide +kernel
theorem dX6_demand_283 : decode cX6_demand 283 = .ok (.goto 4, 3) := by decide +kernel
theorem dX6_demand_286 : decode cX6_demand 286 = .ok (.iconst 0, 1) := by decide +kernel
theorem dX6_demand_287 : decode cX6_demand 287 = .ok (.istore 7, 2) := by decide +kernel
theorem dX6_demand_289 : decode cX6_demand 289 = .ok (.iinc 8 1, 3) := by decide +kernel
theorem dX6_demand_292 : decode cX6_demand 292 = .ok (.goto (-197), 3) := by decide +kernel
theorem dX6_demand_295 : decode cX6_demand 295 = .ok (.iload 7, 2) := by decide +kernel
theorem dX6_demand_297 : decode cX6_demand 297 = .ok (.ifCond .ne 6, 3) := by decide +kernel
theorem dX6_demand_300 : decode cX6_demand 300 = .ok (.ldc 101, 2) := by decide +kernel
theorem dX6_demand_302 : decode cX6_demand 302 = .ok (.ireturn, 1) := by decide +kernel
theorem dX6_demand_303 : decode cX6_demand 303 = .ok (.aload_n 0, 1) := by decide +kernel
theorem dX6_demand_304 : decode cX6_demand 304 = .ok (.iconst 0, 1) := by decide +kernel
theorem dX6_demand_305 : decode cX6_demand 305 = .ok (.putfield 85, 3) := by decide +kernel
theorem dX6_demand_308 : decode cX6_demand 308 = .ok (.aload_n 0, 1) := by decide +kernel
theorem dX6_demand_309 : decode cX6_demand 309 = .ok (.iload_n 3, 1) := by decide +kernel
theorem dX6_demand_310 : decode cX6_demand 310 = .ok (.iload 6, 2) := by decide +kernel
theorem dX6_demand_312 : decode cX6_demand 312 = .ok (.invokevirtual 208, 3) := by decide +kernel
theorem dX6_demand_315 : decode cX6_demand 315 = .ok (.iload 4, 2) := by decide +kernel
theorem dX6_demand_317 : decode cX6_demand 317 = .ok (.ldc 118, 2) := by decide +kernel
theorem dX6_demand_319 : decode cX6_demand 319 = .ok (.if_icmp .ne 10, 3) := by decide +kernel
theorem dX6_demand_322 : decode cX6_demand 322 = .ok (.aload_n 0, 1) := by decide +kernel
theorem dX6_demand_323 : decode cX6_demand 323 = .ok (.getfield 195, 3) := by decide +kernel
theorem dX6_demand_326 : decode cX6_demand 326 = .ok (.goto 53, 3) := by decide +kernel
theorem dX6_demand_329 : decode cX6_demand 329 = .ok (.iload 4, 2) := by decide +kernel
theorem dX6_demand_331 : decode cX6_demand 331 = .ok (.i2l, 1) := by decide +kernel
theorem dX6_demand_332 : decode cX6_demand 332 = .ok (.lconst 0, 1) := by decide +kernel
theorem dX6_demand_333 : decode cX6_demand 333 = .ok (.aload_n 0, 1) := by decide +kernel
theorem dX6_demand_334 : decode cX6_demand 334 = .ok (.getfield 195, 3) := by decide +kernel
theorem dX6_demand_337 : decode cX6_demand 337 = .ok (.iconst 1, 1) := by decide +kernel
theorem dX6_demand_338 : decode cX6_demand 338 = .ok (.isub, 1) := by decide +kernel
theorem dX6_demand_339 : decode cX6_demand 339 = .ok (.i2l, 1) := by decide +kernel
theorem dX6_demand_340 : decode cX6_demand 340 = .ok (.invokestatic 91, 3) := by decide +kernel
theorem dX6_demand_343 : decode cX6_demand 343 = .ok (.ifCond .ne 8, 3) := by decide +kernel
theorem dX6_demand_346 : decode cX6_demand 346 = .ok (.ldc 118, 2) := by decide +kernel
theorem dX6_demand_348 : decode cX6_demand 348 = .ok (.goto 31, 3) := by decide +kernel
theorem dX6_demand_351 : decode cX6_demand 351 = .ok (.iload 5, 2) := by decide +kernel
theorem dX6_demand_353 : decode cX6_demand 353 = .ok (.ifCond .ge 13, 3) := by decide +kernel
theorem dX6_demand_356 : decode cX6_demand 356 = .ok (.aload_n 0, 1) := by decide +kernel
theorem dX6_demand_357 : decode cX6_demand 357 = .ok (.getfield 71, 3) := by decide +kernel
theorem dX6_demand_360 : decode cX6_demand 360 = .ok (.iload 4, 2) := by decide +kernel
theorem dX6_demand_362 : decode cX6_demand 362 = .ok (.iaload, 1) := by decide +kernel
theorem dX6_demand_363 : decode cX6_demand 363 = .ok (.goto 16, 3) := by decide +kernel
theorem dX6_demand_366 : decode cX6_demand 366 = .ok (.aload_n 0, 1) := by decide +kernel
theorem dX6_demand_367 : decode cX6_demand 367 = .ok (.getfield 68, 3) := by decide +kernel
theorem dX6_demand_370 : decode cX6_demand 370 = .ok (.bipush 6, 2) := by decide +kernel
theorem dX6_demand_372 : decode cX6_demand 372 = .ok (.iload 4, 2) := by decide +kernel
theorem dX6_demand_374 : decode cX6_demand 374 = .ok (.imul, 1) := by decide +kernel
theorem dX6_demand_375 : decode cX6_demand 375 = .ok (.iload 5, 2) := by decide +kernel
theorem dX6_demand_377 : decode cX6_demand 377 = .ok (.iadd, 1) := by decide +kernel
theorem dX6_demand_378 : decode cX6_demand 378 = .ok (.iaload, 1) := by decide +kernel
theorem dX6_demand_379 : decode cX6_demand 379 = .ok (.ireturn, 1) := by decide +kernel
set_option maxRecDepth 20000 in
theorem ggX6_cross_X6_in : GoodIn wsX6_cross wsX6_in := goodIn_r _ [9] (by decide +kernel) (by decide +kernel)
set_option maxRecDepth 20000 in
theorem gX6_cross_X6_in : GoodIn wsX6_cross (va_wsS RX6 91 yX6_in wsX6_in) := goodIn_app (goodIn_of _ (by decide +kernel)) ggX6_cross_X6_in
theorem dX6_cross_0 : decode cX6_cross 0 = .ok (.aload_n 0, 1) := by decide +kernel
theorem dX6_cross_1 : decode cX6_cross 1 = .ok (.iconst 0, 1) := by decide +kernel
theorem dX6_cross_2 : decode cX6_cross 2 = .ok (.putfield 81, 3) := by decide +kernel
theorem dX6_cross_5 : decode cX6_cross 5 = .ok (.iload_n 1, 1) := by decide +kernel
theorem dX6_cross_6 : decode cX6_cross 6 = .ok (.i2l, 1) := by decide +kernel
theorem dX6_cross_7 : decode cX6_cross 7 = .ok (.lconst 1, 1) := by decide +kernel
theorem dX6_cross_8 : decode cX6_cross 8 = .ok (.ldc2_w 212, 3) := by decide +kernel
theorem dX6_cross_11 : decode cX6_cross 11 = .ok (.invokestatic 91, 3) := by decide +kernel
theorem dX6_cross_14 : decode cX6_cross 14 = .ok (.ifCond .eq 25, 3) := by decide +kernel
theorem dX6_cross_17 : decode cX6_cross 17 = .ok (.iload_n 2, 1) := by decide +kernel
theorem dX6_cross_18 : decode cX6_cross 18 = .ok (.i2l, 1) := by decide +kernel
theorem dX6_cross_19 : decode cX6_cross 19 = .ok (.lconst 0, 1) := by decide +kernel
theorem dX6_cross_20 : decode cX6_cross 20 = .ok (.ldc2_w 99, 3) := by decide +kernel
theorem dX6_cross_23 : decode cX6_cross 23 = .ok (.invokestatic 91, 3) := by decide +kernel
theorem dX6_cross_26 : decode cX6_cross 26 = .ok (.ifCond .eq 13, 3) := by decide +kernel
theorem dX6_cross_29 : decode cX6_cross 29 = .ok (.iload_n 3, 1) := by decide +kernel
theorem dX6_cross_30 : decode cX6_cross 30 = .ok (.i2l, 1) := by decide +kernel
theorem dX6_cross_31 : decode cX6_cross 31 = .ok (.lconst 0, 1) := by decide +kernel
theorem dX6_cross_32 : decode cX6_cross 32 = .ok (.lconst 1, 1) := by decide +kernel
theorem dX6_cross_33 : decode cX6_cross 33 = .ok (.invokestatic 91, 3) := by decide +kernel
theorem dX6_cross_36 : decode cX6_cross 36 = .ok (.ifCond .ne 6, 3) := by decide +kernel
theorem dX6_cross_39 : decode cX6_cross 39 = .ok (.ldc 101, 2) := by decide +kernel
theorem dX6_cross_41 : decode cX6_cross 41 = .ok (.ireturn, 1) := by decide +kernel
theorem dX6_cross_42 : decode cX6_cross 42 = .ok (.iconst 0, 1) := by decide +kernel
theorem dX6_cross_43 : decode cX6_cross 43 = .ok (.istore 4, 2) := by decide +kernel
theorem dX6_cross_45 : decode cX6_cross 45 = .ok (.iload 4, 2) := by decide +kernel
theorem dX6_cross_47 : decode cX6_cross 47 = .ok (.iload_n 2, 1) := by decide +kernel
theorem dX6_cross_48 : decode cX6_cross 48 = .ok (.if_icmp .gt 148, 3) := by decide +kernel
theorem dX6_cross_51 : decode cX6_cross 51 = .ok (.iconst 1, 1) := by decide +kernel
theorem dX6_cross_52 : decode cX6_cross 52 = .ok (.istore 5, 2) := by decide +kernel
theorem dX6_cross_54 : decode cX6_cross 54 = .ok (.iload 5, 2) := by decide +kernel
theorem dX6_cross_56 : decode cX6_cross 56 = .ok (.bipush 64, 2) := by decide +kernel
theorem dX6_cross_58 : decode cX6_cross 58 = .ok (.if_icmp .gt 132, 3) := by decide +kernel
theorem dX6_cross_61 : decode cX6_cross 61 = .ok (.iload 5, 2) := by decide +kernel
theorem dX6_cross_63 : decode cX6_cross 63 = .ok (.i2l, 1) := by decide +kernel
theorem dX6_cross_64 : decode cX6_cross 64 = .ok (.iload 5, 2) := by decide +kernel
theorem dX6_cross_66 : decode cX6_cross 66 = .ok (.i2l, 1) := by decide +kernel
theorem dX6_cross_67 : decode cX6_cross 67 = .ok (.lmul, 1) := by decide +kernel
theorem dX6_cross_68 : decode cX6_cross 68 = .ok (.lstore 6, 2) := by decide +kernel
theorem dX6_cross_70 : decode cX6_cross 70 = .ok (.iconst 2, 1) := by decide +kernel
theorem dX6_cross_71 : decode cX6_cross 71 = .ok (.istore 8, 2) := by decide +kernel
theorem dX6_cross_73 : decode cX6_cross 73 = .ok (.iload 8, 2) := by decide +kernel
theorem dX6_cross_75 : decode cX6_cross 75 = .ok (.iload 5, 2) := by decide +kernel
theorem dX6_cross_77 : decode cX6_cross 77 = .ok (.if_icmp .ge 92, 3) := by decide +kernel
theorem dX6_cross_80 : decode cX6_cross 80 = .ok (.iload 4, 2) := by decide +kernel
theorem dX6_cross_82 : decode cX6_cross 82 = .ok (.ifCond .le 87, 3) := by decide +kernel
theorem dX6_cross_85 : decode cX6_cross 85 = .ok (.iload 5, 2) := by decide +kernel
theorem dX6_cross_87 : decode cX6_cross 87 = .ok (.iload 8, 2) := by decide +kernel
theorem dX6_cross_89 : decode cX6_cross 89 = .ok (.irem, 1) := by decide +kernel
theorem dX6_cross_90 : decode cX6_cross 90 = .ok (.ifCond .ne 73, 3) := by decide +kernel
theorem dX6_cross_93 : decode cX6_cross 93 = .ok (.iload_n 3, 1) := by decide +kernel
theorem dX6_cross_94 : decode cX6_cross 94 = .ok (.ifCond .ne 8, 3) := by decide +kernel
theorem dX6_cross_97 : decode cX6_cross 97 = .ok (.iload 8, 2) := by decide +kernel
theorem dX6_cross_99 : decode cX6_cross 99 = .ok (.goto 9, 3) := by decide +kernel
theorem dX6_cross_102 : decode cX6_cross 102 = .ok (.iconst 2, 1) := by decide +kernel
theorem dX6_cross_103 : decode cX6_cross 103 = .ok (.iload 8, 2) := by decide +kernel
theorem dX6_cross_105 : decode cX6_cross 105 = .ok (.imul, 1) := by decide +kernel
theorem dX6_cross_106 : decode cX6_cross 106 = .ok (.iconst 1, 1) := by decide +kernel
theorem dX6_cross_107 : decode cX6_cross 107 = .ok (.isub, 1) := by decide +kernel
theorem dX6_cross_108 : decode cX6_cross 108 = .ok (.istore 9, 2) := by decide +kernel
theorem dX6_cross_110 : decode cX6_cross 110 = .ok (.ldc2_w 99, 3) := by decide +kernel
theorem dX6_cross_113 : decode cX6_cross 113 = .ok (.iload 5, 2) := by decide +kernel
theorem dX6_cross_115 : decode cX6_cross 115 = .ok (.i2l, 1) := by decide +kernel
theorem dX6_cross_116 : decode cX6_cross 116 = .ok (.lmul, 1) := by decide +kernel
theorem dX6_cross_117 : decode cX6_cross 117 = .ok (.iload 9, 2) := by decide +kernel
theorem dX6_cross_119 : decode cX6_cross 119 = .ok (.i2l, 1) := by decide +kernel
theorem dX6_cross_120 : decode cX6_cross 120 = .ok (.lmul, 1) := by decide +kernel
theorem dX6_cross_121 : decode cX6_cross 121 = .ok (.iload 9, 2) := by decide +kernel
theorem dX6_cross_123 : decode cX6_cross 123 = .ok (.i2l, 1) := by decide +kernel
theorem dX6_cross_124 : decode cX6_cross 124 = .ok (.aload_n 0, 1) := by decide +kernel
theorem dX6_cross_125 : decode cX6_cross 125 = .ok (.getfield 77, 3) := by decide +kernel
theorem dX6_cross_128 : decode cX6_cross 128 = .ok (.bipush 65, 2) := by decide +kernel
theorem dX6_cross_130 : decode cX6_cross 130 = .ok (.iload 4, 2) := by decide +kernel
theorem dX6_cross_132 : decode cX6_cross 132 = .ok (.iconst 1, 1) := by decide +kernel
theorem dX6_cross_133 : decode cX6_cross 133 = .ok (.isub, 1) := by decide +kernel
theorem dX6_cross_134 : decode cX6_cross 134 = .ok (.imul, 1) := by decide +kernel
theorem dX6_cross_135 : decode cX6_cross 135 = .ok (.iload 5, 2) := by decide +kernel
theorem dX6_cross_137 : decode cX6_cross 137 = .ok (.iload 8, 2) := by decide +kernel
theorem dX6_cross_139 : decode cX6_cross 139 = .ok (.idiv, 1) := by decide +kernel
theorem dX6_cross_140 : decode cX6_cross 140 = .ok (.iadd, 1) := by decide +kernel
theorem dX6_cross_141 : decode cX6_cross 141 = .ok (.laload, 1) := by decide +kernel
theorem dX6_cross_142 : decode cX6_cross 142 = .ok (.lmul, 1) := by decide +kernel
theorem dX6_cross_143 : decode cX6_cross 143 = .ok (.ladd, 1) := by decide +kernel
theorem dX6_cross_144 : decode cX6_cross 144 = .ok (.lstore 10, 2) := by decide +kernel
theorem dX6_cross_146 : decode cX6_cross 146 = .ok (.lload 10, 2) := by decide +kernel
theorem dX6_cross_148 : decode cX6_cross 148 = .ok (.lload 6, 2) := by decide +kernel
theorem dX6_cross_150 : decode cX6_cross 150 = .ok (.lcmp, 1) := by decide +kernel
theorem dX6_cross_151 : decode cX6_cross 151 = .ok (.ifCond .ge 8, 3) := by decide +kernel
theorem dX6_cross_154 : decode cX6_cross 154 = .ok (.lload 10, 2) := by decide +kernel
theorem dX6_cross_156 : decode cX6_cross 156 = .ok (.goto 5, 3) := by decide +kernel
theorem dX6_cross_159 : decode cX6_cross 159 = .ok (.lload 6, 2) := by decide +kernel
theorem dX6_cross_161 : decode cX6_cross 161 = .ok (.lstore 6, 2) := by decide +kernel
theorem dX6_cross_163 : decode cX6_cross 163 = .ok (.iinc 8 1, 3) := by decide +kernel
theorem dX6_cross_166 : decode cX6_cross 166 = .ok (.goto (-93), 3) := by decide +kernel
theorem dX6_cross_169 : decode cX6_cross 169 = .ok (.aload_n 0, 1) := by decide +kernel
theorem dX6_cross_170 : decode cX6_cross 170 = .ok (.getfield 77, 3) := by decide +kernel
theorem dX6_cross_173 : decode cX6_cross 173 = .ok (.bipush 65, 2) := by decide +kernel
theorem dX6_cross_175 : decode cX6_cross 175 = .ok (.iload 4, 2) := by decide +kernel
theorem dX6_cross_177 : decode cX6_cross 177 = .ok (.imul, 1) := by decide +kernel
theorem dX6_cross_178 : decode cX6_cross 178 = .ok (.iload 5, 2) := by decide +kernel
theorem dX6_cross_180 : decode cX6_cross 180 = .ok (.iadd, 1) := by decide +kernel
theorem dX6_cross_181 : decode cX6_cross 181 = .ok (.lload 6, 2) := by decide +kernel
theorem dX6_cross_183 : decode cX6_cross 183 = .ok (.lastore, 1) := by decide +kernel
theorem dX6_cross_184 : decode cX6_cross 184 = .ok (.iinc 5 1, 3) := by decide +kernel
theorem dX6_cross_187 : decode cX6_cross 187 = .ok (.goto (-133), 3) := by decide +kernel
theorem dX6_cross_190 : decode cX6_cross 190 = .ok (.iinc 4 1, 3) := by decide +kernel
theorem dX6_cross_193 : decode cX6_cross 193 = .ok (.goto (-148), 3) := by decide +kernel
theorem dX6_cross_196 : decode cX6_cross 196 = .ok (.aload_n 0, 1) := by decide +kernel
theorem dX6_cross_197 : decode cX6_cross 197 = .ok (.getfield 77, 3) := by decide +kernel
theorem dX6_cross_200 : decode cX6_cross 200 = .ok (.bipush 65, 2) := by decide +kernel
theorem dX6_cross_202 : decode cX6_cross 202 = .ok (.iload_n 2, 1) := by decide +kernel
theorem dX6_cross_203 : decode cX6_cross 203 = .ok (.imul, 1) := by decide +kernel
theorem dX6_cross_204 : decode cX6_cross 204 = .ok (.iload_n 1, 1) := by decide +kernel
theorem dX6_cross_205 : decode cX6_cross 205 = .ok (.iadd, 1) := by decide +kernel
theorem dX6_cross_206 : decode cX6_cross 206 = .ok (.laload, 1) := by decide +kernel
theorem dX6_cross_207 : decode cX6_cross 207 = .ok (.l2i, 1) := by decide +kernel
theorem dX6_cross_208 : decode cX6_cross 208 = .ok (.ireturn, 1) := by decide +kernel
set_option maxRecDepth 20000 in
theorem ggX6_shut_X6_in : GoodIn wsX6_shut wsX6_in := goodIn_r _ [8] (by decide +kernel) (by decide +kernel)
set_option maxRecDepth 20000 in
theorem gX6_shut_X6_in : GoodIn wsX6_shut (va_wsS RX6 91 yX6_in wsX6_in) := goodIn_app (goodIn_of _ (by decide +kernel)) ggX6_shut_X6_in
theorem dX6_shut_0 : decode cX6_shut 0 = .ok (.aload_n 0, 1) := by decide +kernel
theorem dX6_shut_1 : decode cX6_shut 1 = .ok (.iconst 0, 1) := by decide +kernel
theorem dX6_shut_2 : decode cX6_shut 2 = .ok (.putfield 81, 3) := by decide +kernel
theorem dX6_shut_5 : decode cX6_shut 5 = .ok (.iload_n 1, 1) := by decide +kernel
theorem dX6_shut_6 : decode cX6_shut 6 = .ok (.i2l, 1) := by decide +kernel
theorem dX6_shut_7 : decode cX6_shut 7 = .ok (.lconst 1, 1) := by decide +kernel
theorem dX6_shut_8 : decode cX6_shut 8 = .ok (.ldc2_w 214, 3) := by decide +kernel
theorem dX6_shut_11 : decode cX6_shut 11 = .ok (.invokestatic 91, 3) := by decide +kernel
theorem dX6_shut_14 : decode cX6_shut 14 = .ok (.ifCond .eq 15, 3) := by decide +kernel
theorem dX6_shut_17 : decode cX6_shut 17 = .ok (.iload_n 2, 1) := by decide +kernel
theorem dX6_shut_18 : decode cX6_shut 18 = .ok (.i2l, 1) := by decide +kernel
theorem dX6_shut_19 : decode cX6_shut 19 = .ok (.lconst 0, 1) := by decide +kernel
theorem dX6_shut_20 : decode cX6_shut 20 = .ok (.ldc2_w 216, 3) := by decide +kernel
theorem dX6_shut_23 : decode cX6_shut 23 = .ok (.invokestatic 91, 3) := by decide +kernel
theorem dX6_shut_26 : decode cX6_shut 26 = .ok (.ifCond .ne 7, 3) := by decide +kernel
theorem dX6_shut_29 : decode cX6_shut 29 = .ok (.ldc2_w 218, 3) := by decide +kernel
theorem dX6_shut_32 : decode cX6_shut 32 = .ok (.lreturn, 1) := by decide +kernel
theorem dX6_shut_33 : decode cX6_shut 33 = .ok (.lconst 1, 1) := by decide +kernel
theorem dX6_shut_34 : decode cX6_shut 34 = .ok (.lstore_n 3, 1) := by decide +kernel
theorem dX6_shut_35 : decode cX6_shut 35 = .ok (.iconst 0, 1) := by decide +kernel
theorem dX6_shut_36 : decode cX6_shut 36 = .ok (.istore 5, 2) := by decide +kernel
theorem dX6_shut_38 : decode cX6_shut 38 = .ok (.iload 5, 2) := by decide +kernel
theorem dX6_shut_40 : decode cX6_shut 40 = .ok (.iload_n 1, 1) := by decide +kernel
theorem dX6_shut_41 : decode cX6_shut 41 = .ok (.if_icmp .ge 25, 3) := by decide +kernel
theorem dX6_shut_44 : decode cX6_shut 44 = .ok (.lload_n 3, 1) := by decide +kernel
theorem dX6_shut_45 : decode cX6_shut 45 = .ok (.bipush 100, 2) := by decide +kernel
theorem dX6_shut_47 : decode cX6_shut 47 = .ok (.bipush 10, 2) := by decide +kernel
theorem dX6_shut_49 : decode cX6_shut 49 = .ok (.iload_n 2, 1) := by decide +kernel
theorem dX6_shut_50 : decode cX6_shut 50 = .ok (.isub, 1) := by decide +kernel
theorem dX6_shut_51 : decode cX6_shut 51 = .ok (.bipush 10, 2) := by decide +kernel
theorem dX6_shut_53 : decode cX6_shut 53 = .ok (.iload_n 2, 1) := by decide +kernel
theorem dX6_shut_54 : decode cX6_shut 54 = .ok (.isub, 1) := by decide +kernel
theorem dX6_shut_55 : decode cX6_shut 55 = .ok (.imul, 1) := by decide +kernel
theorem dX6_shut_56 : decode cX6_shut 56 = .ok (.isub, 1) := by decide +kernel
theorem dX6_shut_57 : decode cX6_shut 57 = .ok (.i2l, 1) := by decide +kernel
theorem dX6_shut_58 : decode cX6_shut 58 = .ok (.lmul, 1) := by decide +kernel
theorem dX6_shut_59 : decode cX6_shut 59 = .ok (.lstore_n 3, 1) := by decide +kernel
theorem dX6_shut_60 : decode cX6_shut 60 = .ok (.iinc 5 1, 3) := by decide +kernel
theorem dX6_shut_63 : decode cX6_shut 63 = .ok (.goto (-25), 3) := by decide +kernel
theorem dX6_shut_66 : decode cX6_shut 66 = .ok (.lload_n 3, 1) := by decide +kernel
theorem dX6_shut_67 : decode cX6_shut 67 = .ok (.lreturn, 1) := by decide +kernel
set_option maxRecDepth 20000 in
theorem ggX6_count_X6_kindOf : GoodIn wsX6_count wsX6_kindOf := goodIn_r _ [9, 10, 11, 12, 13, 8, 14, 3, 15, 25, 26, 27, 28, 29, 30, 31, 32, 33, 34, 35, 36, 37, 38, 39, 40, 41, 42, 43, 44, 45, 46, 47, 48, 49, 50, 51, 52, 53, 54] (by decide +kernel) (by decide +kernel)
set_option maxRecDepth 20000 in
theorem gX6_count_X6_kindOf : GoodIn wsX6_count (wsV RX6 119 RX6 yX6_kindOf wsX6_kindOf) := goodIn_app (goodIn_of _ (by decide +kernel)) ggX6_count_X6_kindOf
set_option maxRecDepth 20000 in
theorem ggX6_count_X6_isOf : GoodIn wsX6_count wsX6_isOf := goodIn_r _ [18] (by decide +kernel) (by decide +kernel)
set_option maxRecDepth 20000 in
theorem gX6_count_X6_isOf : GoodIn wsX6_count (va_wsS RX6 127 yX6_isOf wsX6_isOf) := goodIn_app (goodIn_of _ (by decide +kernel)) ggX6_count_X6_isOf
set_option maxRecDepth 20000 in
theorem ggX6_count_X6_calls : GoodIn wsX6_count wsX6_calls := goodIn_r _ [22, 3, 23, 24, 25, 26, 27, 28, 29, 30, 31, 32, 33, 34, 35, 36, 37, 38, 39, 40, 41, 42, 43, 44, 45, 46, 47, 48, 49, 50, 51, 52, 53, 54] (by decide +kernel) (by decide +kernel)
set_option maxRecDepth 20000 in
theorem gX6_count_X6_calls : GoodIn wsX6_count (wsV RX6 138 RX6 yX6_calls wsX6_calls) := goodIn_app (goodIn_of _ (by decide +kernel)) ggX6_count_X6_calls
theorem dX6_count_0 : decode cX6_count 0 = .ok (.aload_n 0, 1) := by decide +kernel
theorem dX6_count_1 : decode cX6_count 1 = .ok (.iconst 0, 1) := by decide +kernel
theorem dX6_count_2 : decode cX6_count 2 = .ok (.putfield 81, 3) := by decide +kernel
theorem dX6_count_5 : decode cX6_count 5 = .ok (.iconst 0, 1) := by decide +kernel
theorem dX6_count_6 : decode cX6_count 6 = .ok (.istore_n 2, 1) := by decide +kernel
theorem dX6_count_7 : decode cX6_count 7 = .ok (.iload_n 1, 1) := by decide +kernel
theorem dX6_count_8 : decode cX6_count 8 = .ok (.tableswitch 144 0 5 #[40, 73, 73, 73, 73, 120], 40) := by decide +kernel
theorem dX6_count_48 : decode cX6_count 48 = .ok (.iconst 0, 1) := by decide +kernel
theorem dX6_count_49 : decode cX6_count 49 = .ok (.istore_n 3, 1) := by decide +kernel
theorem dX6_count_50 : decode cX6_count 50 = .ok (.iload_n 3, 1) := by decide +kernel
theorem dX6_count_51 : decode cX6_count 51 = .ok (.bipush 8, 2) := by decide +kernel
theorem dX6_count_53 : decode cX6_count 53 = .ok (.if_icmp .ge 26, 3) := by decide +kernel
theorem dX6_count_56 : decode cX6_count 56 = .ok (.iload_n 2, 1) := by decide +kernel
theorem dX6_count_57 : decode cX6_count 57 = .ok (.aload_n 0, 1) := by decide +kernel
theorem dX6_count_58 : decode cX6_count 58 = .ok (.getfield 7, 3) := by decide +kernel
theorem dX6_count_61 : decode cX6_count 61 = .ok (.iload_n 3, 1) := by decide +kernel
theorem dX6_count_62 : decode cX6_count 62 = .ok (.iaload, 1) := by decide +kernel
theorem dX6_count_63 : decode cX6_count 63 = .ok (.ifCond .lt 7, 3) := by decide +kernel
theorem dX6_count_66 : decode cX6_count 66 = .ok (.iconst 1, 1) := by decide +kernel
theorem dX6_count_67 : decode cX6_count 67 = .ok (.goto 4, 3) := by decide +kernel
theorem dX6_count_70 : decode cX6_count 70 = .ok (.iconst 0, 1) := by decide +kernel
theorem dX6_count_71 : decode cX6_count 71 = .ok (.iadd, 1) := by decide +kernel
theorem dX6_count_72 : decode cX6_count 72 = .ok (.istore_n 2, 1) := by decide +kernel
theorem dX6_count_73 : decode cX6_count 73 = .ok (.iinc 3 1, 3) := by decide +kernel
theorem dX6_count_76 : decode cX6_count 76 = .ok (.goto (-26), 3) := by decide +kernel
theorem dX6_count_79 : decode cX6_count 79 = .ok (.iload_n 2, 1) := by decide +kernel
theorem dX6_count_80 : decode cX6_count 80 = .ok (.ireturn, 1) := by decide +kernel
theorem dX6_count_81 : decode cX6_count 81 = .ok (.iconst 0, 1) := by decide +kernel
theorem dX6_count_82 : decode cX6_count 82 = .ok (.istore_n 3, 1) := by decide +kernel
theorem dX6_count_83 : decode cX6_count 83 = .ok (.iload_n 3, 1) := by decide +kernel
theorem dX6_count_84 : decode cX6_count 84 = .ok (.bipush 6, 2) := by decide +kernel
theorem dX6_count_86 : decode cX6_count 86 = .ok (.if_icmp .ge 40, 3) := by decide +kernel
theorem dX6_count_89 : decode cX6_count 89 = .ok (.iload_n 2, 1) := by decide +kernel
theorem dX6_count_90 : decode cX6_count 90 = .ok (.aload_n 0, 1) := by decide +kernel
theorem dX6_count_91 : decode cX6_count 91 = .ok (.getfield 19, 3) := by decide +kernel
theorem dX6_count_94 : decode cX6_count 94 = .ok (.iload_n 3, 1) := by decide +kernel
theorem dX6_count_95 : decode cX6_count 95 = .ok (.iaload, 1) := by decide +kernel
theorem dX6_count_96 : decode cX6_count 96 = .ok (.ifCond .le 21, 3) := by decide +kernel
theorem dX6_count_99 : decode cX6_count 99 = .ok (.aload_n 0, 1) := by decide +kernel
theorem dX6_count_100 : decode cX6_count 100 = .ok (.iload_n 3, 1) := by decide +kernel
theorem dX6_count_101 : decode cX6_count 101 = .ok (.invokevirtual 119, 3) := by decide +kernel
theorem dX6_count_104 : decode cX6_count 104 = .ok (.iload_n 1, 1) := by decide +kernel
theorem dX6_count_105 : decode cX6_count 105 = .ok (.iconst 1, 1) := by decide +kernel
theorem dX6_count_106 : decode cX6_count 106 = .ok (.isub, 1) := by decide +kernel
theorem dX6_count_107 : decode cX6_count 107 = .ok (.invokestatic 127, 3) := by decide +kernel
theorem dX6_count_110 : decode cX6_count 110 = .ok (.ifCond .eq 7, 3) := by decide +kernel
theorem dX6_count_113 : decode cX6_count 113 = .ok (.iconst 1, 1) := by decide +kernel
theorem dX6_count_114 : decode cX6_count 114 = .ok (.goto 4, 3) := by decide +kernel
theorem dX6_count_117 : decode cX6_count 117 = .ok (.iconst 0, 1) := by decide +kernel
theorem dX6_count_118 : decode cX6_count 118 = .ok (.iadd, 1) := by decide +kernel
theorem dX6_count_119 : decode cX6_count 119 = .ok (.istore_n 2, 1) := by decide +kernel
theorem dX6_count_120 : decode cX6_count 120 = .ok (.iinc 3 1, 3) := by decide +kernel
theorem dX6_count_123 : decode cX6_count 123 = .ok (.goto (-40), 3) := by decide +kernel
theorem dX6_count_126 : decode cX6_count 126 = .ok (.iload_n 2, 1) := by decide +kernel
theorem dX6_count_127 : decode cX6_count 127 = .ok (.ireturn, 1) := by decide +kernel
theorem dX6_count_128 : decode cX6_count 128 = .ok (.iconst 0, 1) := by decide +kernel
theorem dX6_count_129 : decode cX6_count 129 = .ok (.istore_n 3, 1) := by decide +kernel
theorem dX6_count_130 : decode cX6_count 130 = .ok (.iload_n 3, 1) := by decide +kernel
theorem dX6_count_131 : decode cX6_count 131 = .ok (.bipush 6, 2) := by decide +kernel
theorem dX6_count_133 : decode cX6_count 133 = .ok (.if_icmp .ge 17, 3) := by decide +kernel
theorem dX6_count_136 : decode cX6_count 136 = .ok (.iload_n 2, 1) := by decide +kernel
theorem dX6_count_137 : decode cX6_count 137 = .ok (.aload_n 0, 1) := by decide +kernel
theorem dX6_count_138 : decode cX6_count 138 = .ok (.iload_n 3, 1) := by decide +kernel
theorem dX6_count_139 : decode cX6_count 139 = .ok (.invokevirtual 138, 3) := by decide +kernel
theorem dX6_count_142 : decode cX6_count 142 = .ok (.iadd, 1) := by decide +kernel
theorem dX6_count_143 : decode cX6_count 143 = .ok (.istore_n 2, 1) := by decide +kernel
theorem dX6_count_144 : decode cX6_count 144 = .ok (.iinc 3 1, 3) := by decide +kernel
theorem dX6_count_147 : decode cX6_count 147 = .ok (.goto (-17), 3) := by decide +kernel
theorem dX6_count_150 : decode cX6_count 150 = .ok (.iload_n 2, 1) := by decide +kernel
theorem dX6_count_151 : decode cX6_count 151 = .ok (.ireturn, 1) := by decide +kernel
theorem dX6_count_152 : decode cX6_count 152 = .ok (.ldc 101, 2) := by decide +kernel
theorem dX6_count_154 : decode cX6_count 154 = .ok (.ireturn, 1) := by decide +kernel
theorem dX6_status_0 : decode cX6_status 0 = .ok (.aload_n 0, 1) := by decide +kernel
theorem dX6_status_1 : decode cX6_status 1 = .ok (.iconst 0, 1) := by decide +kernel
theorem dX6_status_2 : decode cX6_status 2 = .ok (.putfield 81, 3) := by decide +kernel
theorem dX6_status_5 : decode cX6_status 5 = .ok (.aload_n 0, 1) := by decide +kernel
theorem dX6_status_6 : decode cX6_status 6 = .ok (.getfield 85, 3) := by decide +kernel
theorem dX6_status_9 : decode cX6_status 9 = .ok (.ireturn, 1) := by decide +kernel
theorem dJ9_min_7cf53_0 : decode cJ9_min_7cf53 0 = .ok (.iload_n 0, 1) := by decide +kernel
theorem dJ9_min_7cf53_1 : decode cJ9_min_7cf53 1 = .ok (.iload_n 1, 1) := by decide +kernel
theorem dJ9_min_7cf53_2 : decode cJ9_min_7cf53 2 = .ok (.if_icmp .gt 7, 3) := by decide +kernel
theorem dJ9_min_7cf53_5 : decode cJ9_min_7cf53 5 = .ok (.iload_n 0, 1) := by decide +kernel
theorem dJ9_min_7cf53_6 : decode cJ9_min_7cf53 6 = .ok (.goto 4, 3) := by decide +kernel
theorem dJ9_min_7cf53_9 : decode cJ9_min_7cf53 9 = .ok (.iload_n 1, 1) := by decide +kernel
theorem dJ9_min_7cf53_10 : decode cJ9_min_7cf53 10 = .ok (.ireturn, 1) := by decide +kernel
theorem dJ7_fill_53178_0 : decode cJ7_fill_53178 0 = .ok (.iconst 0, 1) := by decide +kernel
theorem dJ7_fill_53178_1 : decode cJ7_fill_53178 1 = .ok (.istore_n 2, 1) := by decide +kernel
theorem dJ7_fill_53178_2 : decode cJ7_fill_53178 2 = .ok (.aload_n 0, 1) := by decide +kernel
theorem dJ7_fill_53178_3 : decode cJ7_fill_53178 3 = .ok (.arraylength, 1) := by decide +kernel
theorem dJ7_fill_53178_4 : decode cJ7_fill_53178 4 = .ok (.istore_n 3, 1) := by decide +kernel
theorem dJ7_fill_53178_5 : decode cJ7_fill_53178 5 = .ok (.iload_n 2, 1) := by decide +kernel
theorem dJ7_fill_53178_6 : decode cJ7_fill_53178 6 = .ok (.iload_n 3, 1) := by decide +kernel
theorem dJ7_fill_53178_7 : decode cJ7_fill_53178 7 = .ok (.if_icmp .ge 13, 3) := by decide +kernel
theorem dJ7_fill_53178_10 : decode cJ7_fill_53178 10 = .ok (.aload_n 0, 1) := by decide +kernel
theorem dJ7_fill_53178_11 : decode cJ7_fill_53178 11 = .ok (.iload_n 2, 1) := by decide +kernel
theorem dJ7_fill_53178_12 : decode cJ7_fill_53178 12 = .ok (.iload_n 1, 1) := by decide +kernel
theorem dJ7_fill_53178_13 : decode cJ7_fill_53178 13 = .ok (.iastore, 1) := by decide +kernel
theorem dJ7_fill_53178_14 : decode cJ7_fill_53178 14 = .ok (.iinc 2 1, 3) := by decide +kernel
theorem dJ7_fill_53178_17 : decode cJ7_fill_53178 17 = .ok (.goto (-12), 3) := by decide +kernel
theorem dJ7_fill_53178_20 : decode cJ7_fill_53178 20 = .ok (.return_, 1) := by decide +kernel

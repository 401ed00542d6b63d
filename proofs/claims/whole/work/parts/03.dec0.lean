theorem dX0_init_0 : decode cX0_init 0 = .ok (.aload_n 0, 1) := by decide +kernel
theorem dX0_init_1 : decode cX0_init 1 = .ok (.invokespecial 3, 3) := by decide +kernel
theorem dX0_init_4 : decode cX0_init 4 = .ok (.aload_n 0, 1) := by decide +kernel
theorem dX0_init_5 : decode cX0_init 5 = .ok (.bipush 40, 2) := by decide +kernel
theorem dX0_init_7 : decode cX0_init 7 = .ok (.newarray .int, 2) := by decide +kernel
theorem dX0_init_9 : decode cX0_init 9 = .ok (.putfield 9, 3) := by decide +kernel
theorem dX0_init_12 : decode cX0_init 12 = .ok (.return_, 1) := by decide +kernel
theorem dX0_sing_0 : decode cX0_sing 0 = .ok (.aload_n 0, 1) := by decide +kernel
theorem dX0_sing_1 : decode cX0_sing 1 = .ok (.aload_n 1, 1) := by decide +kernel
theorem dX0_sing_2 : decode cX0_sing 2 = .ok (.getfield 15, 3) := by decide +kernel
theorem dX0_sing_5 : decode cX0_sing 5 = .ok (.putfield 21, 3) := by decide +kernel
theorem dX0_sing_8 : decode cX0_sing 8 = .ok (.aload_n 0, 1) := by decide +kernel
theorem dX0_sing_9 : decode cX0_sing 9 = .ok (.aload_n 1, 1) := by decide +kernel
theorem dX0_sing_10 : decode cX0_sing 10 = .ok (.getfield 22, 3) := by decide +kernel
theorem dX0_sing_13 : decode cX0_sing 13 = .ok (.putfield 25, 3) := by decide +kernel
theorem dX0_sing_16 : decode cX0_sing 16 = .ok (.aload_n 0, 1) := by decide +kernel
theorem dX0_sing_17 : decode cX0_sing 17 = .ok (.iload_n 2, 1) := by decide +kernel
theorem dX0_sing_18 : decode cX0_sing 18 = .ok (.putfield 26, 3) := by decide +kernel
theorem dX0_sing_21 : decode cX0_sing 21 = .ok (.aload_n 0, 1) := by decide +kernel
theorem dX0_sing_22 : decode cX0_sing 22 = .ok (.iconst 0, 1) := by decide +kernel
theorem dX0_sing_23 : decode cX0_sing 23 = .ok (.putfield 29, 3) := by decide +kernel
theorem dX0_sing_26 : decode cX0_sing 26 = .ok (.aload_n 0, 1) := by decide +kernel
theorem dX0_sing_27 : decode cX0_sing 27 = .ok (.aload_n 0, 1) := by decide +kernel
theorem dX0_sing_28 : decode cX0_sing 28 = .ok (.getfield 21, 3) := by decide +kernel
theorem dX0_sing_31 : decode cX0_sing 31 = .ok (.iload_n 3, 1) := by decide +kernel
theorem dX0_sing_32 : decode cX0_sing 32 = .ok (.iload 4, 2) := by decide +kernel
theorem dX0_sing_34 : decode cX0_sing 34 = .ok (.iconst 0, 1) := by decide +kernel
theorem dX0_sing_35 : decode cX0_sing 35 = .ok (.invokevirtual 32, 3) := by decide +kernel
theorem dX0_sing_38 : decode cX0_sing 38 = .ok (.ireturn, 1) := by decide +kernel
theorem dX0_speak_0 : decode cX0_speak 0 = .ok (.iload 4, 2) := by decide +kernel
theorem dX0_speak_2 : decode cX0_speak 2 = .ok (.bipush 40, 2) := by decide +kernel
theorem dX0_speak_4 : decode cX0_speak 4 = .ok (.if_icmp .lt 5, 3) := by decide +kernel
theorem dX0_speak_7 : decode cX0_speak 7 = .ok (.iconst 0, 1) := by decide +kernel
theorem dX0_speak_8 : decode cX0_speak 8 = .ok (.ireturn, 1) := by decide +kernel
theorem dX0_speak_9 : decode cX0_speak 9 = .ok (.iload_n 1, 1) := by decide +kernel
theorem dX0_speak_10 : decode cX0_speak 10 = .ok (.iload_n 2, 1) := by decide +kernel
theorem dX0_speak_11 : decode cX0_speak 11 = .ok (.invokestatic 36, 3) := by decide +kernel
theorem dX0_speak_14 : decode cX0_speak 14 = .ok (.istore 5, 2) := by decide +kernel
theorem dX0_speak_16 : decode cX0_speak 16 = .ok (.aload_n 0, 1) := by decide +kernel
theorem dX0_speak_17 : decode cX0_speak 17 = .ok (.iload 5, 2) := by decide +kernel
theorem dX0_speak_19 : decode cX0_speak 19 = .ok (.invokevirtual 40, 3) := by decide +kernel
theorem dX0_speak_22 : decode cX0_speak 22 = .ok (.iload 4, 2) := by decide +kernel
theorem dX0_speak_24 : decode cX0_speak 24 = .ok (.iconst 1, 1) := by decide +kernel
theorem dX0_speak_25 : decode cX0_speak 25 = .ok (.iadd, 1) := by decide +kernel
theorem dX0_speak_26 : decode cX0_speak 26 = .ok (.istore 6, 2) := by decide +kernel
theorem dX0_speak_28 : decode cX0_speak 28 = .ok (.iload 5, 2) := by decide +kernel
theorem dX0_speak_30 : decode cX0_speak 30 = .ok (.lookupswitch 272 #[(10, 98), (11, 105), (12, 120), (13, 127), (20, 153), (30, 165), (40, 188), (50, 199), (60, 222), (70, 234), (71, 249)], 98) := by decide +kernel
theorem dX0_speak_128 : decode cX0_speak 128 = .ok (.iload_n 3, 1) := by decide +kernel
theorem dX0_speak_129 : decode cX0_speak 129 = .ok (.aload_n 0, 1) := by decide +kernel
theorem dX0_speak_130 : decode cX0_speak 130 = .ok (.getfield 26, 3) := by decide +kernel
theorem dX0_speak_133 : decode cX0_speak 133 = .ok (.iadd, 1) := by decide +kernel
theorem dX0_speak_134 : decode cX0_speak 134 = .ok (.ireturn, 1) := by decide +kernel
theorem dX0_speak_135 : decode cX0_speak 135 = .ok (.aload_n 0, 1) := by decide +kernel
theorem dX0_speak_136 : decode cX0_speak 136 = .ok (.aload_n 0, 1) := by decide +kernel
theorem dX0_speak_137 : decode cX0_speak 137 = .ok (.getfield 21, 3) := by decide +kernel
theorem dX0_speak_140 : decode cX0_speak 140 = .ok (.iconst 0, 1) := by decide +kernel
theorem dX0_speak_141 : decode cX0_speak 141 = .ok (.iload_n 3, 1) := by decide +kernel
theorem dX0_speak_142 : decode cX0_speak 142 = .ok (.iload 6, 2) := by decide +kernel
theorem dX0_speak_144 : decode cX0_speak 144 = .ok (.invokevirtual 32, 3) := by decide +kernel
theorem dX0_speak_147 : decode cX0_speak 147 = .ok (.iconst 2, 1) := by decide +kernel
theorem dX0_speak_148 : decode cX0_speak 148 = .ok (.imul, 1) := by decide +kernel
theorem dX0_speak_149 : decode cX0_speak 149 = .ok (.ireturn, 1) := by decide +kernel
theorem dX0_speak_150 : decode cX0_speak 150 = .ok (.iload_n 3, 1) := by decide +kernel
theorem dX0_speak_151 : decode cX0_speak 151 = .ok (.aload_n 0, 1) := by decide +kernel
theorem dX0_speak_152 : decode cX0_speak 152 = .ok (.getfield 25, 3) := by decide +kernel
theorem dX0_speak_155 : decode cX0_speak 155 = .ok (.isub, 1) := by decide +kernel
theorem dX0_speak_156 : decode cX0_speak 156 = .ok (.ireturn, 1) := by decide +kernel
theorem dX0_speak_157 : decode cX0_speak 157 = .ok (.aload_n 0, 1) := by decide +kernel
theorem dX0_speak_158 : decode cX0_speak 158 = .ok (.aload_n 0, 1) := by decide +kernel
theorem dX0_speak_159 : decode cX0_speak 159 = .ok (.getfield 21, 3) := by decide +kernel
theorem dX0_speak_162 : decode cX0_speak 162 = .ok (.iconst 1, 1) := by decide +kernel
theorem dX0_speak_163 : decode cX0_speak 163 = .ok (.iload_n 3, 1) := by decide +kernel
theorem dX0_speak_164 : decode cX0_speak 164 = .ok (.iload 6, 2) := by decide +kernel
theorem dX0_speak_166 : decode cX0_speak 166 = .ok (.invokevirtual 32, 3) := by decide +kernel
theorem dX0_speak_169 : decode cX0_speak 169 = .ok (.aload_n 0, 1) := by decide +kernel
theorem dX0_speak_170 : decode cX0_speak 170 = .ok (.aload_n 0, 1) := by decide +kernel
theorem dX0_speak_171 : decode cX0_speak 171 = .ok (.getfield 21, 3) := by decide +kernel
theorem dX0_speak_174 : decode cX0_speak 174 = .ok (.iconst 2, 1) := by decide +kernel
theorem dX0_speak_175 : decode cX0_speak 175 = .ok (.iload_n 3, 1) := by decide +kernel
theorem dX0_speak_176 : decode cX0_speak 176 = .ok (.iload 6, 2) := by decide +kernel
theorem dX0_speak_178 : decode cX0_speak 178 = .ok (.invokevirtual 32, 3) := by decide +kernel
theorem dX0_speak_181 : decode cX0_speak 181 = .ok (.ixor, 1) := by decide +kernel
theorem dX0_speak_182 : decode cX0_speak 182 = .ok (.ireturn, 1) := by decide +kernel
theorem dX0_speak_183 : decode cX0_speak 183 = .ok (.aload_n 0, 1) := by decide +kernel
theorem dX0_speak_184 : decode cX0_speak 184 = .ok (.iconst 0, 1) := by decide +kernel
theorem dX0_speak_185 : decode cX0_speak 185 = .ok (.iconst 0, 1) := by decide +kernel
theorem dX0_speak_186 : decode cX0_speak 186 = .ok (.iload_n 3, 1) := by decide +kernel
theorem dX0_speak_187 : decode cX0_speak 187 = .ok (.iload 6, 2) := by decide +kernel
theorem dX0_speak_189 : decode cX0_speak 189 = .ok (.invokevirtual 32, 3) := by decide +kernel
theorem dX0_speak_192 : decode cX0_speak 192 = .ok (.iconst 3, 1) := by decide +kernel
theorem dX0_speak_193 : decode cX0_speak 193 = .ok (.imul, 1) := by decide +kernel
theorem dX0_speak_194 : decode cX0_speak 194 = .ok (.ireturn, 1) := by decide +kernel
theorem dX0_speak_195 : decode cX0_speak 195 = .ok (.aload_n 0, 1) := by decide +kernel
theorem dX0_speak_196 : decode cX0_speak 196 = .ok (.iconst 0, 1) := by decide +kernel
theorem dX0_speak_197 : decode cX0_speak 197 = .ok (.iconst 1, 1) := by decide +kernel
theorem dX0_speak_198 : decode cX0_speak 198 = .ok (.iload_n 3, 1) := by decide +kernel
theorem dX0_speak_199 : decode cX0_speak 199 = .ok (.iload 6, 2) := by decide +kernel
theorem dX0_speak_201 : decode cX0_speak 201 = .ok (.invokevirtual 32, 3) := by decide +kernel
theorem dX0_speak_204 : decode cX0_speak 204 = .ok (.aload_n 0, 1) := by decide +kernel
theorem dX0_speak_205 : decode cX0_speak 205 = .ok (.aload_n 0, 1) := by decide +kernel
theorem dX0_speak_206 : decode cX0_speak 206 = .ok (.getfield 21, 3) := by decide +kernel
theorem dX0_speak_209 : decode cX0_speak 209 = .ok (.iconst 2, 1) := by decide +kernel
theorem dX0_speak_210 : decode cX0_speak 210 = .ok (.iconst 1, 1) := by decide +kernel
theorem dX0_speak_211 : decode cX0_speak 211 = .ok (.iload 6, 2) := by decide +kernel
theorem dX0_speak_213 : decode cX0_speak 213 = .ok (.invokevirtual 32, 3) := by decide +kernel
theorem dX0_speak_216 : decode cX0_speak 216 = .ok (.isub, 1) := by decide +kernel
theorem dX0_speak_217 : decode cX0_speak 217 = .ok (.ireturn, 1) := by decide +kernel
theorem dX0_speak_218 : decode cX0_speak 218 = .ok (.aload_n 0, 1) := by decide +kernel
theorem dX0_speak_219 : decode cX0_speak 219 = .ok (.iconst 0, 1) := by decide +kernel
theorem dX0_speak_220 : decode cX0_speak 220 = .ok (.iconst 2, 1) := by decide +kernel
theorem dX0_speak_221 : decode cX0_speak 221 = .ok (.iload_n 3, 1) := by decide +kernel
theorem dX0_speak_222 : decode cX0_speak 222 = .ok (.iload 6, 2) := by decide +kernel
theorem dX0_speak_224 : decode cX0_speak 224 = .ok (.invokevirtual 32, 3) := by decide +kernel
theorem dX0_speak_227 : decode cX0_speak 227 = .ok (.ineg, 1) := by decide +kernel
theorem dX0_speak_228 : decode cX0_speak 228 = .ok (.ireturn, 1) := by decide +kernel
theorem dX0_speak_229 : decode cX0_speak 229 = .ok (.aload_n 0, 1) := by decide +kernel
theorem dX0_speak_230 : decode cX0_speak 230 = .ok (.iconst 1, 1) := by decide +kernel
theorem dX0_speak_231 : decode cX0_speak 231 = .ok (.iconst 3, 1) := by decide +kernel
theorem dX0_speak_232 : decode cX0_speak 232 = .ok (.iload_n 3, 1) := by decide +kernel
theorem dX0_speak_233 : decode cX0_speak 233 = .ok (.iload 6, 2) := by decide +kernel
theorem dX0_speak_235 : decode cX0_speak 235 = .ok (.invokevirtual 32, 3) := by decide +kernel
theorem dX0_speak_238 : decode cX0_speak 238 = .ok (.aload_n 0, 1) := by decide +kernel
theorem dX0_speak_239 : decode cX0_speak 239 = .ok (.aload_n 0, 1) := by decide +kernel
theorem dX0_speak_240 : decode cX0_speak 240 = .ok (.getfield 21, 3) := by decide +kernel
theorem dX0_speak_243 : decode cX0_speak 243 = .ok (.iconst 0, 1) := by decide +kernel
theorem dX0_speak_244 : decode cX0_speak 244 = .ok (.iconst 2, 1) := by decide +kernel
theorem dX0_speak_245 : decode cX0_speak 245 = .ok (.iload 6, 2) := by decide +kernel
theorem dX0_speak_247 : decode cX0_speak 247 = .ok (.invokevirtual 32, 3) := by decide +kernel
theorem dX0_speak_250 : decode cX0_speak 250 = .ok (.isub, 1) := by decide +kernel
theorem dX0_speak_251 : decode cX0_speak 251 = .ok (.ireturn, 1) := by decide +kernel
theorem dX0_speak_252 : decode cX0_speak 252 = .ok (.aload_n 0, 1) := by decide +kernel
theorem dX0_speak_253 : decode cX0_speak 253 = .ok (.iconst 2, 1) := by decide +kernel
theorem dX0_speak_254 : decode cX0_speak 254 = .ok (.iconst 1, 1) := by decide +kernel
theorem dX0_speak_255 : decode cX0_speak 255 = .ok (.iload_n 3, 1) := by decide +kernel
theorem dX0_speak_256 : decode cX0_speak 256 = .ok (.iconst 1, 1) := by decide +kernel
theorem dX0_speak_257 : decode cX0_speak 257 = .ok (.iadd, 1) := by decide +kernel
theorem dX0_speak_258 : decode cX0_speak 258 = .ok (.iload 6, 2) := by decide +kernel
theorem dX0_speak_260 : decode cX0_speak 260 = .ok (.invokevirtual 32, 3) := by decide +kernel
theorem dX0_speak_263 : decode cX0_speak 263 = .ok (.ireturn, 1) := by decide +kernel
theorem dX0_speak_264 : decode cX0_speak 264 = .ok (.aload_n 0, 1) := by decide +kernel
theorem dX0_speak_265 : decode cX0_speak 265 = .ok (.iconst 3, 1) := by decide +kernel
theorem dX0_speak_266 : decode cX0_speak 266 = .ok (.iconst 2, 1) := by decide +kernel
theorem dX0_speak_267 : decode cX0_speak 267 = .ok (.iload_n 3, 1) := by decide +kernel
theorem dX0_speak_268 : decode cX0_speak 268 = .ok (.iload 6, 2) := by decide +kernel
theorem dX0_speak_270 : decode cX0_speak 270 = .ok (.invokevirtual 32, 3) := by decide +kernel
theorem dX0_speak_273 : decode cX0_speak 273 = .ok (.aload_n 0, 1) := by decide +kernel
theorem dX0_speak_274 : decode cX0_speak 274 = .ok (.getfield 26, 3) := by decide +kernel
theorem dX0_speak_277 : decode cX0_speak 277 = .ok (.ixor, 1) := by decide +kernel
theorem dX0_speak_278 : decode cX0_speak 278 = .ok (.ireturn, 1) := by decide +kernel
theorem dX0_speak_279 : decode cX0_speak 279 = .ok (.aload_n 0, 1) := by decide +kernel
theorem dX0_speak_280 : decode cX0_speak 280 = .ok (.aload_n 0, 1) := by decide +kernel
theorem dX0_speak_281 : decode cX0_speak 281 = .ok (.getfield 21, 3) := by decide +kernel
theorem dX0_speak_284 : decode cX0_speak 284 = .ok (.iconst 1, 1) := by decide +kernel
theorem dX0_speak_285 : decode cX0_speak 285 = .ok (.iload_n 3, 1) := by decide +kernel
theorem dX0_speak_286 : decode cX0_speak 286 = .ok (.iload 6, 2) := by decide +kernel
theorem dX0_speak_288 : decode cX0_speak 288 = .ok (.invokevirtual 32, 3) := by decide +kernel
theorem dX0_speak_291 : decode cX0_speak 291 = .ok (.aload_n 0, 1) := by decide +kernel
theorem dX0_speak_292 : decode cX0_speak 292 = .ok (.iconst 3, 1) := by decide +kernel
theorem dX0_speak_293 : decode cX0_speak 293 = .ok (.iconst 3, 1) := by decide +kernel
theorem dX0_speak_294 : decode cX0_speak 294 = .ok (.iload_n 3, 1) := by decide +kernel
theorem dX0_speak_295 : decode cX0_speak 295 = .ok (.iload 6, 2) := by decide +kernel
theorem dX0_speak_297 : decode cX0_speak 297 = .ok (.invokevirtual 32, 3) := by decide +kernel
theorem dX0_speak_300 : decode cX0_speak 300 = .ok (.isub, 1) := by decide +kernel
theorem dX0_speak_301 : decode cX0_speak 301 = .ok (.ireturn, 1) := by decide +kernel
theorem dX0_speak_302 : decode cX0_speak 302 = .ok (.iconst 0, 1) := by decide +kernel
theorem dX0_speak_303 : decode cX0_speak 303 = .ok (.ireturn, 1) := by decide +kernel
theorem dX0_bodyFrom_0 : decode cX0_bodyFrom 0 = .ok (.iload_n 0, 1) := by decide +kernel
theorem dX0_bodyFrom_1 : decode cX0_bodyFrom 1 = .ok (.istore_n 2, 1) := by decide +kernel
theorem dX0_bodyFrom_2 : decode cX0_bodyFrom 2 = .ok (.iconst 0, 1) := by decide +kernel
theorem dX0_bodyFrom_3 : decode cX0_bodyFrom 3 = .ok (.istore_n 3, 1) := by decide +kernel
theorem dX0_bodyFrom_4 : decode cX0_bodyFrom 4 = .ok (.iload_n 3, 1) := by decide +kernel
theorem dX0_bodyFrom_5 : decode cX0_bodyFrom 5 = .ok (.bipush 7, 2) := by decide +kernel
theorem dX0_bodyFrom_7 : decode cX0_bodyFrom 7 = .ok (.if_icmp .ge 43, 3) := by decide +kernel
theorem dX0_bodyFrom_10 : decode cX0_bodyFrom 10 = .ok (.iload_n 2, 1) := by decide +kernel
theorem dX0_bodyFrom_11 : decode cX0_bodyFrom 11 = .ok (.ifCond .lt 39, 3) := by decide +kernel
theorem dX0_bodyFrom_14 : decode cX0_bodyFrom 14 = .ok (.iload_n 2, 1) := by decide +kernel
theorem dX0_bodyFrom_15 : decode cX0_bodyFrom 15 = .ok (.bipush 7, 2) := by decide +kernel
theorem dX0_bodyFrom_17 : decode cX0_bodyFrom 17 = .ok (.if_icmp .ge 33, 3) := by decide +kernel
theorem dX0_bodyFrom_20 : decode cX0_bodyFrom 20 = .ok (.getstatic 44, 3) := by decide +kernel
theorem dX0_bodyFrom_23 : decode cX0_bodyFrom 23 = .ok (.iload_n 2, 1) := by decide +kernel
theorem dX0_bodyFrom_24 : decode cX0_bodyFrom 24 = .ok (.iconst 4, 1) := by decide +kernel
theorem dX0_bodyFrom_25 : decode cX0_bodyFrom 25 = .ok (.imul, 1) := by decide +kernel
theorem dX0_bodyFrom_26 : decode cX0_bodyFrom 26 = .ok (.iload_n 1, 1) := by decide +kernel
theorem dX0_bodyFrom_27 : decode cX0_bodyFrom 27 = .ok (.iadd, 1) := by decide +kernel
theorem dX0_bodyFrom_28 : decode cX0_bodyFrom 28 = .ok (.iaload, 1) := by decide +kernel
theorem dX0_bodyFrom_29 : decode cX0_bodyFrom 29 = .ok (.istore 4, 2) := by decide +kernel
theorem dX0_bodyFrom_31 : decode cX0_bodyFrom 31 = .ok (.iload 4, 2) := by decide +kernel
theorem dX0_bodyFrom_33 : decode cX0_bodyFrom 33 = .ok (.ifCond .eq 6, 3) := by decide +kernel
theorem dX0_bodyFrom_36 : decode cX0_bodyFrom 36 = .ok (.iload 4, 2) := by decide +kernel
theorem dX0_bodyFrom_38 : decode cX0_bodyFrom 38 = .ok (.ireturn, 1) := by decide +kernel
theorem dX0_bodyFrom_39 : decode cX0_bodyFrom 39 = .ok (.iload_n 2, 1) := by decide +kernel
theorem dX0_bodyFrom_40 : decode cX0_bodyFrom 40 = .ok (.invokestatic 47, 3) := by decide +kernel
theorem dX0_bodyFrom_43 : decode cX0_bodyFrom 43 = .ok (.istore_n 2, 1) := by decide +kernel
theorem dX0_bodyFrom_44 : decode cX0_bodyFrom 44 = .ok (.iinc 3 1, 3) := by decide +kernel
theorem dX0_bodyFrom_47 : decode cX0_bodyFrom 47 = .ok (.goto (-43), 3) := by decide +kernel
theorem dX0_bodyFrom_50 : decode cX0_bodyFrom 50 = .ok (.iconst 0, 1) := by decide +kernel
theorem dX0_bodyFrom_51 : decode cX0_bodyFrom 51 = .ok (.ireturn, 1) := by decide +kernel
theorem dX0_note_0 : decode cX0_note 0 = .ok (.aload_n 0, 1) := by decide +kernel
theorem dX0_note_1 : decode cX0_note 1 = .ok (.getfield 29, 3) := by decide +kernel
theorem dX0_note_4 : decode cX0_note 4 = .ok (.bipush 40, 2) := by decide +kernel
theorem dX0_note_6 : decode cX0_note 6 = .ok (.if_icmp .ge 23, 3) := by decide +kernel
theorem dX0_note_9 : decode cX0_note 9 = .ok (.aload_n 0, 1) := by decide +kernel
theorem dX0_note_10 : decode cX0_note 10 = .ok (.getfield 9, 3) := by decide +kernel
theorem dX0_note_13 : decode cX0_note 13 = .ok (.aload_n 0, 1) := by decide +kernel
theorem dX0_note_14 : decode cX0_note 14 = .ok (.getfield 29, 3) := by decide +kernel
theorem dX0_note_17 : decode cX0_note 17 = .ok (.iload_n 1, 1) := by decide +kernel
theorem dX0_note_18 : decode cX0_note 18 = .ok (.iastore, 1) := by decide +kernel
theorem dX0_note_19 : decode cX0_note 19 = .ok (.aload_n 0, 1) := by decide +kernel
theorem dX0_note_20 : decode cX0_note 20 = .ok (.dup, 1) := by decide +kernel
theorem dX0_note_21 : decode cX0_note 21 = .ok (.getfield 29, 3) := by decide +kernel
theorem dX0_note_24 : decode cX0_note 24 = .ok (.iconst 1, 1) := by decide +kernel
theorem dX0_note_25 : decode cX0_note 25 = .ok (.iadd, 1) := by decide +kernel
theorem dX0_note_26 : decode cX0_note 26 = .ok (.putfield 29, 3) := by decide +kernel
theorem dX0_note_29 : decode cX0_note 29 = .ok (.return_, 1) := by decide +kernel
theorem dX1_init_0 : decode cX1_init 0 = .ok (.aload_n 0, 1) := by decide +kernel
theorem dX1_init_1 : decode cX1_init 1 = .ok (.invokespecial 3, 3) := by decide +kernel
theorem dX1_init_4 : decode cX1_init 4 = .ok (.return_, 1) := by decide +kernel
theorem dX1_begin_0 : decode cX1_begin 0 = .ok (.aload_n 0, 1) := by decide +kernel
theorem dX1_begin_1 : decode cX1_begin 1 = .ok (.iload_n 1, 1) := by decide +kernel
theorem dX1_begin_2 : decode cX1_begin 2 = .ok (.invokevirtual 9, 3) := by decide +kernel
theorem dX1_begin_5 : decode cX1_begin 5 = .ok (.aload_n 0, 1) := by decide +kernel
theorem dX1_begin_6 : decode cX1_begin 6 = .ok (.iload_n 2, 1) := by decide +kernel
theorem dX1_begin_7 : decode cX1_begin 7 = .ok (.putfield 15, 3) := by decide +kernel
theorem dX1_begin_10 : decode cX1_begin 10 = .ok (.aload_n 0, 1) := by decide +kernel
theorem dX1_begin_11 : decode cX1_begin 11 = .ok (.iconst 0, 1) := by decide +kernel
theorem dX1_begin_12 : decode cX1_begin 12 = .ok (.putfield 19, 3) := by decide +kernel
theorem dX1_begin_15 : decode cX1_begin 15 = .ok (.aload_n 0, 1) := by decide +kernel
theorem dX1_begin_16 : decode cX1_begin 16 = .ok (.iconst 0, 1) := by decide +kernel
theorem dX1_begin_17 : decode cX1_begin 17 = .ok (.putfield 22, 3) := by decide +kernel
theorem dX1_begin_20 : decode cX1_begin 20 = .ok (.return_, 1) := by decide +kernel
theorem dX1_makeOf_0 : decode cX1_makeOf 0 = .ok (.aload_n 0, 1) := by decide +kernel
theorem dX1_makeOf_1 : decode cX1_makeOf 1 = .ok (.iload_n 1, 1) := by decide +kernel
theorem dX1_makeOf_2 : decode cX1_makeOf 2 = .ok (.bipush 10, 2) := by decide +kernel
theorem dX1_makeOf_4 : decode cX1_makeOf 4 = .ok (.idiv, 1) := by decide +kernel
theorem dX1_makeOf_5 : decode cX1_makeOf 5 = .ok (.putfield 25, 3) := by decide +kernel
theorem dX1_makeOf_8 : decode cX1_makeOf 8 = .ok (.aload_n 0, 1) := by decide +kernel
theorem dX1_makeOf_9 : decode cX1_makeOf 9 = .ok (.iload_n 1, 1) := by decide +kernel
theorem dX1_makeOf_10 : decode cX1_makeOf 10 = .ok (.bipush 10, 2) := by decide +kernel
theorem dX1_makeOf_12 : decode cX1_makeOf 12 = .ok (.irem, 1) := by decide +kernel
theorem dX1_makeOf_13 : decode cX1_makeOf 13 = .ok (.putfield 28, 3) := by decide +kernel
theorem dX1_makeOf_16 : decode cX1_makeOf 16 = .ok (.return_, 1) := by decide +kernel
theorem dX1_copyFrom_0 : decode cX1_copyFrom 0 = .ok (.aload_n 0, 1) := by decide +kernel
theorem dX1_copyFrom_1 : decode cX1_copyFrom 1 = .ok (.aload_n 1, 1) := by decide +kernel
theorem dX1_copyFrom_2 : decode cX1_copyFrom 2 = .ok (.getfield 25, 3) := by decide +kernel
theorem dX1_copyFrom_5 : decode cX1_copyFrom 5 = .ok (.putfield 25, 3) := by decide +kernel
theorem dX1_copyFrom_8 : decode cX1_copyFrom 8 = .ok (.aload_n 0, 1) := by decide +kernel
theorem dX1_copyFrom_9 : decode cX1_copyFrom 9 = .ok (.aload_n 1, 1) := by decide +kernel
theorem dX1_copyFrom_10 : decode cX1_copyFrom 10 = .ok (.getfield 28, 3) := by decide +kernel
theorem dX1_copyFrom_13 : decode cX1_copyFrom 13 = .ok (.putfield 28, 3) := by decide +kernel
theorem dX1_copyFrom_16 : decode cX1_copyFrom 16 = .ok (.aload_n 0, 1) := by decide +kernel
theorem dX1_copyFrom_17 : decode cX1_copyFrom 17 = .ok (.aload_n 1, 1) := by decide +kernel
theorem dX1_copyFrom_18 : decode cX1_copyFrom 18 = .ok (.getfield 15, 3) := by decide +kernel
theorem dX1_copyFrom_21 : decode cX1_copyFrom 21 = .ok (.putfield 15, 3) := by decide +kernel
theorem dX1_copyFrom_24 : decode cX1_copyFrom 24 = .ok (.aload_n 0, 1) := by decide +kernel
theorem dX1_copyFrom_25 : decode cX1_copyFrom 25 = .ok (.aload_n 1, 1) := by decide +kernel
theorem dX1_copyFrom_26 : decode cX1_copyFrom 26 = .ok (.getfield 19, 3) := by decide +kernel
theorem dX1_copyFrom_29 : decode cX1_copyFrom 29 = .ok (.putfield 19, 3) := by decide +kernel
theorem dX1_copyFrom_32 : decode cX1_copyFrom 32 = .ok (.aload_n 0, 1) := by decide +kernel
theorem dX1_copyFrom_33 : decode cX1_copyFrom 33 = .ok (.aload_n 1, 1) := by decide +kernel
theorem dX1_copyFrom_34 : decode cX1_copyFrom 34 = .ok (.getfield 22, 3) := by decide +kernel
theorem dX1_copyFrom_37 : decode cX1_copyFrom 37 = .ok (.putfield 22, 3) := by decide +kernel
theorem dX1_copyFrom_40 : decode cX1_copyFrom 40 = .ok (.return_, 1) := by decide +kernel
theorem dX1_isOf_0 : decode cX1_isOf 0 = .ok (.aload_n 0, 1) := by decide +kernel
theorem dX1_isOf_1 : decode cX1_isOf 1 = .ok (.getfield 25, 3) := by decide +kernel
theorem dX1_isOf_4 : decode cX1_isOf 4 = .ok (.istore_n 2, 1) := by decide +kernel
theorem dX1_isOf_5 : decode cX1_isOf 5 = .ok (.iconst 0, 1) := by decide +kernel
theorem dX1_isOf_6 : decode cX1_isOf 6 = .ok (.istore_n 3, 1) := by decide +kernel
theorem dX1_isOf_7 : decode cX1_isOf 7 = .ok (.iload_n 3, 1) := by decide +kernel
theorem dX1_isOf_8 : decode cX1_isOf 8 = .ok (.bipush 7, 2) := by decide +kernel
theorem dX1_isOf_10 : decode cX1_isOf 10 = .ok (.if_icmp .ge 26, 3) := by decide +kernel
theorem dX1_isOf_13 : decode cX1_isOf 13 = .ok (.iload_n 2, 1) := by decide +kernel
theorem dX1_isOf_14 : decode cX1_isOf 14 = .ok (.iconst (-1), 1) := by decide +kernel
theorem dX1_isOf_15 : decode cX1_isOf 15 = .ok (.if_icmp .eq 21, 3) := by decide +kernel
theorem dX1_isOf_18 : decode cX1_isOf 18 = .ok (.iload_n 2, 1) := by decide +kernel
theorem dX1_isOf_19 : decode cX1_isOf 19 = .ok (.iload_n 1, 1) := by decide +kernel
theorem dX1_isOf_20 : decode cX1_isOf 20 = .ok (.if_icmp .ne 5, 3) := by decide +kernel
theorem dX1_isOf_23 : decode cX1_isOf 23 = .ok (.iconst 1, 1) := by decide +kernel
theorem dX1_isOf_24 : decode cX1_isOf 24 = .ok (.ireturn, 1) := by decide +kernel
theorem dX1_isOf_25 : decode cX1_isOf 25 = .ok (.iload_n 2, 1) := by decide +kernel
theorem dX1_isOf_26 : decode cX1_isOf 26 = .ok (.invokestatic 31, 3) := by decide +kernel
theorem dX1_isOf_29 : decode cX1_isOf 29 = .ok (.istore_n 2, 1) := by decide +kernel
theorem dX1_isOf_30 : decode cX1_isOf 30 = .ok (.iinc 3 1, 3) := by decide +kernel
theorem dX1_isOf_33 : decode cX1_isOf 33 = .ok (.goto (-26), 3) := by decide +kernel
theorem dX1_isOf_36 : decode cX1_isOf 36 = .ok (.iconst 0, 1) := by decide +kernel
theorem dX1_isOf_37 : decode cX1_isOf 37 = .ok (.ireturn, 1) := by decide +kernel
theorem dX1_wantsMore_0 : decode cX1_wantsMore 0 = .ok (.iconst 0, 1) := by decide +kernel
theorem dX1_wantsMore_1 : decode cX1_wantsMore 1 = .ok (.istore_n 1, 1) := by decide +kernel
theorem dX1_wantsMore_2 : decode cX1_wantsMore 2 = .ok (.aload_n 0, 1) := by decide +kernel
theorem dX1_wantsMore_3 : decode cX1_wantsMore 3 = .ok (.getfield 25, 3) := by decide +kernel
theorem dX1_wantsMore_6 : decode cX1_wantsMore 6 = .ok (.istore_n 2, 1) := by decide +kernel
theorem dX1_wantsMore_7 : decode cX1_wantsMore 7 = .ok (.iconst 0, 1) := by decide +kernel
theorem dX1_wantsMore_8 : decode cX1_wantsMore 8 = .ok (.istore_n 3, 1) := by decide +kernel
theorem dX1_wantsMore_9 : decode cX1_wantsMore 9 = .ok (.iload_n 3, 1) := by decide +kernel
theorem dX1_wantsMore_10 : decode cX1_wantsMore 10 = .ok (.bipush 7, 2) := by decide +kernel
theorem dX1_wantsMore_12 : decode cX1_wantsMore 12 = .ok (.if_icmp .ge 27, 3) := by decide +kernel
theorem dX1_wantsMore_15 : decode cX1_wantsMore 15 = .ok (.iload_n 2, 1) := by decide +kernel
theorem dX1_wantsMore_16 : decode cX1_wantsMore 16 = .ok (.iconst (-1), 1) := by decide +kernel
theorem dX1_wantsMore_17 : decode cX1_wantsMore 17 = .ok (.if_icmp .eq 22, 3) := by decide +kernel
theorem dX1_wantsMore_20 : decode cX1_wantsMore 20 = .ok (.iload_n 1, 1) := by decide +kernel
theorem dX1_wantsMore_21 : decode cX1_wantsMore 21 = .ok (.aload_n 0, 1) := by decide +kernel
theorem dX1_wantsMore_22 : decode cX1_wantsMore 22 = .ok (.iload_n 2, 1) := by decide +kernel
theorem dX1_wantsMore_23 : decode cX1_wantsMore 23 = .ok (.invokevirtual 35, 3) := by decide +kernel
theorem dX1_wantsMore_26 : decode cX1_wantsMore 26 = .ok (.iadd, 1) := by decide +kernel
theorem dX1_wantsMore_27 : decode cX1_wantsMore 27 = .ok (.istore_n 1, 1) := by decide +kernel
theorem dX1_wantsMore_28 : decode cX1_wantsMore 28 = .ok (.iload_n 2, 1) := by decide +kernel
theorem dX1_wantsMore_29 : decode cX1_wantsMore 29 = .ok (.invokestatic 31, 3) := by decide +kernel
theorem dX1_wantsMore_32 : decode cX1_wantsMore 32 = .ok (.istore_n 2, 1) := by decide +kernel
theorem dX1_wantsMore_33 : decode cX1_wantsMore 33 = .ok (.iinc 3 1, 3) := by decide +kernel
theorem dX1_wantsMore_36 : decode cX1_wantsMore 36 = .ok (.goto (-27), 3) := by decide +kernel
theorem dX1_wantsMore_39 : decode cX1_wantsMore 39 = .ok (.iload_n 1, 1) := by decide +kernel
theorem dX1_wantsMore_40 : decode cX1_wantsMore 40 = .ok (.ireturn, 1) := by decide +kernel
theorem dX1_wantsMoreAs_0 : decode cX1_wantsMoreAs 0 = .ok (.iload_n 1, 1) := by decide +kernel
theorem dX1_wantsMoreAs_1 : decode cX1_wantsMoreAs 1 = .ok (.tableswitch 62 1 5 #[35, 38, 45, 52, 54], 35) := by decide +kernel
theorem dX1_wantsMoreAs_36 : decode cX1_wantsMoreAs 36 = .ok (.bipush (-2), 2) := by decide +kernel
theorem dX1_wantsMoreAs_38 : decode cX1_wantsMoreAs 38 = .ok (.ireturn, 1) := by decide +kernel
theorem dX1_wantsMoreAs_39 : decode cX1_wantsMoreAs 39 = .ok (.aload_n 0, 1) := by decide +kernel
theorem dX1_wantsMoreAs_40 : decode cX1_wantsMoreAs 40 = .ok (.getfield 15, 3) := by decide +kernel
theorem dX1_wantsMoreAs_43 : decode cX1_wantsMoreAs 43 = .ok (.iconst 2, 1) := by decide +kernel
theorem dX1_wantsMoreAs_44 : decode cX1_wantsMoreAs 44 = .ok (.idiv, 1) := by decide +kernel
theorem dX1_wantsMoreAs_45 : decode cX1_wantsMoreAs 45 = .ok (.ireturn, 1) := by decide +kernel
theorem dX1_wantsMoreAs_46 : decode cX1_wantsMoreAs 46 = .ok (.aload_n 0, 1) := by decide +kernel
theorem dX1_wantsMoreAs_47 : decode cX1_wantsMoreAs 47 = .ok (.getfield 28, 3) := by decide +kernel
theorem dX1_wantsMoreAs_50 : decode cX1_wantsMoreAs 50 = .ok (.iconst 3, 1) := by decide +kernel
theorem dX1_wantsMoreAs_51 : decode cX1_wantsMoreAs 51 = .ok (.irem, 1) := by decide +kernel
theorem dX1_wantsMoreAs_52 : decode cX1_wantsMoreAs 52 = .ok (.ireturn, 1) := by decide +kernel
theorem dX1_wantsMoreAs_53 : decode cX1_wantsMoreAs 53 = .ok (.iconst 1, 1) := by decide +kernel
theorem dX1_wantsMoreAs_54 : decode cX1_wantsMoreAs 54 = .ok (.ireturn, 1) := by decide +kernel
theorem dX1_wantsMoreAs_55 : decode cX1_wantsMoreAs 55 = .ok (.aload_n 0, 1) := by decide +kernel
theorem dX1_wantsMoreAs_56 : decode cX1_wantsMoreAs 56 = .ok (.getfield 28, 3) := by decide +kernel
theorem dX1_wantsMoreAs_59 : decode cX1_wantsMoreAs 59 = .ok (.iconst 2, 1) := by decide +kernel
theorem dX1_wantsMoreAs_60 : decode cX1_wantsMoreAs 60 = .ok (.irem, 1) := by decide +kernel
theorem dX1_wantsMoreAs_61 : decode cX1_wantsMoreAs 61 = .ok (.ineg, 1) := by decide +kernel
theorem dX1_wantsMoreAs_62 : decode cX1_wantsMoreAs 62 = .ok (.ireturn, 1) := by decide +kernel
theorem dX1_wantsMoreAs_63 : decode cX1_wantsMoreAs 63 = .ok (.iconst 0, 1) := by decide +kernel
theorem dX1_wantsMoreAs_64 : decode cX1_wantsMoreAs 64 = .ok (.ireturn, 1) := by decide +kernel
theorem dX1_bears_0 : decode cX1_bears 0 = .ok (.aload_n 0, 1) := by decide +kernel
theorem dX1_bears_1 : decode cX1_bears 1 = .ok (.getfield 25, 3) := by decide +kernel
theorem dX1_bears_4 : decode cX1_bears 4 = .ok (.tableswitch 57 1 6 #[40, 57, 44, 42, 46, 48], 40) := by decide +kernel
theorem dX1_bears_44 : decode cX1_bears 44 = .ok (.iconst 0, 1) := by decide +kernel
theorem dX1_bears_45 : decode cX1_bears 45 = .ok (.ireturn, 1) := by decide +kernel
theorem dX1_bears_46 : decode cX1_bears 46 = .ok (.iconst 0, 1) := by decide +kernel
theorem dX1_bears_47 : decode cX1_bears 47 = .ok (.ireturn, 1) := by decide +kernel
theorem dX1_bears_48 : decode cX1_bears 48 = .ok (.iconst 2, 1) := by decide +kernel
theorem dX1_bears_49 : decode cX1_bears 49 = .ok (.ireturn, 1) := by decide +kernel
theorem dX1_bears_50 : decode cX1_bears 50 = .ok (.iconst 2, 1) := by decide +kernel
theorem dX1_bears_51 : decode cX1_bears 51 = .ok (.ireturn, 1) := by decide +kernel
theorem dX1_bears_52 : decode cX1_bears 52 = .ok (.iconst 2, 1) := by decide +kernel
theorem dX1_bears_53 : decode cX1_bears 53 = .ok (.aload_n 0, 1) := by decide +kernel
theorem dX1_bears_54 : decode cX1_bears 54 = .ok (.getfield 28, 3) := by decide +kernel
theorem dX1_bears_57 : decode cX1_bears 57 = .ok (.iconst 4, 1) := by decide +kernel
theorem dX1_bears_58 : decode cX1_bears 58 = .ok (.idiv, 1) := by decide +kernel
theorem dX1_bears_59 : decode cX1_bears 59 = .ok (.iadd, 1) := by decide +kernel
theorem dX1_bears_60 : decode cX1_bears 60 = .ok (.ireturn, 1) := by decide +kernel
theorem dX1_bears_61 : decode cX1_bears 61 = .ok (.iconst 1, 1) := by decide +kernel
theorem dX1_bears_62 : decode cX1_bears 62 = .ok (.ireturn, 1) := by decide +kernel
theorem dX1_lintOfYard_0 : decode cX1_lintOfYard 0 = .ok (.aload_n 0, 1) := by decide +kernel
theorem dX1_lintOfYard_1 : decode cX1_lintOfYard 1 = .ok (.getfield 25, 3) := by decide +kernel
theorem dX1_lintOfYard_4 : decode cX1_lintOfYard 4 = .ok (.tableswitch 42 2 6 #[38, 42, 42, 40, 36], 36) := by decide +kernel
theorem dX1_lintOfYard_40 : decode cX1_lintOfYard 40 = .ok (.iconst 0, 1) := by decide +kernel
theorem dX1_lintOfYard_41 : decode cX1_lintOfYard 41 = .ok (.ireturn, 1) := by decide +kernel
theorem dX1_lintOfYard_42 : decode cX1_lintOfYard 42 = .ok (.iconst 2, 1) := by decide +kernel
theorem dX1_lintOfYard_43 : decode cX1_lintOfYard 43 = .ok (.ireturn, 1) := by decide +kernel
theorem dX1_lintOfYard_44 : decode cX1_lintOfYard 44 = .ok (.iconst 2, 1) := by decide +kernel
theorem dX1_lintOfYard_45 : decode cX1_lintOfYard 45 = .ok (.ireturn, 1) := by decide +kernel
theorem dX1_lintOfYard_46 : decode cX1_lintOfYard 46 = .ok (.iconst 1, 1) := by decide +kernel
theorem dX1_lintOfYard_47 : decode cX1_lintOfYard 47 = .ok (.ireturn, 1) := by decide +kernel
theorem dX2_init_0 : decode cX2_init 0 = .ok (.aload_n 0, 1) := by decide +kernel
theorem dX2_init_1 : decode cX2_init 1 = .ok (.invokespecial 3, 3) := by decide +kernel
theorem dX2_init_4 : decode cX2_init 4 = .ok (.aload_n 0, 1) := by decide +kernel
theorem dX2_init_5 : decode cX2_init 5 = .ok (.bipush 100, 2) := by decide +kernel
theorem dX2_init_7 : decode cX2_init 7 = .ok (.newarray .int, 2) := by decide +kernel
theorem dX2_init_9 : decode cX2_init 9 = .ok (.putfield 9, 3) := by decide +kernel
theorem dX2_init_12 : decode cX2_init 12 = .ok (.aload_n 0, 1) := by decide +kernel
theorem dX2_init_13 : decode cX2_init 13 = .ok (.aload_n 1, 1) := by decide +kernel
theorem dX2_init_14 : decode cX2_init 14 = .ok (.putfield 15, 3) := by decide +kernel
theorem dX2_init_17 : decode cX2_init 17 = .ok (.aload_n 0, 1) := by decide +kernel
theorem dX2_init_18 : decode cX2_init 18 = .ok (.aload_n 2, 1) := by decide +kernel
theorem dX2_init_19 : decode cX2_init 19 = .ok (.putfield 19, 3) := by decide +kernel
theorem dX2_init_22 : decode cX2_init 22 = .ok (.return_, 1) := by decide +kernel
theorem dX2_refresh_0 : decode cX2_refresh 0 = .ok (.aload_n 0, 1) := by decide +kernel
theorem dX2_refresh_1 : decode cX2_refresh 1 = .ok (.aload_n 0, 1) := by decide +kernel
theorem dX2_refresh_2 : decode cX2_refresh 2 = .ok (.getfield 15, 3) := by decide +kernel
theorem dX2_refresh_5 : decode cX2_refresh 5 = .ok (.iconst 0, 1) := by decide +kernel
theorem dX2_refresh_6 : decode cX2_refresh 6 = .ok (.aload_n 0, 1) := by decide +kernel
theorem dX2_refresh_7 : decode cX2_refresh 7 = .ok (.getfield 19, 3) := by decide +kernel
theorem dX2_refresh_10 : decode cX2_refresh 10 = .ok (.getfield 23, 3) := by decide +kernel
theorem dX2_refresh_13 : decode cX2_refresh 13 = .ok (.aload_n 0, 1) := by decide +kernel
theorem dX2_refresh_14 : decode cX2_refresh 14 = .ok (.getfield 19, 3) := by decide +kernel
theorem dX2_refresh_17 : decode cX2_refresh 17 = .ok (.getfield 29, 3) := by decide +kernel
theorem dX2_refresh_20 : decode cX2_refresh 20 = .ok (.aload_n 0, 1) := by decide +kernel
theorem dX2_refresh_21 : decode cX2_refresh 21 = .ok (.getfield 19, 3) := by decide +kernel
theorem dX2_refresh_24 : decode cX2_refresh 24 = .ok (.getfield 32, 3) := by decide +kernel
theorem dX2_refresh_27 : decode cX2_refresh 27 = .ok (.invokevirtual 35, 3) := by decide +kernel
theorem dX2_refresh_30 : decode cX2_refresh 30 = .ok (.aload_n 0, 1) := by decide +kernel
theorem dX2_refresh_31 : decode cX2_refresh 31 = .ok (.getfield 19, 3) := by decide +kernel
theorem dX2_refresh_34 : decode cX2_refresh 34 = .ok (.invokevirtual 41, 3) := by decide +kernel
theorem dX2_refresh_37 : decode cX2_refresh 37 = .ok (.iadd, 1) := by decide +kernel
theorem dX2_refresh_38 : decode cX2_refresh 38 = .ok (.putfield 45, 3) := by decide +kernel
theorem dX2_refresh_41 : decode cX2_refresh 41 = .ok (.aload_n 0, 1) := by decide +kernel
theorem dX2_refresh_42 : decode cX2_refresh 42 = .ok (.aload_n 0, 1) := by decide +kernel
theorem dX2_refresh_43 : decode cX2_refresh 43 = .ok (.getfield 19, 3) := by decide +kernel
theorem dX2_refresh_46 : decode cX2_refresh 46 = .ok (.invokevirtual 48, 3) := by decide +kernel
theorem dX2_refresh_49 : decode cX2_refresh 49 = .ok (.putfield 51, 3) := by decide +kernel
theorem dX2_refresh_52 : decode cX2_refresh 52 = .ok (.aload_n 0, 1) := by decide +kernel
theorem dX2_refresh_53 : decode cX2_refresh 53 = .ok (.getfield 9, 3) := by decide +kernel
theorem dX2_refresh_56 : decode cX2_refresh 56 = .ok (.iconst (-1), 1) := by decide +kernel
theorem dX2_refresh_57 : decode cX2_refresh 57 = .ok (.invokestatic 53, 3) := by decide +kernel
theorem dX2_refresh_60 : decode cX2_refresh 60 = .ok (.return_, 1) := by decide +kernel
theorem dX2_off_0 : decode cX2_off 0 = .ok (.aload_n 1, 1) := by decide +kernel
theorem dX2_off_1 : decode cX2_off 1 = .ok (.getfield 59, 3) := by decide +kernel
theorem dX2_off_4 : decode cX2_off 4 = .ok (.aload_n 1, 1) := by decide +kernel
theorem dX2_off_5 : decode cX2_off 5 = .ok (.getfield 64, 3) := by decide +kernel
theorem dX2_off_8 : decode cX2_off 8 = .ok (.isub, 1) := by decide +kernel
theorem dX2_off_9 : decode cX2_off 9 = .ok (.aload_n 1, 1) := by decide +kernel
theorem dX2_off_10 : decode cX2_off 10 = .ok (.getfield 67, 3) := by decide +kernel
theorem dX2_off_13 : decode cX2_off 13 = .ok (.bipush 20, 2) := by decide +kernel
theorem dX2_off_15 : decode cX2_off 15 = .ok (.idiv, 1) := by decide +kernel
theorem dX2_off_16 : decode cX2_off 16 = .ok (.isub, 1) := by decide +kernel
theorem dX2_off_17 : decode cX2_off 17 = .ok (.aload_n 0, 1) := by decide +kernel
theorem dX2_off_18 : decode cX2_off 18 = .ok (.getfield 45, 3) := by decide +kernel
theorem dX2_off_21 : decode cX2_off 21 = .ok (.isub, 1) := by decide +kernel
theorem dX2_off_22 : decode cX2_off 22 = .ok (.ireturn, 1) := by decide +kernel
theorem dX2_shows_0 : decode cX2_shows 0 = .ok (.aload_n 1, 1) := by decide +kernel
theorem dX2_shows_1 : decode cX2_shows 1 = .ok (.getfield 70, 3) := by decide +kernel
theorem dX2_shows_4 : decode cX2_shows 4 = .ok (.ifCond .eq 5, 3) := by decide +kernel
theorem dX2_shows_7 : decode cX2_shows 7 = .ok (.iconst 4, 1) := by decide +kernel
theorem dX2_shows_8 : decode cX2_shows 8 = .ok (.ireturn, 1) := by decide +kernel
theorem dX2_shows_9 : decode cX2_shows 9 = .ok (.aload_n 1, 1) := by decide +kernel
theorem dX2_shows_10 : decode cX2_shows 10 = .ok (.getfield 73, 3) := by decide +kernel
theorem dX2_shows_13 : decode cX2_shows 13 = .ok (.iconst 2, 1) := by decide +kernel
theorem dX2_shows_14 : decode cX2_shows 14 = .ok (.if_icmp .eq 26, 3) := by decide +kernel
theorem dX2_shows_17 : decode cX2_shows 17 = .ok (.aload_n 1, 1) := by decide +kernel
theorem dX2_shows_18 : decode cX2_shows 18 = .ok (.getfield 73, 3) := by decide +kernel
theorem dX2_shows_21 : decode cX2_shows 21 = .ok (.iconst 1, 1) := by decide +kernel
theorem dX2_shows_22 : decode cX2_shows 22 = .ok (.if_icmp .ne 20, 3) := by decide +kernel
theorem dX2_shows_25 : decode cX2_shows 25 = .ok (.aload_n 1, 1) := by decide +kernel
theorem dX2_shows_26 : decode cX2_shows 26 = .ok (.getfield 76, 3) := by decide +kernel
theorem dX2_shows_29 : decode cX2_shows 29 = .ok (.aload_n 0, 1) := by decide +kernel
theorem dX2_shows_30 : decode cX2_shows 30 = .ok (.aload_n 1, 1) := by decide +kernel
theorem dX2_shows_31 : decode cX2_shows 31 = .ok (.getfield 67, 3) := by decide +kernel
theorem dX2_shows_34 : decode cX2_shows 34 = .ok (.invokevirtual 79, 3) := by decide +kernel
theorem dX2_shows_37 : decode cX2_shows 37 = .ok (.if_icmp .le 5, 3) := by decide +kernel
theorem dX2_shows_40 : decode cX2_shows 40 = .ok (.iconst 3, 1) := by decide +kernel
theorem dX2_shows_41 : decode cX2_shows 41 = .ok (.ireturn, 1) := by decide +kernel
theorem dX2_shows_42 : decode cX2_shows 42 = .ok (.aload_n 0, 1) := by decide +kernel
theorem dX2_shows_43 : decode cX2_shows 43 = .ok (.aload_n 1, 1) := by decide +kernel
theorem dX2_shows_44 : decode cX2_shows 44 = .ok (.invokevirtual 83, 3) := by decide +kernel
theorem dX2_shows_47 : decode cX2_shows 47 = .ok (.istore_n 2, 1) := by decide +kernel
theorem dX2_shows_48 : decode cX2_shows 48 = .ok (.iload_n 2, 1) := by decide +kernel
theorem dX2_shows_49 : decode cX2_shows 49 = .ok (.aload_n 0, 1) := by decide +kernel
theorem dX2_shows_50 : decode cX2_shows 50 = .ok (.getfield 51, 3) := by decide +kernel
theorem dX2_shows_53 : decode cX2_shows 53 = .ok (.ineg, 1) := by decide +kernel
theorem dX2_shows_54 : decode cX2_shows 54 = .ok (.if_icmp .ge 5, 3) := by decide +kernel
theorem dX2_shows_57 : decode cX2_shows 57 = .ok (.iconst 1, 1) := by decide +kernel
theorem dX2_shows_58 : decode cX2_shows 58 = .ok (.ireturn, 1) := by decide +kernel
theorem dX2_shows_59 : decode cX2_shows 59 = .ok (.iload_n 2, 1) := by decide +kernel
theorem dX2_shows_60 : decode cX2_shows 60 = .ok (.aload_n 0, 1) := by decide +kernel
theorem dX2_shows_61 : decode cX2_shows 61 = .ok (.getfield 51, 3) := by decide +kernel
theorem dX2_shows_64 : decode cX2_shows 64 = .ok (.if_icmp .le 7, 3) := by decide +kernel
theorem dX2_shows_67 : decode cX2_shows 67 = .ok (.iconst 2, 1) := by decide +kernel
theorem dX2_shows_68 : decode cX2_shows 68 = .ok (.goto 4, 3) := by decide +kernel
theorem dX2_shows_71 : decode cX2_shows 71 = .ok (.iconst 0, 1) := by decide +kernel
theorem dX2_shows_72 : decode cX2_shows 72 = .ok (.ireturn, 1) := by decide +kernel
theorem dX2_limitAt_0 : decode cX2_limitAt 0 = .ok (.iload_n 1, 1) := by decide +kernel
theorem dX2_limitAt_1 : decode cX2_limitAt 1 = .ok (.iconst 0, 1) := by decide +kernel
theorem dX2_limitAt_2 : decode cX2_limitAt 2 = .ok (.bipush 99, 2) := by decide +kernel
theorem dX2_limitAt_4 : decode cX2_limitAt 4 = .ok (.invokestatic 87, 3) := by decide +kernel
theorem dX2_limitAt_7 : decode cX2_limitAt 7 = .ok (.istore_n 2, 1) := by decide +kernel
theorem dX2_limitAt_8 : decode cX2_limitAt 8 = .ok (.aload_n 0, 1) := by decide +kernel
theorem dX2_limitAt_9 : decode cX2_limitAt 9 = .ok (.getfield 9, 3) := by decide +kernel
theorem dX2_limitAt_12 : decode cX2_limitAt 12 = .ok (.iload_n 2, 1) := by decide +kernel
theorem dX2_limitAt_13 : decode cX2_limitAt 13 = .ok (.iaload, 1) := by decide +kernel
theorem dX2_limitAt_14 : decode cX2_limitAt 14 = .ok (.iconst (-1), 1) := by decide +kernel
theorem dX2_limitAt_15 : decode cX2_limitAt 15 = .ok (.if_icmp .ne 32, 3) := by decide +kernel
theorem dX2_limitAt_18 : decode cX2_limitAt 18 = .ok (.aload_n 0, 1) := by decide +kernel
theorem dX2_limitAt_19 : decode cX2_limitAt 19 = .ok (.getfield 9, 3) := by decide +kernel
theorem dX2_limitAt_22 : decode cX2_limitAt 22 = .ok (.iload_n 2, 1) := by decide +kernel
theorem dX2_limitAt_23 : decode cX2_limitAt 23 = .ok (.aload_n 0, 1) := by decide +kernel
theorem dX2_limitAt_24 : decode cX2_limitAt 24 = .ok (.getfield 15, 3) := by decide +kernel
theorem dX2_limitAt_27 : decode cX2_limitAt 27 = .ok (.iconst 1, 1) := by decide +kernel
theorem dX2_limitAt_28 : decode cX2_limitAt 28 = .ok (.aload_n 0, 1) := by decide +kernel
theorem dX2_limitAt_29 : decode cX2_limitAt 29 = .ok (.getfield 19, 3) := by decide +kernel
theorem dX2_limitAt_32 : decode cX2_limitAt 32 = .ok (.getfield 23, 3) := by decide +kernel
theorem dX2_limitAt_35 : decode cX2_limitAt 35 = .ok (.aload_n 0, 1) := by decide +kernel
theorem dX2_limitAt_36 : decode cX2_limitAt 36 = .ok (.getfield 19, 3) := by decide +kernel
theorem dX2_limitAt_39 : decode cX2_limitAt 39 = .ok (.getfield 29, 3) := by decide +kernel
theorem dX2_limitAt_42 : decode cX2_limitAt 42 = .ok (.iload_n 2, 1) := by decide +kernel
theorem dX2_limitAt_43 : decode cX2_limitAt 43 = .ok (.invokevirtual 35, 3) := by decide +kernel
theorem dX2_limitAt_46 : decode cX2_limitAt 46 = .ok (.iastore, 1) := by decide +kernel
theorem dX2_limitAt_47 : decode cX2_limitAt 47 = .ok (.aload_n 0, 1) := by decide +kernel
theorem dX2_limitAt_48 : decode cX2_limitAt 48 = .ok (.getfield 9, 3) := by decide +kernel
theorem dX2_limitAt_51 : decode cX2_limitAt 51 = .ok (.iload_n 2, 1) := by decide +kernel
theorem dX2_limitAt_52 : decode cX2_limitAt 52 = .ok (.iaload, 1) := by decide +kernel
theorem dX2_limitAt_53 : decode cX2_limitAt 53 = .ok (.ireturn, 1) := by decide +kernel
theorem dX3_init_0 : decode cX3_init 0 = .ok (.aload_n 0, 1) := by decide +kernel
theorem dX3_init_1 : decode cX3_init 1 = .ok (.invokespecial 3, 3) := by decide +kernel
theorem dX3_init_4 : decode cX3_init 4 = .ok (.aload_n 0, 1) := by decide +kernel
theorem dX3_init_5 : decode cX3_init 5 = .ok (.bipush 50, 2) := by decide +kernel
theorem dX3_init_7 : decode cX3_init 7 = .ok (.newarray .int, 2) := by decide +kernel
theorem dX3_init_9 : decode cX3_init 9 = .ok (.putfield 9, 3) := by decide +kernel
theorem dX3_init_12 : decode cX3_init 12 = .ok (.aload_n 0, 1) := by decide +kernel
theorem dX3_init_13 : decode cX3_init 13 = .ok (.bipush 50, 2) := by decide +kernel
theorem dX3_init_15 : decode cX3_init 15 = .ok (.newarray .int, 2) := by decide +kernel
theorem dX3_init_17 : decode cX3_init 17 = .ok (.putfield 15, 3) := by decide +kernel
theorem dX3_init_20 : decode cX3_init 20 = .ok (.return_, 1) := by decide +kernel
theorem dX3_take_0 : decode cX3_take 0 = .ok (.aload_n 0, 1) := by decide +kernel
theorem dX3_take_1 : decode cX3_take 1 = .ok (.iload_n 2, 1) := by decide +kernel
theorem dX3_take_2 : decode cX3_take 2 = .ok (.iconst 0, 1) := by decide +kernel
theorem dX3_take_3 : decode cX3_take 3 = .ok (.aload_n 1, 1) := by decide +kernel
theorem dX3_take_4 : decode cX3_take 4 = .ok (.arraylength, 1) := by decide +kernel
theorem dX3_take_5 : decode cX3_take 5 = .ok (.bipush 50, 2) := by decide +kernel
theorem dX3_take_7 : decode cX3_take 7 = .ok (.invokestatic 18, 3) := by decide +kernel
theorem dX3_take_10 : decode cX3_take 10 = .ok (.invokestatic 24, 3) := by decide +kernel
theorem dX3_take_13 : decode cX3_take 13 = .ok (.putfield 28, 3) := by decide +kernel
theorem dX3_take_16 : decode cX3_take 16 = .ok (.aload_n 1, 1) := by decide +kernel
theorem dX3_take_17 : decode cX3_take 17 = .ok (.iconst 0, 1) := by decide +kernel
theorem dX3_take_18 : decode cX3_take 18 = .ok (.aload_n 0, 1) := by decide +kernel
theorem dX3_take_19 : decode cX3_take 19 = .ok (.getfield 9, 3) := by decide +kernel
theorem dX3_take_22 : decode cX3_take 22 = .ok (.iconst 0, 1) := by decide +kernel
theorem dX3_take_23 : decode cX3_take 23 = .ok (.aload_n 0, 1) := by decide +kernel
theorem dX3_take_24 : decode cX3_take 24 = .ok (.getfield 28, 3) := by decide +kernel
theorem dX3_take_27 : decode cX3_take 27 = .ok (.invokestatic 32, 3) := by decide +kernel
theorem dX3_take_30 : decode cX3_take 30 = .ok (.return_, 1) := by decide +kernel
theorem dX3_value_0 : decode cX3_value 0 = .ok (.iconst 0, 1) := by decide +kernel
theorem dX3_value_1 : decode cX3_value 1 = .ok (.istore 4, 2) := by decide +kernel
theorem dX3_value_3 : decode cX3_value 3 = .ok (.iconst 0, 1) := by decide +kernel
theorem dX3_value_4 : decode cX3_value 4 = .ok (.istore 5, 2) := by decide +kernel
theorem dX3_value_6 : decode cX3_value 6 = .ok (.iload 5, 2) := by decide +kernel
theorem dX3_value_8 : decode cX3_value 8 = .ok (.aload_n 0, 1) := by decide +kernel
theorem dX3_value_9 : decode cX3_value 9 = .ok (.getfield 28, 3) := by decide +kernel
theorem dX3_value_12 : decode cX3_value 12 = .ok (.if_icmp .ge 165, 3) := by decide +kernel
theorem dX3_value_15 : decode cX3_value 15 = .ok (.aload_n 0, 1) := by decide +kernel
theorem dX3_value_16 : decode cX3_value 16 = .ok (.getfield 9, 3) := by decide +kernel
theorem dX3_value_19 : decode cX3_value 19 = .ok (.iload 5, 2) := by decide +kernel
theorem dX3_value_21 : decode cX3_value 21 = .ok (.iaload, 1) := by decide +kernel
theorem dX3_value_22 : decode cX3_value 22 = .ok (.istore 6, 2) := by decide +kernel
theorem dX3_value_24 : decode cX3_value 24 = .ok (.iload 6, 2) := by decide +kernel
theorem dX3_value_26 : decode cX3_value 26 = .ok (.bipush (-33), 2) := by decide +kernel
theorem dX3_value_28 : decode cX3_value 28 = .ok (.if_icmp .ne 37, 3) := by decide +kernel
theorem dX3_value_31 : decode cX3_value 31 = .ok (.iload 4, 2) := by decide +kernel
theorem dX3_value_33 : decode cX3_value 33 = .ok (.ifCond .le 32, 3) := by decide +kernel
theorem dX3_value_36 : decode cX3_value 36 = .ok (.aload_n 0, 1) := by decide +kernel
theorem dX3_value_37 : decode cX3_value 37 = .ok (.getfield 15, 3) := by decide +kernel
theorem dX3_value_40 : decode cX3_value 40 = .ok (.iload 4, 2) := by decide +kernel
theorem dX3_value_42 : decode cX3_value 42 = .ok (.iconst 1, 1) := by decide +kernel
theorem dX3_value_43 : decode cX3_value 43 = .ok (.isub, 1) := by decide +kernel
theorem dX3_value_44 : decode cX3_value 44 = .ok (.aload_n 0, 1) := by decide +kernel
theorem dX3_value_45 : decode cX3_value 45 = .ok (.getfield 15, 3) := by decide +kernel
theorem dX3_value_48 : decode cX3_value 48 = .ok (.iload 4, 2) := by decide +kernel
theorem dX3_value_50 : decode cX3_value 50 = .ok (.iconst 1, 1) := by decide +kernel
theorem dX3_value_51 : decode cX3_value 51 = .ok (.isub, 1) := by decide +kernel
theorem dX3_value_52 : decode cX3_value 52 = .ok (.iaload, 1) := by decide +kernel
theorem dX3_value_53 : decode cX3_value 53 = .ok (.ifCond .ne 7, 3) := by decide +kernel
theorem dX3_value_56 : decode cX3_value 56 = .ok (.iconst 1, 1) := by decide +kernel
theorem dX3_value_57 : decode cX3_value 57 = .ok (.goto 4, 3) := by decide +kernel
theorem dX3_value_60 : decode cX3_value 60 = .ok (.iconst 0, 1) := by decide +kernel
theorem dX3_value_61 : decode cX3_value 61 = .ok (.iastore, 1) := by decide +kernel
theorem dX3_value_62 : decode cX3_value 62 = .ok (.goto 109, 3) := by decide +kernel
theorem dX3_value_65 : decode cX3_value 65 = .ok (.iload 6, 2) := by decide +kernel
theorem dX3_value_67 : decode cX3_value 67 = .ok (.bipush (-3), 2) := by decide +kernel
theorem dX3_value_69 : decode cX3_value 69 = .ok (.if_icmp .ge 46, 3) := by decide +kernel
theorem dX3_value_72 : decode cX3_value 72 = .ok (.iload 4, 2) := by decide +kernel
theorem dX3_value_74 : decode cX3_value 74 = .ok (.iconst 1, 1) := by decide +kernel
theorem dX3_value_75 : decode cX3_value 75 = .ok (.if_icmp .le 40, 3) := by decide +kernel
theorem dX3_value_78 : decode cX3_value 78 = .ok (.iinc 4 (-1), 3) := by decide +kernel
theorem dX3_value_81 : decode cX3_value 81 = .ok (.aload_n 0, 1) := by decide +kernel
theorem dX3_value_82 : decode cX3_value 82 = .ok (.getfield 15, 3) := by decide +kernel
theorem dX3_value_85 : decode cX3_value 85 = .ok (.iload 4, 2) := by decide +kernel
theorem dX3_value_87 : decode cX3_value 87 = .ok (.iconst 1, 1) := by decide +kernel
theorem dX3_value_88 : decode cX3_value 88 = .ok (.isub, 1) := by decide +kernel
theorem dX3_value_89 : decode cX3_value 89 = .ok (.iload 6, 2) := by decide +kernel
theorem dX3_value_91 : decode cX3_value 91 = .ok (.ineg, 1) := by decide +kernel
theorem dX3_value_92 : decode cX3_value 92 = .ok (.aload_n 0, 1) := by decide +kernel
theorem dX3_value_93 : decode cX3_value 93 = .ok (.getfield 15, 3) := by decide +kernel
theorem dX3_value_96 : decode cX3_value 96 = .ok (.iload 4, 2) := by decide +kernel
theorem dX3_value_98 : decode cX3_value 98 = .ok (.iconst 1, 1) := by decide +kernel
theorem dX3_value_99 : decode cX3_value 99 = .ok (.isub, 1) := by decide +kernel
theorem dX3_value_100 : decode cX3_value 100 = .ok (.iaload, 1) := by decide +kernel
theorem dX3_value_101 : decode cX3_value 101 = .ok (.aload_n 0, 1) := by decide +kernel
theorem dX3_value_102 : decode cX3_value 102 = .ok (.getfield 15, 3) := by decide +kernel
theorem dX3_value_105 : decode cX3_value 105 = .ok (.iload 4, 2) := by decide +kernel
theorem dX3_value_107 : decode cX3_value 107 = .ok (.iaload, 1) := by decide +kernel
theorem dX3_value_108 : decode cX3_value 108 = .ok (.invokestatic 38, 3) := by decide +kernel
theorem dX3_value_111 : decode cX3_value 111 = .ok (.iastore, 1) := by decide +kernel
theorem dX3_value_112 : decode cX3_value 112 = .ok (.goto 59, 3) := by decide +kernel
theorem dX3_value_115 : decode cX3_value 115 = .ok (.iload 6, 2) := by decide +kernel
theorem dX3_value_117 : decode cX3_value 117 = .ok (.bipush (-3), 2) := by decide +kernel
theorem dX3_value_119 : decode cX3_value 119 = .ok (.if_icmp .lt 52, 3) := by decide +kernel
theorem dX3_value_122 : decode cX3_value 122 = .ok (.iload 4, 2) := by decide +kernel
theorem dX3_value_124 : decode cX3_value 124 = .ok (.bipush 50, 2) := by decide +kernel
theorem dX3_value_126 : decode cX3_value 126 = .ok (.if_icmp .ge 45, 3) := by decide +kernel
theorem dX3_value_129 : decode cX3_value 129 = .ok (.aload_n 0, 1) := by decide +kernel
theorem dX3_value_130 : decode cX3_value 130 = .ok (.getfield 15, 3) := by decide +kernel
theorem dX3_value_133 : decode cX3_value 133 = .ok (.iload 4, 2) := by decide +kernel
theorem dX3_value_135 : decode cX3_value 135 = .ok (.iload 6, 2) := by decide +kernel
theorem dX3_value_137 : decode cX3_value 137 = .ok (.ifCond .lt 8, 3) := by decide +kernel
theorem dX3_value_140 : decode cX3_value 140 = .ok (.iload 6, 2) := by decide +kernel
theorem dX3_value_142 : decode cX3_value 142 = .ok (.goto 25, 3) := by decide +kernel
theorem dX3_value_145 : decode cX3_value 145 = .ok (.iload 6, 2) := by decide +kernel
theorem dX3_value_147 : decode cX3_value 147 = .ok (.iconst (-1), 1) := by decide +kernel
theorem dX3_value_148 : decode cX3_value 148 = .ok (.if_icmp .ne 7, 3) := by decide +kernel
theorem dX3_value_151 : decode cX3_value 151 = .ok (.iload_n 1, 1) := by decide +kernel
theorem dX3_value_152 : decode cX3_value 152 = .ok (.goto 15, 3) := by decide +kernel
theorem dX3_value_155 : decode cX3_value 155 = .ok (.iload 6, 2) := by decide +kernel
theorem dX3_value_157 : decode cX3_value 157 = .ok (.bipush (-2), 2) := by decide +kernel
theorem dX3_value_159 : decode cX3_value 159 = .ok (.if_icmp .ne 7, 3) := by decide +kernel
theorem dX3_value_162 : decode cX3_value 162 = .ok (.iload_n 2, 1) := by decide +kernel
theorem dX3_value_163 : decode cX3_value 163 = .ok (.goto 4, 3) := by decide +kernel
theorem dX3_value_166 : decode cX3_value 166 = .ok (.iload_n 3, 1) := by decide +kernel
theorem dX3_value_167 : decode cX3_value 167 = .ok (.iastore, 1) := by decide +kernel
theorem dX3_value_168 : decode cX3_value 168 = .ok (.iinc 4 1, 3) := by decide +kernel
theorem dX3_value_171 : decode cX3_value 171 = .ok (.iinc 5 1, 3) := by decide +kernel
theorem dX3_value_174 : decode cX3_value 174 = .ok (.goto (-168), 3) := by decide +kernel
theorem dX3_value_177 : decode cX3_value 177 = .ok (.aload_n 0, 1) := by decide +kernel
theorem dX3_value_178 : decode cX3_value 178 = .ok (.getfield 15, 3) := by decide +kernel
theorem dX3_value_181 : decode cX3_value 181 = .ok (.iconst 0, 1) := by decide +kernel
theorem dX3_value_182 : decode cX3_value 182 = .ok (.iaload, 1) := by decide +kernel
theorem dX3_value_183 : decode cX3_value 183 = .ok (.ireturn, 1) := by decide +kernel
theorem dX3_joined_0 : decode cX3_joined 0 = .ok (.iload_n 0, 1) := by decide +kernel
theorem dX3_joined_1 : decode cX3_joined 1 = .ok (.lookupswitch 168 #[(38, 97), (42, 152), (43, 144), (45, 148), (47, 156), (60, 111), (61, 122), (62, 133), (124, 83)], 83) := by decide +kernel
theorem dX3_joined_84 : decode cX3_joined 84 = .ok (.iload_n 1, 1) := by decide +kernel
theorem dX3_joined_85 : decode cX3_joined 85 = .ok (.ifCond .ne 7, 3) := by decide +kernel
theorem dX3_joined_88 : decode cX3_joined 88 = .ok (.iload_n 2, 1) := by decide +kernel
theorem dX3_joined_89 : decode cX3_joined 89 = .ok (.ifCond .eq 7, 3) := by decide +kernel
theorem dX3_joined_92 : decode cX3_joined 92 = .ok (.iconst 1, 1) := by decide +kernel
theorem dX3_joined_93 : decode cX3_joined 93 = .ok (.goto 4, 3) := by decide +kernel
theorem dX3_joined_96 : decode cX3_joined 96 = .ok (.iconst 0, 1) := by decide +kernel
theorem dX3_joined_97 : decode cX3_joined 97 = .ok (.ireturn, 1) := by decide +kernel
theorem dX3_joined_98 : decode cX3_joined 98 = .ok (.iload_n 1, 1) := by decide +kernel
theorem dX3_joined_99 : decode cX3_joined 99 = .ok (.ifCond .eq 11, 3) := by decide +kernel
theorem dX3_joined_102 : decode cX3_joined 102 = .ok (.iload_n 2, 1) := by decide +kernel
theorem dX3_joined_103 : decode cX3_joined 103 = .ok (.ifCond .eq 7, 3) := by decide +kernel
theorem dX3_joined_106 : decode cX3_joined 106 = .ok (.iconst 1, 1) := by decide +kernel
theorem dX3_joined_107 : decode cX3_joined 107 = .ok (.goto 4, 3) := by decide +kernel
theorem dX3_joined_110 : decode cX3_joined 110 = .ok (.iconst 0, 1) := by decide +kernel
theorem dX3_joined_111 : decode cX3_joined 111 = .ok (.ireturn, 1) := by decide +kernel
theorem dX3_joined_112 : decode cX3_joined 112 = .ok (.iload_n 1, 1) := by decide +kernel
theorem dX3_joined_113 : decode cX3_joined 113 = .ok (.iload_n 2, 1) := by decide +kernel
theorem dX3_joined_114 : decode cX3_joined 114 = .ok (.if_icmp .ge 7, 3) := by decide +kernel
theorem dX3_joined_117 : decode cX3_joined 117 = .ok (.iconst 1, 1) := by decide +kernel
theorem dX3_joined_118 : decode cX3_joined 118 = .ok (.goto 4, 3) := by decide +kernel
theorem dX3_joined_121 : decode cX3_joined 121 = .ok (.iconst 0, 1) := by decide +kernel
theorem dX3_joined_122 : decode cX3_joined 122 = .ok (.ireturn, 1) := by decide +kernel
theorem dX3_joined_123 : decode cX3_joined 123 = .ok (.iload_n 1, 1) := by decide +kernel
theorem dX3_joined_124 : decode cX3_joined 124 = .ok (.iload_n 2, 1) := by decide +kernel
theorem dX3_joined_125 : decode cX3_joined 125 = .ok (.if_icmp .ne 7, 3) := by decide +kernel
theorem dX3_joined_128 : decode cX3_joined 128 = .ok (.iconst 1, 1) := by decide +kernel
theorem dX3_joined_129 : decode cX3_joined 129 = .ok (.goto 4, 3) := by decide +kernel
theorem dX3_joined_132 : decode cX3_joined 132 = .ok (.iconst 0, 1) := by decide +kernel
theorem dX3_joined_133 : decode cX3_joined 133 = .ok (.ireturn, 1) := by decide +kernel
theorem dX3_joined_134 : decode cX3_joined 134 = .ok (.iload_n 1, 1) := by decide +kernel
theorem dX3_joined_135 : decode cX3_joined 135 = .ok (.iload_n 2, 1) := by decide +kernel
theorem dX3_joined_136 : decode cX3_joined 136 = .ok (.if_icmp .le 7, 3) := by decide +kernel
theorem dX3_joined_139 : decode cX3_joined 139 = .ok (.iconst 1, 1) := by decide +kernel
theorem dX3_joined_140 : decode cX3_joined 140 = .ok (.goto 4, 3) := by decide +kernel
theorem dX3_joined_143 : decode cX3_joined 143 = .ok (.iconst 0, 1) := by decide +kernel
theorem dX3_joined_144 : decode cX3_joined 144 = .ok (.ireturn, 1) := by decide +kernel
theorem dX3_joined_145 : decode cX3_joined 145 = .ok (.iload_n 1, 1) := by decide +kernel
theorem dX3_joined_146 : decode cX3_joined 146 = .ok (.iload_n 2, 1) := by decide +kernel
theorem dX3_joined_147 : decode cX3_joined 147 = .ok (.iadd, 1) := by decide +kernel
theorem dX3_joined_148 : decode cX3_joined 148 = .ok (.ireturn, 1) := by decide +kernel
theorem dX3_joined_149 : decode cX3_joined 149 = .ok (.iload_n 1, 1) := by decide +kernel
theorem dX3_joined_150 : decode cX3_joined 150 = .ok (.iload_n 2, 1) := by decide +kernel
theorem dX3_joined_151 : decode cX3_joined 151 = .ok (.isub, 1) := by decide +kernel
theorem dX3_joined_152 : decode cX3_joined 152 = .ok (.ireturn, 1) := by decide +kernel
theorem dX3_joined_153 : decode cX3_joined 153 = .ok (.iload_n 1, 1) := by decide +kernel
theorem dX3_joined_154 : decode cX3_joined 154 = .ok (.iload_n 2, 1) := by decide +kernel
theorem dX3_joined_155 : decode cX3_joined 155 = .ok (.imul, 1) := by decide +kernel
theorem dX3_joined_156 : decode cX3_joined 156 = .ok (.ireturn, 1) := by decide +kernel
theorem dX3_joined_157 : decode cX3_joined 157 = .ok (.iload_n 2, 1) := by decide +kernel
theorem dX3_joined_158 : decode cX3_joined 158 = .ok (.ifCond .ne 7, 3) := by decide +kernel
theorem dX3_joined_161 : decode cX3_joined 161 = .ok (.iconst 0, 1) := by decide +kernel
theorem dX3_joined_162 : decode cX3_joined 162 = .ok (.goto 6, 3) := by decide +kernel
theorem dX3_joined_165 : decode cX3_joined 165 = .ok (.iload_n 1, 1) := by decide +kernel
theorem dX3_joined_166 : decode cX3_joined 166 = .ok (.iload_n 2, 1) := by decide +kernel
theorem dX3_joined_167 : decode cX3_joined 167 = .ok (.idiv, 1) := by decide +kernel
theorem dX3_joined_168 : decode cX3_joined 168 = .ok (.ireturn, 1) := by decide +kernel
theorem dX3_joined_169 : decode cX3_joined 169 = .ok (.iload_n 2, 1) := by decide +kernel
theorem dX3_joined_170 : decode cX3_joined 170 = .ok (.ifCond .ne 7, 3) := by decide +kernel
theorem dX3_joined_173 : decode cX3_joined 173 = .ok (.iconst 0, 1) := by decide +kernel
theorem dX3_joined_174 : decode cX3_joined 174 = .ok (.goto 6, 3) := by decide +kernel
theorem dX3_joined_177 : decode cX3_joined 177 = .ok (.iload_n 1, 1) := by decide +kernel
theorem dX3_joined_178 : decode cX3_joined 178 = .ok (.iload_n 2, 1) := by decide +kernel
theorem dX3_joined_179 : decode cX3_joined 179 = .ok (.irem, 1) := by decide +kernel
theorem dX3_joined_180 : decode cX3_joined 180 = .ok (.ireturn, 1) := by decide +kernel
theorem dX4_init_0 : decode cX4_init 0 = .ok (.aload_n 0, 1) := by decide +kernel
theorem dX4_init_1 : decode cX4_init 1 = .ok (.invokespecial 3, 3) := by decide +kernel
theorem dX4_init_4 : decode cX4_init 4 = .ok (.aload_n 0, 1) := by decide +kernel
theorem dX4_init_5 : decode cX4_init 5 = .ok (.iconst 0, 1) := by decide +kernel
theorem dX4_init_6 : decode cX4_init 6 = .ok (.putfield 9, 3) := by decide +kernel
theorem dX4_init_9 : decode cX4_init 9 = .ok (.aload_n 0, 1) := by decide +kernel
theorem dX4_init_10 : decode cX4_init 10 = .ok (.iconst 4, 1) := by decide +kernel
theorem dX4_init_11 : decode cX4_init 11 = .ok (.putfield 15, 3) := by decide +kernel
theorem dX4_init_14 : decode cX4_init 14 = .ok (.aload_n 0, 1) := by decide +kernel
theorem dX4_init_15 : decode cX4_init 15 = .ok (.iconst 0, 1) := by decide +kernel
theorem dX4_init_16 : decode cX4_init 16 = .ok (.putfield 18, 3) := by decide +kernel
theorem dX4_init_19 : decode cX4_init 19 = .ok (.aload_n 0, 1) := by decide +kernel
theorem dX4_init_20 : decode cX4_init 20 = .ok (.iconst 0, 1) := by decide +kernel
theorem dX4_init_21 : decode cX4_init 21 = .ok (.putfield 21, 3) := by decide +kernel
theorem dX4_init_24 : decode cX4_init 24 = .ok (.aload_n 0, 1) := by decide +kernel
theorem dX4_init_25 : decode cX4_init 25 = .ok (.iconst 0, 1) := by decide +kernel
theorem dX4_init_26 : decode cX4_init 26 = .ok (.putfield 24, 3) := by decide +kernel
theorem dX4_init_29 : decode cX4_init 29 = .ok (.aload_n 0, 1) := by decide +kernel
theorem dX4_init_30 : decode cX4_init 30 = .ok (.iconst 3, 1) := by decide +kernel
theorem dX4_init_31 : decode cX4_init 31 = .ok (.putfield 27, 3) := by decide +kernel
theorem dX4_init_34 : decode cX4_init 34 = .ok (.return_, 1) := by decide +kernel
theorem dX4_mostOf_0 : decode cX4_mostOf 0 = .ok (.iload_n 0, 1) := by decide +kernel
theorem dX4_mostOf_1 : decode cX4_mostOf 1 = .ok (.tableswitch 55 0 5 #[39, 41, 44, 47, 49, 52], 39) := by decide +kernel
theorem dX4_mostOf_40 : decode cX4_mostOf 40 = .ok (.iconst 1, 1) := by decide +kernel
theorem dX4_mostOf_41 : decode cX4_mostOf 41 = .ok (.ireturn, 1) := by decide +kernel
theorem dX4_mostOf_42 : decode cX4_mostOf 42 = .ok (.bipush 9, 2) := by decide +kernel
theorem dX4_mostOf_44 : decode cX4_mostOf 44 = .ok (.ireturn, 1) := by decide +kernel
theorem dX4_mostOf_45 : decode cX4_mostOf 45 = .ok (.bipush 9, 2) := by decide +kernel
theorem dX4_mostOf_47 : decode cX4_mostOf 47 = .ok (.ireturn, 1) := by decide +kernel
theorem dX4_mostOf_48 : decode cX4_mostOf 48 = .ok (.iconst 2, 1) := by decide +kernel
theorem dX4_mostOf_49 : decode cX4_mostOf 49 = .ok (.ireturn, 1) := by decide +kernel
theorem dX4_mostOf_50 : decode cX4_mostOf 50 = .ok (.bipush 99, 2) := by decide +kernel
theorem dX4_mostOf_52 : decode cX4_mostOf 52 = .ok (.ireturn, 1) := by decide +kernel
theorem dX4_mostOf_53 : decode cX4_mostOf 53 = .ok (.bipush 9, 2) := by decide +kernel
theorem dX4_mostOf_55 : decode cX4_mostOf 55 = .ok (.ireturn, 1) := by decide +kernel
theorem dX4_mostOf_56 : decode cX4_mostOf 56 = .ok (.iconst (-1), 1) := by decide +kernel
theorem dX4_mostOf_57 : decode cX4_mostOf 57 = .ok (.ireturn, 1) := by decide +kernel
theorem dX4_part_0 : decode cX4_part 0 = .ok (.iload_n 1, 1) := by decide +kernel
theorem dX4_part_1 : decode cX4_part 1 = .ok (.tableswitch 60 0 4 #[35, 40, 45, 50, 55], 35) := by decide +kernel
theorem dX4_part_36 : decode cX4_part 36 = .ok (.aload_n 0, 1) := by decide +kernel
theorem dX4_part_37 : decode cX4_part 37 = .ok (.getfield 9, 3) := by decide +kernel
theorem dX4_part_40 : decode cX4_part 40 = .ok (.ireturn, 1) := by decide +kernel
theorem dX4_part_41 : decode cX4_part 41 = .ok (.aload_n 0, 1) := by decide +kernel
theorem dX4_part_42 : decode cX4_part 42 = .ok (.getfield 15, 3) := by decide +kernel
theorem dX4_part_45 : decode cX4_part 45 = .ok (.ireturn, 1) := by decide +kernel
theorem dX4_part_46 : decode cX4_part 46 = .ok (.aload_n 0, 1) := by decide +kernel
theorem dX4_part_47 : decode cX4_part 47 = .ok (.getfield 18, 3) := by decide +kernel
theorem dX4_part_50 : decode cX4_part 50 = .ok (.ireturn, 1) := by decide +kernel
theorem dX4_part_51 : decode cX4_part 51 = .ok (.aload_n 0, 1) := by decide +kernel
theorem dX4_part_52 : decode cX4_part 52 = .ok (.getfield 21, 3) := by decide +kernel
theorem dX4_part_55 : decode cX4_part 55 = .ok (.ireturn, 1) := by decide +kernel
theorem dX4_part_56 : decode cX4_part 56 = .ok (.aload_n 0, 1) := by decide +kernel
theorem dX4_part_57 : decode cX4_part 57 = .ok (.getfield 24, 3) := by decide +kernel
theorem dX4_part_60 : decode cX4_part 60 = .ok (.ireturn, 1) := by decide +kernel
theorem dX4_part_61 : decode cX4_part 61 = .ok (.aload_n 0, 1) := by decide +kernel
theorem dX4_part_62 : decode cX4_part 62 = .ok (.getfield 27, 3) := by decide +kernel
theorem dX4_part_65 : decode cX4_part 65 = .ok (.ireturn, 1) := by decide +kernel
theorem dX4_turnPart_0 : decode cX4_turnPart 0 = .ok (.iload_n 1, 1) := by decide +kernel
theorem dX4_turnPart_1 : decode cX4_turnPart 1 = .ok (.tableswitch 75 0 4 #[35, 43, 51, 59, 67], 35) := by decide +kernel
theorem dX4_turnPart_36 : decode cX4_turnPart 36 = .ok (.aload_n 0, 1) := by decide +kernel
theorem dX4_turnPart_37 : decode cX4_turnPart 37 = .ok (.iload_n 2, 1) := by decide +kernel
theorem dX4_turnPart_38 : decode cX4_turnPart 38 = .ok (.putfield 9, 3) := by decide +kernel
theorem dX4_turnPart_41 : decode cX4_turnPart 41 = .ok (.goto 40, 3) := by decide +kernel
theorem dX4_turnPart_44 : decode cX4_turnPart 44 = .ok (.aload_n 0, 1) := by decide +kernel
theorem dX4_turnPart_45 : decode cX4_turnPart 45 = .ok (.iload_n 2, 1) := by decide +kernel
theorem dX4_turnPart_46 : decode cX4_turnPart 46 = .ok (.putfield 15, 3) := by decide +kernel
theorem dX4_turnPart_49 : decode cX4_turnPart 49 = .ok (.goto 32, 3) := by decide +kernel
theorem dX4_turnPart_52 : decode cX4_turnPart 52 = .ok (.aload_n 0, 1) := by decide +kernel
theorem dX4_turnPart_53 : decode cX4_turnPart 53 = .ok (.iload_n 2, 1) := by decide +kernel
theorem dX4_turnPart_54 : decode cX4_turnPart 54 = .ok (.putfield 18, 3) := by decide +kernel
theorem dX4_turnPart_57 : decode cX4_turnPart 57 = .ok (.goto 24, 3) := by decide +kernel
theorem dX4_turnPart_60 : decode cX4_turnPart 60 = .ok (.aload_n 0, 1) := by decide +kernel
theorem dX4_turnPart_61 : decode cX4_turnPart 61 = .ok (.iload_n 2, 1) := by decide +kernel
theorem dX4_turnPart_62 : decode cX4_turnPart 62 = .ok (.putfield 21, 3) := by decide +kernel
theorem dX4_turnPart_65 : decode cX4_turnPart 65 = .ok (.goto 16, 3) := by decide +kernel
theorem dX4_turnPart_68 : decode cX4_turnPart 68 = .ok (.aload_n 0, 1) := by decide +kernel
theorem dX4_turnPart_69 : decode cX4_turnPart 69 = .ok (.iload_n 2, 1) := by decide +kernel
theorem dX4_turnPart_70 : decode cX4_turnPart 70 = .ok (.putfield 24, 3) := by decide +kernel
theorem dX4_turnPart_73 : decode cX4_turnPart 73 = .ok (.goto 8, 3) := by decide +kernel
theorem dX4_turnPart_76 : decode cX4_turnPart 76 = .ok (.aload_n 0, 1) := by decide +kernel
theorem dX4_turnPart_77 : decode cX4_turnPart 77 = .ok (.iload_n 2, 1) := by decide +kernel
theorem dX4_turnPart_78 : decode cX4_turnPart 78 = .ok (.putfield 27, 3) := by decide +kernel
theorem dX4_turnPart_81 : decode cX4_turnPart 81 = .ok (.return_, 1) := by decide +kernel
theorem dX4_copyFrom_0 : decode cX4_copyFrom 0 = .ok (.aload_n 0, 1) := by decide +kernel
theorem dX4_copyFrom_1 : decode cX4_copyFrom 1 = .ok (.aload_n 1, 1) := by decide +kernel
theorem dX4_copyFrom_2 : decode cX4_copyFrom 2 = .ok (.getfield 9, 3) := by decide +kernel
theorem dX4_copyFrom_5 : decode cX4_copyFrom 5 = .ok (.putfield 9, 3) := by decide +kernel
theorem dX4_copyFrom_8 : decode cX4_copyFrom 8 = .ok (.aload_n 0, 1) := by decide +kernel
theorem dX4_copyFrom_9 : decode cX4_copyFrom 9 = .ok (.aload_n 1, 1) := by decide +kernel
theorem dX4_copyFrom_10 : decode cX4_copyFrom 10 = .ok (.getfield 15, 3) := by decide +kernel
theorem dX4_copyFrom_13 : decode cX4_copyFrom 13 = .ok (.putfield 15, 3) := by decide +kernel
theorem dX4_copyFrom_16 : decode cX4_copyFrom 16 = .ok (.aload_n 0, 1) := by decide +kernel
theorem dX4_copyFrom_17 : decode cX4_copyFrom 17 = .ok (.aload_n 1, 1) := by decide +kernel
theorem dX4_copyFrom_18 : decode cX4_copyFrom 18 = .ok (.getfield 18, 3) := by decide +kernel
theorem dX4_copyFrom_21 : decode cX4_copyFrom 21 = .ok (.putfield 18, 3) := by decide +kernel
theorem dX4_copyFrom_24 : decode cX4_copyFrom 24 = .ok (.aload_n 0, 1) := by decide +kernel
theorem dX4_copyFrom_25 : decode cX4_copyFrom 25 = .ok (.aload_n 1, 1) := by decide +kernel
theorem dX4_copyFrom_26 : decode cX4_copyFrom 26 = .ok (.getfield 21, 3) := by decide +kernel
theorem dX4_copyFrom_29 : decode cX4_copyFrom 29 = .ok (.putfield 21, 3) := by decide +kernel
theorem dX4_copyFrom_32 : decode cX4_copyFrom 32 = .ok (.aload_n 0, 1) := by decide +kernel
theorem dX4_copyFrom_33 : decode cX4_copyFrom 33 = .ok (.aload_n 1, 1) := by decide +kernel
theorem dX4_copyFrom_34 : decode cX4_copyFrom 34 = .ok (.getfield 24, 3) := by decide +kernel
theorem dX4_copyFrom_37 : decode cX4_copyFrom 37 = .ok (.putfield 24, 3) := by decide +kernel
theorem dX4_copyFrom_40 : decode cX4_copyFrom 40 = .ok (.aload_n 0, 1) := by decide +kernel
theorem dX4_copyFrom_41 : decode cX4_copyFrom 41 = .ok (.aload_n 1, 1) := by decide +kernel
theorem dX4_copyFrom_42 : decode cX4_copyFrom 42 = .ok (.getfield 27, 3) := by decide +kernel
theorem dX4_copyFrom_45 : decode cX4_copyFrom 45 = .ok (.putfield 27, 3) := by decide +kernel
theorem dX4_copyFrom_48 : decode cX4_copyFrom 48 = .ok (.return_, 1) := by decide +kernel
theorem dX4_guess_0 : decode cX4_guess 0 = .ok (.aload_n 0, 1) := by decide +kernel
theorem dX4_guess_1 : decode cX4_guess 1 = .ok (.iload_n 1, 1) := by decide +kernel
theorem dX4_guess_2 : decode cX4_guess 2 = .ok (.sipush 300, 3) := by decide +kernel
theorem dX4_guess_5 : decode cX4_guess 5 = .ok (.idiv, 1) := by decide +kernel
theorem dX4_guess_6 : decode cX4_guess 6 = .ok (.putfield 9, 3) := by decide +kernel
theorem dX4_guess_9 : decode cX4_guess 9 = .ok (.aload_n 0, 1) := by decide +kernel
theorem dX4_guess_10 : decode cX4_guess 10 = .ok (.iload_n 1, 1) := by decide +kernel
theorem dX4_guess_11 : decode cX4_guess 11 = .ok (.bipush 100, 2) := by decide +kernel
theorem dX4_guess_13 : decode cX4_guess 13 = .ok (.idiv, 1) := by decide +kernel
theorem dX4_guess_14 : decode cX4_guess 14 = .ok (.iconst 3, 1) := by decide +kernel
theorem dX4_guess_15 : decode cX4_guess 15 = .ok (.irem, 1) := by decide +kernel
theorem dX4_guess_16 : decode cX4_guess 16 = .ok (.putfield 21, 3) := by decide +kernel
theorem dX4_guess_19 : decode cX4_guess 19 = .ok (.aload_n 0, 1) := by decide +kernel
theorem dX4_guess_20 : decode cX4_guess 20 = .ok (.iload_n 1, 1) := by decide +kernel
theorem dX4_guess_21 : decode cX4_guess 21 = .ok (.bipush 10, 2) := by decide +kernel
theorem dX4_guess_23 : decode cX4_guess 23 = .ok (.idiv, 1) := by decide +kernel
theorem dX4_guess_24 : decode cX4_guess 24 = .ok (.bipush 10, 2) := by decide +kernel
theorem dX4_guess_26 : decode cX4_guess 26 = .ok (.irem, 1) := by decide +kernel
theorem dX4_guess_27 : decode cX4_guess 27 = .ok (.putfield 15, 3) := by decide +kernel
theorem dX4_guess_30 : decode cX4_guess 30 = .ok (.aload_n 0, 1) := by decide +kernel
theorem dX4_guess_31 : decode cX4_guess 31 = .ok (.iload_n 1, 1) := by decide +kernel
theorem dX4_guess_32 : decode cX4_guess 32 = .ok (.bipush 10, 2) := by decide +kernel
theorem dX4_guess_34 : decode cX4_guess 34 = .ok (.irem, 1) := by decide +kernel
theorem dX4_guess_35 : decode cX4_guess 35 = .ok (.putfield 18, 3) := by decide +kernel
theorem dX4_guess_38 : decode cX4_guess 38 = .ok (.return_, 1) := by decide +kernel
theorem dX4_yardSeconds_0 : decode cX4_yardSeconds 0 = .ok (.bipush 10, 2) := by decide +kernel
theorem dX4_yardSeconds_2 : decode cX4_yardSeconds 2 = .ok (.aload_n 0, 1) := by decide +kernel
theorem dX4_yardSeconds_3 : decode cX4_yardSeconds 3 = .ok (.getfield 27, 3) := by decide +kernel
theorem dX4_yardSeconds_6 : decode cX4_yardSeconds 6 = .ok (.isub, 1) := by decide +kernel
theorem dX4_yardSeconds_7 : decode cX4_yardSeconds 7 = .ok (.ireturn, 1) := by decide +kernel
theorem dX4_gather_0 : decode cX4_gather 0 = .ok (.aload_n 0, 1) := by decide +kernel
theorem dX4_gather_1 : decode cX4_gather 1 = .ok (.bipush 99, 2) := by decide +kernel
theorem dX4_gather_3 : decode cX4_gather 3 = .ok (.aload_n 0, 1) := by decide +kernel
theorem dX4_gather_4 : decode cX4_gather 4 = .ok (.getfield 24, 3) := by decide +kernel
theorem dX4_gather_7 : decode cX4_gather 7 = .ok (.iload_n 1, 1) := by decide +kernel
theorem dX4_gather_8 : decode cX4_gather 8 = .ok (.iadd, 1) := by decide +kernel
theorem dX4_gather_9 : decode cX4_gather 9 = .ok (.invokestatic 30, 3) := by decide +kernel
theorem dX4_gather_12 : decode cX4_gather 12 = .ok (.putfield 24, 3) := by decide +kernel
theorem dX4_gather_15 : decode cX4_gather 15 = .ok (.return_, 1) := by decide +kernel
theorem dX4_hasRoomFor_0 : decode cX4_hasRoomFor 0 = .ok (.iload_n 1, 1) := by decide +kernel
theorem dX4_hasRoomFor_1 : decode cX4_hasRoomFor 1 = .ok (.tableswitch 87 3 6 #[31, 46, 59, 74], 31) := by decide +kernel
theorem dX4_hasRoomFor_32 : decode cX4_hasRoomFor 32 = .ok (.aload_n 0, 1) := by decide +kernel
theorem dX4_hasRoomFor_33 : decode cX4_hasRoomFor 33 = .ok (.getfield 15, 3) := by decide +kernel
theorem dX4_hasRoomFor_36 : decode cX4_hasRoomFor 36 = .ok (.bipush 9, 2) := by decide +kernel
theorem dX4_hasRoomFor_38 : decode cX4_hasRoomFor 38 = .ok (.if_icmp .ge 7, 3) := by decide +kernel
theorem dX4_hasRoomFor_41 : decode cX4_hasRoomFor 41 = .ok (.iconst 1, 1) := by decide +kernel
theorem dX4_hasRoomFor_42 : decode cX4_hasRoomFor 42 = .ok (.goto 4, 3) := by decide +kernel
theorem dX4_hasRoomFor_45 : decode cX4_hasRoomFor 45 = .ok (.iconst 0, 1) := by decide +kernel
theorem dX4_hasRoomFor_46 : decode cX4_hasRoomFor 46 = .ok (.ireturn, 1) := by decide +kernel
theorem dX4_hasRoomFor_47 : decode cX4_hasRoomFor 47 = .ok (.aload_n 0, 1) := by decide +kernel
theorem dX4_hasRoomFor_48 : decode cX4_hasRoomFor 48 = .ok (.getfield 15, 3) := by decide +kernel
theorem dX4_hasRoomFor_51 : decode cX4_hasRoomFor 51 = .ok (.ifCond .le 7, 3) := by decide +kernel
theorem dX4_hasRoomFor_54 : decode cX4_hasRoomFor 54 = .ok (.iconst 1, 1) := by decide +kernel
theorem dX4_hasRoomFor_55 : decode cX4_hasRoomFor 55 = .ok (.goto 4, 3) := by decide +kernel
theorem dX4_hasRoomFor_58 : decode cX4_hasRoomFor 58 = .ok (.iconst 0, 1) := by decide +kernel
theorem dX4_hasRoomFor_59 : decode cX4_hasRoomFor 59 = .ok (.ireturn, 1) := by decide +kernel
theorem dX4_hasRoomFor_60 : decode cX4_hasRoomFor 60 = .ok (.aload_n 0, 1) := by decide +kernel
theorem dX4_hasRoomFor_61 : decode cX4_hasRoomFor 61 = .ok (.getfield 18, 3) := by decide +kernel
theorem dX4_hasRoomFor_64 : decode cX4_hasRoomFor 64 = .ok (.bipush 9, 2) := by decide +kernel
theorem dX4_hasRoomFor_66 : decode cX4_hasRoomFor 66 = .ok (.if_icmp .ge 7, 3) := by decide +kernel
theorem dX4_hasRoomFor_69 : decode cX4_hasRoomFor 69 = .ok (.iconst 1, 1) := by decide +kernel
theorem dX4_hasRoomFor_70 : decode cX4_hasRoomFor 70 = .ok (.goto 4, 3) := by decide +kernel
theorem dX4_hasRoomFor_73 : decode cX4_hasRoomFor 73 = .ok (.iconst 0, 1) := by decide +kernel
theorem dX4_hasRoomFor_74 : decode cX4_hasRoomFor 74 = .ok (.ireturn, 1) := by decide +kernel
theorem dX4_hasRoomFor_75 : decode cX4_hasRoomFor 75 = .ok (.aload_n 0, 1) := by decide +kernel
theorem dX4_hasRoomFor_76 : decode cX4_hasRoomFor 76 = .ok (.getfield 18, 3) := by decide +kernel
theorem dX4_hasRoomFor_79 : decode cX4_hasRoomFor 79 = .ok (.ifCond .le 7, 3) := by decide +kernel
theorem dX4_hasRoomFor_82 : decode cX4_hasRoomFor 82 = .ok (.iconst 1, 1) := by decide +kernel
theorem dX4_hasRoomFor_83 : decode cX4_hasRoomFor 83 = .ok (.goto 4, 3) := by decide +kernel
theorem dX4_hasRoomFor_86 : decode cX4_hasRoomFor 86 = .ok (.iconst 0, 1) := by decide +kernel
theorem dX4_hasRoomFor_87 : decode cX4_hasRoomFor 87 = .ok (.ireturn, 1) := by decide +kernel
theorem dX4_hasRoomFor_88 : decode cX4_hasRoomFor 88 = .ok (.iconst 1, 1) := by decide +kernel
theorem dX4_hasRoomFor_89 : decode cX4_hasRoomFor 89 = .ok (.ireturn, 1) := by decide +kernel
theorem dX4_follow_0 : decode cX4_follow 0 = .ok (.iload_n 1, 1) := by decide +kernel
theorem dX4_follow_1 : decode cX4_follow 1 = .ok (.tableswitch 102 0 5 #[39, 47, 55, 63, 76, 89], 39) := by decide +kernel
theorem dX4_follow_40 : decode cX4_follow 40 = .ok (.aload_n 0, 1) := by decide +kernel
theorem dX4_follow_41 : decode cX4_follow 41 = .ok (.iconst 0, 1) := by decide +kernel
theorem dX4_follow_42 : decode cX4_follow 42 = .ok (.putfield 9, 3) := by decide +kernel
theorem dX4_follow_45 : decode cX4_follow 45 = .ok (.goto 68, 3) := by decide +kernel
theorem dX4_follow_48 : decode cX4_follow 48 = .ok (.aload_n 0, 1) := by decide +kernel
theorem dX4_follow_49 : decode cX4_follow 49 = .ok (.iconst 0, 1) := by decide +kernel
theorem dX4_follow_50 : decode cX4_follow 50 = .ok (.putfield 21, 3) := by decide +kernel
theorem dX4_follow_53 : decode cX4_follow 53 = .ok (.goto 60, 3) := by decide +kernel
theorem dX4_follow_56 : decode cX4_follow 56 = .ok (.aload_n 0, 1) := by decide +kernel
theorem dX4_follow_57 : decode cX4_follow 57 = .ok (.iconst 0, 1) := by decide +kernel
theorem dX4_follow_58 : decode cX4_follow 58 = .ok (.putfield 24, 3) := by decide +kernel
theorem dX4_follow_61 : decode cX4_follow 61 = .ok (.goto 52, 3) := by decide +kernel
theorem dX4_follow_64 : decode cX4_follow 64 = .ok (.aload_n 0, 1) := by decide +kernel
theorem dX4_follow_65 : decode cX4_follow 65 = .ok (.dup, 1) := by decide +kernel
theorem dX4_follow_66 : decode cX4_follow 66 = .ok (.getfield 15, 3) := by decide +kernel
theorem dX4_follow_69 : decode cX4_follow 69 = .ok (.iconst 1, 1) := by decide +kernel
theorem dX4_follow_70 : decode cX4_follow 70 = .ok (.iadd, 1) := by decide +kernel
theorem dX4_follow_71 : decode cX4_follow 71 = .ok (.putfield 15, 3) := by decide +kernel
theorem dX4_follow_74 : decode cX4_follow 74 = .ok (.goto 39, 3) := by decide +kernel
theorem dX4_follow_77 : decode cX4_follow 77 = .ok (.aload_n 0, 1) := by decide +kernel
theorem dX4_follow_78 : decode cX4_follow 78 = .ok (.dup, 1) := by decide +kernel
theorem dX4_follow_79 : decode cX4_follow 79 = .ok (.getfield 15, 3) := by decide +kernel
theorem dX4_follow_82 : decode cX4_follow 82 = .ok (.iconst 1, 1) := by decide +kernel
theorem dX4_follow_83 : decode cX4_follow 83 = .ok (.isub, 1) := by decide +kernel
theorem dX4_follow_84 : decode cX4_follow 84 = .ok (.putfield 15, 3) := by decide +kernel
theorem dX4_follow_87 : decode cX4_follow 87 = .ok (.goto 26, 3) := by decide +kernel
theorem dX4_follow_90 : decode cX4_follow 90 = .ok (.aload_n 0, 1) := by decide +kernel
theorem dX4_follow_91 : decode cX4_follow 91 = .ok (.dup, 1) := by decide +kernel
theorem dX4_follow_92 : decode cX4_follow 92 = .ok (.getfield 18, 3) := by decide +kernel
theorem dX4_follow_95 : decode cX4_follow 95 = .ok (.iconst 1, 1) := by decide +kernel
theorem dX4_follow_96 : decode cX4_follow 96 = .ok (.iadd, 1) := by decide +kernel
theorem dX4_follow_97 : decode cX4_follow 97 = .ok (.putfield 18, 3) := by decide +kernel
theorem dX4_follow_100 : decode cX4_follow 100 = .ok (.goto 13, 3) := by decide +kernel
theorem dX4_follow_103 : decode cX4_follow 103 = .ok (.aload_n 0, 1) := by decide +kernel
theorem dX4_follow_104 : decode cX4_follow 104 = .ok (.dup, 1) := by decide +kernel
theorem dX4_follow_105 : decode cX4_follow 105 = .ok (.getfield 18, 3) := by decide +kernel
theorem dX4_follow_108 : decode cX4_follow 108 = .ok (.iconst 1, 1) := by decide +kernel
theorem dX4_follow_109 : decode cX4_follow 109 = .ok (.isub, 1) := by decide +kernel
theorem dX4_follow_110 : decode cX4_follow 110 = .ok (.putfield 18, 3) := by decide +kernel
theorem dX4_follow_113 : decode cX4_follow 113 = .ok (.return_, 1) := by decide +kernel
theorem dX5_init_0 : decode cX5_init 0 = .ok (.aload_n 0, 1) := by decide +kernel
theorem dX5_init_1 : decode cX5_init 1 = .ok (.invokespecial 3, 3) := by decide +kernel
theorem dX5_init_4 : decode cX5_init 4 = .ok (.aload_n 0, 1) := by decide +kernel
theorem dX5_init_5 : decode cX5_init 5 = .ok (.aload_n 1, 1) := by decide +kernel
theorem dX5_init_6 : decode cX5_init 6 = .ok (.putfield 9, 3) := by decide +kernel
theorem dX5_init_9 : decode cX5_init 9 = .ok (.aload_n 0, 1) := by decide +kernel
theorem dX5_init_10 : decode cX5_init 10 = .ok (.aload_n 2, 1) := by decide +kernel
theorem dX5_init_11 : decode cX5_init 11 = .ok (.putfield 15, 3) := by decide +kernel
theorem dX5_init_14 : decode cX5_init 14 = .ok (.return_, 1) := by decide +kernel
theorem dX5_begin_0 : decode cX5_begin 0 = .ok (.aload_n 0, 1) := by decide +kernel
theorem dX5_begin_1 : decode cX5_begin 1 = .ok (.iload_n 1, 1) := by decide +kernel
theorem dX5_begin_2 : decode cX5_begin 2 = .ok (.iconst 0, 1) := by decide +kernel
theorem dX5_begin_3 : decode cX5_begin 3 = .ok (.aload_n 0, 1) := by decide +kernel
theorem dX5_begin_4 : decode cX5_begin 4 = .ok (.getfield 9, 3) := by decide +kernel
theorem dX5_begin_7 : decode cX5_begin 7 = .ok (.arraylength, 1) := by decide +kernel
theorem dX5_begin_8 : decode cX5_begin 8 = .ok (.invokestatic 19, 3) := by decide +kernel
theorem dX5_begin_11 : decode cX5_begin 11 = .ok (.putfield 23, 3) := by decide +kernel
theorem dX5_begin_14 : decode cX5_begin 14 = .ok (.aload_n 0, 1) := by decide +kernel
theorem dX5_begin_15 : decode cX5_begin 15 = .ok (.iload_n 2, 1) := by decide +kernel
theorem dX5_begin_16 : decode cX5_begin 16 = .ok (.putfield 27, 3) := by decide +kernel
theorem dX5_begin_19 : decode cX5_begin 19 = .ok (.aload_n 0, 1) := by decide +kernel
theorem dX5_begin_20 : decode cX5_begin 20 = .ok (.iload_n 3, 1) := by decide +kernel
theorem dX5_begin_21 : decode cX5_begin 21 = .ok (.putfield 30, 3) := by decide +kernel
theorem dX5_begin_24 : decode cX5_begin 24 = .ok (.aload_n 0, 1) := by decide +kernel
theorem dX5_begin_25 : decode cX5_begin 25 = .ok (.ldc 33, 2) := by decide +kernel
theorem dX5_begin_27 : decode cX5_begin 27 = .ok (.putfield 34, 3) := by decide +kernel
theorem dX5_begin_30 : decode cX5_begin 30 = .ok (.aload_n 0, 1) := by decide +kernel
theorem dX5_begin_31 : decode cX5_begin 31 = .ok (.iconst 0, 1) := by decide +kernel
theorem dX5_begin_32 : decode cX5_begin 32 = .ok (.putfield 37, 3) := by decide +kernel
theorem dX5_begin_35 : decode cX5_begin 35 = .ok (.return_, 1) := by decide +kernel
theorem dX5_extend_0 : decode cX5_extend 0 = .ok (.iload_n 3, 1) := by decide +kernel
theorem dX5_extend_1 : decode cX5_extend 1 = .ok (.aload_n 0, 1) := by decide +kernel
theorem dX5_extend_2 : decode cX5_extend 2 = .ok (.getfield 34, 3) := by decide +kernel
theorem dX5_extend_5 : decode cX5_extend 5 = .ok (.if_icmp .lt 4, 3) := by decide +kernel
theorem dX5_extend_8 : decode cX5_extend 8 = .ok (.return_, 1) := by decide +kernel
theorem dX5_extend_9 : decode cX5_extend 9 = .ok (.iload_n 1, 1) := by decide +kernel
theorem dX5_extend_10 : decode cX5_extend 10 = .ok (.aload_n 0, 1) := by decide +kernel
theorem dX5_extend_11 : decode cX5_extend 11 = .ok (.getfield 27, 3) := by decide +kernel
theorem dX5_extend_14 : decode cX5_extend 14 = .ok (.if_icmp .lt 15, 3) := by decide +kernel
theorem dX5_extend_17 : decode cX5_extend 17 = .ok (.aload_n 0, 1) := by decide +kernel
theorem dX5_extend_18 : decode cX5_extend 18 = .ok (.iload_n 3, 1) := by decide +kernel
theorem dX5_extend_19 : decode cX5_extend 19 = .ok (.putfield 34, 3) := by decide +kernel
theorem dX5_extend_22 : decode cX5_extend 22 = .ok (.aload_n 0, 1) := by decide +kernel
theorem dX5_extend_23 : decode cX5_extend 23 = .ok (.iload 4, 2) := by decide +kernel
theorem dX5_extend_25 : decode cX5_extend 25 = .ok (.putfield 37, 3) := by decide +kernel
theorem dX5_extend_28 : decode cX5_extend 28 = .ok (.return_, 1) := by decide +kernel
theorem dX5_extend_29 : decode cX5_extend 29 = .ok (.aload_n 0, 1) := by decide +kernel
theorem dX5_extend_30 : decode cX5_extend 30 = .ok (.getfield 15, 3) := by decide +kernel
theorem dX5_extend_33 : decode cX5_extend 33 = .ok (.getfield 40, 3) := by decide +kernel
theorem dX5_extend_36 : decode cX5_extend 36 = .ok (.istore 5, 2) := by decide +kernel
theorem dX5_extend_38 : decode cX5_extend 38 = .ok (.iconst 0, 1) := by decide +kernel
theorem dX5_extend_39 : decode cX5_extend 39 = .ok (.istore 6, 2) := by decide +kernel
theorem dX5_extend_41 : decode cX5_extend 41 = .ok (.iload 6, 2) := by decide +kernel
theorem dX5_extend_43 : decode cX5_extend 43 = .ok (.aload_n 0, 1) := by decide +kernel
theorem dX5_extend_44 : decode cX5_extend 44 = .ok (.getfield 23, 3) := by decide +kernel
theorem dX5_extend_47 : decode cX5_extend 47 = .ok (.if_icmp .ge 68, 3) := by decide +kernel
theorem dX5_extend_50 : decode cX5_extend 50 = .ok (.iload_n 2, 1) := by decide +kernel
theorem dX5_extend_51 : decode cX5_extend 51 = .ok (.iload 6, 2) := by decide +kernel
theorem dX5_extend_53 : decode cX5_extend 53 = .ok (.ishr, 1) := by decide +kernel
theorem dX5_extend_54 : decode cX5_extend 54 = .ok (.iconst 1, 1) := by decide +kernel
theorem dX5_extend_55 : decode cX5_extend 55 = .ok (.iand, 1) := by decide +kernel
theorem dX5_extend_56 : decode cX5_extend 56 = .ok (.ifCond .ne 53, 3) := by decide +kernel
theorem dX5_extend_59 : decode cX5_extend 59 = .ok (.aload_n 0, 1) := by decide +kernel
theorem dX5_extend_60 : decode cX5_extend 60 = .ok (.getfield 15, 3) := by decide +kernel
theorem dX5_extend_63 : decode cX5_extend 63 = .ok (.iload 5, 2) := by decide +kernel
theorem dX5_extend_65 : decode cX5_extend 65 = .ok (.putfield 40, 3) := by decide +kernel
theorem dX5_extend_68 : decode cX5_extend 68 = .ok (.aload_n 0, 1) := by decide +kernel
theorem dX5_extend_69 : decode cX5_extend 69 = .ok (.aload_n 0, 1) := by decide +kernel
theorem dX5_extend_70 : decode cX5_extend 70 = .ok (.getfield 9, 3) := by decide +kernel
theorem dX5_extend_73 : decode cX5_extend 73 = .ok (.iload 6, 2) := by decide +kernel
theorem dX5_extend_75 : decode cX5_extend 75 = .ok (.aaload, 1) := by decide +kernel
theorem dX5_extend_76 : decode cX5_extend 76 = .ok (.invokevirtual 45, 3) := by decide +kernel
theorem dX5_extend_79 : decode cX5_extend 79 = .ok (.istore 7, 2) := by decide +kernel
theorem dX5_extend_81 : decode cX5_extend 81 = .ok (.aload_n 0, 1) := by decide +kernel
theorem dX5_extend_82 : decode cX5_extend 82 = .ok (.iload_n 1, 1) := by decide +kernel
theorem dX5_extend_83 : decode cX5_extend 83 = .ok (.iconst 1, 1) := by decide +kernel
theorem dX5_extend_84 : decode cX5_extend 84 = .ok (.iadd, 1) := by decide +kernel
theorem dX5_extend_85 : decode cX5_extend 85 = .ok (.iload_n 2, 1) := by decide +kernel
theorem dX5_extend_86 : decode cX5_extend 86 = .ok (.iconst 1, 1) := by decide +kernel
theorem dX5_extend_87 : decode cX5_extend 87 = .ok (.iload 6, 2) := by decide +kernel
theorem dX5_extend_89 : decode cX5_extend 89 = .ok (.ishl, 1) := by decide +kernel
theorem dX5_extend_90 : decode cX5_extend 90 = .ok (.ior, 1) := by decide +kernel
theorem dX5_extend_91 : decode cX5_extend 91 = .ok (.iload_n 3, 1) := by decide +kernel
theorem dX5_extend_92 : decode cX5_extend 92 = .ok (.iload 7, 2) := by decide +kernel
theorem dX5_extend_94 : decode cX5_extend 94 = .ok (.iadd, 1) := by decide +kernel
theorem dX5_extend_95 : decode cX5_extend 95 = .ok (.iload_n 1, 1) := by decide +kernel
theorem dX5_extend_96 : decode cX5_extend 96 = .ok (.ifCond .ne 8, 3) := by decide +kernel
theorem dX5_extend_99 : decode cX5_extend 99 = .ok (.iload 6, 2) := by decide +kernel
theorem dX5_extend_101 : decode cX5_extend 101 = .ok (.goto 5, 3) := by decide +kernel
theorem dX5_extend_104 : decode cX5_extend 104 = .ok (.iload 4, 2) := by decide +kernel
theorem dX5_extend_106 : decode cX5_extend 106 = .ok (.invokevirtual 49, 3) := by decide +kernel
theorem dX5_extend_109 : decode cX5_extend 109 = .ok (.iinc 6 1, 3) := by decide +kernel
theorem dX5_extend_112 : decode cX5_extend 112 = .ok (.goto (-71), 3) := by decide +kernel
theorem dX5_extend_115 : decode cX5_extend 115 = .ok (.return_, 1) := by decide +kernel
theorem dX5_sewOn_0 : decode cX5_sewOn 0 = .ok (.iconst 0, 1) := by decide +kernel
theorem dX5_sewOn_1 : decode cX5_sewOn 1 = .ok (.istore_n 2, 1) := by decide +kernel
theorem dX5_sewOn_2 : decode cX5_sewOn 2 = .ok (.iconst 0, 1) := by decide +kernel
theorem dX5_sewOn_3 : decode cX5_sewOn 3 = .ok (.istore_n 3, 1) := by decide +kernel
theorem dX5_sewOn_4 : decode cX5_sewOn 4 = .ok (.iload_n 3, 1) := by decide +kernel
theorem dX5_sewOn_5 : decode cX5_sewOn 5 = .ok (.aload_n 0, 1) := by decide +kernel
theorem dX5_sewOn_6 : decode cX5_sewOn 6 = .ok (.getfield 30, 3) := by decide +kernel
theorem dX5_sewOn_9 : decode cX5_sewOn 9 = .ok (.if_icmp .ge 37, 3) := by decide +kernel
theorem dX5_sewOn_12 : decode cX5_sewOn 12 = .ok (.aload_n 1, 1) := by decide +kernel
theorem dX5_sewOn_13 : decode cX5_sewOn 13 = .ok (.aload_n 0, 1) := by decide +kernel
theorem dX5_sewOn_14 : decode cX5_sewOn 14 = .ok (.getfield 15, 3) := by decide +kernel
theorem dX5_sewOn_17 : decode cX5_sewOn 17 = .ok (.invokevirtual 53, 3) := by decide +kernel
theorem dX5_sewOn_20 : decode cX5_sewOn 20 = .ok (.ifCond .eq 6, 3) := by decide +kernel
theorem dX5_sewOn_23 : decode cX5_sewOn 23 = .ok (.iinc 2 1, 3) := by decide +kernel
theorem dX5_sewOn_26 : decode cX5_sewOn 26 = .ok (.aload_n 0, 1) := by decide +kernel
theorem dX5_sewOn_27 : decode cX5_sewOn 27 = .ok (.getfield 15, 3) := by decide +kernel
theorem dX5_sewOn_30 : decode cX5_sewOn 30 = .ok (.aload_n 1, 1) := by decide +kernel
theorem dX5_sewOn_31 : decode cX5_sewOn 31 = .ok (.getfield 59, 3) := by decide +kernel
theorem dX5_sewOn_34 : decode cX5_sewOn 34 = .ok (.invokevirtual 63, 3) := by decide +kernel
theorem dX5_sewOn_37 : decode cX5_sewOn 37 = .ok (.invokevirtual 69, 3) := by decide +kernel
theorem dX5_sewOn_40 : decode cX5_sewOn 40 = .ok (.iinc 3 1, 3) := by decide +kernel
theorem dX5_sewOn_43 : decode cX5_sewOn 43 = .ok (.goto (-39), 3) := by decide +kernel
theorem dX5_sewOn_46 : decode cX5_sewOn 46 = .ok (.iload_n 2, 1) := by decide +kernel
theorem dX5_sewOn_47 : decode cX5_sewOn 47 = .ok (.ireturn, 1) := by decide +kernel
theorem dX6_init_0 : decode cX6_init 0 = .ok (.aload_n 0, 1) := by decide +kernel
theorem dX6_init_1 : decode cX6_init 1 = .ok (.invokespecial 3, 3) := by decide +kernel
theorem dX6_init_4 : decode cX6_init 4 = .ok (.aload_n 0, 1) := by decide +kernel
theorem dX6_init_5 : decode cX6_init 5 = .ok (.bipush 40, 2) := by decide +kernel
theorem dX6_init_7 : decode cX6_init 7 = .ok (.newarray .int, 2) := by decide +kernel
theorem dX6_init_9 : decode cX6_init 9 = .ok (.putfield 9, 3) := by decide +kernel
theorem dX6_init_12 : decode cX6_init 12 = .ok (.return_, 1) := by decide +kernel
theorem dX6_isMissing_0 : decode cX6_isMissing 0 = .ok (.aload_n 0, 1) := by decide +kernel
theorem dX6_isMissing_1 : decode cX6_isMissing 1 = .ok (.getfield 15, 3) := by decide +kernel
theorem dX6_isMissing_4 : decode cX6_isMissing 4 = .ok (.ifCond .ne 7, 3) := by decide +kernel
theorem dX6_isMissing_7 : decode cX6_isMissing 7 = .ok (.iconst 1, 1) := by decide +kernel
theorem dX6_isMissing_8 : decode cX6_isMissing 8 = .ok (.goto 4, 3) := by decide +kernel
theorem dX6_isMissing_11 : decode cX6_isMissing 11 = .ok (.iconst 0, 1) := by decide +kernel
theorem dX6_isMissing_12 : decode cX6_isMissing 12 = .ok (.ireturn, 1) := by decide +kernel
theorem dX6_lay_0 : decode cX6_lay 0 = .ok (.aload_n 0, 1) := by decide +kernel
theorem dX6_lay_1 : decode cX6_lay 1 = .ok (.iload_n 1, 1) := by decide +kernel
theorem dX6_lay_2 : decode cX6_lay 2 = .ok (.putfield 15, 3) := by decide +kernel
theorem dX6_lay_5 : decode cX6_lay 5 = .ok (.aload_n 0, 1) := by decide +kernel
theorem dX6_lay_6 : decode cX6_lay 6 = .ok (.iload_n 2, 1) := by decide +kernel
theorem dX6_lay_7 : decode cX6_lay 7 = .ok (.putfield 19, 3) := by decide +kernel
theorem dX6_lay_10 : decode cX6_lay 10 = .ok (.aload_n 0, 1) := by decide +kernel
theorem dX6_lay_11 : decode cX6_lay 11 = .ok (.getfield 9, 3) := by decide +kernel
theorem dX6_lay_14 : decode cX6_lay 14 = .ok (.iconst 0, 1) := by decide +kernel
theorem dX6_lay_15 : decode cX6_lay 15 = .ok (.invokestatic 22, 3) := by decide +kernel
theorem dX6_lay_18 : decode cX6_lay 18 = .ok (.return_, 1) := by decide +kernel
theorem dX6_write_0 : decode cX6_write 0 = .ok (.aload_n 0, 1) := by decide +kernel
theorem dX6_write_1 : decode cX6_write 1 = .ok (.getfield 9, 3) := by decide +kernel
theorem dX6_write_4 : decode cX6_write 4 = .ok (.iload_n 1, 1) := by decide +kernel
theorem dX6_write_5 : decode cX6_write 5 = .ok (.aload_n 0, 1) := by decide +kernel
theorem dX6_write_6 : decode cX6_write 6 = .ok (.getfield 15, 3) := by decide +kernel
theorem dX6_write_9 : decode cX6_write 9 = .ok (.bipush 8, 2) := by decide +kernel
theorem dX6_write_11 : decode cX6_write 11 = .ok (.if_icmp .ne 8, 3) := by decide +kernel
theorem dX6_write_14 : decode cX6_write 14 = .ok (.iload_n 2, 1) := by decide +kernel
theorem dX6_write_15 : decode cX6_write 15 = .ok (.i2b, 1) := by decide +kernel
theorem dX6_write_16 : decode cX6_write 16 = .ok (.goto 18, 3) := by decide +kernel
theorem dX6_write_19 : decode cX6_write 19 = .ok (.aload_n 0, 1) := by decide +kernel
theorem dX6_write_20 : decode cX6_write 20 = .ok (.getfield 15, 3) := by decide +kernel
theorem dX6_write_23 : decode cX6_write 23 = .ok (.bipush 16, 2) := by decide +kernel
theorem dX6_write_25 : decode cX6_write 25 = .ok (.if_icmp .ne 8, 3) := by decide +kernel
theorem dX6_write_28 : decode cX6_write 28 = .ok (.iload_n 2, 1) := by decide +kernel
theorem dX6_write_29 : decode cX6_write 29 = .ok (.i2s, 1) := by decide +kernel
theorem dX6_write_30 : decode cX6_write 30 = .ok (.goto 4, 3) := by decide +kernel
theorem dX6_write_33 : decode cX6_write 33 = .ok (.iload_n 2, 1) := by decide +kernel
theorem dX6_write_34 : decode cX6_write 34 = .ok (.iastore, 1) := by decide +kernel
theorem dX6_write_35 : decode cX6_write 35 = .ok (.return_, 1) := by decide +kernel
theorem dX6_hasRun_0 : decode cX6_hasRun 0 = .ok (.iload_n 1, 1) := by decide +kernel
theorem dX6_hasRun_1 : decode cX6_hasRun 1 = .ok (.ifCond .lt 29, 3) := by decide +kernel
theorem dX6_hasRun_4 : decode cX6_hasRun 4 = .ok (.iload_n 2, 1) := by decide +kernel
theorem dX6_hasRun_5 : decode cX6_hasRun 5 = .ok (.ifCond .lt 25, 3) := by decide +kernel
theorem dX6_hasRun_8 : decode cX6_hasRun 8 = .ok (.iload_n 2, 1) := by decide +kernel
theorem dX6_hasRun_9 : decode cX6_hasRun 9 = .ok (.aload_n 0, 1) := by decide +kernel
theorem dX6_hasRun_10 : decode cX6_hasRun 10 = .ok (.getfield 19, 3) := by decide +kernel
theorem dX6_hasRun_13 : decode cX6_hasRun 13 = .ok (.if_icmp .gt 17, 3) := by decide +kernel
theorem dX6_hasRun_16 : decode cX6_hasRun 16 = .ok (.iload_n 1, 1) := by decide +kernel
theorem dX6_hasRun_17 : decode cX6_hasRun 17 = .ok (.aload_n 0, 1) := by decide +kernel
theorem dX6_hasRun_18 : decode cX6_hasRun 18 = .ok (.getfield 19, 3) := by decide +kernel
theorem dX6_hasRun_21 : decode cX6_hasRun 21 = .ok (.iload_n 2, 1) := by decide +kernel
theorem dX6_hasRun_22 : decode cX6_hasRun 22 = .ok (.isub, 1) := by decide +kernel
theorem dX6_hasRun_23 : decode cX6_hasRun 23 = .ok (.if_icmp .gt 7, 3) := by decide +kernel
theorem dX6_hasRun_26 : decode cX6_hasRun 26 = .ok (.iconst 1, 1) := by decide +kernel
theorem dX6_hasRun_27 : decode cX6_hasRun 27 = .ok (.goto 4, 3) := by decide +kernel
theorem dX6_hasRun_30 : decode cX6_hasRun 30 = .ok (.iconst 0, 1) := by decide +kernel
theorem dX6_hasRun_31 : decode cX6_hasRun 31 = .ok (.ireturn, 1) := by decide +kernel
theorem dX7_init_0 : decode cX7_init 0 = .ok (.aload_n 0, 1) := by decide +kernel
theorem dX7_init_1 : decode cX7_init 1 = .ok (.invokespecial 3, 3) := by decide +kernel
theorem dX7_init_4 : decode cX7_init 4 = .ok (.aload_n 0, 1) := by decide +kernel
theorem dX7_init_5 : decode cX7_init 5 = .ok (.new 9, 3) := by decide +kernel
theorem dX7_init_8 : decode cX7_init 8 = .ok (.dup, 1) := by decide +kernel
theorem dX7_init_9 : decode cX7_init 9 = .ok (.invokespecial 11, 3) := by decide +kernel
theorem dX7_init_12 : decode cX7_init 12 = .ok (.putfield 12, 3) := by decide +kernel
theorem dX7_init_15 : decode cX7_init 15 = .ok (.aload_n 0, 1) := by decide +kernel
theorem dX7_init_16 : decode cX7_init 16 = .ok (.bipush 6, 2) := by decide +kernel
theorem dX7_init_18 : decode cX7_init 18 = .ok (.anewarray 18, 3) := by decide +kernel
theorem dX7_init_21 : decode cX7_init 21 = .ok (.putfield 20, 3) := by decide +kernel
theorem dX7_init_24 : decode cX7_init 24 = .ok (.aload_n 0, 1) := by decide +kernel
theorem dX7_init_25 : decode cX7_init 25 = .ok (.iconst 2, 1) := by decide +kernel
theorem dX7_init_26 : decode cX7_init 26 = .ok (.anewarray 24, 3) := by decide +kernel
theorem dX7_init_29 : decode cX7_init 29 = .ok (.putfield 26, 3) := by decide +kernel
theorem dX7_init_32 : decode cX7_init 32 = .ok (.aload_n 0, 1) := by decide +kernel
theorem dX7_init_33 : decode cX7_init 33 = .ok (.bipush 50, 2) := by decide +kernel
theorem dX7_init_35 : decode cX7_init 35 = .ok (.newarray .byte, 2) := by decide +kernel
theorem dX7_init_37 : decode cX7_init 37 = .ok (.putfield 30, 3) := by decide +kernel
theorem dX7_init_40 : decode cX7_init 40 = .ok (.aload_n 0, 1) := by decide +kernel
theorem dX7_init_41 : decode cX7_init 41 = .ok (.bipush 20, 2) := by decide +kernel
theorem dX7_init_43 : decode cX7_init 43 = .ok (.newarray .int, 2) := by decide +kernel
theorem dX7_init_45 : decode cX7_init 45 = .ok (.putfield 34, 3) := by decide +kernel
theorem dX7_init_48 : decode cX7_init 48 = .ok (.aload_n 0, 1) := by decide +kernel
theorem dX7_init_49 : decode cX7_init 49 = .ok (.iconst 0, 1) := by decide +kernel
theorem dX7_init_50 : decode cX7_init 50 = .ok (.putfield 38, 3) := by decide +kernel
theorem dX7_init_53 : decode cX7_init 53 = .ok (.aload_n 0, 1) := by decide +kernel
theorem dX7_init_54 : decode cX7_init 54 = .ok (.iconst 0, 1) := by decide +kernel
theorem dX7_init_55 : decode cX7_init 55 = .ok (.putfield 42, 3) := by decide +kernel
theorem dX7_init_58 : decode cX7_init 58 = .ok (.aload_n 0, 1) := by decide +kernel
theorem dX7_init_59 : decode cX7_init 59 = .ok (.iconst 0, 1) := by decide +kernel
theorem dX7_init_60 : decode cX7_init 60 = .ok (.putfield 45, 3) := by decide +kernel
theorem dX7_init_63 : decode cX7_init 63 = .ok (.aload_n 0, 1) := by decide +kernel
theorem dX7_init_64 : decode cX7_init 64 = .ok (.iconst 0, 1) := by decide +kernel
theorem dX7_init_65 : decode cX7_init 65 = .ok (.putfield 48, 3) := by decide +kernel
theorem dX7_init_68 : decode cX7_init 68 = .ok (.aload_n 0, 1) := by decide +kernel
theorem dX7_init_69 : decode cX7_init 69 = .ok (.iconst 1, 1) := by decide +kernel
theorem dX7_init_70 : decode cX7_init 70 = .ok (.putfield 51, 3) := by decide +kernel
theorem dX7_init_73 : decode cX7_init 73 = .ok (.iconst 0, 1) := by decide +kernel
theorem dX7_init_74 : decode cX7_init 74 = .ok (.istore_n 1, 1) := by decide +kernel
theorem dX7_init_75 : decode cX7_init 75 = .ok (.iload_n 1, 1) := by decide +kernel
theorem dX7_init_76 : decode cX7_init 76 = .ok (.bipush 6, 2) := by decide +kernel
theorem dX7_init_78 : decode cX7_init 78 = .ok (.if_icmp .ge 22, 3) := by decide +kernel
theorem dX7_init_81 : decode cX7_init 81 = .ok (.aload_n 0, 1) := by decide +kernel
theorem dX7_init_82 : decode cX7_init 82 = .ok (.getfield 20, 3) := by decide +kernel
theorem dX7_init_85 : decode cX7_init 85 = .ok (.iload_n 1, 1) := by decide +kernel
theorem dX7_init_86 : decode cX7_init 86 = .ok (.new 18, 3) := by decide +kernel
theorem dX7_init_89 : decode cX7_init 89 = .ok (.dup, 1) := by decide +kernel
theorem dX7_init_90 : decode cX7_init 90 = .ok (.invokespecial 54, 3) := by decide +kernel
theorem dX7_init_93 : decode cX7_init 93 = .ok (.aastore, 1) := by decide +kernel
theorem dX7_init_94 : decode cX7_init 94 = .ok (.iinc 1 1, 3) := by decide +kernel
theorem dX7_init_97 : decode cX7_init 97 = .ok (.goto (-22), 3) := by decide +kernel
theorem dX7_init_100 : decode cX7_init 100 = .ok (.aload_n 0, 1) := by decide +kernel
theorem dX7_init_101 : decode cX7_init 101 = .ok (.getfield 26, 3) := by decide +kernel
theorem dX7_init_104 : decode cX7_init 104 = .ok (.iconst 0, 1) := by decide +kernel
theorem dX7_init_105 : decode cX7_init 105 = .ok (.new 24, 3) := by decide +kernel
theorem dX7_init_108 : decode cX7_init 108 = .ok (.dup, 1) := by decide +kernel
theorem dX7_init_109 : decode cX7_init 109 = .ok (.invokespecial 55, 3) := by decide +kernel
theorem dX7_init_112 : decode cX7_init 112 = .ok (.aastore, 1) := by decide +kernel
theorem dX7_init_113 : decode cX7_init 113 = .ok (.aload_n 0, 1) := by decide +kernel
theorem dX7_init_114 : decode cX7_init 114 = .ok (.getfield 26, 3) := by decide +kernel
theorem dX7_init_117 : decode cX7_init 117 = .ok (.iconst 1, 1) := by decide +kernel
theorem dX7_init_118 : decode cX7_init 118 = .ok (.new 24, 3) := by decide +kernel
theorem dX7_init_121 : decode cX7_init 121 = .ok (.dup, 1) := by decide +kernel
theorem dX7_init_122 : decode cX7_init 122 = .ok (.invokespecial 55, 3) := by decide +kernel
theorem dX7_init_125 : decode cX7_init 125 = .ok (.aastore, 1) := by decide +kernel
theorem dX7_init_126 : decode cX7_init 126 = .ok (.return_, 1) := by decide +kernel
theorem dX7_copyFrom_0 : decode cX7_copyFrom 0 = .ok (.aload_n 0, 1) := by decide +kernel
theorem dX7_copyFrom_1 : decode cX7_copyFrom 1 = .ok (.getfield 12, 3) := by decide +kernel
theorem dX7_copyFrom_4 : decode cX7_copyFrom 4 = .ok (.aload_n 1, 1) := by decide +kernel
theorem dX7_copyFrom_5 : decode cX7_copyFrom 5 = .ok (.getfield 12, 3) := by decide +kernel
theorem dX7_copyFrom_8 : decode cX7_copyFrom 8 = .ok (.invokevirtual 56, 3) := by decide +kernel
theorem dX7_copyFrom_11 : decode cX7_copyFrom 11 = .ok (.iconst 0, 1) := by decide +kernel
theorem dX7_copyFrom_12 : decode cX7_copyFrom 12 = .ok (.istore_n 2, 1) := by decide +kernel
theorem dX7_copyFrom_13 : decode cX7_copyFrom 13 = .ok (.iload_n 2, 1) := by decide +kernel
theorem dX7_copyFrom_14 : decode cX7_copyFrom 14 = .ok (.bipush 6, 2) := by decide +kernel
theorem dX7_copyFrom_16 : decode cX7_copyFrom 16 = .ok (.if_icmp .ge 24, 3) := by decide +kernel
theorem dX7_copyFrom_19 : decode cX7_copyFrom 19 = .ok (.aload_n 0, 1) := by decide +kernel
theorem dX7_copyFrom_20 : decode cX7_copyFrom 20 = .ok (.getfield 20, 3) := by decide +kernel
theorem dX7_copyFrom_23 : decode cX7_copyFrom 23 = .ok (.iload_n 2, 1) := by decide +kernel
theorem dX7_copyFrom_24 : decode cX7_copyFrom 24 = .ok (.aaload, 1) := by decide +kernel
theorem dX7_copyFrom_25 : decode cX7_copyFrom 25 = .ok (.aload_n 1, 1) := by decide +kernel
theorem dX7_copyFrom_26 : decode cX7_copyFrom 26 = .ok (.getfield 20, 3) := by decide +kernel
theorem dX7_copyFrom_29 : decode cX7_copyFrom 29 = .ok (.iload_n 2, 1) := by decide +kernel
theorem dX7_copyFrom_30 : decode cX7_copyFrom 30 = .ok (.aaload, 1) := by decide +kernel
theorem dX7_copyFrom_31 : decode cX7_copyFrom 31 = .ok (.invokevirtual 60, 3) := by decide +kernel
theorem dX7_copyFrom_34 : decode cX7_copyFrom 34 = .ok (.iinc 2 1, 3) := by decide +kernel
theorem dX7_copyFrom_37 : decode cX7_copyFrom 37 = .ok (.goto (-24), 3) := by decide +kernel
theorem dX7_copyFrom_40 : decode cX7_copyFrom 40 = .ok (.aload_n 0, 1) := by decide +kernel
theorem dX7_copyFrom_41 : decode cX7_copyFrom 41 = .ok (.getfield 26, 3) := by decide +kernel
theorem dX7_copyFrom_44 : decode cX7_copyFrom 44 = .ok (.iconst 0, 1) := by decide +kernel
theorem dX7_copyFrom_45 : decode cX7_copyFrom 45 = .ok (.aaload, 1) := by decide +kernel
theorem dX7_copyFrom_46 : decode cX7_copyFrom 46 = .ok (.aload_n 1, 1) := by decide +kernel
theorem dX7_copyFrom_47 : decode cX7_copyFrom 47 = .ok (.getfield 26, 3) := by decide +kernel
theorem dX7_copyFrom_50 : decode cX7_copyFrom 50 = .ok (.iconst 0, 1) := by decide +kernel
theorem dX7_copyFrom_51 : decode cX7_copyFrom 51 = .ok (.aaload, 1) := by decide +kernel
theorem dX7_copyFrom_52 : decode cX7_copyFrom 52 = .ok (.getfield 63, 3) := by decide +kernel
theorem dX7_copyFrom_55 : decode cX7_copyFrom 55 = .ok (.aload_n 1, 1) := by decide +kernel
theorem dX7_copyFrom_56 : decode cX7_copyFrom 56 = .ok (.getfield 26, 3) := by decide +kernel
theorem dX7_copyFrom_59 : decode cX7_copyFrom 59 = .ok (.iconst 0, 1) := by decide +kernel
theorem dX7_copyFrom_60 : decode cX7_copyFrom 60 = .ok (.aaload, 1) := by decide +kernel
theorem dX7_copyFrom_61 : decode cX7_copyFrom 61 = .ok (.getfield 66, 3) := by decide +kernel
theorem dX7_copyFrom_64 : decode cX7_copyFrom 64 = .ok (.invokevirtual 69, 3) := by decide +kernel
theorem dX7_copyFrom_67 : decode cX7_copyFrom 67 = .ok (.aload_n 0, 1) := by decide +kernel
theorem dX7_copyFrom_68 : decode cX7_copyFrom 68 = .ok (.getfield 26, 3) := by decide +kernel
theorem dX7_copyFrom_71 : decode cX7_copyFrom 71 = .ok (.iconst 1, 1) := by decide +kernel
theorem dX7_copyFrom_72 : decode cX7_copyFrom 72 = .ok (.aaload, 1) := by decide +kernel
theorem dX7_copyFrom_73 : decode cX7_copyFrom 73 = .ok (.aload_n 1, 1) := by decide +kernel
theorem dX7_copyFrom_74 : decode cX7_copyFrom 74 = .ok (.getfield 26, 3) := by decide +kernel
theorem dX7_copyFrom_77 : decode cX7_copyFrom 77 = .ok (.iconst 1, 1) := by decide +kernel
theorem dX7_copyFrom_78 : decode cX7_copyFrom 78 = .ok (.aaload, 1) := by decide +kernel
theorem dX7_copyFrom_79 : decode cX7_copyFrom 79 = .ok (.getfield 63, 3) := by decide +kernel
theorem dX7_copyFrom_82 : decode cX7_copyFrom 82 = .ok (.aload_n 1, 1) := by decide +kernel
theorem dX7_copyFrom_83 : decode cX7_copyFrom 83 = .ok (.getfield 26, 3) := by decide +kernel
theorem dX7_copyFrom_86 : decode cX7_copyFrom 86 = .ok (.iconst 1, 1) := by decide +kernel
theorem dX7_copyFrom_87 : decode cX7_copyFrom 87 = .ok (.aaload, 1) := by decide +kernel
theorem dX7_copyFrom_88 : decode cX7_copyFrom 88 = .ok (.getfield 66, 3) := by decide +kernel
theorem dX7_copyFrom_91 : decode cX7_copyFrom 91 = .ok (.invokevirtual 69, 3) := by decide +kernel
theorem dX7_copyFrom_94 : decode cX7_copyFrom 94 = .ok (.aload_n 1, 1) := by decide +kernel
theorem dX7_copyFrom_95 : decode cX7_copyFrom 95 = .ok (.getfield 30, 3) := by decide +kernel
theorem dX7_copyFrom_98 : decode cX7_copyFrom 98 = .ok (.iconst 0, 1) := by decide +kernel
theorem dX7_copyFrom_99 : decode cX7_copyFrom 99 = .ok (.aload_n 0, 1) := by decide +kernel
theorem dX7_copyFrom_100 : decode cX7_copyFrom 100 = .ok (.getfield 30, 3) := by decide +kernel
theorem dX7_copyFrom_103 : decode cX7_copyFrom 103 = .ok (.iconst 0, 1) := by decide +kernel
theorem dX7_copyFrom_104 : decode cX7_copyFrom 104 = .ok (.bipush 50, 2) := by decide +kernel
theorem dX7_copyFrom_106 : decode cX7_copyFrom 106 = .ok (.invokestatic 73, 3) := by decide +kernel
theorem dX7_copyFrom_109 : decode cX7_copyFrom 109 = .ok (.aload_n 1, 1) := by decide +kernel
theorem dX7_copyFrom_110 : decode cX7_copyFrom 110 = .ok (.getfield 34, 3) := by decide +kernel
theorem dX7_copyFrom_113 : decode cX7_copyFrom 113 = .ok (.iconst 0, 1) := by decide +kernel
theorem dX7_copyFrom_114 : decode cX7_copyFrom 114 = .ok (.aload_n 0, 1) := by decide +kernel
theorem dX7_copyFrom_115 : decode cX7_copyFrom 115 = .ok (.getfield 34, 3) := by decide +kernel
theorem dX7_copyFrom_118 : decode cX7_copyFrom 118 = .ok (.iconst 0, 1) := by decide +kernel
theorem dX7_copyFrom_119 : decode cX7_copyFrom 119 = .ok (.bipush 20, 2) := by decide +kernel
theorem dX7_copyFrom_121 : decode cX7_copyFrom 121 = .ok (.invokestatic 73, 3) := by decide +kernel
theorem dX7_copyFrom_124 : decode cX7_copyFrom 124 = .ok (.aload_n 0, 1) := by decide +kernel
theorem dX7_copyFrom_125 : decode cX7_copyFrom 125 = .ok (.aload_n 1, 1) := by decide +kernel
theorem dX7_copyFrom_126 : decode cX7_copyFrom 126 = .ok (.getfield 38, 3) := by decide +kernel
theorem dX7_copyFrom_129 : decode cX7_copyFrom 129 = .ok (.putfield 38, 3) := by decide +kernel
theorem dX7_copyFrom_132 : decode cX7_copyFrom 132 = .ok (.aload_n 0, 1) := by decide +kernel
theorem dX7_copyFrom_133 : decode cX7_copyFrom 133 = .ok (.aload_n 1, 1) := by decide +kernel
theorem dX7_copyFrom_134 : decode cX7_copyFrom 134 = .ok (.getfield 42, 3) := by decide +kernel
theorem dX7_copyFrom_137 : decode cX7_copyFrom 137 = .ok (.putfield 42, 3) := by decide +kernel
theorem dX7_copyFrom_140 : decode cX7_copyFrom 140 = .ok (.aload_n 0, 1) := by decide +kernel
theorem dX7_copyFrom_141 : decode cX7_copyFrom 141 = .ok (.aload_n 1, 1) := by decide +kernel
theorem dX7_copyFrom_142 : decode cX7_copyFrom 142 = .ok (.getfield 45, 3) := by decide +kernel
theorem dX7_copyFrom_145 : decode cX7_copyFrom 145 = .ok (.putfield 45, 3) := by decide +kernel
theorem dX7_copyFrom_148 : decode cX7_copyFrom 148 = .ok (.aload_n 0, 1) := by decide +kernel
theorem dX7_copyFrom_149 : decode cX7_copyFrom 149 = .ok (.aload_n 1, 1) := by decide +kernel
theorem dX7_copyFrom_150 : decode cX7_copyFrom 150 = .ok (.getfield 48, 3) := by decide +kernel
theorem dX7_copyFrom_153 : decode cX7_copyFrom 153 = .ok (.putfield 48, 3) := by decide +kernel
theorem dX7_copyFrom_156 : decode cX7_copyFrom 156 = .ok (.aload_n 0, 1) := by decide +kernel
theorem dX7_copyFrom_157 : decode cX7_copyFrom 157 = .ok (.aload_n 1, 1) := by decide +kernel
theorem dX7_copyFrom_158 : decode cX7_copyFrom 158 = .ok (.getfield 51, 3) := by decide +kernel
theorem dX7_copyFrom_161 : decode cX7_copyFrom 161 = .ok (.putfield 51, 3) := by decide +kernel
theorem dX7_copyFrom_164 : decode cX7_copyFrom 164 = .ok (.return_, 1) := by decide +kernel
theorem dX7_gives_0 : decode cX7_gives 0 = .ok (.iload_n 1, 1) := by decide +kernel
theorem dX7_gives_1 : decode cX7_gives 1 = .ok (.ifCond .ne 44, 3) := by decide +kernel
theorem dX7_gives_4 : decode cX7_gives 4 = .ok (.aload_n 0, 1) := by decide +kernel
theorem dX7_gives_5 : decode cX7_gives 5 = .ok (.getfield 26, 3) := by decide +kernel
theorem dX7_gives_8 : decode cX7_gives 8 = .ok (.iconst 0, 1) := by decide +kernel
theorem dX7_gives_9 : decode cX7_gives 9 = .ok (.aaload, 1) := by decide +kernel
theorem dX7_gives_10 : decode cX7_gives 10 = .ok (.astore 5, 2) := by decide +kernel
theorem dX7_gives_12 : decode cX7_gives 12 = .ok (.aload 5, 2) := by decide +kernel
theorem dX7_gives_14 : decode cX7_gives 14 = .ok (.getfield 66, 3) := by decide +kernel
theorem dX7_gives_17 : decode cX7_gives 17 = .ok (.ifCond .ne 11, 3) := by decide +kernel
theorem dX7_gives_20 : decode cX7_gives 20 = .ok (.iconst 2, 1) := by decide +kernel
theorem dX7_gives_21 : decode cX7_gives 21 = .ok (.iload_n 2, 1) := by decide +kernel
theorem dX7_gives_22 : decode cX7_gives 22 = .ok (.iconst 2, 1) := by decide +kernel
theorem dX7_gives_23 : decode cX7_gives 23 = .ok (.idiv, 1) := by decide +kernel
theorem dX7_gives_24 : decode cX7_gives 24 = .ok (.iadd, 1) := by decide +kernel
theorem dX7_gives_25 : decode cX7_gives 25 = .ok (.goto 12, 3) := by decide +kernel
theorem dX7_gives_28 : decode cX7_gives 28 = .ok (.aload 5, 2) := by decide +kernel
theorem dX7_gives_30 : decode cX7_gives 30 = .ok (.iload_n 2, 1) := by decide +kernel
theorem dX7_gives_31 : decode cX7_gives 31 = .ok (.iload_n 3, 1) := by decide +kernel
theorem dX7_gives_32 : decode cX7_gives 32 = .ok (.iload 4, 2) := by decide +kernel
theorem dX7_gives_34 : decode cX7_gives 34 = .ok (.invokevirtual 79, 3) := by decide +kernel
theorem dX7_gives_37 : decode cX7_gives 37 = .ok (.bipush (-9), 2) := by decide +kernel
theorem dX7_gives_39 : decode cX7_gives 39 = .ok (.bipush 19, 2) := by decide +kernel
theorem dX7_gives_41 : decode cX7_gives 41 = .ok (.invokestatic 83, 3) := by decide +kernel
theorem dX7_gives_44 : decode cX7_gives 44 = .ok (.ireturn, 1) := by decide +kernel
theorem dX7_gives_45 : decode cX7_gives 45 = .ok (.aload_n 0, 1) := by decide +kernel
theorem dX7_gives_46 : decode cX7_gives 46 = .ok (.getfield 26, 3) := by decide +kernel
theorem dX7_gives_49 : decode cX7_gives 49 = .ok (.iconst 1, 1) := by decide +kernel
theorem dX7_gives_50 : decode cX7_gives 50 = .ok (.aaload, 1) := by decide +kernel
theorem dX7_gives_51 : decode cX7_gives 51 = .ok (.astore 5, 2) := by decide +kernel
theorem dX7_gives_53 : decode cX7_gives 53 = .ok (.aload 5, 2) := by decide +kernel
theorem dX7_gives_55 : decode cX7_gives 55 = .ok (.getfield 66, 3) := by decide +kernel
theorem dX7_gives_58 : decode cX7_gives 58 = .ok (.ifCond .ne 7, 3) := by decide +kernel
theorem dX7_gives_61 : decode cX7_gives 61 = .ok (.iconst 4, 1) := by decide +kernel
theorem dX7_gives_62 : decode cX7_gives 62 = .ok (.goto 12, 3) := by decide +kernel
theorem dX7_gives_65 : decode cX7_gives 65 = .ok (.aload 5, 2) := by decide +kernel
theorem dX7_gives_67 : decode cX7_gives 67 = .ok (.iload_n 2, 1) := by decide +kernel
theorem dX7_gives_68 : decode cX7_gives 68 = .ok (.iload_n 3, 1) := by decide +kernel
theorem dX7_gives_69 : decode cX7_gives 69 = .ok (.iload 4, 2) := by decide +kernel
theorem dX7_gives_71 : decode cX7_gives 71 = .ok (.invokevirtual 79, 3) := by decide +kernel
theorem dX7_gives_74 : decode cX7_gives 74 = .ok (.iconst 0, 1) := by decide +kernel
theorem dX7_gives_75 : decode cX7_gives 75 = .ok (.bipush 9, 2) := by decide +kernel
theorem dX7_gives_77 : decode cX7_gives 77 = .ok (.invokestatic 83, 3) := by decide +kernel
theorem dX7_gives_80 : decode cX7_gives 80 = .ok (.ireturn, 1) := by decide +kernel
theorem dX7_follow_0 : decode cX7_follow 0 = .ok (.aload_n 0, 1) := by decide +kernel
theorem dX7_follow_1 : decode cX7_follow 1 = .ok (.getfield 12, 3) := by decide +kernel
theorem dX7_follow_4 : decode cX7_follow 4 = .ok (.iload_n 1, 1) := by decide +kernel
theorem dX7_follow_5 : decode cX7_follow 5 = .ok (.invokevirtual 86, 3) := by decide +kernel
theorem dX7_follow_8 : decode cX7_follow 8 = .ok (.aload_n 0, 1) := by decide +kernel
theorem dX7_follow_9 : decode cX7_follow 9 = .ok (.dup, 1) := by decide +kernel
theorem dX7_follow_10 : decode cX7_follow 10 = .ok (.getfield 48, 3) := by decide +kernel
theorem dX7_follow_13 : decode cX7_follow 13 = .ok (.getstatic 90, 3) := by decide +kernel
theorem dX7_follow_16 : decode cX7_follow 16 = .ok (.iload_n 1, 1) := by decide +kernel
theorem dX7_follow_17 : decode cX7_follow 17 = .ok (.iaload, 1) := by decide +kernel
theorem dX7_follow_18 : decode cX7_follow 18 = .ok (.iadd, 1) := by decide +kernel
theorem dX7_follow_19 : decode cX7_follow 19 = .ok (.putfield 48, 3) := by decide +kernel
theorem dX7_follow_22 : decode cX7_follow 22 = .ok (.return_, 1) := by decide +kernel
theorem dX7_sewYard_0 : decode cX7_sewYard 0 = .ok (.aload_n 1, 1) := by decide +kernel
theorem dX7_sewYard_1 : decode cX7_sewYard 1 = .ok (.getfield 93, 3) := by decide +kernel
theorem dX7_sewYard_4 : decode cX7_sewYard 4 = .ok (.astore_n 2, 1) := by decide +kernel
theorem dX7_sewYard_5 : decode cX7_sewYard 5 = .ok (.aload_n 1, 1) := by decide +kernel
theorem dX7_sewYard_6 : decode cX7_sewYard 6 = .ok (.aload_n 0, 1) := by decide +kernel
theorem dX7_sewYard_7 : decode cX7_sewYard 7 = .ok (.getfield 12, 3) := by decide +kernel
theorem dX7_sewYard_10 : decode cX7_sewYard 10 = .ok (.invokevirtual 99, 3) := by decide +kernel
theorem dX7_sewYard_13 : decode cX7_sewYard 13 = .ok (.ifCond .ne 7, 3) := by decide +kernel
theorem dX7_sewYard_16 : decode cX7_sewYard 16 = .ok (.iconst 0, 1) := by decide +kernel
theorem dX7_sewYard_17 : decode cX7_sewYard 17 = .ok (.goto 4, 3) := by decide +kernel
theorem dX7_sewYard_20 : decode cX7_sewYard 20 = .ok (.iconst 1, 1) := by decide +kernel
theorem dX7_sewYard_21 : decode cX7_sewYard 21 = .ok (.istore_n 3, 1) := by decide +kernel
theorem dX7_sewYard_22 : decode cX7_sewYard 22 = .ok (.aload_n 2, 1) := by decide +kernel
theorem dX7_sewYard_23 : decode cX7_sewYard 23 = .ok (.sipush 9999, 3) := by decide +kernel
theorem dX7_sewYard_26 : decode cX7_sewYard 26 = .ok (.aload_n 2, 1) := by decide +kernel
theorem dX7_sewYard_27 : decode cX7_sewYard 27 = .ok (.getfield 103, 3) := by decide +kernel
theorem dX7_sewYard_30 : decode cX7_sewYard 30 = .ok (.iload_n 3, 1) := by decide +kernel
theorem dX7_sewYard_31 : decode cX7_sewYard 31 = .ok (.iadd, 1) := by decide +kernel
theorem dX7_sewYard_32 : decode cX7_sewYard 32 = .ok (.invokestatic 106, 3) := by decide +kernel
theorem dX7_sewYard_35 : decode cX7_sewYard 35 = .ok (.putfield 103, 3) := by decide +kernel
theorem dX7_sewYard_38 : decode cX7_sewYard 38 = .ok (.aload_n 2, 1) := by decide +kernel
theorem dX7_sewYard_39 : decode cX7_sewYard 39 = .ok (.sipush 9999, 3) := by decide +kernel
theorem dX7_sewYard_42 : decode cX7_sewYard 42 = .ok (.aload_n 2, 1) := by decide +kernel
theorem dX7_sewYard_43 : decode cX7_sewYard 43 = .ok (.getfield 112, 3) := by decide +kernel
theorem dX7_sewYard_46 : decode cX7_sewYard 46 = .ok (.iconst 1, 1) := by decide +kernel
theorem dX7_sewYard_47 : decode cX7_sewYard 47 = .ok (.iadd, 1) := by decide +kernel
theorem dX7_sewYard_48 : decode cX7_sewYard 48 = .ok (.invokestatic 106, 3) := by decide +kernel
theorem dX7_sewYard_51 : decode cX7_sewYard 51 = .ok (.putfield 112, 3) := by decide +kernel
theorem dX7_sewYard_54 : decode cX7_sewYard 54 = .ok (.aload_n 0, 1) := by decide +kernel
theorem dX7_sewYard_55 : decode cX7_sewYard 55 = .ok (.getfield 12, 3) := by decide +kernel
theorem dX7_sewYard_58 : decode cX7_sewYard 58 = .ok (.aload_n 2, 1) := by decide +kernel
theorem dX7_sewYard_59 : decode cX7_sewYard 59 = .ok (.invokevirtual 115, 3) := by decide +kernel
theorem dX7_sewYard_62 : decode cX7_sewYard 62 = .ok (.invokevirtual 119, 3) := by decide +kernel
theorem dX7_sewYard_65 : decode cX7_sewYard 65 = .ok (.aload_n 0, 1) := by decide +kernel
theorem dX7_sewYard_66 : decode cX7_sewYard 66 = .ok (.dup, 1) := by decide +kernel
theorem dX7_sewYard_67 : decode cX7_sewYard 67 = .ok (.getfield 48, 3) := by decide +kernel
theorem dX7_sewYard_70 : decode cX7_sewYard 70 = .ok (.aload_n 0, 1) := by decide +kernel
theorem dX7_sewYard_71 : decode cX7_sewYard 71 = .ok (.getfield 12, 3) := by decide +kernel
theorem dX7_sewYard_74 : decode cX7_sewYard 74 = .ok (.invokevirtual 122, 3) := by decide +kernel
theorem dX7_sewYard_77 : decode cX7_sewYard 77 = .ok (.iadd, 1) := by decide +kernel
theorem dX7_sewYard_78 : decode cX7_sewYard 78 = .ok (.putfield 48, 3) := by decide +kernel
theorem dX7_sewYard_81 : decode cX7_sewYard 81 = .ok (.iload_n 3, 1) := by decide +kernel
theorem dX7_sewYard_82 : decode cX7_sewYard 82 = .ok (.ireturn, 1) := by decide +kernel
theorem dX7_draw_0 : decode cX7_draw 0 = .ok (.aload_n 0, 1) := by decide +kernel
theorem dX7_draw_1 : decode cX7_draw 1 = .ok (.aload_n 0, 1) := by decide +kernel
theorem dX7_draw_2 : decode cX7_draw 2 = .ok (.getfield 51, 3) := by decide +kernel
theorem dX7_draw_5 : decode cX7_draw 5 = .ok (.ldc 125, 2) := by decide +kernel
theorem dX7_draw_7 : decode cX7_draw 7 = .ok (.imul, 1) := by decide +kernel
theorem dX7_draw_8 : decode cX7_draw 8 = .ok (.sipush 12345, 3) := by decide +kernel
theorem dX7_draw_11 : decode cX7_draw 11 = .ok (.iadd, 1) := by decide +kernel
theorem dX7_draw_12 : decode cX7_draw 12 = .ok (.putfield 51, 3) := by decide +kernel
theorem dX7_draw_15 : decode cX7_draw 15 = .ok (.aload_n 0, 1) := by decide +kernel
theorem dX7_draw_16 : decode cX7_draw 16 = .ok (.getfield 51, 3) := by decide +kernel
theorem dX7_draw_19 : decode cX7_draw 19 = .ok (.bipush 8, 2) := by decide +kernel
theorem dX7_draw_21 : decode cX7_draw 21 = .ok (.iushr, 1) := by decide +kernel
theorem dX7_draw_22 : decode cX7_draw 22 = .ok (.ireturn, 1) := by decide +kernel
theorem dX7_allYards_0 : decode cX7_allYards 0 = .ok (.iconst 0, 1) := by decide +kernel
theorem dX7_allYards_1 : decode cX7_allYards 1 = .ok (.istore_n 1, 1) := by decide +kernel
theorem dX7_allYards_2 : decode cX7_allYards 2 = .ok (.iconst 0, 1) := by decide +kernel
theorem dX7_allYards_3 : decode cX7_allYards 3 = .ok (.istore_n 2, 1) := by decide +kernel
theorem dX7_allYards_4 : decode cX7_allYards 4 = .ok (.iload_n 2, 1) := by decide +kernel
theorem dX7_allYards_5 : decode cX7_allYards 5 = .ok (.aload_n 0, 1) := by decide +kernel
theorem dX7_allYards_6 : decode cX7_allYards 6 = .ok (.getfield 38, 3) := by decide +kernel
theorem dX7_allYards_9 : decode cX7_allYards 9 = .ok (.if_icmp .ge 21, 3) := by decide +kernel
theorem dX7_allYards_12 : decode cX7_allYards 12 = .ok (.iload_n 1, 1) := by decide +kernel
theorem dX7_allYards_13 : decode cX7_allYards 13 = .ok (.aload_n 0, 1) := by decide +kernel
theorem dX7_allYards_14 : decode cX7_allYards 14 = .ok (.getfield 20, 3) := by decide +kernel
theorem dX7_allYards_17 : decode cX7_allYards 17 = .ok (.iload_n 2, 1) := by decide +kernel
theorem dX7_allYards_18 : decode cX7_allYards 18 = .ok (.aaload, 1) := by decide +kernel
theorem dX7_allYards_19 : decode cX7_allYards 19 = .ok (.getfield 112, 3) := by decide +kernel
theorem dX7_allYards_22 : decode cX7_allYards 22 = .ok (.iadd, 1) := by decide +kernel
theorem dX7_allYards_23 : decode cX7_allYards 23 = .ok (.istore_n 1, 1) := by decide +kernel
theorem dX7_allYards_24 : decode cX7_allYards 24 = .ok (.iinc 2 1, 3) := by decide +kernel
theorem dX7_allYards_27 : decode cX7_allYards 27 = .ok (.goto (-23), 3) := by decide +kernel
theorem dX7_allYards_30 : decode cX7_allYards 30 = .ok (.iload_n 1, 1) := by decide +kernel
theorem dX7_allYards_31 : decode cX7_allYards 31 = .ok (.ireturn, 1) := by decide +kernel
theorem dX7_allSpoilt_0 : decode cX7_allSpoilt 0 = .ok (.iconst 0, 1) := by decide +kernel
theorem dX7_allSpoilt_1 : decode cX7_allSpoilt 1 = .ok (.istore_n 1, 1) := by decide +kernel
theorem dX7_allSpoilt_2 : decode cX7_allSpoilt 2 = .ok (.iconst 0, 1) := by decide +kernel
theorem dX7_allSpoilt_3 : decode cX7_allSpoilt 3 = .ok (.istore_n 2, 1) := by decide +kernel
theorem dX7_allSpoilt_4 : decode cX7_allSpoilt 4 = .ok (.iload_n 2, 1) := by decide +kernel
theorem dX7_allSpoilt_5 : decode cX7_allSpoilt 5 = .ok (.aload_n 0, 1) := by decide +kernel
theorem dX7_allSpoilt_6 : decode cX7_allSpoilt 6 = .ok (.getfield 38, 3) := by decide +kernel
theorem dX7_allSpoilt_9 : decode cX7_allSpoilt 9 = .ok (.if_icmp .ge 21, 3) := by decide +kernel
theorem dX7_allSpoilt_12 : decode cX7_allSpoilt 12 = .ok (.iload_n 1, 1) := by decide +kernel
theorem dX7_allSpoilt_13 : decode cX7_allSpoilt 13 = .ok (.aload_n 0, 1) := by decide +kernel
theorem dX7_allSpoilt_14 : decode cX7_allSpoilt 14 = .ok (.getfield 20, 3) := by decide +kernel
theorem dX7_allSpoilt_17 : decode cX7_allSpoilt 17 = .ok (.iload_n 2, 1) := by decide +kernel
theorem dX7_allSpoilt_18 : decode cX7_allSpoilt 18 = .ok (.aaload, 1) := by decide +kernel
theorem dX7_allSpoilt_19 : decode cX7_allSpoilt 19 = .ok (.getfield 103, 3) := by decide +kernel
theorem dX7_allSpoilt_22 : decode cX7_allSpoilt 22 = .ok (.iadd, 1) := by decide +kernel
theorem dX7_allSpoilt_23 : decode cX7_allSpoilt 23 = .ok (.istore_n 1, 1) := by decide +kernel
theorem dX7_allSpoilt_24 : decode cX7_allSpoilt 24 = .ok (.iinc 2 1, 3) := by decide +kernel
theorem dX7_allSpoilt_27 : decode cX7_allSpoilt 27 = .ok (.goto (-23), 3) := by decide +kernel
theorem dX7_allSpoilt_30 : decode cX7_allSpoilt 30 = .ok (.iload_n 1, 1) := by decide +kernel
theorem dX7_allSpoilt_31 : decode cX7_allSpoilt 31 = .ok (.ireturn, 1) := by decide +kernel
theorem dX8_init_0 : decode cX8_init 0 = .ok (.aload_n 0, 1) := by decide +kernel
theorem dX8_init_1 : decode cX8_init 1 = .ok (.invokespecial 3, 3) := by decide +kernel
theorem dX8_init_4 : decode cX8_init 4 = .ok (.aload_n 0, 1) := by decide +kernel
theorem dX8_init_5 : decode cX8_init 5 = .ok (.bipush 50, 2) := by decide +kernel
theorem dX8_init_7 : decode cX8_init 7 = .ok (.newarray .int, 2) := by decide +kernel
theorem dX8_init_9 : decode cX8_init 9 = .ok (.putfield 9, 3) := by decide +kernel
theorem dX8_init_12 : decode cX8_init 12 = .ok (.aload_n 0, 1) := by decide +kernel
theorem dX8_init_13 : decode cX8_init 13 = .ok (.bipush 50, 2) := by decide +kernel
theorem dX8_init_15 : decode cX8_init 15 = .ok (.newarray .int, 2) := by decide +kernel
theorem dX8_init_17 : decode cX8_init 17 = .ok (.putfield 15, 3) := by decide +kernel
theorem dX8_init_20 : decode cX8_init 20 = .ok (.aload_n 0, 1) := by decide +kernel
theorem dX8_init_21 : decode cX8_init 21 = .ok (.ldc 18, 2) := by decide +kernel
theorem dX8_init_23 : decode cX8_init 23 = .ok (.putfield 20, 3) := by decide +kernel
theorem dX8_init_26 : decode cX8_init 26 = .ok (.return_, 1) := by decide +kernel
theorem dX8_reads_0 : decode cX8_reads 0 = .ok (.aload_n 0, 1) := by decide +kernel
theorem dX8_reads_1 : decode cX8_reads 1 = .ok (.iload_n 2, 1) := by decide +kernel
theorem dX8_reads_2 : decode cX8_reads 2 = .ok (.iconst 0, 1) := by decide +kernel
theorem dX8_reads_3 : decode cX8_reads 3 = .ok (.aload_n 1, 1) := by decide +kernel
theorem dX8_reads_4 : decode cX8_reads 4 = .ok (.arraylength, 1) := by decide +kernel
theorem dX8_reads_5 : decode cX8_reads 5 = .ok (.bipush 50, 2) := by decide +kernel
theorem dX8_reads_7 : decode cX8_reads 7 = .ok (.invokestatic 24, 3) := by decide +kernel
theorem dX8_reads_10 : decode cX8_reads 10 = .ok (.invokestatic 30, 3) := by decide +kernel
theorem dX8_reads_13 : decode cX8_reads 13 = .ok (.putfield 34, 3) := by decide +kernel
theorem dX8_reads_16 : decode cX8_reads 16 = .ok (.iconst 0, 1) := by decide +kernel
theorem dX8_reads_17 : decode cX8_reads 17 = .ok (.istore 4, 2) := by decide +kernel
theorem dX8_reads_19 : decode cX8_reads 19 = .ok (.iload 4, 2) := by decide +kernel
theorem dX8_reads_21 : decode cX8_reads 21 = .ok (.aload_n 0, 1) := by decide +kernel
theorem dX8_reads_22 : decode cX8_reads 22 = .ok (.getfield 34, 3) := by decide +kernel
theorem dX8_reads_25 : decode cX8_reads 25 = .ok (.if_icmp .ge 24, 3) := by decide +kernel
theorem dX8_reads_28 : decode cX8_reads 28 = .ok (.aload_n 0, 1) := by decide +kernel
theorem dX8_reads_29 : decode cX8_reads 29 = .ok (.getfield 15, 3) := by decide +kernel
theorem dX8_reads_32 : decode cX8_reads 32 = .ok (.iload 4, 2) := by decide +kernel
theorem dX8_reads_34 : decode cX8_reads 34 = .ok (.aload_n 1, 1) := by decide +kernel
theorem dX8_reads_35 : decode cX8_reads 35 = .ok (.iload 4, 2) := by decide +kernel
theorem dX8_reads_37 : decode cX8_reads 37 = .ok (.baload, 1) := by decide +kernel
theorem dX8_reads_38 : decode cX8_reads 38 = .ok (.sipush 255, 3) := by decide +kernel
theorem dX8_reads_41 : decode cX8_reads 41 = .ok (.iand, 1) := by decide +kernel
theorem dX8_reads_42 : decode cX8_reads 42 = .ok (.iastore, 1) := by decide +kernel
theorem dX8_reads_43 : decode cX8_reads 43 = .ok (.iinc 4 1, 3) := by decide +kernel
theorem dX8_reads_46 : decode cX8_reads 46 = .ok (.goto (-27), 3) := by decide +kernel
theorem dX8_reads_49 : decode cX8_reads 49 = .ok (.aload_n 0, 1) := by decide +kernel
theorem dX8_reads_50 : decode cX8_reads 50 = .ok (.aload_n 3, 1) := by decide +kernel
theorem dX8_reads_51 : decode cX8_reads 51 = .ok (.putfield 20, 3) := by decide +kernel
theorem dX8_reads_54 : decode cX8_reads 54 = .ok (.aload_n 0, 1) := by decide +kernel
theorem dX8_reads_55 : decode cX8_reads 55 = .ok (.iconst 0, 1) := by decide +kernel
theorem dX8_reads_56 : decode cX8_reads 56 = .ok (.putfield 38, 3) := by decide +kernel
theorem dX8_reads_59 : decode cX8_reads 59 = .ok (.aload_n 0, 1) := by decide +kernel
theorem dX8_reads_60 : decode cX8_reads 60 = .ok (.iconst 0, 1) := by decide +kernel
theorem dX8_reads_61 : decode cX8_reads 61 = .ok (.putfield 41, 3) := by decide +kernel
theorem dX8_reads_64 : decode cX8_reads 64 = .ok (.aload_n 0, 1) := by decide +kernel
theorem dX8_reads_65 : decode cX8_reads 65 = .ok (.iconst 0, 1) := by decide +kernel
theorem dX8_reads_66 : decode cX8_reads 66 = .ok (.iconst 0, 1) := by decide +kernel
theorem dX8_reads_67 : decode cX8_reads 67 = .ok (.invokevirtual 44, 3) := by decide +kernel
theorem dX8_reads_70 : decode cX8_reads 70 = .ok (.ifCond .eq 18, 3) := by decide +kernel
theorem dX8_reads_73 : decode cX8_reads 73 = .ok (.aload_n 0, 1) := by decide +kernel
theorem dX8_reads_74 : decode cX8_reads 74 = .ok (.getfield 38, 3) := by decide +kernel
theorem dX8_reads_77 : decode cX8_reads 77 = .ok (.aload_n 0, 1) := by decide +kernel
theorem dX8_reads_78 : decode cX8_reads 78 = .ok (.getfield 34, 3) := by decide +kernel
theorem dX8_reads_81 : decode cX8_reads 81 = .ok (.if_icmp .ne 7, 3) := by decide +kernel
theorem dX8_reads_84 : decode cX8_reads 84 = .ok (.iconst 1, 1) := by decide +kernel
theorem dX8_reads_85 : decode cX8_reads 85 = .ok (.goto 4, 3) := by decide +kernel
theorem dX8_reads_88 : decode cX8_reads 88 = .ok (.iconst 0, 1) := by decide +kernel
theorem dX8_reads_89 : decode cX8_reads 89 = .ok (.ireturn, 1) := by decide +kernel
theorem dX8_readLevel_0 : decode cX8_readLevel 0 = .ok (.iload_n 1, 1) := by decide +kernel
theorem dX8_readLevel_1 : decode cX8_readLevel 1 = .ok (.iconst 5, 1) := by decide +kernel
theorem dX8_readLevel_2 : decode cX8_readLevel 2 = .ok (.if_icmp .lt 9, 3) := by decide +kernel
theorem dX8_readLevel_5 : decode cX8_readLevel 5 = .ok (.aload_n 0, 1) := by decide +kernel
theorem dX8_readLevel_6 : decode cX8_readLevel 6 = .ok (.iload_n 2, 1) := by decide +kernel
theorem dX8_readLevel_7 : decode cX8_readLevel 7 = .ok (.invokevirtual 48, 3) := by decide +kernel
theorem dX8_readLevel_10 : decode cX8_readLevel 10 = .ok (.ireturn, 1) := by decide +kernel
theorem dX8_readLevel_11 : decode cX8_readLevel 11 = .ok (.aload_n 0, 1) := by decide +kernel
theorem dX8_readLevel_12 : decode cX8_readLevel 12 = .ok (.iload_n 1, 1) := by decide +kernel
theorem dX8_readLevel_13 : decode cX8_readLevel 13 = .ok (.iconst 1, 1) := by decide +kernel
theorem dX8_readLevel_14 : decode cX8_readLevel 14 = .ok (.iadd, 1) := by decide +kernel
theorem dX8_readLevel_15 : decode cX8_readLevel 15 = .ok (.iload_n 2, 1) := by decide +kernel
theorem dX8_readLevel_16 : decode cX8_readLevel 16 = .ok (.invokevirtual 44, 3) := by decide +kernel
theorem dX8_readLevel_19 : decode cX8_readLevel 19 = .ok (.ifCond .ne 5, 3) := by decide +kernel
theorem dX8_readLevel_22 : decode cX8_readLevel 22 = .ok (.iconst 0, 1) := by decide +kernel
theorem dX8_readLevel_23 : decode cX8_readLevel 23 = .ok (.ireturn, 1) := by decide +kernel
theorem dX8_readLevel_24 : decode cX8_readLevel 24 = .ok (.aload_n 0, 1) := by decide +kernel
theorem dX8_readLevel_25 : decode cX8_readLevel 25 = .ok (.iload_n 1, 1) := by decide +kernel
theorem dX8_readLevel_26 : decode cX8_readLevel 26 = .ok (.invokevirtual 52, 3) := by decide +kernel
theorem dX8_readLevel_29 : decode cX8_readLevel 29 = .ok (.istore_n 3, 1) := by decide +kernel
theorem dX8_readLevel_30 : decode cX8_readLevel 30 = .ok (.iconst 0, 1) := by decide +kernel
theorem dX8_readLevel_31 : decode cX8_readLevel 31 = .ok (.istore 4, 2) := by decide +kernel
theorem dX8_readLevel_33 : decode cX8_readLevel 33 = .ok (.iload 4, 2) := by decide +kernel
theorem dX8_readLevel_35 : decode cX8_readLevel 35 = .ok (.bipush 50, 2) := by decide +kernel
theorem dX8_readLevel_37 : decode cX8_readLevel 37 = .ok (.if_icmp .ge 68, 3) := by decide +kernel
theorem dX8_readLevel_40 : decode cX8_readLevel 40 = .ok (.iload_n 3, 1) := by decide +kernel
theorem dX8_readLevel_41 : decode cX8_readLevel 41 = .ok (.ifCond .eq 64, 3) := by decide +kernel
theorem dX8_readLevel_44 : decode cX8_readLevel 44 = .ok (.aload_n 0, 1) := by decide +kernel
theorem dX8_readLevel_45 : decode cX8_readLevel 45 = .ok (.invokevirtual 55, 3) := by decide +kernel
theorem dX8_readLevel_48 : decode cX8_readLevel 48 = .ok (.istore 5, 2) := by decide +kernel
theorem dX8_readLevel_50 : decode cX8_readLevel 50 = .ok (.aload_n 0, 1) := by decide +kernel
theorem dX8_readLevel_51 : decode cX8_readLevel 51 = .ok (.dup, 1) := by decide +kernel
theorem dX8_readLevel_52 : decode cX8_readLevel 52 = .ok (.getfield 38, 3) := by decide +kernel
theorem dX8_readLevel_55 : decode cX8_readLevel 55 = .ok (.iconst 1, 1) := by decide +kernel
theorem dX8_readLevel_56 : decode cX8_readLevel 56 = .ok (.iadd, 1) := by decide +kernel
theorem dX8_readLevel_57 : decode cX8_readLevel 57 = .ok (.putfield 38, 3) := by decide +kernel
theorem dX8_readLevel_60 : decode cX8_readLevel 60 = .ok (.aload_n 0, 1) := by decide +kernel
theorem dX8_readLevel_61 : decode cX8_readLevel 61 = .ok (.iload_n 1, 1) := by decide +kernel
theorem dX8_readLevel_62 : decode cX8_readLevel 62 = .ok (.iconst 1, 1) := by decide +kernel
theorem dX8_readLevel_63 : decode cX8_readLevel 63 = .ok (.iadd, 1) := by decide +kernel
theorem dX8_readLevel_64 : decode cX8_readLevel 64 = .ok (.iload_n 2, 1) := by decide +kernel
theorem dX8_readLevel_65 : decode cX8_readLevel 65 = .ok (.invokevirtual 44, 3) := by decide +kernel
theorem dX8_readLevel_68 : decode cX8_readLevel 68 = .ok (.ifCond .ne 5, 3) := by decide +kernel
theorem dX8_readLevel_71 : decode cX8_readLevel 71 = .ok (.iconst 0, 1) := by decide +kernel
theorem dX8_readLevel_72 : decode cX8_readLevel 72 = .ok (.ireturn, 1) := by decide +kernel
theorem dX8_readLevel_73 : decode cX8_readLevel 73 = .ok (.aload_n 0, 1) := by decide +kernel
theorem dX8_readLevel_74 : decode cX8_readLevel 74 = .ok (.iload 5, 2) := by decide +kernel
theorem dX8_readLevel_76 : decode cX8_readLevel 76 = .ok (.ineg, 1) := by decide +kernel
theorem dX8_readLevel_77 : decode cX8_readLevel 77 = .ok (.invokevirtual 59, 3) := by decide +kernel
theorem dX8_readLevel_80 : decode cX8_readLevel 80 = .ok (.iload_n 1, 1) := by decide +kernel
theorem dX8_readLevel_81 : decode cX8_readLevel 81 = .ok (.iconst 2, 1) := by decide +kernel
theorem dX8_readLevel_82 : decode cX8_readLevel 82 = .ok (.if_icmp .eq 15, 3) := by decide +kernel
theorem dX8_readLevel_85 : decode cX8_readLevel 85 = .ok (.aload_n 0, 1) := by decide +kernel
theorem dX8_readLevel_86 : decode cX8_readLevel 86 = .ok (.iload_n 1, 1) := by decide +kernel
theorem dX8_readLevel_87 : decode cX8_readLevel 87 = .ok (.invokevirtual 52, 3) := by decide +kernel
theorem dX8_readLevel_90 : decode cX8_readLevel 90 = .ok (.ifCond .eq 7, 3) := by decide +kernel
theorem dX8_readLevel_93 : decode cX8_readLevel 93 = .ok (.iconst 1, 1) := by decide +kernel
theorem dX8_readLevel_94 : decode cX8_readLevel 94 = .ok (.goto 4, 3) := by decide +kernel
theorem dX8_readLevel_97 : decode cX8_readLevel 97 = .ok (.iconst 0, 1) := by decide +kernel
theorem dX8_readLevel_98 : decode cX8_readLevel 98 = .ok (.istore_n 3, 1) := by decide +kernel
theorem dX8_readLevel_99 : decode cX8_readLevel 99 = .ok (.iinc 4 1, 3) := by decide +kernel
theorem dX8_readLevel_102 : decode cX8_readLevel 102 = .ok (.goto (-69), 3) := by decide +kernel
theorem dX8_readLevel_105 : decode cX8_readLevel 105 = .ok (.iconst 1, 1) := by decide +kernel
theorem dX8_readLevel_106 : decode cX8_readLevel 106 = .ok (.ireturn, 1) := by decide +kernel
theorem dX8_readSingle_0 : decode cX8_readSingle 0 = .ok (.aload_n 0, 1) := by decide +kernel
theorem dX8_readSingle_1 : decode cX8_readSingle 1 = .ok (.invokevirtual 55, 3) := by decide +kernel
theorem dX8_readSingle_4 : decode cX8_readSingle 4 = .ok (.istore_n 2, 1) := by decide +kernel
theorem dX8_readSingle_5 : decode cX8_readSingle 5 = .ok (.iload_n 2, 1) := by decide +kernel
theorem dX8_readSingle_6 : decode cX8_readSingle 6 = .ok (.bipush 48, 2) := by decide +kernel
theorem dX8_readSingle_8 : decode cX8_readSingle 8 = .ok (.if_icmp .lt 15, 3) := by decide +kernel
theorem dX8_readSingle_11 : decode cX8_readSingle 11 = .ok (.iload_n 2, 1) := by decide +kernel
theorem dX8_readSingle_12 : decode cX8_readSingle 12 = .ok (.bipush 57, 2) := by decide +kernel
theorem dX8_readSingle_14 : decode cX8_readSingle 14 = .ok (.if_icmp .gt 9, 3) := by decide +kernel
theorem dX8_readSingle_17 : decode cX8_readSingle 17 = .ok (.aload_n 0, 1) := by decide +kernel
theorem dX8_readSingle_18 : decode cX8_readSingle 18 = .ok (.invokevirtual 63, 3) := by decide +kernel
theorem dX8_readSingle_21 : decode cX8_readSingle 21 = .ok (.iconst 1, 1) := by decide +kernel
theorem dX8_readSingle_22 : decode cX8_readSingle 22 = .ok (.ireturn, 1) := by decide +kernel
theorem dX8_readSingle_23 : decode cX8_readSingle 23 = .ok (.iload_n 2, 1) := by decide +kernel
theorem dX8_readSingle_24 : decode cX8_readSingle 24 = .ok (.ifCond .ge 7, 3) := by decide +kernel
theorem dX8_readSingle_27 : decode cX8_readSingle 27 = .ok (.iconst (-1), 1) := by decide +kernel
theorem dX8_readSingle_28 : decode cX8_readSingle 28 = .ok (.goto 12, 3) := by decide +kernel
theorem dX8_readSingle_31 : decode cX8_readSingle 31 = .ok (.aload_n 0, 1) := by decide +kernel
theorem dX8_readSingle_32 : decode cX8_readSingle 32 = .ok (.getfield 20, 3) := by decide +kernel
theorem dX8_readSingle_35 : decode cX8_readSingle 35 = .ok (.iload_n 2, 1) := by decide +kernel
theorem dX8_readSingle_36 : decode cX8_readSingle 36 = .ok (.i2c, 1) := by decide +kernel
theorem dX8_readSingle_37 : decode cX8_readSingle 37 = .ok (.invokevirtual 66, 3) := by decide +kernel
theorem dX8_readSingle_40 : decode cX8_readSingle 40 = .ok (.istore_n 3, 1) := by decide +kernel
theorem dX8_readSingle_41 : decode cX8_readSingle 41 = .ok (.iload_n 3, 1) := by decide +kernel
theorem dX8_readSingle_42 : decode cX8_readSingle 42 = .ok (.ifCond .lt 22, 3) := by decide +kernel
theorem dX8_readSingle_45 : decode cX8_readSingle 45 = .ok (.aload_n 0, 1) := by decide +kernel
theorem dX8_readSingle_46 : decode cX8_readSingle 46 = .ok (.iconst (-1), 1) := by decide +kernel
theorem dX8_readSingle_47 : decode cX8_readSingle 47 = .ok (.iload_n 3, 1) := by decide +kernel
theorem dX8_readSingle_48 : decode cX8_readSingle 48 = .ok (.isub, 1) := by decide +kernel
theorem dX8_readSingle_49 : decode cX8_readSingle 49 = .ok (.invokevirtual 59, 3) := by decide +kernel
theorem dX8_readSingle_52 : decode cX8_readSingle 52 = .ok (.aload_n 0, 1) := by decide +kernel
theorem dX8_readSingle_53 : decode cX8_readSingle 53 = .ok (.dup, 1) := by decide +kernel
theorem dX8_readSingle_54 : decode cX8_readSingle 54 = .ok (.getfield 38, 3) := by decide +kernel
theorem dX8_readSingle_57 : decode cX8_readSingle 57 = .ok (.iconst 1, 1) := by decide +kernel
theorem dX8_readSingle_58 : decode cX8_readSingle 58 = .ok (.iadd, 1) := by decide +kernel
theorem dX8_readSingle_59 : decode cX8_readSingle 59 = .ok (.putfield 38, 3) := by decide +kernel
theorem dX8_readSingle_62 : decode cX8_readSingle 62 = .ok (.iconst 1, 1) := by decide +kernel
theorem dX8_readSingle_63 : decode cX8_readSingle 63 = .ok (.ireturn, 1) := by decide +kernel
theorem dX8_readSingle_64 : decode cX8_readSingle 64 = .ok (.iload_n 1, 1) := by decide +kernel
theorem dX8_readSingle_65 : decode cX8_readSingle 65 = .ok (.iconst 5, 1) := by decide +kernel
theorem dX8_readSingle_66 : decode cX8_readSingle 66 = .ok (.if_icmp .ge 15, 3) := by decide +kernel
theorem dX8_readSingle_69 : decode cX8_readSingle 69 = .ok (.iload_n 2, 1) := by decide +kernel
theorem dX8_readSingle_70 : decode cX8_readSingle 70 = .ok (.bipush 33, 2) := by decide +kernel
theorem dX8_readSingle_72 : decode cX8_readSingle 72 = .ok (.if_icmp .eq 11, 3) := by decide +kernel
theorem dX8_readSingle_75 : decode cX8_readSingle 75 = .ok (.iload_n 2, 1) := by decide +kernel
theorem dX8_readSingle_76 : decode cX8_readSingle 76 = .ok (.bipush 40, 2) := by decide +kernel
theorem dX8_readSingle_78 : decode cX8_readSingle 78 = .ok (.if_icmp .eq 5, 3) := by decide +kernel
theorem dX8_readSingle_81 : decode cX8_readSingle 81 = .ok (.iconst 0, 1) := by decide +kernel
theorem dX8_readSingle_82 : decode cX8_readSingle 82 = .ok (.ireturn, 1) := by decide +kernel
theorem dX8_readSingle_83 : decode cX8_readSingle 83 = .ok (.aload_n 0, 1) := by decide +kernel
theorem dX8_readSingle_84 : decode cX8_readSingle 84 = .ok (.dup, 1) := by decide +kernel
theorem dX8_readSingle_85 : decode cX8_readSingle 85 = .ok (.getfield 38, 3) := by decide +kernel
theorem dX8_readSingle_88 : decode cX8_readSingle 88 = .ok (.iconst 1, 1) := by decide +kernel
theorem dX8_readSingle_89 : decode cX8_readSingle 89 = .ok (.iadd, 1) := by decide +kernel
theorem dX8_readSingle_90 : decode cX8_readSingle 90 = .ok (.putfield 38, 3) := by decide +kernel
theorem dX8_readSingle_93 : decode cX8_readSingle 93 = .ok (.iload_n 2, 1) := by decide +kernel
theorem dX8_readSingle_94 : decode cX8_readSingle 94 = .ok (.bipush 33, 2) := by decide +kernel
theorem dX8_readSingle_96 : decode cX8_readSingle 96 = .ok (.if_icmp .ne 13, 3) := by decide +kernel
theorem dX8_readSingle_99 : decode cX8_readSingle 99 = .ok (.aload_n 0, 1) := by decide +kernel
theorem dX8_readSingle_100 : decode cX8_readSingle 100 = .ok (.iload_n 1, 1) := by decide +kernel
theorem dX8_readSingle_101 : decode cX8_readSingle 101 = .ok (.iconst 1, 1) := by decide +kernel
theorem dX8_readSingle_102 : decode cX8_readSingle 102 = .ok (.iadd, 1) := by decide +kernel
theorem dX8_readSingle_103 : decode cX8_readSingle 103 = .ok (.invokevirtual 72, 3) := by decide +kernel
theorem dX8_readSingle_106 : decode cX8_readSingle 106 = .ok (.goto 10, 3) := by decide +kernel
theorem dX8_readSingle_109 : decode cX8_readSingle 109 = .ok (.aload_n 0, 1) := by decide +kernel
theorem dX8_readSingle_110 : decode cX8_readSingle 110 = .ok (.iload_n 1, 1) := by decide +kernel
theorem dX8_readSingle_111 : decode cX8_readSingle 111 = .ok (.iconst 1, 1) := by decide +kernel
theorem dX8_readSingle_112 : decode cX8_readSingle 112 = .ok (.iadd, 1) := by decide +kernel
theorem dX8_readSingle_113 : decode cX8_readSingle 113 = .ok (.invokevirtual 75, 3) := by decide +kernel
theorem dX8_readSingle_116 : decode cX8_readSingle 116 = .ok (.ireturn, 1) := by decide +kernel
theorem dX8_readDenied_0 : decode cX8_readDenied 0 = .ok (.aload_n 0, 1) := by decide +kernel
theorem dX8_readDenied_1 : decode cX8_readDenied 1 = .ok (.iload_n 1, 1) := by decide +kernel
theorem dX8_readDenied_2 : decode cX8_readDenied 2 = .ok (.invokevirtual 48, 3) := by decide +kernel
theorem dX8_readDenied_5 : decode cX8_readDenied 5 = .ok (.ifCond .ne 5, 3) := by decide +kernel
theorem dX8_readDenied_8 : decode cX8_readDenied 8 = .ok (.iconst 0, 1) := by decide +kernel
theorem dX8_readDenied_9 : decode cX8_readDenied 9 = .ok (.ireturn, 1) := by decide +kernel
theorem dX8_readDenied_10 : decode cX8_readDenied 10 = .ok (.aload_n 0, 1) := by decide +kernel
theorem dX8_readDenied_11 : decode cX8_readDenied 11 = .ok (.bipush (-33), 2) := by decide +kernel
theorem dX8_readDenied_13 : decode cX8_readDenied 13 = .ok (.invokevirtual 59, 3) := by decide +kernel
theorem dX8_readDenied_16 : decode cX8_readDenied 16 = .ok (.iconst 1, 1) := by decide +kernel
theorem dX8_readDenied_17 : decode cX8_readDenied 17 = .ok (.ireturn, 1) := by decide +kernel
theorem dX8_readEnclosed_0 : decode cX8_readEnclosed 0 = .ok (.aload_n 0, 1) := by decide +kernel
theorem dX8_readEnclosed_1 : decode cX8_readEnclosed 1 = .ok (.iconst 0, 1) := by decide +kernel
theorem dX8_readEnclosed_2 : decode cX8_readEnclosed 2 = .ok (.iload_n 1, 1) := by decide +kernel
theorem dX8_readEnclosed_3 : decode cX8_readEnclosed 3 = .ok (.invokevirtual 44, 3) := by decide +kernel
theorem dX8_readEnclosed_6 : decode cX8_readEnclosed 6 = .ok (.ifCond .eq 12, 3) := by decide +kernel
theorem dX8_readEnclosed_9 : decode cX8_readEnclosed 9 = .ok (.aload_n 0, 1) := by decide +kernel
theorem dX8_readEnclosed_10 : decode cX8_readEnclosed 10 = .ok (.invokevirtual 55, 3) := by decide +kernel
theorem dX8_readEnclosed_13 : decode cX8_readEnclosed 13 = .ok (.bipush 41, 2) := by decide +kernel
theorem dX8_readEnclosed_15 : decode cX8_readEnclosed 15 = .ok (.if_icmp .eq 5, 3) := by decide +kernel
theorem dX8_readEnclosed_18 : decode cX8_readEnclosed 18 = .ok (.iconst 0, 1) := by decide +kernel
theorem dX8_readEnclosed_19 : decode cX8_readEnclosed 19 = .ok (.ireturn, 1) := by decide +kernel
theorem dX8_readEnclosed_20 : decode cX8_readEnclosed 20 = .ok (.aload_n 0, 1) := by decide +kernel
theorem dX8_readEnclosed_21 : decode cX8_readEnclosed 21 = .ok (.dup, 1) := by decide +kernel
theorem dX8_readEnclosed_22 : decode cX8_readEnclosed 22 = .ok (.getfield 38, 3) := by decide +kernel
theorem dX8_readEnclosed_25 : decode cX8_readEnclosed 25 = .ok (.iconst 1, 1) := by decide +kernel
theorem dX8_readEnclosed_26 : decode cX8_readEnclosed 26 = .ok (.iadd, 1) := by decide +kernel
theorem dX8_readEnclosed_27 : decode cX8_readEnclosed 27 = .ok (.putfield 38, 3) := by decide +kernel
theorem dX8_readEnclosed_30 : decode cX8_readEnclosed 30 = .ok (.iconst 1, 1) := by decide +kernel
theorem dX8_readEnclosed_31 : decode cX8_readEnclosed 31 = .ok (.ireturn, 1) := by decide +kernel
theorem dX8_readNumber_0 : decode cX8_readNumber 0 = .ok (.iconst 0, 1) := by decide +kernel
theorem dX8_readNumber_1 : decode cX8_readNumber 1 = .ok (.istore_n 1, 1) := by decide +kernel
theorem dX8_readNumber_2 : decode cX8_readNumber 2 = .ok (.iconst 0, 1) := by decide +kernel
theorem dX8_readNumber_3 : decode cX8_readNumber 3 = .ok (.istore_n 2, 1) := by decide +kernel
theorem dX8_readNumber_4 : decode cX8_readNumber 4 = .ok (.iload_n 2, 1) := by decide +kernel
theorem dX8_readNumber_5 : decode cX8_readNumber 5 = .ok (.iconst 4, 1) := by decide +kernel
theorem dX8_readNumber_6 : decode cX8_readNumber 6 = .ok (.if_icmp .ge 50, 3) := by decide +kernel
theorem dX8_readNumber_9 : decode cX8_readNumber 9 = .ok (.aload_n 0, 1) := by decide +kernel
theorem dX8_readNumber_10 : decode cX8_readNumber 10 = .ok (.invokevirtual 55, 3) := by decide +kernel
theorem dX8_readNumber_13 : decode cX8_readNumber 13 = .ok (.bipush 48, 2) := by decide +kernel
theorem dX8_readNumber_15 : decode cX8_readNumber 15 = .ok (.if_icmp .lt 41, 3) := by decide +kernel
theorem dX8_readNumber_18 : decode cX8_readNumber 18 = .ok (.aload_n 0, 1) := by decide +kernel
theorem dX8_readNumber_19 : decode cX8_readNumber 19 = .ok (.invokevirtual 55, 3) := by decide +kernel
theorem dX8_readNumber_22 : decode cX8_readNumber 22 = .ok (.bipush 57, 2) := by decide +kernel
theorem dX8_readNumber_24 : decode cX8_readNumber 24 = .ok (.if_icmp .gt 32, 3) := by decide +kernel
theorem dX8_readNumber_27 : decode cX8_readNumber 27 = .ok (.iload_n 1, 1) := by decide +kernel
theorem dX8_readNumber_28 : decode cX8_readNumber 28 = .ok (.bipush 10, 2) := by decide +kernel
theorem dX8_readNumber_30 : decode cX8_readNumber 30 = .ok (.imul, 1) := by decide +kernel
theorem dX8_readNumber_31 : decode cX8_readNumber 31 = .ok (.aload_n 0, 1) := by decide +kernel
theorem dX8_readNumber_32 : decode cX8_readNumber 32 = .ok (.invokevirtual 55, 3) := by decide +kernel
theorem dX8_readNumber_35 : decode cX8_readNumber 35 = .ok (.iadd, 1) := by decide +kernel
theorem dX8_readNumber_36 : decode cX8_readNumber 36 = .ok (.bipush 48, 2) := by decide +kernel
theorem dX8_readNumber_38 : decode cX8_readNumber 38 = .ok (.isub, 1) := by decide +kernel
theorem dX8_readNumber_39 : decode cX8_readNumber 39 = .ok (.istore_n 1, 1) := by decide +kernel
theorem dX8_readNumber_40 : decode cX8_readNumber 40 = .ok (.aload_n 0, 1) := by decide +kernel
theorem dX8_readNumber_41 : decode cX8_readNumber 41 = .ok (.dup, 1) := by decide +kernel
theorem dX8_readNumber_42 : decode cX8_readNumber 42 = .ok (.getfield 38, 3) := by decide +kernel
theorem dX8_readNumber_45 : decode cX8_readNumber 45 = .ok (.iconst 1, 1) := by decide +kernel
theorem dX8_readNumber_46 : decode cX8_readNumber 46 = .ok (.iadd, 1) := by decide +kernel
theorem dX8_readNumber_47 : decode cX8_readNumber 47 = .ok (.putfield 38, 3) := by decide +kernel
theorem dX8_readNumber_50 : decode cX8_readNumber 50 = .ok (.iinc 2 1, 3) := by decide +kernel
theorem dX8_readNumber_53 : decode cX8_readNumber 53 = .ok (.goto (-49), 3) := by decide +kernel
theorem dX8_readNumber_56 : decode cX8_readNumber 56 = .ok (.aload_n 0, 1) := by decide +kernel
theorem dX8_readNumber_57 : decode cX8_readNumber 57 = .ok (.iload_n 1, 1) := by decide +kernel
theorem dX8_readNumber_58 : decode cX8_readNumber 58 = .ok (.invokevirtual 59, 3) := by decide +kernel
theorem dX8_readNumber_61 : decode cX8_readNumber 61 = .ok (.return_, 1) := by decide +kernel
theorem dX8_operatorIsOf_0 : decode cX8_operatorIsOf 0 = .ok (.aload_n 0, 1) := by decide +kernel
theorem dX8_operatorIsOf_1 : decode cX8_operatorIsOf 1 = .ok (.invokevirtual 55, 3) := by decide +kernel
theorem dX8_operatorIsOf_4 : decode cX8_operatorIsOf 4 = .ok (.lookupswitch 201 #[(37, 190), (38, 102), (42, 168), (43, 146), (45, 157), (47, 179), (60, 113), (61, 124), (62, 135), (124, 92)], 92) := by decide +kernel
theorem dX8_operatorIsOf_96 : decode cX8_operatorIsOf 96 = .ok (.iload_n 1, 1) := by decide +kernel
theorem dX8_operatorIsOf_97 : decode cX8_operatorIsOf 97 = .ok (.ifCond .ne 7, 3) := by decide +kernel
theorem dX8_operatorIsOf_100 : decode cX8_operatorIsOf 100 = .ok (.iconst 1, 1) := by decide +kernel
theorem dX8_operatorIsOf_101 : decode cX8_operatorIsOf 101 = .ok (.goto 4, 3) := by decide +kernel
theorem dX8_operatorIsOf_104 : decode cX8_operatorIsOf 104 = .ok (.iconst 0, 1) := by decide +kernel
theorem dX8_operatorIsOf_105 : decode cX8_operatorIsOf 105 = .ok (.ireturn, 1) := by decide +kernel
theorem dX8_operatorIsOf_106 : decode cX8_operatorIsOf 106 = .ok (.iload_n 1, 1) := by decide +kernel
theorem dX8_operatorIsOf_107 : decode cX8_operatorIsOf 107 = .ok (.iconst 1, 1) := by decide +kernel
theorem dX8_operatorIsOf_108 : decode cX8_operatorIsOf 108 = .ok (.if_icmp .ne 7, 3) := by decide +kernel
theorem dX8_operatorIsOf_111 : decode cX8_operatorIsOf 111 = .ok (.iconst 1, 1) := by decide +kernel
theorem dX8_operatorIsOf_112 : decode cX8_operatorIsOf 112 = .ok (.goto 4, 3) := by decide +kernel
theorem dX8_operatorIsOf_115 : decode cX8_operatorIsOf 115 = .ok (.iconst 0, 1) := by decide +kernel
theorem dX8_operatorIsOf_116 : decode cX8_operatorIsOf 116 = .ok (.ireturn, 1) := by decide +kernel
theorem dX8_operatorIsOf_117 : decode cX8_operatorIsOf 117 = .ok (.iload_n 1, 1) := by decide +kernel
theorem dX8_operatorIsOf_118 : decode cX8_operatorIsOf 118 = .ok (.iconst 2, 1) := by decide +kernel
theorem dX8_operatorIsOf_119 : decode cX8_operatorIsOf 119 = .ok (.if_icmp .ne 7, 3) := by decide +kernel
theorem dX8_operatorIsOf_122 : decode cX8_operatorIsOf 122 = .ok (.iconst 1, 1) := by decide +kernel
theorem dX8_operatorIsOf_123 : decode cX8_operatorIsOf 123 = .ok (.goto 4, 3) := by decide +kernel
theorem dX8_operatorIsOf_126 : decode cX8_operatorIsOf 126 = .ok (.iconst 0, 1) := by decide +kernel
theorem dX8_operatorIsOf_127 : decode cX8_operatorIsOf 127 = .ok (.ireturn, 1) := by decide +kernel
theorem dX8_operatorIsOf_128 : decode cX8_operatorIsOf 128 = .ok (.iload_n 1, 1) := by decide +kernel
theorem dX8_operatorIsOf_129 : decode cX8_operatorIsOf 129 = .ok (.iconst 2, 1) := by decide +kernel
theorem dX8_operatorIsOf_130 : decode cX8_operatorIsOf 130 = .ok (.if_icmp .ne 7, 3) := by decide +kernel
theorem dX8_operatorIsOf_133 : decode cX8_operatorIsOf 133 = .ok (.iconst 1, 1) := by decide +kernel
theorem dX8_operatorIsOf_134 : decode cX8_operatorIsOf 134 = .ok (.goto 4, 3) := by decide +kernel
theorem dX8_operatorIsOf_137 : decode cX8_operatorIsOf 137 = .ok (.iconst 0, 1) := by decide +kernel
theorem dX8_operatorIsOf_138 : decode cX8_operatorIsOf 138 = .ok (.ireturn, 1) := by decide +kernel
theorem dX8_operatorIsOf_139 : decode cX8_operatorIsOf 139 = .ok (.iload_n 1, 1) := by decide +kernel
theorem dX8_operatorIsOf_140 : decode cX8_operatorIsOf 140 = .ok (.iconst 2, 1) := by decide +kernel
theorem dX8_operatorIsOf_141 : decode cX8_operatorIsOf 141 = .ok (.if_icmp .ne 7, 3) := by decide +kernel
theorem dX8_operatorIsOf_144 : decode cX8_operatorIsOf 144 = .ok (.iconst 1, 1) := by decide +kernel
theorem dX8_operatorIsOf_145 : decode cX8_operatorIsOf 145 = .ok (.goto 4, 3) := by decide +kernel
theorem dX8_operatorIsOf_148 : decode cX8_operatorIsOf 148 = .ok (.iconst 0, 1) := by decide +kernel
theorem dX8_operatorIsOf_149 : decode cX8_operatorIsOf 149 = .ok (.ireturn, 1) := by decide +kernel
theorem dX8_operatorIsOf_150 : decode cX8_operatorIsOf 150 = .ok (.iload_n 1, 1) := by decide +kernel
theorem dX8_operatorIsOf_151 : decode cX8_operatorIsOf 151 = .ok (.iconst 3, 1) := by decide +kernel
theorem dX8_operatorIsOf_152 : decode cX8_operatorIsOf 152 = .ok (.if_icmp .ne 7, 3) := by decide +kernel
theorem dX8_operatorIsOf_155 : decode cX8_operatorIsOf 155 = .ok (.iconst 1, 1) := by decide +kernel
theorem dX8_operatorIsOf_156 : decode cX8_operatorIsOf 156 = .ok (.goto 4, 3) := by decide +kernel
theorem dX8_operatorIsOf_159 : decode cX8_operatorIsOf 159 = .ok (.iconst 0, 1) := by decide +kernel
theorem dX8_operatorIsOf_160 : decode cX8_operatorIsOf 160 = .ok (.ireturn, 1) := by decide +kernel
theorem dX8_operatorIsOf_161 : decode cX8_operatorIsOf 161 = .ok (.iload_n 1, 1) := by decide +kernel
theorem dX8_operatorIsOf_162 : decode cX8_operatorIsOf 162 = .ok (.iconst 3, 1) := by decide +kernel
theorem dX8_operatorIsOf_163 : decode cX8_operatorIsOf 163 = .ok (.if_icmp .ne 7, 3) := by decide +kernel
theorem dX8_operatorIsOf_166 : decode cX8_operatorIsOf 166 = .ok (.iconst 1, 1) := by decide +kernel
theorem dX8_operatorIsOf_167 : decode cX8_operatorIsOf 167 = .ok (.goto 4, 3) := by decide +kernel
theorem dX8_operatorIsOf_170 : decode cX8_operatorIsOf 170 = .ok (.iconst 0, 1) := by decide +kernel
theorem dX8_operatorIsOf_171 : decode cX8_operatorIsOf 171 = .ok (.ireturn, 1) := by decide +kernel
theorem dX8_operatorIsOf_172 : decode cX8_operatorIsOf 172 = .ok (.iload_n 1, 1) := by decide +kernel
theorem dX8_operatorIsOf_173 : decode cX8_operatorIsOf 173 = .ok (.iconst 4, 1) := by decide +kernel
theorem dX8_operatorIsOf_174 : decode cX8_operatorIsOf 174 = .ok (.if_icmp .ne 7, 3) := by decide +kernel
theorem dX8_operatorIsOf_177 : decode cX8_operatorIsOf 177 = .ok (.iconst 1, 1) := by decide +kernel
theorem dX8_operatorIsOf_178 : decode cX8_operatorIsOf 178 = .ok (.goto 4, 3) := by decide +kernel
theorem dX8_operatorIsOf_181 : decode cX8_operatorIsOf 181 = .ok (.iconst 0, 1) := by decide +kernel
theorem dX8_operatorIsOf_182 : decode cX8_operatorIsOf 182 = .ok (.ireturn, 1) := by decide +kernel
theorem dX8_operatorIsOf_183 : decode cX8_operatorIsOf 183 = .ok (.iload_n 1, 1) := by decide +kernel
theorem dX8_operatorIsOf_184 : decode cX8_operatorIsOf 184 = .ok (.iconst 4, 1) := by decide +kernel
theorem dX8_operatorIsOf_185 : decode cX8_operatorIsOf 185 = .ok (.if_icmp .ne 7, 3) := by decide +kernel
theorem dX8_operatorIsOf_188 : decode cX8_operatorIsOf 188 = .ok (.iconst 1, 1) := by decide +kernel
theorem dX8_operatorIsOf_189 : decode cX8_operatorIsOf 189 = .ok (.goto 4, 3) := by decide +kernel
theorem dX8_operatorIsOf_192 : decode cX8_operatorIsOf 192 = .ok (.iconst 0, 1) := by decide +kernel
theorem dX8_operatorIsOf_193 : decode cX8_operatorIsOf 193 = .ok (.ireturn, 1) := by decide +kernel
theorem dX8_operatorIsOf_194 : decode cX8_operatorIsOf 194 = .ok (.iload_n 1, 1) := by decide +kernel
theorem dX8_operatorIsOf_195 : decode cX8_operatorIsOf 195 = .ok (.iconst 4, 1) := by decide +kernel
theorem dX8_operatorIsOf_196 : decode cX8_operatorIsOf 196 = .ok (.if_icmp .ne 7, 3) := by decide +kernel
theorem dX8_operatorIsOf_199 : decode cX8_operatorIsOf 199 = .ok (.iconst 1, 1) := by decide +kernel
theorem dX8_operatorIsOf_200 : decode cX8_operatorIsOf 200 = .ok (.goto 4, 3) := by decide +kernel
theorem dX8_operatorIsOf_203 : decode cX8_operatorIsOf 203 = .ok (.iconst 0, 1) := by decide +kernel
theorem dX8_operatorIsOf_204 : decode cX8_operatorIsOf 204 = .ok (.ireturn, 1) := by decide +kernel
theorem dX8_operatorIsOf_205 : decode cX8_operatorIsOf 205 = .ok (.iconst 0, 1) := by decide +kernel
theorem dX8_operatorIsOf_206 : decode cX8_operatorIsOf 206 = .ok (.ireturn, 1) := by decide +kernel
theorem dX8_here_0 : decode cX8_here 0 = .ok (.aload_n 0, 1) := by decide +kernel
theorem dX8_here_1 : decode cX8_here 1 = .ok (.getfield 38, 3) := by decide +kernel
theorem dX8_here_4 : decode cX8_here 4 = .ok (.ifCond .lt 26, 3) := by decide +kernel
theorem dX8_here_7 : decode cX8_here 7 = .ok (.aload_n 0, 1) := by decide +kernel
theorem dX8_here_8 : decode cX8_here 8 = .ok (.getfield 38, 3) := by decide +kernel
theorem dX8_here_11 : decode cX8_here 11 = .ok (.aload_n 0, 1) := by decide +kernel
theorem dX8_here_12 : decode cX8_here 12 = .ok (.getfield 34, 3) := by decide +kernel
theorem dX8_here_15 : decode cX8_here 15 = .ok (.if_icmp .ge 15, 3) := by decide +kernel
theorem dX8_here_18 : decode cX8_here 18 = .ok (.aload_n 0, 1) := by decide +kernel
theorem dX8_here_19 : decode cX8_here 19 = .ok (.getfield 15, 3) := by decide +kernel
theorem dX8_here_22 : decode cX8_here 22 = .ok (.aload_n 0, 1) := by decide +kernel
theorem dX8_here_23 : decode cX8_here 23 = .ok (.getfield 38, 3) := by decide +kernel
theorem dX8_here_26 : decode cX8_here 26 = .ok (.iaload, 1) := by decide +kernel
theorem dX8_here_27 : decode cX8_here 27 = .ok (.goto 4, 3) := by decide +kernel
theorem dX8_here_30 : decode cX8_here 30 = .ok (.iconst (-1), 1) := by decide +kernel
theorem dX8_here_31 : decode cX8_here 31 = .ok (.ireturn, 1) := by decide +kernel
theorem dX8_add_0 : decode cX8_add 0 = .ok (.aload_n 0, 1) := by decide +kernel
theorem dX8_add_1 : decode cX8_add 1 = .ok (.getfield 41, 3) := by decide +kernel
theorem dX8_add_4 : decode cX8_add 4 = .ok (.bipush 50, 2) := by decide +kernel
theorem dX8_add_6 : decode cX8_add 6 = .ok (.if_icmp .ge 23, 3) := by decide +kernel
theorem dX8_add_9 : decode cX8_add 9 = .ok (.aload_n 0, 1) := by decide +kernel
theorem dX8_add_10 : decode cX8_add 10 = .ok (.getfield 9, 3) := by decide +kernel
theorem dX8_add_13 : decode cX8_add 13 = .ok (.aload_n 0, 1) := by decide +kernel
theorem dX8_add_14 : decode cX8_add 14 = .ok (.getfield 41, 3) := by decide +kernel
theorem dX8_add_17 : decode cX8_add 17 = .ok (.iload_n 1, 1) := by decide +kernel
theorem dX8_add_18 : decode cX8_add 18 = .ok (.iastore, 1) := by decide +kernel
theorem dX8_add_19 : decode cX8_add 19 = .ok (.aload_n 0, 1) := by decide +kernel
theorem dX8_add_20 : decode cX8_add 20 = .ok (.dup, 1) := by decide +kernel
theorem dX8_add_21 : decode cX8_add 21 = .ok (.getfield 41, 3) := by decide +kernel
theorem dX8_add_24 : decode cX8_add 24 = .ok (.iconst 1, 1) := by decide +kernel
theorem dX8_add_25 : decode cX8_add 25 = .ok (.iadd, 1) := by decide +kernel
theorem dX8_add_26 : decode cX8_add 26 = .ok (.putfield 41, 3) := by decide +kernel
theorem dX8_add_29 : decode cX8_add 29 = .ok (.return_, 1) := by decide +kernel
theorem dJ11_isValidCodePoint_9a6ad_0 : decode cJ11_isValidCodePoint_9a6ad 0 = .ok (.iload_n 0, 1) := by decide +kernel
theorem dJ11_isValidCodePoint_9a6ad_1 : decode cJ11_isValidCodePoint_9a6ad 1 = .ok (.bipush 16, 2) := by decide +kernel
theorem dJ11_isValidCodePoint_9a6ad_3 : decode cJ11_isValidCodePoint_9a6ad 3 = .ok (.iushr, 1) := by decide +kernel
theorem dJ11_isValidCodePoint_9a6ad_4 : decode cJ11_isValidCodePoint_9a6ad 4 = .ok (.istore_n 1, 1) := by decide +kernel
theorem dJ11_isValidCodePoint_9a6ad_5 : decode cJ11_isValidCodePoint_9a6ad 5 = .ok (.iload_n 1, 1) := by decide +kernel
theorem dJ11_isValidCodePoint_9a6ad_6 : decode cJ11_isValidCodePoint_9a6ad 6 = .ok (.bipush 17, 2) := by decide +kernel
theorem dJ11_isValidCodePoint_9a6ad_8 : decode cJ11_isValidCodePoint_9a6ad 8 = .ok (.if_icmp .ge 7, 3) := by decide +kernel
theorem dJ11_isValidCodePoint_9a6ad_11 : decode cJ11_isValidCodePoint_9a6ad 11 = .ok (.iconst 1, 1) := by decide +kernel
theorem dJ11_isValidCodePoint_9a6ad_12 : decode cJ11_isValidCodePoint_9a6ad 12 = .ok (.goto 4, 3) := by decide +kernel
theorem dJ11_isValidCodePoint_9a6ad_15 : decode cJ11_isValidCodePoint_9a6ad 15 = .ok (.iconst 0, 1) := by decide +kernel
theorem dJ11_isValidCodePoint_9a6ad_16 : decode cJ11_isValidCodePoint_9a6ad 16 = .ok (.ireturn, 1) := by decide +kernel
theorem dJ11_highSurrogate_5068e_0 : decode cJ11_highSurrogate_5068e 0 = .ok (.iload_n 0, 1) := by decide +kernel
theorem dJ11_highSurrogate_5068e_1 : decode cJ11_highSurrogate_5068e 1 = .ok (.bipush 10, 2) := by decide +kernel
theorem dJ11_highSurrogate_5068e_3 : decode cJ11_highSurrogate_5068e 3 = .ok (.iushr, 1) := by decide +kernel
theorem dJ11_highSurrogate_5068e_4 : decode cJ11_highSurrogate_5068e 4 = .ok (.ldc 110, 2) := by decide +kernel
theorem dJ11_highSurrogate_5068e_6 : decode cJ11_highSurrogate_5068e 6 = .ok (.iadd, 1) := by decide +kernel
theorem dJ11_highSurrogate_5068e_7 : decode cJ11_highSurrogate_5068e 7 = .ok (.i2c, 1) := by decide +kernel
theorem dJ11_highSurrogate_5068e_8 : decode cJ11_highSurrogate_5068e 8 = .ok (.ireturn, 1) := by decide +kernel
theorem dJ11_lowSurrogate_5068e_0 : decode cJ11_lowSurrogate_5068e 0 = .ok (.iload_n 0, 1) := by decide +kernel
theorem dJ11_lowSurrogate_5068e_1 : decode cJ11_lowSurrogate_5068e 1 = .ok (.sipush 1023, 3) := by decide +kernel
theorem dJ11_lowSurrogate_5068e_4 : decode cJ11_lowSurrogate_5068e 4 = .ok (.iand, 1) := by decide +kernel
theorem dJ11_lowSurrogate_5068e_5 : decode cJ11_lowSurrogate_5068e 5 = .ok (.ldc 76, 2) := by decide +kernel
theorem dJ11_lowSurrogate_5068e_7 : decode cJ11_lowSurrogate_5068e 7 = .ok (.iadd, 1) := by decide +kernel
theorem dJ11_lowSurrogate_5068e_8 : decode cJ11_lowSurrogate_5068e 8 = .ok (.i2c, 1) := by decide +kernel
theorem dJ11_lowSurrogate_5068e_9 : decode cJ11_lowSurrogate_5068e 9 = .ok (.ireturn, 1) := by decide +kernel
theorem dJ9_abs_0f7a4_0 : decode cJ9_abs_0f7a4 0 = .ok (.iload_n 0, 1) := by decide +kernel
theorem dJ9_abs_0f7a4_1 : decode cJ9_abs_0f7a4 1 = .ok (.ifCond .ge 8, 3) := by decide +kernel
theorem dJ9_abs_0f7a4_4 : decode cJ9_abs_0f7a4 4 = .ok (.iload_n 0, 1) := by decide +kernel
theorem dJ9_abs_0f7a4_5 : decode cJ9_abs_0f7a4 5 = .ok (.ineg, 1) := by decide +kernel
theorem dJ9_abs_0f7a4_6 : decode cJ9_abs_0f7a4 6 = .ok (.goto 4, 3) := by decide +kernel
theorem dJ9_abs_0f7a4_9 : decode cJ9_abs_0f7a4 9 = .ok (.iload_n 0, 1) := by decide +kernel
theorem dJ9_abs_0f7a4_10 : decode cJ9_abs_0f7a4 10 = .ok (.ireturn, 1) := by decide +kernel
theorem dJ9_max_7cf53_0 : decode cJ9_max_7cf53 0 = .ok (.iload_n 0, 1) := by decide +kernel
theorem dJ9_max_7cf53_1 : decode cJ9_max_7cf53 1 = .ok (.iload_n 1, 1) := by decide +kernel
theorem dJ9_max_7cf53_2 : decode cJ9_max_7cf53 2 = .ok (.if_icmp .lt 7, 3) := by decide +kernel
theorem dJ9_max_7cf53_5 : decode cJ9_max_7cf53 5 = .ok (.iload_n 0, 1) := by decide +kernel
theorem dJ9_max_7cf53_6 : decode cJ9_max_7cf53 6 = .ok (.goto 4, 3) := by decide +kernel
theorem dJ9_max_7cf53_9 : decode cJ9_max_7cf53 9 = .ok (.iload_n 1, 1) := by decide +kernel
theorem dJ9_max_7cf53_10 : decode cJ9_max_7cf53 10 = .ok (.ireturn, 1) := by decide +kernel
theorem dJ9_min_7cf53_0 : decode cJ9_min_7cf53 0 = .ok (.iload_n 0, 1) := by decide +kernel
theorem dJ9_min_7cf53_1 : decode cJ9_min_7cf53 1 = .ok (.iload_n 1, 1) := by decide +kernel
theorem dJ9_min_7cf53_2 : decode cJ9_min_7cf53 2 = .ok (.if_icmp .gt 7, 3) := by decide +kernel
theorem dJ9_min_7cf53_5 : decode cJ9_min_7cf53 5 = .ok (.iload_n 0, 1) := by decide +kernel
theorem dJ9_min_7cf53_6 : decode cJ9_min_7cf53 6 = .ok (.goto 4, 3) := by decide +kernel
theorem dJ9_min_7cf53_9 : decode cJ9_min_7cf53 9 = .ok (.iload_n 1, 1) := by decide +kernel
theorem dJ9_min_7cf53_10 : decode cJ9_min_7cf53 10 = .ok (.ireturn, 1) := by decide +kernel
theorem dJ0_length_8abf5_0 : decode cJ0_length_8abf5 0 = .ok (.aload_n 0, 1) := by decide +kernel
theorem dJ0_length_8abf5_1 : decode cJ0_length_8abf5 1 = .ok (.getfield 9, 3) := by decide +kernel
theorem dJ0_length_8abf5_4 : decode cJ0_length_8abf5 4 = .ok (.arraylength, 1) := by decide +kernel
theorem dJ0_length_8abf5_5 : decode cJ0_length_8abf5 5 = .ok (.aload_n 0, 1) := by decide +kernel
theorem dJ0_length_8abf5_6 : decode cJ0_length_8abf5 6 = .ok (.invokevirtual 335, 3) := by decide +kernel
theorem dJ0_length_8abf5_9 : decode cJ0_length_8abf5 9 = .ok (.ishr, 1) := by decide +kernel
theorem dJ0_length_8abf5_10 : decode cJ0_length_8abf5 10 = .ok (.ireturn, 1) := by decide +kernel
theorem dJ0_indexOf_0f7a4_0 : decode cJ0_indexOf_0f7a4 0 = .ok (.aload_n 0, 1) := by decide +kernel
theorem dJ0_indexOf_0f7a4_1 : decode cJ0_indexOf_0f7a4 1 = .ok (.iload_n 1, 1) := by decide +kernel
theorem dJ0_indexOf_0f7a4_2 : decode cJ0_indexOf_0f7a4 2 = .ok (.iconst 0, 1) := by decide +kernel
theorem dJ0_indexOf_0f7a4_3 : decode cJ0_indexOf_0f7a4 3 = .ok (.invokevirtual 633, 3) := by decide +kernel
theorem dJ0_indexOf_0f7a4_6 : decode cJ0_indexOf_0f7a4 6 = .ok (.ireturn, 1) := by decide +kernel
theorem dJ0_indexOf_7cf53_0 : decode cJ0_indexOf_7cf53 0 = .ok (.aload_n 0, 1) := by decide +kernel
theorem dJ0_indexOf_7cf53_1 : decode cJ0_indexOf_7cf53 1 = .ok (.invokevirtual 492, 3) := by decide +kernel
theorem dJ0_indexOf_7cf53_4 : decode cJ0_indexOf_7cf53 4 = .ok (.ifCond .eq 19, 3) := by decide +kernel
theorem dJ0_indexOf_7cf53_7 : decode cJ0_indexOf_7cf53 7 = .ok (.aload_n 0, 1) := by decide +kernel
theorem dJ0_indexOf_7cf53_8 : decode cJ0_indexOf_7cf53 8 = .ok (.getfield 9, 3) := by decide +kernel
theorem dJ0_indexOf_7cf53_11 : decode cJ0_indexOf_7cf53 11 = .ok (.iload_n 1, 1) := by decide +kernel
theorem dJ0_indexOf_7cf53_12 : decode cJ0_indexOf_7cf53 12 = .ok (.iload_n 2, 1) := by decide +kernel
theorem dJ0_indexOf_7cf53_13 : decode cJ0_indexOf_7cf53 13 = .ok (.aload_n 0, 1) := by decide +kernel
theorem dJ0_indexOf_7cf53_14 : decode cJ0_indexOf_7cf53 14 = .ok (.invokevirtual 505, 3) := by decide +kernel
theorem dJ0_indexOf_7cf53_17 : decode cJ0_indexOf_7cf53 17 = .ok (.invokestatic 637, 3) := by decide +kernel
theorem dJ0_indexOf_7cf53_20 : decode cJ0_indexOf_7cf53 20 = .ok (.goto 16, 3) := by decide +kernel
theorem dJ0_indexOf_7cf53_23 : decode cJ0_indexOf_7cf53 23 = .ok (.aload_n 0, 1) := by decide +kernel
theorem dJ0_indexOf_7cf53_24 : decode cJ0_indexOf_7cf53 24 = .ok (.getfield 9, 3) := by decide +kernel
theorem dJ0_indexOf_7cf53_27 : decode cJ0_indexOf_7cf53 27 = .ok (.iload_n 1, 1) := by decide +kernel
theorem dJ0_indexOf_7cf53_28 : decode cJ0_indexOf_7cf53 28 = .ok (.iload_n 2, 1) := by decide +kernel
theorem dJ0_indexOf_7cf53_29 : decode cJ0_indexOf_7cf53 29 = .ok (.aload_n 0, 1) := by decide +kernel
theorem dJ0_indexOf_7cf53_30 : decode cJ0_indexOf_7cf53 30 = .ok (.invokevirtual 505, 3) := by decide +kernel
theorem dJ0_indexOf_7cf53_33 : decode cJ0_indexOf_7cf53 33 = .ok (.invokestatic 640, 3) := by decide +kernel
theorem dJ0_indexOf_7cf53_36 : decode cJ0_indexOf_7cf53 36 = .ok (.ireturn, 1) := by decide +kernel
theorem dJ0_coder_7d493_0 : decode cJ0_coder_7d493 0 = .ok (.getstatic 38, 3) := by decide +kernel
theorem dJ0_coder_7d493_3 : decode cJ0_coder_7d493 3 = .ok (.ifCond .eq 10, 3) := by decide +kernel
theorem dJ0_coder_7d493_6 : decode cJ0_coder_7d493 6 = .ok (.aload_n 0, 1) := by decide +kernel
theorem dJ0_coder_7d493_7 : decode cJ0_coder_7d493 7 = .ok (.getfield 15, 3) := by decide +kernel
theorem dJ0_coder_7d493_10 : decode cJ0_coder_7d493 10 = .ok (.goto 4, 3) := by decide +kernel
theorem dJ0_coder_7d493_13 : decode cJ0_coder_7d493 13 = .ok (.iconst 1, 1) := by decide +kernel
theorem dJ0_coder_7d493_14 : decode cJ0_coder_7d493 14 = .ok (.ireturn, 1) := by decide +kernel
theorem dJ0_isLatin1_aae02_0 : decode cJ0_isLatin1_aae02 0 = .ok (.getstatic 38, 3) := by decide +kernel
theorem dJ0_isLatin1_aae02_3 : decode cJ0_isLatin1_aae02 3 = .ok (.ifCond .eq 14, 3) := by decide +kernel
theorem dJ0_isLatin1_aae02_6 : decode cJ0_isLatin1_aae02 6 = .ok (.aload_n 0, 1) := by decide +kernel
theorem dJ0_isLatin1_aae02_7 : decode cJ0_isLatin1_aae02 7 = .ok (.getfield 15, 3) := by decide +kernel
theorem dJ0_isLatin1_aae02_10 : decode cJ0_isLatin1_aae02 10 = .ok (.ifCond .ne 7, 3) := by decide +kernel
theorem dJ0_isLatin1_aae02_13 : decode cJ0_isLatin1_aae02 13 = .ok (.iconst 1, 1) := by decide +kernel
theorem dJ0_isLatin1_aae02_14 : decode cJ0_isLatin1_aae02 14 = .ok (.goto 4, 3) := by decide +kernel
theorem dJ0_isLatin1_aae02_17 : decode cJ0_isLatin1_aae02 17 = .ok (.iconst 0, 1) := by decide +kernel
theorem dJ0_isLatin1_aae02_18 : decode cJ0_isLatin1_aae02 18 = .ok (.ireturn, 1) := by decide +kernel
theorem dJ0_checkBoundsBeginEnd_23922_0 : decode cJ0_checkBoundsBeginEnd_23922 0 = .ok (.iload_n 0, 1) := by decide +kernel
theorem dJ0_checkBoundsBeginEnd_23922_1 : decode cJ0_checkBoundsBeginEnd_23922 1 = .ok (.iload_n 1, 1) := by decide +kernel
theorem dJ0_checkBoundsBeginEnd_23922_2 : decode cJ0_checkBoundsBeginEnd_23922 2 = .ok (.iload_n 2, 1) := by decide +kernel
theorem dJ0_checkBoundsBeginEnd_23922_3 : decode cJ0_checkBoundsBeginEnd_23922 3 = .ok (.getstatic 1053, 3) := by decide +kernel
theorem dJ0_checkBoundsBeginEnd_23922_6 : decode cJ0_checkBoundsBeginEnd_23922 6 = .ok (.invokestatic 1062, 3) := by decide +kernel
theorem dJ0_checkBoundsBeginEnd_23922_9 : decode cJ0_checkBoundsBeginEnd_23922 9 = .ok (.pop, 1) := by decide +kernel
theorem dJ0_checkBoundsBeginEnd_23922_10 : decode cJ0_checkBoundsBeginEnd_23922 10 = .ok (.return_, 1) := by decide +kernel
theorem dJ1_canEncode_9a6ad_0 : decode cJ1_canEncode_9a6ad 0 = .ok (.iload_n 0, 1) := by decide +kernel
theorem dJ1_canEncode_9a6ad_1 : decode cJ1_canEncode_9a6ad 1 = .ok (.ifCond .lt 14, 3) := by decide +kernel
theorem dJ1_canEncode_9a6ad_4 : decode cJ1_canEncode_9a6ad 4 = .ok (.iload_n 0, 1) := by decide +kernel
theorem dJ1_canEncode_9a6ad_5 : decode cJ1_canEncode_9a6ad 5 = .ok (.sipush 255, 3) := by decide +kernel
theorem dJ1_canEncode_9a6ad_8 : decode cJ1_canEncode_9a6ad 8 = .ok (.if_icmp .gt 7, 3) := by decide +kernel
theorem dJ1_canEncode_9a6ad_11 : decode cJ1_canEncode_9a6ad 11 = .ok (.iconst 1, 1) := by decide +kernel
theorem dJ1_canEncode_9a6ad_12 : decode cJ1_canEncode_9a6ad 12 = .ok (.goto 4, 3) := by decide +kernel
theorem dJ1_canEncode_9a6ad_15 : decode cJ1_canEncode_9a6ad 15 = .ok (.iconst 0, 1) := by decide +kernel
theorem dJ1_canEncode_9a6ad_16 : decode cJ1_canEncode_9a6ad 16 = .ok (.ireturn, 1) := by decide +kernel
theorem dJ1_indexOf_4cfef_0 : decode cJ1_indexOf_4cfef 0 = .ok (.iload_n 1, 1) := by decide +kernel
theorem dJ1_indexOf_4cfef_1 : decode cJ1_indexOf_4cfef 1 = .ok (.invokestatic 88, 3) := by decide +kernel
theorem dJ1_indexOf_4cfef_4 : decode cJ1_indexOf_4cfef 4 = .ok (.ifCond .ne 5, 3) := by decide +kernel
theorem dJ1_indexOf_4cfef_7 : decode cJ1_indexOf_4cfef 7 = .ok (.iconst (-1), 1) := by decide +kernel
theorem dJ1_indexOf_4cfef_8 : decode cJ1_indexOf_4cfef 8 = .ok (.ireturn, 1) := by decide +kernel
theorem dJ1_indexOf_4cfef_9 : decode cJ1_indexOf_4cfef 9 = .ok (.iload_n 2, 1) := by decide +kernel
theorem dJ1_indexOf_4cfef_10 : decode cJ1_indexOf_4cfef 10 = .ok (.iconst 0, 1) := by decide +kernel
theorem dJ1_indexOf_4cfef_11 : decode cJ1_indexOf_4cfef 11 = .ok (.invokestatic 92, 3) := by decide +kernel
theorem dJ1_indexOf_4cfef_14 : decode cJ1_indexOf_4cfef 14 = .ok (.istore_n 2, 1) := by decide +kernel
theorem dJ1_indexOf_4cfef_15 : decode cJ1_indexOf_4cfef 15 = .ok (.iload_n 3, 1) := by decide +kernel
theorem dJ1_indexOf_4cfef_16 : decode cJ1_indexOf_4cfef 16 = .ok (.aload_n 0, 1) := by decide +kernel
theorem dJ1_indexOf_4cfef_17 : decode cJ1_indexOf_4cfef 17 = .ok (.arraylength, 1) := by decide +kernel
theorem dJ1_indexOf_4cfef_18 : decode cJ1_indexOf_4cfef 18 = .ok (.invokestatic 38, 3) := by decide +kernel
theorem dJ1_indexOf_4cfef_21 : decode cJ1_indexOf_4cfef 21 = .ok (.istore_n 3, 1) := by decide +kernel
theorem dJ1_indexOf_4cfef_22 : decode cJ1_indexOf_4cfef 22 = .ok (.iload_n 2, 1) := by decide +kernel
theorem dJ1_indexOf_4cfef_23 : decode cJ1_indexOf_4cfef 23 = .ok (.iload_n 3, 1) := by decide +kernel
theorem dJ1_indexOf_4cfef_24 : decode cJ1_indexOf_4cfef 24 = .ok (.if_icmp .lt 5, 3) := by decide +kernel
theorem dJ1_indexOf_4cfef_27 : decode cJ1_indexOf_4cfef 27 = .ok (.iconst (-1), 1) := by decide +kernel
theorem dJ1_indexOf_4cfef_28 : decode cJ1_indexOf_4cfef 28 = .ok (.ireturn, 1) := by decide +kernel
theorem dJ1_indexOf_4cfef_29 : decode cJ1_indexOf_4cfef 29 = .ok (.aload_n 0, 1) := by decide +kernel
theorem dJ1_indexOf_4cfef_30 : decode cJ1_indexOf_4cfef 30 = .ok (.iload_n 1, 1) := by decide +kernel
theorem dJ1_indexOf_4cfef_31 : decode cJ1_indexOf_4cfef 31 = .ok (.iload_n 2, 1) := by decide +kernel
theorem dJ1_indexOf_4cfef_32 : decode cJ1_indexOf_4cfef 32 = .ok (.iload_n 3, 1) := by decide +kernel
theorem dJ1_indexOf_4cfef_33 : decode cJ1_indexOf_4cfef 33 = .ok (.invokestatic 95, 3) := by decide +kernel
theorem dJ1_indexOf_4cfef_36 : decode cJ1_indexOf_4cfef 36 = .ok (.ireturn, 1) := by decide +kernel
theorem dJ1_indexOfChar_4cfef_0 : decode cJ1_indexOfChar_4cfef 0 = .ok (.iload_n 1, 1) := by decide +kernel
theorem dJ1_indexOfChar_4cfef_1 : decode cJ1_indexOfChar_4cfef 1 = .ok (.i2b, 1) := by decide +kernel
theorem dJ1_indexOfChar_4cfef_2 : decode cJ1_indexOfChar_4cfef 2 = .ok (.istore 4, 2) := by decide +kernel
theorem dJ1_indexOfChar_4cfef_4 : decode cJ1_indexOfChar_4cfef 4 = .ok (.iload_n 2, 1) := by decide +kernel
theorem dJ1_indexOfChar_4cfef_5 : decode cJ1_indexOfChar_4cfef 5 = .ok (.istore 5, 2) := by decide +kernel
theorem dJ1_indexOfChar_4cfef_7 : decode cJ1_indexOfChar_4cfef 7 = .ok (.iload 5, 2) := by decide +kernel
theorem dJ1_indexOfChar_4cfef_9 : decode cJ1_indexOfChar_4cfef 9 = .ok (.iload_n 3, 1) := by decide +kernel
theorem dJ1_indexOfChar_4cfef_10 : decode cJ1_indexOfChar_4cfef 10 = .ok (.if_icmp .ge 21, 3) := by decide +kernel
theorem dJ1_indexOfChar_4cfef_13 : decode cJ1_indexOfChar_4cfef 13 = .ok (.aload_n 0, 1) := by decide +kernel
theorem dJ1_indexOfChar_4cfef_14 : decode cJ1_indexOfChar_4cfef 14 = .ok (.iload 5, 2) := by decide +kernel
theorem dJ1_indexOfChar_4cfef_16 : decode cJ1_indexOfChar_4cfef 16 = .ok (.baload, 1) := by decide +kernel
theorem dJ1_indexOfChar_4cfef_17 : decode cJ1_indexOfChar_4cfef 17 = .ok (.iload 4, 2) := by decide +kernel
theorem dJ1_indexOfChar_4cfef_19 : decode cJ1_indexOfChar_4cfef 19 = .ok (.if_icmp .ne 6, 3) := by decide +kernel
theorem dJ1_indexOfChar_4cfef_22 : decode cJ1_indexOfChar_4cfef 22 = .ok (.iload 5, 2) := by decide +kernel
theorem dJ1_indexOfChar_4cfef_24 : decode cJ1_indexOfChar_4cfef 24 = .ok (.ireturn, 1) := by decide +kernel
theorem dJ1_indexOfChar_4cfef_25 : decode cJ1_indexOfChar_4cfef 25 = .ok (.iinc 5 1, 3) := by decide +kernel
theorem dJ1_indexOfChar_4cfef_28 : decode cJ1_indexOfChar_4cfef 28 = .ok (.goto (-21), 3) := by decide +kernel
theorem dJ1_indexOfChar_4cfef_31 : decode cJ1_indexOfChar_4cfef 31 = .ok (.iconst (-1), 1) := by decide +kernel
theorem dJ1_indexOfChar_4cfef_32 : decode cJ1_indexOfChar_4cfef 32 = .ok (.ireturn, 1) := by decide +kernel
theorem dJ2_getChar_3b067_0 : decode cJ2_getChar_3b067 0 = .ok (.getstatic 44, 3) := by decide +kernel
theorem dJ2_getChar_3b067_3 : decode cJ2_getChar_3b067 3 = .ok (.ifCond .ne 25, 3) := by decide +kernel
theorem dJ2_getChar_3b067_6 : decode cJ2_getChar_3b067 6 = .ok (.iload_n 1, 1) := by decide +kernel
theorem dJ2_getChar_3b067_7 : decode cJ2_getChar_3b067 7 = .ok (.ifCond .lt 11, 3) := by decide +kernel
theorem dJ2_getChar_3b067_10 : decode cJ2_getChar_3b067 10 = .ok (.iload_n 1, 1) := by decide +kernel
theorem dJ2_getChar_3b067_11 : decode cJ2_getChar_3b067 11 = .ok (.aload_n 0, 1) := by decide +kernel
theorem dJ2_getChar_3b067_12 : decode cJ2_getChar_3b067 12 = .ok (.invokestatic 48, 3) := by decide +kernel
theorem dJ2_getChar_3b067_15 : decode cJ2_getChar_3b067 15 = .ok (.if_icmp .lt 13, 3) := by decide +kernel
theorem dJ2_getChar_3b067_18 : decode cJ2_getChar_3b067 18 = .ok (.new 52, 3) := by decide +kernel
theorem dJ2_getChar_3b067_21 : decode cJ2_getChar_3b067 21 = .ok (.dup, 1) := by decide +kernel
theorem dJ2_getChar_3b067_22 : decode cJ2_getChar_3b067 22 = .ok (.ldc 54, 2) := by decide +kernel
theorem dJ2_getChar_3b067_24 : decode cJ2_getChar_3b067 24 = .ok (.invokespecial 56, 3) := by decide +kernel
theorem dJ2_getChar_3b067_27 : decode cJ2_getChar_3b067 27 = .ok (.athrow, 1) := by decide +kernel
theorem dJ2_getChar_3b067_28 : decode cJ2_getChar_3b067 28 = .ok (.iload_n 1, 1) := by decide +kernel
theorem dJ2_getChar_3b067_29 : decode cJ2_getChar_3b067 29 = .ok (.iconst 1, 1) := by decide +kernel
theorem dJ2_getChar_3b067_30 : decode cJ2_getChar_3b067 30 = .ok (.ishl, 1) := by decide +kernel
theorem dJ2_getChar_3b067_31 : decode cJ2_getChar_3b067 31 = .ok (.istore_n 1, 1) := by decide +kernel
theorem dJ2_getChar_3b067_32 : decode cJ2_getChar_3b067 32 = .ok (.aload_n 0, 1) := by decide +kernel
theorem dJ2_getChar_3b067_33 : decode cJ2_getChar_3b067 33 = .ok (.iload_n 1, 1) := by decide +kernel
theorem dJ2_getChar_3b067_34 : decode cJ2_getChar_3b067 34 = .ok (.iinc 1 1, 3) := by decide +kernel
theorem dJ2_getChar_3b067_37 : decode cJ2_getChar_3b067 37 = .ok (.baload, 1) := by decide +kernel
theorem dJ2_getChar_3b067_38 : decode cJ2_getChar_3b067 38 = .ok (.sipush 255, 3) := by decide +kernel
theorem dJ2_getChar_3b067_41 : decode cJ2_getChar_3b067 41 = .ok (.iand, 1) := by decide +kernel
theorem dJ2_getChar_3b067_42 : decode cJ2_getChar_3b067 42 = .ok (.getstatic 59, 3) := by decide +kernel
theorem dJ2_getChar_3b067_45 : decode cJ2_getChar_3b067 45 = .ok (.ishl, 1) := by decide +kernel
theorem dJ2_getChar_3b067_46 : decode cJ2_getChar_3b067 46 = .ok (.aload_n 0, 1) := by decide +kernel
theorem dJ2_getChar_3b067_47 : decode cJ2_getChar_3b067 47 = .ok (.iload_n 1, 1) := by decide +kernel
theorem dJ2_getChar_3b067_48 : decode cJ2_getChar_3b067 48 = .ok (.baload, 1) := by decide +kernel
theorem dJ2_getChar_3b067_49 : decode cJ2_getChar_3b067 49 = .ok (.sipush 255, 3) := by decide +kernel
theorem dJ2_getChar_3b067_52 : decode cJ2_getChar_3b067 52 = .ok (.iand, 1) := by decide +kernel
theorem dJ2_getChar_3b067_53 : decode cJ2_getChar_3b067 53 = .ok (.getstatic 63, 3) := by decide +kernel
theorem dJ2_getChar_3b067_56 : decode cJ2_getChar_3b067 56 = .ok (.ishl, 1) := by decide +kernel
theorem dJ2_getChar_3b067_57 : decode cJ2_getChar_3b067 57 = .ok (.ior, 1) := by decide +kernel
theorem dJ2_getChar_3b067_58 : decode cJ2_getChar_3b067 58 = .ok (.i2c, 1) := by decide +kernel
theorem dJ2_getChar_3b067_59 : decode cJ2_getChar_3b067 59 = .ok (.ireturn, 1) := by decide +kernel
theorem dJ2_length_9d52b_0 : decode cJ2_length_9d52b 0 = .ok (.aload_n 0, 1) := by decide +kernel
theorem dJ2_length_9d52b_1 : decode cJ2_length_9d52b 1 = .ok (.arraylength, 1) := by decide +kernel
theorem dJ2_length_9d52b_2 : decode cJ2_length_9d52b 2 = .ok (.iconst 1, 1) := by decide +kernel
theorem dJ2_length_9d52b_3 : decode cJ2_length_9d52b 3 = .ok (.ishr, 1) := by decide +kernel
theorem dJ2_length_9d52b_4 : decode cJ2_length_9d52b 4 = .ok (.ireturn, 1) := by decide +kernel
theorem dJ2_indexOf_4cfef_0 : decode cJ2_indexOf_4cfef 0 = .ok (.iload_n 2, 1) := by decide +kernel
theorem dJ2_indexOf_4cfef_1 : decode cJ2_indexOf_4cfef 1 = .ok (.iconst 0, 1) := by decide +kernel
theorem dJ2_indexOf_4cfef_2 : decode cJ2_indexOf_4cfef 2 = .ok (.invokestatic 224, 3) := by decide +kernel
theorem dJ2_indexOf_4cfef_5 : decode cJ2_indexOf_4cfef 5 = .ok (.istore_n 2, 1) := by decide +kernel
theorem dJ2_indexOf_4cfef_6 : decode cJ2_indexOf_4cfef 6 = .ok (.iload_n 3, 1) := by decide +kernel
theorem dJ2_indexOf_4cfef_7 : decode cJ2_indexOf_4cfef 7 = .ok (.aload_n 0, 1) := by decide +kernel
theorem dJ2_indexOf_4cfef_8 : decode cJ2_indexOf_4cfef 8 = .ok (.arraylength, 1) := by decide +kernel
theorem dJ2_indexOf_4cfef_9 : decode cJ2_indexOf_4cfef 9 = .ok (.iconst 1, 1) := by decide +kernel
theorem dJ2_indexOf_4cfef_10 : decode cJ2_indexOf_4cfef 10 = .ok (.ishr, 1) := by decide +kernel
theorem dJ2_indexOf_4cfef_11 : decode cJ2_indexOf_4cfef 11 = .ok (.invokestatic 183, 3) := by decide +kernel
theorem dJ2_indexOf_4cfef_14 : decode cJ2_indexOf_4cfef 14 = .ok (.istore_n 3, 1) := by decide +kernel
theorem dJ2_indexOf_4cfef_15 : decode cJ2_indexOf_4cfef 15 = .ok (.iload_n 2, 1) := by decide +kernel
theorem dJ2_indexOf_4cfef_16 : decode cJ2_indexOf_4cfef 16 = .ok (.iload_n 3, 1) := by decide +kernel
theorem dJ2_indexOf_4cfef_17 : decode cJ2_indexOf_4cfef 17 = .ok (.if_icmp .lt 5, 3) := by decide +kernel
theorem dJ2_indexOf_4cfef_20 : decode cJ2_indexOf_4cfef 20 = .ok (.iconst (-1), 1) := by decide +kernel
theorem dJ2_indexOf_4cfef_21 : decode cJ2_indexOf_4cfef 21 = .ok (.ireturn, 1) := by decide +kernel
theorem dJ2_indexOf_4cfef_22 : decode cJ2_indexOf_4cfef 22 = .ok (.iload_n 1, 1) := by decide +kernel
theorem dJ2_indexOf_4cfef_23 : decode cJ2_indexOf_4cfef 23 = .ok (.ldc 227, 2) := by decide +kernel
theorem dJ2_indexOf_4cfef_25 : decode cJ2_indexOf_4cfef 25 = .ok (.if_icmp .ge 11, 3) := by decide +kernel
theorem dJ2_indexOf_4cfef_28 : decode cJ2_indexOf_4cfef 28 = .ok (.aload_n 0, 1) := by decide +kernel
theorem dJ2_indexOf_4cfef_29 : decode cJ2_indexOf_4cfef 29 = .ok (.iload_n 1, 1) := by decide +kernel
theorem dJ2_indexOf_4cfef_30 : decode cJ2_indexOf_4cfef 30 = .ok (.iload_n 2, 1) := by decide +kernel
theorem dJ2_indexOf_4cfef_31 : decode cJ2_indexOf_4cfef 31 = .ok (.iload_n 3, 1) := by decide +kernel
theorem dJ2_indexOf_4cfef_32 : decode cJ2_indexOf_4cfef 32 = .ok (.invokestatic 228, 3) := by decide +kernel
theorem dJ2_indexOf_4cfef_35 : decode cJ2_indexOf_4cfef 35 = .ok (.ireturn, 1) := by decide +kernel
theorem dJ2_indexOf_4cfef_36 : decode cJ2_indexOf_4cfef 36 = .ok (.aload_n 0, 1) := by decide +kernel
theorem dJ2_indexOf_4cfef_37 : decode cJ2_indexOf_4cfef 37 = .ok (.iload_n 1, 1) := by decide +kernel
theorem dJ2_indexOf_4cfef_38 : decode cJ2_indexOf_4cfef 38 = .ok (.iload_n 2, 1) := by decide +kernel
theorem dJ2_indexOf_4cfef_39 : decode cJ2_indexOf_4cfef 39 = .ok (.iload_n 3, 1) := by decide +kernel
theorem dJ2_indexOf_4cfef_40 : decode cJ2_indexOf_4cfef 40 = .ok (.invokestatic 232, 3) := by decide +kernel
theorem dJ2_indexOf_4cfef_43 : decode cJ2_indexOf_4cfef 43 = .ok (.ireturn, 1) := by decide +kernel
theorem dJ2_indexOfChar_4cfef_0 : decode cJ2_indexOfChar_4cfef 0 = .ok (.iload_n 2, 1) := by decide +kernel
theorem dJ2_indexOfChar_4cfef_1 : decode cJ2_indexOfChar_4cfef 1 = .ok (.iload_n 3, 1) := by decide +kernel
theorem dJ2_indexOfChar_4cfef_2 : decode cJ2_indexOfChar_4cfef 2 = .ok (.aload_n 0, 1) := by decide +kernel
theorem dJ2_indexOfChar_4cfef_3 : decode cJ2_indexOfChar_4cfef 3 = .ok (.invokestatic 96, 3) := by decide +kernel
theorem dJ2_indexOfChar_4cfef_6 : decode cJ2_indexOfChar_4cfef 6 = .ok (.aload_n 0, 1) := by decide +kernel
theorem dJ2_indexOfChar_4cfef_7 : decode cJ2_indexOfChar_4cfef 7 = .ok (.iload_n 1, 1) := by decide +kernel
theorem dJ2_indexOfChar_4cfef_8 : decode cJ2_indexOfChar_4cfef 8 = .ok (.iload_n 2, 1) := by decide +kernel
theorem dJ2_indexOfChar_4cfef_9 : decode cJ2_indexOfChar_4cfef 9 = .ok (.iload_n 3, 1) := by decide +kernel
theorem dJ2_indexOfChar_4cfef_10 : decode cJ2_indexOfChar_4cfef 10 = .ok (.invokestatic 244, 3) := by decide +kernel
theorem dJ2_indexOfChar_4cfef_13 : decode cJ2_indexOfChar_4cfef 13 = .ok (.ireturn, 1) := by decide +kernel
theorem dJ2_indexOfCharUnsafe_4cfef_0 : decode cJ2_indexOfCharUnsafe_4cfef 0 = .ok (.iload_n 2, 1) := by decide +kernel
theorem dJ2_indexOfCharUnsafe_4cfef_1 : decode cJ2_indexOfCharUnsafe_4cfef 1 = .ok (.istore 4, 2) := by decide +kernel
theorem dJ2_indexOfCharUnsafe_4cfef_3 : decode cJ2_indexOfCharUnsafe_4cfef 3 = .ok (.iload 4, 2) := by decide +kernel
theorem dJ2_indexOfCharUnsafe_4cfef_5 : decode cJ2_indexOfCharUnsafe_4cfef 5 = .ok (.iload_n 3, 1) := by decide +kernel
theorem dJ2_indexOfCharUnsafe_4cfef_6 : decode cJ2_indexOfCharUnsafe_4cfef 6 = .ok (.if_icmp .ge 22, 3) := by decide +kernel
theorem dJ2_indexOfCharUnsafe_4cfef_9 : decode cJ2_indexOfCharUnsafe_4cfef 9 = .ok (.aload_n 0, 1) := by decide +kernel
theorem dJ2_indexOfCharUnsafe_4cfef_10 : decode cJ2_indexOfCharUnsafe_4cfef 10 = .ok (.iload 4, 2) := by decide +kernel
theorem dJ2_indexOfCharUnsafe_4cfef_12 : decode cJ2_indexOfCharUnsafe_4cfef 12 = .ok (.invokestatic 71, 3) := by decide +kernel
theorem dJ2_indexOfCharUnsafe_4cfef_15 : decode cJ2_indexOfCharUnsafe_4cfef 15 = .ok (.iload_n 1, 1) := by decide +kernel
theorem dJ2_indexOfCharUnsafe_4cfef_16 : decode cJ2_indexOfCharUnsafe_4cfef 16 = .ok (.if_icmp .ne 6, 3) := by decide +kernel
theorem dJ2_indexOfCharUnsafe_4cfef_19 : decode cJ2_indexOfCharUnsafe_4cfef 19 = .ok (.iload 4, 2) := by decide +kernel
theorem dJ2_indexOfCharUnsafe_4cfef_21 : decode cJ2_indexOfCharUnsafe_4cfef 21 = .ok (.ireturn, 1) := by decide +kernel
theorem dJ2_indexOfCharUnsafe_4cfef_22 : decode cJ2_indexOfCharUnsafe_4cfef 22 = .ok (.iinc 4 1, 3) := by decide +kernel
theorem dJ2_indexOfCharUnsafe_4cfef_25 : decode cJ2_indexOfCharUnsafe_4cfef 25 = .ok (.goto (-22), 3) := by decide +kernel
theorem dJ2_indexOfCharUnsafe_4cfef_28 : decode cJ2_indexOfCharUnsafe_4cfef 28 = .ok (.iconst (-1), 1) := by decide +kernel
theorem dJ2_indexOfCharUnsafe_4cfef_29 : decode cJ2_indexOfCharUnsafe_4cfef 29 = .ok (.ireturn, 1) := by decide +kernel
theorem dJ2_indexOfSupplementary_4cfef_0 : decode cJ2_indexOfSupplementary_4cfef 0 = .ok (.iload_n 1, 1) := by decide +kernel
theorem dJ2_indexOfSupplementary_4cfef_1 : decode cJ2_indexOfSupplementary_4cfef 1 = .ok (.invokestatic 164, 3) := by decide +kernel
theorem dJ2_indexOfSupplementary_4cfef_4 : decode cJ2_indexOfSupplementary_4cfef 4 = .ok (.ifCond .eq 65, 3) := by decide +kernel
theorem dJ2_indexOfSupplementary_4cfef_7 : decode cJ2_indexOfSupplementary_4cfef 7 = .ok (.iload_n 1, 1) := by decide +kernel
theorem dJ2_indexOfSupplementary_4cfef_8 : decode cJ2_indexOfSupplementary_4cfef 8 = .ok (.invokestatic 157, 3) := by decide +kernel
theorem dJ2_indexOfSupplementary_4cfef_11 : decode cJ2_indexOfSupplementary_4cfef 11 = .ok (.istore 4, 2) := by decide +kernel
theorem dJ2_indexOfSupplementary_4cfef_13 : decode cJ2_indexOfSupplementary_4cfef 13 = .ok (.iload_n 1, 1) := by decide +kernel
theorem dJ2_indexOfSupplementary_4cfef_14 : decode cJ2_indexOfSupplementary_4cfef 14 = .ok (.invokestatic 161, 3) := by decide +kernel
theorem dJ2_indexOfSupplementary_4cfef_17 : decode cJ2_indexOfSupplementary_4cfef 17 = .ok (.istore 5, 2) := by decide +kernel
theorem dJ2_indexOfSupplementary_4cfef_19 : decode cJ2_indexOfSupplementary_4cfef 19 = .ok (.iload_n 2, 1) := by decide +kernel
theorem dJ2_indexOfSupplementary_4cfef_20 : decode cJ2_indexOfSupplementary_4cfef 20 = .ok (.iload_n 3, 1) := by decide +kernel
theorem dJ2_indexOfSupplementary_4cfef_21 : decode cJ2_indexOfSupplementary_4cfef 21 = .ok (.aload_n 0, 1) := by decide +kernel
theorem dJ2_indexOfSupplementary_4cfef_22 : decode cJ2_indexOfSupplementary_4cfef 22 = .ok (.invokestatic 96, 3) := by decide +kernel
theorem dJ2_indexOfSupplementary_4cfef_25 : decode cJ2_indexOfSupplementary_4cfef 25 = .ok (.iload_n 2, 1) := by decide +kernel
theorem dJ2_indexOfSupplementary_4cfef_26 : decode cJ2_indexOfSupplementary_4cfef 26 = .ok (.istore 6, 2) := by decide +kernel
theorem dJ2_indexOfSupplementary_4cfef_28 : decode cJ2_indexOfSupplementary_4cfef 28 = .ok (.iload 6, 2) := by decide +kernel
theorem dJ2_indexOfSupplementary_4cfef_30 : decode cJ2_indexOfSupplementary_4cfef 30 = .ok (.iload_n 3, 1) := by decide +kernel
theorem dJ2_indexOfSupplementary_4cfef_31 : decode cJ2_indexOfSupplementary_4cfef 31 = .ok (.iconst 1, 1) := by decide +kernel
theorem dJ2_indexOfSupplementary_4cfef_32 : decode cJ2_indexOfSupplementary_4cfef 32 = .ok (.isub, 1) := by decide +kernel
theorem dJ2_indexOfSupplementary_4cfef_33 : decode cJ2_indexOfSupplementary_4cfef 33 = .ok (.if_icmp .ge 36, 3) := by decide +kernel
theorem dJ2_indexOfSupplementary_4cfef_36 : decode cJ2_indexOfSupplementary_4cfef 36 = .ok (.aload_n 0, 1) := by decide +kernel
theorem dJ2_indexOfSupplementary_4cfef_37 : decode cJ2_indexOfSupplementary_4cfef 37 = .ok (.iload 6, 2) := by decide +kernel
theorem dJ2_indexOfSupplementary_4cfef_39 : decode cJ2_indexOfSupplementary_4cfef 39 = .ok (.invokestatic 71, 3) := by decide +kernel
theorem dJ2_indexOfSupplementary_4cfef_42 : decode cJ2_indexOfSupplementary_4cfef 42 = .ok (.iload 4, 2) := by decide +kernel
theorem dJ2_indexOfSupplementary_4cfef_44 : decode cJ2_indexOfSupplementary_4cfef 44 = .ok (.if_icmp .ne 19, 3) := by decide +kernel
theorem dJ2_indexOfSupplementary_4cfef_47 : decode cJ2_indexOfSupplementary_4cfef 47 = .ok (.aload_n 0, 1) := by decide +kernel
theorem dJ2_indexOfSupplementary_4cfef_48 : decode cJ2_indexOfSupplementary_4cfef 48 = .ok (.iload 6, 2) := by decide +kernel
theorem dJ2_indexOfSupplementary_4cfef_50 : decode cJ2_indexOfSupplementary_4cfef 50 = .ok (.iconst 1, 1) := by decide +kernel
theorem dJ2_indexOfSupplementary_4cfef_51 : decode cJ2_indexOfSupplementary_4cfef 51 = .ok (.iadd, 1) := by decide +kernel
theorem dJ2_indexOfSupplementary_4cfef_52 : decode cJ2_indexOfSupplementary_4cfef 52 = .ok (.invokestatic 71, 3) := by decide +kernel
theorem dJ2_indexOfSupplementary_4cfef_55 : decode cJ2_indexOfSupplementary_4cfef 55 = .ok (.iload 5, 2) := by decide +kernel
theorem dJ2_indexOfSupplementary_4cfef_57 : decode cJ2_indexOfSupplementary_4cfef 57 = .ok (.if_icmp .ne 6, 3) := by decide +kernel
theorem dJ2_indexOfSupplementary_4cfef_60 : decode cJ2_indexOfSupplementary_4cfef 60 = .ok (.iload 6, 2) := by decide +kernel
theorem dJ2_indexOfSupplementary_4cfef_62 : decode cJ2_indexOfSupplementary_4cfef 62 = .ok (.ireturn, 1) := by decide +kernel
theorem dJ2_indexOfSupplementary_4cfef_63 : decode cJ2_indexOfSupplementary_4cfef 63 = .ok (.iinc 6 1, 3) := by decide +kernel
theorem dJ2_indexOfSupplementary_4cfef_66 : decode cJ2_indexOfSupplementary_4cfef 66 = .ok (.goto (-38), 3) := by decide +kernel
theorem dJ2_indexOfSupplementary_4cfef_69 : decode cJ2_indexOfSupplementary_4cfef 69 = .ok (.iconst (-1), 1) := by decide +kernel
theorem dJ2_indexOfSupplementary_4cfef_70 : decode cJ2_indexOfSupplementary_4cfef 70 = .ok (.ireturn, 1) := by decide +kernel
theorem dJ2_checkBoundsBeginEnd_d044e_0 : decode cJ2_checkBoundsBeginEnd_d044e 0 = .ok (.iload_n 0, 1) := by decide +kernel
theorem dJ2_checkBoundsBeginEnd_d044e_1 : decode cJ2_checkBoundsBeginEnd_d044e 1 = .ok (.iload_n 1, 1) := by decide +kernel
theorem dJ2_checkBoundsBeginEnd_d044e_2 : decode cJ2_checkBoundsBeginEnd_d044e 2 = .ok (.aload_n 2, 1) := by decide +kernel
theorem dJ2_checkBoundsBeginEnd_d044e_3 : decode cJ2_checkBoundsBeginEnd_d044e 3 = .ok (.invokestatic 48, 3) := by decide +kernel
theorem dJ2_checkBoundsBeginEnd_d044e_6 : decode cJ2_checkBoundsBeginEnd_d044e 6 = .ok (.invokestatic 241, 3) := by decide +kernel
theorem dJ2_checkBoundsBeginEnd_d044e_9 : decode cJ2_checkBoundsBeginEnd_d044e 9 = .ok (.return_, 1) := by decide +kernel
theorem dJ7_fill_53178_0 : decode cJ7_fill_53178 0 = .ok (.iconst 0, 1) := by decide +kernel
theorem dJ7_fill_53178_1 : decode cJ7_fill_53178 1 = .ok (.istore_n 2, 1) := by decide +kernel
theorem dJ7_fill_53178_2 : decode cJ7_fill_53178 2 = .ok (.aload_n 0, 1) := by decide +kernel
theorem dJ7_fill_53178_3 : decode cJ7_fill_53178 3 = .ok (.arraylength, 1) := by decide +kernel
theorem dJ7_fill_53178_4 : decode cJ7_fill_53178 4 = .ok (.istore_n 3, 1) := by decide +kernel
theorem dJ7_fill_53178_5 : decode cJ7_fill_53178 5 = .ok (.iload_n 2, 1) := by decide +kernel
theorem dJ7_fill_53178_6 : decode cJ7_fill_53178 6 = .ok (.iload_n 3, 1) := by decide +kernel
theorem dJ7_fill_53178_7 : decode cJ7_fill_53178 7 = .ok (.if_icmp .ge 13, 3) := by decide +kernel
theorem dJ7_fill_53178_10 : decode cJ7_fill_53178 10 = .ok (.aload_n 0, 1) := by decide +kernel
theorem dJ7_fill_53178_11 : decode cJ7_fill_53178 11 = .ok (.iload_n 2, 1) := by decide +kernel
theorem dJ7_fill_53178_12 : decode cJ7_fill_53178 12 = .ok (.iload_n 1, 1) := by decide +kernel
theorem dJ7_fill_53178_13 : decode cJ7_fill_53178 13 = .ok (.iastore, 1) := by decide +kernel
theorem dJ7_fill_53178_14 : decode cJ7_fill_53178 14 = .ok (.iinc 2 1, 3) := by decide +kernel
theorem dJ7_fill_53178_17 : decode cJ7_fill_53178 17 = .ok (.goto (-12), 3) := by decide +kernel
theorem dJ7_fill_53178_20 : decode cJ7_fill_53178 20 = .ok (.return_, 1) := by decide +kernel
theorem dJ3_checkFromToIndex_8c36e_0 : decode cJ3_checkFromToIndex_8c36e 0 = .ok (.iload_n 0, 1) := by decide +kernel
theorem dJ3_checkFromToIndex_8c36e_1 : decode cJ3_checkFromToIndex_8c36e 1 = .ok (.ifCond .lt 13, 3) := by decide +kernel
theorem dJ3_checkFromToIndex_8c36e_4 : decode cJ3_checkFromToIndex_8c36e 4 = .ok (.iload_n 0, 1) := by decide +kernel
theorem dJ3_checkFromToIndex_8c36e_5 : decode cJ3_checkFromToIndex_8c36e 5 = .ok (.iload_n 1, 1) := by decide +kernel
theorem dJ3_checkFromToIndex_8c36e_6 : decode cJ3_checkFromToIndex_8c36e 6 = .ok (.if_icmp .gt 8, 3) := by decide +kernel
theorem dJ3_checkFromToIndex_8c36e_9 : decode cJ3_checkFromToIndex_8c36e 9 = .ok (.iload_n 1, 1) := by decide +kernel
theorem dJ3_checkFromToIndex_8c36e_10 : decode cJ3_checkFromToIndex_8c36e 10 = .ok (.iload_n 2, 1) := by decide +kernel
theorem dJ3_checkFromToIndex_8c36e_11 : decode cJ3_checkFromToIndex_8c36e 11 = .ok (.if_icmp .le 11, 3) := by decide +kernel
theorem dJ3_checkFromToIndex_8c36e_14 : decode cJ3_checkFromToIndex_8c36e 14 = .ok (.aload_n 3, 1) := by decide +kernel
theorem dJ3_checkFromToIndex_8c36e_15 : decode cJ3_checkFromToIndex_8c36e 15 = .ok (.iload_n 0, 1) := by decide +kernel
theorem dJ3_checkFromToIndex_8c36e_16 : decode cJ3_checkFromToIndex_8c36e 16 = .ok (.iload_n 1, 1) := by decide +kernel
theorem dJ3_checkFromToIndex_8c36e_17 : decode cJ3_checkFromToIndex_8c36e 17 = .ok (.iload_n 2, 1) := by decide +kernel
theorem dJ3_checkFromToIndex_8c36e_18 : decode cJ3_checkFromToIndex_8c36e 18 = .ok (.invokestatic 99, 3) := by decide +kernel
theorem dJ3_checkFromToIndex_8c36e_21 : decode cJ3_checkFromToIndex_8c36e 21 = .ok (.athrow, 1) := by decide +kernel
theorem dJ3_checkFromToIndex_8c36e_22 : decode cJ3_checkFromToIndex_8c36e 22 = .ok (.iload_n 0, 1) := by decide +kernel
theorem dJ3_checkFromToIndex_8c36e_23 : decode cJ3_checkFromToIndex_8c36e 23 = .ok (.ireturn, 1) := by decide +kernel

theorem dX7_init_0 : decode cX7_init 0 = .ok (.aload_n 0, 1) := by decide +kernel
theorem dX7_init_1 : decode cX7_init 1 = .ok (.invokespecial 1, 3) := by decide +kernel
theorem dX7_init_4 : decode cX7_init 4 = .ok (.aload_n 0, 1) := by decide +kernel
theorem dX7_init_5 : decode cX7_init 5 = .ok (.sipush 1535, 3) := by decide +kernel
theorem dX7_init_8 : decode cX7_init 8 = .ok (.newarray .int, 2) := by decide +kernel
theorem dX7_init_10 : decode cX7_init 10 = .ok (.putfield 9, 3) := by decide +kernel
theorem dX7_init_13 : decode cX7_init 13 = .ok (.aload_n 0, 1) := by decide +kernel
theorem dX7_init_14 : decode cX7_init 14 = .ok (.sipush 1535, 3) := by decide +kernel
theorem dX7_init_17 : decode cX7_init 17 = .ok (.newarray .int, 2) := by decide +kernel
theorem dX7_init_19 : decode cX7_init 19 = .ok (.putfield 13, 3) := by decide +kernel
theorem dX7_init_22 : decode cX7_init 22 = .ok (.aload_n 0, 1) := by decide +kernel
theorem dX7_init_23 : decode cX7_init 23 = .ok (.sipush 1535, 3) := by decide +kernel
theorem dX7_init_26 : decode cX7_init 26 = .ok (.newarray .int, 2) := by decide +kernel
theorem dX7_init_28 : decode cX7_init 28 = .ok (.putfield 16, 3) := by decide +kernel
theorem dX7_init_31 : decode cX7_init 31 = .ok (.aload_n 0, 1) := by decide +kernel
theorem dX7_init_32 : decode cX7_init 32 = .ok (.bipush 24, 2) := by decide +kernel
theorem dX7_init_34 : decode cX7_init 34 = .ok (.newarray .int, 2) := by decide +kernel
theorem dX7_init_36 : decode cX7_init 36 = .ok (.putfield 19, 3) := by decide +kernel
theorem dX7_init_39 : decode cX7_init 39 = .ok (.aload_n 0, 1) := by decide +kernel
theorem dX7_init_40 : decode cX7_init 40 = .ok (.bipush 26, 2) := by decide +kernel
theorem dX7_init_42 : decode cX7_init 42 = .ok (.newarray .int, 2) := by decide +kernel
theorem dX7_init_44 : decode cX7_init 44 = .ok (.putfield 22, 3) := by decide +kernel
theorem dX7_init_47 : decode cX7_init 47 = .ok (.aload_n 0, 1) := by decide +kernel
theorem dX7_init_48 : decode cX7_init 48 = .ok (.bipush 96, 2) := by decide +kernel
theorem dX7_init_50 : decode cX7_init 50 = .ok (.newarray .int, 2) := by decide +kernel
theorem dX7_init_52 : decode cX7_init 52 = .ok (.putfield 25, 3) := by decide +kernel
theorem dX7_init_55 : decode cX7_init 55 = .ok (.aload_n 0, 1) := by decide +kernel
theorem dX7_init_56 : decode cX7_init 56 = .ok (.bipush 13, 2) := by decide +kernel
theorem dX7_init_58 : decode cX7_init 58 = .ok (.newarray .char, 2) := by decide +kernel
theorem dX7_init_60 : decode cX7_init 60 = .ok (.dup, 1) := by decide +kernel
theorem dX7_init_61 : decode cX7_init 61 = .ok (.iconst 0, 1) := by decide +kernel
theorem dX7_init_62 : decode cX7_init 62 = .ok (.bipush 108, 2) := by decide +kernel
theorem dX7_init_64 : decode cX7_init 64 = .ok (.castore, 1) := by decide +kernel
theorem dX7_init_65 : decode cX7_init 65 = .ok (.dup, 1) := by decide +kernel
theorem dX7_init_66 : decode cX7_init 66 = .ok (.iconst 1, 1) := by decide +kernel
theorem dX7_init_67 : decode cX7_init 67 = .ok (.bipush 105, 2) := by decide +kernel
theorem dX7_init_69 : decode cX7_init 69 = .ok (.castore, 1) := by decide +kernel
theorem dX7_init_70 : decode cX7_init 70 = .ok (.dup, 1) := by decide +kernel
theorem dX7_init_71 : decode cX7_init 71 = .ok (.iconst 2, 1) := by decide +kernel
theorem dX7_init_72 : decode cX7_init 72 = .ok (.bipush 102, 2) := by decide +kernel
theorem dX7_init_74 : decode cX7_init 74 = .ok (.castore, 1) := by decide +kernel
theorem dX7_init_75 : decode cX7_init 75 = .ok (.dup, 1) := by decide +kernel
theorem dX7_init_76 : decode cX7_init 76 = .ok (.iconst 3, 1) := by decide +kernel
theorem dX7_init_77 : decode cX7_init 77 = .ok (.bipush 116, 2) := by decide +kernel
theorem dX7_init_79 : decode cX7_init 79 = .ok (.castore, 1) := by decide +kernel
theorem dX7_init_80 : decode cX7_init 80 = .ok (.dup, 1) := by decide +kernel
theorem dX7_init_81 : decode cX7_init 81 = .ok (.iconst 4, 1) := by decide +kernel
theorem dX7_init_82 : decode cX7_init 82 = .ok (.bipush 115, 2) := by decide +kernel
theorem dX7_init_84 : decode cX7_init 84 = .ok (.castore, 1) := by decide +kernel
theorem dX7_init_85 : decode cX7_init 85 = .ok (.dup, 1) := by decide +kernel
theorem dX7_init_86 : decode cX7_init 86 = .ok (.iconst 5, 1) := by decide +kernel
theorem dX7_init_87 : decode cX7_init 87 = .ok (.bipush 108, 2) := by decide +kernel
theorem dX7_init_89 : decode cX7_init 89 = .ok (.castore, 1) := by decide +kernel
theorem dX7_init_90 : decode cX7_init 90 = .ok (.dup, 1) := by decide +kernel
theorem dX7_init_91 : decode cX7_init 91 = .ok (.bipush 6, 2) := by decide +kernel
theorem dX7_init_93 : decode cX7_init 93 = .ok (.bipush 105, 2) := by decide +kernel
theorem dX7_init_95 : decode cX7_init 95 = .ok (.castore, 1) := by decide +kernel
theorem dX7_init_96 : decode cX7_init 96 = .ok (.dup, 1) := by decide +kernel
theorem dX7_init_97 : decode cX7_init 97 = .ok (.bipush 7, 2) := by decide +kernel
theorem dX7_init_99 : decode cX7_init 99 = .ok (.bipush 100, 2) := by decide +kernel
theorem dX7_init_101 : decode cX7_init 101 = .ok (.castore, 1) := by decide +kernel
theorem dX7_init_102 : decode cX7_init 102 = .ok (.dup, 1) := by decide +kernel
theorem dX7_init_103 : decode cX7_init 103 = .ok (.bipush 8, 2) := by decide +kernel
theorem dX7_init_105 : decode cX7_init 105 = .ok (.bipush 101, 2) := by decide +kernel
theorem dX7_init_107 : decode cX7_init 107 = .ok (.castore, 1) := by decide +kernel
theorem dX7_init_108 : decode cX7_init 108 = .ok (.dup, 1) := by decide +kernel
theorem dX7_init_109 : decode cX7_init 109 = .ok (.bipush 9, 2) := by decide +kernel
theorem dX7_init_111 : decode cX7_init 111 = .ok (.bipush 109, 2) := by decide +kernel
theorem dX7_init_113 : decode cX7_init 113 = .ok (.castore, 1) := by decide +kernel
theorem dX7_init_114 : decode cX7_init 114 = .ok (.dup, 1) := by decide +kernel
theorem dX7_init_115 : decode cX7_init 115 = .ok (.bipush 10, 2) := by decide +kernel
theorem dX7_init_117 : decode cX7_init 117 = .ok (.bipush 97, 2) := by decide +kernel
theorem dX7_init_119 : decode cX7_init 119 = .ok (.castore, 1) := by decide +kernel
theorem dX7_init_120 : decode cX7_init 120 = .ok (.dup, 1) := by decide +kernel
theorem dX7_init_121 : decode cX7_init 121 = .ok (.bipush 11, 2) := by decide +kernel
theorem dX7_init_123 : decode cX7_init 123 = .ok (.bipush 114, 2) := by decide +kernel
theorem dX7_init_125 : decode cX7_init 125 = .ok (.castore, 1) := by decide +kernel
theorem dX7_init_126 : decode cX7_init 126 = .ok (.dup, 1) := by decide +kernel
theorem dX7_init_127 : decode cX7_init 127 = .ok (.bipush 12, 2) := by decide +kernel
theorem dX7_init_129 : decode cX7_init 129 = .ok (.bipush 107, 2) := by decide +kernel
theorem dX7_init_131 : decode cX7_init 131 = .ok (.castore, 1) := by decide +kernel
theorem dX7_init_132 : decode cX7_init 132 = .ok (.putfield 28, 3) := by decide +kernel
theorem dX7_init_135 : decode cX7_init 135 = .ok (.aload_n 0, 1) := by decide +kernel
theorem dX7_init_136 : decode cX7_init 136 = .ok (.iconst 4, 1) := by decide +kernel
theorem dX7_init_137 : decode cX7_init 137 = .ok (.newarray .int, 2) := by decide +kernel
theorem dX7_init_139 : decode cX7_init 139 = .ok (.dup, 1) := by decide +kernel
theorem dX7_init_140 : decode cX7_init 140 = .ok (.iconst 0, 1) := by decide +kernel
theorem dX7_init_141 : decode cX7_init 141 = .ok (.iconst 0, 1) := by decide +kernel
theorem dX7_init_142 : decode cX7_init 142 = .ok (.iastore, 1) := by decide +kernel
theorem dX7_init_143 : decode cX7_init 143 = .ok (.dup, 1) := by decide +kernel
theorem dX7_init_144 : decode cX7_init 144 = .ok (.iconst 1, 1) := by decide +kernel
theorem dX7_init_145 : decode cX7_init 145 = .ok (.iconst 4, 1) := by decide +kernel
theorem dX7_init_146 : decode cX7_init 146 = .ok (.iastore, 1) := by decide +kernel
theorem dX7_init_147 : decode cX7_init 147 = .ok (.dup, 1) := by decide +kernel
theorem dX7_init_148 : decode cX7_init 148 = .ok (.iconst 2, 1) := by decide +kernel
theorem dX7_init_149 : decode cX7_init 149 = .ok (.bipush 9, 2) := by decide +kernel
theorem dX7_init_151 : decode cX7_init 151 = .ok (.iastore, 1) := by decide +kernel
theorem dX7_init_152 : decode cX7_init 152 = .ok (.dup, 1) := by decide +kernel
theorem dX7_init_153 : decode cX7_init 153 = .ok (.iconst 3, 1) := by decide +kernel
theorem dX7_init_154 : decode cX7_init 154 = .ok (.bipush 13, 2) := by decide +kernel
theorem dX7_init_156 : decode cX7_init 156 = .ok (.iastore, 1) := by decide +kernel
theorem dX7_init_157 : decode cX7_init 157 = .ok (.putfield 32, 3) := by decide +kernel
theorem dX7_init_160 : decode cX7_init 160 = .ok (.aload_n 0, 1) := by decide +kernel
theorem dX7_init_161 : decode cX7_init 161 = .ok (.bipush 96, 2) := by decide +kernel
theorem dX7_init_163 : decode cX7_init 163 = .ok (.newarray .int, 2) := by decide +kernel
theorem dX7_init_165 : decode cX7_init 165 = .ok (.putfield 35, 3) := by decide +kernel
theorem dX7_init_168 : decode cX7_init 168 = .ok (.aload_n 0, 1) := by decide +kernel
theorem dX7_init_169 : decode cX7_init 169 = .ok (.bipush 96, 2) := by decide +kernel
theorem dX7_init_171 : decode cX7_init 171 = .ok (.newarray .int, 2) := by decide +kernel
theorem dX7_init_173 : decode cX7_init 173 = .ok (.putfield 38, 3) := by decide +kernel
theorem dX7_init_176 : decode cX7_init 176 = .ok (.aload_n 0, 1) := by decide +kernel
theorem dX7_init_177 : decode cX7_init 177 = .ok (.bipush 10, 2) := by decide +kernel
theorem dX7_init_179 : decode cX7_init 179 = .ok (.newarray .boolean, 2) := by decide +kernel
theorem dX7_init_181 : decode cX7_init 181 = .ok (.putfield 41, 3) := by decide +kernel
theorem dX7_init_184 : decode cX7_init 184 = .ok (.aload_n 0, 1) := by decide +kernel
theorem dX7_init_185 : decode cX7_init 185 = .ok (.bipush 96, 2) := by decide +kernel
theorem dX7_init_187 : decode cX7_init 187 = .ok (.newarray .int, 2) := by decide +kernel
theorem dX7_init_189 : decode cX7_init 189 = .ok (.putfield 45, 3) := by decide +kernel
theorem dX7_init_192 : decode cX7_init 192 = .ok (.aload_n 0, 1) := by decide +kernel
theorem dX7_init_193 : decode cX7_init 193 = .ok (.iconst 4, 1) := by decide +kernel
theorem dX7_init_194 : decode cX7_init 194 = .ok (.newarray .int, 2) := by decide +kernel
theorem dX7_init_196 : decode cX7_init 196 = .ok (.putfield 48, 3) := by decide +kernel
theorem dX7_init_199 : decode cX7_init 199 = .ok (.aload_n 0, 1) := by decide +kernel
theorem dX7_init_200 : decode cX7_init 200 = .ok (.iconst 4, 1) := by decide +kernel
theorem dX7_init_201 : decode cX7_init 201 = .ok (.newarray .int, 2) := by decide +kernel
theorem dX7_init_203 : decode cX7_init 203 = .ok (.dup, 1) := by decide +kernel
theorem dX7_init_204 : decode cX7_init 204 = .ok (.iconst 0, 1) := by decide +kernel
theorem dX7_init_205 : decode cX7_init 205 = .ok (.iconst (-1), 1) := by decide +kernel
theorem dX7_init_206 : decode cX7_init 206 = .ok (.iastore, 1) := by decide +kernel
theorem dX7_init_207 : decode cX7_init 207 = .ok (.dup, 1) := by decide +kernel
theorem dX7_init_208 : decode cX7_init 208 = .ok (.iconst 1, 1) := by decide +kernel
theorem dX7_init_209 : decode cX7_init 209 = .ok (.iconst (-1), 1) := by decide +kernel
theorem dX7_init_210 : decode cX7_init 210 = .ok (.iastore, 1) := by decide +kernel
theorem dX7_init_211 : decode cX7_init 211 = .ok (.dup, 1) := by decide +kernel
theorem dX7_init_212 : decode cX7_init 212 = .ok (.iconst 2, 1) := by decide +kernel
theorem dX7_init_213 : decode cX7_init 213 = .ok (.iconst (-1), 1) := by decide +kernel
theorem dX7_init_214 : decode cX7_init 214 = .ok (.iastore, 1) := by decide +kernel
theorem dX7_init_215 : decode cX7_init 215 = .ok (.dup, 1) := by decide +kernel
theorem dX7_init_216 : decode cX7_init 216 = .ok (.iconst 3, 1) := by decide +kernel
theorem dX7_init_217 : decode cX7_init 217 = .ok (.iconst (-1), 1) := by decide +kernel
theorem dX7_init_218 : decode cX7_init 218 = .ok (.iastore, 1) := by decide +kernel
theorem dX7_init_219 : decode cX7_init 219 = .ok (.putfield 51, 3) := by decide +kernel
theorem dX7_init_222 : decode cX7_init 222 = .ok (.aload_n 0, 1) := by decide +kernel
theorem dX7_init_223 : decode cX7_init 223 = .ok (.iconst 4, 1) := by decide +kernel
theorem dX7_init_224 : decode cX7_init 224 = .ok (.newarray .int, 2) := by decide +kernel
theorem dX7_init_226 : decode cX7_init 226 = .ok (.putfield 54, 3) := by decide +kernel
theorem dX7_init_229 : decode cX7_init 229 = .ok (.aload_n 0, 1) := by decide +kernel
theorem dX7_init_230 : decode cX7_init 230 = .ok (.bipush 96, 2) := by decide +kernel
theorem dX7_init_232 : decode cX7_init 232 = .ok (.newarray .int, 2) := by decide +kernel
theorem dX7_init_234 : decode cX7_init 234 = .ok (.putfield 57, 3) := by decide +kernel
theorem dX7_init_237 : decode cX7_init 237 = .ok (.aload_n 0, 1) := by decide +kernel
theorem dX7_init_238 : decode cX7_init 238 = .ok (.iconst 5, 1) := by decide +kernel
theorem dX7_init_239 : decode cX7_init 239 = .ok (.newarray .int, 2) := by decide +kernel
theorem dX7_init_241 : decode cX7_init 241 = .ok (.putfield 60, 3) := by decide +kernel
theorem dX7_init_244 : decode cX7_init 244 = .ok (.aload_n 0, 1) := by decide +kernel
theorem dX7_init_245 : decode cX7_init 245 = .ok (.iconst 5, 1) := by decide +kernel
theorem dX7_init_246 : decode cX7_init 246 = .ok (.newarray .int, 2) := by decide +kernel
theorem dX7_init_248 : decode cX7_init 248 = .ok (.putfield 63, 3) := by decide +kernel
theorem dX7_init_251 : decode cX7_init 251 = .ok (.aload_n 0, 1) := by decide +kernel
theorem dX7_init_252 : decode cX7_init 252 = .ok (.iconst 5, 1) := by decide +kernel
theorem dX7_init_253 : decode cX7_init 253 = .ok (.newarray .int, 2) := by decide +kernel
theorem dX7_init_255 : decode cX7_init 255 = .ok (.putfield 66, 3) := by decide +kernel
theorem dX7_init_258 : decode cX7_init 258 = .ok (.aload_n 0, 1) := by decide +kernel
theorem dX7_init_259 : decode cX7_init 259 = .ok (.bipush 120, 2) := by decide +kernel
theorem dX7_init_261 : decode cX7_init 261 = .ok (.newarray .int, 2) := by decide +kernel
theorem dX7_init_263 : decode cX7_init 263 = .ok (.putfield 69, 3) := by decide +kernel
theorem dX7_init_266 : decode cX7_init 266 = .ok (.aload_n 0, 1) := by decide +kernel
theorem dX7_init_267 : decode cX7_init 267 = .ok (.bipush 24, 2) := by decide +kernel
theorem dX7_init_269 : decode cX7_init 269 = .ok (.newarray .int, 2) := by decide +kernel
theorem dX7_init_271 : decode cX7_init 271 = .ok (.putfield 72, 3) := by decide +kernel
theorem dX7_init_274 : decode cX7_init 274 = .ok (.aload_n 0, 1) := by decide +kernel
theorem dX7_init_275 : decode cX7_init 275 = .ok (.bipush 60, 2) := by decide +kernel
theorem dX7_init_277 : decode cX7_init 277 = .ok (.newarray .int, 2) := by decide +kernel
theorem dX7_init_279 : decode cX7_init 279 = .ok (.putfield 75, 3) := by decide +kernel
theorem dX7_init_282 : decode cX7_init 282 = .ok (.aload_n 0, 1) := by decide +kernel
theorem dX7_init_283 : decode cX7_init 283 = .ok (.getfield 9, 3) := by decide +kernel
theorem dX7_init_286 : decode cX7_init 286 = .ok (.iconst 0, 1) := by decide +kernel
theorem dX7_init_287 : decode cX7_init 287 = .ok (.iconst 1, 1) := by decide +kernel
theorem dX7_init_288 : decode cX7_init 288 = .ok (.iastore, 1) := by decide +kernel
theorem dX7_init_289 : decode cX7_init 289 = .ok (.aload_n 0, 1) := by decide +kernel
theorem dX7_init_290 : decode cX7_init 290 = .ok (.getfield 9, 3) := by decide +kernel
theorem dX7_init_293 : decode cX7_init 293 = .ok (.iconst 2, 1) := by decide +kernel
theorem dX7_init_294 : decode cX7_init 294 = .ok (.iconst 3, 1) := by decide +kernel
theorem dX7_init_295 : decode cX7_init 295 = .ok (.iastore, 1) := by decide +kernel
theorem dX7_init_296 : decode cX7_init 296 = .ok (.aload_n 0, 1) := by decide +kernel
theorem dX7_init_297 : decode cX7_init 297 = .ok (.getfield 9, 3) := by decide +kernel
theorem dX7_init_300 : decode cX7_init 300 = .ok (.iconst 3, 1) := by decide +kernel
theorem dX7_init_301 : decode cX7_init 301 = .ok (.iconst 2, 1) := by decide +kernel
theorem dX7_init_302 : decode cX7_init 302 = .ok (.iastore, 1) := by decide +kernel
theorem dX7_init_303 : decode cX7_init 303 = .ok (.aload_n 0, 1) := by decide +kernel
theorem dX7_init_304 : decode cX7_init 304 = .ok (.getfield 9, 3) := by decide +kernel
theorem dX7_init_307 : decode cX7_init 307 = .ok (.iconst 4, 1) := by decide +kernel
theorem dX7_init_308 : decode cX7_init 308 = .ok (.iconst 5, 1) := by decide +kernel
theorem dX7_init_309 : decode cX7_init 309 = .ok (.iastore, 1) := by decide +kernel
theorem dX7_init_310 : decode cX7_init 310 = .ok (.aload_n 0, 1) := by decide +kernel
theorem dX7_init_311 : decode cX7_init 311 = .ok (.getfield 9, 3) := by decide +kernel
theorem dX7_init_314 : decode cX7_init 314 = .ok (.iconst 5, 1) := by decide +kernel
theorem dX7_init_315 : decode cX7_init 315 = .ok (.iconst 4, 1) := by decide +kernel
theorem dX7_init_316 : decode cX7_init 316 = .ok (.iastore, 1) := by decide +kernel
theorem dX7_init_317 : decode cX7_init 317 = .ok (.return_, 1) := by decide +kernel
theorem dX7_in_0 : decode cX7_in 0 = .ok (.iload_n 0, 1) := by decide +kernel
theorem dX7_in_1 : decode cX7_in 1 = .ok (.iload_n 1, 1) := by decide +kernel
theorem dX7_in_2 : decode cX7_in 2 = .ok (.if_icmp .lt 12, 3) := by decide +kernel
theorem dX7_in_5 : decode cX7_in 5 = .ok (.iload_n 0, 1) := by decide +kernel
theorem dX7_in_6 : decode cX7_in 6 = .ok (.iload_n 2, 1) := by decide +kernel
theorem dX7_in_7 : decode cX7_in 7 = .ok (.if_icmp .gt 7, 3) := by decide +kernel
theorem dX7_in_10 : decode cX7_in 10 = .ok (.iconst 1, 1) := by decide +kernel
theorem dX7_in_11 : decode cX7_in 11 = .ok (.goto 4, 3) := by decide +kernel
theorem dX7_in_14 : decode cX7_in 14 = .ok (.iconst 0, 1) := by decide +kernel
theorem dX7_in_15 : decode cX7_in 15 = .ok (.ireturn, 1) := by decide +kernel
theorem dX7_within_0 : decode cX7_within 0 = .ok (.iload_n 0, 1) := by decide +kernel
theorem dX7_within_1 : decode cX7_within 1 = .ok (.iload_n 1, 1) := by decide +kernel
theorem dX7_within_2 : decode cX7_within 2 = .ok (.if_icmp .ge 7, 3) := by decide +kernel
theorem dX7_within_5 : decode cX7_within 5 = .ok (.iload_n 1, 1) := by decide +kernel
theorem dX7_within_6 : decode cX7_within 6 = .ok (.goto 13, 3) := by decide +kernel
theorem dX7_within_9 : decode cX7_within 9 = .ok (.iload_n 0, 1) := by decide +kernel
theorem dX7_within_10 : decode cX7_within 10 = .ok (.iload_n 2, 1) := by decide +kernel
theorem dX7_within_11 : decode cX7_within 11 = .ok (.if_icmp .le 7, 3) := by decide +kernel
theorem dX7_within_14 : decode cX7_within 14 = .ok (.iload_n 2, 1) := by decide +kernel
theorem dX7_within_15 : decode cX7_within 15 = .ok (.goto 4, 3) := by decide +kernel
theorem dX7_within_18 : decode cX7_within 18 = .ok (.iload_n 0, 1) := by decide +kernel
theorem dX7_within_19 : decode cX7_within 19 = .ok (.ireturn, 1) := by decide +kernel
theorem dX7_copyAll_0 : decode cX7_copyAll 0 = .ok (.iconst 0, 1) := by decide +kernel
theorem dX7_copyAll_1 : decode cX7_copyAll 1 = .ok (.istore_n 2, 1) := by decide +kernel
theorem dX7_copyAll_2 : decode cX7_copyAll 2 = .ok (.iload_n 2, 1) := by decide +kernel
theorem dX7_copyAll_3 : decode cX7_copyAll 3 = .ok (.sipush 1535, 3) := by decide +kernel
theorem dX7_copyAll_6 : decode cX7_copyAll 6 = .ok (.if_icmp .ge 15, 3) := by decide +kernel
theorem dX7_copyAll_9 : decode cX7_copyAll 9 = .ok (.aload_n 1, 1) := by decide +kernel
theorem dX7_copyAll_10 : decode cX7_copyAll 10 = .ok (.iload_n 2, 1) := by decide +kernel
theorem dX7_copyAll_11 : decode cX7_copyAll 11 = .ok (.aload_n 0, 1) := by decide +kernel
theorem dX7_copyAll_12 : decode cX7_copyAll 12 = .ok (.iload_n 2, 1) := by decide +kernel
theorem dX7_copyAll_13 : decode cX7_copyAll 13 = .ok (.iaload, 1) := by decide +kernel
theorem dX7_copyAll_14 : decode cX7_copyAll 14 = .ok (.iastore, 1) := by decide +kernel
theorem dX7_copyAll_15 : decode cX7_copyAll 15 = .ok (.iinc 2 1, 3) := by decide +kernel
theorem dX7_copyAll_18 : decode cX7_copyAll 18 = .ok (.goto (-16), 3) := by decide +kernel
theorem dX7_copyAll_21 : decode cX7_copyAll 21 = .ok (.return_, 1) := by decide +kernel
theorem dX7_isFloor_0 : decode cX7_isFloor 0 = .ok (.iload_n 1, 1) := by decide +kernel
theorem dX7_isFloor_1 : decode cX7_isFloor 1 = .ok (.iconst 0, 1) := by decide +kernel
theorem dX7_isFloor_2 : decode cX7_isFloor 2 = .ok (.aload_n 0, 1) := by decide +kernel
theorem dX7_isFloor_3 : decode cX7_isFloor 3 = .ok (.getfield 9, 3) := by decide +kernel
theorem dX7_isFloor_6 : decode cX7_isFloor 6 = .ok (.iconst 1, 1) := by decide +kernel
theorem dX7_isFloor_7 : decode cX7_isFloor 7 = .ok (.iaload, 1) := by decide +kernel
theorem dX7_isFloor_8 : decode cX7_isFloor 8 = .ok (.iconst 1, 1) := by decide +kernel
theorem dX7_isFloor_9 : decode cX7_isFloor 9 = .ok (.isub, 1) := by decide +kernel
theorem dX7_isFloor_10 : decode cX7_isFloor 10 = .ok (.invokestatic 78, 3) := by decide +kernel
theorem dX7_isFloor_13 : decode cX7_isFloor 13 = .ok (.ireturn, 1) := by decide +kernel
theorem dX7_isCell_0 : decode cX7_isCell 0 = .ok (.iload_n 0, 1) := by decide +kernel
theorem dX7_isCell_1 : decode cX7_isCell 1 = .ok (.iconst 0, 1) := by decide +kernel
theorem dX7_isCell_2 : decode cX7_isCell 2 = .ok (.bipush 23, 2) := by decide +kernel
theorem dX7_isCell_4 : decode cX7_isCell 4 = .ok (.invokestatic 78, 3) := by decide +kernel
theorem dX7_isCell_7 : decode cX7_isCell 7 = .ok (.ireturn, 1) := by decide +kernel
theorem dX7_at_0 : decode cX7_at 0 = .ok (.bipush 7, 2) := by decide +kernel
theorem dX7_at_2 : decode cX7_at 2 = .ok (.bipush 26, 2) := by decide +kernel
theorem dX7_at_4 : decode cX7_at 4 = .ok (.iload_n 0, 1) := by decide +kernel
theorem dX7_at_5 : decode cX7_at 5 = .ok (.imul, 1) := by decide +kernel
theorem dX7_at_6 : decode cX7_at 6 = .ok (.iadd, 1) := by decide +kernel
theorem dX7_at_7 : decode cX7_at 7 = .ok (.ireturn, 1) := by decide +kernel
theorem dX7_kindOf_0 : decode cX7_kindOf 0 = .ok (.aload_n 0, 1) := by decide +kernel
theorem dX7_kindOf_1 : decode cX7_kindOf 1 = .ok (.getfield 9, 3) := by decide +kernel
theorem dX7_kindOf_4 : decode cX7_kindOf 4 = .ok (.iload_n 1, 1) := by decide +kernel
theorem dX7_kindOf_5 : decode cX7_kindOf 5 = .ok (.invokestatic 82, 3) := by decide +kernel
theorem dX7_kindOf_8 : decode cX7_kindOf 8 = .ok (.iaload, 1) := by decide +kernel
theorem dX7_kindOf_9 : decode cX7_kindOf 9 = .ok (.ireturn, 1) := by decide +kernel
theorem dX7_tickOf_0 : decode cX7_tickOf 0 = .ok (.aload_n 0, 1) := by decide +kernel
theorem dX7_tickOf_1 : decode cX7_tickOf 1 = .ok (.getfield 9, 3) := by decide +kernel
theorem dX7_tickOf_4 : decode cX7_tickOf 4 = .ok (.iload_n 1, 1) := by decide +kernel
theorem dX7_tickOf_5 : decode cX7_tickOf 5 = .ok (.invokestatic 82, 3) := by decide +kernel
theorem dX7_tickOf_8 : decode cX7_tickOf 8 = .ok (.iconst 1, 1) := by decide +kernel
theorem dX7_tickOf_9 : decode cX7_tickOf 9 = .ok (.iadd, 1) := by decide +kernel
theorem dX7_tickOf_10 : decode cX7_tickOf 10 = .ok (.iaload, 1) := by decide +kernel
theorem dX7_tickOf_11 : decode cX7_tickOf 11 = .ok (.ireturn, 1) := by decide +kernel
theorem dX7_spot_0 : decode cX7_spot 0 = .ok (.iload_n 0, 1) := by decide +kernel
theorem dX7_spot_1 : decode cX7_spot 1 = .ok (.invokestatic 82, 3) := by decide +kernel
theorem dX7_spot_4 : decode cX7_spot 4 = .ok (.iconst 2, 1) := by decide +kernel
theorem dX7_spot_5 : decode cX7_spot 5 = .ok (.iadd, 1) := by decide +kernel
theorem dX7_spot_6 : decode cX7_spot 6 = .ok (.iload_n 1, 1) := by decide +kernel
theorem dX7_spot_7 : decode cX7_spot 7 = .ok (.bipush 48, 2) := by decide +kernel
theorem dX7_spot_9 : decode cX7_spot 9 = .ok (.iadd, 1) := by decide +kernel
theorem dX7_spot_10 : decode cX7_spot 10 = .ok (.bipush 24, 2) := by decide +kernel
theorem dX7_spot_12 : decode cX7_spot 12 = .ok (.irem, 1) := by decide +kernel
theorem dX7_spot_13 : decode cX7_spot 13 = .ok (.iadd, 1) := by decide +kernel
theorem dX7_spot_14 : decode cX7_spot 14 = .ok (.ireturn, 1) := by decide +kernel
theorem dX7_sandOf_0 : decode cX7_sandOf 0 = .ok (.aload_n 0, 1) := by decide +kernel
theorem dX7_sandOf_1 : decode cX7_sandOf 1 = .ok (.getfield 9, 3) := by decide +kernel
theorem dX7_sandOf_4 : decode cX7_sandOf 4 = .ok (.iload_n 1, 1) := by decide +kernel
theorem dX7_sandOf_5 : decode cX7_sandOf 5 = .ok (.iload_n 2, 1) := by decide +kernel
theorem dX7_sandOf_6 : decode cX7_sandOf 6 = .ok (.invokestatic 86, 3) := by decide +kernel
theorem dX7_sandOf_9 : decode cX7_sandOf 9 = .ok (.iaload, 1) := by decide +kernel
theorem dX7_sandOf_10 : decode cX7_sandOf 10 = .ok (.ireturn, 1) := by decide +kernel
theorem dX7_floor_0 : decode cX7_floor 0 = .ok (.iload_n 1, 1) := by decide +kernel
theorem dX7_floor_1 : decode cX7_floor 1 = .ok (.iconst 0, 1) := by decide +kernel
theorem dX7_floor_2 : decode cX7_floor 2 = .ok (.iconst 5, 1) := by decide +kernel
theorem dX7_floor_3 : decode cX7_floor 3 = .ok (.invokestatic 78, 3) := by decide +kernel
theorem dX7_floor_6 : decode cX7_floor 6 = .ok (.ifCond .ne 6, 3) := by decide +kernel
theorem dX7_floor_9 : decode cX7_floor 9 = .ok (.ldc 90, 2) := by decide +kernel
theorem dX7_floor_11 : decode cX7_floor 11 = .ok (.ireturn, 1) := by decide +kernel
theorem dX7_floor_12 : decode cX7_floor 12 = .ok (.aload_n 0, 1) := by decide +kernel
theorem dX7_floor_13 : decode cX7_floor 13 = .ok (.getfield 9, 3) := by decide +kernel
theorem dX7_floor_16 : decode cX7_floor 16 = .ok (.iconst 1, 1) := by decide +kernel
theorem dX7_floor_17 : decode cX7_floor 17 = .ok (.iaload, 1) := by decide +kernel
theorem dX7_floor_18 : decode cX7_floor 18 = .ok (.bipush 6, 2) := by decide +kernel
theorem dX7_floor_20 : decode cX7_floor 20 = .ok (.if_icmp .ne 6, 3) := by decide +kernel
theorem dX7_floor_23 : decode cX7_floor 23 = .ok (.ldc 91, 2) := by decide +kernel
theorem dX7_floor_25 : decode cX7_floor 25 = .ok (.ireturn, 1) := by decide +kernel
theorem dX7_floor_26 : decode cX7_floor 26 = .ok (.aload_n 0, 1) := by decide +kernel
theorem dX7_floor_27 : decode cX7_floor 27 = .ok (.getfield 9, 3) := by decide +kernel
theorem dX7_floor_30 : decode cX7_floor 30 = .ok (.iconst 1, 1) := by decide +kernel
theorem dX7_floor_31 : decode cX7_floor 31 = .ok (.iaload, 1) := by decide +kernel
theorem dX7_floor_32 : decode cX7_floor 32 = .ok (.istore_n 2, 1) := by decide +kernel
theorem dX7_floor_33 : decode cX7_floor 33 = .ok (.aload_n 0, 1) := by decide +kernel
theorem dX7_floor_34 : decode cX7_floor 34 = .ok (.getfield 9, 3) := by decide +kernel
theorem dX7_floor_37 : decode cX7_floor 37 = .ok (.iload_n 2, 1) := by decide +kernel
theorem dX7_floor_38 : decode cX7_floor 38 = .ok (.invokestatic 82, 3) := by decide +kernel
theorem dX7_floor_41 : decode cX7_floor 41 = .ok (.iload_n 1, 1) := by decide +kernel
theorem dX7_floor_42 : decode cX7_floor 42 = .ok (.iastore, 1) := by decide +kernel
theorem dX7_floor_43 : decode cX7_floor 43 = .ok (.aload_n 0, 1) := by decide +kernel
theorem dX7_floor_44 : decode cX7_floor 44 = .ok (.getfield 9, 3) := by decide +kernel
theorem dX7_floor_47 : decode cX7_floor 47 = .ok (.iload_n 2, 1) := by decide +kernel
theorem dX7_floor_48 : decode cX7_floor 48 = .ok (.invokestatic 82, 3) := by decide +kernel
theorem dX7_floor_51 : decode cX7_floor 51 = .ok (.iconst 1, 1) := by decide +kernel
theorem dX7_floor_52 : decode cX7_floor 52 = .ok (.iadd, 1) := by decide +kernel
theorem dX7_floor_53 : decode cX7_floor 53 = .ok (.iconst 0, 1) := by decide +kernel
theorem dX7_floor_54 : decode cX7_floor 54 = .ok (.iastore, 1) := by decide +kernel
theorem dX7_floor_55 : decode cX7_floor 55 = .ok (.iconst 0, 1) := by decide +kernel
theorem dX7_floor_56 : decode cX7_floor 56 = .ok (.istore_n 3, 1) := by decide +kernel
theorem dX7_floor_57 : decode cX7_floor 57 = .ok (.iload_n 3, 1) := by decide +kernel
theorem dX7_floor_58 : decode cX7_floor 58 = .ok (.bipush 24, 2) := by decide +kernel
theorem dX7_floor_60 : decode cX7_floor 60 = .ok (.if_icmp .ge 21, 3) := by decide +kernel
theorem dX7_floor_63 : decode cX7_floor 63 = .ok (.aload_n 0, 1) := by decide +kernel
theorem dX7_floor_64 : decode cX7_floor 64 = .ok (.getfield 9, 3) := by decide +kernel
theorem dX7_floor_67 : decode cX7_floor 67 = .ok (.iload_n 2, 1) := by decide +kernel
theorem dX7_floor_68 : decode cX7_floor 68 = .ok (.iload_n 3, 1) := by decide +kernel
theorem dX7_floor_69 : decode cX7_floor 69 = .ok (.invokestatic 86, 3) := by decide +kernel
theorem dX7_floor_72 : decode cX7_floor 72 = .ok (.bipush 20, 2) := by decide +kernel
theorem dX7_floor_74 : decode cX7_floor 74 = .ok (.iastore, 1) := by decide +kernel
theorem dX7_floor_75 : decode cX7_floor 75 = .ok (.iinc 3 1, 3) := by decide +kernel
theorem dX7_floor_78 : decode cX7_floor 78 = .ok (.goto (-21), 3) := by decide +kernel
theorem dX7_floor_81 : decode cX7_floor 81 = .ok (.aload_n 0, 1) := by decide +kernel
theorem dX7_floor_82 : decode cX7_floor 82 = .ok (.getfield 9, 3) := by decide +kernel
theorem dX7_floor_85 : decode cX7_floor 85 = .ok (.iconst 1, 1) := by decide +kernel
theorem dX7_floor_86 : decode cX7_floor 86 = .ok (.dup2, 1) := by decide +kernel
theorem dX7_floor_87 : decode cX7_floor 87 = .ok (.iaload, 1) := by decide +kernel
theorem dX7_floor_88 : decode cX7_floor 88 = .ok (.iconst 1, 1) := by decide +kernel
theorem dX7_floor_89 : decode cX7_floor 89 = .ok (.iadd, 1) := by decide +kernel
theorem dX7_floor_90 : decode cX7_floor 90 = .ok (.iastore, 1) := by decide +kernel
theorem dX7_floor_91 : decode cX7_floor 91 = .ok (.iload_n 2, 1) := by decide +kernel
theorem dX7_floor_92 : decode cX7_floor 92 = .ok (.ireturn, 1) := by decide +kernel
theorem dX7_reachOf_0 : decode cX7_reachOf 0 = .ok (.aload_n 0, 1) := by decide +kernel
theorem dX7_reachOf_1 : decode cX7_reachOf 1 = .ok (.getfield 9, 3) := by decide +kernel
theorem dX7_reachOf_4 : decode cX7_reachOf 4 = .ok (.iconst 2, 1) := by decide +kernel
theorem dX7_reachOf_5 : decode cX7_reachOf 5 = .ok (.iaload, 1) := by decide +kernel
theorem dX7_reachOf_6 : decode cX7_reachOf 6 = .ok (.istore_n 2, 1) := by decide +kernel
theorem dX7_reachOf_7 : decode cX7_reachOf 7 = .ok (.aload_n 0, 1) := by decide +kernel
theorem dX7_reachOf_8 : decode cX7_reachOf 8 = .ok (.iload_n 1, 1) := by decide +kernel
theorem dX7_reachOf_9 : decode cX7_reachOf 9 = .ok (.invokevirtual 92, 3) := by decide +kernel
theorem dX7_reachOf_12 : decode cX7_reachOf 12 = .ok (.tableswitch 87 1 5 #[36, 42, 46, 60, 66], 36) := by decide +kernel
theorem dX7_reachOf_48 : decode cX7_reachOf 48 = .ok (.iconst 2, 1) := by decide +kernel
theorem dX7_reachOf_49 : decode cX7_reachOf 49 = .ok (.iload_n 2, 1) := by decide +kernel
theorem dX7_reachOf_50 : decode cX7_reachOf 50 = .ok (.imul, 1) := by decide +kernel
theorem dX7_reachOf_51 : decode cX7_reachOf 51 = .ok (.iconst 3, 1) := by decide +kernel
theorem dX7_reachOf_52 : decode cX7_reachOf 52 = .ok (.idiv, 1) := by decide +kernel
theorem dX7_reachOf_53 : decode cX7_reachOf 53 = .ok (.ireturn, 1) := by decide +kernel
theorem dX7_reachOf_54 : decode cX7_reachOf 54 = .ok (.iload_n 2, 1) := by decide +kernel
theorem dX7_reachOf_55 : decode cX7_reachOf 55 = .ok (.iconst 1, 1) := by decide +kernel
theorem dX7_reachOf_56 : decode cX7_reachOf 56 = .ok (.iadd, 1) := by decide +kernel
theorem dX7_reachOf_57 : decode cX7_reachOf 57 = .ok (.ireturn, 1) := by decide +kernel
theorem dX7_reachOf_58 : decode cX7_reachOf 58 = .ok (.iconst 2, 1) := by decide +kernel
theorem dX7_reachOf_59 : decode cX7_reachOf 59 = .ok (.iload_n 2, 1) := by decide +kernel
theorem dX7_reachOf_60 : decode cX7_reachOf 60 = .ok (.imul, 1) := by decide +kernel
theorem dX7_reachOf_61 : decode cX7_reachOf 61 = .ok (.iconst 3, 1) := by decide +kernel
theorem dX7_reachOf_62 : decode cX7_reachOf 62 = .ok (.idiv, 1) := by decide +kernel
theorem dX7_reachOf_63 : decode cX7_reachOf 63 = .ok (.iconst 1, 1) := by decide +kernel
theorem dX7_reachOf_64 : decode cX7_reachOf 64 = .ok (.isub, 1) := by decide +kernel
theorem dX7_reachOf_65 : decode cX7_reachOf 65 = .ok (.iconst 0, 1) := by decide +kernel
theorem dX7_reachOf_66 : decode cX7_reachOf 66 = .ok (.bipush 99, 2) := by decide +kernel
theorem dX7_reachOf_68 : decode cX7_reachOf 68 = .ok (.invokestatic 95, 3) := by decide +kernel
theorem dX7_reachOf_71 : decode cX7_reachOf 71 = .ok (.ireturn, 1) := by decide +kernel
theorem dX7_reachOf_72 : decode cX7_reachOf 72 = .ok (.iload_n 2, 1) := by decide +kernel
theorem dX7_reachOf_73 : decode cX7_reachOf 73 = .ok (.iconst 1, 1) := by decide +kernel
theorem dX7_reachOf_74 : decode cX7_reachOf 74 = .ok (.iadd, 1) := by decide +kernel
theorem dX7_reachOf_75 : decode cX7_reachOf 75 = .ok (.iconst 2, 1) := by decide +kernel
theorem dX7_reachOf_76 : decode cX7_reachOf 76 = .ok (.idiv, 1) := by decide +kernel
theorem dX7_reachOf_77 : decode cX7_reachOf 77 = .ok (.ireturn, 1) := by decide +kernel
theorem dX7_reachOf_78 : decode cX7_reachOf 78 = .ok (.aload_n 0, 1) := by decide +kernel
theorem dX7_reachOf_79 : decode cX7_reachOf 79 = .ok (.iload_n 1, 1) := by decide +kernel
theorem dX7_reachOf_80 : decode cX7_reachOf 80 = .ok (.invokevirtual 99, 3) := by decide +kernel
theorem dX7_reachOf_83 : decode cX7_reachOf 83 = .ok (.iconst 2, 1) := by decide +kernel
theorem dX7_reachOf_84 : decode cX7_reachOf 84 = .ok (.irem, 1) := by decide +kernel
theorem dX7_reachOf_85 : decode cX7_reachOf 85 = .ok (.ifCond .ne 7, 3) := by decide +kernel
theorem dX7_reachOf_88 : decode cX7_reachOf 88 = .ok (.iload_n 2, 1) := by decide +kernel
theorem dX7_reachOf_89 : decode cX7_reachOf 89 = .ok (.goto 9, 3) := by decide +kernel
theorem dX7_reachOf_92 : decode cX7_reachOf 92 = .ok (.aload_n 0, 1) := by decide +kernel
theorem dX7_reachOf_93 : decode cX7_reachOf 93 = .ok (.getfield 9, 3) := by decide +kernel
theorem dX7_reachOf_96 : decode cX7_reachOf 96 = .ok (.iconst 4, 1) := by decide +kernel
theorem dX7_reachOf_97 : decode cX7_reachOf 97 = .ok (.iaload, 1) := by decide +kernel
theorem dX7_reachOf_98 : decode cX7_reachOf 98 = .ok (.ireturn, 1) := by decide +kernel
theorem dX7_reachOf_99 : decode cX7_reachOf 99 = .ok (.iload_n 2, 1) := by decide +kernel
theorem dX7_reachOf_100 : decode cX7_reachOf 100 = .ok (.ireturn, 1) := by decide +kernel
theorem dX7_wayOf_0 : decode cX7_wayOf 0 = .ok (.aload_n 0, 1) := by decide +kernel
theorem dX7_wayOf_1 : decode cX7_wayOf 1 = .ok (.iload_n 1, 1) := by decide +kernel
theorem dX7_wayOf_2 : decode cX7_wayOf 2 = .ok (.invokevirtual 92, 3) := by decide +kernel
theorem dX7_wayOf_5 : decode cX7_wayOf 5 = .ok (.istore_n 2, 1) := by decide +kernel
theorem dX7_wayOf_6 : decode cX7_wayOf 6 = .ok (.iload_n 2, 1) := by decide +kernel
theorem dX7_wayOf_7 : decode cX7_wayOf 7 = .ok (.iconst 2, 1) := by decide +kernel
theorem dX7_wayOf_8 : decode cX7_wayOf 8 = .ok (.if_icmp .eq 18, 3) := by decide +kernel
theorem dX7_wayOf_11 : decode cX7_wayOf 11 = .ok (.iload_n 2, 1) := by decide +kernel
theorem dX7_wayOf_12 : decode cX7_wayOf 12 = .ok (.iconst 4, 1) := by decide +kernel
theorem dX7_wayOf_13 : decode cX7_wayOf 13 = .ok (.if_icmp .eq 13, 3) := by decide +kernel
theorem dX7_wayOf_16 : decode cX7_wayOf 16 = .ok (.aload_n 0, 1) := by decide +kernel
theorem dX7_wayOf_17 : decode cX7_wayOf 17 = .ok (.iload_n 1, 1) := by decide +kernel
theorem dX7_wayOf_18 : decode cX7_wayOf 18 = .ok (.invokevirtual 99, 3) := by decide +kernel
theorem dX7_wayOf_21 : decode cX7_wayOf 21 = .ok (.iconst 2, 1) := by decide +kernel
theorem dX7_wayOf_22 : decode cX7_wayOf 22 = .ok (.irem, 1) := by decide +kernel
theorem dX7_wayOf_23 : decode cX7_wayOf 23 = .ok (.ifCond .ne 7, 3) := by decide +kernel
theorem dX7_wayOf_26 : decode cX7_wayOf 26 = .ok (.iconst 1, 1) := by decide +kernel
theorem dX7_wayOf_27 : decode cX7_wayOf 27 = .ok (.goto 4, 3) := by decide +kernel
theorem dX7_wayOf_30 : decode cX7_wayOf 30 = .ok (.iconst (-1), 1) := by decide +kernel
theorem dX7_wayOf_31 : decode cX7_wayOf 31 = .ok (.ireturn, 1) := by decide +kernel
theorem dX7_liftOf_0 : decode cX7_liftOf 0 = .ok (.aload_n 0, 1) := by decide +kernel
theorem dX7_liftOf_1 : decode cX7_liftOf 1 = .ok (.iload_n 1, 1) := by decide +kernel
theorem dX7_liftOf_2 : decode cX7_liftOf 2 = .ok (.iload_n 2, 1) := by decide +kernel
theorem dX7_liftOf_3 : decode cX7_liftOf 3 = .ok (.invokevirtual 102, 3) := by decide +kernel
theorem dX7_liftOf_6 : decode cX7_liftOf 6 = .ok (.istore 4, 2) := by decide +kernel
theorem dX7_liftOf_8 : decode cX7_liftOf 8 = .ok (.aload_n 0, 1) := by decide +kernel
theorem dX7_liftOf_9 : decode cX7_liftOf 9 = .ok (.iconst 0, 1) := by decide +kernel
theorem dX7_liftOf_10 : decode cX7_liftOf 10 = .ok (.invokevirtual 105, 3) := by decide +kernel
theorem dX7_liftOf_13 : decode cX7_liftOf 13 = .ok (.istore 5, 2) := by decide +kernel
theorem dX7_liftOf_15 : decode cX7_liftOf 15 = .ok (.aload_n 0, 1) := by decide +kernel
theorem dX7_liftOf_16 : decode cX7_liftOf 16 = .ok (.getfield 48, 3) := by decide +kernel
theorem dX7_liftOf_19 : decode cX7_liftOf 19 = .ok (.iconst 0, 1) := by decide +kernel
theorem dX7_liftOf_20 : decode cX7_liftOf 20 = .ok (.iload 4, 2) := by decide +kernel
theorem dX7_liftOf_22 : decode cX7_liftOf 22 = .ok (.iastore, 1) := by decide +kernel
theorem dX7_liftOf_23 : decode cX7_liftOf 23 = .ok (.aload_n 0, 1) := by decide +kernel
theorem dX7_liftOf_24 : decode cX7_liftOf 24 = .ok (.getfield 48, 3) := by decide +kernel
theorem dX7_liftOf_27 : decode cX7_liftOf 27 = .ok (.iconst 1, 1) := by decide +kernel
theorem dX7_liftOf_28 : decode cX7_liftOf 28 = .ok (.iload 4, 2) := by decide +kernel
theorem dX7_liftOf_30 : decode cX7_liftOf 30 = .ok (.aload_n 0, 1) := by decide +kernel
theorem dX7_liftOf_31 : decode cX7_liftOf 31 = .ok (.iload_n 1, 1) := by decide +kernel
theorem dX7_liftOf_32 : decode cX7_liftOf 32 = .ok (.iload_n 2, 1) := by decide +kernel
theorem dX7_liftOf_33 : decode cX7_liftOf 33 = .ok (.iload_n 3, 1) := by decide +kernel
theorem dX7_liftOf_34 : decode cX7_liftOf 34 = .ok (.iadd, 1) := by decide +kernel
theorem dX7_liftOf_35 : decode cX7_liftOf 35 = .ok (.invokevirtual 102, 3) := by decide +kernel
theorem dX7_liftOf_38 : decode cX7_liftOf 38 = .ok (.isub, 1) := by decide +kernel
theorem dX7_liftOf_39 : decode cX7_liftOf 39 = .ok (.iastore, 1) := by decide +kernel
theorem dX7_liftOf_40 : decode cX7_liftOf 40 = .ok (.aload_n 0, 1) := by decide +kernel
theorem dX7_liftOf_41 : decode cX7_liftOf 41 = .ok (.getfield 48, 3) := by decide +kernel
theorem dX7_liftOf_44 : decode cX7_liftOf 44 = .ok (.iconst 2, 1) := by decide +kernel
theorem dX7_liftOf_45 : decode cX7_liftOf 45 = .ok (.aload_n 0, 1) := by decide +kernel
theorem dX7_liftOf_46 : decode cX7_liftOf 46 = .ok (.getfield 9, 3) := by decide +kernel
theorem dX7_liftOf_49 : decode cX7_liftOf 49 = .ok (.iconst 3, 1) := by decide +kernel
theorem dX7_liftOf_50 : decode cX7_liftOf 50 = .ok (.iaload, 1) := by decide +kernel
theorem dX7_liftOf_51 : decode cX7_liftOf 51 = .ok (.iastore, 1) := by decide +kernel
theorem dX7_liftOf_52 : decode cX7_liftOf 52 = .ok (.iload 5, 2) := by decide +kernel
theorem dX7_liftOf_54 : decode cX7_liftOf 54 = .ok (.ifCond .ge 12, 3) := by decide +kernel
theorem dX7_liftOf_57 : decode cX7_liftOf 57 = .ok (.aload_n 0, 1) := by decide +kernel
theorem dX7_liftOf_58 : decode cX7_liftOf 58 = .ok (.getfield 9, 3) := by decide +kernel
theorem dX7_liftOf_61 : decode cX7_liftOf 61 = .ok (.iconst 3, 1) := by decide +kernel
theorem dX7_liftOf_62 : decode cX7_liftOf 62 = .ok (.iaload, 1) := by decide +kernel
theorem dX7_liftOf_63 : decode cX7_liftOf 63 = .ok (.goto 9, 3) := by decide +kernel
theorem dX7_liftOf_66 : decode cX7_liftOf 66 = .ok (.aload_n 0, 1) := by decide +kernel
theorem dX7_liftOf_67 : decode cX7_liftOf 67 = .ok (.iload 5, 2) := by decide +kernel
theorem dX7_liftOf_69 : decode cX7_liftOf 69 = .ok (.invokevirtual 108, 3) := by decide +kernel
theorem dX7_liftOf_72 : decode cX7_liftOf 72 = .ok (.iconst 0, 1) := by decide +kernel
theorem dX7_liftOf_73 : decode cX7_liftOf 73 = .ok (.iload 4, 2) := by decide +kernel
theorem dX7_liftOf_75 : decode cX7_liftOf 75 = .ok (.invokestatic 95, 3) := by decide +kernel
theorem dX7_liftOf_78 : decode cX7_liftOf 78 = .ok (.istore 6, 2) := by decide +kernel
theorem dX7_liftOf_80 : decode cX7_liftOf 80 = .ok (.aload_n 0, 1) := by decide +kernel
theorem dX7_liftOf_81 : decode cX7_liftOf 81 = .ok (.iload_n 1, 1) := by decide +kernel
theorem dX7_liftOf_82 : decode cX7_liftOf 82 = .ok (.invokevirtual 92, 3) := by decide +kernel
theorem dX7_liftOf_85 : decode cX7_liftOf 85 = .ok (.iconst 3, 1) := by decide +kernel
theorem dX7_liftOf_86 : decode cX7_liftOf 86 = .ok (.if_icmp .ne 10, 3) := by decide +kernel
theorem dX7_liftOf_89 : decode cX7_liftOf 89 = .ok (.iload 6, 2) := by decide +kernel
theorem dX7_liftOf_91 : decode cX7_liftOf 91 = .ok (.iconst 2, 1) := by decide +kernel
theorem dX7_liftOf_92 : decode cX7_liftOf 92 = .ok (.idiv, 1) := by decide +kernel
theorem dX7_liftOf_93 : decode cX7_liftOf 93 = .ok (.goto 27, 3) := by decide +kernel
theorem dX7_liftOf_96 : decode cX7_liftOf 96 = .ok (.aload_n 0, 1) := by decide +kernel
theorem dX7_liftOf_97 : decode cX7_liftOf 97 = .ok (.iload_n 1, 1) := by decide +kernel
theorem dX7_liftOf_98 : decode cX7_liftOf 98 = .ok (.invokevirtual 92, 3) := by decide +kernel
theorem dX7_liftOf_101 : decode cX7_liftOf 101 = .ok (.iconst 4, 1) := by decide +kernel
theorem dX7_liftOf_102 : decode cX7_liftOf 102 = .ok (.if_icmp .ne 16, 3) := by decide +kernel
theorem dX7_liftOf_105 : decode cX7_liftOf 105 = .ok (.iload 6, 2) := by decide +kernel
theorem dX7_liftOf_107 : decode cX7_liftOf 107 = .ok (.iconst 1, 1) := by decide +kernel
theorem dX7_liftOf_108 : decode cX7_liftOf 108 = .ok (.isub, 1) := by decide +kernel
theorem dX7_liftOf_109 : decode cX7_liftOf 109 = .ok (.iconst 0, 1) := by decide +kernel
theorem dX7_liftOf_110 : decode cX7_liftOf 110 = .ok (.iload 4, 2) := by decide +kernel
theorem dX7_liftOf_112 : decode cX7_liftOf 112 = .ok (.invokestatic 95, 3) := by decide +kernel
theorem dX7_liftOf_115 : decode cX7_liftOf 115 = .ok (.goto 5, 3) := by decide +kernel
theorem dX7_liftOf_118 : decode cX7_liftOf 118 = .ok (.iload 6, 2) := by decide +kernel
theorem dX7_liftOf_120 : decode cX7_liftOf 120 = .ok (.ireturn, 1) := by decide +kernel
theorem dX7_isCrest_0 : decode cX7_isCrest 0 = .ok (.aload_n 0, 1) := by decide +kernel
theorem dX7_isCrest_1 : decode cX7_isCrest 1 = .ok (.iload_n 1, 1) := by decide +kernel
theorem dX7_isCrest_2 : decode cX7_isCrest 2 = .ok (.iload_n 2, 1) := by decide +kernel
theorem dX7_isCrest_3 : decode cX7_isCrest 3 = .ok (.invokevirtual 102, 3) := by decide +kernel
theorem dX7_isCrest_6 : decode cX7_isCrest 6 = .ok (.aload_n 0, 1) := by decide +kernel
theorem dX7_isCrest_7 : decode cX7_isCrest 7 = .ok (.iload_n 1, 1) := by decide +kernel
theorem dX7_isCrest_8 : decode cX7_isCrest 8 = .ok (.iload_n 2, 1) := by decide +kernel
theorem dX7_isCrest_9 : decode cX7_isCrest 9 = .ok (.iconst 1, 1) := by decide +kernel
theorem dX7_isCrest_10 : decode cX7_isCrest 10 = .ok (.isub, 1) := by decide +kernel
theorem dX7_isCrest_11 : decode cX7_isCrest 11 = .ok (.invokevirtual 102, 3) := by decide +kernel
theorem dX7_isCrest_14 : decode cX7_isCrest 14 = .ok (.if_icmp .le 24, 3) := by decide +kernel
theorem dX7_isCrest_17 : decode cX7_isCrest 17 = .ok (.aload_n 0, 1) := by decide +kernel
theorem dX7_isCrest_18 : decode cX7_isCrest 18 = .ok (.iload_n 1, 1) := by decide +kernel
theorem dX7_isCrest_19 : decode cX7_isCrest 19 = .ok (.iload_n 2, 1) := by decide +kernel
theorem dX7_isCrest_20 : decode cX7_isCrest 20 = .ok (.invokevirtual 102, 3) := by decide +kernel
theorem dX7_isCrest_23 : decode cX7_isCrest 23 = .ok (.aload_n 0, 1) := by decide +kernel
theorem dX7_isCrest_24 : decode cX7_isCrest 24 = .ok (.iload_n 1, 1) := by decide +kernel
theorem dX7_isCrest_25 : decode cX7_isCrest 25 = .ok (.iload_n 2, 1) := by decide +kernel
theorem dX7_isCrest_26 : decode cX7_isCrest 26 = .ok (.iconst 1, 1) := by decide +kernel
theorem dX7_isCrest_27 : decode cX7_isCrest 27 = .ok (.iadd, 1) := by decide +kernel
theorem dX7_isCrest_28 : decode cX7_isCrest 28 = .ok (.invokevirtual 102, 3) := by decide +kernel
theorem dX7_isCrest_31 : decode cX7_isCrest 31 = .ok (.if_icmp .lt 7, 3) := by decide +kernel
theorem dX7_isCrest_34 : decode cX7_isCrest 34 = .ok (.iconst 1, 1) := by decide +kernel
theorem dX7_isCrest_35 : decode cX7_isCrest 35 = .ok (.goto 4, 3) := by decide +kernel
theorem dX7_isCrest_38 : decode cX7_isCrest 38 = .ok (.iconst 0, 1) := by decide +kernel
theorem dX7_isCrest_39 : decode cX7_isCrest 39 = .ok (.ireturn, 1) := by decide +kernel
theorem dX7_crestsOf_0 : decode cX7_crestsOf 0 = .ok (.iconst 0, 1) := by decide +kernel
theorem dX7_crestsOf_1 : decode cX7_crestsOf 1 = .ok (.istore_n 2, 1) := by decide +kernel
theorem dX7_crestsOf_2 : decode cX7_crestsOf 2 = .ok (.iconst 0, 1) := by decide +kernel
theorem dX7_crestsOf_3 : decode cX7_crestsOf 3 = .ok (.istore_n 3, 1) := by decide +kernel
theorem dX7_crestsOf_4 : decode cX7_crestsOf 4 = .ok (.iload_n 3, 1) := by decide +kernel
theorem dX7_crestsOf_5 : decode cX7_crestsOf 5 = .ok (.bipush 24, 2) := by decide +kernel
theorem dX7_crestsOf_7 : decode cX7_crestsOf 7 = .ok (.if_icmp .ge 26, 3) := by decide +kernel
theorem dX7_crestsOf_10 : decode cX7_crestsOf 10 = .ok (.iload_n 2, 1) := by decide +kernel
theorem dX7_crestsOf_11 : decode cX7_crestsOf 11 = .ok (.aload_n 0, 1) := by decide +kernel
theorem dX7_crestsOf_12 : decode cX7_crestsOf 12 = .ok (.iload_n 1, 1) := by decide +kernel
theorem dX7_crestsOf_13 : decode cX7_crestsOf 13 = .ok (.iload_n 3, 1) := by decide +kernel
theorem dX7_crestsOf_14 : decode cX7_crestsOf 14 = .ok (.invokevirtual 111, 3) := by decide +kernel
theorem dX7_crestsOf_17 : decode cX7_crestsOf 17 = .ok (.ifCond .eq 7, 3) := by decide +kernel
theorem dX7_crestsOf_20 : decode cX7_crestsOf 20 = .ok (.iconst 1, 1) := by decide +kernel
theorem dX7_crestsOf_21 : decode cX7_crestsOf 21 = .ok (.goto 4, 3) := by decide +kernel
theorem dX7_crestsOf_24 : decode cX7_crestsOf 24 = .ok (.iconst 0, 1) := by decide +kernel
theorem dX7_crestsOf_25 : decode cX7_crestsOf 25 = .ok (.iadd, 1) := by decide +kernel
theorem dX7_crestsOf_26 : decode cX7_crestsOf 26 = .ok (.istore_n 2, 1) := by decide +kernel
theorem dX7_crestsOf_27 : decode cX7_crestsOf 27 = .ok (.iinc 3 1, 3) := by decide +kernel
theorem dX7_crestsOf_30 : decode cX7_crestsOf 30 = .ok (.goto (-26), 3) := by decide +kernel
theorem dX7_crestsOf_33 : decode cX7_crestsOf 33 = .ok (.iload_n 2, 1) := by decide +kernel
theorem dX7_crestsOf_34 : decode cX7_crestsOf 34 = .ok (.ireturn, 1) := by decide +kernel
theorem dX7_leanOf_0 : decode cX7_leanOf 0 = .ok (.iconst 0, 1) := by decide +kernel
theorem dX7_leanOf_1 : decode cX7_leanOf 1 = .ok (.istore_n 2, 1) := by decide +kernel
theorem dX7_leanOf_2 : decode cX7_leanOf 2 = .ok (.iconst 0, 1) := by decide +kernel
theorem dX7_leanOf_3 : decode cX7_leanOf 3 = .ok (.istore_n 3, 1) := by decide +kernel
theorem dX7_leanOf_4 : decode cX7_leanOf 4 = .ok (.iload_n 3, 1) := by decide +kernel
theorem dX7_leanOf_5 : decode cX7_leanOf 5 = .ok (.bipush 24, 2) := by decide +kernel
theorem dX7_leanOf_7 : decode cX7_leanOf 7 = .ok (.if_icmp .ge 48, 3) := by decide +kernel
theorem dX7_leanOf_10 : decode cX7_leanOf 10 = .ok (.aload_n 0, 1) := by decide +kernel
theorem dX7_leanOf_11 : decode cX7_leanOf 11 = .ok (.iload_n 1, 1) := by decide +kernel
theorem dX7_leanOf_12 : decode cX7_leanOf 12 = .ok (.iload_n 3, 1) := by decide +kernel
theorem dX7_leanOf_13 : decode cX7_leanOf 13 = .ok (.iconst 1, 1) := by decide +kernel
theorem dX7_leanOf_14 : decode cX7_leanOf 14 = .ok (.iadd, 1) := by decide +kernel
theorem dX7_leanOf_15 : decode cX7_leanOf 15 = .ok (.invokevirtual 102, 3) := by decide +kernel
theorem dX7_leanOf_18 : decode cX7_leanOf 18 = .ok (.aload_n 0, 1) := by decide +kernel
theorem dX7_leanOf_19 : decode cX7_leanOf 19 = .ok (.iload_n 1, 1) := by decide +kernel
theorem dX7_leanOf_20 : decode cX7_leanOf 20 = .ok (.iload_n 3, 1) := by decide +kernel
theorem dX7_leanOf_21 : decode cX7_leanOf 21 = .ok (.invokevirtual 102, 3) := by decide +kernel
theorem dX7_leanOf_24 : decode cX7_leanOf 24 = .ok (.isub, 1) := by decide +kernel
theorem dX7_leanOf_25 : decode cX7_leanOf 25 = .ok (.istore 4, 2) := by decide +kernel
theorem dX7_leanOf_27 : decode cX7_leanOf 27 = .ok (.iload_n 2, 1) := by decide +kernel
theorem dX7_leanOf_28 : decode cX7_leanOf 28 = .ok (.iload 4, 2) := by decide +kernel
theorem dX7_leanOf_30 : decode cX7_leanOf 30 = .ok (.ifCond .le 7, 3) := by decide +kernel
theorem dX7_leanOf_33 : decode cX7_leanOf 33 = .ok (.iconst 1, 1) := by decide +kernel
theorem dX7_leanOf_34 : decode cX7_leanOf 34 = .ok (.goto 13, 3) := by decide +kernel
theorem dX7_leanOf_37 : decode cX7_leanOf 37 = .ok (.iload 4, 2) := by decide +kernel
theorem dX7_leanOf_39 : decode cX7_leanOf 39 = .ok (.ifCond .ge 7, 3) := by decide +kernel
theorem dX7_leanOf_42 : decode cX7_leanOf 42 = .ok (.iconst (-1), 1) := by decide +kernel
theorem dX7_leanOf_43 : decode cX7_leanOf 43 = .ok (.goto 4, 3) := by decide +kernel
theorem dX7_leanOf_46 : decode cX7_leanOf 46 = .ok (.iconst 0, 1) := by decide +kernel
theorem dX7_leanOf_47 : decode cX7_leanOf 47 = .ok (.iadd, 1) := by decide +kernel
theorem dX7_leanOf_48 : decode cX7_leanOf 48 = .ok (.istore_n 2, 1) := by decide +kernel
theorem dX7_leanOf_49 : decode cX7_leanOf 49 = .ok (.iinc 3 1, 3) := by decide +kernel
theorem dX7_leanOf_52 : decode cX7_leanOf 52 = .ok (.goto (-48), 3) := by decide +kernel
theorem dX7_leanOf_55 : decode cX7_leanOf 55 = .ok (.iload_n 2, 1) := by decide +kernel
theorem dX7_leanOf_56 : decode cX7_leanOf 56 = .ok (.ireturn, 1) := by decide +kernel
theorem dX7_sumOf_0 : decode cX7_sumOf 0 = .ok (.iconst 0, 1) := by decide +kernel
theorem dX7_sumOf_1 : decode cX7_sumOf 1 = .ok (.istore_n 2, 1) := by decide +kernel
theorem dX7_sumOf_2 : decode cX7_sumOf 2 = .ok (.iconst 0, 1) := by decide +kernel
theorem dX7_sumOf_3 : decode cX7_sumOf 3 = .ok (.istore_n 3, 1) := by decide +kernel
theorem dX7_sumOf_4 : decode cX7_sumOf 4 = .ok (.iload_n 3, 1) := by decide +kernel
theorem dX7_sumOf_5 : decode cX7_sumOf 5 = .ok (.bipush 24, 2) := by decide +kernel
theorem dX7_sumOf_7 : decode cX7_sumOf 7 = .ok (.if_icmp .ge 18, 3) := by decide +kernel
theorem dX7_sumOf_10 : decode cX7_sumOf 10 = .ok (.iload_n 2, 1) := by decide +kernel
theorem dX7_sumOf_11 : decode cX7_sumOf 11 = .ok (.aload_n 0, 1) := by decide +kernel
theorem dX7_sumOf_12 : decode cX7_sumOf 12 = .ok (.iload_n 1, 1) := by decide +kernel
theorem dX7_sumOf_13 : decode cX7_sumOf 13 = .ok (.iload_n 3, 1) := by decide +kernel
theorem dX7_sumOf_14 : decode cX7_sumOf 14 = .ok (.invokevirtual 102, 3) := by decide +kernel
theorem dX7_sumOf_17 : decode cX7_sumOf 17 = .ok (.iadd, 1) := by decide +kernel
theorem dX7_sumOf_18 : decode cX7_sumOf 18 = .ok (.istore_n 2, 1) := by decide +kernel
theorem dX7_sumOf_19 : decode cX7_sumOf 19 = .ok (.iinc 3 1, 3) := by decide +kernel
theorem dX7_sumOf_22 : decode cX7_sumOf 22 = .ok (.goto (-18), 3) := by decide +kernel
theorem dX7_sumOf_25 : decode cX7_sumOf 25 = .ok (.iload_n 2, 1) := by decide +kernel
theorem dX7_sumOf_26 : decode cX7_sumOf 26 = .ok (.ireturn, 1) := by decide +kernel
theorem dX7_extremeOf_0 : decode cX7_extremeOf 0 = .ok (.aload_n 0, 1) := by decide +kernel
theorem dX7_extremeOf_1 : decode cX7_extremeOf 1 = .ok (.iload_n 1, 1) := by decide +kernel
theorem dX7_extremeOf_2 : decode cX7_extremeOf 2 = .ok (.iconst 0, 1) := by decide +kernel
theorem dX7_extremeOf_3 : decode cX7_extremeOf 3 = .ok (.invokevirtual 102, 3) := by decide +kernel
theorem dX7_extremeOf_6 : decode cX7_extremeOf 6 = .ok (.istore_n 3, 1) := by decide +kernel
theorem dX7_extremeOf_7 : decode cX7_extremeOf 7 = .ok (.iconst 1, 1) := by decide +kernel
theorem dX7_extremeOf_8 : decode cX7_extremeOf 8 = .ok (.istore 4, 2) := by decide +kernel
theorem dX7_extremeOf_10 : decode cX7_extremeOf 10 = .ok (.iload 4, 2) := by decide +kernel
theorem dX7_extremeOf_12 : decode cX7_extremeOf 12 = .ok (.bipush 24, 2) := by decide +kernel
theorem dX7_extremeOf_14 : decode cX7_extremeOf 14 = .ok (.if_icmp .ge 50, 3) := by decide +kernel
theorem dX7_extremeOf_17 : decode cX7_extremeOf 17 = .ok (.aload_n 0, 1) := by decide +kernel
theorem dX7_extremeOf_18 : decode cX7_extremeOf 18 = .ok (.iload_n 1, 1) := by decide +kernel
theorem dX7_extremeOf_19 : decode cX7_extremeOf 19 = .ok (.iload 4, 2) := by decide +kernel
theorem dX7_extremeOf_21 : decode cX7_extremeOf 21 = .ok (.invokevirtual 102, 3) := by decide +kernel
theorem dX7_extremeOf_24 : decode cX7_extremeOf 24 = .ok (.istore 5, 2) := by decide +kernel
theorem dX7_extremeOf_26 : decode cX7_extremeOf 26 = .ok (.iload_n 2, 1) := by decide +kernel
theorem dX7_extremeOf_27 : decode cX7_extremeOf 27 = .ok (.ifCond .eq 18, 3) := by decide +kernel
theorem dX7_extremeOf_30 : decode cX7_extremeOf 30 = .ok (.iload 5, 2) := by decide +kernel
theorem dX7_extremeOf_32 : decode cX7_extremeOf 32 = .ok (.iload_n 3, 1) := by decide +kernel
theorem dX7_extremeOf_33 : decode cX7_extremeOf 33 = .ok (.if_icmp .le 8, 3) := by decide +kernel
theorem dX7_extremeOf_36 : decode cX7_extremeOf 36 = .ok (.iload 5, 2) := by decide +kernel
theorem dX7_extremeOf_38 : decode cX7_extremeOf 38 = .ok (.goto 19, 3) := by decide +kernel
theorem dX7_extremeOf_41 : decode cX7_extremeOf 41 = .ok (.iload_n 3, 1) := by decide +kernel
theorem dX7_extremeOf_42 : decode cX7_extremeOf 42 = .ok (.goto 15, 3) := by decide +kernel
theorem dX7_extremeOf_45 : decode cX7_extremeOf 45 = .ok (.iload 5, 2) := by decide +kernel
theorem dX7_extremeOf_47 : decode cX7_extremeOf 47 = .ok (.iload_n 3, 1) := by decide +kernel
theorem dX7_extremeOf_48 : decode cX7_extremeOf 48 = .ok (.if_icmp .ge 8, 3) := by decide +kernel
theorem dX7_extremeOf_51 : decode cX7_extremeOf 51 = .ok (.iload 5, 2) := by decide +kernel
theorem dX7_extremeOf_53 : decode cX7_extremeOf 53 = .ok (.goto 4, 3) := by decide +kernel
theorem dX7_extremeOf_56 : decode cX7_extremeOf 56 = .ok (.iload_n 3, 1) := by decide +kernel
theorem dX7_extremeOf_57 : decode cX7_extremeOf 57 = .ok (.istore_n 3, 1) := by decide +kernel
theorem dX7_extremeOf_58 : decode cX7_extremeOf 58 = .ok (.iinc 4 1, 3) := by decide +kernel
theorem dX7_extremeOf_61 : decode cX7_extremeOf 61 = .ok (.goto (-51), 3) := by decide +kernel
theorem dX7_extremeOf_64 : decode cX7_extremeOf 64 = .ok (.iload_n 3, 1) := by decide +kernel
theorem dX7_extremeOf_65 : decode cX7_extremeOf 65 = .ok (.ireturn, 1) := by decide +kernel
theorem dX7_worthOf_0 : decode cX7_worthOf 0 = .ok (.aload_n 0, 1) := by decide +kernel
theorem dX7_worthOf_1 : decode cX7_worthOf 1 = .ok (.iload_n 1, 1) := by decide +kernel
theorem dX7_worthOf_2 : decode cX7_worthOf 2 = .ok (.iconst 1, 1) := by decide +kernel
theorem dX7_worthOf_3 : decode cX7_worthOf 3 = .ok (.invokevirtual 115, 3) := by decide +kernel
theorem dX7_worthOf_6 : decode cX7_worthOf 6 = .ok (.aload_n 0, 1) := by decide +kernel
theorem dX7_worthOf_7 : decode cX7_worthOf 7 = .ok (.iload_n 1, 1) := by decide +kernel
theorem dX7_worthOf_8 : decode cX7_worthOf 8 = .ok (.iconst 0, 1) := by decide +kernel
theorem dX7_worthOf_9 : decode cX7_worthOf 9 = .ok (.invokevirtual 115, 3) := by decide +kernel
theorem dX7_worthOf_12 : decode cX7_worthOf 12 = .ok (.isub, 1) := by decide +kernel
theorem dX7_worthOf_13 : decode cX7_worthOf 13 = .ok (.istore_n 2, 1) := by decide +kernel
theorem dX7_worthOf_14 : decode cX7_worthOf 14 = .ok (.aload_n 0, 1) := by decide +kernel
theorem dX7_worthOf_15 : decode cX7_worthOf 15 = .ok (.iload_n 1, 1) := by decide +kernel
theorem dX7_worthOf_16 : decode cX7_worthOf 16 = .ok (.invokevirtual 92, 3) := by decide +kernel
theorem dX7_worthOf_19 : decode cX7_worthOf 19 = .ok (.tableswitch 75 1 5 #[33, 41, 47, 57, 66], 33) := by decide +kernel
theorem dX7_worthOf_52 : decode cX7_worthOf 52 = .ok (.iload_n 2, 1) := by decide +kernel
theorem dX7_worthOf_53 : decode cX7_worthOf 53 = .ok (.aload_n 0, 1) := by decide +kernel
theorem dX7_worthOf_54 : decode cX7_worthOf 54 = .ok (.iload_n 1, 1) := by decide +kernel
theorem dX7_worthOf_55 : decode cX7_worthOf 55 = .ok (.invokevirtual 119, 3) := by decide +kernel
theorem dX7_worthOf_58 : decode cX7_worthOf 58 = .ok (.iadd, 1) := by decide +kernel
theorem dX7_worthOf_59 : decode cX7_worthOf 59 = .ok (.ireturn, 1) := by decide +kernel
theorem dX7_worthOf_60 : decode cX7_worthOf 60 = .ok (.aload_n 0, 1) := by decide +kernel
theorem dX7_worthOf_61 : decode cX7_worthOf 61 = .ok (.iload_n 1, 1) := by decide +kernel
theorem dX7_worthOf_62 : decode cX7_worthOf 62 = .ok (.invokevirtual 122, 3) := by decide +kernel
theorem dX7_worthOf_65 : decode cX7_worthOf 65 = .ok (.ireturn, 1) := by decide +kernel
theorem dX7_worthOf_66 : decode cX7_worthOf 66 = .ok (.iconst 2, 1) := by decide +kernel
theorem dX7_worthOf_67 : decode cX7_worthOf 67 = .ok (.iload_n 2, 1) := by decide +kernel
theorem dX7_worthOf_68 : decode cX7_worthOf 68 = .ok (.aload_n 0, 1) := by decide +kernel
theorem dX7_worthOf_69 : decode cX7_worthOf 69 = .ok (.iload_n 1, 1) := by decide +kernel
theorem dX7_worthOf_70 : decode cX7_worthOf 70 = .ok (.invokevirtual 119, 3) := by decide +kernel
theorem dX7_worthOf_73 : decode cX7_worthOf 73 = .ok (.iadd, 1) := by decide +kernel
theorem dX7_worthOf_74 : decode cX7_worthOf 74 = .ok (.imul, 1) := by decide +kernel
theorem dX7_worthOf_75 : decode cX7_worthOf 75 = .ok (.ireturn, 1) := by decide +kernel
theorem dX7_worthOf_76 : decode cX7_worthOf 76 = .ok (.aload_n 0, 1) := by decide +kernel
theorem dX7_worthOf_77 : decode cX7_worthOf 77 = .ok (.iload_n 1, 1) := by decide +kernel
theorem dX7_worthOf_78 : decode cX7_worthOf 78 = .ok (.invokevirtual 122, 3) := by decide +kernel
theorem dX7_worthOf_81 : decode cX7_worthOf 81 = .ok (.bipush 10, 2) := by decide +kernel
theorem dX7_worthOf_83 : decode cX7_worthOf 83 = .ok (.iadd, 1) := by decide +kernel
theorem dX7_worthOf_84 : decode cX7_worthOf 84 = .ok (.ireturn, 1) := by decide +kernel
theorem dX7_worthOf_85 : decode cX7_worthOf 85 = .ok (.aload_n 0, 1) := by decide +kernel
theorem dX7_worthOf_86 : decode cX7_worthOf 86 = .ok (.iload_n 1, 1) := by decide +kernel
theorem dX7_worthOf_87 : decode cX7_worthOf 87 = .ok (.invokevirtual 125, 3) := by decide +kernel
theorem dX7_worthOf_90 : decode cX7_worthOf 90 = .ok (.bipush 24, 2) := by decide +kernel
theorem dX7_worthOf_92 : decode cX7_worthOf 92 = .ok (.idiv, 1) := by decide +kernel
theorem dX7_worthOf_93 : decode cX7_worthOf 93 = .ok (.ireturn, 1) := by decide +kernel
theorem dX7_worthOf_94 : decode cX7_worthOf 94 = .ok (.iload_n 2, 1) := by decide +kernel
theorem dX7_worthOf_95 : decode cX7_worthOf 95 = .ok (.ireturn, 1) := by decide +kernel
theorem dX7_marksOf_0 : decode cX7_marksOf 0 = .ok (.aload_n 0, 1) := by decide +kernel
theorem dX7_marksOf_1 : decode cX7_marksOf 1 = .ok (.iconst 2, 1) := by decide +kernel
theorem dX7_marksOf_2 : decode cX7_marksOf 2 = .ok (.invokevirtual 105, 3) := by decide +kernel
theorem dX7_marksOf_5 : decode cX7_marksOf 5 = .ok (.istore_n 2, 1) := by decide +kernel
theorem dX7_marksOf_6 : decode cX7_marksOf 6 = .ok (.iconst 0, 1) := by decide +kernel
theorem dX7_marksOf_7 : decode cX7_marksOf 7 = .ok (.istore_n 3, 1) := by decide +kernel
theorem dX7_marksOf_8 : decode cX7_marksOf 8 = .ok (.iconst 0, 1) := by decide +kernel
theorem dX7_marksOf_9 : decode cX7_marksOf 9 = .ok (.istore 4, 2) := by decide +kernel
theorem dX7_marksOf_11 : decode cX7_marksOf 11 = .ok (.iload 4, 2) := by decide +kernel
theorem dX7_marksOf_13 : decode cX7_marksOf 13 = .ok (.bipush 24, 2) := by decide +kernel
theorem dX7_marksOf_15 : decode cX7_marksOf 15 = .ok (.if_icmp .ge 75, 3) := by decide +kernel
theorem dX7_marksOf_18 : decode cX7_marksOf 18 = .ok (.aload_n 0, 1) := by decide +kernel
theorem dX7_marksOf_19 : decode cX7_marksOf 19 = .ok (.iload_n 1, 1) := by decide +kernel
theorem dX7_marksOf_20 : decode cX7_marksOf 20 = .ok (.iload 4, 2) := by decide +kernel
theorem dX7_marksOf_22 : decode cX7_marksOf 22 = .ok (.invokevirtual 111, 3) := by decide +kernel
theorem dX7_marksOf_25 : decode cX7_marksOf 25 = .ok (.ifCond .eq 59, 3) := by decide +kernel
theorem dX7_marksOf_28 : decode cX7_marksOf 28 = .ok (.aload_n 0, 1) := by decide +kernel
theorem dX7_marksOf_29 : decode cX7_marksOf 29 = .ok (.getfield 48, 3) := by decide +kernel
theorem dX7_marksOf_32 : decode cX7_marksOf 32 = .ok (.iconst 0, 1) := by decide +kernel
theorem dX7_marksOf_33 : decode cX7_marksOf 33 = .ok (.iload 4, 2) := by decide +kernel
theorem dX7_marksOf_35 : decode cX7_marksOf 35 = .ok (.iastore, 1) := by decide +kernel
theorem dX7_marksOf_36 : decode cX7_marksOf 36 = .ok (.aload_n 0, 1) := by decide +kernel
theorem dX7_marksOf_37 : decode cX7_marksOf 37 = .ok (.getfield 48, 3) := by decide +kernel
theorem dX7_marksOf_40 : decode cX7_marksOf 40 = .ok (.iconst 1, 1) := by decide +kernel
theorem dX7_marksOf_41 : decode cX7_marksOf 41 = .ok (.aload_n 0, 1) := by decide +kernel
theorem dX7_marksOf_42 : decode cX7_marksOf 42 = .ok (.iload_n 1, 1) := by decide +kernel
theorem dX7_marksOf_43 : decode cX7_marksOf 43 = .ok (.iload 4, 2) := by decide +kernel
theorem dX7_marksOf_45 : decode cX7_marksOf 45 = .ok (.invokevirtual 102, 3) := by decide +kernel
theorem dX7_marksOf_48 : decode cX7_marksOf 48 = .ok (.iastore, 1) := by decide +kernel
theorem dX7_marksOf_49 : decode cX7_marksOf 49 = .ok (.iload_n 3, 1) := by decide +kernel
theorem dX7_marksOf_50 : decode cX7_marksOf 50 = .ok (.iload_n 2, 1) := by decide +kernel
theorem dX7_marksOf_51 : decode cX7_marksOf 51 = .ok (.ifCond .ge 19, 3) := by decide +kernel
theorem dX7_marksOf_54 : decode cX7_marksOf 54 = .ok (.aload_n 0, 1) := by decide +kernel
theorem dX7_marksOf_55 : decode cX7_marksOf 55 = .ok (.iload_n 1, 1) := by decide +kernel
theorem dX7_marksOf_56 : decode cX7_marksOf 56 = .ok (.iload 4, 2) := by decide +kernel
theorem dX7_marksOf_58 : decode cX7_marksOf 58 = .ok (.invokevirtual 102, 3) := by decide +kernel
theorem dX7_marksOf_61 : decode cX7_marksOf 61 = .ok (.iconst 0, 1) := by decide +kernel
theorem dX7_marksOf_62 : decode cX7_marksOf 62 = .ok (.bipush 99, 2) := by decide +kernel
theorem dX7_marksOf_64 : decode cX7_marksOf 64 = .ok (.invokestatic 95, 3) := by decide +kernel
theorem dX7_marksOf_67 : decode cX7_marksOf 67 = .ok (.goto 15, 3) := by decide +kernel
theorem dX7_marksOf_70 : decode cX7_marksOf 70 = .ok (.aload_n 0, 1) := by decide +kernel
theorem dX7_marksOf_71 : decode cX7_marksOf 71 = .ok (.iload_n 2, 1) := by decide +kernel
theorem dX7_marksOf_72 : decode cX7_marksOf 72 = .ok (.invokevirtual 108, 3) := by decide +kernel
theorem dX7_marksOf_75 : decode cX7_marksOf 75 = .ok (.bipush (-99), 2) := by decide +kernel
theorem dX7_marksOf_77 : decode cX7_marksOf 77 = .ok (.bipush 99, 2) := by decide +kernel
theorem dX7_marksOf_79 : decode cX7_marksOf 79 = .ok (.invokestatic 95, 3) := by decide +kernel
theorem dX7_marksOf_82 : decode cX7_marksOf 82 = .ok (.iadd, 1) := by decide +kernel
theorem dX7_marksOf_83 : decode cX7_marksOf 83 = .ok (.istore_n 3, 1) := by decide +kernel
theorem dX7_marksOf_84 : decode cX7_marksOf 84 = .ok (.iinc 4 1, 3) := by decide +kernel
theorem dX7_marksOf_87 : decode cX7_marksOf 87 = .ok (.goto (-76), 3) := by decide +kernel
theorem dX7_marksOf_90 : decode cX7_marksOf 90 = .ok (.iload_n 3, 1) := by decide +kernel
theorem dX7_marksOf_91 : decode cX7_marksOf 91 = .ok (.ireturn, 1) := by decide +kernel
theorem dX7_told_0 : decode cX7_told 0 = .ok (.aload_n 0, 1) := by decide +kernel
theorem dX7_told_1 : decode cX7_told 1 = .ok (.iload_n 1, 1) := by decide +kernel
theorem dX7_told_2 : decode cX7_told 2 = .ok (.invokevirtual 128, 3) := by decide +kernel
theorem dX7_told_5 : decode cX7_told 5 = .ok (.ifCond .ne 6, 3) := by decide +kernel
theorem dX7_told_8 : decode cX7_told 8 = .ok (.ldc 90, 2) := by decide +kernel
theorem dX7_told_10 : decode cX7_told 10 = .ok (.ireturn, 1) := by decide +kernel
theorem dX7_told_11 : decode cX7_told 11 = .ok (.iload_n 2, 1) := by decide +kernel
theorem dX7_told_12 : decode cX7_told 12 = .ok (.tableswitch 128 0 10 #[60, 66, 72, 78, 85, 92, 98, 104, 110, 116, 122], 60) := by decide +kernel
theorem dX7_told_72 : decode cX7_told 72 = .ok (.aload_n 0, 1) := by decide +kernel
theorem dX7_told_73 : decode cX7_told 73 = .ok (.iload_n 1, 1) := by decide +kernel
theorem dX7_told_74 : decode cX7_told 74 = .ok (.invokevirtual 92, 3) := by decide +kernel
theorem dX7_told_77 : decode cX7_told 77 = .ok (.ireturn, 1) := by decide +kernel
theorem dX7_told_78 : decode cX7_told 78 = .ok (.aload_n 0, 1) := by decide +kernel
theorem dX7_told_79 : decode cX7_told 79 = .ok (.iload_n 1, 1) := by decide +kernel
theorem dX7_told_80 : decode cX7_told 80 = .ok (.invokevirtual 99, 3) := by decide +kernel
theorem dX7_told_83 : decode cX7_told 83 = .ok (.ireturn, 1) := by decide +kernel
theorem dX7_told_84 : decode cX7_told 84 = .ok (.aload_n 0, 1) := by decide +kernel
theorem dX7_told_85 : decode cX7_told 85 = .ok (.iload_n 1, 1) := by decide +kernel
theorem dX7_told_86 : decode cX7_told 86 = .ok (.invokevirtual 125, 3) := by decide +kernel
theorem dX7_told_89 : decode cX7_told 89 = .ok (.ireturn, 1) := by decide +kernel
theorem dX7_told_90 : decode cX7_told 90 = .ok (.aload_n 0, 1) := by decide +kernel
theorem dX7_told_91 : decode cX7_told 91 = .ok (.iload_n 1, 1) := by decide +kernel
theorem dX7_told_92 : decode cX7_told 92 = .ok (.iconst 1, 1) := by decide +kernel
theorem dX7_told_93 : decode cX7_told 93 = .ok (.invokevirtual 115, 3) := by decide +kernel
theorem dX7_told_96 : decode cX7_told 96 = .ok (.ireturn, 1) := by decide +kernel
theorem dX7_told_97 : decode cX7_told 97 = .ok (.aload_n 0, 1) := by decide +kernel
theorem dX7_told_98 : decode cX7_told 98 = .ok (.iload_n 1, 1) := by decide +kernel
theorem dX7_told_99 : decode cX7_told 99 = .ok (.iconst 0, 1) := by decide +kernel
theorem dX7_told_100 : decode cX7_told 100 = .ok (.invokevirtual 115, 3) := by decide +kernel
theorem dX7_told_103 : decode cX7_told 103 = .ok (.ireturn, 1) := by decide +kernel
theorem dX7_told_104 : decode cX7_told 104 = .ok (.aload_n 0, 1) := by decide +kernel
theorem dX7_told_105 : decode cX7_told 105 = .ok (.iload_n 1, 1) := by decide +kernel
theorem dX7_told_106 : decode cX7_told 106 = .ok (.invokevirtual 119, 3) := by decide +kernel
theorem dX7_told_109 : decode cX7_told 109 = .ok (.ireturn, 1) := by decide +kernel
theorem dX7_told_110 : decode cX7_told 110 = .ok (.aload_n 0, 1) := by decide +kernel
theorem dX7_told_111 : decode cX7_told 111 = .ok (.iload_n 1, 1) := by decide +kernel
theorem dX7_told_112 : decode cX7_told 112 = .ok (.invokevirtual 122, 3) := by decide +kernel
theorem dX7_told_115 : decode cX7_told 115 = .ok (.ireturn, 1) := by decide +kernel
theorem dX7_told_116 : decode cX7_told 116 = .ok (.aload_n 0, 1) := by decide +kernel
theorem dX7_told_117 : decode cX7_told 117 = .ok (.iload_n 1, 1) := by decide +kernel
theorem dX7_told_118 : decode cX7_told 118 = .ok (.invokevirtual 132, 3) := by decide +kernel
theorem dX7_told_121 : decode cX7_told 121 = .ok (.ireturn, 1) := by decide +kernel
theorem dX7_told_122 : decode cX7_told 122 = .ok (.aload_n 0, 1) := by decide +kernel
theorem dX7_told_123 : decode cX7_told 123 = .ok (.iload_n 1, 1) := by decide +kernel
theorem dX7_told_124 : decode cX7_told 124 = .ok (.invokevirtual 135, 3) := by decide +kernel
theorem dX7_told_127 : decode cX7_told 127 = .ok (.ireturn, 1) := by decide +kernel
theorem dX7_told_128 : decode cX7_told 128 = .ok (.aload_n 0, 1) := by decide +kernel
theorem dX7_told_129 : decode cX7_told 129 = .ok (.iload_n 1, 1) := by decide +kernel
theorem dX7_told_130 : decode cX7_told 130 = .ok (.invokevirtual 138, 3) := by decide +kernel
theorem dX7_told_133 : decode cX7_told 133 = .ok (.ireturn, 1) := by decide +kernel
theorem dX7_told_134 : decode cX7_told 134 = .ok (.aload_n 0, 1) := by decide +kernel
theorem dX7_told_135 : decode cX7_told 135 = .ok (.iload_n 1, 1) := by decide +kernel
theorem dX7_told_136 : decode cX7_told 136 = .ok (.invokevirtual 141, 3) := by decide +kernel
theorem dX7_told_139 : decode cX7_told 139 = .ok (.ireturn, 1) := by decide +kernel
theorem dX7_told_140 : decode cX7_told 140 = .ok (.ldc 90, 2) := by decide +kernel
theorem dX7_told_142 : decode cX7_told 142 = .ok (.ireturn, 1) := by decide +kernel
theorem dX7_isUnder_0 : decode cX7_isUnder 0 = .ok (.iload_n 1, 1) := by decide +kernel
theorem dX7_isUnder_1 : decode cX7_isUnder 1 = .ok (.ifCond .eq 28, 3) := by decide +kernel
theorem dX7_isUnder_4 : decode cX7_isUnder 4 = .ok (.iload_n 0, 1) := by decide +kernel
theorem dX7_isUnder_5 : decode cX7_isUnder 5 = .ok (.iload_n 1, 1) := by decide +kernel
theorem dX7_isUnder_6 : decode cX7_isUnder 6 = .ok (.if_icmp .eq 23, 3) := by decide +kernel
theorem dX7_isUnder_9 : decode cX7_isUnder 9 = .ok (.iload_n 1, 1) := by decide +kernel
theorem dX7_isUnder_10 : decode cX7_isUnder 10 = .ok (.iconst 1, 1) := by decide +kernel
theorem dX7_isUnder_11 : decode cX7_isUnder 11 = .ok (.if_icmp .ne 8, 3) := by decide +kernel
theorem dX7_isUnder_14 : decode cX7_isUnder 14 = .ok (.iload_n 0, 1) := by decide +kernel
theorem dX7_isUnder_15 : decode cX7_isUnder 15 = .ok (.iconst 3, 1) := by decide +kernel
theorem dX7_isUnder_16 : decode cX7_isUnder 16 = .ok (.if_icmp .eq 13, 3) := by decide +kernel
theorem dX7_isUnder_19 : decode cX7_isUnder 19 = .ok (.iload_n 1, 1) := by decide +kernel
theorem dX7_isUnder_20 : decode cX7_isUnder 20 = .ok (.iconst 2, 1) := by decide +kernel
theorem dX7_isUnder_21 : decode cX7_isUnder 21 = .ok (.if_icmp .ne 12, 3) := by decide +kernel
theorem dX7_isUnder_24 : decode cX7_isUnder 24 = .ok (.iload_n 0, 1) := by decide +kernel
theorem dX7_isUnder_25 : decode cX7_isUnder 25 = .ok (.iconst 4, 1) := by decide +kernel
theorem dX7_isUnder_26 : decode cX7_isUnder 26 = .ok (.if_icmp .ne 7, 3) := by decide +kernel
theorem dX7_isUnder_29 : decode cX7_isUnder 29 = .ok (.iconst 1, 1) := by decide +kernel
theorem dX7_isUnder_30 : decode cX7_isUnder 30 = .ok (.goto 4, 3) := by decide +kernel
theorem dX7_isUnder_33 : decode cX7_isUnder 33 = .ok (.iconst 0, 1) := by decide +kernel
theorem dX7_isUnder_34 : decode cX7_isUnder 34 = .ok (.ireturn, 1) := by decide +kernel
theorem dX7_as_0 : decode cX7_as 0 = .ok (.aload_n 0, 1) := by decide +kernel
theorem dX7_as_1 : decode cX7_as 1 = .ok (.iload_n 1, 1) := by decide +kernel
theorem dX7_as_2 : decode cX7_as 2 = .ok (.invokevirtual 128, 3) := by decide +kernel
theorem dX7_as_5 : decode cX7_as 5 = .ok (.ifCond .eq 12, 3) := by decide +kernel
theorem dX7_as_8 : decode cX7_as 8 = .ok (.iload_n 2, 1) := by decide +kernel
theorem dX7_as_9 : decode cX7_as 9 = .ok (.iconst 0, 1) := by decide +kernel
theorem dX7_as_10 : decode cX7_as 10 = .ok (.iconst 5, 1) := by decide +kernel
theorem dX7_as_11 : decode cX7_as 11 = .ok (.invokestatic 78, 3) := by decide +kernel
theorem dX7_as_14 : decode cX7_as 14 = .ok (.ifCond .ne 6, 3) := by decide +kernel
theorem dX7_as_17 : decode cX7_as 17 = .ok (.ldc 90, 2) := by decide +kernel
theorem dX7_as_19 : decode cX7_as 19 = .ok (.ireturn, 1) := by decide +kernel
theorem dX7_as_20 : decode cX7_as 20 = .ok (.aload_n 0, 1) := by decide +kernel
theorem dX7_as_21 : decode cX7_as 21 = .ok (.iload_n 1, 1) := by decide +kernel
theorem dX7_as_22 : decode cX7_as 22 = .ok (.invokevirtual 92, 3) := by decide +kernel
theorem dX7_as_25 : decode cX7_as 25 = .ok (.iload_n 2, 1) := by decide +kernel
theorem dX7_as_26 : decode cX7_as 26 = .ok (.invokestatic 144, 3) := by decide +kernel
theorem dX7_as_29 : decode cX7_as 29 = .ok (.ifCond .eq 11, 3) := by decide +kernel
theorem dX7_as_32 : decode cX7_as 32 = .ok (.aload_n 0, 1) := by decide +kernel
theorem dX7_as_33 : decode cX7_as 33 = .ok (.iload_n 1, 1) := by decide +kernel
theorem dX7_as_34 : decode cX7_as 34 = .ok (.invokevirtual 99, 3) := by decide +kernel
theorem dX7_as_37 : decode cX7_as 37 = .ok (.goto 5, 3) := by decide +kernel
theorem dX7_as_40 : decode cX7_as 40 = .ok (.ldc 147, 2) := by decide +kernel
theorem dX7_as_42 : decode cX7_as 42 = .ok (.ireturn, 1) := by decide +kernel
theorem dX7_becomes_0 : decode cX7_becomes 0 = .ok (.aload_n 0, 1) := by decide +kernel
theorem dX7_becomes_1 : decode cX7_becomes 1 = .ok (.getfield 9, 3) := by decide +kernel
theorem dX7_becomes_4 : decode cX7_becomes 4 = .ok (.iload_n 1, 1) := by decide +kernel
theorem dX7_becomes_5 : decode cX7_becomes 5 = .ok (.iaload, 1) := by decide +kernel
theorem dX7_becomes_6 : decode cX7_becomes 6 = .ok (.istore_n 3, 1) := by decide +kernel
theorem dX7_becomes_7 : decode cX7_becomes 7 = .ok (.aload_n 0, 1) := by decide +kernel
theorem dX7_becomes_8 : decode cX7_becomes 8 = .ok (.getfield 9, 3) := by decide +kernel
theorem dX7_becomes_11 : decode cX7_becomes 11 = .ok (.iload_n 1, 1) := by decide +kernel
theorem dX7_becomes_12 : decode cX7_becomes 12 = .ok (.iload_n 2, 1) := by decide +kernel
theorem dX7_becomes_13 : decode cX7_becomes 13 = .ok (.iastore, 1) := by decide +kernel
theorem dX7_becomes_14 : decode cX7_becomes 14 = .ok (.iload_n 3, 1) := by decide +kernel
theorem dX7_becomes_15 : decode cX7_becomes 15 = .ok (.ireturn, 1) := by decide +kernel
theorem dX7_turns_0 : decode cX7_turns 0 = .ok (.aload_n 0, 1) := by decide +kernel
theorem dX7_turns_1 : decode cX7_turns 1 = .ok (.iload_n 1, 1) := by decide +kernel
theorem dX7_turns_2 : decode cX7_turns 2 = .ok (.invokevirtual 128, 3) := by decide +kernel
theorem dX7_turns_5 : decode cX7_turns 5 = .ok (.ifCond .eq 24, 3) := by decide +kernel
theorem dX7_turns_8 : decode cX7_turns 8 = .ok (.iload_n 2, 1) := by decide +kernel
theorem dX7_turns_9 : decode cX7_turns 9 = .ok (.iconst 0, 1) := by decide +kernel
theorem dX7_turns_10 : decode cX7_turns 10 = .ok (.iconst 5, 1) := by decide +kernel
theorem dX7_turns_11 : decode cX7_turns 11 = .ok (.invokestatic 78, 3) := by decide +kernel
theorem dX7_turns_14 : decode cX7_turns 14 = .ok (.ifCond .eq 15, 3) := by decide +kernel
theorem dX7_turns_17 : decode cX7_turns 17 = .ok (.aload_n 0, 1) := by decide +kernel
theorem dX7_turns_18 : decode cX7_turns 18 = .ok (.iload_n 1, 1) := by decide +kernel
theorem dX7_turns_19 : decode cX7_turns 19 = .ok (.invokestatic 82, 3) := by decide +kernel
theorem dX7_turns_22 : decode cX7_turns 22 = .ok (.iload_n 2, 1) := by decide +kernel
theorem dX7_turns_23 : decode cX7_turns 23 = .ok (.invokevirtual 148, 3) := by decide +kernel
theorem dX7_turns_26 : decode cX7_turns 26 = .ok (.goto 5, 3) := by decide +kernel
theorem dX7_turns_29 : decode cX7_turns 29 = .ok (.ldc 90, 2) := by decide +kernel
theorem dX7_turns_31 : decode cX7_turns 31 = .ok (.ireturn, 1) := by decide +kernel
theorem dX7_sea_0 : decode cX7_sea 0 = .ok (.iload_n 1, 1) := by decide +kernel
theorem dX7_sea_1 : decode cX7_sea 1 = .ok (.iconst 0, 1) := by decide +kernel
theorem dX7_sea_2 : decode cX7_sea 2 = .ok (.iconst 3, 1) := by decide +kernel
theorem dX7_sea_3 : decode cX7_sea 3 = .ok (.invokestatic 78, 3) := by decide +kernel
theorem dX7_sea_6 : decode cX7_sea 6 = .ok (.ifCond .eq 42, 3) := by decide +kernel
theorem dX7_sea_9 : decode cX7_sea 9 = .ok (.iload_n 2, 1) := by decide +kernel
theorem dX7_sea_10 : decode cX7_sea 10 = .ok (.iload_n 1, 1) := by decide +kernel
theorem dX7_sea_11 : decode cX7_sea 11 = .ok (.iconst 3, 1) := by decide +kernel
theorem dX7_sea_12 : decode cX7_sea 12 = .ok (.if_icmp .ne 7, 3) := by decide +kernel
theorem dX7_sea_15 : decode cX7_sea 15 = .ok (.iconst 1, 1) := by decide +kernel
theorem dX7_sea_16 : decode cX7_sea 16 = .ok (.goto 4, 3) := by decide +kernel
theorem dX7_sea_19 : decode cX7_sea 19 = .ok (.iconst 0, 1) := by decide +kernel
theorem dX7_sea_20 : decode cX7_sea 20 = .ok (.iload_n 1, 1) := by decide +kernel
theorem dX7_sea_21 : decode cX7_sea 21 = .ok (.iconst 1, 1) := by decide +kernel
theorem dX7_sea_22 : decode cX7_sea 22 = .ok (.if_icmp .ne 8, 3) := by decide +kernel
theorem dX7_sea_25 : decode cX7_sea 25 = .ok (.bipush 9, 2) := by decide +kernel
theorem dX7_sea_27 : decode cX7_sea 27 = .ok (.goto 15, 3) := by decide +kernel
theorem dX7_sea_30 : decode cX7_sea 30 = .ok (.iload_n 1, 1) := by decide +kernel
theorem dX7_sea_31 : decode cX7_sea 31 = .ok (.iconst 3, 1) := by decide +kernel
theorem dX7_sea_32 : decode cX7_sea 32 = .ok (.if_icmp .ne 8, 3) := by decide +kernel
theorem dX7_sea_35 : decode cX7_sea 35 = .ok (.bipush 20, 2) := by decide +kernel
theorem dX7_sea_37 : decode cX7_sea 37 = .ok (.goto 5, 3) := by decide +kernel
theorem dX7_sea_40 : decode cX7_sea 40 = .ok (.bipush 11, 2) := by decide +kernel
theorem dX7_sea_42 : decode cX7_sea 42 = .ok (.invokestatic 78, 3) := by decide +kernel
theorem dX7_sea_45 : decode cX7_sea 45 = .ok (.ifCond .ne 6, 3) := by decide +kernel
theorem dX7_sea_48 : decode cX7_sea 48 = .ok (.ldc 90, 2) := by decide +kernel
theorem dX7_sea_50 : decode cX7_sea 50 = .ok (.ireturn, 1) := by decide +kernel
theorem dX7_sea_51 : decode cX7_sea 51 = .ok (.aload_n 0, 1) := by decide +kernel
theorem dX7_sea_52 : decode cX7_sea 52 = .ok (.iconst 2, 1) := by decide +kernel
theorem dX7_sea_53 : decode cX7_sea 53 = .ok (.iload_n 1, 1) := by decide +kernel
theorem dX7_sea_54 : decode cX7_sea 54 = .ok (.iadd, 1) := by decide +kernel
theorem dX7_sea_55 : decode cX7_sea 55 = .ok (.iload_n 2, 1) := by decide +kernel
theorem dX7_sea_56 : decode cX7_sea 56 = .ok (.invokevirtual 148, 3) := by decide +kernel
theorem dX7_sea_59 : decode cX7_sea 59 = .ok (.ireturn, 1) := by decide +kernel
theorem dX7_sand_0 : decode cX7_sand 0 = .ok (.aload_n 0, 1) := by decide +kernel
theorem dX7_sand_1 : decode cX7_sand 1 = .ok (.iload_n 1, 1) := by decide +kernel
theorem dX7_sand_2 : decode cX7_sand 2 = .ok (.invokevirtual 128, 3) := by decide +kernel
theorem dX7_sand_5 : decode cX7_sand 5 = .ok (.ifCond .eq 19, 3) := by decide +kernel
theorem dX7_sand_8 : decode cX7_sand 8 = .ok (.iload_n 2, 1) := by decide +kernel
theorem dX7_sand_9 : decode cX7_sand 9 = .ok (.invokestatic 151, 3) := by decide +kernel
theorem dX7_sand_12 : decode cX7_sand 12 = .ok (.ifCond .eq 12, 3) := by decide +kernel
theorem dX7_sand_15 : decode cX7_sand 15 = .ok (.aload_n 0, 1) := by decide +kernel
theorem dX7_sand_16 : decode cX7_sand 16 = .ok (.iload_n 1, 1) := by decide +kernel
theorem dX7_sand_17 : decode cX7_sand 17 = .ok (.iload_n 2, 1) := by decide +kernel
theorem dX7_sand_18 : decode cX7_sand 18 = .ok (.invokevirtual 102, 3) := by decide +kernel
theorem dX7_sand_21 : decode cX7_sand 21 = .ok (.goto 5, 3) := by decide +kernel
theorem dX7_sand_24 : decode cX7_sand 24 = .ok (.ldc 90, 2) := by decide +kernel
theorem dX7_sand_26 : decode cX7_sand 26 = .ok (.ireturn, 1) := by decide +kernel
theorem dX7_heap_0 : decode cX7_heap 0 = .ok (.aload_n 0, 1) := by decide +kernel
theorem dX7_heap_1 : decode cX7_heap 1 = .ok (.iload_n 1, 1) := by decide +kernel
theorem dX7_heap_2 : decode cX7_heap 2 = .ok (.invokevirtual 128, 3) := by decide +kernel
theorem dX7_heap_5 : decode cX7_heap 5 = .ok (.ifCond .eq 33, 3) := by decide +kernel
theorem dX7_heap_8 : decode cX7_heap 8 = .ok (.iload_n 2, 1) := by decide +kernel
theorem dX7_heap_9 : decode cX7_heap 9 = .ok (.invokestatic 151, 3) := by decide +kernel
theorem dX7_heap_12 : decode cX7_heap 12 = .ok (.ifCond .eq 26, 3) := by decide +kernel
theorem dX7_heap_15 : decode cX7_heap 15 = .ok (.iload_n 3, 1) := by decide +kernel
theorem dX7_heap_16 : decode cX7_heap 16 = .ok (.iconst 0, 1) := by decide +kernel
theorem dX7_heap_17 : decode cX7_heap 17 = .ok (.bipush 99, 2) := by decide +kernel
theorem dX7_heap_19 : decode cX7_heap 19 = .ok (.invokestatic 78, 3) := by decide +kernel
theorem dX7_heap_22 : decode cX7_heap 22 = .ok (.ifCond .eq 16, 3) := by decide +kernel
theorem dX7_heap_25 : decode cX7_heap 25 = .ok (.aload_n 0, 1) := by decide +kernel
theorem dX7_heap_26 : decode cX7_heap 26 = .ok (.iload_n 1, 1) := by decide +kernel
theorem dX7_heap_27 : decode cX7_heap 27 = .ok (.iload_n 2, 1) := by decide +kernel
theorem dX7_heap_28 : decode cX7_heap 28 = .ok (.invokestatic 86, 3) := by decide +kernel
theorem dX7_heap_31 : decode cX7_heap 31 = .ok (.iload_n 3, 1) := by decide +kernel
theorem dX7_heap_32 : decode cX7_heap 32 = .ok (.invokevirtual 148, 3) := by decide +kernel
theorem dX7_heap_35 : decode cX7_heap 35 = .ok (.goto 5, 3) := by decide +kernel
theorem dX7_heap_38 : decode cX7_heap 38 = .ok (.ldc 90, 2) := by decide +kernel
theorem dX7_heap_40 : decode cX7_heap 40 = .ok (.ireturn, 1) := by decide +kernel
theorem dX7_draw_0 : decode cX7_draw 0 = .ok (.aload_n 0, 1) := by decide +kernel
theorem dX7_draw_1 : decode cX7_draw 1 = .ok (.getfield 9, 3) := by decide +kernel
theorem dX7_draw_4 : decode cX7_draw 4 = .ok (.iconst 0, 1) := by decide +kernel
theorem dX7_draw_5 : decode cX7_draw 5 = .ok (.aload_n 0, 1) := by decide +kernel
theorem dX7_draw_6 : decode cX7_draw 6 = .ok (.getfield 9, 3) := by decide +kernel
theorem dX7_draw_9 : decode cX7_draw 9 = .ok (.iconst 0, 1) := by decide +kernel
theorem dX7_draw_10 : decode cX7_draw 10 = .ok (.iaload, 1) := by decide +kernel
theorem dX7_draw_11 : decode cX7_draw 11 = .ok (.ldc 154, 2) := by decide +kernel
theorem dX7_draw_13 : decode cX7_draw 13 = .ok (.imul, 1) := by decide +kernel
theorem dX7_draw_14 : decode cX7_draw 14 = .ok (.sipush 12345, 3) := by decide +kernel
theorem dX7_draw_17 : decode cX7_draw 17 = .ok (.iadd, 1) := by decide +kernel
theorem dX7_draw_18 : decode cX7_draw 18 = .ok (.iastore, 1) := by decide +kernel
theorem dX7_draw_19 : decode cX7_draw 19 = .ok (.aload_n 0, 1) := by decide +kernel
theorem dX7_draw_20 : decode cX7_draw 20 = .ok (.getfield 9, 3) := by decide +kernel
theorem dX7_draw_23 : decode cX7_draw 23 = .ok (.iconst 0, 1) := by decide +kernel
theorem dX7_draw_24 : decode cX7_draw 24 = .ok (.iaload, 1) := by decide +kernel
theorem dX7_draw_25 : decode cX7_draw 25 = .ok (.bipush 8, 2) := by decide +kernel
theorem dX7_draw_27 : decode cX7_draw 27 = .ok (.iushr, 1) := by decide +kernel
theorem dX7_draw_28 : decode cX7_draw 28 = .ok (.ireturn, 1) := by decide +kernel
theorem dX7_deal_0 : decode cX7_deal 0 = .ok (.aload_n 0, 1) := by decide +kernel
theorem dX7_deal_1 : decode cX7_deal 1 = .ok (.iload_n 1, 1) := by decide +kernel
theorem dX7_deal_2 : decode cX7_deal 2 = .ok (.invokevirtual 128, 3) := by decide +kernel
theorem dX7_deal_5 : decode cX7_deal 5 = .ok (.ifCond .ne 6, 3) := by decide +kernel
theorem dX7_deal_8 : decode cX7_deal 8 = .ok (.ldc 90, 2) := by decide +kernel
theorem dX7_deal_10 : decode cX7_deal 10 = .ok (.ireturn, 1) := by decide +kernel
theorem dX7_deal_11 : decode cX7_deal 11 = .ok (.iconst 0, 1) := by decide +kernel
theorem dX7_deal_12 : decode cX7_deal 12 = .ok (.istore_n 2, 1) := by decide +kernel
theorem dX7_deal_13 : decode cX7_deal 13 = .ok (.iload_n 2, 1) := by decide +kernel
theorem dX7_deal_14 : decode cX7_deal 14 = .ok (.bipush 24, 2) := by decide +kernel
theorem dX7_deal_16 : decode cX7_deal 16 = .ok (.if_icmp .ge 26, 3) := by decide +kernel
theorem dX7_deal_19 : decode cX7_deal 19 = .ok (.aload_n 0, 1) := by decide +kernel
theorem dX7_deal_20 : decode cX7_deal 20 = .ok (.getfield 9, 3) := by decide +kernel
theorem dX7_deal_23 : decode cX7_deal 23 = .ok (.iload_n 1, 1) := by decide +kernel
theorem dX7_deal_24 : decode cX7_deal 24 = .ok (.iload_n 2, 1) := by decide +kernel
theorem dX7_deal_25 : decode cX7_deal 25 = .ok (.invokestatic 86, 3) := by decide +kernel
theorem dX7_deal_28 : decode cX7_deal 28 = .ok (.aload_n 0, 1) := by decide +kernel
theorem dX7_deal_29 : decode cX7_deal 29 = .ok (.invokevirtual 155, 3) := by decide +kernel
theorem dX7_deal_32 : decode cX7_deal 32 = .ok (.bipush 40, 2) := by decide +kernel
theorem dX7_deal_34 : decode cX7_deal 34 = .ok (.irem, 1) := by decide +kernel
theorem dX7_deal_35 : decode cX7_deal 35 = .ok (.iastore, 1) := by decide +kernel
theorem dX7_deal_36 : decode cX7_deal 36 = .ok (.iinc 2 1, 3) := by decide +kernel
theorem dX7_deal_39 : decode cX7_deal 39 = .ok (.goto (-26), 3) := by decide +kernel
theorem dX7_deal_42 : decode cX7_deal 42 = .ok (.aload_n 0, 1) := by decide +kernel
theorem dX7_deal_43 : decode cX7_deal 43 = .ok (.iload_n 1, 1) := by decide +kernel
theorem dX7_deal_44 : decode cX7_deal 44 = .ok (.invokevirtual 125, 3) := by decide +kernel
theorem dX7_deal_47 : decode cX7_deal 47 = .ok (.ireturn, 1) := by decide +kernel
theorem dX7_seed_0 : decode cX7_seed 0 = .ok (.aload_n 0, 1) := by decide +kernel
theorem dX7_seed_1 : decode cX7_seed 1 = .ok (.getfield 9, 3) := by decide +kernel
theorem dX7_seed_4 : decode cX7_seed 4 = .ok (.iconst 0, 1) := by decide +kernel
theorem dX7_seed_5 : decode cX7_seed 5 = .ok (.iaload, 1) := by decide +kernel
theorem dX7_seed_6 : decode cX7_seed 6 = .ok (.istore_n 2, 1) := by decide +kernel
theorem dX7_seed_7 : decode cX7_seed 7 = .ok (.aload_n 0, 1) := by decide +kernel
theorem dX7_seed_8 : decode cX7_seed 8 = .ok (.getfield 9, 3) := by decide +kernel
theorem dX7_seed_11 : decode cX7_seed 11 = .ok (.iconst 0, 1) := by decide +kernel
theorem dX7_seed_12 : decode cX7_seed 12 = .ok (.iload_n 1, 1) := by decide +kernel
theorem dX7_seed_13 : decode cX7_seed 13 = .ok (.iastore, 1) := by decide +kernel
theorem dX7_seed_14 : decode cX7_seed 14 = .ok (.iload_n 2, 1) := by decide +kernel
theorem dX7_seed_15 : decode cX7_seed 15 = .ok (.ireturn, 1) := by decide +kernel
theorem dX7_lift_0 : decode cX7_lift 0 = .ok (.aload_n 0, 1) := by decide +kernel
theorem dX7_lift_1 : decode cX7_lift 1 = .ok (.iload_n 1, 1) := by decide +kernel
theorem dX7_lift_2 : decode cX7_lift 2 = .ok (.invokevirtual 128, 3) := by decide +kernel
theorem dX7_lift_5 : decode cX7_lift 5 = .ok (.ifCond .eq 19, 3) := by decide +kernel
theorem dX7_lift_8 : decode cX7_lift 8 = .ok (.iload_n 2, 1) := by decide +kernel
theorem dX7_lift_9 : decode cX7_lift 9 = .ok (.invokestatic 151, 3) := by decide +kernel
theorem dX7_lift_12 : decode cX7_lift 12 = .ok (.ifCond .eq 12, 3) := by decide +kernel
theorem dX7_lift_15 : decode cX7_lift 15 = .ok (.iload_n 3, 1) := by decide +kernel
theorem dX7_lift_16 : decode cX7_lift 16 = .ok (.iconst 0, 1) := by decide +kernel
theorem dX7_lift_17 : decode cX7_lift 17 = .ok (.iconst 1, 1) := by decide +kernel
theorem dX7_lift_18 : decode cX7_lift 18 = .ok (.invokestatic 78, 3) := by decide +kernel
theorem dX7_lift_21 : decode cX7_lift 21 = .ok (.ifCond .ne 6, 3) := by decide +kernel
theorem dX7_lift_24 : decode cX7_lift 24 = .ok (.ldc 90, 2) := by decide +kernel
theorem dX7_lift_26 : decode cX7_lift 26 = .ok (.ireturn, 1) := by decide +kernel
theorem dX7_lift_27 : decode cX7_lift 27 = .ok (.aload_n 0, 1) := by decide +kernel
theorem dX7_lift_28 : decode cX7_lift 28 = .ok (.iload_n 1, 1) := by decide +kernel
theorem dX7_lift_29 : decode cX7_lift 29 = .ok (.invokevirtual 138, 3) := by decide +kernel
theorem dX7_lift_32 : decode cX7_lift 32 = .ok (.istore 4, 2) := by decide +kernel
theorem dX7_lift_34 : decode cX7_lift 34 = .ok (.iload_n 3, 1) := by decide +kernel
theorem dX7_lift_35 : decode cX7_lift 35 = .ok (.ifCond .ne 14, 3) := by decide +kernel
theorem dX7_lift_38 : decode cX7_lift 38 = .ok (.aload_n 0, 1) := by decide +kernel
theorem dX7_lift_39 : decode cX7_lift 39 = .ok (.iload_n 1, 1) := by decide +kernel
theorem dX7_lift_40 : decode cX7_lift 40 = .ok (.iload_n 2, 1) := by decide +kernel
theorem dX7_lift_41 : decode cX7_lift 41 = .ok (.iload 4, 2) := by decide +kernel
theorem dX7_lift_43 : decode cX7_lift 43 = .ok (.invokevirtual 159, 3) := by decide +kernel
theorem dX7_lift_46 : decode cX7_lift 46 = .ok (.goto 19, 3) := by decide +kernel
theorem dX7_lift_49 : decode cX7_lift 49 = .ok (.iload_n 2, 1) := by decide +kernel
theorem dX7_lift_50 : decode cX7_lift 50 = .ok (.iload 4, 2) := by decide +kernel
theorem dX7_lift_52 : decode cX7_lift 52 = .ok (.aload_n 0, 1) := by decide +kernel
theorem dX7_lift_53 : decode cX7_lift 53 = .ok (.iload_n 1, 1) := by decide +kernel
theorem dX7_lift_54 : decode cX7_lift 54 = .ok (.invokevirtual 135, 3) := by decide +kernel
theorem dX7_lift_57 : decode cX7_lift 57 = .ok (.imul, 1) := by decide +kernel
theorem dX7_lift_58 : decode cX7_lift 58 = .ok (.iadd, 1) := by decide +kernel
theorem dX7_lift_59 : decode cX7_lift 59 = .ok (.bipush 48, 2) := by decide +kernel
theorem dX7_lift_61 : decode cX7_lift 61 = .ok (.iadd, 1) := by decide +kernel
theorem dX7_lift_62 : decode cX7_lift 62 = .ok (.bipush 24, 2) := by decide +kernel
theorem dX7_lift_64 : decode cX7_lift 64 = .ok (.irem, 1) := by decide +kernel
theorem dX7_lift_65 : decode cX7_lift 65 = .ok (.ireturn, 1) := by decide +kernel
theorem dX7_slideBy_0 : decode cX7_slideBy 0 = .ok (.aload_n 0, 1) := by decide +kernel
theorem dX7_slideBy_1 : decode cX7_slideBy 1 = .ok (.iconst 1, 1) := by decide +kernel
theorem dX7_slideBy_2 : decode cX7_slideBy 2 = .ok (.invokevirtual 105, 3) := by decide +kernel
theorem dX7_slideBy_5 : decode cX7_slideBy 5 = .ok (.istore_n 2, 1) := by decide +kernel
theorem dX7_slideBy_6 : decode cX7_slideBy 6 = .ok (.aload_n 0, 1) := by decide +kernel
theorem dX7_slideBy_7 : decode cX7_slideBy 7 = .ok (.getfield 48, 3) := by decide +kernel
theorem dX7_slideBy_10 : decode cX7_slideBy 10 = .ok (.iconst 0, 1) := by decide +kernel
theorem dX7_slideBy_11 : decode cX7_slideBy 11 = .ok (.iload_n 1, 1) := by decide +kernel
theorem dX7_slideBy_12 : decode cX7_slideBy 12 = .ok (.iastore, 1) := by decide +kernel
theorem dX7_slideBy_13 : decode cX7_slideBy 13 = .ok (.aload_n 0, 1) := by decide +kernel
theorem dX7_slideBy_14 : decode cX7_slideBy 14 = .ok (.getfield 48, 3) := by decide +kernel
theorem dX7_slideBy_17 : decode cX7_slideBy 17 = .ok (.iconst 1, 1) := by decide +kernel
theorem dX7_slideBy_18 : decode cX7_slideBy 18 = .ok (.aload_n 0, 1) := by decide +kernel
theorem dX7_slideBy_19 : decode cX7_slideBy 19 = .ok (.getfield 9, 3) := by decide +kernel
theorem dX7_slideBy_22 : decode cX7_slideBy 22 = .ok (.iconst 5, 1) := by decide +kernel
theorem dX7_slideBy_23 : decode cX7_slideBy 23 = .ok (.iaload, 1) := by decide +kernel
theorem dX7_slideBy_24 : decode cX7_slideBy 24 = .ok (.iastore, 1) := by decide +kernel
theorem dX7_slideBy_25 : decode cX7_slideBy 25 = .ok (.iload_n 2, 1) := by decide +kernel
theorem dX7_slideBy_26 : decode cX7_slideBy 26 = .ok (.ifCond .ge 21, 3) := by decide +kernel
theorem dX7_slideBy_29 : decode cX7_slideBy 29 = .ok (.iload_n 1, 1) := by decide +kernel
theorem dX7_slideBy_30 : decode cX7_slideBy 30 = .ok (.aload_n 0, 1) := by decide +kernel
theorem dX7_slideBy_31 : decode cX7_slideBy 31 = .ok (.getfield 9, 3) := by decide +kernel
theorem dX7_slideBy_34 : decode cX7_slideBy 34 = .ok (.iconst 5, 1) := by decide +kernel
theorem dX7_slideBy_35 : decode cX7_slideBy 35 = .ok (.iaload, 1) := by decide +kernel
theorem dX7_slideBy_36 : decode cX7_slideBy 36 = .ok (.if_icmp .le 7, 3) := by decide +kernel
theorem dX7_slideBy_39 : decode cX7_slideBy 39 = .ok (.iconst 1, 1) := by decide +kernel
theorem dX7_slideBy_40 : decode cX7_slideBy 40 = .ok (.goto 19, 3) := by decide +kernel
theorem dX7_slideBy_43 : decode cX7_slideBy 43 = .ok (.iconst 0, 1) := by decide +kernel
theorem dX7_slideBy_44 : decode cX7_slideBy 44 = .ok (.goto 15, 3) := by decide +kernel
theorem dX7_slideBy_47 : decode cX7_slideBy 47 = .ok (.aload_n 0, 1) := by decide +kernel
theorem dX7_slideBy_48 : decode cX7_slideBy 48 = .ok (.iload_n 2, 1) := by decide +kernel
theorem dX7_slideBy_49 : decode cX7_slideBy 49 = .ok (.invokevirtual 108, 3) := by decide +kernel
theorem dX7_slideBy_52 : decode cX7_slideBy 52 = .ok (.iconst 0, 1) := by decide +kernel
theorem dX7_slideBy_53 : decode cX7_slideBy 53 = .ok (.iload_n 1, 1) := by decide +kernel
theorem dX7_slideBy_54 : decode cX7_slideBy 54 = .ok (.iconst 2, 1) := by decide +kernel
theorem dX7_slideBy_55 : decode cX7_slideBy 55 = .ok (.idiv, 1) := by decide +kernel
theorem dX7_slideBy_56 : decode cX7_slideBy 56 = .ok (.invokestatic 95, 3) := by decide +kernel
theorem dX7_slideBy_59 : decode cX7_slideBy 59 = .ok (.ireturn, 1) := by decide +kernel
theorem dX7_tick_0 : decode cX7_tick 0 = .ok (.aload_n 0, 1) := by decide +kernel
theorem dX7_tick_1 : decode cX7_tick 1 = .ok (.iload_n 1, 1) := by decide +kernel
theorem dX7_tick_2 : decode cX7_tick 2 = .ok (.invokevirtual 138, 3) := by decide +kernel
theorem dX7_tick_5 : decode cX7_tick 5 = .ok (.istore_n 2, 1) := by decide +kernel
theorem dX7_tick_6 : decode cX7_tick 6 = .ok (.aload_n 0, 1) := by decide +kernel
theorem dX7_tick_7 : decode cX7_tick 7 = .ok (.iload_n 1, 1) := by decide +kernel
theorem dX7_tick_8 : decode cX7_tick 8 = .ok (.invokevirtual 135, 3) := by decide +kernel
theorem dX7_tick_11 : decode cX7_tick 11 = .ok (.istore_n 3, 1) := by decide +kernel
theorem dX7_tick_12 : decode cX7_tick 12 = .ok (.iconst 0, 1) := by decide +kernel
theorem dX7_tick_13 : decode cX7_tick 13 = .ok (.istore 4, 2) := by decide +kernel
theorem dX7_tick_15 : decode cX7_tick 15 = .ok (.iconst 0, 1) := by decide +kernel
theorem dX7_tick_16 : decode cX7_tick 16 = .ok (.istore 5, 2) := by decide +kernel
theorem dX7_tick_18 : decode cX7_tick 18 = .ok (.iload 5, 2) := by decide +kernel
theorem dX7_tick_20 : decode cX7_tick 20 = .ok (.bipush 24, 2) := by decide +kernel
theorem dX7_tick_22 : decode cX7_tick 22 = .ok (.if_icmp .ge 24, 3) := by decide +kernel
theorem dX7_tick_25 : decode cX7_tick 25 = .ok (.aload_n 0, 1) := by decide +kernel
theorem dX7_tick_26 : decode cX7_tick 26 = .ok (.getfield 19, 3) := by decide +kernel
theorem dX7_tick_29 : decode cX7_tick 29 = .ok (.iload 5, 2) := by decide +kernel
theorem dX7_tick_31 : decode cX7_tick 31 = .ok (.aload_n 0, 1) := by decide +kernel
theorem dX7_tick_32 : decode cX7_tick 32 = .ok (.iload_n 1, 1) := by decide +kernel
theorem dX7_tick_33 : decode cX7_tick 33 = .ok (.iload 5, 2) := by decide +kernel
theorem dX7_tick_35 : decode cX7_tick 35 = .ok (.iload_n 2, 1) := by decide +kernel
theorem dX7_tick_36 : decode cX7_tick 36 = .ok (.invokevirtual 159, 3) := by decide +kernel
theorem dX7_tick_39 : decode cX7_tick 39 = .ok (.iastore, 1) := by decide +kernel
theorem dX7_tick_40 : decode cX7_tick 40 = .ok (.iinc 5 1, 3) := by decide +kernel
theorem dX7_tick_43 : decode cX7_tick 43 = .ok (.goto (-25), 3) := by decide +kernel
theorem dX7_tick_46 : decode cX7_tick 46 = .ok (.iconst 0, 1) := by decide +kernel
theorem dX7_tick_47 : decode cX7_tick 47 = .ok (.istore 5, 2) := by decide +kernel
theorem dX7_tick_49 : decode cX7_tick 49 = .ok (.iload 5, 2) := by decide +kernel
theorem dX7_tick_51 : decode cX7_tick 51 = .ok (.bipush 24, 2) := by decide +kernel
theorem dX7_tick_53 : decode cX7_tick 53 = .ok (.if_icmp .ge 75, 3) := by decide +kernel
theorem dX7_tick_56 : decode cX7_tick 56 = .ok (.aload_n 0, 1) := by decide +kernel
theorem dX7_tick_57 : decode cX7_tick 57 = .ok (.getfield 9, 3) := by decide +kernel
theorem dX7_tick_60 : decode cX7_tick 60 = .ok (.iload_n 1, 1) := by decide +kernel
theorem dX7_tick_61 : decode cX7_tick 61 = .ok (.iload 5, 2) := by decide +kernel
theorem dX7_tick_63 : decode cX7_tick 63 = .ok (.invokestatic 86, 3) := by decide +kernel
theorem dX7_tick_66 : decode cX7_tick 66 = .ok (.dup2, 1) := by decide +kernel
theorem dX7_tick_67 : decode cX7_tick 67 = .ok (.iaload, 1) := by decide +kernel
theorem dX7_tick_68 : decode cX7_tick 68 = .ok (.aload_n 0, 1) := by decide +kernel
theorem dX7_tick_69 : decode cX7_tick 69 = .ok (.getfield 19, 3) := by decide +kernel
theorem dX7_tick_72 : decode cX7_tick 72 = .ok (.iload 5, 2) := by decide +kernel
theorem dX7_tick_74 : decode cX7_tick 74 = .ok (.iaload, 1) := by decide +kernel
theorem dX7_tick_75 : decode cX7_tick 75 = .ok (.isub, 1) := by decide +kernel
theorem dX7_tick_76 : decode cX7_tick 76 = .ok (.iastore, 1) := by decide +kernel
theorem dX7_tick_77 : decode cX7_tick 77 = .ok (.aload_n 0, 1) := by decide +kernel
theorem dX7_tick_78 : decode cX7_tick 78 = .ok (.getfield 9, 3) := by decide +kernel
theorem dX7_tick_81 : decode cX7_tick 81 = .ok (.iload_n 1, 1) := by decide +kernel
theorem dX7_tick_82 : decode cX7_tick 82 = .ok (.iload 5, 2) := by decide +kernel
theorem dX7_tick_84 : decode cX7_tick 84 = .ok (.iload_n 2, 1) := by decide +kernel
theorem dX7_tick_85 : decode cX7_tick 85 = .ok (.iload_n 3, 1) := by decide +kernel
theorem dX7_tick_86 : decode cX7_tick 86 = .ok (.imul, 1) := by decide +kernel
theorem dX7_tick_87 : decode cX7_tick 87 = .ok (.iadd, 1) := by decide +kernel
theorem dX7_tick_88 : decode cX7_tick 88 = .ok (.invokestatic 86, 3) := by decide +kernel
theorem dX7_tick_91 : decode cX7_tick 91 = .ok (.dup2, 1) := by decide +kernel
theorem dX7_tick_92 : decode cX7_tick 92 = .ok (.iaload, 1) := by decide +kernel
theorem dX7_tick_93 : decode cX7_tick 93 = .ok (.aload_n 0, 1) := by decide +kernel
theorem dX7_tick_94 : decode cX7_tick 94 = .ok (.getfield 19, 3) := by decide +kernel
theorem dX7_tick_97 : decode cX7_tick 97 = .ok (.iload 5, 2) := by decide +kernel
theorem dX7_tick_99 : decode cX7_tick 99 = .ok (.iaload, 1) := by decide +kernel
theorem dX7_tick_100 : decode cX7_tick 100 = .ok (.iadd, 1) := by decide +kernel
theorem dX7_tick_101 : decode cX7_tick 101 = .ok (.iastore, 1) := by decide +kernel
theorem dX7_tick_102 : decode cX7_tick 102 = .ok (.iload 4, 2) := by decide +kernel
theorem dX7_tick_104 : decode cX7_tick 104 = .ok (.iload_n 3, 1) := by decide +kernel
theorem dX7_tick_105 : decode cX7_tick 105 = .ok (.ifCond .le 13, 3) := by decide +kernel
theorem dX7_tick_108 : decode cX7_tick 108 = .ok (.aload_n 0, 1) := by decide +kernel
theorem dX7_tick_109 : decode cX7_tick 109 = .ok (.getfield 19, 3) := by decide +kernel
theorem dX7_tick_112 : decode cX7_tick 112 = .ok (.iload 5, 2) := by decide +kernel
theorem dX7_tick_114 : decode cX7_tick 114 = .ok (.iaload, 1) := by decide +kernel
theorem dX7_tick_115 : decode cX7_tick 115 = .ok (.goto 4, 3) := by decide +kernel
theorem dX7_tick_118 : decode cX7_tick 118 = .ok (.iconst 0, 1) := by decide +kernel
theorem dX7_tick_119 : decode cX7_tick 119 = .ok (.iadd, 1) := by decide +kernel
theorem dX7_tick_120 : decode cX7_tick 120 = .ok (.istore 4, 2) := by decide +kernel
theorem dX7_tick_122 : decode cX7_tick 122 = .ok (.iinc 5 1, 3) := by decide +kernel
theorem dX7_tick_125 : decode cX7_tick 125 = .ok (.goto (-76), 3) := by decide +kernel
theorem dX7_tick_128 : decode cX7_tick 128 = .ok (.iconst 0, 1) := by decide +kernel
theorem dX7_tick_129 : decode cX7_tick 129 = .ok (.istore 5, 2) := by decide +kernel
theorem dX7_tick_131 : decode cX7_tick 131 = .ok (.iload 5, 2) := by decide +kernel
theorem dX7_tick_133 : decode cX7_tick 133 = .ok (.bipush 24, 2) := by decide +kernel
theorem dX7_tick_135 : decode cX7_tick 135 = .ok (.if_icmp .ge 131, 3) := by decide +kernel
theorem dX7_tick_138 : decode cX7_tick 138 = .ok (.aload_n 0, 1) := by decide +kernel
theorem dX7_tick_139 : decode cX7_tick 139 = .ok (.iload_n 1, 1) := by decide +kernel
theorem dX7_tick_140 : decode cX7_tick 140 = .ok (.iload 5, 2) := by decide +kernel
theorem dX7_tick_142 : decode cX7_tick 142 = .ok (.invokevirtual 102, 3) := by decide +kernel
theorem dX7_tick_145 : decode cX7_tick 145 = .ok (.aload_n 0, 1) := by decide +kernel
theorem dX7_tick_146 : decode cX7_tick 146 = .ok (.iload_n 1, 1) := by decide +kernel
theorem dX7_tick_147 : decode cX7_tick 147 = .ok (.iload 5, 2) := by decide +kernel
theorem dX7_tick_149 : decode cX7_tick 149 = .ok (.iconst 1, 1) := by decide +kernel
theorem dX7_tick_150 : decode cX7_tick 150 = .ok (.iadd, 1) := by decide +kernel
theorem dX7_tick_151 : decode cX7_tick 151 = .ok (.invokevirtual 102, 3) := by decide +kernel
theorem dX7_tick_154 : decode cX7_tick 154 = .ok (.isub, 1) := by decide +kernel
theorem dX7_tick_155 : decode cX7_tick 155 = .ok (.istore 6, 2) := by decide +kernel
theorem dX7_tick_157 : decode cX7_tick 157 = .ok (.iload 6, 2) := by decide +kernel
theorem dX7_tick_159 : decode cX7_tick 159 = .ok (.ifCond .le 10, 3) := by decide +kernel
theorem dX7_tick_162 : decode cX7_tick 162 = .ok (.iload 5, 2) := by decide +kernel
theorem dX7_tick_164 : decode cX7_tick 164 = .ok (.iconst 1, 1) := by decide +kernel
theorem dX7_tick_165 : decode cX7_tick 165 = .ok (.iadd, 1) := by decide +kernel
theorem dX7_tick_166 : decode cX7_tick 166 = .ok (.goto 7, 3) := by decide +kernel
theorem dX7_tick_169 : decode cX7_tick 169 = .ok (.iload 5, 2) := by decide +kernel
theorem dX7_tick_171 : decode cX7_tick 171 = .ok (.iconst 1, 1) := by decide +kernel
theorem dX7_tick_172 : decode cX7_tick 172 = .ok (.isub, 1) := by decide +kernel
theorem dX7_tick_173 : decode cX7_tick 173 = .ok (.istore 7, 2) := by decide +kernel
theorem dX7_tick_175 : decode cX7_tick 175 = .ok (.iload 6, 2) := by decide +kernel
theorem dX7_tick_177 : decode cX7_tick 177 = .ok (.ifCond .le 8, 3) := by decide +kernel
theorem dX7_tick_180 : decode cX7_tick 180 = .ok (.iload 6, 2) := by decide +kernel
theorem dX7_tick_182 : decode cX7_tick 182 = .ok (.goto 20, 3) := by decide +kernel
theorem dX7_tick_185 : decode cX7_tick 185 = .ok (.aload_n 0, 1) := by decide +kernel
theorem dX7_tick_186 : decode cX7_tick 186 = .ok (.iload_n 1, 1) := by decide +kernel
theorem dX7_tick_187 : decode cX7_tick 187 = .ok (.iload 5, 2) := by decide +kernel
theorem dX7_tick_189 : decode cX7_tick 189 = .ok (.invokevirtual 102, 3) := by decide +kernel
theorem dX7_tick_192 : decode cX7_tick 192 = .ok (.aload_n 0, 1) := by decide +kernel
theorem dX7_tick_193 : decode cX7_tick 193 = .ok (.iload_n 1, 1) := by decide +kernel
theorem dX7_tick_194 : decode cX7_tick 194 = .ok (.iload 5, 2) := by decide +kernel
theorem dX7_tick_196 : decode cX7_tick 196 = .ok (.iconst 1, 1) := by decide +kernel
theorem dX7_tick_197 : decode cX7_tick 197 = .ok (.isub, 1) := by decide +kernel
theorem dX7_tick_198 : decode cX7_tick 198 = .ok (.invokevirtual 102, 3) := by decide +kernel
theorem dX7_tick_201 : decode cX7_tick 201 = .ok (.isub, 1) := by decide +kernel
theorem dX7_tick_202 : decode cX7_tick 202 = .ok (.istore 6, 2) := by decide +kernel
theorem dX7_tick_204 : decode cX7_tick 204 = .ok (.iload 6, 2) := by decide +kernel
theorem dX7_tick_206 : decode cX7_tick 206 = .ok (.ifCond .le 12, 3) := by decide +kernel
theorem dX7_tick_209 : decode cX7_tick 209 = .ok (.aload_n 0, 1) := by decide +kernel
theorem dX7_tick_210 : decode cX7_tick 210 = .ok (.iload 6, 2) := by decide +kernel
theorem dX7_tick_212 : decode cX7_tick 212 = .ok (.invokevirtual 162, 3) := by decide +kernel
theorem dX7_tick_215 : decode cX7_tick 215 = .ok (.goto 4, 3) := by decide +kernel
theorem dX7_tick_218 : decode cX7_tick 218 = .ok (.iconst 0, 1) := by decide +kernel
theorem dX7_tick_219 : decode cX7_tick 219 = .ok (.istore 8, 2) := by decide +kernel
theorem dX7_tick_221 : decode cX7_tick 221 = .ok (.aload_n 0, 1) := by decide +kernel
theorem dX7_tick_222 : decode cX7_tick 222 = .ok (.getfield 9, 3) := by decide +kernel
theorem dX7_tick_225 : decode cX7_tick 225 = .ok (.iload_n 1, 1) := by decide +kernel
theorem dX7_tick_226 : decode cX7_tick 226 = .ok (.iload 5, 2) := by decide +kernel
theorem dX7_tick_228 : decode cX7_tick 228 = .ok (.invokestatic 86, 3) := by decide +kernel
theorem dX7_tick_231 : decode cX7_tick 231 = .ok (.dup2, 1) := by decide +kernel
theorem dX7_tick_232 : decode cX7_tick 232 = .ok (.iaload, 1) := by decide +kernel
theorem dX7_tick_233 : decode cX7_tick 233 = .ok (.iload 8, 2) := by decide +kernel
theorem dX7_tick_235 : decode cX7_tick 235 = .ok (.isub, 1) := by decide +kernel
theorem dX7_tick_236 : decode cX7_tick 236 = .ok (.iastore, 1) := by decide +kernel
theorem dX7_tick_237 : decode cX7_tick 237 = .ok (.aload_n 0, 1) := by decide +kernel
theorem dX7_tick_238 : decode cX7_tick 238 = .ok (.getfield 9, 3) := by decide +kernel
theorem dX7_tick_241 : decode cX7_tick 241 = .ok (.iload_n 1, 1) := by decide +kernel
theorem dX7_tick_242 : decode cX7_tick 242 = .ok (.iload 7, 2) := by decide +kernel
theorem dX7_tick_244 : decode cX7_tick 244 = .ok (.invokestatic 86, 3) := by decide +kernel
theorem dX7_tick_247 : decode cX7_tick 247 = .ok (.dup2, 1) := by decide +kernel
theorem dX7_tick_248 : decode cX7_tick 248 = .ok (.iaload, 1) := by decide +kernel
theorem dX7_tick_249 : decode cX7_tick 249 = .ok (.iload 8, 2) := by decide +kernel
theorem dX7_tick_251 : decode cX7_tick 251 = .ok (.iadd, 1) := by decide +kernel
theorem dX7_tick_252 : decode cX7_tick 252 = .ok (.iastore, 1) := by decide +kernel
theorem dX7_tick_253 : decode cX7_tick 253 = .ok (.iload 4, 2) := by decide +kernel
theorem dX7_tick_255 : decode cX7_tick 255 = .ok (.iload 8, 2) := by decide +kernel
theorem dX7_tick_257 : decode cX7_tick 257 = .ok (.iadd, 1) := by decide +kernel
theorem dX7_tick_258 : decode cX7_tick 258 = .ok (.istore 4, 2) := by decide +kernel
theorem dX7_tick_260 : decode cX7_tick 260 = .ok (.iinc 5 1, 3) := by decide +kernel
theorem dX7_tick_263 : decode cX7_tick 263 = .ok (.goto (-132), 3) := by decide +kernel
theorem dX7_tick_266 : decode cX7_tick 266 = .ok (.aload_n 0, 1) := by decide +kernel
theorem dX7_tick_267 : decode cX7_tick 267 = .ok (.getfield 9, 3) := by decide +kernel
theorem dX7_tick_270 : decode cX7_tick 270 = .ok (.iload_n 1, 1) := by decide +kernel
theorem dX7_tick_271 : decode cX7_tick 271 = .ok (.invokestatic 82, 3) := by decide +kernel
theorem dX7_tick_274 : decode cX7_tick 274 = .ok (.iconst 1, 1) := by decide +kernel
theorem dX7_tick_275 : decode cX7_tick 275 = .ok (.iadd, 1) := by decide +kernel
theorem dX7_tick_276 : decode cX7_tick 276 = .ok (.dup2, 1) := by decide +kernel
theorem dX7_tick_277 : decode cX7_tick 277 = .ok (.iaload, 1) := by decide +kernel
theorem dX7_tick_278 : decode cX7_tick 278 = .ok (.iconst 1, 1) := by decide +kernel
theorem dX7_tick_279 : decode cX7_tick 279 = .ok (.iadd, 1) := by decide +kernel
theorem dX7_tick_280 : decode cX7_tick 280 = .ok (.iastore, 1) := by decide +kernel
theorem dX7_tick_281 : decode cX7_tick 281 = .ok (.iload 4, 2) := by decide +kernel
theorem dX7_tick_283 : decode cX7_tick 283 = .ok (.ireturn, 1) := by decide +kernel
theorem dX7_ticks_0 : decode cX7_ticks 0 = .ok (.iconst 0, 1) := by decide +kernel
theorem dX7_ticks_1 : decode cX7_ticks 1 = .ok (.istore_n 3, 1) := by decide +kernel
theorem dX7_ticks_2 : decode cX7_ticks 2 = .ok (.iconst 0, 1) := by decide +kernel
theorem dX7_ticks_3 : decode cX7_ticks 3 = .ok (.istore 4, 2) := by decide +kernel
theorem dX7_ticks_5 : decode cX7_ticks 5 = .ok (.iload 4, 2) := by decide +kernel
theorem dX7_ticks_7 : decode cX7_ticks 7 = .ok (.iload_n 2, 1) := by decide +kernel
theorem dX7_ticks_8 : decode cX7_ticks 8 = .ok (.if_icmp .ge 17, 3) := by decide +kernel
theorem dX7_ticks_11 : decode cX7_ticks 11 = .ok (.iload_n 3, 1) := by decide +kernel
theorem dX7_ticks_12 : decode cX7_ticks 12 = .ok (.aload_n 0, 1) := by decide +kernel
theorem dX7_ticks_13 : decode cX7_ticks 13 = .ok (.iload_n 1, 1) := by decide +kernel
theorem dX7_ticks_14 : decode cX7_ticks 14 = .ok (.invokevirtual 165, 3) := by decide +kernel
theorem dX7_ticks_17 : decode cX7_ticks 17 = .ok (.iadd, 1) := by decide +kernel
theorem dX7_ticks_18 : decode cX7_ticks 18 = .ok (.istore_n 3, 1) := by decide +kernel
theorem dX7_ticks_19 : decode cX7_ticks 19 = .ok (.iinc 4 1, 3) := by decide +kernel
theorem dX7_ticks_22 : decode cX7_ticks 22 = .ok (.goto (-17), 3) := by decide +kernel
theorem dX7_ticks_25 : decode cX7_ticks 25 = .ok (.iload_n 3, 1) := by decide +kernel
theorem dX7_ticks_26 : decode cX7_ticks 26 = .ok (.ireturn, 1) := by decide +kernel
theorem dX7_run_0 : decode cX7_run 0 = .ok (.aload_n 0, 1) := by decide +kernel
theorem dX7_run_1 : decode cX7_run 1 = .ok (.iload_n 1, 1) := by decide +kernel
theorem dX7_run_2 : decode cX7_run 2 = .ok (.invokevirtual 128, 3) := by decide +kernel
theorem dX7_run_5 : decode cX7_run 5 = .ok (.ifCond .eq 22, 3) := by decide +kernel
theorem dX7_run_8 : decode cX7_run 8 = .ok (.iload_n 2, 1) := by decide +kernel
theorem dX7_run_9 : decode cX7_run 9 = .ok (.iconst 1, 1) := by decide +kernel
theorem dX7_run_10 : decode cX7_run 10 = .ok (.bipush 60, 2) := by decide +kernel
theorem dX7_run_12 : decode cX7_run 12 = .ok (.invokestatic 78, 3) := by decide +kernel
theorem dX7_run_15 : decode cX7_run 15 = .ok (.ifCond .eq 12, 3) := by decide +kernel
theorem dX7_run_18 : decode cX7_run 18 = .ok (.aload_n 0, 1) := by decide +kernel
theorem dX7_run_19 : decode cX7_run 19 = .ok (.iload_n 1, 1) := by decide +kernel
theorem dX7_run_20 : decode cX7_run 20 = .ok (.iload_n 2, 1) := by decide +kernel
theorem dX7_run_21 : decode cX7_run 21 = .ok (.invokevirtual 168, 3) := by decide +kernel
theorem dX7_run_24 : decode cX7_run 24 = .ok (.goto 5, 3) := by decide +kernel
theorem dX7_run_27 : decode cX7_run 27 = .ok (.ldc 90, 2) := by decide +kernel
theorem dX7_run_29 : decode cX7_run 29 = .ok (.ireturn, 1) := by decide +kernel
theorem dX7_crest_0 : decode cX7_crest 0 = .ok (.aload_n 0, 1) := by decide +kernel
theorem dX7_crest_1 : decode cX7_crest 1 = .ok (.iload_n 1, 1) := by decide +kernel
theorem dX7_crest_2 : decode cX7_crest 2 = .ok (.invokevirtual 128, 3) := by decide +kernel
theorem dX7_crest_5 : decode cX7_crest 5 = .ok (.ifCond .eq 7, 3) := by decide +kernel
theorem dX7_crest_8 : decode cX7_crest 8 = .ok (.iload_n 2, 1) := by decide +kernel
theorem dX7_crest_9 : decode cX7_crest 9 = .ok (.ifCond .ge 6, 3) := by decide +kernel
theorem dX7_crest_12 : decode cX7_crest 12 = .ok (.ldc 90, 2) := by decide +kernel
theorem dX7_crest_14 : decode cX7_crest 14 = .ok (.ireturn, 1) := by decide +kernel
theorem dX7_crest_15 : decode cX7_crest 15 = .ok (.iconst (-1), 1) := by decide +kernel
theorem dX7_crest_16 : decode cX7_crest 16 = .ok (.istore_n 3, 1) := by decide +kernel
theorem dX7_crest_17 : decode cX7_crest 17 = .ok (.iconst 0, 1) := by decide +kernel
theorem dX7_crest_18 : decode cX7_crest 18 = .ok (.istore 4, 2) := by decide +kernel
theorem dX7_crest_20 : decode cX7_crest 20 = .ok (.iload 4, 2) := by decide +kernel
theorem dX7_crest_22 : decode cX7_crest 22 = .ok (.bipush 24, 2) := by decide +kernel
theorem dX7_crest_24 : decode cX7_crest 24 = .ok (.if_icmp .ge 35, 3) := by decide +kernel
theorem dX7_crest_27 : decode cX7_crest 27 = .ok (.iload_n 3, 1) := by decide +kernel
theorem dX7_crest_28 : decode cX7_crest 28 = .ok (.aload_n 0, 1) := by decide +kernel
theorem dX7_crest_29 : decode cX7_crest 29 = .ok (.iload_n 1, 1) := by decide +kernel
theorem dX7_crest_30 : decode cX7_crest 30 = .ok (.iload 4, 2) := by decide +kernel
theorem dX7_crest_32 : decode cX7_crest 32 = .ok (.invokevirtual 111, 3) := by decide +kernel
theorem dX7_crest_35 : decode cX7_crest 35 = .ok (.ifCond .eq 7, 3) := by decide +kernel
theorem dX7_crest_38 : decode cX7_crest 38 = .ok (.iconst 1, 1) := by decide +kernel
theorem dX7_crest_39 : decode cX7_crest 39 = .ok (.goto 4, 3) := by decide +kernel
theorem dX7_crest_42 : decode cX7_crest 42 = .ok (.iconst 0, 1) := by decide +kernel
theorem dX7_crest_43 : decode cX7_crest 43 = .ok (.iadd, 1) := by decide +kernel
theorem dX7_crest_44 : decode cX7_crest 44 = .ok (.istore_n 3, 1) := by decide +kernel
theorem dX7_crest_45 : decode cX7_crest 45 = .ok (.iload_n 3, 1) := by decide +kernel
theorem dX7_crest_46 : decode cX7_crest 46 = .ok (.iload_n 2, 1) := by decide +kernel
theorem dX7_crest_47 : decode cX7_crest 47 = .ok (.if_icmp .ne 6, 3) := by decide +kernel
theorem dX7_crest_50 : decode cX7_crest 50 = .ok (.iload 4, 2) := by decide +kernel
theorem dX7_crest_52 : decode cX7_crest 52 = .ok (.ireturn, 1) := by decide +kernel
theorem dX7_crest_53 : decode cX7_crest 53 = .ok (.iinc 4 1, 3) := by decide +kernel
theorem dX7_crest_56 : decode cX7_crest 56 = .ok (.goto (-36), 3) := by decide +kernel
theorem dX7_crest_59 : decode cX7_crest 59 = .ok (.ldc 171, 2) := by decide +kernel
theorem dX7_crest_61 : decode cX7_crest 61 = .ok (.ireturn, 1) := by decide +kernel
theorem dX7_apart_0 : decode cX7_apart 0 = .ok (.aload_n 0, 1) := by decide +kernel
theorem dX7_apart_1 : decode cX7_apart 1 = .ok (.iload_n 1, 1) := by decide +kernel
theorem dX7_apart_2 : decode cX7_apart 2 = .ok (.invokevirtual 128, 3) := by decide +kernel
theorem dX7_apart_5 : decode cX7_apart 5 = .ok (.ifCond .ne 6, 3) := by decide +kernel
theorem dX7_apart_8 : decode cX7_apart 8 = .ok (.ldc 90, 2) := by decide +kernel
theorem dX7_apart_10 : decode cX7_apart 10 = .ok (.ireturn, 1) := by decide +kernel
theorem dX7_apart_11 : decode cX7_apart 11 = .ok (.aload_n 0, 1) := by decide +kernel
theorem dX7_apart_12 : decode cX7_apart 12 = .ok (.iload_n 1, 1) := by decide +kernel
theorem dX7_apart_13 : decode cX7_apart 13 = .ok (.invokevirtual 119, 3) := by decide +kernel
theorem dX7_apart_16 : decode cX7_apart 16 = .ok (.istore_n 2, 1) := by decide +kernel
theorem dX7_apart_17 : decode cX7_apart 17 = .ok (.iload_n 2, 1) := by decide +kernel
theorem dX7_apart_18 : decode cX7_apart 18 = .ok (.ifCond .ne 8, 3) := by decide +kernel
theorem dX7_apart_21 : decode cX7_apart 21 = .ok (.ldc 171, 2) := by decide +kernel
theorem dX7_apart_23 : decode cX7_apart 23 = .ok (.goto 8, 3) := by decide +kernel
theorem dX7_apart_26 : decode cX7_apart 26 = .ok (.sipush 2400, 3) := by decide +kernel
theorem dX7_apart_29 : decode cX7_apart 29 = .ok (.iload_n 2, 1) := by decide +kernel
theorem dX7_apart_30 : decode cX7_apart 30 = .ok (.idiv, 1) := by decide +kernel
theorem dX7_apart_31 : decode cX7_apart 31 = .ok (.ireturn, 1) := by decide +kernel
theorem dX7_flat_0 : decode cX7_flat 0 = .ok (.aload_n 0, 1) := by decide +kernel
theorem dX7_flat_1 : decode cX7_flat 1 = .ok (.iload_n 1, 1) := by decide +kernel
theorem dX7_flat_2 : decode cX7_flat 2 = .ok (.invokevirtual 128, 3) := by decide +kernel
theorem dX7_flat_5 : decode cX7_flat 5 = .ok (.ifCond .eq 13, 3) := by decide +kernel
theorem dX7_flat_8 : decode cX7_flat 8 = .ok (.iload_n 2, 1) := by decide +kernel
theorem dX7_flat_9 : decode cX7_flat 9 = .ok (.iconst 0, 1) := by decide +kernel
theorem dX7_flat_10 : decode cX7_flat 10 = .ok (.bipush 99, 2) := by decide +kernel
theorem dX7_flat_12 : decode cX7_flat 12 = .ok (.invokestatic 78, 3) := by decide +kernel
theorem dX7_flat_15 : decode cX7_flat 15 = .ok (.ifCond .ne 6, 3) := by decide +kernel
theorem dX7_flat_18 : decode cX7_flat 18 = .ok (.ldc 90, 2) := by decide +kernel
theorem dX7_flat_20 : decode cX7_flat 20 = .ok (.ireturn, 1) := by decide +kernel
theorem dX7_flat_21 : decode cX7_flat 21 = .ok (.iconst 0, 1) := by decide +kernel
theorem dX7_flat_22 : decode cX7_flat 22 = .ok (.istore_n 3, 1) := by decide +kernel
theorem dX7_flat_23 : decode cX7_flat 23 = .ok (.iload_n 3, 1) := by decide +kernel
theorem dX7_flat_24 : decode cX7_flat 24 = .ok (.bipush 24, 2) := by decide +kernel
theorem dX7_flat_26 : decode cX7_flat 26 = .ok (.if_icmp .ge 35, 3) := by decide +kernel
theorem dX7_flat_29 : decode cX7_flat 29 = .ok (.aload_n 0, 1) := by decide +kernel
theorem dX7_flat_30 : decode cX7_flat 30 = .ok (.iload_n 1, 1) := by decide +kernel
theorem dX7_flat_31 : decode cX7_flat 31 = .ok (.iload_n 3, 1) := by decide +kernel
theorem dX7_flat_32 : decode cX7_flat 32 = .ok (.invokevirtual 102, 3) := by decide +kernel
theorem dX7_flat_35 : decode cX7_flat 35 = .ok (.aload_n 0, 1) := by decide +kernel
theorem dX7_flat_36 : decode cX7_flat 36 = .ok (.iload_n 1, 1) := by decide +kernel
theorem dX7_flat_37 : decode cX7_flat 37 = .ok (.iload_n 3, 1) := by decide +kernel
theorem dX7_flat_38 : decode cX7_flat 38 = .ok (.iconst 1, 1) := by decide +kernel
theorem dX7_flat_39 : decode cX7_flat 39 = .ok (.iadd, 1) := by decide +kernel
theorem dX7_flat_40 : decode cX7_flat 40 = .ok (.invokevirtual 102, 3) := by decide +kernel
theorem dX7_flat_43 : decode cX7_flat 43 = .ok (.isub, 1) := by decide +kernel
theorem dX7_flat_44 : decode cX7_flat 44 = .ok (.iload_n 2, 1) := by decide +kernel
theorem dX7_flat_45 : decode cX7_flat 45 = .ok (.ineg, 1) := by decide +kernel
theorem dX7_flat_46 : decode cX7_flat 46 = .ok (.iload_n 2, 1) := by decide +kernel
theorem dX7_flat_47 : decode cX7_flat 47 = .ok (.invokestatic 78, 3) := by decide +kernel
theorem dX7_flat_50 : decode cX7_flat 50 = .ok (.ifCond .ne 5, 3) := by decide +kernel
theorem dX7_flat_53 : decode cX7_flat 53 = .ok (.iconst 0, 1) := by decide +kernel
theorem dX7_flat_54 : decode cX7_flat 54 = .ok (.ireturn, 1) := by decide +kernel
theorem dX7_flat_55 : decode cX7_flat 55 = .ok (.iinc 3 1, 3) := by decide +kernel
theorem dX7_flat_58 : decode cX7_flat 58 = .ok (.goto (-35), 3) := by decide +kernel
theorem dX7_flat_61 : decode cX7_flat 61 = .ok (.iconst 1, 1) := by decide +kernel
theorem dX7_flat_62 : decode cX7_flat 62 = .ok (.ireturn, 1) := by decide +kernel
theorem dX7_thinks_0 : decode cX7_thinks 0 = .ok (.iconst 0, 1) := by decide +kernel
theorem dX7_thinks_1 : decode cX7_thinks 1 = .ok (.istore_n 2, 1) := by decide +kernel
theorem dX7_thinks_2 : decode cX7_thinks 2 = .ok (.iload_n 2, 1) := by decide +kernel
theorem dX7_thinks_3 : decode cX7_thinks 3 = .ok (.bipush 26, 2) := by decide +kernel
theorem dX7_thinks_5 : decode cX7_thinks 5 = .ok (.if_icmp .ge 26, 3) := by decide +kernel
theorem dX7_thinks_8 : decode cX7_thinks 8 = .ok (.aload_n 0, 1) := by decide +kernel
theorem dX7_thinks_9 : decode cX7_thinks 9 = .ok (.getfield 22, 3) := by decide +kernel
theorem dX7_thinks_12 : decode cX7_thinks 12 = .ok (.iload_n 2, 1) := by decide +kernel
theorem dX7_thinks_13 : decode cX7_thinks 13 = .ok (.aload_n 0, 1) := by decide +kernel
theorem dX7_thinks_14 : decode cX7_thinks 14 = .ok (.getfield 9, 3) := by decide +kernel
theorem dX7_thinks_17 : decode cX7_thinks 17 = .ok (.iload_n 1, 1) := by decide +kernel
theorem dX7_thinks_18 : decode cX7_thinks 18 = .ok (.invokestatic 82, 3) := by decide +kernel
theorem dX7_thinks_21 : decode cX7_thinks 21 = .ok (.iload_n 2, 1) := by decide +kernel
theorem dX7_thinks_22 : decode cX7_thinks 22 = .ok (.iadd, 1) := by decide +kernel
theorem dX7_thinks_23 : decode cX7_thinks 23 = .ok (.iaload, 1) := by decide +kernel
theorem dX7_thinks_24 : decode cX7_thinks 24 = .ok (.iastore, 1) := by decide +kernel
theorem dX7_thinks_25 : decode cX7_thinks 25 = .ok (.iinc 2 1, 3) := by decide +kernel
theorem dX7_thinks_28 : decode cX7_thinks 28 = .ok (.goto (-26), 3) := by decide +kernel
theorem dX7_thinks_31 : decode cX7_thinks 31 = .ok (.return_, 1) := by decide +kernel
theorem dX7_putsBack_0 : decode cX7_putsBack 0 = .ok (.iconst 0, 1) := by decide +kernel
theorem dX7_putsBack_1 : decode cX7_putsBack 1 = .ok (.istore_n 2, 1) := by decide +kernel
theorem dX7_putsBack_2 : decode cX7_putsBack 2 = .ok (.iload_n 2, 1) := by decide +kernel
theorem dX7_putsBack_3 : decode cX7_putsBack 3 = .ok (.bipush 26, 2) := by decide +kernel
theorem dX7_putsBack_5 : decode cX7_putsBack 5 = .ok (.if_icmp .ge 26, 3) := by decide +kernel
theorem dX7_putsBack_8 : decode cX7_putsBack 8 = .ok (.aload_n 0, 1) := by decide +kernel
theorem dX7_putsBack_9 : decode cX7_putsBack 9 = .ok (.getfield 9, 3) := by decide +kernel
theorem dX7_putsBack_12 : decode cX7_putsBack 12 = .ok (.iload_n 1, 1) := by decide +kernel
theorem dX7_putsBack_13 : decode cX7_putsBack 13 = .ok (.invokestatic 82, 3) := by decide +kernel
theorem dX7_putsBack_16 : decode cX7_putsBack 16 = .ok (.iload_n 2, 1) := by decide +kernel
theorem dX7_putsBack_17 : decode cX7_putsBack 17 = .ok (.iadd, 1) := by decide +kernel
theorem dX7_putsBack_18 : decode cX7_putsBack 18 = .ok (.aload_n 0, 1) := by decide +kernel
theorem dX7_putsBack_19 : decode cX7_putsBack 19 = .ok (.getfield 22, 3) := by decide +kernel
theorem dX7_putsBack_22 : decode cX7_putsBack 22 = .ok (.iload_n 2, 1) := by decide +kernel
theorem dX7_putsBack_23 : decode cX7_putsBack 23 = .ok (.iaload, 1) := by decide +kernel
theorem dX7_putsBack_24 : decode cX7_putsBack 24 = .ok (.iastore, 1) := by decide +kernel
theorem dX7_putsBack_25 : decode cX7_putsBack 25 = .ok (.iinc 2 1, 3) := by decide +kernel
theorem dX7_putsBack_28 : decode cX7_putsBack 28 = .ok (.goto (-26), 3) := by decide +kernel
theorem dX7_putsBack_31 : decode cX7_putsBack 31 = .ok (.return_, 1) := by decide +kernel
theorem dX7_soon_0 : decode cX7_soon 0 = .ok (.aload_n 0, 1) := by decide +kernel
theorem dX7_soon_1 : decode cX7_soon 1 = .ok (.iload_n 1, 1) := by decide +kernel
theorem dX7_soon_2 : decode cX7_soon 2 = .ok (.invokevirtual 128, 3) := by decide +kernel
theorem dX7_soon_5 : decode cX7_soon 5 = .ok (.ifCond .eq 13, 3) := by decide +kernel
theorem dX7_soon_8 : decode cX7_soon 8 = .ok (.iload_n 2, 1) := by decide +kernel
theorem dX7_soon_9 : decode cX7_soon 9 = .ok (.iconst 0, 1) := by decide +kernel
theorem dX7_soon_10 : decode cX7_soon 10 = .ok (.bipush 24, 2) := by decide +kernel
theorem dX7_soon_12 : decode cX7_soon 12 = .ok (.invokestatic 78, 3) := by decide +kernel
theorem dX7_soon_15 : decode cX7_soon 15 = .ok (.ifCond .ne 6, 3) := by decide +kernel
theorem dX7_soon_18 : decode cX7_soon 18 = .ok (.ldc 90, 2) := by decide +kernel
theorem dX7_soon_20 : decode cX7_soon 20 = .ok (.ireturn, 1) := by decide +kernel
theorem dX7_soon_21 : decode cX7_soon 21 = .ok (.aload_n 0, 1) := by decide +kernel
theorem dX7_soon_22 : decode cX7_soon 22 = .ok (.iload_n 1, 1) := by decide +kernel
theorem dX7_soon_23 : decode cX7_soon 23 = .ok (.invokevirtual 172, 3) := by decide +kernel
theorem dX7_soon_26 : decode cX7_soon 26 = .ok (.iconst 0, 1) := by decide +kernel
theorem dX7_soon_27 : decode cX7_soon 27 = .ok (.istore_n 3, 1) := by decide +kernel
theorem dX7_soon_28 : decode cX7_soon 28 = .ok (.iload_n 3, 1) := by decide +kernel
theorem dX7_soon_29 : decode cX7_soon 29 = .ok (.bipush 100, 2) := by decide +kernel
theorem dX7_soon_31 : decode cX7_soon 31 = .ok (.if_icmp .gt 25, 3) := by decide +kernel
theorem dX7_soon_34 : decode cX7_soon 34 = .ok (.aload_n 0, 1) := by decide +kernel
theorem dX7_soon_35 : decode cX7_soon 35 = .ok (.iload_n 1, 1) := by decide +kernel
theorem dX7_soon_36 : decode cX7_soon 36 = .ok (.invokevirtual 119, 3) := by decide +kernel
theorem dX7_soon_39 : decode cX7_soon 39 = .ok (.iload_n 2, 1) := by decide +kernel
theorem dX7_soon_40 : decode cX7_soon 40 = .ok (.if_icmp .ge 16, 3) := by decide +kernel
theorem dX7_soon_43 : decode cX7_soon 43 = .ok (.aload_n 0, 1) := by decide +kernel
theorem dX7_soon_44 : decode cX7_soon 44 = .ok (.iload_n 1, 1) := by decide +kernel
theorem dX7_soon_45 : decode cX7_soon 45 = .ok (.invokevirtual 165, 3) := by decide +kernel
theorem dX7_soon_48 : decode cX7_soon 48 = .ok (.istore 4, 2) := by decide +kernel
theorem dX7_soon_50 : decode cX7_soon 50 = .ok (.iinc 3 1, 3) := by decide +kernel
theorem dX7_soon_53 : decode cX7_soon 53 = .ok (.goto (-25), 3) := by decide +kernel
theorem dX7_soon_56 : decode cX7_soon 56 = .ok (.aload_n 0, 1) := by decide +kernel
theorem dX7_soon_57 : decode cX7_soon 57 = .ok (.iload_n 1, 1) := by decide +kernel
theorem dX7_soon_58 : decode cX7_soon 58 = .ok (.invokevirtual 176, 3) := by decide +kernel
theorem dX7_soon_61 : decode cX7_soon 61 = .ok (.iload_n 3, 1) := by decide +kernel
theorem dX7_soon_62 : decode cX7_soon 62 = .ok (.bipush 100, 2) := by decide +kernel
theorem dX7_soon_64 : decode cX7_soon 64 = .ok (.if_icmp .gt 7, 3) := by decide +kernel
theorem dX7_soon_67 : decode cX7_soon 67 = .ok (.iload_n 3, 1) := by decide +kernel
theorem dX7_soon_68 : decode cX7_soon 68 = .ok (.goto 5, 3) := by decide +kernel
theorem dX7_soon_71 : decode cX7_soon 71 = .ok (.ldc 171, 2) := by decide +kernel
theorem dX7_soon_73 : decode cX7_soon 73 = .ok (.ireturn, 1) := by decide +kernel
theorem dX7_isAsBefore_0 : decode cX7_isAsBefore 0 = .ok (.iconst 2, 1) := by decide +kernel
theorem dX7_isAsBefore_1 : decode cX7_isAsBefore 1 = .ok (.istore_n 2, 1) := by decide +kernel
theorem dX7_isAsBefore_2 : decode cX7_isAsBefore 2 = .ok (.iload_n 2, 1) := by decide +kernel
theorem dX7_isAsBefore_3 : decode cX7_isAsBefore 3 = .ok (.bipush 26, 2) := by decide +kernel
theorem dX7_isAsBefore_5 : decode cX7_isAsBefore 5 = .ok (.if_icmp .ge 31, 3) := by decide +kernel
theorem dX7_isAsBefore_8 : decode cX7_isAsBefore 8 = .ok (.aload_n 0, 1) := by decide +kernel
theorem dX7_isAsBefore_9 : decode cX7_isAsBefore 9 = .ok (.getfield 9, 3) := by decide +kernel
theorem dX7_isAsBefore_12 : decode cX7_isAsBefore 12 = .ok (.iload_n 1, 1) := by decide +kernel
theorem dX7_isAsBefore_13 : decode cX7_isAsBefore 13 = .ok (.invokestatic 82, 3) := by decide +kernel
theorem dX7_isAsBefore_16 : decode cX7_isAsBefore 16 = .ok (.iload_n 2, 1) := by decide +kernel
theorem dX7_isAsBefore_17 : decode cX7_isAsBefore 17 = .ok (.iadd, 1) := by decide +kernel
theorem dX7_isAsBefore_18 : decode cX7_isAsBefore 18 = .ok (.iaload, 1) := by decide +kernel
theorem dX7_isAsBefore_19 : decode cX7_isAsBefore 19 = .ok (.aload_n 0, 1) := by decide +kernel
theorem dX7_isAsBefore_20 : decode cX7_isAsBefore 20 = .ok (.getfield 22, 3) := by decide +kernel
theorem dX7_isAsBefore_23 : decode cX7_isAsBefore 23 = .ok (.iload_n 2, 1) := by decide +kernel
theorem dX7_isAsBefore_24 : decode cX7_isAsBefore 24 = .ok (.iaload, 1) := by decide +kernel
theorem dX7_isAsBefore_25 : decode cX7_isAsBefore 25 = .ok (.if_icmp .eq 5, 3) := by decide +kernel
theorem dX7_isAsBefore_28 : decode cX7_isAsBefore 28 = .ok (.iconst 0, 1) := by decide +kernel
theorem dX7_isAsBefore_29 : decode cX7_isAsBefore 29 = .ok (.ireturn, 1) := by decide +kernel
theorem dX7_isAsBefore_30 : decode cX7_isAsBefore 30 = .ok (.iinc 2 1, 3) := by decide +kernel
theorem dX7_isAsBefore_33 : decode cX7_isAsBefore 33 = .ok (.goto (-31), 3) := by decide +kernel
theorem dX7_isAsBefore_36 : decode cX7_isAsBefore 36 = .ok (.iconst 1, 1) := by decide +kernel
theorem dX7_isAsBefore_37 : decode cX7_isAsBefore 37 = .ok (.ireturn, 1) := by decide +kernel
theorem dX7_period_0 : decode cX7_period 0 = .ok (.aload_n 0, 1) := by decide +kernel
theorem dX7_period_1 : decode cX7_period 1 = .ok (.iload_n 1, 1) := by decide +kernel
theorem dX7_period_2 : decode cX7_period 2 = .ok (.invokevirtual 128, 3) := by decide +kernel
theorem dX7_period_5 : decode cX7_period 5 = .ok (.ifCond .ne 6, 3) := by decide +kernel
theorem dX7_period_8 : decode cX7_period 8 = .ok (.ldc 90, 2) := by decide +kernel
theorem dX7_period_10 : decode cX7_period 10 = .ok (.ireturn, 1) := by decide +kernel
theorem dX7_period_11 : decode cX7_period 11 = .ok (.aload_n 0, 1) := by decide +kernel
theorem dX7_period_12 : decode cX7_period 12 = .ok (.iload_n 1, 1) := by decide +kernel
theorem dX7_period_13 : decode cX7_period 13 = .ok (.invokevirtual 172, 3) := by decide +kernel
theorem dX7_period_16 : decode cX7_period 16 = .ok (.ldc 171, 2) := by decide +kernel
theorem dX7_period_18 : decode cX7_period 18 = .ok (.istore_n 2, 1) := by decide +kernel
theorem dX7_period_19 : decode cX7_period 19 = .ok (.iconst 1, 1) := by decide +kernel
theorem dX7_period_20 : decode cX7_period 20 = .ok (.istore_n 3, 1) := by decide +kernel
theorem dX7_period_21 : decode cX7_period 21 = .ok (.iload_n 3, 1) := by decide +kernel
theorem dX7_period_22 : decode cX7_period 22 = .ok (.bipush 100, 2) := by decide +kernel
theorem dX7_period_24 : decode cX7_period 24 = .ok (.if_icmp .gt 37, 3) := by decide +kernel
theorem dX7_period_27 : decode cX7_period 27 = .ok (.iload_n 2, 1) := by decide +kernel
theorem dX7_period_28 : decode cX7_period 28 = .ok (.ldc 171, 2) := by decide +kernel
theorem dX7_period_30 : decode cX7_period 30 = .ok (.if_icmp .ne 31, 3) := by decide +kernel
theorem dX7_period_33 : decode cX7_period 33 = .ok (.aload_n 0, 1) := by decide +kernel
theorem dX7_period_34 : decode cX7_period 34 = .ok (.iload_n 1, 1) := by decide +kernel
theorem dX7_period_35 : decode cX7_period 35 = .ok (.invokevirtual 165, 3) := by decide +kernel
theorem dX7_period_38 : decode cX7_period 38 = .ok (.istore 4, 2) := by decide +kernel
theorem dX7_period_40 : decode cX7_period 40 = .ok (.aload_n 0, 1) := by decide +kernel
theorem dX7_period_41 : decode cX7_period 41 = .ok (.iload_n 1, 1) := by decide +kernel
theorem dX7_period_42 : decode cX7_period 42 = .ok (.invokevirtual 179, 3) := by decide +kernel
theorem dX7_period_45 : decode cX7_period 45 = .ok (.ifCond .eq 7, 3) := by decide +kernel
theorem dX7_period_48 : decode cX7_period 48 = .ok (.iload_n 3, 1) := by decide +kernel
theorem dX7_period_49 : decode cX7_period 49 = .ok (.goto 5, 3) := by decide +kernel
theorem dX7_period_52 : decode cX7_period 52 = .ok (.ldc 171, 2) := by decide +kernel
theorem dX7_period_54 : decode cX7_period 54 = .ok (.istore_n 2, 1) := by decide +kernel
theorem dX7_period_55 : decode cX7_period 55 = .ok (.iinc 3 1, 3) := by decide +kernel
theorem dX7_period_58 : decode cX7_period 58 = .ok (.goto (-37), 3) := by decide +kernel
theorem dX7_period_61 : decode cX7_period 61 = .ok (.aload_n 0, 1) := by decide +kernel
theorem dX7_period_62 : decode cX7_period 62 = .ok (.iload_n 1, 1) := by decide +kernel
theorem dX7_period_63 : decode cX7_period 63 = .ok (.invokevirtual 176, 3) := by decide +kernel
theorem dX7_period_66 : decode cX7_period 66 = .ok (.iload_n 2, 1) := by decide +kernel
theorem dX7_period_67 : decode cX7_period 67 = .ok (.ireturn, 1) := by decide +kernel
theorem dX7_foot_0 : decode cX7_foot 0 = .ok (.aload_n 0, 1) := by decide +kernel
theorem dX7_foot_1 : decode cX7_foot 1 = .ok (.iload_n 1, 1) := by decide +kernel
theorem dX7_foot_2 : decode cX7_foot 2 = .ok (.invokevirtual 128, 3) := by decide +kernel
theorem dX7_foot_5 : decode cX7_foot 5 = .ok (.ifCond .eq 20, 3) := by decide +kernel
theorem dX7_foot_8 : decode cX7_foot 8 = .ok (.iload_n 2, 1) := by decide +kernel
theorem dX7_foot_9 : decode cX7_foot 9 = .ok (.invokestatic 151, 3) := by decide +kernel
theorem dX7_foot_12 : decode cX7_foot 12 = .ok (.ifCond .eq 13, 3) := by decide +kernel
theorem dX7_foot_15 : decode cX7_foot 15 = .ok (.iload_n 3, 1) := by decide +kernel
theorem dX7_foot_16 : decode cX7_foot 16 = .ok (.iconst 0, 1) := by decide +kernel
theorem dX7_foot_17 : decode cX7_foot 17 = .ok (.bipush 99, 2) := by decide +kernel
theorem dX7_foot_19 : decode cX7_foot 19 = .ok (.invokestatic 78, 3) := by decide +kernel
theorem dX7_foot_22 : decode cX7_foot 22 = .ok (.ifCond .ne 6, 3) := by decide +kernel
theorem dX7_foot_25 : decode cX7_foot 25 = .ok (.ldc 90, 2) := by decide +kernel
theorem dX7_foot_27 : decode cX7_foot 27 = .ok (.ireturn, 1) := by decide +kernel
theorem dX7_foot_28 : decode cX7_foot 28 = .ok (.iload_n 3, 1) := by decide +kernel
theorem dX7_foot_29 : decode cX7_foot 29 = .ok (.iconst 0, 1) := by decide +kernel
theorem dX7_foot_30 : decode cX7_foot 30 = .ok (.aload_n 0, 1) := by decide +kernel
theorem dX7_foot_31 : decode cX7_foot 31 = .ok (.iload_n 1, 1) := by decide +kernel
theorem dX7_foot_32 : decode cX7_foot 32 = .ok (.iload_n 2, 1) := by decide +kernel
theorem dX7_foot_33 : decode cX7_foot 33 = .ok (.invokevirtual 102, 3) := by decide +kernel
theorem dX7_foot_36 : decode cX7_foot 36 = .ok (.invokestatic 95, 3) := by decide +kernel
theorem dX7_foot_39 : decode cX7_foot 39 = .ok (.istore 4, 2) := by decide +kernel
theorem dX7_foot_41 : decode cX7_foot 41 = .ok (.aload_n 0, 1) := by decide +kernel
theorem dX7_foot_42 : decode cX7_foot 42 = .ok (.getfield 9, 3) := by decide +kernel
theorem dX7_foot_45 : decode cX7_foot 45 = .ok (.iload_n 1, 1) := by decide +kernel
theorem dX7_foot_46 : decode cX7_foot 46 = .ok (.iload_n 2, 1) := by decide +kernel
theorem dX7_foot_47 : decode cX7_foot 47 = .ok (.invokestatic 86, 3) := by decide +kernel
theorem dX7_foot_50 : decode cX7_foot 50 = .ok (.dup2, 1) := by decide +kernel
theorem dX7_foot_51 : decode cX7_foot 51 = .ok (.iaload, 1) := by decide +kernel
theorem dX7_foot_52 : decode cX7_foot 52 = .ok (.iload 4, 2) := by decide +kernel
theorem dX7_foot_54 : decode cX7_foot 54 = .ok (.isub, 1) := by decide +kernel
theorem dX7_foot_55 : decode cX7_foot 55 = .ok (.iastore, 1) := by decide +kernel
theorem dX7_foot_56 : decode cX7_foot 56 = .ok (.aload_n 0, 1) := by decide +kernel
theorem dX7_foot_57 : decode cX7_foot 57 = .ok (.getfield 9, 3) := by decide +kernel
theorem dX7_foot_60 : decode cX7_foot 60 = .ok (.iload_n 1, 1) := by decide +kernel
theorem dX7_foot_61 : decode cX7_foot 61 = .ok (.iload_n 2, 1) := by decide +kernel
theorem dX7_foot_62 : decode cX7_foot 62 = .ok (.iconst 1, 1) := by decide +kernel
theorem dX7_foot_63 : decode cX7_foot 63 = .ok (.iadd, 1) := by decide +kernel
theorem dX7_foot_64 : decode cX7_foot 64 = .ok (.invokestatic 86, 3) := by decide +kernel
theorem dX7_foot_67 : decode cX7_foot 67 = .ok (.dup2, 1) := by decide +kernel
theorem dX7_foot_68 : decode cX7_foot 68 = .ok (.iaload, 1) := by decide +kernel
theorem dX7_foot_69 : decode cX7_foot 69 = .ok (.iload 4, 2) := by decide +kernel
theorem dX7_foot_71 : decode cX7_foot 71 = .ok (.iconst 1, 1) := by decide +kernel
theorem dX7_foot_72 : decode cX7_foot 72 = .ok (.iadd, 1) := by decide +kernel
theorem dX7_foot_73 : decode cX7_foot 73 = .ok (.iconst 2, 1) := by decide +kernel
theorem dX7_foot_74 : decode cX7_foot 74 = .ok (.idiv, 1) := by decide +kernel
theorem dX7_foot_75 : decode cX7_foot 75 = .ok (.iadd, 1) := by decide +kernel
theorem dX7_foot_76 : decode cX7_foot 76 = .ok (.iastore, 1) := by decide +kernel
theorem dX7_foot_77 : decode cX7_foot 77 = .ok (.aload_n 0, 1) := by decide +kernel
theorem dX7_foot_78 : decode cX7_foot 78 = .ok (.getfield 9, 3) := by decide +kernel
theorem dX7_foot_81 : decode cX7_foot 81 = .ok (.iload_n 1, 1) := by decide +kernel
theorem dX7_foot_82 : decode cX7_foot 82 = .ok (.iload_n 2, 1) := by decide +kernel
theorem dX7_foot_83 : decode cX7_foot 83 = .ok (.iconst 1, 1) := by decide +kernel
theorem dX7_foot_84 : decode cX7_foot 84 = .ok (.isub, 1) := by decide +kernel
theorem dX7_foot_85 : decode cX7_foot 85 = .ok (.invokestatic 86, 3) := by decide +kernel
theorem dX7_foot_88 : decode cX7_foot 88 = .ok (.dup2, 1) := by decide +kernel
theorem dX7_foot_89 : decode cX7_foot 89 = .ok (.iaload, 1) := by decide +kernel
theorem dX7_foot_90 : decode cX7_foot 90 = .ok (.iload 4, 2) := by decide +kernel
theorem dX7_foot_92 : decode cX7_foot 92 = .ok (.iconst 2, 1) := by decide +kernel
theorem dX7_foot_93 : decode cX7_foot 93 = .ok (.idiv, 1) := by decide +kernel
theorem dX7_foot_94 : decode cX7_foot 94 = .ok (.iadd, 1) := by decide +kernel
theorem dX7_foot_95 : decode cX7_foot 95 = .ok (.iastore, 1) := by decide +kernel
theorem dX7_foot_96 : decode cX7_foot 96 = .ok (.iload 4, 2) := by decide +kernel
theorem dX7_foot_98 : decode cX7_foot 98 = .ok (.ireturn, 1) := by decide +kernel
theorem dX7_worm_0 : decode cX7_worm 0 = .ok (.aload_n 0, 1) := by decide +kernel
theorem dX7_worm_1 : decode cX7_worm 1 = .ok (.iload_n 1, 1) := by decide +kernel
theorem dX7_worm_2 : decode cX7_worm 2 = .ok (.invokevirtual 128, 3) := by decide +kernel
theorem dX7_worm_5 : decode cX7_worm 5 = .ok (.ifCond .eq 10, 3) := by decide +kernel
theorem dX7_worm_8 : decode cX7_worm 8 = .ok (.iload_n 2, 1) := by decide +kernel
theorem dX7_worm_9 : decode cX7_worm 9 = .ok (.invokestatic 151, 3) := by decide +kernel
theorem dX7_worm_12 : decode cX7_worm 12 = .ok (.ifCond .ne 6, 3) := by decide +kernel
theorem dX7_worm_15 : decode cX7_worm 15 = .ok (.ldc 90, 2) := by decide +kernel
theorem dX7_worm_17 : decode cX7_worm 17 = .ok (.ireturn, 1) := by decide +kernel
theorem dX7_worm_18 : decode cX7_worm 18 = .ok (.aload_n 0, 1) := by decide +kernel
theorem dX7_worm_19 : decode cX7_worm 19 = .ok (.iload_n 1, 1) := by decide +kernel
theorem dX7_worm_20 : decode cX7_worm 20 = .ok (.iload_n 2, 1) := by decide +kernel
theorem dX7_worm_21 : decode cX7_worm 21 = .ok (.iconst 1, 1) := by decide +kernel
theorem dX7_worm_22 : decode cX7_worm 22 = .ok (.isub, 1) := by decide +kernel
theorem dX7_worm_23 : decode cX7_worm 23 = .ok (.invokevirtual 102, 3) := by decide +kernel
theorem dX7_worm_26 : decode cX7_worm 26 = .ok (.aload_n 0, 1) := by decide +kernel
theorem dX7_worm_27 : decode cX7_worm 27 = .ok (.iload_n 1, 1) := by decide +kernel
theorem dX7_worm_28 : decode cX7_worm 28 = .ok (.iload_n 2, 1) := by decide +kernel
theorem dX7_worm_29 : decode cX7_worm 29 = .ok (.invokevirtual 102, 3) := by decide +kernel
theorem dX7_worm_32 : decode cX7_worm 32 = .ok (.iadd, 1) := by decide +kernel
theorem dX7_worm_33 : decode cX7_worm 33 = .ok (.aload_n 0, 1) := by decide +kernel
theorem dX7_worm_34 : decode cX7_worm 34 = .ok (.iload_n 1, 1) := by decide +kernel
theorem dX7_worm_35 : decode cX7_worm 35 = .ok (.iload_n 2, 1) := by decide +kernel
theorem dX7_worm_36 : decode cX7_worm 36 = .ok (.iconst 1, 1) := by decide +kernel
theorem dX7_worm_37 : decode cX7_worm 37 = .ok (.iadd, 1) := by decide +kernel
theorem dX7_worm_38 : decode cX7_worm 38 = .ok (.invokevirtual 102, 3) := by decide +kernel
theorem dX7_worm_41 : decode cX7_worm 41 = .ok (.iadd, 1) := by decide +kernel
theorem dX7_worm_42 : decode cX7_worm 42 = .ok (.istore_n 3, 1) := by decide +kernel
theorem dX7_worm_43 : decode cX7_worm 43 = .ok (.aload_n 0, 1) := by decide +kernel
theorem dX7_worm_44 : decode cX7_worm 44 = .ok (.getfield 9, 3) := by decide +kernel
theorem dX7_worm_47 : decode cX7_worm 47 = .ok (.iload_n 1, 1) := by decide +kernel
theorem dX7_worm_48 : decode cX7_worm 48 = .ok (.iload_n 2, 1) := by decide +kernel
theorem dX7_worm_49 : decode cX7_worm 49 = .ok (.iconst 1, 1) := by decide +kernel
theorem dX7_worm_50 : decode cX7_worm 50 = .ok (.isub, 1) := by decide +kernel
theorem dX7_worm_51 : decode cX7_worm 51 = .ok (.invokestatic 86, 3) := by decide +kernel
theorem dX7_worm_54 : decode cX7_worm 54 = .ok (.iload_n 3, 1) := by decide +kernel
theorem dX7_worm_55 : decode cX7_worm 55 = .ok (.iconst 3, 1) := by decide +kernel
theorem dX7_worm_56 : decode cX7_worm 56 = .ok (.idiv, 1) := by decide +kernel
theorem dX7_worm_57 : decode cX7_worm 57 = .ok (.iastore, 1) := by decide +kernel
theorem dX7_worm_58 : decode cX7_worm 58 = .ok (.aload_n 0, 1) := by decide +kernel
theorem dX7_worm_59 : decode cX7_worm 59 = .ok (.getfield 9, 3) := by decide +kernel
theorem dX7_worm_62 : decode cX7_worm 62 = .ok (.iload_n 1, 1) := by decide +kernel
theorem dX7_worm_63 : decode cX7_worm 63 = .ok (.iload_n 2, 1) := by decide +kernel
theorem dX7_worm_64 : decode cX7_worm 64 = .ok (.iconst 1, 1) := by decide +kernel
theorem dX7_worm_65 : decode cX7_worm 65 = .ok (.iadd, 1) := by decide +kernel
theorem dX7_worm_66 : decode cX7_worm 66 = .ok (.invokestatic 86, 3) := by decide +kernel
theorem dX7_worm_69 : decode cX7_worm 69 = .ok (.iload_n 3, 1) := by decide +kernel
theorem dX7_worm_70 : decode cX7_worm 70 = .ok (.iconst 3, 1) := by decide +kernel
theorem dX7_worm_71 : decode cX7_worm 71 = .ok (.idiv, 1) := by decide +kernel
theorem dX7_worm_72 : decode cX7_worm 72 = .ok (.iastore, 1) := by decide +kernel
theorem dX7_worm_73 : decode cX7_worm 73 = .ok (.aload_n 0, 1) := by decide +kernel
theorem dX7_worm_74 : decode cX7_worm 74 = .ok (.getfield 9, 3) := by decide +kernel
theorem dX7_worm_77 : decode cX7_worm 77 = .ok (.iload_n 1, 1) := by decide +kernel
theorem dX7_worm_78 : decode cX7_worm 78 = .ok (.iload_n 2, 1) := by decide +kernel
theorem dX7_worm_79 : decode cX7_worm 79 = .ok (.invokestatic 86, 3) := by decide +kernel
theorem dX7_worm_82 : decode cX7_worm 82 = .ok (.iload_n 3, 1) := by decide +kernel
theorem dX7_worm_83 : decode cX7_worm 83 = .ok (.iconst 2, 1) := by decide +kernel
theorem dX7_worm_84 : decode cX7_worm 84 = .ok (.iload_n 3, 1) := by decide +kernel
theorem dX7_worm_85 : decode cX7_worm 85 = .ok (.iconst 3, 1) := by decide +kernel
theorem dX7_worm_86 : decode cX7_worm 86 = .ok (.idiv, 1) := by decide +kernel
theorem dX7_worm_87 : decode cX7_worm 87 = .ok (.imul, 1) := by decide +kernel
theorem dX7_worm_88 : decode cX7_worm 88 = .ok (.isub, 1) := by decide +kernel
theorem dX7_worm_89 : decode cX7_worm 89 = .ok (.iastore, 1) := by decide +kernel
theorem dX7_worm_90 : decode cX7_worm 90 = .ok (.aload_n 0, 1) := by decide +kernel
theorem dX7_worm_91 : decode cX7_worm 91 = .ok (.iload_n 1, 1) := by decide +kernel
theorem dX7_worm_92 : decode cX7_worm 92 = .ok (.iload_n 2, 1) := by decide +kernel
theorem dX7_worm_93 : decode cX7_worm 93 = .ok (.invokevirtual 102, 3) := by decide +kernel
theorem dX7_worm_96 : decode cX7_worm 96 = .ok (.ireturn, 1) := by decide +kernel
theorem dX7_press_0 : decode cX7_press 0 = .ok (.aload_n 0, 1) := by decide +kernel
theorem dX7_press_1 : decode cX7_press 1 = .ok (.iload_n 1, 1) := by decide +kernel
theorem dX7_press_2 : decode cX7_press 2 = .ok (.invokevirtual 128, 3) := by decide +kernel
theorem dX7_press_5 : decode cX7_press 5 = .ok (.ifCond .eq 13, 3) := by decide +kernel
theorem dX7_press_8 : decode cX7_press 8 = .ok (.iload_n 2, 1) := by decide +kernel
theorem dX7_press_9 : decode cX7_press 9 = .ok (.iconst 0, 1) := by decide +kernel
theorem dX7_press_10 : decode cX7_press 10 = .ok (.bipush 100, 2) := by decide +kernel
theorem dX7_press_12 : decode cX7_press 12 = .ok (.invokestatic 78, 3) := by decide +kernel
theorem dX7_press_15 : decode cX7_press 15 = .ok (.ifCond .ne 6, 3) := by decide +kernel
theorem dX7_press_18 : decode cX7_press 18 = .ok (.ldc 90, 2) := by decide +kernel
theorem dX7_press_20 : decode cX7_press 20 = .ok (.ireturn, 1) := by decide +kernel
theorem dX7_press_21 : decode cX7_press 21 = .ok (.aload_n 0, 1) := by decide +kernel
theorem dX7_press_22 : decode cX7_press 22 = .ok (.iload_n 1, 1) := by decide +kernel
theorem dX7_press_23 : decode cX7_press 23 = .ok (.invokevirtual 125, 3) := by decide +kernel
theorem dX7_press_26 : decode cX7_press 26 = .ok (.istore_n 3, 1) := by decide +kernel
theorem dX7_press_27 : decode cX7_press 27 = .ok (.iconst 0, 1) := by decide +kernel
theorem dX7_press_28 : decode cX7_press 28 = .ok (.istore 4, 2) := by decide +kernel
theorem dX7_press_30 : decode cX7_press 30 = .ok (.iload 4, 2) := by decide +kernel
theorem dX7_press_32 : decode cX7_press 32 = .ok (.bipush 24, 2) := by decide +kernel
theorem dX7_press_34 : decode cX7_press 34 = .ok (.if_icmp .ge 32, 3) := by decide +kernel
theorem dX7_press_37 : decode cX7_press 37 = .ok (.aload_n 0, 1) := by decide +kernel
theorem dX7_press_38 : decode cX7_press 38 = .ok (.getfield 9, 3) := by decide +kernel
theorem dX7_press_41 : decode cX7_press 41 = .ok (.iload_n 1, 1) := by decide +kernel
theorem dX7_press_42 : decode cX7_press 42 = .ok (.iload 4, 2) := by decide +kernel
theorem dX7_press_44 : decode cX7_press 44 = .ok (.invokestatic 86, 3) := by decide +kernel
theorem dX7_press_47 : decode cX7_press 47 = .ok (.aload_n 0, 1) := by decide +kernel
theorem dX7_press_48 : decode cX7_press 48 = .ok (.iload_n 1, 1) := by decide +kernel
theorem dX7_press_49 : decode cX7_press 49 = .ok (.iload 4, 2) := by decide +kernel
theorem dX7_press_51 : decode cX7_press 51 = .ok (.invokevirtual 102, 3) := by decide +kernel
theorem dX7_press_54 : decode cX7_press 54 = .ok (.iload_n 2, 1) := by decide +kernel
theorem dX7_press_55 : decode cX7_press 55 = .ok (.imul, 1) := by decide +kernel
theorem dX7_press_56 : decode cX7_press 56 = .ok (.bipush 100, 2) := by decide +kernel
theorem dX7_press_58 : decode cX7_press 58 = .ok (.idiv, 1) := by decide +kernel
theorem dX7_press_59 : decode cX7_press 59 = .ok (.iastore, 1) := by decide +kernel
theorem dX7_press_60 : decode cX7_press 60 = .ok (.iinc 4 1, 3) := by decide +kernel
theorem dX7_press_63 : decode cX7_press 63 = .ok (.goto (-33), 3) := by decide +kernel
theorem dX7_press_66 : decode cX7_press 66 = .ok (.iload_n 3, 1) := by decide +kernel
theorem dX7_press_67 : decode cX7_press 67 = .ok (.aload_n 0, 1) := by decide +kernel
theorem dX7_press_68 : decode cX7_press 68 = .ok (.iload_n 1, 1) := by decide +kernel
theorem dX7_press_69 : decode cX7_press 69 = .ok (.invokevirtual 125, 3) := by decide +kernel
theorem dX7_press_72 : decode cX7_press 72 = .ok (.isub, 1) := by decide +kernel
theorem dX7_press_73 : decode cX7_press 73 = .ok (.ireturn, 1) := by decide +kernel
theorem dX7_unlikeBy_0 : decode cX7_unlikeBy 0 = .ok (.iconst 0, 1) := by decide +kernel
theorem dX7_unlikeBy_1 : decode cX7_unlikeBy 1 = .ok (.istore 4, 2) := by decide +kernel
theorem dX7_unlikeBy_3 : decode cX7_unlikeBy 3 = .ok (.iconst 0, 1) := by decide +kernel
theorem dX7_unlikeBy_4 : decode cX7_unlikeBy 4 = .ok (.istore 5, 2) := by decide +kernel
theorem dX7_unlikeBy_6 : decode cX7_unlikeBy 6 = .ok (.iload 5, 2) := by decide +kernel
theorem dX7_unlikeBy_8 : decode cX7_unlikeBy 8 = .ok (.bipush 24, 2) := by decide +kernel
theorem dX7_unlikeBy_10 : decode cX7_unlikeBy 10 = .ok (.if_icmp .ge 38, 3) := by decide +kernel
theorem dX7_unlikeBy_13 : decode cX7_unlikeBy 13 = .ok (.iload 4, 2) := by decide +kernel
theorem dX7_unlikeBy_15 : decode cX7_unlikeBy 15 = .ok (.aload_n 0, 1) := by decide +kernel
theorem dX7_unlikeBy_16 : decode cX7_unlikeBy 16 = .ok (.iload_n 1, 1) := by decide +kernel
theorem dX7_unlikeBy_17 : decode cX7_unlikeBy 17 = .ok (.iload 5, 2) := by decide +kernel
theorem dX7_unlikeBy_19 : decode cX7_unlikeBy 19 = .ok (.invokevirtual 102, 3) := by decide +kernel
theorem dX7_unlikeBy_22 : decode cX7_unlikeBy 22 = .ok (.aload_n 0, 1) := by decide +kernel
theorem dX7_unlikeBy_23 : decode cX7_unlikeBy 23 = .ok (.iload_n 2, 1) := by decide +kernel
theorem dX7_unlikeBy_24 : decode cX7_unlikeBy 24 = .ok (.iload 5, 2) := by decide +kernel
theorem dX7_unlikeBy_26 : decode cX7_unlikeBy 26 = .ok (.iload_n 3, 1) := by decide +kernel
theorem dX7_unlikeBy_27 : decode cX7_unlikeBy 27 = .ok (.iadd, 1) := by decide +kernel
theorem dX7_unlikeBy_28 : decode cX7_unlikeBy 28 = .ok (.invokevirtual 102, 3) := by decide +kernel
theorem dX7_unlikeBy_31 : decode cX7_unlikeBy 31 = .ok (.if_icmp .ne 7, 3) := by decide +kernel
theorem dX7_unlikeBy_34 : decode cX7_unlikeBy 34 = .ok (.iconst 0, 1) := by decide +kernel
theorem dX7_unlikeBy_35 : decode cX7_unlikeBy 35 = .ok (.goto 4, 3) := by decide +kernel
theorem dX7_unlikeBy_38 : decode cX7_unlikeBy 38 = .ok (.iconst 1, 1) := by decide +kernel
theorem dX7_unlikeBy_39 : decode cX7_unlikeBy 39 = .ok (.iadd, 1) := by decide +kernel
theorem dX7_unlikeBy_40 : decode cX7_unlikeBy 40 = .ok (.istore 4, 2) := by decide +kernel
theorem dX7_unlikeBy_42 : decode cX7_unlikeBy 42 = .ok (.iinc 5 1, 3) := by decide +kernel
theorem dX7_unlikeBy_45 : decode cX7_unlikeBy 45 = .ok (.goto (-39), 3) := by decide +kernel
theorem dX7_unlikeBy_48 : decode cX7_unlikeBy 48 = .ok (.iload 4, 2) := by decide +kernel
theorem dX7_unlikeBy_50 : decode cX7_unlikeBy 50 = .ok (.ireturn, 1) := by decide +kernel
theorem dX7_unlike_0 : decode cX7_unlike 0 = .ok (.aload_n 0, 1) := by decide +kernel
theorem dX7_unlike_1 : decode cX7_unlike 1 = .ok (.iload_n 1, 1) := by decide +kernel
theorem dX7_unlike_2 : decode cX7_unlike 2 = .ok (.invokevirtual 128, 3) := by decide +kernel
theorem dX7_unlike_5 : decode cX7_unlike 5 = .ok (.ifCond .eq 21, 3) := by decide +kernel
theorem dX7_unlike_8 : decode cX7_unlike 8 = .ok (.aload_n 0, 1) := by decide +kernel
theorem dX7_unlike_9 : decode cX7_unlike 9 = .ok (.iload_n 2, 1) := by decide +kernel
theorem dX7_unlike_10 : decode cX7_unlike 10 = .ok (.invokevirtual 128, 3) := by decide +kernel
theorem dX7_unlike_13 : decode cX7_unlike 13 = .ok (.ifCond .eq 13, 3) := by decide +kernel
theorem dX7_unlike_16 : decode cX7_unlike 16 = .ok (.aload_n 0, 1) := by decide +kernel
theorem dX7_unlike_17 : decode cX7_unlike 17 = .ok (.iload_n 1, 1) := by decide +kernel
theorem dX7_unlike_18 : decode cX7_unlike 18 = .ok (.iload_n 2, 1) := by decide +kernel
theorem dX7_unlike_19 : decode cX7_unlike 19 = .ok (.iconst 0, 1) := by decide +kernel
theorem dX7_unlike_20 : decode cX7_unlike 20 = .ok (.invokevirtual 182, 3) := by decide +kernel
theorem dX7_unlike_23 : decode cX7_unlike 23 = .ok (.goto 5, 3) := by decide +kernel
theorem dX7_unlike_26 : decode cX7_unlike 26 = .ok (.ldc 90, 2) := by decide +kernel
theorem dX7_unlike_28 : decode cX7_unlike 28 = .ok (.ireturn, 1) := by decide +kernel
theorem dX7_turned_0 : decode cX7_turned 0 = .ok (.aload_n 0, 1) := by decide +kernel
theorem dX7_turned_1 : decode cX7_turned 1 = .ok (.iload_n 1, 1) := by decide +kernel
theorem dX7_turned_2 : decode cX7_turned 2 = .ok (.invokevirtual 128, 3) := by decide +kernel
theorem dX7_turned_5 : decode cX7_turned 5 = .ok (.ifCond .eq 20, 3) := by decide +kernel
theorem dX7_turned_8 : decode cX7_turned 8 = .ok (.aload_n 0, 1) := by decide +kernel
theorem dX7_turned_9 : decode cX7_turned 9 = .ok (.iload_n 2, 1) := by decide +kernel
theorem dX7_turned_10 : decode cX7_turned 10 = .ok (.invokevirtual 128, 3) := by decide +kernel
theorem dX7_turned_13 : decode cX7_turned 13 = .ok (.ifCond .eq 12, 3) := by decide +kernel
theorem dX7_turned_16 : decode cX7_turned 16 = .ok (.iload_n 3, 1) := by decide +kernel
theorem dX7_turned_17 : decode cX7_turned 17 = .ok (.iconst 0, 1) := by decide +kernel
theorem dX7_turned_18 : decode cX7_turned 18 = .ok (.iconst 1, 1) := by decide +kernel
theorem dX7_turned_19 : decode cX7_turned 19 = .ok (.invokestatic 78, 3) := by decide +kernel
theorem dX7_turned_22 : decode cX7_turned 22 = .ok (.ifCond .ne 6, 3) := by decide +kernel
theorem dX7_turned_25 : decode cX7_turned 25 = .ok (.ldc 90, 2) := by decide +kernel
theorem dX7_turned_27 : decode cX7_turned 27 = .ok (.ireturn, 1) := by decide +kernel
theorem dX7_turned_28 : decode cX7_turned 28 = .ok (.iconst 0, 1) := by decide +kernel
theorem dX7_turned_29 : decode cX7_turned 29 = .ok (.istore 4, 2) := by decide +kernel
theorem dX7_turned_31 : decode cX7_turned 31 = .ok (.iconst 1, 1) := by decide +kernel
theorem dX7_turned_32 : decode cX7_turned 32 = .ok (.istore 5, 2) := by decide +kernel
theorem dX7_turned_34 : decode cX7_turned 34 = .ok (.iload 5, 2) := by decide +kernel
theorem dX7_turned_36 : decode cX7_turned 36 = .ok (.bipush 24, 2) := by decide +kernel
theorem dX7_turned_38 : decode cX7_turned 38 = .ok (.if_icmp .ge 37, 3) := by decide +kernel
theorem dX7_turned_41 : decode cX7_turned 41 = .ok (.aload_n 0, 1) := by decide +kernel
theorem dX7_turned_42 : decode cX7_turned 42 = .ok (.iload_n 1, 1) := by decide +kernel
theorem dX7_turned_43 : decode cX7_turned 43 = .ok (.iload_n 2, 1) := by decide +kernel
theorem dX7_turned_44 : decode cX7_turned 44 = .ok (.iload 5, 2) := by decide +kernel
theorem dX7_turned_46 : decode cX7_turned 46 = .ok (.invokevirtual 182, 3) := by decide +kernel
theorem dX7_turned_49 : decode cX7_turned 49 = .ok (.aload_n 0, 1) := by decide +kernel
theorem dX7_turned_50 : decode cX7_turned 50 = .ok (.iload_n 1, 1) := by decide +kernel
theorem dX7_turned_51 : decode cX7_turned 51 = .ok (.iload_n 2, 1) := by decide +kernel
theorem dX7_turned_52 : decode cX7_turned 52 = .ok (.iload 4, 2) := by decide +kernel
theorem dX7_turned_54 : decode cX7_turned 54 = .ok (.invokevirtual 182, 3) := by decide +kernel
theorem dX7_turned_57 : decode cX7_turned 57 = .ok (.if_icmp .ge 8, 3) := by decide +kernel
theorem dX7_turned_60 : decode cX7_turned 60 = .ok (.iload 5, 2) := by decide +kernel
theorem dX7_turned_62 : decode cX7_turned 62 = .ok (.goto 5, 3) := by decide +kernel
theorem dX7_turned_65 : decode cX7_turned 65 = .ok (.iload 4, 2) := by decide +kernel
theorem dX7_turned_67 : decode cX7_turned 67 = .ok (.istore 4, 2) := by decide +kernel
theorem dX7_turned_69 : decode cX7_turned 69 = .ok (.iinc 5 1, 3) := by decide +kernel
theorem dX7_turned_72 : decode cX7_turned 72 = .ok (.goto (-38), 3) := by decide +kernel
theorem dX7_turned_75 : decode cX7_turned 75 = .ok (.iload_n 3, 1) := by decide +kernel
theorem dX7_turned_76 : decode cX7_turned 76 = .ok (.ifCond .ne 8, 3) := by decide +kernel
theorem dX7_turned_79 : decode cX7_turned 79 = .ok (.iload 4, 2) := by decide +kernel
theorem dX7_turned_81 : decode cX7_turned 81 = .ok (.goto 11, 3) := by decide +kernel
theorem dX7_turned_84 : decode cX7_turned 84 = .ok (.aload_n 0, 1) := by decide +kernel
theorem dX7_turned_85 : decode cX7_turned 85 = .ok (.iload_n 1, 1) := by decide +kernel
theorem dX7_turned_86 : decode cX7_turned 86 = .ok (.iload_n 2, 1) := by decide +kernel
theorem dX7_turned_87 : decode cX7_turned 87 = .ok (.iload 4, 2) := by decide +kernel
theorem dX7_turned_89 : decode cX7_turned 89 = .ok (.invokevirtual 182, 3) := by decide +kernel
theorem dX7_turned_92 : decode cX7_turned 92 = .ok (.ireturn, 1) := by decide +kernel
theorem dX7_offBy_0 : decode cX7_offBy 0 = .ok (.lconst 0, 1) := by decide +kernel
theorem dX7_offBy_1 : decode cX7_offBy 1 = .ok (.lstore_n 3, 1) := by decide +kernel
theorem dX7_offBy_2 : decode cX7_offBy 2 = .ok (.iconst 0, 1) := by decide +kernel
theorem dX7_offBy_3 : decode cX7_offBy 3 = .ok (.istore 5, 2) := by decide +kernel
theorem dX7_offBy_5 : decode cX7_offBy 5 = .ok (.iload 5, 2) := by decide +kernel
theorem dX7_offBy_7 : decode cX7_offBy 7 = .ok (.aload_n 0, 1) := by decide +kernel
theorem dX7_offBy_8 : decode cX7_offBy 8 = .ok (.getfield 54, 3) := by decide +kernel
theorem dX7_offBy_11 : decode cX7_offBy 11 = .ok (.iload_n 1, 1) := by decide +kernel
theorem dX7_offBy_12 : decode cX7_offBy 12 = .ok (.iaload, 1) := by decide +kernel
theorem dX7_offBy_13 : decode cX7_offBy 13 = .ok (.if_icmp .ge 72, 3) := by decide +kernel
theorem dX7_offBy_16 : decode cX7_offBy 16 = .ok (.aload_n 0, 1) := by decide +kernel
theorem dX7_offBy_17 : decode cX7_offBy 17 = .ok (.getfield 57, 3) := by decide +kernel
theorem dX7_offBy_20 : decode cX7_offBy 20 = .ok (.bipush 24, 2) := by decide +kernel
theorem dX7_offBy_22 : decode cX7_offBy 22 = .ok (.iload_n 1, 1) := by decide +kernel
theorem dX7_offBy_23 : decode cX7_offBy 23 = .ok (.imul, 1) := by decide +kernel
theorem dX7_offBy_24 : decode cX7_offBy 24 = .ok (.iload 5, 2) := by decide +kernel
theorem dX7_offBy_26 : decode cX7_offBy 26 = .ok (.iadd, 1) := by decide +kernel
theorem dX7_offBy_27 : decode cX7_offBy 27 = .ok (.iaload, 1) := by decide +kernel
theorem dX7_offBy_28 : decode cX7_offBy 28 = .ok (.i2l, 1) := by decide +kernel
theorem dX7_offBy_29 : decode cX7_offBy 29 = .ok (.aload_n 0, 1) := by decide +kernel
theorem dX7_offBy_30 : decode cX7_offBy 30 = .ok (.iload_n 2, 1) := by decide +kernel
theorem dX7_offBy_31 : decode cX7_offBy 31 = .ok (.iload 5, 2) := by decide +kernel
theorem dX7_offBy_33 : decode cX7_offBy 33 = .ok (.invokevirtual 102, 3) := by decide +kernel
theorem dX7_offBy_36 : decode cX7_offBy 36 = .ok (.i2l, 1) := by decide +kernel
theorem dX7_offBy_37 : decode cX7_offBy 37 = .ok (.lsub, 1) := by decide +kernel
theorem dX7_offBy_38 : decode cX7_offBy 38 = .ok (.lstore 6, 2) := by decide +kernel
theorem dX7_offBy_40 : decode cX7_offBy 40 = .ok (.lload_n 3, 1) := by decide +kernel
theorem dX7_offBy_41 : decode cX7_offBy 41 = .ok (.aload_n 0, 1) := by decide +kernel
theorem dX7_offBy_42 : decode cX7_offBy 42 = .ok (.getfield 57, 3) := by decide +kernel
theorem dX7_offBy_45 : decode cX7_offBy 45 = .ok (.bipush 24, 2) := by decide +kernel
theorem dX7_offBy_47 : decode cX7_offBy 47 = .ok (.iload_n 1, 1) := by decide +kernel
theorem dX7_offBy_48 : decode cX7_offBy 48 = .ok (.imul, 1) := by decide +kernel
theorem dX7_offBy_49 : decode cX7_offBy 49 = .ok (.iload 5, 2) := by decide +kernel
theorem dX7_offBy_51 : decode cX7_offBy 51 = .ok (.iadd, 1) := by decide +kernel
theorem dX7_offBy_52 : decode cX7_offBy 52 = .ok (.iaload, 1) := by decide +kernel
theorem dX7_offBy_53 : decode cX7_offBy 53 = .ok (.ldc 171, 2) := by decide +kernel
theorem dX7_offBy_55 : decode cX7_offBy 55 = .ok (.if_icmp .ne 7, 3) := by decide +kernel
theorem dX7_offBy_58 : decode cX7_offBy 58 = .ok (.lconst 0, 1) := by decide +kernel
theorem dX7_offBy_59 : decode cX7_offBy 59 = .ok (.goto 18, 3) := by decide +kernel
theorem dX7_offBy_62 : decode cX7_offBy 62 = .ok (.lload 6, 2) := by decide +kernel
theorem dX7_offBy_64 : decode cX7_offBy 64 = .ok (.lconst 0, 1) := by decide +kernel
theorem dX7_offBy_65 : decode cX7_offBy 65 = .ok (.lcmp, 1) := by decide +kernel
theorem dX7_offBy_66 : decode cX7_offBy 66 = .ok (.ifCond .ge 9, 3) := by decide +kernel
theorem dX7_offBy_69 : decode cX7_offBy 69 = .ok (.lload 6, 2) := by decide +kernel
theorem dX7_offBy_71 : decode cX7_offBy 71 = .ok (.lneg, 1) := by decide +kernel
theorem dX7_offBy_72 : decode cX7_offBy 72 = .ok (.goto 5, 3) := by decide +kernel
theorem dX7_offBy_75 : decode cX7_offBy 75 = .ok (.lload 6, 2) := by decide +kernel
theorem dX7_offBy_77 : decode cX7_offBy 77 = .ok (.ladd, 1) := by decide +kernel
theorem dX7_offBy_78 : decode cX7_offBy 78 = .ok (.lstore_n 3, 1) := by decide +kernel
theorem dX7_offBy_79 : decode cX7_offBy 79 = .ok (.iinc 5 1, 3) := by decide +kernel
theorem dX7_offBy_82 : decode cX7_offBy 82 = .ok (.goto (-77), 3) := by decide +kernel
theorem dX7_offBy_85 : decode cX7_offBy 85 = .ok (.lload_n 3, 1) := by decide +kernel
theorem dX7_offBy_86 : decode cX7_offBy 86 = .ok (.lreturn, 1) := by decide +kernel
theorem dX7_seen_0 : decode cX7_seen 0 = .ok (.iload_n 1, 1) := by decide +kernel
theorem dX7_seen_1 : decode cX7_seen 1 = .ok (.invokestatic 185, 3) := by decide +kernel
theorem dX7_seen_4 : decode cX7_seen 4 = .ok (.ifCond .eq 21, 3) := by decide +kernel
theorem dX7_seen_7 : decode cX7_seen 7 = .ok (.aload_n 0, 1) := by decide +kernel
theorem dX7_seen_8 : decode cX7_seen 8 = .ok (.iload_n 2, 1) := by decide +kernel
theorem dX7_seen_9 : decode cX7_seen 9 = .ok (.invokevirtual 128, 3) := by decide +kernel
theorem dX7_seen_12 : decode cX7_seen 12 = .ok (.ifCond .eq 13, 3) := by decide +kernel
theorem dX7_seen_15 : decode cX7_seen 15 = .ok (.iload_n 3, 1) := by decide +kernel
theorem dX7_seen_16 : decode cX7_seen 16 = .ok (.iconst 0, 1) := by decide +kernel
theorem dX7_seen_17 : decode cX7_seen 17 = .ok (.bipush 30, 2) := by decide +kernel
theorem dX7_seen_19 : decode cX7_seen 19 = .ok (.invokestatic 78, 3) := by decide +kernel
theorem dX7_seen_22 : decode cX7_seen 22 = .ok (.ifCond .ne 6, 3) := by decide +kernel
theorem dX7_seen_25 : decode cX7_seen 25 = .ok (.ldc 90, 2) := by decide +kernel
theorem dX7_seen_27 : decode cX7_seen 27 = .ok (.ireturn, 1) := by decide +kernel
theorem dX7_seen_28 : decode cX7_seen 28 = .ok (.aload_n 0, 1) := by decide +kernel
theorem dX7_seen_29 : decode cX7_seen 29 = .ok (.getfield 51, 3) := by decide +kernel
theorem dX7_seen_32 : decode cX7_seen 32 = .ok (.iload_n 1, 1) := by decide +kernel
theorem dX7_seen_33 : decode cX7_seen 33 = .ok (.iaload, 1) := by decide +kernel
theorem dX7_seen_34 : decode cX7_seen 34 = .ok (.ifCond .ge 6, 3) := by decide +kernel
theorem dX7_seen_37 : decode cX7_seen 37 = .ok (.ldc 188, 2) := by decide +kernel
theorem dX7_seen_39 : decode cX7_seen 39 = .ok (.ireturn, 1) := by decide +kernel
theorem dX7_seen_40 : decode cX7_seen 40 = .ok (.aload_n 0, 1) := by decide +kernel
theorem dX7_seen_41 : decode cX7_seen 41 = .ok (.getfield 9, 3) := by decide +kernel
theorem dX7_seen_44 : decode cX7_seen 44 = .ok (.iconst 2, 1) := by decide +kernel
theorem dX7_seen_45 : decode cX7_seen 45 = .ok (.iaload, 1) := by decide +kernel
theorem dX7_seen_46 : decode cX7_seen 46 = .ok (.istore 4, 2) := by decide +kernel
theorem dX7_seen_48 : decode cX7_seen 48 = .ok (.iconst (-1), 1) := by decide +kernel
theorem dX7_seen_49 : decode cX7_seen 49 = .ok (.istore 5, 2) := by decide +kernel
theorem dX7_seen_51 : decode cX7_seen 51 = .ok (.lconst 0, 1) := by decide +kernel
theorem dX7_seen_52 : decode cX7_seen 52 = .ok (.lstore 6, 2) := by decide +kernel
theorem dX7_seen_54 : decode cX7_seen 54 = .ok (.aload_n 0, 1) := by decide +kernel
theorem dX7_seen_55 : decode cX7_seen 55 = .ok (.iload_n 2, 1) := by decide +kernel
theorem dX7_seen_56 : decode cX7_seen 56 = .ok (.invokevirtual 172, 3) := by decide +kernel
theorem dX7_seen_59 : decode cX7_seen 59 = .ok (.iconst 0, 1) := by decide +kernel
theorem dX7_seen_60 : decode cX7_seen 60 = .ok (.istore 8, 2) := by decide +kernel
theorem dX7_seen_62 : decode cX7_seen 62 = .ok (.iload 8, 2) := by decide +kernel
theorem dX7_seen_64 : decode cX7_seen 64 = .ok (.bipush 12, 2) := by decide +kernel
theorem dX7_seen_66 : decode cX7_seen 66 = .ok (.if_icmp .ge 76, 3) := by decide +kernel
theorem dX7_seen_69 : decode cX7_seen 69 = .ok (.aload_n 0, 1) := by decide +kernel
theorem dX7_seen_70 : decode cX7_seen 70 = .ok (.getfield 9, 3) := by decide +kernel
theorem dX7_seen_73 : decode cX7_seen 73 = .ok (.iconst 2, 1) := by decide +kernel
theorem dX7_seen_74 : decode cX7_seen 74 = .ok (.iload 8, 2) := by decide +kernel
theorem dX7_seen_76 : decode cX7_seen 76 = .ok (.iastore, 1) := by decide +kernel
theorem dX7_seen_77 : decode cX7_seen 77 = .ok (.aload_n 0, 1) := by decide +kernel
theorem dX7_seen_78 : decode cX7_seen 78 = .ok (.iload_n 2, 1) := by decide +kernel
theorem dX7_seen_79 : decode cX7_seen 79 = .ok (.iload_n 3, 1) := by decide +kernel
theorem dX7_seen_80 : decode cX7_seen 80 = .ok (.invokevirtual 168, 3) := by decide +kernel
theorem dX7_seen_83 : decode cX7_seen 83 = .ok (.istore 9, 2) := by decide +kernel
theorem dX7_seen_85 : decode cX7_seen 85 = .ok (.aload_n 0, 1) := by decide +kernel
theorem dX7_seen_86 : decode cX7_seen 86 = .ok (.iload_n 1, 1) := by decide +kernel
theorem dX7_seen_87 : decode cX7_seen 87 = .ok (.iload_n 2, 1) := by decide +kernel
theorem dX7_seen_88 : decode cX7_seen 88 = .ok (.invokevirtual 189, 3) := by decide +kernel
theorem dX7_seen_91 : decode cX7_seen 91 = .ok (.lstore 10, 2) := by decide +kernel
theorem dX7_seen_93 : decode cX7_seen 93 = .ok (.aload_n 0, 1) := by decide +kernel
theorem dX7_seen_94 : decode cX7_seen 94 = .ok (.iload_n 2, 1) := by decide +kernel
theorem dX7_seen_95 : decode cX7_seen 95 = .ok (.invokevirtual 176, 3) := by decide +kernel
theorem dX7_seen_98 : decode cX7_seen 98 = .ok (.iload 5, 2) := by decide +kernel
theorem dX7_seen_100 : decode cX7_seen 100 = .ok (.ifCond .lt 11, 3) := by decide +kernel
theorem dX7_seen_103 : decode cX7_seen 103 = .ok (.lload 10, 2) := by decide +kernel
theorem dX7_seen_105 : decode cX7_seen 105 = .ok (.lload 6, 2) := by decide +kernel
theorem dX7_seen_107 : decode cX7_seen 107 = .ok (.lcmp, 1) := by decide +kernel
theorem dX7_seen_108 : decode cX7_seen 108 = .ok (.ifCond .ge 8, 3) := by decide +kernel
theorem dX7_seen_111 : decode cX7_seen 111 = .ok (.iload 8, 2) := by decide +kernel
theorem dX7_seen_113 : decode cX7_seen 113 = .ok (.goto 5, 3) := by decide +kernel
theorem dX7_seen_116 : decode cX7_seen 116 = .ok (.iload 5, 2) := by decide +kernel
theorem dX7_seen_118 : decode cX7_seen 118 = .ok (.istore 5, 2) := by decide +kernel
theorem dX7_seen_120 : decode cX7_seen 120 = .ok (.iload 5, 2) := by decide +kernel
theorem dX7_seen_122 : decode cX7_seen 122 = .ok (.iload 8, 2) := by decide +kernel
theorem dX7_seen_124 : decode cX7_seen 124 = .ok (.if_icmp .ne 8, 3) := by decide +kernel
theorem dX7_seen_127 : decode cX7_seen 127 = .ok (.lload 10, 2) := by decide +kernel
theorem dX7_seen_129 : decode cX7_seen 129 = .ok (.goto 5, 3) := by decide +kernel
theorem dX7_seen_132 : decode cX7_seen 132 = .ok (.lload 6, 2) := by decide +kernel
theorem dX7_seen_134 : decode cX7_seen 134 = .ok (.lstore 6, 2) := by decide +kernel
theorem dX7_seen_136 : decode cX7_seen 136 = .ok (.iinc 8 1, 3) := by decide +kernel
theorem dX7_seen_139 : decode cX7_seen 139 = .ok (.goto (-77), 3) := by decide +kernel
theorem dX7_seen_142 : decode cX7_seen 142 = .ok (.aload_n 0, 1) := by decide +kernel
theorem dX7_seen_143 : decode cX7_seen 143 = .ok (.getfield 9, 3) := by decide +kernel
theorem dX7_seen_146 : decode cX7_seen 146 = .ok (.iconst 2, 1) := by decide +kernel
theorem dX7_seen_147 : decode cX7_seen 147 = .ok (.iload 4, 2) := by decide +kernel
theorem dX7_seen_149 : decode cX7_seen 149 = .ok (.iastore, 1) := by decide +kernel
theorem dX7_seen_150 : decode cX7_seen 150 = .ok (.iload 5, 2) := by decide +kernel
theorem dX7_seen_152 : decode cX7_seen 152 = .ok (.ireturn, 1) := by decide +kernel
theorem dX7_best_0 : decode cX7_best 0 = .ok (.aload_n 0, 1) := by decide +kernel
theorem dX7_best_1 : decode cX7_best 1 = .ok (.iload_n 1, 1) := by decide +kernel
theorem dX7_best_2 : decode cX7_best 2 = .ok (.invokevirtual 128, 3) := by decide +kernel
theorem dX7_best_5 : decode cX7_best 5 = .ok (.ifCond .eq 22, 3) := by decide +kernel
theorem dX7_best_8 : decode cX7_best 8 = .ok (.iload_n 2, 1) := by decide +kernel
theorem dX7_best_9 : decode cX7_best 9 = .ok (.iconst 0, 1) := by decide +kernel
theorem dX7_best_10 : decode cX7_best 10 = .ok (.bipush 30, 2) := by decide +kernel
theorem dX7_best_12 : decode cX7_best 12 = .ok (.invokestatic 78, 3) := by decide +kernel
theorem dX7_best_15 : decode cX7_best 15 = .ok (.ifCond .eq 12, 3) := by decide +kernel
theorem dX7_best_18 : decode cX7_best 18 = .ok (.iload_n 3, 1) := by decide +kernel
theorem dX7_best_19 : decode cX7_best 19 = .ok (.iconst 0, 1) := by decide +kernel
theorem dX7_best_20 : decode cX7_best 20 = .ok (.iconst 1, 1) := by decide +kernel
theorem dX7_best_21 : decode cX7_best 21 = .ok (.invokestatic 78, 3) := by decide +kernel
theorem dX7_best_24 : decode cX7_best 24 = .ok (.ifCond .ne 6, 3) := by decide +kernel
theorem dX7_best_27 : decode cX7_best 27 = .ok (.ldc 90, 2) := by decide +kernel
theorem dX7_best_29 : decode cX7_best 29 = .ok (.ireturn, 1) := by decide +kernel
theorem dX7_best_30 : decode cX7_best 30 = .ok (.aload_n 0, 1) := by decide +kernel
theorem dX7_best_31 : decode cX7_best 31 = .ok (.getfield 9, 3) := by decide +kernel
theorem dX7_best_34 : decode cX7_best 34 = .ok (.iconst 3, 1) := by decide +kernel
theorem dX7_best_35 : decode cX7_best 35 = .ok (.iaload, 1) := by decide +kernel
theorem dX7_best_36 : decode cX7_best 36 = .ok (.istore 4, 2) := by decide +kernel
theorem dX7_best_38 : decode cX7_best 38 = .ok (.iconst 0, 1) := by decide +kernel
theorem dX7_best_39 : decode cX7_best 39 = .ok (.istore 5, 2) := by decide +kernel
theorem dX7_best_41 : decode cX7_best 41 = .ok (.iconst (-1), 1) := by decide +kernel
theorem dX7_best_42 : decode cX7_best 42 = .ok (.istore 6, 2) := by decide +kernel
theorem dX7_best_44 : decode cX7_best 44 = .ok (.aload_n 0, 1) := by decide +kernel
theorem dX7_best_45 : decode cX7_best 45 = .ok (.iload_n 1, 1) := by decide +kernel
theorem dX7_best_46 : decode cX7_best 46 = .ok (.invokevirtual 172, 3) := by decide +kernel
theorem dX7_best_49 : decode cX7_best 49 = .ok (.iconst 0, 1) := by decide +kernel
theorem dX7_best_50 : decode cX7_best 50 = .ok (.istore 7, 2) := by decide +kernel
theorem dX7_best_52 : decode cX7_best 52 = .ok (.iload 7, 2) := by decide +kernel
theorem dX7_best_54 : decode cX7_best 54 = .ok (.bipush 10, 2) := by decide +kernel
theorem dX7_best_56 : decode cX7_best 56 = .ok (.if_icmp .ge 69, 3) := by decide +kernel
theorem dX7_best_59 : decode cX7_best 59 = .ok (.aload_n 0, 1) := by decide +kernel
theorem dX7_best_60 : decode cX7_best 60 = .ok (.getfield 9, 3) := by decide +kernel
theorem dX7_best_63 : decode cX7_best 63 = .ok (.iconst 3, 1) := by decide +kernel
theorem dX7_best_64 : decode cX7_best 64 = .ok (.iload 7, 2) := by decide +kernel
theorem dX7_best_66 : decode cX7_best 66 = .ok (.iastore, 1) := by decide +kernel
theorem dX7_best_67 : decode cX7_best 67 = .ok (.aload_n 0, 1) := by decide +kernel
theorem dX7_best_68 : decode cX7_best 68 = .ok (.iload_n 1, 1) := by decide +kernel
theorem dX7_best_69 : decode cX7_best 69 = .ok (.iload_n 2, 1) := by decide +kernel
theorem dX7_best_70 : decode cX7_best 70 = .ok (.invokevirtual 168, 3) := by decide +kernel
theorem dX7_best_73 : decode cX7_best 73 = .ok (.istore 8, 2) := by decide +kernel
theorem dX7_best_75 : decode cX7_best 75 = .ok (.aload_n 0, 1) := by decide +kernel
theorem dX7_best_76 : decode cX7_best 76 = .ok (.iload_n 1, 1) := by decide +kernel
theorem dX7_best_77 : decode cX7_best 77 = .ok (.invokevirtual 119, 3) := by decide +kernel
theorem dX7_best_80 : decode cX7_best 80 = .ok (.istore 9, 2) := by decide +kernel
theorem dX7_best_82 : decode cX7_best 82 = .ok (.aload_n 0, 1) := by decide +kernel
theorem dX7_best_83 : decode cX7_best 83 = .ok (.iload_n 1, 1) := by decide +kernel
theorem dX7_best_84 : decode cX7_best 84 = .ok (.invokevirtual 176, 3) := by decide +kernel
theorem dX7_best_87 : decode cX7_best 87 = .ok (.iload 9, 2) := by decide +kernel
theorem dX7_best_89 : decode cX7_best 89 = .ok (.iload 6, 2) := by decide +kernel
theorem dX7_best_91 : decode cX7_best 91 = .ok (.if_icmp .le 8, 3) := by decide +kernel
theorem dX7_best_94 : decode cX7_best 94 = .ok (.iload 7, 2) := by decide +kernel
theorem dX7_best_96 : decode cX7_best 96 = .ok (.goto 5, 3) := by decide +kernel
theorem dX7_best_99 : decode cX7_best 99 = .ok (.iload 5, 2) := by decide +kernel
theorem dX7_best_101 : decode cX7_best 101 = .ok (.istore 5, 2) := by decide +kernel
theorem dX7_best_103 : decode cX7_best 103 = .ok (.iload 9, 2) := by decide +kernel
theorem dX7_best_105 : decode cX7_best 105 = .ok (.iload 6, 2) := by decide +kernel
theorem dX7_best_107 : decode cX7_best 107 = .ok (.if_icmp .le 8, 3) := by decide +kernel
theorem dX7_best_110 : decode cX7_best 110 = .ok (.iload 9, 2) := by decide +kernel
theorem dX7_best_112 : decode cX7_best 112 = .ok (.goto 5, 3) := by decide +kernel
theorem dX7_best_115 : decode cX7_best 115 = .ok (.iload 6, 2) := by decide +kernel
theorem dX7_best_117 : decode cX7_best 117 = .ok (.istore 6, 2) := by decide +kernel
theorem dX7_best_119 : decode cX7_best 119 = .ok (.iinc 7 1, 3) := by decide +kernel
theorem dX7_best_122 : decode cX7_best 122 = .ok (.goto (-70), 3) := by decide +kernel
theorem dX7_best_125 : decode cX7_best 125 = .ok (.aload_n 0, 1) := by decide +kernel
theorem dX7_best_126 : decode cX7_best 126 = .ok (.getfield 9, 3) := by decide +kernel
theorem dX7_best_129 : decode cX7_best 129 = .ok (.iconst 3, 1) := by decide +kernel
theorem dX7_best_130 : decode cX7_best 130 = .ok (.iload 4, 2) := by decide +kernel
theorem dX7_best_132 : decode cX7_best 132 = .ok (.iastore, 1) := by decide +kernel
theorem dX7_best_133 : decode cX7_best 133 = .ok (.iload_n 3, 1) := by decide +kernel
theorem dX7_best_134 : decode cX7_best 134 = .ok (.ifCond .ne 8, 3) := by decide +kernel
theorem dX7_best_137 : decode cX7_best 137 = .ok (.iload 5, 2) := by decide +kernel
theorem dX7_best_139 : decode cX7_best 139 = .ok (.goto 5, 3) := by decide +kernel
theorem dX7_best_142 : decode cX7_best 142 = .ok (.iload 6, 2) := by decide +kernel
theorem dX7_best_144 : decode cX7_best 144 = .ok (.ireturn, 1) := by decide +kernel
theorem dX7_feed_0 : decode cX7_feed 0 = .ok (.aload_n 0, 1) := by decide +kernel
theorem dX7_feed_1 : decode cX7_feed 1 = .ok (.getfield 193, 3) := by decide +kernel
theorem dX7_feed_4 : decode cX7_feed 4 = .ok (.bipush 12, 2) := by decide +kernel
theorem dX7_feed_6 : decode cX7_feed 6 = .ok (.iadd, 1) := by decide +kernel
theorem dX7_feed_7 : decode cX7_feed 7 = .ok (.bipush 96, 2) := by decide +kernel
theorem dX7_feed_9 : decode cX7_feed 9 = .ok (.if_icmp .le 6, 3) := by decide +kernel
theorem dX7_feed_12 : decode cX7_feed 12 = .ok (.ldc 91, 2) := by decide +kernel
theorem dX7_feed_14 : decode cX7_feed 14 = .ok (.ireturn, 1) := by decide +kernel
theorem dX7_feed_15 : decode cX7_feed 15 = .ok (.iconst 0, 1) := by decide +kernel
theorem dX7_feed_16 : decode cX7_feed 16 = .ok (.istore 4, 2) := by decide +kernel
theorem dX7_feed_18 : decode cX7_feed 18 = .ok (.iload 4, 2) := by decide +kernel
theorem dX7_feed_20 : decode cX7_feed 20 = .ok (.bipush 12, 2) := by decide +kernel
theorem dX7_feed_22 : decode cX7_feed 22 = .ok (.if_icmp .ge 62, 3) := by decide +kernel
theorem dX7_feed_25 : decode cX7_feed 25 = .ok (.iload 4, 2) := by decide +kernel
theorem dX7_feed_27 : decode cX7_feed 27 = .ok (.iconst 4, 1) := by decide +kernel
theorem dX7_feed_28 : decode cX7_feed 28 = .ok (.if_icmp .ge 7, 3) := by decide +kernel
theorem dX7_feed_31 : decode cX7_feed 31 = .ok (.iload_n 1, 1) := by decide +kernel
theorem dX7_feed_32 : decode cX7_feed 32 = .ok (.goto 15, 3) := by decide +kernel
theorem dX7_feed_35 : decode cX7_feed 35 = .ok (.iload 4, 2) := by decide +kernel
theorem dX7_feed_37 : decode cX7_feed 37 = .ok (.bipush 8, 2) := by decide +kernel
theorem dX7_feed_39 : decode cX7_feed 39 = .ok (.if_icmp .ge 7, 3) := by decide +kernel
theorem dX7_feed_42 : decode cX7_feed 42 = .ok (.iload_n 2, 1) := by decide +kernel
theorem dX7_feed_43 : decode cX7_feed 43 = .ok (.goto 4, 3) := by decide +kernel
theorem dX7_feed_46 : decode cX7_feed 46 = .ok (.iload_n 3, 1) := by decide +kernel
theorem dX7_feed_47 : decode cX7_feed 47 = .ok (.istore 5, 2) := by decide +kernel
theorem dX7_feed_49 : decode cX7_feed 49 = .ok (.aload_n 0, 1) := by decide +kernel
theorem dX7_feed_50 : decode cX7_feed 50 = .ok (.getfield 25, 3) := by decide +kernel
theorem dX7_feed_53 : decode cX7_feed 53 = .ok (.aload_n 0, 1) := by decide +kernel
theorem dX7_feed_54 : decode cX7_feed 54 = .ok (.getfield 193, 3) := by decide +kernel
theorem dX7_feed_57 : decode cX7_feed 57 = .ok (.iload 4, 2) := by decide +kernel
theorem dX7_feed_59 : decode cX7_feed 59 = .ok (.iadd, 1) := by decide +kernel
theorem dX7_feed_60 : decode cX7_feed 60 = .ok (.iload 5, 2) := by decide +kernel
theorem dX7_feed_62 : decode cX7_feed 62 = .ok (.bipush 24, 2) := by decide +kernel
theorem dX7_feed_64 : decode cX7_feed 64 = .ok (.bipush 8, 2) := by decide +kernel
theorem dX7_feed_66 : decode cX7_feed 66 = .ok (.iload 4, 2) := by decide +kernel
theorem dX7_feed_68 : decode cX7_feed 68 = .ok (.iconst 4, 1) := by decide +kernel
theorem dX7_feed_69 : decode cX7_feed 69 = .ok (.irem, 1) := by decide +kernel
theorem dX7_feed_70 : decode cX7_feed 70 = .ok (.imul, 1) := by decide +kernel
theorem dX7_feed_71 : decode cX7_feed 71 = .ok (.isub, 1) := by decide +kernel
theorem dX7_feed_72 : decode cX7_feed 72 = .ok (.ishr, 1) := by decide +kernel
theorem dX7_feed_73 : decode cX7_feed 73 = .ok (.sipush 255, 3) := by decide +kernel
theorem dX7_feed_76 : decode cX7_feed 76 = .ok (.iand, 1) := by decide +kernel
theorem dX7_feed_77 : decode cX7_feed 77 = .ok (.iastore, 1) := by decide +kernel
theorem dX7_feed_78 : decode cX7_feed 78 = .ok (.iinc 4 1, 3) := by decide +kernel
theorem dX7_feed_81 : decode cX7_feed 81 = .ok (.goto (-63), 3) := by decide +kernel
theorem dX7_feed_84 : decode cX7_feed 84 = .ok (.aload_n 0, 1) := by decide +kernel
theorem dX7_feed_85 : decode cX7_feed 85 = .ok (.dup, 1) := by decide +kernel
theorem dX7_feed_86 : decode cX7_feed 86 = .ok (.getfield 193, 3) := by decide +kernel
theorem dX7_feed_89 : decode cX7_feed 89 = .ok (.bipush 12, 2) := by decide +kernel
theorem dX7_feed_91 : decode cX7_feed 91 = .ok (.iadd, 1) := by decide +kernel
theorem dX7_feed_92 : decode cX7_feed 92 = .ok (.putfield 193, 3) := by decide +kernel
theorem dX7_feed_95 : decode cX7_feed 95 = .ok (.aload_n 0, 1) := by decide +kernel
theorem dX7_feed_96 : decode cX7_feed 96 = .ok (.getfield 193, 3) := by decide +kernel
theorem dX7_feed_99 : decode cX7_feed 99 = .ok (.ireturn, 1) := by decide +kernel
theorem dX7_trim_0 : decode cX7_trim 0 = .ok (.iload_n 1, 1) := by decide +kernel
theorem dX7_trim_1 : decode cX7_trim 1 = .ok (.iconst 0, 1) := by decide +kernel
theorem dX7_trim_2 : decode cX7_trim 2 = .ok (.aload_n 0, 1) := by decide +kernel
theorem dX7_trim_3 : decode cX7_trim 3 = .ok (.getfield 193, 3) := by decide +kernel
theorem dX7_trim_6 : decode cX7_trim 6 = .ok (.invokestatic 78, 3) := by decide +kernel
theorem dX7_trim_9 : decode cX7_trim 9 = .ok (.ifCond .ne 6, 3) := by decide +kernel
theorem dX7_trim_12 : decode cX7_trim 12 = .ok (.ldc 90, 2) := by decide +kernel
theorem dX7_trim_14 : decode cX7_trim 14 = .ok (.ireturn, 1) := by decide +kernel
theorem dX7_trim_15 : decode cX7_trim 15 = .ok (.aload_n 0, 1) := by decide +kernel
theorem dX7_trim_16 : decode cX7_trim 16 = .ok (.iload_n 1, 1) := by decide +kernel
theorem dX7_trim_17 : decode cX7_trim 17 = .ok (.putfield 193, 3) := by decide +kernel
theorem dX7_trim_20 : decode cX7_trim 20 = .ok (.iload_n 1, 1) := by decide +kernel
theorem dX7_trim_21 : decode cX7_trim 21 = .ok (.ireturn, 1) := by decide +kernel
theorem dX7_isLetter_0 : decode cX7_isLetter 0 = .ok (.iload_n 1, 1) := by decide +kernel
theorem dX7_isLetter_1 : decode cX7_isLetter 1 = .ok (.aload_n 0, 1) := by decide +kernel
theorem dX7_isLetter_2 : decode cX7_isLetter 2 = .ok (.getfield 193, 3) := by decide +kernel
theorem dX7_isLetter_5 : decode cX7_isLetter 5 = .ok (.if_icmp .ge 29, 3) := by decide +kernel
theorem dX7_isLetter_8 : decode cX7_isLetter 8 = .ok (.aload_n 0, 1) := by decide +kernel
theorem dX7_isLetter_9 : decode cX7_isLetter 9 = .ok (.getfield 25, 3) := by decide +kernel
theorem dX7_isLetter_12 : decode cX7_isLetter 12 = .ok (.iload_n 1, 1) := by decide +kernel
theorem dX7_isLetter_13 : decode cX7_isLetter 13 = .ok (.iaload, 1) := by decide +kernel
theorem dX7_isLetter_14 : decode cX7_isLetter 14 = .ok (.bipush 97, 2) := by decide +kernel
theorem dX7_isLetter_16 : decode cX7_isLetter 16 = .ok (.if_icmp .lt 18, 3) := by decide +kernel
theorem dX7_isLetter_19 : decode cX7_isLetter 19 = .ok (.aload_n 0, 1) := by decide +kernel
theorem dX7_isLetter_20 : decode cX7_isLetter 20 = .ok (.getfield 25, 3) := by decide +kernel
theorem dX7_isLetter_23 : decode cX7_isLetter 23 = .ok (.iload_n 1, 1) := by decide +kernel
theorem dX7_isLetter_24 : decode cX7_isLetter 24 = .ok (.iaload, 1) := by decide +kernel
theorem dX7_isLetter_25 : decode cX7_isLetter 25 = .ok (.bipush 122, 2) := by decide +kernel
theorem dX7_isLetter_27 : decode cX7_isLetter 27 = .ok (.if_icmp .gt 7, 3) := by decide +kernel
theorem dX7_isLetter_30 : decode cX7_isLetter 30 = .ok (.iconst 1, 1) := by decide +kernel
theorem dX7_isLetter_31 : decode cX7_isLetter 31 = .ok (.goto 4, 3) := by decide +kernel
theorem dX7_isLetter_34 : decode cX7_isLetter 34 = .ok (.iconst 0, 1) := by decide +kernel
theorem dX7_isLetter_35 : decode cX7_isLetter 35 = .ok (.ireturn, 1) := by decide +kernel
theorem dX7_isFigure_0 : decode cX7_isFigure 0 = .ok (.iload_n 1, 1) := by decide +kernel
theorem dX7_isFigure_1 : decode cX7_isFigure 1 = .ok (.aload_n 0, 1) := by decide +kernel
theorem dX7_isFigure_2 : decode cX7_isFigure 2 = .ok (.getfield 193, 3) := by decide +kernel
theorem dX7_isFigure_5 : decode cX7_isFigure 5 = .ok (.if_icmp .ge 29, 3) := by decide +kernel
theorem dX7_isFigure_8 : decode cX7_isFigure 8 = .ok (.aload_n 0, 1) := by decide +kernel
theorem dX7_isFigure_9 : decode cX7_isFigure 9 = .ok (.getfield 25, 3) := by decide +kernel
theorem dX7_isFigure_12 : decode cX7_isFigure 12 = .ok (.iload_n 1, 1) := by decide +kernel
theorem dX7_isFigure_13 : decode cX7_isFigure 13 = .ok (.iaload, 1) := by decide +kernel
theorem dX7_isFigure_14 : decode cX7_isFigure 14 = .ok (.bipush 48, 2) := by decide +kernel
theorem dX7_isFigure_16 : decode cX7_isFigure 16 = .ok (.if_icmp .lt 18, 3) := by decide +kernel
theorem dX7_isFigure_19 : decode cX7_isFigure 19 = .ok (.aload_n 0, 1) := by decide +kernel
theorem dX7_isFigure_20 : decode cX7_isFigure 20 = .ok (.getfield 25, 3) := by decide +kernel
theorem dX7_isFigure_23 : decode cX7_isFigure 23 = .ok (.iload_n 1, 1) := by decide +kernel
theorem dX7_isFigure_24 : decode cX7_isFigure 24 = .ok (.iaload, 1) := by decide +kernel
theorem dX7_isFigure_25 : decode cX7_isFigure 25 = .ok (.bipush 57, 2) := by decide +kernel
theorem dX7_isFigure_27 : decode cX7_isFigure 27 = .ok (.if_icmp .gt 7, 3) := by decide +kernel
theorem dX7_isFigure_30 : decode cX7_isFigure 30 = .ok (.iconst 1, 1) := by decide +kernel
theorem dX7_isFigure_31 : decode cX7_isFigure 31 = .ok (.goto 4, 3) := by decide +kernel
theorem dX7_isFigure_34 : decode cX7_isFigure 34 = .ok (.iconst 0, 1) := by decide +kernel
theorem dX7_isFigure_35 : decode cX7_isFigure 35 = .ok (.ireturn, 1) := by decide +kernel
theorem dX7_go_0 : decode cX7_go 0 = .ok (.aload_n 0, 1) := by decide +kernel
theorem dX7_go_1 : decode cX7_go 1 = .ok (.getfield 197, 3) := by decide +kernel
theorem dX7_go_4 : decode cX7_go 4 = .ok (.aload_n 0, 1) := by decide +kernel
theorem dX7_go_5 : decode cX7_go 5 = .ok (.getfield 193, 3) := by decide +kernel
theorem dX7_go_8 : decode cX7_go 8 = .ok (.if_icmp .ge 30, 3) := by decide +kernel
theorem dX7_go_11 : decode cX7_go 11 = .ok (.aload_n 0, 1) := by decide +kernel
theorem dX7_go_12 : decode cX7_go 12 = .ok (.getfield 25, 3) := by decide +kernel
theorem dX7_go_15 : decode cX7_go 15 = .ok (.aload_n 0, 1) := by decide +kernel
theorem dX7_go_16 : decode cX7_go 16 = .ok (.getfield 197, 3) := by decide +kernel
theorem dX7_go_19 : decode cX7_go 19 = .ok (.iaload, 1) := by decide +kernel
theorem dX7_go_20 : decode cX7_go 20 = .ok (.bipush 32, 2) := by decide +kernel
theorem dX7_go_22 : decode cX7_go 22 = .ok (.if_icmp .ne 16, 3) := by decide +kernel
theorem dX7_go_25 : decode cX7_go 25 = .ok (.aload_n 0, 1) := by decide +kernel
theorem dX7_go_26 : decode cX7_go 26 = .ok (.dup, 1) := by decide +kernel
theorem dX7_go_27 : decode cX7_go 27 = .ok (.getfield 197, 3) := by decide +kernel
theorem dX7_go_30 : decode cX7_go 30 = .ok (.iconst 1, 1) := by decide +kernel
theorem dX7_go_31 : decode cX7_go 31 = .ok (.iadd, 1) := by decide +kernel
theorem dX7_go_32 : decode cX7_go 32 = .ok (.putfield 197, 3) := by decide +kernel
theorem dX7_go_35 : decode cX7_go 35 = .ok (.goto (-35), 3) := by decide +kernel
theorem dX7_go_38 : decode cX7_go 38 = .ok (.aload_n 0, 1) := by decide +kernel
theorem dX7_go_39 : decode cX7_go 39 = .ok (.aload_n 0, 1) := by decide +kernel
theorem dX7_go_40 : decode cX7_go 40 = .ok (.getfield 197, 3) := by decide +kernel
theorem dX7_go_43 : decode cX7_go 43 = .ok (.putfield 200, 3) := by decide +kernel
theorem dX7_go_46 : decode cX7_go 46 = .ok (.aload_n 0, 1) := by decide +kernel
theorem dX7_go_47 : decode cX7_go 47 = .ok (.getfield 200, 3) := by decide +kernel
theorem dX7_go_50 : decode cX7_go 50 = .ok (.aload_n 0, 1) := by decide +kernel
theorem dX7_go_51 : decode cX7_go 51 = .ok (.getfield 203, 3) := by decide +kernel
theorem dX7_go_54 : decode cX7_go 54 = .ok (.if_icmp .ne 7, 3) := by decide +kernel
theorem dX7_go_57 : decode cX7_go 57 = .ok (.iconst 1, 1) := by decide +kernel
theorem dX7_go_58 : decode cX7_go 58 = .ok (.goto 4, 3) := by decide +kernel
theorem dX7_go_61 : decode cX7_go 61 = .ok (.iconst 0, 1) := by decide +kernel
theorem dX7_go_62 : decode cX7_go 62 = .ok (.istore_n 1, 1) := by decide +kernel
theorem dX7_go_63 : decode cX7_go 63 = .ok (.aload_n 0, 1) := by decide +kernel
theorem dX7_go_64 : decode cX7_go 64 = .ok (.getfield 200, 3) := by decide +kernel
theorem dX7_go_67 : decode cX7_go 67 = .ok (.aload_n 0, 1) := by decide +kernel
theorem dX7_go_68 : decode cX7_go 68 = .ok (.getfield 193, 3) := by decide +kernel
theorem dX7_go_71 : decode cX7_go 71 = .ok (.if_icmp .ne 11, 3) := by decide +kernel
theorem dX7_go_74 : decode cX7_go 74 = .ok (.aload_n 0, 1) := by decide +kernel
theorem dX7_go_75 : decode cX7_go 75 = .ok (.iconst 0, 1) := by decide +kernel
theorem dX7_go_76 : decode cX7_go 76 = .ok (.putfield 206, 3) := by decide +kernel
theorem dX7_go_79 : decode cX7_go 79 = .ok (.goto 224, 3) := by decide +kernel
theorem dX7_go_82 : decode cX7_go 82 = .ok (.aload_n 0, 1) := by decide +kernel
theorem dX7_go_83 : decode cX7_go 83 = .ok (.aload_n 0, 1) := by decide +kernel
theorem dX7_go_84 : decode cX7_go 84 = .ok (.getfield 200, 3) := by decide +kernel
theorem dX7_go_87 : decode cX7_go 87 = .ok (.invokevirtual 209, 3) := by decide +kernel
theorem dX7_go_90 : decode cX7_go 90 = .ok (.ifCond .eq 64, 3) := by decide +kernel
theorem dX7_go_93 : decode cX7_go 93 = .ok (.aload_n 0, 1) := by decide +kernel
theorem dX7_go_94 : decode cX7_go 94 = .ok (.aload_n 0, 1) := by decide +kernel
theorem dX7_go_95 : decode cX7_go 95 = .ok (.getfield 197, 3) := by decide +kernel
theorem dX7_go_98 : decode cX7_go 98 = .ok (.invokevirtual 209, 3) := by decide +kernel
theorem dX7_go_101 : decode cX7_go 101 = .ok (.ifCond .eq 16, 3) := by decide +kernel
theorem dX7_go_104 : decode cX7_go 104 = .ok (.aload_n 0, 1) := by decide +kernel
theorem dX7_go_105 : decode cX7_go 105 = .ok (.dup, 1) := by decide +kernel
theorem dX7_go_106 : decode cX7_go 106 = .ok (.getfield 197, 3) := by decide +kernel
theorem dX7_go_109 : decode cX7_go 109 = .ok (.iconst 1, 1) := by decide +kernel
theorem dX7_go_110 : decode cX7_go 110 = .ok (.iadd, 1) := by decide +kernel
theorem dX7_go_111 : decode cX7_go 111 = .ok (.putfield 197, 3) := by decide +kernel
theorem dX7_go_114 : decode cX7_go 114 = .ok (.goto (-21), 3) := by decide +kernel
theorem dX7_go_117 : decode cX7_go 117 = .ok (.aload_n 0, 1) := by decide +kernel
theorem dX7_go_118 : decode cX7_go 118 = .ok (.iload_n 1, 1) := by decide +kernel
theorem dX7_go_119 : decode cX7_go 119 = .ok (.ifCond .eq 7, 3) := by decide +kernel
theorem dX7_go_122 : decode cX7_go 122 = .ok (.iconst 4, 1) := by decide +kernel
theorem dX7_go_123 : decode cX7_go 123 = .ok (.goto 4, 3) := by decide +kernel
theorem dX7_go_126 : decode cX7_go 126 = .ok (.iconst 1, 1) := by decide +kernel
theorem dX7_go_127 : decode cX7_go 127 = .ok (.putfield 206, 3) := by decide +kernel
theorem dX7_go_130 : decode cX7_go 130 = .ok (.aload_n 0, 1) := by decide +kernel
theorem dX7_go_131 : decode cX7_go 131 = .ok (.aload_n 0, 1) := by decide +kernel
theorem dX7_go_132 : decode cX7_go 132 = .ok (.getfield 25, 3) := by decide +kernel
theorem dX7_go_135 : decode cX7_go 135 = .ok (.aload_n 0, 1) := by decide +kernel
theorem dX7_go_136 : decode cX7_go 136 = .ok (.getfield 200, 3) := by decide +kernel
theorem dX7_go_139 : decode cX7_go 139 = .ok (.iaload, 1) := by decide +kernel
theorem dX7_go_140 : decode cX7_go 140 = .ok (.putfield 212, 3) := by decide +kernel
theorem dX7_go_143 : decode cX7_go 143 = .ok (.aload_n 0, 1) := by decide +kernel
theorem dX7_go_144 : decode cX7_go 144 = .ok (.aload_n 0, 1) := by decide +kernel
theorem dX7_go_145 : decode cX7_go 145 = .ok (.getfield 197, 3) := by decide +kernel
theorem dX7_go_148 : decode cX7_go 148 = .ok (.putfield 203, 3) := by decide +kernel
theorem dX7_go_151 : decode cX7_go 151 = .ok (.goto 152, 3) := by decide +kernel
theorem dX7_go_154 : decode cX7_go 154 = .ok (.aload_n 0, 1) := by decide +kernel
theorem dX7_go_155 : decode cX7_go 155 = .ok (.aload_n 0, 1) := by decide +kernel
theorem dX7_go_156 : decode cX7_go 156 = .ok (.getfield 200, 3) := by decide +kernel
theorem dX7_go_159 : decode cX7_go 159 = .ok (.invokevirtual 215, 3) := by decide +kernel
theorem dX7_go_162 : decode cX7_go 162 = .ok (.ifCond .eq 113, 3) := by decide +kernel
theorem dX7_go_165 : decode cX7_go 165 = .ok (.aload_n 0, 1) := by decide +kernel
theorem dX7_go_166 : decode cX7_go 166 = .ok (.iconst 0, 1) := by decide +kernel
theorem dX7_go_167 : decode cX7_go 167 = .ok (.putfield 212, 3) := by decide +kernel
theorem dX7_go_170 : decode cX7_go 170 = .ok (.aload_n 0, 1) := by decide +kernel
theorem dX7_go_171 : decode cX7_go 171 = .ok (.aload_n 0, 1) := by decide +kernel
theorem dX7_go_172 : decode cX7_go 172 = .ok (.getfield 197, 3) := by decide +kernel
theorem dX7_go_175 : decode cX7_go 175 = .ok (.invokevirtual 215, 3) := by decide +kernel
theorem dX7_go_178 : decode cX7_go 178 = .ok (.ifCond .eq 60, 3) := by decide +kernel
theorem dX7_go_181 : decode cX7_go 181 = .ok (.aload_n 0, 1) := by decide +kernel
theorem dX7_go_182 : decode cX7_go 182 = .ok (.aload_n 0, 1) := by decide +kernel
theorem dX7_go_183 : decode cX7_go 183 = .ok (.getfield 197, 3) := by decide +kernel
theorem dX7_go_186 : decode cX7_go 186 = .ok (.aload_n 0, 1) := by decide +kernel
theorem dX7_go_187 : decode cX7_go 187 = .ok (.getfield 200, 3) := by decide +kernel
theorem dX7_go_190 : decode cX7_go 190 = .ok (.isub, 1) := by decide +kernel
theorem dX7_go_191 : decode cX7_go 191 = .ok (.iconst 4, 1) := by decide +kernel
theorem dX7_go_192 : decode cX7_go 192 = .ok (.if_icmp .ge 26, 3) := by decide +kernel
theorem dX7_go_195 : decode cX7_go 195 = .ok (.bipush 10, 2) := by decide +kernel
theorem dX7_go_197 : decode cX7_go 197 = .ok (.aload_n 0, 1) := by decide +kernel
theorem dX7_go_198 : decode cX7_go 198 = .ok (.getfield 212, 3) := by decide +kernel
theorem dX7_go_201 : decode cX7_go 201 = .ok (.imul, 1) := by decide +kernel
theorem dX7_go_202 : decode cX7_go 202 = .ok (.aload_n 0, 1) := by decide +kernel
theorem dX7_go_203 : decode cX7_go 203 = .ok (.getfield 25, 3) := by decide +kernel
theorem dX7_go_206 : decode cX7_go 206 = .ok (.aload_n 0, 1) := by decide +kernel
theorem dX7_go_207 : decode cX7_go 207 = .ok (.getfield 197, 3) := by decide +kernel
theorem dX7_go_210 : decode cX7_go 210 = .ok (.iaload, 1) := by decide +kernel
theorem dX7_go_211 : decode cX7_go 211 = .ok (.iadd, 1) := by decide +kernel
theorem dX7_go_212 : decode cX7_go 212 = .ok (.bipush 48, 2) := by decide +kernel
theorem dX7_go_214 : decode cX7_go 214 = .ok (.isub, 1) := by decide +kernel
theorem dX7_go_215 : decode cX7_go 215 = .ok (.goto 7, 3) := by decide +kernel
theorem dX7_go_218 : decode cX7_go 218 = .ok (.aload_n 0, 1) := by decide +kernel
theorem dX7_go_219 : decode cX7_go 219 = .ok (.getfield 212, 3) := by decide +kernel
theorem dX7_go_222 : decode cX7_go 222 = .ok (.putfield 212, 3) := by decide +kernel
theorem dX7_go_225 : decode cX7_go 225 = .ok (.aload_n 0, 1) := by decide +kernel
theorem dX7_go_226 : decode cX7_go 226 = .ok (.dup, 1) := by decide +kernel
theorem dX7_go_227 : decode cX7_go 227 = .ok (.getfield 197, 3) := by decide +kernel
theorem dX7_go_230 : decode cX7_go 230 = .ok (.iconst 1, 1) := by decide +kernel
theorem dX7_go_231 : decode cX7_go 231 = .ok (.iadd, 1) := by decide +kernel
theorem dX7_go_232 : decode cX7_go 232 = .ok (.putfield 197, 3) := by decide +kernel
theorem dX7_go_235 : decode cX7_go 235 = .ok (.goto (-65), 3) := by decide +kernel
theorem dX7_go_238 : decode cX7_go 238 = .ok (.aload_n 0, 1) := by decide +kernel
theorem dX7_go_239 : decode cX7_go 239 = .ok (.iload_n 1, 1) := by decide +kernel
theorem dX7_go_240 : decode cX7_go 240 = .ok (.ifCond .ne 16, 3) := by decide +kernel
theorem dX7_go_243 : decode cX7_go 243 = .ok (.aload_n 0, 1) := by decide +kernel
theorem dX7_go_244 : decode cX7_go 244 = .ok (.getfield 197, 3) := by decide +kernel
theorem dX7_go_247 : decode cX7_go 247 = .ok (.aload_n 0, 1) := by decide +kernel
theorem dX7_go_248 : decode cX7_go 248 = .ok (.getfield 200, 3) := by decide +kernel
theorem dX7_go_251 : decode cX7_go 251 = .ok (.isub, 1) := by decide +kernel
theorem dX7_go_252 : decode cX7_go 252 = .ok (.iconst 4, 1) := by decide +kernel
theorem dX7_go_253 : decode cX7_go 253 = .ok (.if_icmp .le 7, 3) := by decide +kernel
theorem dX7_go_256 : decode cX7_go 256 = .ok (.iconst 4, 1) := by decide +kernel
theorem dX7_go_257 : decode cX7_go 257 = .ok (.goto 4, 3) := by decide +kernel
theorem dX7_go_260 : decode cX7_go 260 = .ok (.iconst 2, 1) := by decide +kernel
theorem dX7_go_261 : decode cX7_go 261 = .ok (.putfield 206, 3) := by decide +kernel
theorem dX7_go_264 : decode cX7_go 264 = .ok (.aload_n 0, 1) := by decide +kernel
theorem dX7_go_265 : decode cX7_go 265 = .ok (.aload_n 0, 1) := by decide +kernel
theorem dX7_go_266 : decode cX7_go 266 = .ok (.getfield 197, 3) := by decide +kernel
theorem dX7_go_269 : decode cX7_go 269 = .ok (.putfield 203, 3) := by decide +kernel
theorem dX7_go_272 : decode cX7_go 272 = .ok (.goto 31, 3) := by decide +kernel
theorem dX7_go_275 : decode cX7_go 275 = .ok (.aload_n 0, 1) := by decide +kernel
theorem dX7_go_276 : decode cX7_go 276 = .ok (.iconst 3, 1) := by decide +kernel
theorem dX7_go_277 : decode cX7_go 277 = .ok (.putfield 206, 3) := by decide +kernel
theorem dX7_go_280 : decode cX7_go 280 = .ok (.aload_n 0, 1) := by decide +kernel
theorem dX7_go_281 : decode cX7_go 281 = .ok (.aload_n 0, 1) := by decide +kernel
theorem dX7_go_282 : decode cX7_go 282 = .ok (.getfield 25, 3) := by decide +kernel
theorem dX7_go_285 : decode cX7_go 285 = .ok (.aload_n 0, 1) := by decide +kernel
theorem dX7_go_286 : decode cX7_go 286 = .ok (.getfield 200, 3) := by decide +kernel
theorem dX7_go_289 : decode cX7_go 289 = .ok (.iaload, 1) := by decide +kernel
theorem dX7_go_290 : decode cX7_go 290 = .ok (.putfield 212, 3) := by decide +kernel
theorem dX7_go_293 : decode cX7_go 293 = .ok (.aload_n 0, 1) := by decide +kernel
theorem dX7_go_294 : decode cX7_go 294 = .ok (.dup, 1) := by decide +kernel
theorem dX7_go_295 : decode cX7_go 295 = .ok (.getfield 197, 3) := by decide +kernel
theorem dX7_go_298 : decode cX7_go 298 = .ok (.iconst 1, 1) := by decide +kernel
theorem dX7_go_299 : decode cX7_go 299 = .ok (.iadd, 1) := by decide +kernel
theorem dX7_go_300 : decode cX7_go 300 = .ok (.putfield 197, 3) := by decide +kernel
theorem dX7_go_303 : decode cX7_go 303 = .ok (.return_, 1) := by decide +kernel
theorem dX7_takesKey_0 : decode cX7_takesKey 0 = .ok (.aload_n 0, 1) := by decide +kernel
theorem dX7_takesKey_1 : decode cX7_takesKey 1 = .ok (.getfield 206, 3) := by decide +kernel
theorem dX7_takesKey_4 : decode cX7_takesKey 4 = .ok (.iconst 1, 1) := by decide +kernel
theorem dX7_takesKey_5 : decode cX7_takesKey 5 = .ok (.if_icmp .eq 5, 3) := by decide +kernel
theorem dX7_takesKey_8 : decode cX7_takesKey 8 = .ok (.iconst 0, 1) := by decide +kernel
theorem dX7_takesKey_9 : decode cX7_takesKey 9 = .ok (.ireturn, 1) := by decide +kernel
theorem dX7_takesKey_10 : decode cX7_takesKey 10 = .ok (.iconst 0, 1) := by decide +kernel
theorem dX7_takesKey_11 : decode cX7_takesKey 11 = .ok (.istore_n 1, 1) := by decide +kernel
theorem dX7_takesKey_12 : decode cX7_takesKey 12 = .ok (.iload_n 1, 1) := by decide +kernel
theorem dX7_takesKey_13 : decode cX7_takesKey 13 = .ok (.iconst 3, 1) := by decide +kernel
theorem dX7_takesKey_14 : decode cX7_takesKey 14 = .ok (.if_icmp .ge 113, 3) := by decide +kernel
theorem dX7_takesKey_17 : decode cX7_takesKey 17 = .ok (.aload_n 0, 1) := by decide +kernel
theorem dX7_takesKey_18 : decode cX7_takesKey 18 = .ok (.getfield 32, 3) := by decide +kernel
theorem dX7_takesKey_21 : decode cX7_takesKey 21 = .ok (.iload_n 1, 1) := by decide +kernel
theorem dX7_takesKey_22 : decode cX7_takesKey 22 = .ok (.iconst 1, 1) := by decide +kernel
theorem dX7_takesKey_23 : decode cX7_takesKey 23 = .ok (.iadd, 1) := by decide +kernel
theorem dX7_takesKey_24 : decode cX7_takesKey 24 = .ok (.iaload, 1) := by decide +kernel
theorem dX7_takesKey_25 : decode cX7_takesKey 25 = .ok (.aload_n 0, 1) := by decide +kernel
theorem dX7_takesKey_26 : decode cX7_takesKey 26 = .ok (.getfield 32, 3) := by decide +kernel
theorem dX7_takesKey_29 : decode cX7_takesKey 29 = .ok (.iload_n 1, 1) := by decide +kernel
theorem dX7_takesKey_30 : decode cX7_takesKey 30 = .ok (.iaload, 1) := by decide +kernel
theorem dX7_takesKey_31 : decode cX7_takesKey 31 = .ok (.isub, 1) := by decide +kernel
theorem dX7_takesKey_32 : decode cX7_takesKey 32 = .ok (.istore_n 2, 1) := by decide +kernel
theorem dX7_takesKey_33 : decode cX7_takesKey 33 = .ok (.iload_n 2, 1) := by decide +kernel
theorem dX7_takesKey_34 : decode cX7_takesKey 34 = .ok (.aload_n 0, 1) := by decide +kernel
theorem dX7_takesKey_35 : decode cX7_takesKey 35 = .ok (.getfield 197, 3) := by decide +kernel
theorem dX7_takesKey_38 : decode cX7_takesKey 38 = .ok (.aload_n 0, 1) := by decide +kernel
theorem dX7_takesKey_39 : decode cX7_takesKey 39 = .ok (.getfield 200, 3) := by decide +kernel
theorem dX7_takesKey_42 : decode cX7_takesKey 42 = .ok (.isub, 1) := by decide +kernel
theorem dX7_takesKey_43 : decode cX7_takesKey 43 = .ok (.if_icmp .ne 7, 3) := by decide +kernel
theorem dX7_takesKey_46 : decode cX7_takesKey 46 = .ok (.iconst 1, 1) := by decide +kernel
theorem dX7_takesKey_47 : decode cX7_takesKey 47 = .ok (.goto 4, 3) := by decide +kernel
theorem dX7_takesKey_50 : decode cX7_takesKey 50 = .ok (.iconst 0, 1) := by decide +kernel
theorem dX7_takesKey_51 : decode cX7_takesKey 51 = .ok (.istore_n 3, 1) := by decide +kernel
theorem dX7_takesKey_52 : decode cX7_takesKey 52 = .ok (.iconst 0, 1) := by decide +kernel
theorem dX7_takesKey_53 : decode cX7_takesKey 53 = .ok (.istore 4, 2) := by decide +kernel
theorem dX7_takesKey_55 : decode cX7_takesKey 55 = .ok (.iload 4, 2) := by decide +kernel
theorem dX7_takesKey_57 : decode cX7_takesKey 57 = .ok (.iload_n 2, 1) := by decide +kernel
theorem dX7_takesKey_58 : decode cX7_takesKey 58 = .ok (.if_icmp .ge 48, 3) := by decide +kernel
theorem dX7_takesKey_61 : decode cX7_takesKey 61 = .ok (.iload_n 3, 1) := by decide +kernel
theorem dX7_takesKey_62 : decode cX7_takesKey 62 = .ok (.ifCond .eq 44, 3) := by decide +kernel
theorem dX7_takesKey_65 : decode cX7_takesKey 65 = .ok (.aload_n 0, 1) := by decide +kernel
theorem dX7_takesKey_66 : decode cX7_takesKey 66 = .ok (.getfield 25, 3) := by decide +kernel
theorem dX7_takesKey_69 : decode cX7_takesKey 69 = .ok (.aload_n 0, 1) := by decide +kernel
theorem dX7_takesKey_70 : decode cX7_takesKey 70 = .ok (.getfield 200, 3) := by decide +kernel
theorem dX7_takesKey_73 : decode cX7_takesKey 73 = .ok (.iload 4, 2) := by decide +kernel
theorem dX7_takesKey_75 : decode cX7_takesKey 75 = .ok (.iadd, 1) := by decide +kernel
theorem dX7_takesKey_76 : decode cX7_takesKey 76 = .ok (.iaload, 1) := by decide +kernel
theorem dX7_takesKey_77 : decode cX7_takesKey 77 = .ok (.aload_n 0, 1) := by decide +kernel
theorem dX7_takesKey_78 : decode cX7_takesKey 78 = .ok (.getfield 28, 3) := by decide +kernel
theorem dX7_takesKey_81 : decode cX7_takesKey 81 = .ok (.aload_n 0, 1) := by decide +kernel
theorem dX7_takesKey_82 : decode cX7_takesKey 82 = .ok (.getfield 32, 3) := by decide +kernel
theorem dX7_takesKey_85 : decode cX7_takesKey 85 = .ok (.iload_n 1, 1) := by decide +kernel
theorem dX7_takesKey_86 : decode cX7_takesKey 86 = .ok (.iaload, 1) := by decide +kernel
theorem dX7_takesKey_87 : decode cX7_takesKey 87 = .ok (.iload 4, 2) := by decide +kernel
theorem dX7_takesKey_89 : decode cX7_takesKey 89 = .ok (.iadd, 1) := by decide +kernel
theorem dX7_takesKey_90 : decode cX7_takesKey 90 = .ok (.caload, 1) := by decide +kernel
theorem dX7_takesKey_91 : decode cX7_takesKey 91 = .ok (.if_icmp .ne 7, 3) := by decide +kernel
theorem dX7_takesKey_94 : decode cX7_takesKey 94 = .ok (.iconst 1, 1) := by decide +kernel
theorem dX7_takesKey_95 : decode cX7_takesKey 95 = .ok (.goto 4, 3) := by decide +kernel
theorem dX7_takesKey_98 : decode cX7_takesKey 98 = .ok (.iconst 0, 1) := by decide +kernel
theorem dX7_takesKey_99 : decode cX7_takesKey 99 = .ok (.istore_n 3, 1) := by decide +kernel
theorem dX7_takesKey_100 : decode cX7_takesKey 100 = .ok (.iinc 4 1, 3) := by decide +kernel
theorem dX7_takesKey_103 : decode cX7_takesKey 103 = .ok (.goto (-48), 3) := by decide +kernel
theorem dX7_takesKey_106 : decode cX7_takesKey 106 = .ok (.iload_n 3, 1) := by decide +kernel
theorem dX7_takesKey_107 : decode cX7_takesKey 107 = .ok (.ifCond .eq 14, 3) := by decide +kernel
theorem dX7_takesKey_110 : decode cX7_takesKey 110 = .ok (.aload_n 0, 1) := by decide +kernel
theorem dX7_takesKey_111 : decode cX7_takesKey 111 = .ok (.iload_n 1, 1) := by decide +kernel
theorem dX7_takesKey_112 : decode cX7_takesKey 112 = .ok (.putfield 218, 3) := by decide +kernel
theorem dX7_takesKey_115 : decode cX7_takesKey 115 = .ok (.aload_n 0, 1) := by decide +kernel
theorem dX7_takesKey_116 : decode cX7_takesKey 116 = .ok (.invokevirtual 221, 3) := by decide +kernel
theorem dX7_takesKey_119 : decode cX7_takesKey 119 = .ok (.iconst 1, 1) := by decide +kernel
theorem dX7_takesKey_120 : decode cX7_takesKey 120 = .ok (.ireturn, 1) := by decide +kernel
theorem dX7_takesKey_121 : decode cX7_takesKey 121 = .ok (.iinc 1 1, 3) := by decide +kernel
theorem dX7_takesKey_124 : decode cX7_takesKey 124 = .ok (.goto (-112), 3) := by decide +kernel
theorem dX7_takesKey_127 : decode cX7_takesKey 127 = .ok (.iconst 0, 1) := by decide +kernel
theorem dX7_takesKey_128 : decode cX7_takesKey 128 = .ok (.ireturn, 1) := by decide +kernel
theorem dX7_nameOf_0 : decode cX7_nameOf 0 = .ok (.aload_n 0, 1) := by decide +kernel
theorem dX7_nameOf_1 : decode cX7_nameOf 1 = .ok (.getfield 218, 3) := by decide +kernel
theorem dX7_nameOf_4 : decode cX7_nameOf 4 = .ok (.lookupswitch 82 #[(0, 28), (1, 60)], 28) := by decide +kernel
theorem dX7_nameOf_32 : decode cX7_nameOf 32 = .ok (.iload_n 1, 1) := by decide +kernel
theorem dX7_nameOf_33 : decode cX7_nameOf 33 = .ok (.bipush 104, 2) := by decide +kernel
theorem dX7_nameOf_35 : decode cX7_nameOf 35 = .ok (.if_icmp .ne 7, 3) := by decide +kernel
theorem dX7_nameOf_38 : decode cX7_nameOf 38 = .ok (.iconst 0, 1) := by decide +kernel
theorem dX7_nameOf_39 : decode cX7_nameOf 39 = .ok (.goto 24, 3) := by decide +kernel
theorem dX7_nameOf_42 : decode cX7_nameOf 42 = .ok (.iload_n 1, 1) := by decide +kernel
theorem dX7_nameOf_43 : decode cX7_nameOf 43 = .ok (.bipush 115, 2) := by decide +kernel
theorem dX7_nameOf_45 : decode cX7_nameOf 45 = .ok (.if_icmp .ne 7, 3) := by decide +kernel
theorem dX7_nameOf_48 : decode cX7_nameOf 48 = .ok (.iconst 1, 1) := by decide +kernel
theorem dX7_nameOf_49 : decode cX7_nameOf 49 = .ok (.goto 14, 3) := by decide +kernel
theorem dX7_nameOf_52 : decode cX7_nameOf 52 = .ok (.iload_n 1, 1) := by decide +kernel
theorem dX7_nameOf_53 : decode cX7_nameOf 53 = .ok (.bipush 112, 2) := by decide +kernel
theorem dX7_nameOf_55 : decode cX7_nameOf 55 = .ok (.if_icmp .ne 7, 3) := by decide +kernel
theorem dX7_nameOf_58 : decode cX7_nameOf 58 = .ok (.iconst 2, 1) := by decide +kernel
theorem dX7_nameOf_59 : decode cX7_nameOf 59 = .ok (.goto 4, 3) := by decide +kernel
theorem dX7_nameOf_62 : decode cX7_nameOf 62 = .ok (.iconst (-1), 1) := by decide +kernel
theorem dX7_nameOf_63 : decode cX7_nameOf 63 = .ok (.ireturn, 1) := by decide +kernel
theorem dX7_nameOf_64 : decode cX7_nameOf 64 = .ok (.iload_n 1, 1) := by decide +kernel
theorem dX7_nameOf_65 : decode cX7_nameOf 65 = .ok (.bipush 100, 2) := by decide +kernel
theorem dX7_nameOf_67 : decode cX7_nameOf 67 = .ok (.if_icmp .ne 7, 3) := by decide +kernel
theorem dX7_nameOf_70 : decode cX7_nameOf 70 = .ok (.iconst 0, 1) := by decide +kernel
theorem dX7_nameOf_71 : decode cX7_nameOf 71 = .ok (.goto 14, 3) := by decide +kernel
theorem dX7_nameOf_74 : decode cX7_nameOf 74 = .ok (.iload_n 1, 1) := by decide +kernel
theorem dX7_nameOf_75 : decode cX7_nameOf 75 = .ok (.bipush 103, 2) := by decide +kernel
theorem dX7_nameOf_77 : decode cX7_nameOf 77 = .ok (.if_icmp .ne 7, 3) := by decide +kernel
theorem dX7_nameOf_80 : decode cX7_nameOf 80 = .ok (.iconst 1, 1) := by decide +kernel
theorem dX7_nameOf_81 : decode cX7_nameOf 81 = .ok (.goto 4, 3) := by decide +kernel
theorem dX7_nameOf_84 : decode cX7_nameOf 84 = .ok (.iconst (-1), 1) := by decide +kernel
theorem dX7_nameOf_85 : decode cX7_nameOf 85 = .ok (.ireturn, 1) := by decide +kernel
theorem dX7_nameOf_86 : decode cX7_nameOf 86 = .ok (.iload_n 1, 1) := by decide +kernel
theorem dX7_nameOf_87 : decode cX7_nameOf 87 = .ok (.bipush 99, 2) := by decide +kernel
theorem dX7_nameOf_89 : decode cX7_nameOf 89 = .ok (.if_icmp .ne 7, 3) := by decide +kernel
theorem dX7_nameOf_92 : decode cX7_nameOf 92 = .ok (.iconst 0, 1) := by decide +kernel
theorem dX7_nameOf_93 : decode cX7_nameOf 93 = .ok (.goto 14, 3) := by decide +kernel
theorem dX7_nameOf_96 : decode cX7_nameOf 96 = .ok (.iload_n 1, 1) := by decide +kernel
theorem dX7_nameOf_97 : decode cX7_nameOf 97 = .ok (.bipush 104, 2) := by decide +kernel
theorem dX7_nameOf_99 : decode cX7_nameOf 99 = .ok (.if_icmp .ne 7, 3) := by decide +kernel
theorem dX7_nameOf_102 : decode cX7_nameOf 102 = .ok (.iconst 1, 1) := by decide +kernel
theorem dX7_nameOf_103 : decode cX7_nameOf 103 = .ok (.goto 4, 3) := by decide +kernel
theorem dX7_nameOf_106 : decode cX7_nameOf 106 = .ok (.iconst (-1), 1) := by decide +kernel
theorem dX7_nameOf_107 : decode cX7_nameOf 107 = .ok (.ireturn, 1) := by decide +kernel
theorem dX7_rank_0 : decode cX7_rank 0 = .ok (.iload_n 0, 1) := by decide +kernel
theorem dX7_rank_1 : decode cX7_rank 1 = .ok (.iconst (-1), 1) := by decide +kernel
theorem dX7_rank_2 : decode cX7_rank 2 = .ok (.if_icmp .ne 7, 3) := by decide +kernel
theorem dX7_rank_5 : decode cX7_rank 5 = .ok (.iconst 1, 1) := by decide +kernel
theorem dX7_rank_6 : decode cX7_rank 6 = .ok (.goto 45, 3) := by decide +kernel
theorem dX7_rank_9 : decode cX7_rank 9 = .ok (.iload_n 0, 1) := by decide +kernel
theorem dX7_rank_10 : decode cX7_rank 10 = .ok (.bipush (-2), 2) := by decide +kernel
theorem dX7_rank_12 : decode cX7_rank 12 = .ok (.if_icmp .ne 7, 3) := by decide +kernel
theorem dX7_rank_15 : decode cX7_rank 15 = .ok (.iconst 2, 1) := by decide +kernel
theorem dX7_rank_16 : decode cX7_rank 16 = .ok (.goto 35, 3) := by decide +kernel
theorem dX7_rank_19 : decode cX7_rank 19 = .ok (.iload_n 0, 1) := by decide +kernel
theorem dX7_rank_20 : decode cX7_rank 20 = .ok (.bipush (-5), 2) := by decide +kernel
theorem dX7_rank_22 : decode cX7_rank 22 = .ok (.if_icmp .lt 7, 3) := by decide +kernel
theorem dX7_rank_25 : decode cX7_rank 25 = .ok (.iconst 3, 1) := by decide +kernel
theorem dX7_rank_26 : decode cX7_rank 26 = .ok (.goto 25, 3) := by decide +kernel
theorem dX7_rank_29 : decode cX7_rank 29 = .ok (.iload_n 0, 1) := by decide +kernel
theorem dX7_rank_30 : decode cX7_rank 30 = .ok (.bipush (-7), 2) := by decide +kernel
theorem dX7_rank_32 : decode cX7_rank 32 = .ok (.if_icmp .lt 7, 3) := by decide +kernel
theorem dX7_rank_35 : decode cX7_rank 35 = .ok (.iconst 4, 1) := by decide +kernel
theorem dX7_rank_36 : decode cX7_rank 36 = .ok (.goto 15, 3) := by decide +kernel
theorem dX7_rank_39 : decode cX7_rank 39 = .ok (.iload_n 0, 1) := by decide +kernel
theorem dX7_rank_40 : decode cX7_rank 40 = .ok (.bipush (-9), 2) := by decide +kernel
theorem dX7_rank_42 : decode cX7_rank 42 = .ok (.if_icmp .lt 7, 3) := by decide +kernel
theorem dX7_rank_45 : decode cX7_rank 45 = .ok (.iconst 5, 1) := by decide +kernel
theorem dX7_rank_46 : decode cX7_rank 46 = .ok (.goto 5, 3) := by decide +kernel
theorem dX7_rank_49 : decode cX7_rank 49 = .ok (.bipush 6, 2) := by decide +kernel
theorem dX7_rank_51 : decode cX7_rank 51 = .ok (.ireturn, 1) := by decide +kernel
theorem dX7_settle_0 : decode cX7_settle 0 = .ok (.aload_n 0, 1) := by decide +kernel
theorem dX7_settle_1 : decode cX7_settle 1 = .ok (.getfield 224, 3) := by decide +kernel
theorem dX7_settle_4 : decode cX7_settle 4 = .ok (.ifCond .le 78, 3) := by decide +kernel
theorem dX7_settle_7 : decode cX7_settle 7 = .ok (.aload_n 0, 1) := by decide +kernel
theorem dX7_settle_8 : decode cX7_settle 8 = .ok (.getfield 38, 3) := by decide +kernel
theorem dX7_settle_11 : decode cX7_settle 11 = .ok (.aload_n 0, 1) := by decide +kernel
theorem dX7_settle_12 : decode cX7_settle 12 = .ok (.getfield 224, 3) := by decide +kernel
theorem dX7_settle_15 : decode cX7_settle 15 = .ok (.iconst 1, 1) := by decide +kernel
theorem dX7_settle_16 : decode cX7_settle 16 = .ok (.isub, 1) := by decide +kernel
theorem dX7_settle_17 : decode cX7_settle 17 = .ok (.iaload, 1) := by decide +kernel
theorem dX7_settle_18 : decode cX7_settle 18 = .ok (.bipush (-11), 2) := by decide +kernel
theorem dX7_settle_20 : decode cX7_settle 20 = .ok (.if_icmp .eq 62, 3) := by decide +kernel
theorem dX7_settle_23 : decode cX7_settle 23 = .ok (.aload_n 0, 1) := by decide +kernel
theorem dX7_settle_24 : decode cX7_settle 24 = .ok (.getfield 38, 3) := by decide +kernel
theorem dX7_settle_27 : decode cX7_settle 27 = .ok (.aload_n 0, 1) := by decide +kernel
theorem dX7_settle_28 : decode cX7_settle 28 = .ok (.getfield 224, 3) := by decide +kernel
theorem dX7_settle_31 : decode cX7_settle 31 = .ok (.iconst 1, 1) := by decide +kernel
theorem dX7_settle_32 : decode cX7_settle 32 = .ok (.isub, 1) := by decide +kernel
theorem dX7_settle_33 : decode cX7_settle 33 = .ok (.iaload, 1) := by decide +kernel
theorem dX7_settle_34 : decode cX7_settle 34 = .ok (.invokestatic 227, 3) := by decide +kernel
theorem dX7_settle_37 : decode cX7_settle 37 = .ok (.iload_n 1, 1) := by decide +kernel
theorem dX7_settle_38 : decode cX7_settle 38 = .ok (.if_icmp .lt 44, 3) := by decide +kernel
theorem dX7_settle_41 : decode cX7_settle 41 = .ok (.aload_n 0, 1) := by decide +kernel
theorem dX7_settle_42 : decode cX7_settle 42 = .ok (.dup, 1) := by decide +kernel
theorem dX7_settle_43 : decode cX7_settle 43 = .ok (.getfield 224, 3) := by decide +kernel
theorem dX7_settle_46 : decode cX7_settle 46 = .ok (.iconst 1, 1) := by decide +kernel
theorem dX7_settle_47 : decode cX7_settle 47 = .ok (.isub, 1) := by decide +kernel
theorem dX7_settle_48 : decode cX7_settle 48 = .ok (.putfield 224, 3) := by decide +kernel
theorem dX7_settle_51 : decode cX7_settle 51 = .ok (.aload_n 0, 1) := by decide +kernel
theorem dX7_settle_52 : decode cX7_settle 52 = .ok (.getfield 35, 3) := by decide +kernel
theorem dX7_settle_55 : decode cX7_settle 55 = .ok (.aload_n 0, 1) := by decide +kernel
theorem dX7_settle_56 : decode cX7_settle 56 = .ok (.getfield 230, 3) := by decide +kernel
theorem dX7_settle_59 : decode cX7_settle 59 = .ok (.aload_n 0, 1) := by decide +kernel
theorem dX7_settle_60 : decode cX7_settle 60 = .ok (.getfield 38, 3) := by decide +kernel
theorem dX7_settle_63 : decode cX7_settle 63 = .ok (.aload_n 0, 1) := by decide +kernel
theorem dX7_settle_64 : decode cX7_settle 64 = .ok (.getfield 224, 3) := by decide +kernel
theorem dX7_settle_67 : decode cX7_settle 67 = .ok (.iaload, 1) := by decide +kernel
theorem dX7_settle_68 : decode cX7_settle 68 = .ok (.iastore, 1) := by decide +kernel
theorem dX7_settle_69 : decode cX7_settle 69 = .ok (.aload_n 0, 1) := by decide +kernel
theorem dX7_settle_70 : decode cX7_settle 70 = .ok (.dup, 1) := by decide +kernel
theorem dX7_settle_71 : decode cX7_settle 71 = .ok (.getfield 230, 3) := by decide +kernel
theorem dX7_settle_74 : decode cX7_settle 74 = .ok (.iconst 1, 1) := by decide +kernel
theorem dX7_settle_75 : decode cX7_settle 75 = .ok (.iadd, 1) := by decide +kernel
theorem dX7_settle_76 : decode cX7_settle 76 = .ok (.putfield 230, 3) := by decide +kernel
theorem dX7_settle_79 : decode cX7_settle 79 = .ok (.goto (-79), 3) := by decide +kernel
theorem dX7_settle_82 : decode cX7_settle 82 = .ok (.return_, 1) := by decide +kernel
theorem dX7_signHere_0 : decode cX7_signHere 0 = .ok (.aload_n 0, 1) := by decide +kernel
theorem dX7_signHere_1 : decode cX7_signHere 1 = .ok (.getfield 206, 3) := by decide +kernel
theorem dX7_signHere_4 : decode cX7_signHere 4 = .ok (.iconst 3, 1) := by decide +kernel
theorem dX7_signHere_5 : decode cX7_signHere 5 = .ok (.if_icmp .eq 5, 3) := by decide +kernel
theorem dX7_signHere_8 : decode cX7_signHere 8 = .ok (.iconst 0, 1) := by decide +kernel
theorem dX7_signHere_9 : decode cX7_signHere 9 = .ok (.ireturn, 1) := by decide +kernel
theorem dX7_signHere_10 : decode cX7_signHere 10 = .ok (.aload_n 0, 1) := by decide +kernel
theorem dX7_signHere_11 : decode cX7_signHere 11 = .ok (.getfield 212, 3) := by decide +kernel
theorem dX7_signHere_14 : decode cX7_signHere 14 = .ok (.lookupswitch 108 #[(38, 84), (42, 102), (43, 96), (45, 99), (47, 105), (60, 87), (61, 90), (62, 93), (124, 82)], 82) := by decide +kernel
theorem dX7_signHere_96 : decode cX7_signHere 96 = .ok (.iconst (-1), 1) := by decide +kernel
theorem dX7_signHere_97 : decode cX7_signHere 97 = .ok (.ireturn, 1) := by decide +kernel
theorem dX7_signHere_98 : decode cX7_signHere 98 = .ok (.bipush (-2), 2) := by decide +kernel
theorem dX7_signHere_100 : decode cX7_signHere 100 = .ok (.ireturn, 1) := by decide +kernel
theorem dX7_signHere_101 : decode cX7_signHere 101 = .ok (.bipush (-3), 2) := by decide +kernel
theorem dX7_signHere_103 : decode cX7_signHere 103 = .ok (.ireturn, 1) := by decide +kernel
theorem dX7_signHere_104 : decode cX7_signHere 104 = .ok (.bipush (-4), 2) := by decide +kernel
theorem dX7_signHere_106 : decode cX7_signHere 106 = .ok (.ireturn, 1) := by decide +kernel
theorem dX7_signHere_107 : decode cX7_signHere 107 = .ok (.bipush (-5), 2) := by decide +kernel
theorem dX7_signHere_109 : decode cX7_signHere 109 = .ok (.ireturn, 1) := by decide +kernel
theorem dX7_signHere_110 : decode cX7_signHere 110 = .ok (.bipush (-6), 2) := by decide +kernel
theorem dX7_signHere_112 : decode cX7_signHere 112 = .ok (.ireturn, 1) := by decide +kernel
theorem dX7_signHere_113 : decode cX7_signHere 113 = .ok (.bipush (-7), 2) := by decide +kernel
theorem dX7_signHere_115 : decode cX7_signHere 115 = .ok (.ireturn, 1) := by decide +kernel
theorem dX7_signHere_116 : decode cX7_signHere 116 = .ok (.bipush (-8), 2) := by decide +kernel
theorem dX7_signHere_118 : decode cX7_signHere 118 = .ok (.ireturn, 1) := by decide +kernel
theorem dX7_signHere_119 : decode cX7_signHere 119 = .ok (.bipush (-9), 2) := by decide +kernel
theorem dX7_signHere_121 : decode cX7_signHere 121 = .ok (.ireturn, 1) := by decide +kernel
theorem dX7_signHere_122 : decode cX7_signHere 122 = .ok (.iconst 0, 1) := by decide +kernel
theorem dX7_signHere_123 : decode cX7_signHere 123 = .ok (.ireturn, 1) := by decide +kernel
theorem dX7_takesPart_0 : decode cX7_takesPart 0 = .ok (.aload_n 0, 1) := by decide +kernel
theorem dX7_takesPart_1 : decode cX7_takesPart 1 = .ok (.getfield 206, 3) := by decide +kernel
theorem dX7_takesPart_4 : decode cX7_takesPart 4 = .ok (.iconst 1, 1) := by decide +kernel
theorem dX7_takesPart_5 : decode cX7_takesPart 5 = .ok (.if_icmp .ne 31, 3) := by decide +kernel
theorem dX7_takesPart_8 : decode cX7_takesPart 8 = .ok (.aload_n 0, 1) := by decide +kernel
theorem dX7_takesPart_9 : decode cX7_takesPart 9 = .ok (.getfield 197, 3) := by decide +kernel
theorem dX7_takesPart_12 : decode cX7_takesPart 12 = .ok (.aload_n 0, 1) := by decide +kernel
theorem dX7_takesPart_13 : decode cX7_takesPart 13 = .ok (.getfield 200, 3) := by decide +kernel
theorem dX7_takesPart_16 : decode cX7_takesPart 16 = .ok (.isub, 1) := by decide +kernel
theorem dX7_takesPart_17 : decode cX7_takesPart 17 = .ok (.iconst 1, 1) := by decide +kernel
theorem dX7_takesPart_18 : decode cX7_takesPart 18 = .ok (.if_icmp .ne 18, 3) := by decide +kernel
theorem dX7_takesPart_21 : decode cX7_takesPart 21 = .ok (.aload_n 0, 1) := by decide +kernel
theorem dX7_takesPart_22 : decode cX7_takesPart 22 = .ok (.aload_n 0, 1) := by decide +kernel
theorem dX7_takesPart_23 : decode cX7_takesPart 23 = .ok (.getfield 212, 3) := by decide +kernel
theorem dX7_takesPart_26 : decode cX7_takesPart 26 = .ok (.invokevirtual 233, 3) := by decide +kernel
theorem dX7_takesPart_29 : decode cX7_takesPart 29 = .ok (.ifCond .lt 7, 3) := by decide +kernel
theorem dX7_takesPart_32 : decode cX7_takesPart 32 = .ok (.iconst 1, 1) := by decide +kernel
theorem dX7_takesPart_33 : decode cX7_takesPart 33 = .ok (.goto 4, 3) := by decide +kernel
theorem dX7_takesPart_36 : decode cX7_takesPart 36 = .ok (.iconst 0, 1) := by decide +kernel
theorem dX7_takesPart_37 : decode cX7_takesPart 37 = .ok (.istore_n 1, 1) := by decide +kernel
theorem dX7_takesPart_38 : decode cX7_takesPart 38 = .ok (.aload_n 0, 1) := by decide +kernel
theorem dX7_takesPart_39 : decode cX7_takesPart 39 = .ok (.getfield 206, 3) := by decide +kernel
theorem dX7_takesPart_42 : decode cX7_takesPart 42 = .ok (.iconst 2, 1) := by decide +kernel
theorem dX7_takesPart_43 : decode cX7_takesPart 43 = .ok (.if_icmp .eq 9, 3) := by decide +kernel
theorem dX7_takesPart_46 : decode cX7_takesPart 46 = .ok (.iload_n 1, 1) := by decide +kernel
theorem dX7_takesPart_47 : decode cX7_takesPart 47 = .ok (.ifCond .ne 5, 3) := by decide +kernel
theorem dX7_takesPart_50 : decode cX7_takesPart 50 = .ok (.iconst 0, 1) := by decide +kernel
theorem dX7_takesPart_51 : decode cX7_takesPart 51 = .ok (.ireturn, 1) := by decide +kernel
theorem dX7_takesPart_52 : decode cX7_takesPart 52 = .ok (.aload_n 0, 1) := by decide +kernel
theorem dX7_takesPart_53 : decode cX7_takesPart 53 = .ok (.getfield 35, 3) := by decide +kernel
theorem dX7_takesPart_56 : decode cX7_takesPart 56 = .ok (.aload_n 0, 1) := by decide +kernel
theorem dX7_takesPart_57 : decode cX7_takesPart 57 = .ok (.getfield 230, 3) := by decide +kernel
theorem dX7_takesPart_60 : decode cX7_takesPart 60 = .ok (.aload_n 0, 1) := by decide +kernel
theorem dX7_takesPart_61 : decode cX7_takesPart 61 = .ok (.getfield 206, 3) := by decide +kernel
theorem dX7_takesPart_64 : decode cX7_takesPart 64 = .ok (.iconst 2, 1) := by decide +kernel
theorem dX7_takesPart_65 : decode cX7_takesPart 65 = .ok (.if_icmp .ne 10, 3) := by decide +kernel
theorem dX7_takesPart_68 : decode cX7_takesPart 68 = .ok (.aload_n 0, 1) := by decide +kernel
theorem dX7_takesPart_69 : decode cX7_takesPart 69 = .ok (.getfield 212, 3) := by decide +kernel
theorem dX7_takesPart_72 : decode cX7_takesPart 72 = .ok (.goto 15, 3) := by decide +kernel
theorem dX7_takesPart_75 : decode cX7_takesPart 75 = .ok (.sipush 10000, 3) := by decide +kernel
theorem dX7_takesPart_78 : decode cX7_takesPart 78 = .ok (.aload_n 0, 1) := by decide +kernel
theorem dX7_takesPart_79 : decode cX7_takesPart 79 = .ok (.aload_n 0, 1) := by decide +kernel
theorem dX7_takesPart_80 : decode cX7_takesPart 80 = .ok (.getfield 212, 3) := by decide +kernel
theorem dX7_takesPart_83 : decode cX7_takesPart 83 = .ok (.invokevirtual 233, 3) := by decide +kernel
theorem dX7_takesPart_86 : decode cX7_takesPart 86 = .ok (.iadd, 1) := by decide +kernel
theorem dX7_takesPart_87 : decode cX7_takesPart 87 = .ok (.iastore, 1) := by decide +kernel
theorem dX7_takesPart_88 : decode cX7_takesPart 88 = .ok (.aload_n 0, 1) := by decide +kernel
theorem dX7_takesPart_89 : decode cX7_takesPart 89 = .ok (.dup, 1) := by decide +kernel
theorem dX7_takesPart_90 : decode cX7_takesPart 90 = .ok (.getfield 230, 3) := by decide +kernel
theorem dX7_takesPart_93 : decode cX7_takesPart 93 = .ok (.iconst 1, 1) := by decide +kernel
theorem dX7_takesPart_94 : decode cX7_takesPart 94 = .ok (.iadd, 1) := by decide +kernel
theorem dX7_takesPart_95 : decode cX7_takesPart 95 = .ok (.putfield 230, 3) := by decide +kernel
theorem dX7_takesPart_98 : decode cX7_takesPart 98 = .ok (.aload_n 0, 1) := by decide +kernel
theorem dX7_takesPart_99 : decode cX7_takesPart 99 = .ok (.dup, 1) := by decide +kernel
theorem dX7_takesPart_100 : decode cX7_takesPart 100 = .ok (.getfield 236, 3) := by decide +kernel
theorem dX7_takesPart_103 : decode cX7_takesPart 103 = .ok (.iconst 1, 1) := by decide +kernel
theorem dX7_takesPart_104 : decode cX7_takesPart 104 = .ok (.iadd, 1) := by decide +kernel
theorem dX7_takesPart_105 : decode cX7_takesPart 105 = .ok (.putfield 236, 3) := by decide +kernel
theorem dX7_takesPart_108 : decode cX7_takesPart 108 = .ok (.aload_n 0, 1) := by decide +kernel
theorem dX7_takesPart_109 : decode cX7_takesPart 109 = .ok (.bipush 6, 2) := by decide +kernel
theorem dX7_takesPart_111 : decode cX7_takesPart 111 = .ok (.invokevirtual 239, 3) := by decide +kernel
theorem dX7_takesPart_114 : decode cX7_takesPart 114 = .ok (.aload_n 0, 1) := by decide +kernel
theorem dX7_takesPart_115 : decode cX7_takesPart 115 = .ok (.invokevirtual 221, 3) := by decide +kernel
theorem dX7_takesPart_118 : decode cX7_takesPart 118 = .ok (.iconst 1, 1) := by decide +kernel
theorem dX7_takesPart_119 : decode cX7_takesPart 119 = .ok (.ireturn, 1) := by decide +kernel
theorem dX7_takesE_0 : decode cX7_takesE 0 = .ok (.iconst 0, 1) := by decide +kernel
theorem dX7_takesE_1 : decode cX7_takesE 1 = .ok (.istore_n 1, 1) := by decide +kernel
theorem dX7_takesE_2 : decode cX7_takesE 2 = .ok (.iconst 0, 1) := by decide +kernel
theorem dX7_takesE_3 : decode cX7_takesE 3 = .ok (.istore_n 2, 1) := by decide +kernel
theorem dX7_takesE_4 : decode cX7_takesE 4 = .ok (.iconst 1, 1) := by decide +kernel
theorem dX7_takesE_5 : decode cX7_takesE 5 = .ok (.istore_n 3, 1) := by decide +kernel
theorem dX7_takesE_6 : decode cX7_takesE 6 = .ok (.aload_n 0, 1) := by decide +kernel
theorem dX7_takesE_7 : decode cX7_takesE 7 = .ok (.iconst 0, 1) := by decide +kernel
theorem dX7_takesE_8 : decode cX7_takesE 8 = .ok (.putfield 230, 3) := by decide +kernel
theorem dX7_takesE_11 : decode cX7_takesE 11 = .ok (.aload_n 0, 1) := by decide +kernel
theorem dX7_takesE_12 : decode cX7_takesE 12 = .ok (.iconst 0, 1) := by decide +kernel
theorem dX7_takesE_13 : decode cX7_takesE 13 = .ok (.putfield 236, 3) := by decide +kernel
theorem dX7_takesE_16 : decode cX7_takesE 16 = .ok (.aload_n 0, 1) := by decide +kernel
theorem dX7_takesE_17 : decode cX7_takesE 17 = .ok (.iconst 0, 1) := by decide +kernel
theorem dX7_takesE_18 : decode cX7_takesE 18 = .ok (.putfield 224, 3) := by decide +kernel
theorem dX7_takesE_21 : decode cX7_takesE 21 = .ok (.aload_n 0, 1) := by decide +kernel
theorem dX7_takesE_22 : decode cX7_takesE 22 = .ok (.getfield 41, 3) := by decide +kernel
theorem dX7_takesE_25 : decode cX7_takesE 25 = .ok (.iconst 0, 1) := by decide +kernel
theorem dX7_takesE_26 : decode cX7_takesE 26 = .ok (.iconst 0, 1) := by decide +kernel
theorem dX7_takesE_27 : decode cX7_takesE 27 = .ok (.bastore, 1) := by decide +kernel
theorem dX7_takesE_28 : decode cX7_takesE 28 = .ok (.iload_n 3, 1) := by decide +kernel
theorem dX7_takesE_29 : decode cX7_takesE 29 = .ok (.ifCond .ne 10, 3) := by decide +kernel
theorem dX7_takesE_32 : decode cX7_takesE 32 = .ok (.aload_n 0, 1) := by decide +kernel
theorem dX7_takesE_33 : decode cX7_takesE 33 = .ok (.getfield 206, 3) := by decide +kernel
theorem dX7_takesE_36 : decode cX7_takesE 36 = .ok (.ifCond .eq 309, 3) := by decide +kernel
theorem dX7_takesE_39 : decode cX7_takesE 39 = .ok (.iload_n 3, 1) := by decide +kernel
theorem dX7_takesE_40 : decode cX7_takesE 40 = .ok (.ifCond .eq 140, 3) := by decide +kernel
theorem dX7_takesE_43 : decode cX7_takesE 43 = .ok (.aload_n 0, 1) := by decide +kernel
theorem dX7_takesE_44 : decode cX7_takesE 44 = .ok (.getfield 206, 3) := by decide +kernel
theorem dX7_takesE_47 : decode cX7_takesE 47 = .ok (.iconst 3, 1) := by decide +kernel
theorem dX7_takesE_48 : decode cX7_takesE 48 = .ok (.if_icmp .ne 49, 3) := by decide +kernel
theorem dX7_takesE_51 : decode cX7_takesE 51 = .ok (.aload_n 0, 1) := by decide +kernel
theorem dX7_takesE_52 : decode cX7_takesE 52 = .ok (.getfield 212, 3) := by decide +kernel
theorem dX7_takesE_55 : decode cX7_takesE 55 = .ok (.bipush 33, 2) := by decide +kernel
theorem dX7_takesE_57 : decode cX7_takesE 57 = .ok (.if_icmp .ne 40, 3) := by decide +kernel
theorem dX7_takesE_60 : decode cX7_takesE 60 = .ok (.iload_n 2, 1) := by decide +kernel
theorem dX7_takesE_61 : decode cX7_takesE 61 = .ok (.bipush 8, 2) := by decide +kernel
theorem dX7_takesE_63 : decode cX7_takesE 63 = .ok (.if_icmp .ge 34, 3) := by decide +kernel
theorem dX7_takesE_66 : decode cX7_takesE 66 = .ok (.aload_n 0, 1) := by decide +kernel
theorem dX7_takesE_67 : decode cX7_takesE 67 = .ok (.getfield 38, 3) := by decide +kernel
theorem dX7_takesE_70 : decode cX7_takesE 70 = .ok (.aload_n 0, 1) := by decide +kernel
theorem dX7_takesE_71 : decode cX7_takesE 71 = .ok (.getfield 224, 3) := by decide +kernel
theorem dX7_takesE_74 : decode cX7_takesE 74 = .ok (.bipush (-10), 2) := by decide +kernel
theorem dX7_takesE_76 : decode cX7_takesE 76 = .ok (.iastore, 1) := by decide +kernel
theorem dX7_takesE_77 : decode cX7_takesE 77 = .ok (.aload_n 0, 1) := by decide +kernel
theorem dX7_takesE_78 : decode cX7_takesE 78 = .ok (.dup, 1) := by decide +kernel
theorem dX7_takesE_79 : decode cX7_takesE 79 = .ok (.getfield 224, 3) := by decide +kernel
theorem dX7_takesE_82 : decode cX7_takesE 82 = .ok (.iconst 1, 1) := by decide +kernel
theorem dX7_takesE_83 : decode cX7_takesE 83 = .ok (.iadd, 1) := by decide +kernel
theorem dX7_takesE_84 : decode cX7_takesE 84 = .ok (.putfield 224, 3) := by decide +kernel
theorem dX7_takesE_87 : decode cX7_takesE 87 = .ok (.iinc 2 1, 3) := by decide +kernel
theorem dX7_takesE_90 : decode cX7_takesE 90 = .ok (.aload_n 0, 1) := by decide +kernel
theorem dX7_takesE_91 : decode cX7_takesE 91 = .ok (.invokevirtual 221, 3) := by decide +kernel
theorem dX7_takesE_94 : decode cX7_takesE 94 = .ok (.goto 78, 3) := by decide +kernel
theorem dX7_takesE_97 : decode cX7_takesE 97 = .ok (.aload_n 0, 1) := by decide +kernel
theorem dX7_takesE_98 : decode cX7_takesE 98 = .ok (.getfield 206, 3) := by decide +kernel
theorem dX7_takesE_101 : decode cX7_takesE 101 = .ok (.iconst 3, 1) := by decide +kernel
theorem dX7_takesE_102 : decode cX7_takesE 102 = .ok (.if_icmp .ne 56, 3) := by decide +kernel
theorem dX7_takesE_105 : decode cX7_takesE 105 = .ok (.aload_n 0, 1) := by decide +kernel
theorem dX7_takesE_106 : decode cX7_takesE 106 = .ok (.getfield 212, 3) := by decide +kernel
theorem dX7_takesE_109 : decode cX7_takesE 109 = .ok (.bipush 40, 2) := by decide +kernel
theorem dX7_takesE_111 : decode cX7_takesE 111 = .ok (.if_icmp .ne 47, 3) := by decide +kernel
theorem dX7_takesE_114 : decode cX7_takesE 114 = .ok (.iload_n 1, 1) := by decide +kernel
theorem dX7_takesE_115 : decode cX7_takesE 115 = .ok (.bipush 8, 2) := by decide +kernel
theorem dX7_takesE_117 : decode cX7_takesE 117 = .ok (.if_icmp .ge 41, 3) := by decide +kernel
theorem dX7_takesE_120 : decode cX7_takesE 120 = .ok (.aload_n 0, 1) := by decide +kernel
theorem dX7_takesE_121 : decode cX7_takesE 121 = .ok (.getfield 38, 3) := by decide +kernel
theorem dX7_takesE_124 : decode cX7_takesE 124 = .ok (.aload_n 0, 1) := by decide +kernel
theorem dX7_takesE_125 : decode cX7_takesE 125 = .ok (.getfield 224, 3) := by decide +kernel
theorem dX7_takesE_128 : decode cX7_takesE 128 = .ok (.bipush (-11), 2) := by decide +kernel
theorem dX7_takesE_130 : decode cX7_takesE 130 = .ok (.iastore, 1) := by decide +kernel
theorem dX7_takesE_131 : decode cX7_takesE 131 = .ok (.aload_n 0, 1) := by decide +kernel
theorem dX7_takesE_132 : decode cX7_takesE 132 = .ok (.dup, 1) := by decide +kernel
theorem dX7_takesE_133 : decode cX7_takesE 133 = .ok (.getfield 224, 3) := by decide +kernel
theorem dX7_takesE_136 : decode cX7_takesE 136 = .ok (.iconst 1, 1) := by decide +kernel
theorem dX7_takesE_137 : decode cX7_takesE 137 = .ok (.iadd, 1) := by decide +kernel
theorem dX7_takesE_138 : decode cX7_takesE 138 = .ok (.putfield 224, 3) := by decide +kernel
theorem dX7_takesE_141 : decode cX7_takesE 141 = .ok (.iinc 1 1, 3) := by decide +kernel
theorem dX7_takesE_144 : decode cX7_takesE 144 = .ok (.aload_n 0, 1) := by decide +kernel
theorem dX7_takesE_145 : decode cX7_takesE 145 = .ok (.getfield 41, 3) := by decide +kernel
theorem dX7_takesE_148 : decode cX7_takesE 148 = .ok (.iload_n 1, 1) := by decide +kernel
theorem dX7_takesE_149 : decode cX7_takesE 149 = .ok (.iconst 0, 1) := by decide +kernel
theorem dX7_takesE_150 : decode cX7_takesE 150 = .ok (.bastore, 1) := by decide +kernel
theorem dX7_takesE_151 : decode cX7_takesE 151 = .ok (.aload_n 0, 1) := by decide +kernel
theorem dX7_takesE_152 : decode cX7_takesE 152 = .ok (.invokevirtual 221, 3) := by decide +kernel
theorem dX7_takesE_155 : decode cX7_takesE 155 = .ok (.goto 17, 3) := by decide +kernel
theorem dX7_takesE_158 : decode cX7_takesE 158 = .ok (.aload_n 0, 1) := by decide +kernel
theorem dX7_takesE_159 : decode cX7_takesE 159 = .ok (.invokevirtual 242, 3) := by decide +kernel
theorem dX7_takesE_162 : decode cX7_takesE 162 = .ok (.ifCond .eq 8, 3) := by decide +kernel
theorem dX7_takesE_165 : decode cX7_takesE 165 = .ok (.iconst 0, 1) := by decide +kernel
theorem dX7_takesE_166 : decode cX7_takesE 166 = .ok (.istore_n 3, 1) := by decide +kernel
theorem dX7_takesE_167 : decode cX7_takesE 167 = .ok (.goto 5, 3) := by decide +kernel
theorem dX7_takesE_170 : decode cX7_takesE 170 = .ok (.iconst 0, 1) := by decide +kernel
theorem dX7_takesE_171 : decode cX7_takesE 171 = .ok (.ireturn, 1) := by decide +kernel
theorem dX7_takesE_172 : decode cX7_takesE 172 = .ok (.aload_n 0, 1) := by decide +kernel
theorem dX7_takesE_173 : decode cX7_takesE 173 = .ok (.invokevirtual 246, 3) := by decide +kernel
theorem dX7_takesE_176 : decode cX7_takesE 176 = .ok (.istore_n 2, 1) := by decide +kernel
theorem dX7_takesE_177 : decode cX7_takesE 177 = .ok (.goto (-149), 3) := by decide +kernel
theorem dX7_takesE_180 : decode cX7_takesE 180 = .ok (.aload_n 0, 1) := by decide +kernel
theorem dX7_takesE_181 : decode cX7_takesE 181 = .ok (.getfield 206, 3) := by decide +kernel
theorem dX7_takesE_184 : decode cX7_takesE 184 = .ok (.iconst 3, 1) := by decide +kernel
theorem dX7_takesE_185 : decode cX7_takesE 185 = .ok (.if_icmp .ne 52, 3) := by decide +kernel
theorem dX7_takesE_188 : decode cX7_takesE 188 = .ok (.aload_n 0, 1) := by decide +kernel
theorem dX7_takesE_189 : decode cX7_takesE 189 = .ok (.getfield 212, 3) := by decide +kernel
theorem dX7_takesE_192 : decode cX7_takesE 192 = .ok (.bipush 41, 2) := by decide +kernel
theorem dX7_takesE_194 : decode cX7_takesE 194 = .ok (.if_icmp .ne 43, 3) := by decide +kernel
theorem dX7_takesE_197 : decode cX7_takesE 197 = .ok (.iload_n 1, 1) := by decide +kernel
theorem dX7_takesE_198 : decode cX7_takesE 198 = .ok (.ifCond .le 39, 3) := by decide +kernel
theorem dX7_takesE_201 : decode cX7_takesE 201 = .ok (.aload_n 0, 1) := by decide +kernel
theorem dX7_takesE_202 : decode cX7_takesE 202 = .ok (.iconst 0, 1) := by decide +kernel
theorem dX7_takesE_203 : decode cX7_takesE 203 = .ok (.invokevirtual 239, 3) := by decide +kernel
theorem dX7_takesE_206 : decode cX7_takesE 206 = .ok (.aload_n 0, 1) := by decide +kernel
theorem dX7_takesE_207 : decode cX7_takesE 207 = .ok (.dup, 1) := by decide +kernel
theorem dX7_takesE_208 : decode cX7_takesE 208 = .ok (.getfield 224, 3) := by decide +kernel
theorem dX7_takesE_211 : decode cX7_takesE 211 = .ok (.iconst 1, 1) := by decide +kernel
theorem dX7_takesE_212 : decode cX7_takesE 212 = .ok (.isub, 1) := by decide +kernel
theorem dX7_takesE_213 : decode cX7_takesE 213 = .ok (.putfield 224, 3) := by decide +kernel
theorem dX7_takesE_216 : decode cX7_takesE 216 = .ok (.iinc 1 (-1), 3) := by decide +kernel
theorem dX7_takesE_219 : decode cX7_takesE 219 = .ok (.aload_n 0, 1) := by decide +kernel
theorem dX7_takesE_220 : decode cX7_takesE 220 = .ok (.bipush 6, 2) := by decide +kernel
theorem dX7_takesE_222 : decode cX7_takesE 222 = .ok (.invokevirtual 239, 3) := by decide +kernel
theorem dX7_takesE_225 : decode cX7_takesE 225 = .ok (.aload_n 0, 1) := by decide +kernel
theorem dX7_takesE_226 : decode cX7_takesE 226 = .ok (.invokevirtual 246, 3) := by decide +kernel
theorem dX7_takesE_229 : decode cX7_takesE 229 = .ok (.istore_n 2, 1) := by decide +kernel
theorem dX7_takesE_230 : decode cX7_takesE 230 = .ok (.aload_n 0, 1) := by decide +kernel
theorem dX7_takesE_231 : decode cX7_takesE 231 = .ok (.invokevirtual 221, 3) := by decide +kernel
theorem dX7_takesE_234 : decode cX7_takesE 234 = .ok (.goto (-206), 3) := by decide +kernel
theorem dX7_takesE_237 : decode cX7_takesE 237 = .ok (.aload_n 0, 1) := by decide +kernel
theorem dX7_takesE_238 : decode cX7_takesE 238 = .ok (.invokevirtual 249, 3) := by decide +kernel
theorem dX7_takesE_241 : decode cX7_takesE 241 = .ok (.istore 4, 2) := by decide +kernel
theorem dX7_takesE_243 : decode cX7_takesE 243 = .ok (.iload 4, 2) := by decide +kernel
theorem dX7_takesE_245 : decode cX7_takesE 245 = .ok (.ifCond .eq 21, 3) := by decide +kernel
theorem dX7_takesE_248 : decode cX7_takesE 248 = .ok (.iload 4, 2) := by decide +kernel
theorem dX7_takesE_250 : decode cX7_takesE 250 = .ok (.invokestatic 227, 3) := by decide +kernel
theorem dX7_takesE_253 : decode cX7_takesE 253 = .ok (.iconst 3, 1) := by decide +kernel
theorem dX7_takesE_254 : decode cX7_takesE 254 = .ok (.if_icmp .ne 14, 3) := by decide +kernel
theorem dX7_takesE_257 : decode cX7_takesE 257 = .ok (.aload_n 0, 1) := by decide +kernel
theorem dX7_takesE_258 : decode cX7_takesE 258 = .ok (.getfield 41, 3) := by decide +kernel
theorem dX7_takesE_261 : decode cX7_takesE 261 = .ok (.iload_n 1, 1) := by decide +kernel
theorem dX7_takesE_262 : decode cX7_takesE 262 = .ok (.baload, 1) := by decide +kernel
theorem dX7_takesE_263 : decode cX7_takesE 263 = .ok (.ifCond .eq 5, 3) := by decide +kernel
theorem dX7_takesE_266 : decode cX7_takesE 266 = .ok (.iconst 0, 1) := by decide +kernel
theorem dX7_takesE_267 : decode cX7_takesE 267 = .ok (.ireturn, 1) := by decide +kernel
theorem dX7_takesE_268 : decode cX7_takesE 268 = .ok (.aload_n 0, 1) := by decide +kernel
theorem dX7_takesE_269 : decode cX7_takesE 269 = .ok (.getfield 41, 3) := by decide +kernel
theorem dX7_takesE_272 : decode cX7_takesE 272 = .ok (.iload_n 1, 1) := by decide +kernel
theorem dX7_takesE_273 : decode cX7_takesE 273 = .ok (.iload 4, 2) := by decide +kernel
theorem dX7_takesE_275 : decode cX7_takesE 275 = .ok (.invokestatic 227, 3) := by decide +kernel
theorem dX7_takesE_278 : decode cX7_takesE 278 = .ok (.iconst 3, 1) := by decide +kernel
theorem dX7_takesE_279 : decode cX7_takesE 279 = .ok (.if_icmp .eq 21, 3) := by decide +kernel
theorem dX7_takesE_282 : decode cX7_takesE 282 = .ok (.iload 4, 2) := by decide +kernel
theorem dX7_takesE_284 : decode cX7_takesE 284 = .ok (.invokestatic 227, 3) := by decide +kernel
theorem dX7_takesE_287 : decode cX7_takesE 287 = .ok (.iconst 3, 1) := by decide +kernel
theorem dX7_takesE_288 : decode cX7_takesE 288 = .ok (.if_icmp .le 16, 3) := by decide +kernel
theorem dX7_takesE_291 : decode cX7_takesE 291 = .ok (.aload_n 0, 1) := by decide +kernel
theorem dX7_takesE_292 : decode cX7_takesE 292 = .ok (.getfield 41, 3) := by decide +kernel
theorem dX7_takesE_295 : decode cX7_takesE 295 = .ok (.iload_n 1, 1) := by decide +kernel
theorem dX7_takesE_296 : decode cX7_takesE 296 = .ok (.baload, 1) := by decide +kernel
theorem dX7_takesE_297 : decode cX7_takesE 297 = .ok (.ifCond .eq 7, 3) := by decide +kernel
theorem dX7_takesE_300 : decode cX7_takesE 300 = .ok (.iconst 1, 1) := by decide +kernel
theorem dX7_takesE_301 : decode cX7_takesE 301 = .ok (.goto 4, 3) := by decide +kernel
theorem dX7_takesE_304 : decode cX7_takesE 304 = .ok (.iconst 0, 1) := by decide +kernel
theorem dX7_takesE_305 : decode cX7_takesE 305 = .ok (.bastore, 1) := by decide +kernel
theorem dX7_takesE_306 : decode cX7_takesE 306 = .ok (.aload_n 0, 1) := by decide +kernel
theorem dX7_takesE_307 : decode cX7_takesE 307 = .ok (.iload 4, 2) := by decide +kernel
theorem dX7_takesE_309 : decode cX7_takesE 309 = .ok (.invokestatic 227, 3) := by decide +kernel
theorem dX7_takesE_312 : decode cX7_takesE 312 = .ok (.invokevirtual 239, 3) := by decide +kernel
theorem dX7_takesE_315 : decode cX7_takesE 315 = .ok (.aload_n 0, 1) := by decide +kernel
theorem dX7_takesE_316 : decode cX7_takesE 316 = .ok (.getfield 38, 3) := by decide +kernel
theorem dX7_takesE_319 : decode cX7_takesE 319 = .ok (.aload_n 0, 1) := by decide +kernel
theorem dX7_takesE_320 : decode cX7_takesE 320 = .ok (.getfield 224, 3) := by decide +kernel
theorem dX7_takesE_323 : decode cX7_takesE 323 = .ok (.iload 4, 2) := by decide +kernel
theorem dX7_takesE_325 : decode cX7_takesE 325 = .ok (.iastore, 1) := by decide +kernel
theorem dX7_takesE_326 : decode cX7_takesE 326 = .ok (.aload_n 0, 1) := by decide +kernel
theorem dX7_takesE_327 : decode cX7_takesE 327 = .ok (.dup, 1) := by decide +kernel
theorem dX7_takesE_328 : decode cX7_takesE 328 = .ok (.getfield 224, 3) := by decide +kernel
theorem dX7_takesE_331 : decode cX7_takesE 331 = .ok (.iconst 1, 1) := by decide +kernel
theorem dX7_takesE_332 : decode cX7_takesE 332 = .ok (.iadd, 1) := by decide +kernel
theorem dX7_takesE_333 : decode cX7_takesE 333 = .ok (.putfield 224, 3) := by decide +kernel
theorem dX7_takesE_336 : decode cX7_takesE 336 = .ok (.iconst 1, 1) := by decide +kernel
theorem dX7_takesE_337 : decode cX7_takesE 337 = .ok (.istore_n 3, 1) := by decide +kernel
theorem dX7_takesE_338 : decode cX7_takesE 338 = .ok (.aload_n 0, 1) := by decide +kernel
theorem dX7_takesE_339 : decode cX7_takesE 339 = .ok (.invokevirtual 221, 3) := by decide +kernel
theorem dX7_takesE_342 : decode cX7_takesE 342 = .ok (.goto (-314), 3) := by decide +kernel
theorem dX7_takesE_345 : decode cX7_takesE 345 = .ok (.aload_n 0, 1) := by decide +kernel
theorem dX7_takesE_346 : decode cX7_takesE 346 = .ok (.iconst 0, 1) := by decide +kernel
theorem dX7_takesE_347 : decode cX7_takesE 347 = .ok (.invokevirtual 239, 3) := by decide +kernel
theorem dX7_takesE_350 : decode cX7_takesE 350 = .ok (.iload_n 1, 1) := by decide +kernel
theorem dX7_takesE_351 : decode cX7_takesE 351 = .ok (.ifCond .ne 7, 3) := by decide +kernel
theorem dX7_takesE_354 : decode cX7_takesE 354 = .ok (.iconst 1, 1) := by decide +kernel
theorem dX7_takesE_355 : decode cX7_takesE 355 = .ok (.goto 4, 3) := by decide +kernel
theorem dX7_takesE_358 : decode cX7_takesE 358 = .ok (.iconst 0, 1) := by decide +kernel
theorem dX7_takesE_359 : decode cX7_takesE 359 = .ok (.ireturn, 1) := by decide +kernel
theorem dX7_notsOpen_0 : decode cX7_notsOpen 0 = .ok (.iconst 0, 1) := by decide +kernel
theorem dX7_notsOpen_1 : decode cX7_notsOpen 1 = .ok (.istore_n 1, 1) := by decide +kernel
theorem dX7_notsOpen_2 : decode cX7_notsOpen 2 = .ok (.iconst 0, 1) := by decide +kernel
theorem dX7_notsOpen_3 : decode cX7_notsOpen 3 = .ok (.istore_n 2, 1) := by decide +kernel
theorem dX7_notsOpen_4 : decode cX7_notsOpen 4 = .ok (.iload_n 2, 1) := by decide +kernel
theorem dX7_notsOpen_5 : decode cX7_notsOpen 5 = .ok (.aload_n 0, 1) := by decide +kernel
theorem dX7_notsOpen_6 : decode cX7_notsOpen 6 = .ok (.getfield 224, 3) := by decide +kernel
theorem dX7_notsOpen_9 : decode cX7_notsOpen 9 = .ok (.if_icmp .ge 28, 3) := by decide +kernel
theorem dX7_notsOpen_12 : decode cX7_notsOpen 12 = .ok (.iload_n 1, 1) := by decide +kernel
theorem dX7_notsOpen_13 : decode cX7_notsOpen 13 = .ok (.aload_n 0, 1) := by decide +kernel
theorem dX7_notsOpen_14 : decode cX7_notsOpen 14 = .ok (.getfield 38, 3) := by decide +kernel
theorem dX7_notsOpen_17 : decode cX7_notsOpen 17 = .ok (.iload_n 2, 1) := by decide +kernel
theorem dX7_notsOpen_18 : decode cX7_notsOpen 18 = .ok (.iaload, 1) := by decide +kernel
theorem dX7_notsOpen_19 : decode cX7_notsOpen 19 = .ok (.bipush (-10), 2) := by decide +kernel
theorem dX7_notsOpen_21 : decode cX7_notsOpen 21 = .ok (.if_icmp .ne 7, 3) := by decide +kernel
theorem dX7_notsOpen_24 : decode cX7_notsOpen 24 = .ok (.iconst 1, 1) := by decide +kernel
theorem dX7_notsOpen_25 : decode cX7_notsOpen 25 = .ok (.goto 4, 3) := by decide +kernel
theorem dX7_notsOpen_28 : decode cX7_notsOpen 28 = .ok (.iconst 0, 1) := by decide +kernel
theorem dX7_notsOpen_29 : decode cX7_notsOpen 29 = .ok (.iadd, 1) := by decide +kernel
theorem dX7_notsOpen_30 : decode cX7_notsOpen 30 = .ok (.istore_n 1, 1) := by decide +kernel
theorem dX7_notsOpen_31 : decode cX7_notsOpen 31 = .ok (.iinc 2 1, 3) := by decide +kernel
theorem dX7_notsOpen_34 : decode cX7_notsOpen 34 = .ok (.goto (-30), 3) := by decide +kernel
theorem dX7_notsOpen_37 : decode cX7_notsOpen 37 = .ok (.iload_n 1, 1) := by decide +kernel
theorem dX7_notsOpen_38 : decode cX7_notsOpen 38 = .ok (.ireturn, 1) := by decide +kernel
theorem dX7_text_0 : decode cX7_text 0 = .ok (.aload_n 0, 1) := by decide +kernel
theorem dX7_text_1 : decode cX7_text 1 = .ok (.iconst 0, 1) := by decide +kernel
theorem dX7_text_2 : decode cX7_text 2 = .ok (.putfield 197, 3) := by decide +kernel
theorem dX7_text_5 : decode cX7_text 5 = .ok (.aload_n 0, 1) := by decide +kernel
theorem dX7_text_6 : decode cX7_text 6 = .ok (.iconst (-1), 1) := by decide +kernel
theorem dX7_text_7 : decode cX7_text 7 = .ok (.putfield 203, 3) := by decide +kernel
theorem dX7_text_10 : decode cX7_text 10 = .ok (.aload_n 0, 1) := by decide +kernel
theorem dX7_text_11 : decode cX7_text 11 = .ok (.invokevirtual 221, 3) := by decide +kernel
theorem dX7_text_14 : decode cX7_text 14 = .ok (.aload_n 0, 1) := by decide +kernel
theorem dX7_text_15 : decode cX7_text 15 = .ok (.invokevirtual 252, 3) := by decide +kernel
theorem dX7_text_18 : decode cX7_text 18 = .ok (.ifCond .eq 14, 3) := by decide +kernel
theorem dX7_text_21 : decode cX7_text 21 = .ok (.aload_n 0, 1) := by decide +kernel
theorem dX7_text_22 : decode cX7_text 22 = .ok (.invokevirtual 255, 3) := by decide +kernel
theorem dX7_text_25 : decode cX7_text 25 = .ok (.ifCond .eq 7, 3) := by decide +kernel
theorem dX7_text_28 : decode cX7_text 28 = .ok (.iconst 1, 1) := by decide +kernel
theorem dX7_text_29 : decode cX7_text 29 = .ok (.goto 4, 3) := by decide +kernel
theorem dX7_text_32 : decode cX7_text 32 = .ok (.iconst 0, 1) := by decide +kernel
theorem dX7_text_33 : decode cX7_text 33 = .ok (.istore_n 1, 1) := by decide +kernel
theorem dX7_text_34 : decode cX7_text 34 = .ok (.aload_n 0, 1) := by decide +kernel
theorem dX7_text_35 : decode cX7_text 35 = .ok (.iconst 0, 1) := by decide +kernel
theorem dX7_text_36 : decode cX7_text 36 = .ok (.putfield 193, 3) := by decide +kernel
theorem dX7_text_39 : decode cX7_text 39 = .ok (.iload_n 1, 1) := by decide +kernel
theorem dX7_text_40 : decode cX7_text 40 = .ok (.ifCond .ne 11, 3) := by decide +kernel
theorem dX7_text_43 : decode cX7_text 43 = .ok (.bipush (-100), 2) := by decide +kernel
theorem dX7_text_45 : decode cX7_text 45 = .ok (.aload_n 0, 1) := by decide +kernel
theorem dX7_text_46 : decode cX7_text 46 = .ok (.getfield 200, 3) := by decide +kernel
theorem dX7_text_49 : decode cX7_text 49 = .ok (.isub, 1) := by decide +kernel
theorem dX7_text_50 : decode cX7_text 50 = .ok (.ireturn, 1) := by decide +kernel
theorem dX7_text_51 : decode cX7_text 51 = .ok (.aload_n 0, 1) := by decide +kernel
theorem dX7_text_52 : decode cX7_text 52 = .ok (.getfield 9, 3) := by decide +kernel
theorem dX7_text_55 : decode cX7_text 55 = .ok (.bipush 6, 2) := by decide +kernel
theorem dX7_text_57 : decode cX7_text 57 = .ok (.iaload, 1) := by decide +kernel
theorem dX7_text_58 : decode cX7_text 58 = .ok (.bipush 14, 2) := by decide +kernel
theorem dX7_text_60 : decode cX7_text 60 = .ok (.if_icmp .ne 6, 3) := by decide +kernel
theorem dX7_text_63 : decode cX7_text 63 = .ok (.ldc 91, 2) := by decide +kernel
theorem dX7_text_65 : decode cX7_text 65 = .ok (.ireturn, 1) := by decide +kernel
theorem dX7_text_66 : decode cX7_text 66 = .ok (.aload_n 0, 1) := by decide +kernel
theorem dX7_text_67 : decode cX7_text 67 = .ok (.getfield 9, 3) := by decide +kernel
theorem dX7_text_70 : decode cX7_text 70 = .ok (.bipush 6, 2) := by decide +kernel
theorem dX7_text_72 : decode cX7_text 72 = .ok (.iaload, 1) := by decide +kernel
theorem dX7_text_73 : decode cX7_text 73 = .ok (.istore_n 2, 1) := by decide +kernel
theorem dX7_text_74 : decode cX7_text 74 = .ok (.aload_n 0, 1) := by decide +kernel
theorem dX7_text_75 : decode cX7_text 75 = .ok (.getfield 9, 3) := by decide +kernel
theorem dX7_text_78 : decode cX7_text 78 = .ok (.sipush 163, 3) := by decide +kernel
theorem dX7_text_81 : decode cX7_text 81 = .ok (.iconst 2, 1) := by decide +kernel
theorem dX7_text_82 : decode cX7_text 82 = .ok (.iload_n 2, 1) := by decide +kernel
theorem dX7_text_83 : decode cX7_text 83 = .ok (.imul, 1) := by decide +kernel
theorem dX7_text_84 : decode cX7_text 84 = .ok (.iadd, 1) := by decide +kernel
theorem dX7_text_85 : decode cX7_text 85 = .ok (.sipush 1000, 3) := by decide +kernel
theorem dX7_text_88 : decode cX7_text 88 = .ok (.aload_n 0, 1) := by decide +kernel
theorem dX7_text_89 : decode cX7_text 89 = .ok (.getfield 218, 3) := by decide +kernel
theorem dX7_text_92 : decode cX7_text 92 = .ok (.imul, 1) := by decide +kernel
theorem dX7_text_93 : decode cX7_text 93 = .ok (.aload_n 0, 1) := by decide +kernel
theorem dX7_text_94 : decode cX7_text 94 = .ok (.getfield 230, 3) := by decide +kernel
theorem dX7_text_97 : decode cX7_text 97 = .ok (.iadd, 1) := by decide +kernel
theorem dX7_text_98 : decode cX7_text 98 = .ok (.iastore, 1) := by decide +kernel
theorem dX7_text_99 : decode cX7_text 99 = .ok (.aload_n 0, 1) := by decide +kernel
theorem dX7_text_100 : decode cX7_text 100 = .ok (.getfield 9, 3) := by decide +kernel
theorem dX7_text_103 : decode cX7_text 103 = .ok (.sipush 163, 3) := by decide +kernel
theorem dX7_text_106 : decode cX7_text 106 = .ok (.iconst 2, 1) := by decide +kernel
theorem dX7_text_107 : decode cX7_text 107 = .ok (.iload_n 2, 1) := by decide +kernel
theorem dX7_text_108 : decode cX7_text 108 = .ok (.imul, 1) := by decide +kernel
theorem dX7_text_109 : decode cX7_text 109 = .ok (.iadd, 1) := by decide +kernel
theorem dX7_text_110 : decode cX7_text 110 = .ok (.iconst 1, 1) := by decide +kernel
theorem dX7_text_111 : decode cX7_text 111 = .ok (.iadd, 1) := by decide +kernel
theorem dX7_text_112 : decode cX7_text 112 = .ok (.aload_n 0, 1) := by decide +kernel
theorem dX7_text_113 : decode cX7_text 113 = .ok (.getfield 236, 3) := by decide +kernel
theorem dX7_text_116 : decode cX7_text 116 = .ok (.iastore, 1) := by decide +kernel
theorem dX7_text_117 : decode cX7_text 117 = .ok (.iconst 0, 1) := by decide +kernel
theorem dX7_text_118 : decode cX7_text 118 = .ok (.istore_n 3, 1) := by decide +kernel
theorem dX7_text_119 : decode cX7_text 119 = .ok (.iload_n 3, 1) := by decide +kernel
theorem dX7_text_120 : decode cX7_text 120 = .ok (.aload_n 0, 1) := by decide +kernel
theorem dX7_text_121 : decode cX7_text 121 = .ok (.getfield 230, 3) := by decide +kernel
theorem dX7_text_124 : decode cX7_text 124 = .ok (.if_icmp .ge 30, 3) := by decide +kernel
theorem dX7_text_127 : decode cX7_text 127 = .ok (.aload_n 0, 1) := by decide +kernel
theorem dX7_text_128 : decode cX7_text 128 = .ok (.getfield 9, 3) := by decide +kernel
theorem dX7_text_131 : decode cX7_text 131 = .ok (.sipush 191, 3) := by decide +kernel
theorem dX7_text_134 : decode cX7_text 134 = .ok (.bipush 96, 2) := by decide +kernel
theorem dX7_text_136 : decode cX7_text 136 = .ok (.iload_n 2, 1) := by decide +kernel
theorem dX7_text_137 : decode cX7_text 137 = .ok (.imul, 1) := by decide +kernel
theorem dX7_text_138 : decode cX7_text 138 = .ok (.iadd, 1) := by decide +kernel
theorem dX7_text_139 : decode cX7_text 139 = .ok (.iload_n 3, 1) := by decide +kernel
theorem dX7_text_140 : decode cX7_text 140 = .ok (.iadd, 1) := by decide +kernel
theorem dX7_text_141 : decode cX7_text 141 = .ok (.aload_n 0, 1) := by decide +kernel
theorem dX7_text_142 : decode cX7_text 142 = .ok (.getfield 35, 3) := by decide +kernel
theorem dX7_text_145 : decode cX7_text 145 = .ok (.iload_n 3, 1) := by decide +kernel
theorem dX7_text_146 : decode cX7_text 146 = .ok (.iaload, 1) := by decide +kernel
theorem dX7_text_147 : decode cX7_text 147 = .ok (.iastore, 1) := by decide +kernel
theorem dX7_text_148 : decode cX7_text 148 = .ok (.iinc 3 1, 3) := by decide +kernel
theorem dX7_text_151 : decode cX7_text 151 = .ok (.goto (-32), 3) := by decide +kernel
theorem dX7_text_154 : decode cX7_text 154 = .ok (.aload_n 0, 1) := by decide +kernel
theorem dX7_text_155 : decode cX7_text 155 = .ok (.getfield 9, 3) := by decide +kernel
theorem dX7_text_158 : decode cX7_text 158 = .ok (.bipush 6, 2) := by decide +kernel
theorem dX7_text_160 : decode cX7_text 160 = .ok (.dup2, 1) := by decide +kernel
theorem dX7_text_161 : decode cX7_text 161 = .ok (.iaload, 1) := by decide +kernel
theorem dX7_text_162 : decode cX7_text 162 = .ok (.iconst 1, 1) := by decide +kernel
theorem dX7_text_163 : decode cX7_text 163 = .ok (.iadd, 1) := by decide +kernel
theorem dX7_text_164 : decode cX7_text 164 = .ok (.iastore, 1) := by decide +kernel
theorem dX7_text_165 : decode cX7_text 165 = .ok (.iload_n 2, 1) := by decide +kernel
theorem dX7_text_166 : decode cX7_text 166 = .ok (.ireturn, 1) := by decide +kernel
theorem dX7_textTold_0 : decode cX7_textTold 0 = .ok (.iload_n 1, 1) := by decide +kernel
theorem dX7_textTold_1 : decode cX7_textTold 1 = .ok (.iconst 0, 1) := by decide +kernel
theorem dX7_textTold_2 : decode cX7_textTold 2 = .ok (.aload_n 0, 1) := by decide +kernel
theorem dX7_textTold_3 : decode cX7_textTold 3 = .ok (.getfield 9, 3) := by decide +kernel
theorem dX7_textTold_6 : decode cX7_textTold 6 = .ok (.bipush 6, 2) := by decide +kernel
theorem dX7_textTold_8 : decode cX7_textTold 8 = .ok (.iaload, 1) := by decide +kernel
theorem dX7_textTold_9 : decode cX7_textTold 9 = .ok (.iconst 1, 1) := by decide +kernel
theorem dX7_textTold_10 : decode cX7_textTold 10 = .ok (.isub, 1) := by decide +kernel
theorem dX7_textTold_11 : decode cX7_textTold 11 = .ok (.invokestatic 78, 3) := by decide +kernel
theorem dX7_textTold_14 : decode cX7_textTold 14 = .ok (.ifCond .eq 12, 3) := by decide +kernel
theorem dX7_textTold_17 : decode cX7_textTold 17 = .ok (.iload_n 2, 1) := by decide +kernel
theorem dX7_textTold_18 : decode cX7_textTold 18 = .ok (.iconst 0, 1) := by decide +kernel
theorem dX7_textTold_19 : decode cX7_textTold 19 = .ok (.iconst 1, 1) := by decide +kernel
theorem dX7_textTold_20 : decode cX7_textTold 20 = .ok (.invokestatic 78, 3) := by decide +kernel
theorem dX7_textTold_23 : decode cX7_textTold 23 = .ok (.ifCond .ne 6, 3) := by decide +kernel
theorem dX7_textTold_26 : decode cX7_textTold 26 = .ok (.ldc 90, 2) := by decide +kernel
theorem dX7_textTold_28 : decode cX7_textTold 28 = .ok (.ireturn, 1) := by decide +kernel
theorem dX7_textTold_29 : decode cX7_textTold 29 = .ok (.iload_n 2, 1) := by decide +kernel
theorem dX7_textTold_30 : decode cX7_textTold 30 = .ok (.ifCond .ne 22, 3) := by decide +kernel
theorem dX7_textTold_33 : decode cX7_textTold 33 = .ok (.aload_n 0, 1) := by decide +kernel
theorem dX7_textTold_34 : decode cX7_textTold 34 = .ok (.getfield 9, 3) := by decide +kernel
theorem dX7_textTold_37 : decode cX7_textTold 37 = .ok (.sipush 163, 3) := by decide +kernel
theorem dX7_textTold_40 : decode cX7_textTold 40 = .ok (.iconst 2, 1) := by decide +kernel
theorem dX7_textTold_41 : decode cX7_textTold 41 = .ok (.iload_n 1, 1) := by decide +kernel
theorem dX7_textTold_42 : decode cX7_textTold 42 = .ok (.imul, 1) := by decide +kernel
theorem dX7_textTold_43 : decode cX7_textTold 43 = .ok (.iadd, 1) := by decide +kernel
theorem dX7_textTold_44 : decode cX7_textTold 44 = .ok (.iaload, 1) := by decide +kernel
theorem dX7_textTold_45 : decode cX7_textTold 45 = .ok (.sipush 1000, 3) := by decide +kernel
theorem dX7_textTold_48 : decode cX7_textTold 48 = .ok (.idiv, 1) := by decide +kernel
theorem dX7_textTold_49 : decode cX7_textTold 49 = .ok (.goto 17, 3) := by decide +kernel
theorem dX7_textTold_52 : decode cX7_textTold 52 = .ok (.aload_n 0, 1) := by decide +kernel
theorem dX7_textTold_53 : decode cX7_textTold 53 = .ok (.getfield 9, 3) := by decide +kernel
theorem dX7_textTold_56 : decode cX7_textTold 56 = .ok (.sipush 163, 3) := by decide +kernel
theorem dX7_textTold_59 : decode cX7_textTold 59 = .ok (.iconst 2, 1) := by decide +kernel
theorem dX7_textTold_60 : decode cX7_textTold 60 = .ok (.iload_n 1, 1) := by decide +kernel
theorem dX7_textTold_61 : decode cX7_textTold 61 = .ok (.imul, 1) := by decide +kernel
theorem dX7_textTold_62 : decode cX7_textTold 62 = .ok (.iadd, 1) := by decide +kernel
theorem dX7_textTold_63 : decode cX7_textTold 63 = .ok (.iconst 1, 1) := by decide +kernel
theorem dX7_textTold_64 : decode cX7_textTold 64 = .ok (.iadd, 1) := by decide +kernel
theorem dX7_textTold_65 : decode cX7_textTold 65 = .ok (.iaload, 1) := by decide +kernel
theorem dX7_textTold_66 : decode cX7_textTold 66 = .ok (.ireturn, 1) := by decide +kernel
theorem dX7_counts_0 : decode cX7_counts 0 = .ok (.aload_n 0, 1) := by decide +kernel
theorem dX7_counts_1 : decode cX7_counts 1 = .ok (.getfield 9, 3) := by decide +kernel
theorem dX7_counts_4 : decode cX7_counts 4 = .ok (.bipush 6, 2) := by decide +kernel
theorem dX7_counts_6 : decode cX7_counts 6 = .ok (.iaload, 1) := by decide +kernel
theorem dX7_counts_7 : decode cX7_counts 7 = .ok (.iconst 1, 1) := by decide +kernel
theorem dX7_counts_8 : decode cX7_counts 8 = .ok (.isub, 1) := by decide +kernel
theorem dX7_counts_9 : decode cX7_counts 9 = .ok (.istore_n 2, 1) := by decide +kernel
theorem dX7_counts_10 : decode cX7_counts 10 = .ok (.iload_n 2, 1) := by decide +kernel
theorem dX7_counts_11 : decode cX7_counts 11 = .ok (.ifCond .lt 31, 3) := by decide +kernel
theorem dX7_counts_14 : decode cX7_counts 14 = .ok (.aload_n 0, 1) := by decide +kernel
theorem dX7_counts_15 : decode cX7_counts 15 = .ok (.getfield 9, 3) := by decide +kernel
theorem dX7_counts_18 : decode cX7_counts 18 = .ok (.sipush 163, 3) := by decide +kernel
theorem dX7_counts_21 : decode cX7_counts 21 = .ok (.iconst 2, 1) := by decide +kernel
theorem dX7_counts_22 : decode cX7_counts 22 = .ok (.iload_n 2, 1) := by decide +kernel
theorem dX7_counts_23 : decode cX7_counts 23 = .ok (.imul, 1) := by decide +kernel
theorem dX7_counts_24 : decode cX7_counts 24 = .ok (.iadd, 1) := by decide +kernel
theorem dX7_counts_25 : decode cX7_counts 25 = .ok (.iaload, 1) := by decide +kernel
theorem dX7_counts_26 : decode cX7_counts 26 = .ok (.sipush 1000, 3) := by decide +kernel
theorem dX7_counts_29 : decode cX7_counts 29 = .ok (.idiv, 1) := by decide +kernel
theorem dX7_counts_30 : decode cX7_counts 30 = .ok (.iload_n 1, 1) := by decide +kernel
theorem dX7_counts_31 : decode cX7_counts 31 = .ok (.if_icmp .ne 5, 3) := by decide +kernel
theorem dX7_counts_34 : decode cX7_counts 34 = .ok (.iload_n 2, 1) := by decide +kernel
theorem dX7_counts_35 : decode cX7_counts 35 = .ok (.ireturn, 1) := by decide +kernel
theorem dX7_counts_36 : decode cX7_counts 36 = .ok (.iinc 2 (-1), 3) := by decide +kernel
theorem dX7_counts_39 : decode cX7_counts 39 = .ok (.goto (-29), 3) := by decide +kernel
theorem dX7_counts_42 : decode cX7_counts 42 = .ok (.iconst (-1), 1) := by decide +kernel
theorem dX7_counts_43 : decode cX7_counts 43 = .ok (.ireturn, 1) := by decide +kernel
theorem dX7_why_0 : decode cX7_why 0 = .ok (.iload_n 1, 1) := by decide +kernel
theorem dX7_why_1 : decode cX7_why 1 = .ok (.iconst 0, 1) := by decide +kernel
theorem dX7_why_2 : decode cX7_why 2 = .ok (.iconst 2, 1) := by decide +kernel
theorem dX7_why_3 : decode cX7_why 3 = .ok (.invokestatic 78, 3) := by decide +kernel
theorem dX7_why_6 : decode cX7_why 6 = .ok (.ifCond .ne 6, 3) := by decide +kernel
theorem dX7_why_9 : decode cX7_why 9 = .ok (.ldc 90, 2) := by decide +kernel
theorem dX7_why_11 : decode cX7_why 11 = .ok (.ireturn, 1) := by decide +kernel
theorem dX7_why_12 : decode cX7_why 12 = .ok (.aload_n 0, 1) := by decide +kernel
theorem dX7_why_13 : decode cX7_why 13 = .ok (.iload_n 1, 1) := by decide +kernel
theorem dX7_why_14 : decode cX7_why 14 = .ok (.invokevirtual 105, 3) := by decide +kernel
theorem dX7_why_17 : decode cX7_why 17 = .ok (.istore_n 2, 1) := by decide +kernel
theorem dX7_why_18 : decode cX7_why 18 = .ok (.iload_n 2, 1) := by decide +kernel
theorem dX7_why_19 : decode cX7_why 19 = .ok (.ifCond .ge 8, 3) := by decide +kernel
theorem dX7_why_22 : decode cX7_why 22 = .ok (.ldc 171, 2) := by decide +kernel
theorem dX7_why_24 : decode cX7_why 24 = .ok (.goto 4, 3) := by decide +kernel
theorem dX7_why_27 : decode cX7_why 27 = .ok (.iload_n 2, 1) := by decide +kernel
theorem dX7_why_28 : decode cX7_why 28 = .ok (.ireturn, 1) := by decide +kernel
theorem dX7_two_0 : decode cX7_two 0 = .ok (.iload_n 0, 1) := by decide +kernel
theorem dX7_two_1 : decode cX7_two 1 = .ok (.tableswitch 120 (-8) (-1) #[116, 112, 108, 97, 86, 75, 61, 47], 47) := by decide +kernel
theorem dX7_two_48 : decode cX7_two 48 = .ok (.iload_n 1, 1) := by decide +kernel
theorem dX7_two_49 : decode cX7_two 49 = .ok (.ifCond .ne 7, 3) := by decide +kernel
theorem dX7_two_52 : decode cX7_two 52 = .ok (.iload_n 2, 1) := by decide +kernel
theorem dX7_two_53 : decode cX7_two 53 = .ok (.ifCond .eq 7, 3) := by decide +kernel
theorem dX7_two_56 : decode cX7_two 56 = .ok (.iconst 1, 1) := by decide +kernel
theorem dX7_two_57 : decode cX7_two 57 = .ok (.goto 4, 3) := by decide +kernel
theorem dX7_two_60 : decode cX7_two 60 = .ok (.iconst 0, 1) := by decide +kernel
theorem dX7_two_61 : decode cX7_two 61 = .ok (.ireturn, 1) := by decide +kernel
theorem dX7_two_62 : decode cX7_two 62 = .ok (.iload_n 1, 1) := by decide +kernel
theorem dX7_two_63 : decode cX7_two 63 = .ok (.ifCond .eq 11, 3) := by decide +kernel
theorem dX7_two_66 : decode cX7_two 66 = .ok (.iload_n 2, 1) := by decide +kernel
theorem dX7_two_67 : decode cX7_two 67 = .ok (.ifCond .eq 7, 3) := by decide +kernel
theorem dX7_two_70 : decode cX7_two 70 = .ok (.iconst 1, 1) := by decide +kernel
theorem dX7_two_71 : decode cX7_two 71 = .ok (.goto 4, 3) := by decide +kernel
theorem dX7_two_74 : decode cX7_two 74 = .ok (.iconst 0, 1) := by decide +kernel
theorem dX7_two_75 : decode cX7_two 75 = .ok (.ireturn, 1) := by decide +kernel
theorem dX7_two_76 : decode cX7_two 76 = .ok (.iload_n 1, 1) := by decide +kernel
theorem dX7_two_77 : decode cX7_two 77 = .ok (.iload_n 2, 1) := by decide +kernel
theorem dX7_two_78 : decode cX7_two 78 = .ok (.if_icmp .ge 7, 3) := by decide +kernel
theorem dX7_two_81 : decode cX7_two 81 = .ok (.iconst 1, 1) := by decide +kernel
theorem dX7_two_82 : decode cX7_two 82 = .ok (.goto 4, 3) := by decide +kernel
theorem dX7_two_85 : decode cX7_two 85 = .ok (.iconst 0, 1) := by decide +kernel
theorem dX7_two_86 : decode cX7_two 86 = .ok (.ireturn, 1) := by decide +kernel
theorem dX7_two_87 : decode cX7_two 87 = .ok (.iload_n 1, 1) := by decide +kernel
theorem dX7_two_88 : decode cX7_two 88 = .ok (.iload_n 2, 1) := by decide +kernel
theorem dX7_two_89 : decode cX7_two 89 = .ok (.if_icmp .ne 7, 3) := by decide +kernel
theorem dX7_two_92 : decode cX7_two 92 = .ok (.iconst 1, 1) := by decide +kernel
theorem dX7_two_93 : decode cX7_two 93 = .ok (.goto 4, 3) := by decide +kernel
theorem dX7_two_96 : decode cX7_two 96 = .ok (.iconst 0, 1) := by decide +kernel
theorem dX7_two_97 : decode cX7_two 97 = .ok (.ireturn, 1) := by decide +kernel
theorem dX7_two_98 : decode cX7_two 98 = .ok (.iload_n 1, 1) := by decide +kernel
theorem dX7_two_99 : decode cX7_two 99 = .ok (.iload_n 2, 1) := by decide +kernel
theorem dX7_two_100 : decode cX7_two 100 = .ok (.if_icmp .le 7, 3) := by decide +kernel
theorem dX7_two_103 : decode cX7_two 103 = .ok (.iconst 1, 1) := by decide +kernel
theorem dX7_two_104 : decode cX7_two 104 = .ok (.goto 4, 3) := by decide +kernel
theorem dX7_two_107 : decode cX7_two 107 = .ok (.iconst 0, 1) := by decide +kernel
theorem dX7_two_108 : decode cX7_two 108 = .ok (.ireturn, 1) := by decide +kernel
theorem dX7_two_109 : decode cX7_two 109 = .ok (.iload_n 1, 1) := by decide +kernel
theorem dX7_two_110 : decode cX7_two 110 = .ok (.iload_n 2, 1) := by decide +kernel
theorem dX7_two_111 : decode cX7_two 111 = .ok (.iadd, 1) := by decide +kernel
theorem dX7_two_112 : decode cX7_two 112 = .ok (.ireturn, 1) := by decide +kernel
theorem dX7_two_113 : decode cX7_two 113 = .ok (.iload_n 1, 1) := by decide +kernel
theorem dX7_two_114 : decode cX7_two 114 = .ok (.iload_n 2, 1) := by decide +kernel
theorem dX7_two_115 : decode cX7_two 115 = .ok (.isub, 1) := by decide +kernel
theorem dX7_two_116 : decode cX7_two 116 = .ok (.ireturn, 1) := by decide +kernel
theorem dX7_two_117 : decode cX7_two 117 = .ok (.iload_n 1, 1) := by decide +kernel
theorem dX7_two_118 : decode cX7_two 118 = .ok (.iload_n 2, 1) := by decide +kernel
theorem dX7_two_119 : decode cX7_two 119 = .ok (.imul, 1) := by decide +kernel
theorem dX7_two_120 : decode cX7_two 120 = .ok (.ireturn, 1) := by decide +kernel
theorem dX7_two_121 : decode cX7_two 121 = .ok (.iload_n 2, 1) := by decide +kernel
theorem dX7_two_122 : decode cX7_two 122 = .ok (.ifCond .ne 7, 3) := by decide +kernel
theorem dX7_two_125 : decode cX7_two 125 = .ok (.iconst 0, 1) := by decide +kernel
theorem dX7_two_126 : decode cX7_two 126 = .ok (.goto 6, 3) := by decide +kernel
theorem dX7_two_129 : decode cX7_two 129 = .ok (.iload_n 1, 1) := by decide +kernel
theorem dX7_two_130 : decode cX7_two 130 = .ok (.iload_n 2, 1) := by decide +kernel
theorem dX7_two_131 : decode cX7_two 131 = .ok (.idiv, 1) := by decide +kernel
theorem dX7_two_132 : decode cX7_two 132 = .ok (.ireturn, 1) := by decide +kernel
theorem dX7_worksOut_0 : decode cX7_worksOut 0 = .ok (.iconst 0, 1) := by decide +kernel
theorem dX7_worksOut_1 : decode cX7_worksOut 1 = .ok (.istore_n 2, 1) := by decide +kernel
theorem dX7_worksOut_2 : decode cX7_worksOut 2 = .ok (.aload_n 0, 1) := by decide +kernel
theorem dX7_worksOut_3 : decode cX7_worksOut 3 = .ok (.getfield 9, 3) := by decide +kernel
theorem dX7_worksOut_6 : decode cX7_worksOut 6 = .ok (.sipush 163, 3) := by decide +kernel
theorem dX7_worksOut_9 : decode cX7_worksOut 9 = .ok (.iconst 2, 1) := by decide +kernel
theorem dX7_worksOut_10 : decode cX7_worksOut 10 = .ok (.iload_n 1, 1) := by decide +kernel
theorem dX7_worksOut_11 : decode cX7_worksOut 11 = .ok (.imul, 1) := by decide +kernel
theorem dX7_worksOut_12 : decode cX7_worksOut 12 = .ok (.iadd, 1) := by decide +kernel
theorem dX7_worksOut_13 : decode cX7_worksOut 13 = .ok (.iaload, 1) := by decide +kernel
theorem dX7_worksOut_14 : decode cX7_worksOut 14 = .ok (.sipush 1000, 3) := by decide +kernel
theorem dX7_worksOut_17 : decode cX7_worksOut 17 = .ok (.irem, 1) := by decide +kernel
theorem dX7_worksOut_18 : decode cX7_worksOut 18 = .ok (.istore_n 3, 1) := by decide +kernel
theorem dX7_worksOut_19 : decode cX7_worksOut 19 = .ok (.iconst 0, 1) := by decide +kernel
theorem dX7_worksOut_20 : decode cX7_worksOut 20 = .ok (.istore 4, 2) := by decide +kernel
theorem dX7_worksOut_22 : decode cX7_worksOut 22 = .ok (.iload 4, 2) := by decide +kernel
theorem dX7_worksOut_24 : decode cX7_worksOut 24 = .ok (.iload_n 3, 1) := by decide +kernel
theorem dX7_worksOut_25 : decode cX7_worksOut 25 = .ok (.if_icmp .ge 132, 3) := by decide +kernel
theorem dX7_worksOut_28 : decode cX7_worksOut 28 = .ok (.aload_n 0, 1) := by decide +kernel
theorem dX7_worksOut_29 : decode cX7_worksOut 29 = .ok (.getfield 9, 3) := by decide +kernel
theorem dX7_worksOut_32 : decode cX7_worksOut 32 = .ok (.sipush 191, 3) := by decide +kernel
theorem dX7_worksOut_35 : decode cX7_worksOut 35 = .ok (.bipush 96, 2) := by decide +kernel
theorem dX7_worksOut_37 : decode cX7_worksOut 37 = .ok (.iload_n 1, 1) := by decide +kernel
theorem dX7_worksOut_38 : decode cX7_worksOut 38 = .ok (.imul, 1) := by decide +kernel
theorem dX7_worksOut_39 : decode cX7_worksOut 39 = .ok (.iadd, 1) := by decide +kernel
theorem dX7_worksOut_40 : decode cX7_worksOut 40 = .ok (.iload 4, 2) := by decide +kernel
theorem dX7_worksOut_42 : decode cX7_worksOut 42 = .ok (.iadd, 1) := by decide +kernel
theorem dX7_worksOut_43 : decode cX7_worksOut 43 = .ok (.iaload, 1) := by decide +kernel
theorem dX7_worksOut_44 : decode cX7_worksOut 44 = .ok (.istore 5, 2) := by decide +kernel
theorem dX7_worksOut_46 : decode cX7_worksOut 46 = .ok (.iload 5, 2) := by decide +kernel
theorem dX7_worksOut_48 : decode cX7_worksOut 48 = .ok (.ifCond .lt 39, 3) := by decide +kernel
theorem dX7_worksOut_51 : decode cX7_worksOut 51 = .ok (.aload_n 0, 1) := by decide +kernel
theorem dX7_worksOut_52 : decode cX7_worksOut 52 = .ok (.getfield 45, 3) := by decide +kernel
theorem dX7_worksOut_55 : decode cX7_worksOut 55 = .ok (.iload_n 2, 1) := by decide +kernel
theorem dX7_worksOut_56 : decode cX7_worksOut 56 = .ok (.iload 5, 2) := by decide +kernel
theorem dX7_worksOut_58 : decode cX7_worksOut 58 = .ok (.sipush 10000, 3) := by decide +kernel
theorem dX7_worksOut_61 : decode cX7_worksOut 61 = .ok (.if_icmp .ge 8, 3) := by decide +kernel
theorem dX7_worksOut_64 : decode cX7_worksOut 64 = .ok (.iload 5, 2) := by decide +kernel
theorem dX7_worksOut_66 : decode cX7_worksOut 66 = .ok (.goto 14, 3) := by decide +kernel
theorem dX7_worksOut_69 : decode cX7_worksOut 69 = .ok (.aload_n 0, 1) := by decide +kernel
theorem dX7_worksOut_70 : decode cX7_worksOut 70 = .ok (.getfield 48, 3) := by decide +kernel
theorem dX7_worksOut_73 : decode cX7_worksOut 73 = .ok (.iload 5, 2) := by decide +kernel
theorem dX7_worksOut_75 : decode cX7_worksOut 75 = .ok (.sipush 10000, 3) := by decide +kernel
theorem dX7_worksOut_78 : decode cX7_worksOut 78 = .ok (.isub, 1) := by decide +kernel
theorem dX7_worksOut_79 : decode cX7_worksOut 79 = .ok (.iaload, 1) := by decide +kernel
theorem dX7_worksOut_80 : decode cX7_worksOut 80 = .ok (.iastore, 1) := by decide +kernel
theorem dX7_worksOut_81 : decode cX7_worksOut 81 = .ok (.iinc 2 1, 3) := by decide +kernel
theorem dX7_worksOut_84 : decode cX7_worksOut 84 = .ok (.goto 67, 3) := by decide +kernel
theorem dX7_worksOut_87 : decode cX7_worksOut 87 = .ok (.iload 5, 2) := by decide +kernel
theorem dX7_worksOut_89 : decode cX7_worksOut 89 = .ok (.bipush (-10), 2) := by decide +kernel
theorem dX7_worksOut_91 : decode cX7_worksOut 91 = .ok (.if_icmp .ne 30, 3) := by decide +kernel
theorem dX7_worksOut_94 : decode cX7_worksOut 94 = .ok (.aload_n 0, 1) := by decide +kernel
theorem dX7_worksOut_95 : decode cX7_worksOut 95 = .ok (.getfield 45, 3) := by decide +kernel
theorem dX7_worksOut_98 : decode cX7_worksOut 98 = .ok (.iload_n 2, 1) := by decide +kernel
theorem dX7_worksOut_99 : decode cX7_worksOut 99 = .ok (.iconst 1, 1) := by decide +kernel
theorem dX7_worksOut_100 : decode cX7_worksOut 100 = .ok (.isub, 1) := by decide +kernel
theorem dX7_worksOut_101 : decode cX7_worksOut 101 = .ok (.aload_n 0, 1) := by decide +kernel
theorem dX7_worksOut_102 : decode cX7_worksOut 102 = .ok (.getfield 45, 3) := by decide +kernel
theorem dX7_worksOut_105 : decode cX7_worksOut 105 = .ok (.iload_n 2, 1) := by decide +kernel
theorem dX7_worksOut_106 : decode cX7_worksOut 106 = .ok (.iconst 1, 1) := by decide +kernel
theorem dX7_worksOut_107 : decode cX7_worksOut 107 = .ok (.isub, 1) := by decide +kernel
theorem dX7_worksOut_108 : decode cX7_worksOut 108 = .ok (.iaload, 1) := by decide +kernel
theorem dX7_worksOut_109 : decode cX7_worksOut 109 = .ok (.ifCond .ne 7, 3) := by decide +kernel
theorem dX7_worksOut_112 : decode cX7_worksOut 112 = .ok (.iconst 1, 1) := by decide +kernel
theorem dX7_worksOut_113 : decode cX7_worksOut 113 = .ok (.goto 4, 3) := by decide +kernel
theorem dX7_worksOut_116 : decode cX7_worksOut 116 = .ok (.iconst 0, 1) := by decide +kernel
theorem dX7_worksOut_117 : decode cX7_worksOut 117 = .ok (.iastore, 1) := by decide +kernel
theorem dX7_worksOut_118 : decode cX7_worksOut 118 = .ok (.goto 33, 3) := by decide +kernel
theorem dX7_worksOut_121 : decode cX7_worksOut 121 = .ok (.iinc 2 (-1), 3) := by decide +kernel
theorem dX7_worksOut_124 : decode cX7_worksOut 124 = .ok (.aload_n 0, 1) := by decide +kernel
theorem dX7_worksOut_125 : decode cX7_worksOut 125 = .ok (.getfield 45, 3) := by decide +kernel
theorem dX7_worksOut_128 : decode cX7_worksOut 128 = .ok (.iload_n 2, 1) := by decide +kernel
theorem dX7_worksOut_129 : decode cX7_worksOut 129 = .ok (.iconst 1, 1) := by decide +kernel
theorem dX7_worksOut_130 : decode cX7_worksOut 130 = .ok (.isub, 1) := by decide +kernel
theorem dX7_worksOut_131 : decode cX7_worksOut 131 = .ok (.iload 5, 2) := by decide +kernel
theorem dX7_worksOut_133 : decode cX7_worksOut 133 = .ok (.aload_n 0, 1) := by decide +kernel
theorem dX7_worksOut_134 : decode cX7_worksOut 134 = .ok (.getfield 45, 3) := by decide +kernel
theorem dX7_worksOut_137 : decode cX7_worksOut 137 = .ok (.iload_n 2, 1) := by decide +kernel
theorem dX7_worksOut_138 : decode cX7_worksOut 138 = .ok (.iconst 1, 1) := by decide +kernel
theorem dX7_worksOut_139 : decode cX7_worksOut 139 = .ok (.isub, 1) := by decide +kernel
theorem dX7_worksOut_140 : decode cX7_worksOut 140 = .ok (.iaload, 1) := by decide +kernel
theorem dX7_worksOut_141 : decode cX7_worksOut 141 = .ok (.aload_n 0, 1) := by decide +kernel
theorem dX7_worksOut_142 : decode cX7_worksOut 142 = .ok (.getfield 45, 3) := by decide +kernel
theorem dX7_worksOut_145 : decode cX7_worksOut 145 = .ok (.iload_n 2, 1) := by decide +kernel
theorem dX7_worksOut_146 : decode cX7_worksOut 146 = .ok (.iaload, 1) := by decide +kernel
theorem dX7_worksOut_147 : decode cX7_worksOut 147 = .ok (.invokestatic 258, 3) := by decide +kernel
theorem dX7_worksOut_150 : decode cX7_worksOut 150 = .ok (.iastore, 1) := by decide +kernel
theorem dX7_worksOut_151 : decode cX7_worksOut 151 = .ok (.iinc 4 1, 3) := by decide +kernel
theorem dX7_worksOut_154 : decode cX7_worksOut 154 = .ok (.goto (-132), 3) := by decide +kernel
theorem dX7_worksOut_157 : decode cX7_worksOut 157 = .ok (.aload_n 0, 1) := by decide +kernel
theorem dX7_worksOut_158 : decode cX7_worksOut 158 = .ok (.getfield 45, 3) := by decide +kernel
theorem dX7_worksOut_161 : decode cX7_worksOut 161 = .ok (.iconst 0, 1) := by decide +kernel
theorem dX7_worksOut_162 : decode cX7_worksOut 162 = .ok (.iaload, 1) := by decide +kernel
theorem dX7_worksOut_163 : decode cX7_worksOut 163 = .ok (.ireturn, 1) := by decide +kernel
theorem dX7_isSheet_0 : decode cX7_isSheet 0 = .ok (.iload_n 0, 1) := by decide +kernel
theorem dX7_isSheet_1 : decode cX7_isSheet 1 = .ok (.iconst 0, 1) := by decide +kernel
theorem dX7_isSheet_2 : decode cX7_isSheet 2 = .ok (.iconst 3, 1) := by decide +kernel
theorem dX7_isSheet_3 : decode cX7_isSheet 3 = .ok (.invokestatic 78, 3) := by decide +kernel
theorem dX7_isSheet_6 : decode cX7_isSheet 6 = .ok (.ireturn, 1) := by decide +kernel
theorem dX7_isSlot_0 : decode cX7_isSlot 0 = .ok (.iload_n 0, 1) := by decide +kernel
theorem dX7_isSlot_1 : decode cX7_isSlot 1 = .ok (.iconst 0, 1) := by decide +kernel
theorem dX7_isSlot_2 : decode cX7_isSlot 2 = .ok (.iconst 4, 1) := by decide +kernel
theorem dX7_isSlot_3 : decode cX7_isSlot 3 = .ok (.invokestatic 78, 3) := by decide +kernel
theorem dX7_isSlot_6 : decode cX7_isSlot 6 = .ok (.ireturn, 1) := by decide +kernel
theorem dX7_sheet_0 : decode cX7_sheet 0 = .ok (.iload_n 1, 1) := by decide +kernel
theorem dX7_sheet_1 : decode cX7_sheet 1 = .ok (.invokestatic 185, 3) := by decide +kernel
theorem dX7_sheet_4 : decode cX7_sheet 4 = .ok (.ifCond .eq 22, 3) := by decide +kernel
theorem dX7_sheet_7 : decode cX7_sheet 7 = .ok (.iload_n 2, 1) := by decide +kernel
theorem dX7_sheet_8 : decode cX7_sheet 8 = .ok (.iconst (-1), 1) := by decide +kernel
theorem dX7_sheet_9 : decode cX7_sheet 9 = .ok (.iconst 1, 1) := by decide +kernel
theorem dX7_sheet_10 : decode cX7_sheet 10 = .ok (.invokestatic 78, 3) := by decide +kernel
theorem dX7_sheet_13 : decode cX7_sheet 13 = .ok (.ifCond .eq 13, 3) := by decide +kernel
theorem dX7_sheet_16 : decode cX7_sheet 16 = .ok (.iload_n 2, 1) := by decide +kernel
theorem dX7_sheet_17 : decode cX7_sheet 17 = .ok (.ifCond .lt 12, 3) := by decide +kernel
theorem dX7_sheet_20 : decode cX7_sheet 20 = .ok (.iload_n 3, 1) := by decide +kernel
theorem dX7_sheet_21 : decode cX7_sheet 21 = .ok (.bipush 24, 2) := by decide +kernel
theorem dX7_sheet_23 : decode cX7_sheet 23 = .ok (.if_icmp .le 6, 3) := by decide +kernel
theorem dX7_sheet_26 : decode cX7_sheet 26 = .ok (.ldc 90, 2) := by decide +kernel
theorem dX7_sheet_28 : decode cX7_sheet 28 = .ok (.ireturn, 1) := by decide +kernel
theorem dX7_sheet_29 : decode cX7_sheet 29 = .ok (.iload_n 2, 1) := by decide +kernel
theorem dX7_sheet_30 : decode cX7_sheet 30 = .ok (.ifCond .lt 11, 3) := by decide +kernel
theorem dX7_sheet_33 : decode cX7_sheet 33 = .ok (.iload_n 3, 1) := by decide +kernel
theorem dX7_sheet_34 : decode cX7_sheet 34 = .ok (.ifCond .ge 7, 3) := by decide +kernel
theorem dX7_sheet_37 : decode cX7_sheet 37 = .ok (.ldc_w 261, 3) := by decide +kernel
theorem dX7_sheet_40 : decode cX7_sheet 40 = .ok (.ireturn, 1) := by decide +kernel
theorem dX7_sheet_41 : decode cX7_sheet 41 = .ok (.aload_n 0, 1) := by decide +kernel
theorem dX7_sheet_42 : decode cX7_sheet 42 = .ok (.getfield 51, 3) := by decide +kernel
theorem dX7_sheet_45 : decode cX7_sheet 45 = .ok (.iload_n 1, 1) := by decide +kernel
theorem dX7_sheet_46 : decode cX7_sheet 46 = .ok (.iload_n 2, 1) := by decide +kernel
theorem dX7_sheet_47 : decode cX7_sheet 47 = .ok (.iastore, 1) := by decide +kernel
theorem dX7_sheet_48 : decode cX7_sheet 48 = .ok (.aload_n 0, 1) := by decide +kernel
theorem dX7_sheet_49 : decode cX7_sheet 49 = .ok (.getfield 54, 3) := by decide +kernel
theorem dX7_sheet_52 : decode cX7_sheet 52 = .ok (.iload_n 1, 1) := by decide +kernel
theorem dX7_sheet_53 : decode cX7_sheet 53 = .ok (.iload_n 2, 1) := by decide +kernel
theorem dX7_sheet_54 : decode cX7_sheet 54 = .ok (.ifCond .ge 7, 3) := by decide +kernel
theorem dX7_sheet_57 : decode cX7_sheet 57 = .ok (.iconst 0, 1) := by decide +kernel
theorem dX7_sheet_58 : decode cX7_sheet 58 = .ok (.goto 4, 3) := by decide +kernel
theorem dX7_sheet_61 : decode cX7_sheet 61 = .ok (.iload_n 3, 1) := by decide +kernel
theorem dX7_sheet_62 : decode cX7_sheet 62 = .ok (.iastore, 1) := by decide +kernel
theorem dX7_sheet_63 : decode cX7_sheet 63 = .ok (.iconst 0, 1) := by decide +kernel
theorem dX7_sheet_64 : decode cX7_sheet 64 = .ok (.istore 4, 2) := by decide +kernel
theorem dX7_sheet_66 : decode cX7_sheet 66 = .ok (.iload 4, 2) := by decide +kernel
theorem dX7_sheet_68 : decode cX7_sheet 68 = .ok (.bipush 24, 2) := by decide +kernel
theorem dX7_sheet_70 : decode cX7_sheet 70 = .ok (.if_icmp .ge 22, 3) := by decide +kernel
theorem dX7_sheet_73 : decode cX7_sheet 73 = .ok (.aload_n 0, 1) := by decide +kernel
theorem dX7_sheet_74 : decode cX7_sheet 74 = .ok (.getfield 57, 3) := by decide +kernel
theorem dX7_sheet_77 : decode cX7_sheet 77 = .ok (.bipush 24, 2) := by decide +kernel
theorem dX7_sheet_79 : decode cX7_sheet 79 = .ok (.iload_n 1, 1) := by decide +kernel
theorem dX7_sheet_80 : decode cX7_sheet 80 = .ok (.imul, 1) := by decide +kernel
theorem dX7_sheet_81 : decode cX7_sheet 81 = .ok (.iload 4, 2) := by decide +kernel
theorem dX7_sheet_83 : decode cX7_sheet 83 = .ok (.iadd, 1) := by decide +kernel
theorem dX7_sheet_84 : decode cX7_sheet 84 = .ok (.iconst 0, 1) := by decide +kernel
theorem dX7_sheet_85 : decode cX7_sheet 85 = .ok (.iastore, 1) := by decide +kernel
theorem dX7_sheet_86 : decode cX7_sheet 86 = .ok (.iinc 4 1, 3) := by decide +kernel
theorem dX7_sheet_89 : decode cX7_sheet 89 = .ok (.goto (-23), 3) := by decide +kernel
theorem dX7_sheet_92 : decode cX7_sheet 92 = .ok (.aload_n 0, 1) := by decide +kernel
theorem dX7_sheet_93 : decode cX7_sheet 93 = .ok (.getfield 54, 3) := by decide +kernel
theorem dX7_sheet_96 : decode cX7_sheet 96 = .ok (.iload_n 1, 1) := by decide +kernel
theorem dX7_sheet_97 : decode cX7_sheet 97 = .ok (.iaload, 1) := by decide +kernel
theorem dX7_sheet_98 : decode cX7_sheet 98 = .ok (.ireturn, 1) := by decide +kernel
theorem dX7_mark_0 : decode cX7_mark 0 = .ok (.iload_n 1, 1) := by decide +kernel
theorem dX7_mark_1 : decode cX7_mark 1 = .ok (.invokestatic 185, 3) := by decide +kernel
theorem dX7_mark_4 : decode cX7_mark 4 = .ok (.ifCond .ne 6, 3) := by decide +kernel
theorem dX7_mark_7 : decode cX7_mark 7 = .ok (.ldc 90, 2) := by decide +kernel
theorem dX7_mark_9 : decode cX7_mark 9 = .ok (.ireturn, 1) := by decide +kernel
theorem dX7_mark_10 : decode cX7_mark 10 = .ok (.aload_n 0, 1) := by decide +kernel
theorem dX7_mark_11 : decode cX7_mark 11 = .ok (.getfield 51, 3) := by decide +kernel
theorem dX7_mark_14 : decode cX7_mark 14 = .ok (.iload_n 1, 1) := by decide +kernel
theorem dX7_mark_15 : decode cX7_mark 15 = .ok (.iaload, 1) := by decide +kernel
theorem dX7_mark_16 : decode cX7_mark 16 = .ok (.ifCond .ge 6, 3) := by decide +kernel
theorem dX7_mark_19 : decode cX7_mark 19 = .ok (.ldc 188, 2) := by decide +kernel
theorem dX7_mark_21 : decode cX7_mark 21 = .ok (.ireturn, 1) := by decide +kernel
theorem dX7_mark_22 : decode cX7_mark 22 = .ok (.iload_n 2, 1) := by decide +kernel
theorem dX7_mark_23 : decode cX7_mark 23 = .ok (.iconst 0, 1) := by decide +kernel
theorem dX7_mark_24 : decode cX7_mark 24 = .ok (.aload_n 0, 1) := by decide +kernel
theorem dX7_mark_25 : decode cX7_mark 25 = .ok (.getfield 54, 3) := by decide +kernel
theorem dX7_mark_28 : decode cX7_mark 28 = .ok (.iload_n 1, 1) := by decide +kernel
theorem dX7_mark_29 : decode cX7_mark 29 = .ok (.iaload, 1) := by decide +kernel
theorem dX7_mark_30 : decode cX7_mark 30 = .ok (.iconst 1, 1) := by decide +kernel
theorem dX7_mark_31 : decode cX7_mark 31 = .ok (.isub, 1) := by decide +kernel
theorem dX7_mark_32 : decode cX7_mark 32 = .ok (.invokestatic 78, 3) := by decide +kernel
theorem dX7_mark_35 : decode cX7_mark 35 = .ok (.ifCond .ne 7, 3) := by decide +kernel
theorem dX7_mark_38 : decode cX7_mark 38 = .ok (.ldc_w 262, 3) := by decide +kernel
theorem dX7_mark_41 : decode cX7_mark 41 = .ok (.ireturn, 1) := by decide +kernel
theorem dX7_mark_42 : decode cX7_mark 42 = .ok (.aload_n 0, 1) := by decide +kernel
theorem dX7_mark_43 : decode cX7_mark 43 = .ok (.getfield 51, 3) := by decide +kernel
theorem dX7_mark_46 : decode cX7_mark 46 = .ok (.iload_n 1, 1) := by decide +kernel
theorem dX7_mark_47 : decode cX7_mark 47 = .ok (.iaload, 1) := by decide +kernel
theorem dX7_mark_48 : decode cX7_mark 48 = .ok (.ifCond .ne 12, 3) := by decide +kernel
theorem dX7_mark_51 : decode cX7_mark 51 = .ok (.iload_n 3, 1) := by decide +kernel
theorem dX7_mark_52 : decode cX7_mark 52 = .ok (.ldc 171, 2) := by decide +kernel
theorem dX7_mark_54 : decode cX7_mark 54 = .ok (.if_icmp .ne 6, 3) := by decide +kernel
theorem dX7_mark_57 : decode cX7_mark 57 = .ok (.ldc 147, 2) := by decide +kernel
theorem dX7_mark_59 : decode cX7_mark 59 = .ok (.ireturn, 1) := by decide +kernel
theorem dX7_mark_60 : decode cX7_mark 60 = .ok (.aload_n 0, 1) := by decide +kernel
theorem dX7_mark_61 : decode cX7_mark 61 = .ok (.getfield 51, 3) := by decide +kernel
theorem dX7_mark_64 : decode cX7_mark 64 = .ok (.iload_n 1, 1) := by decide +kernel
theorem dX7_mark_65 : decode cX7_mark 65 = .ok (.iaload, 1) := by decide +kernel
theorem dX7_mark_66 : decode cX7_mark 66 = .ok (.iconst 1, 1) := by decide +kernel
theorem dX7_mark_67 : decode cX7_mark 67 = .ok (.if_icmp .ne 25, 3) := by decide +kernel
theorem dX7_mark_70 : decode cX7_mark 70 = .ok (.iload_n 3, 1) := by decide +kernel
theorem dX7_mark_71 : decode cX7_mark 71 = .ok (.ldc 171, 2) := by decide +kernel
theorem dX7_mark_73 : decode cX7_mark 73 = .ok (.if_icmp .eq 19, 3) := by decide +kernel
theorem dX7_mark_76 : decode cX7_mark 76 = .ok (.iload_n 3, 1) := by decide +kernel
theorem dX7_mark_77 : decode cX7_mark 77 = .ok (.ldc_w 263, 3) := by decide +kernel
theorem dX7_mark_80 : decode cX7_mark 80 = .ok (.ldc_w 264, 3) := by decide +kernel
theorem dX7_mark_83 : decode cX7_mark 83 = .ok (.invokestatic 78, 3) := by decide +kernel
theorem dX7_mark_86 : decode cX7_mark 86 = .ok (.ifCond .ne 6, 3) := by decide +kernel
theorem dX7_mark_89 : decode cX7_mark 89 = .ok (.ldc 90, 2) := by decide +kernel
theorem dX7_mark_91 : decode cX7_mark 91 = .ok (.ireturn, 1) := by decide +kernel
theorem dX7_mark_92 : decode cX7_mark 92 = .ok (.aload_n 0, 1) := by decide +kernel
theorem dX7_mark_93 : decode cX7_mark 93 = .ok (.getfield 57, 3) := by decide +kernel
theorem dX7_mark_96 : decode cX7_mark 96 = .ok (.bipush 24, 2) := by decide +kernel
theorem dX7_mark_98 : decode cX7_mark 98 = .ok (.iload_n 1, 1) := by decide +kernel
theorem dX7_mark_99 : decode cX7_mark 99 = .ok (.imul, 1) := by decide +kernel
theorem dX7_mark_100 : decode cX7_mark 100 = .ok (.iload_n 2, 1) := by decide +kernel
theorem dX7_mark_101 : decode cX7_mark 101 = .ok (.iadd, 1) := by decide +kernel
theorem dX7_mark_102 : decode cX7_mark 102 = .ok (.aload_n 0, 1) := by decide +kernel
theorem dX7_mark_103 : decode cX7_mark 103 = .ok (.getfield 51, 3) := by decide +kernel
theorem dX7_mark_106 : decode cX7_mark 106 = .ok (.iload_n 1, 1) := by decide +kernel
theorem dX7_mark_107 : decode cX7_mark 107 = .ok (.iaload, 1) := by decide +kernel
theorem dX7_mark_108 : decode cX7_mark 108 = .ok (.ifCond .ne 8, 3) := by decide +kernel
theorem dX7_mark_111 : decode cX7_mark 111 = .ok (.iload_n 3, 1) := by decide +kernel
theorem dX7_mark_112 : decode cX7_mark 112 = .ok (.i2s, 1) := by decide +kernel
theorem dX7_mark_113 : decode cX7_mark 113 = .ok (.goto 4, 3) := by decide +kernel
theorem dX7_mark_116 : decode cX7_mark 116 = .ok (.iload_n 3, 1) := by decide +kernel
theorem dX7_mark_117 : decode cX7_mark 117 = .ok (.iastore, 1) := by decide +kernel
theorem dX7_mark_118 : decode cX7_mark 118 = .ok (.iconst 1, 1) := by decide +kernel
theorem dX7_mark_119 : decode cX7_mark 119 = .ok (.ireturn, 1) := by decide +kernel
theorem dX7_pour_0 : decode cX7_pour 0 = .ok (.iload_n 1, 1) := by decide +kernel
theorem dX7_pour_1 : decode cX7_pour 1 = .ok (.invokestatic 185, 3) := by decide +kernel
theorem dX7_pour_4 : decode cX7_pour 4 = .ok (.ifCond .eq 11, 3) := by decide +kernel
theorem dX7_pour_7 : decode cX7_pour 7 = .ok (.aload_n 0, 1) := by decide +kernel
theorem dX7_pour_8 : decode cX7_pour 8 = .ok (.iload_n 2, 1) := by decide +kernel
theorem dX7_pour_9 : decode cX7_pour 9 = .ok (.invokevirtual 128, 3) := by decide +kernel
theorem dX7_pour_12 : decode cX7_pour 12 = .ok (.ifCond .ne 6, 3) := by decide +kernel
theorem dX7_pour_15 : decode cX7_pour 15 = .ok (.ldc 90, 2) := by decide +kernel
theorem dX7_pour_17 : decode cX7_pour 17 = .ok (.ireturn, 1) := by decide +kernel
theorem dX7_pour_18 : decode cX7_pour 18 = .ok (.aload_n 0, 1) := by decide +kernel
theorem dX7_pour_19 : decode cX7_pour 19 = .ok (.getfield 51, 3) := by decide +kernel
theorem dX7_pour_22 : decode cX7_pour 22 = .ok (.iload_n 1, 1) := by decide +kernel
theorem dX7_pour_23 : decode cX7_pour 23 = .ok (.iaload, 1) := by decide +kernel
theorem dX7_pour_24 : decode cX7_pour 24 = .ok (.ifCond .ge 6, 3) := by decide +kernel
theorem dX7_pour_27 : decode cX7_pour 27 = .ok (.ldc 188, 2) := by decide +kernel
theorem dX7_pour_29 : decode cX7_pour 29 = .ok (.ireturn, 1) := by decide +kernel
theorem dX7_pour_30 : decode cX7_pour 30 = .ok (.iconst 0, 1) := by decide +kernel
theorem dX7_pour_31 : decode cX7_pour 31 = .ok (.istore_n 3, 1) := by decide +kernel
theorem dX7_pour_32 : decode cX7_pour 32 = .ok (.iconst 0, 1) := by decide +kernel
theorem dX7_pour_33 : decode cX7_pour 33 = .ok (.istore 4, 2) := by decide +kernel
theorem dX7_pour_35 : decode cX7_pour 35 = .ok (.iload 4, 2) := by decide +kernel
theorem dX7_pour_37 : decode cX7_pour 37 = .ok (.aload_n 0, 1) := by decide +kernel
theorem dX7_pour_38 : decode cX7_pour 38 = .ok (.getfield 54, 3) := by decide +kernel
theorem dX7_pour_41 : decode cX7_pour 41 = .ok (.iload_n 1, 1) := by decide +kernel
theorem dX7_pour_42 : decode cX7_pour 42 = .ok (.iaload, 1) := by decide +kernel
theorem dX7_pour_43 : decode cX7_pour 43 = .ok (.if_icmp .ge 83, 3) := by decide +kernel
theorem dX7_pour_46 : decode cX7_pour 46 = .ok (.aload_n 0, 1) := by decide +kernel
theorem dX7_pour_47 : decode cX7_pour 47 = .ok (.getfield 57, 3) := by decide +kernel
theorem dX7_pour_50 : decode cX7_pour 50 = .ok (.bipush 24, 2) := by decide +kernel
theorem dX7_pour_52 : decode cX7_pour 52 = .ok (.iload_n 1, 1) := by decide +kernel
theorem dX7_pour_53 : decode cX7_pour 53 = .ok (.imul, 1) := by decide +kernel
theorem dX7_pour_54 : decode cX7_pour 54 = .ok (.iload 4, 2) := by decide +kernel
theorem dX7_pour_56 : decode cX7_pour 56 = .ok (.iadd, 1) := by decide +kernel
theorem dX7_pour_57 : decode cX7_pour 57 = .ok (.iaload, 1) := by decide +kernel
theorem dX7_pour_58 : decode cX7_pour 58 = .ok (.istore 5, 2) := by decide +kernel
theorem dX7_pour_60 : decode cX7_pour 60 = .ok (.iload 5, 2) := by decide +kernel
theorem dX7_pour_62 : decode cX7_pour 62 = .ok (.ldc 171, 2) := by decide +kernel
theorem dX7_pour_64 : decode cX7_pour 64 = .ok (.if_icmp .ne 13, 3) := by decide +kernel
theorem dX7_pour_67 : decode cX7_pour 67 = .ok (.aload_n 0, 1) := by decide +kernel
theorem dX7_pour_68 : decode cX7_pour 68 = .ok (.iload_n 2, 1) := by decide +kernel
theorem dX7_pour_69 : decode cX7_pour 69 = .ok (.iload 4, 2) := by decide +kernel
theorem dX7_pour_71 : decode cX7_pour 71 = .ok (.invokevirtual 102, 3) := by decide +kernel
theorem dX7_pour_74 : decode cX7_pour 74 = .ok (.goto 11, 3) := by decide +kernel
theorem dX7_pour_77 : decode cX7_pour 77 = .ok (.iload 5, 2) := by decide +kernel
theorem dX7_pour_79 : decode cX7_pour 79 = .ok (.iconst 0, 1) := by decide +kernel
theorem dX7_pour_80 : decode cX7_pour 80 = .ok (.bipush 99, 2) := by decide +kernel
theorem dX7_pour_82 : decode cX7_pour 82 = .ok (.invokestatic 95, 3) := by decide +kernel
theorem dX7_pour_85 : decode cX7_pour 85 = .ok (.istore 6, 2) := by decide +kernel
theorem dX7_pour_87 : decode cX7_pour 87 = .ok (.iload_n 3, 1) := by decide +kernel
theorem dX7_pour_88 : decode cX7_pour 88 = .ok (.iload 6, 2) := by decide +kernel
theorem dX7_pour_90 : decode cX7_pour 90 = .ok (.aload_n 0, 1) := by decide +kernel
theorem dX7_pour_91 : decode cX7_pour 91 = .ok (.iload_n 2, 1) := by decide +kernel
theorem dX7_pour_92 : decode cX7_pour 92 = .ok (.iload 4, 2) := by decide +kernel
theorem dX7_pour_94 : decode cX7_pour 94 = .ok (.invokevirtual 102, 3) := by decide +kernel
theorem dX7_pour_97 : decode cX7_pour 97 = .ok (.if_icmp .ne 7, 3) := by decide +kernel
theorem dX7_pour_100 : decode cX7_pour 100 = .ok (.iconst 0, 1) := by decide +kernel
theorem dX7_pour_101 : decode cX7_pour 101 = .ok (.goto 4, 3) := by decide +kernel
theorem dX7_pour_104 : decode cX7_pour 104 = .ok (.iconst 1, 1) := by decide +kernel
theorem dX7_pour_105 : decode cX7_pour 105 = .ok (.iadd, 1) := by decide +kernel
theorem dX7_pour_106 : decode cX7_pour 106 = .ok (.istore_n 3, 1) := by decide +kernel
theorem dX7_pour_107 : decode cX7_pour 107 = .ok (.aload_n 0, 1) := by decide +kernel
theorem dX7_pour_108 : decode cX7_pour 108 = .ok (.getfield 9, 3) := by decide +kernel
theorem dX7_pour_111 : decode cX7_pour 111 = .ok (.iload_n 2, 1) := by decide +kernel
theorem dX7_pour_112 : decode cX7_pour 112 = .ok (.iload 4, 2) := by decide +kernel
theorem dX7_pour_114 : decode cX7_pour 114 = .ok (.invokestatic 86, 3) := by decide +kernel
theorem dX7_pour_117 : decode cX7_pour 117 = .ok (.iload 6, 2) := by decide +kernel
theorem dX7_pour_119 : decode cX7_pour 119 = .ok (.iastore, 1) := by decide +kernel
theorem dX7_pour_120 : decode cX7_pour 120 = .ok (.iinc 4 1, 3) := by decide +kernel
theorem dX7_pour_123 : decode cX7_pour 123 = .ok (.goto (-88), 3) := by decide +kernel
theorem dX7_pour_126 : decode cX7_pour 126 = .ok (.iload_n 3, 1) := by decide +kernel
theorem dX7_pour_127 : decode cX7_pour 127 = .ok (.ireturn, 1) := by decide +kernel
theorem dX7_reads_0 : decode cX7_reads 0 = .ok (.iload_n 1, 1) := by decide +kernel
theorem dX7_reads_1 : decode cX7_reads 1 = .ok (.invokestatic 185, 3) := by decide +kernel
theorem dX7_reads_4 : decode cX7_reads 4 = .ok (.ifCond .eq 11, 3) := by decide +kernel
theorem dX7_reads_7 : decode cX7_reads 7 = .ok (.aload_n 0, 1) := by decide +kernel
theorem dX7_reads_8 : decode cX7_reads 8 = .ok (.iload_n 2, 1) := by decide +kernel
theorem dX7_reads_9 : decode cX7_reads 9 = .ok (.invokevirtual 128, 3) := by decide +kernel
theorem dX7_reads_12 : decode cX7_reads 12 = .ok (.ifCond .ne 6, 3) := by decide +kernel
theorem dX7_reads_15 : decode cX7_reads 15 = .ok (.ldc 90, 2) := by decide +kernel
theorem dX7_reads_17 : decode cX7_reads 17 = .ok (.ireturn, 1) := by decide +kernel
theorem dX7_reads_18 : decode cX7_reads 18 = .ok (.aload_n 0, 1) := by decide +kernel
theorem dX7_reads_19 : decode cX7_reads 19 = .ok (.getfield 51, 3) := by decide +kernel
theorem dX7_reads_22 : decode cX7_reads 22 = .ok (.iload_n 1, 1) := by decide +kernel
theorem dX7_reads_23 : decode cX7_reads 23 = .ok (.iaload, 1) := by decide +kernel
theorem dX7_reads_24 : decode cX7_reads 24 = .ok (.ifCond .ge 6, 3) := by decide +kernel
theorem dX7_reads_27 : decode cX7_reads 27 = .ok (.ldc 188, 2) := by decide +kernel
theorem dX7_reads_29 : decode cX7_reads 29 = .ok (.ireturn, 1) := by decide +kernel
theorem dX7_reads_30 : decode cX7_reads 30 = .ok (.iconst 0, 1) := by decide +kernel
theorem dX7_reads_31 : decode cX7_reads 31 = .ok (.istore_n 3, 1) := by decide +kernel
theorem dX7_reads_32 : decode cX7_reads 32 = .ok (.iload_n 3, 1) := by decide +kernel
theorem dX7_reads_33 : decode cX7_reads 33 = .ok (.aload_n 0, 1) := by decide +kernel
theorem dX7_reads_34 : decode cX7_reads 34 = .ok (.getfield 54, 3) := by decide +kernel
theorem dX7_reads_37 : decode cX7_reads 37 = .ok (.iload_n 1, 1) := by decide +kernel
theorem dX7_reads_38 : decode cX7_reads 38 = .ok (.iaload, 1) := by decide +kernel
theorem dX7_reads_39 : decode cX7_reads 39 = .ok (.if_icmp .ge 42, 3) := by decide +kernel
theorem dX7_reads_42 : decode cX7_reads 42 = .ok (.aload_n 0, 1) := by decide +kernel
theorem dX7_reads_43 : decode cX7_reads 43 = .ok (.getfield 57, 3) := by decide +kernel
theorem dX7_reads_46 : decode cX7_reads 46 = .ok (.bipush 24, 2) := by decide +kernel
theorem dX7_reads_48 : decode cX7_reads 48 = .ok (.iload_n 1, 1) := by decide +kernel
theorem dX7_reads_49 : decode cX7_reads 49 = .ok (.imul, 1) := by decide +kernel
theorem dX7_reads_50 : decode cX7_reads 50 = .ok (.iload_n 3, 1) := by decide +kernel
theorem dX7_reads_51 : decode cX7_reads 51 = .ok (.iadd, 1) := by decide +kernel
theorem dX7_reads_52 : decode cX7_reads 52 = .ok (.iaload, 1) := by decide +kernel
theorem dX7_reads_53 : decode cX7_reads 53 = .ok (.istore 4, 2) := by decide +kernel
theorem dX7_reads_55 : decode cX7_reads 55 = .ok (.iload 4, 2) := by decide +kernel
theorem dX7_reads_57 : decode cX7_reads 57 = .ok (.ldc 171, 2) := by decide +kernel
theorem dX7_reads_59 : decode cX7_reads 59 = .ok (.if_icmp .eq 16, 3) := by decide +kernel
theorem dX7_reads_62 : decode cX7_reads 62 = .ok (.iload 4, 2) := by decide +kernel
theorem dX7_reads_64 : decode cX7_reads 64 = .ok (.aload_n 0, 1) := by decide +kernel
theorem dX7_reads_65 : decode cX7_reads 65 = .ok (.iload_n 2, 1) := by decide +kernel
theorem dX7_reads_66 : decode cX7_reads 66 = .ok (.iload_n 3, 1) := by decide +kernel
theorem dX7_reads_67 : decode cX7_reads 67 = .ok (.invokevirtual 102, 3) := by decide +kernel
theorem dX7_reads_70 : decode cX7_reads 70 = .ok (.if_icmp .eq 5, 3) := by decide +kernel
theorem dX7_reads_73 : decode cX7_reads 73 = .ok (.iload_n 3, 1) := by decide +kernel
theorem dX7_reads_74 : decode cX7_reads 74 = .ok (.ireturn, 1) := by decide +kernel
theorem dX7_reads_75 : decode cX7_reads 75 = .ok (.iinc 3 1, 3) := by decide +kernel
theorem dX7_reads_78 : decode cX7_reads 78 = .ok (.goto (-46), 3) := by decide +kernel
theorem dX7_reads_81 : decode cX7_reads 81 = .ok (.ldc 171, 2) := by decide +kernel
theorem dX7_reads_83 : decode cX7_reads 83 = .ok (.ireturn, 1) := by decide +kernel
theorem dX7_copy_0 : decode cX7_copy 0 = .ok (.iload_n 1, 1) := by decide +kernel
theorem dX7_copy_1 : decode cX7_copy 1 = .ok (.invokestatic 185, 3) := by decide +kernel
theorem dX7_copy_4 : decode cX7_copy 4 = .ok (.ifCond .eq 10, 3) := by decide +kernel
theorem dX7_copy_7 : decode cX7_copy 7 = .ok (.iload_n 3, 1) := by decide +kernel
theorem dX7_copy_8 : decode cX7_copy 8 = .ok (.invokestatic 185, 3) := by decide +kernel
theorem dX7_copy_11 : decode cX7_copy 11 = .ok (.ifCond .ne 6, 3) := by decide +kernel
theorem dX7_copy_14 : decode cX7_copy 14 = .ok (.ldc 90, 2) := by decide +kernel
theorem dX7_copy_16 : decode cX7_copy 16 = .ok (.ireturn, 1) := by decide +kernel
theorem dX7_copy_17 : decode cX7_copy 17 = .ok (.aload_n 0, 1) := by decide +kernel
theorem dX7_copy_18 : decode cX7_copy 18 = .ok (.getfield 51, 3) := by decide +kernel
theorem dX7_copy_21 : decode cX7_copy 21 = .ok (.iload_n 1, 1) := by decide +kernel
theorem dX7_copy_22 : decode cX7_copy 22 = .ok (.iaload, 1) := by decide +kernel
theorem dX7_copy_23 : decode cX7_copy 23 = .ok (.ifCond .lt 12, 3) := by decide +kernel
theorem dX7_copy_26 : decode cX7_copy 26 = .ok (.aload_n 0, 1) := by decide +kernel
theorem dX7_copy_27 : decode cX7_copy 27 = .ok (.getfield 51, 3) := by decide +kernel
theorem dX7_copy_30 : decode cX7_copy 30 = .ok (.iload_n 3, 1) := by decide +kernel
theorem dX7_copy_31 : decode cX7_copy 31 = .ok (.iaload, 1) := by decide +kernel
theorem dX7_copy_32 : decode cX7_copy 32 = .ok (.ifCond .ge 6, 3) := by decide +kernel
theorem dX7_copy_35 : decode cX7_copy 35 = .ok (.ldc 188, 2) := by decide +kernel
theorem dX7_copy_37 : decode cX7_copy 37 = .ok (.ireturn, 1) := by decide +kernel
theorem dX7_copy_38 : decode cX7_copy 38 = .ok (.aload_n 0, 1) := by decide +kernel
theorem dX7_copy_39 : decode cX7_copy 39 = .ok (.getfield 51, 3) := by decide +kernel
theorem dX7_copy_42 : decode cX7_copy 42 = .ok (.iload_n 1, 1) := by decide +kernel
theorem dX7_copy_43 : decode cX7_copy 43 = .ok (.iaload, 1) := by decide +kernel
theorem dX7_copy_44 : decode cX7_copy 44 = .ok (.aload_n 0, 1) := by decide +kernel
theorem dX7_copy_45 : decode cX7_copy 45 = .ok (.getfield 51, 3) := by decide +kernel
theorem dX7_copy_48 : decode cX7_copy 48 = .ok (.iload_n 3, 1) := by decide +kernel
theorem dX7_copy_49 : decode cX7_copy 49 = .ok (.iaload, 1) := by decide +kernel
theorem dX7_copy_50 : decode cX7_copy 50 = .ok (.if_icmp .eq 6, 3) := by decide +kernel
theorem dX7_copy_53 : decode cX7_copy 53 = .ok (.ldc 147, 2) := by decide +kernel
theorem dX7_copy_55 : decode cX7_copy 55 = .ok (.ireturn, 1) := by decide +kernel
theorem dX7_copy_56 : decode cX7_copy 56 = .ok (.iload_n 2, 1) := by decide +kernel
theorem dX7_copy_57 : decode cX7_copy 57 = .ok (.ifCond .lt 40, 3) := by decide +kernel
theorem dX7_copy_60 : decode cX7_copy 60 = .ok (.iload 4, 2) := by decide +kernel
theorem dX7_copy_62 : decode cX7_copy 62 = .ok (.ifCond .lt 35, 3) := by decide +kernel
theorem dX7_copy_65 : decode cX7_copy 65 = .ok (.iload 5, 2) := by decide +kernel
theorem dX7_copy_67 : decode cX7_copy 67 = .ok (.ifCond .lt 30, 3) := by decide +kernel
theorem dX7_copy_70 : decode cX7_copy 70 = .ok (.iload_n 2, 1) := by decide +kernel
theorem dX7_copy_71 : decode cX7_copy 71 = .ok (.aload_n 0, 1) := by decide +kernel
theorem dX7_copy_72 : decode cX7_copy 72 = .ok (.getfield 54, 3) := by decide +kernel
theorem dX7_copy_75 : decode cX7_copy 75 = .ok (.iload_n 1, 1) := by decide +kernel
theorem dX7_copy_76 : decode cX7_copy 76 = .ok (.iaload, 1) := by decide +kernel
theorem dX7_copy_77 : decode cX7_copy 77 = .ok (.iload 5, 2) := by decide +kernel
theorem dX7_copy_79 : decode cX7_copy 79 = .ok (.isub, 1) := by decide +kernel
theorem dX7_copy_80 : decode cX7_copy 80 = .ok (.if_icmp .gt 17, 3) := by decide +kernel
theorem dX7_copy_83 : decode cX7_copy 83 = .ok (.iload 4, 2) := by decide +kernel
theorem dX7_copy_85 : decode cX7_copy 85 = .ok (.aload_n 0, 1) := by decide +kernel
theorem dX7_copy_86 : decode cX7_copy 86 = .ok (.getfield 54, 3) := by decide +kernel
theorem dX7_copy_89 : decode cX7_copy 89 = .ok (.iload_n 3, 1) := by decide +kernel
theorem dX7_copy_90 : decode cX7_copy 90 = .ok (.iaload, 1) := by decide +kernel
theorem dX7_copy_91 : decode cX7_copy 91 = .ok (.iload 5, 2) := by decide +kernel
theorem dX7_copy_93 : decode cX7_copy 93 = .ok (.isub, 1) := by decide +kernel
theorem dX7_copy_94 : decode cX7_copy 94 = .ok (.if_icmp .le 7, 3) := by decide +kernel
theorem dX7_copy_97 : decode cX7_copy 97 = .ok (.ldc_w 262, 3) := by decide +kernel
theorem dX7_copy_100 : decode cX7_copy 100 = .ok (.ireturn, 1) := by decide +kernel
theorem dX7_copy_101 : decode cX7_copy 101 = .ok (.iconst 0, 1) := by decide +kernel
theorem dX7_copy_102 : decode cX7_copy 102 = .ok (.istore 6, 2) := by decide +kernel
theorem dX7_copy_104 : decode cX7_copy 104 = .ok (.iload 6, 2) := by decide +kernel
theorem dX7_copy_106 : decode cX7_copy 106 = .ok (.iload 5, 2) := by decide +kernel
theorem dX7_copy_108 : decode cX7_copy 108 = .ok (.if_icmp .ge 30, 3) := by decide +kernel
theorem dX7_copy_111 : decode cX7_copy 111 = .ok (.aload_n 0, 1) := by decide +kernel
theorem dX7_copy_112 : decode cX7_copy 112 = .ok (.getfield 72, 3) := by decide +kernel
theorem dX7_copy_115 : decode cX7_copy 115 = .ok (.iload 6, 2) := by decide +kernel
theorem dX7_copy_117 : decode cX7_copy 117 = .ok (.aload_n 0, 1) := by decide +kernel
theorem dX7_copy_118 : decode cX7_copy 118 = .ok (.getfield 57, 3) := by decide +kernel
theorem dX7_copy_121 : decode cX7_copy 121 = .ok (.bipush 24, 2) := by decide +kernel
theorem dX7_copy_123 : decode cX7_copy 123 = .ok (.iload_n 1, 1) := by decide +kernel
theorem dX7_copy_124 : decode cX7_copy 124 = .ok (.imul, 1) := by decide +kernel
theorem dX7_copy_125 : decode cX7_copy 125 = .ok (.iload_n 2, 1) := by decide +kernel
theorem dX7_copy_126 : decode cX7_copy 126 = .ok (.iadd, 1) := by decide +kernel
theorem dX7_copy_127 : decode cX7_copy 127 = .ok (.iload 6, 2) := by decide +kernel
theorem dX7_copy_129 : decode cX7_copy 129 = .ok (.iadd, 1) := by decide +kernel
theorem dX7_copy_130 : decode cX7_copy 130 = .ok (.iaload, 1) := by decide +kernel
theorem dX7_copy_131 : decode cX7_copy 131 = .ok (.iastore, 1) := by decide +kernel
theorem dX7_copy_132 : decode cX7_copy 132 = .ok (.iinc 6 1, 3) := by decide +kernel
theorem dX7_copy_135 : decode cX7_copy 135 = .ok (.goto (-31), 3) := by decide +kernel
theorem dX7_copy_138 : decode cX7_copy 138 = .ok (.iconst 0, 1) := by decide +kernel
theorem dX7_copy_139 : decode cX7_copy 139 = .ok (.istore 6, 2) := by decide +kernel
theorem dX7_copy_141 : decode cX7_copy 141 = .ok (.iload 6, 2) := by decide +kernel
theorem dX7_copy_143 : decode cX7_copy 143 = .ok (.iload 5, 2) := by decide +kernel
theorem dX7_copy_145 : decode cX7_copy 145 = .ok (.if_icmp .ge 31, 3) := by decide +kernel
theorem dX7_copy_148 : decode cX7_copy 148 = .ok (.aload_n 0, 1) := by decide +kernel
theorem dX7_copy_149 : decode cX7_copy 149 = .ok (.getfield 57, 3) := by decide +kernel
theorem dX7_copy_152 : decode cX7_copy 152 = .ok (.bipush 24, 2) := by decide +kernel
theorem dX7_copy_154 : decode cX7_copy 154 = .ok (.iload_n 3, 1) := by decide +kernel
theorem dX7_copy_155 : decode cX7_copy 155 = .ok (.imul, 1) := by decide +kernel
theorem dX7_copy_156 : decode cX7_copy 156 = .ok (.iload 4, 2) := by decide +kernel
theorem dX7_copy_158 : decode cX7_copy 158 = .ok (.iadd, 1) := by decide +kernel
theorem dX7_copy_159 : decode cX7_copy 159 = .ok (.iload 6, 2) := by decide +kernel
theorem dX7_copy_161 : decode cX7_copy 161 = .ok (.iadd, 1) := by decide +kernel
theorem dX7_copy_162 : decode cX7_copy 162 = .ok (.aload_n 0, 1) := by decide +kernel
theorem dX7_copy_163 : decode cX7_copy 163 = .ok (.getfield 72, 3) := by decide +kernel
theorem dX7_copy_166 : decode cX7_copy 166 = .ok (.iload 6, 2) := by decide +kernel
theorem dX7_copy_168 : decode cX7_copy 168 = .ok (.iaload, 1) := by decide +kernel
theorem dX7_copy_169 : decode cX7_copy 169 = .ok (.iastore, 1) := by decide +kernel
theorem dX7_copy_170 : decode cX7_copy 170 = .ok (.iinc 6 1, 3) := by decide +kernel
theorem dX7_copy_173 : decode cX7_copy 173 = .ok (.goto (-32), 3) := by decide +kernel
theorem dX7_copy_176 : decode cX7_copy 176 = .ok (.iload 5, 2) := by decide +kernel
theorem dX7_copy_178 : decode cX7_copy 178 = .ok (.ireturn, 1) := by decide +kernel
theorem dX7_lay_0 : decode cX7_lay 0 = .ok (.iload_n 1, 1) := by decide +kernel
theorem dX7_lay_1 : decode cX7_lay 1 = .ok (.invokestatic 265, 3) := by decide +kernel
theorem dX7_lay_4 : decode cX7_lay 4 = .ok (.ifCond .eq 37, 3) := by decide +kernel
theorem dX7_lay_7 : decode cX7_lay 7 = .ok (.iload_n 2, 1) := by decide +kernel
theorem dX7_lay_8 : decode cX7_lay 8 = .ok (.iconst 0, 1) := by decide +kernel
theorem dX7_lay_9 : decode cX7_lay 9 = .ok (.iconst 3, 1) := by decide +kernel
theorem dX7_lay_10 : decode cX7_lay 10 = .ok (.invokestatic 78, 3) := by decide +kernel
theorem dX7_lay_13 : decode cX7_lay 13 = .ok (.ifCond .eq 28, 3) := by decide +kernel
theorem dX7_lay_16 : decode cX7_lay 16 = .ok (.iload_n 2, 1) := by decide +kernel
theorem dX7_lay_17 : decode cX7_lay 17 = .ok (.iconst 1, 1) := by decide +kernel
theorem dX7_lay_18 : decode cX7_lay 18 = .ok (.if_icmp .ne 11, 3) := by decide +kernel
theorem dX7_lay_21 : decode cX7_lay 21 = .ok (.aload_n 0, 1) := by decide +kernel
theorem dX7_lay_22 : decode cX7_lay 22 = .ok (.iload_n 3, 1) := by decide +kernel
theorem dX7_lay_23 : decode cX7_lay 23 = .ok (.invokevirtual 128, 3) := by decide +kernel
theorem dX7_lay_26 : decode cX7_lay 26 = .ok (.ifCond .eq 15, 3) := by decide +kernel
theorem dX7_lay_29 : decode cX7_lay 29 = .ok (.iload_n 2, 1) := by decide +kernel
theorem dX7_lay_30 : decode cX7_lay 30 = .ok (.iconst 2, 1) := by decide +kernel
theorem dX7_lay_31 : decode cX7_lay 31 = .ok (.if_icmp .ne 13, 3) := by decide +kernel
theorem dX7_lay_34 : decode cX7_lay 34 = .ok (.iload_n 3, 1) := by decide +kernel
theorem dX7_lay_35 : decode cX7_lay 35 = .ok (.invokestatic 185, 3) := by decide +kernel
theorem dX7_lay_38 : decode cX7_lay 38 = .ok (.ifCond .ne 6, 3) := by decide +kernel
theorem dX7_lay_41 : decode cX7_lay 41 = .ok (.ldc 90, 2) := by decide +kernel
theorem dX7_lay_43 : decode cX7_lay 43 = .ok (.ireturn, 1) := by decide +kernel
theorem dX7_lay_44 : decode cX7_lay 44 = .ok (.iload_n 2, 1) := by decide +kernel
theorem dX7_lay_45 : decode cX7_lay 45 = .ok (.iconst 2, 1) := by decide +kernel
theorem dX7_lay_46 : decode cX7_lay 46 = .ok (.if_icmp .ne 15, 3) := by decide +kernel
theorem dX7_lay_49 : decode cX7_lay 49 = .ok (.aload_n 0, 1) := by decide +kernel
theorem dX7_lay_50 : decode cX7_lay 50 = .ok (.getfield 51, 3) := by decide +kernel
theorem dX7_lay_53 : decode cX7_lay 53 = .ok (.iload_n 3, 1) := by decide +kernel
theorem dX7_lay_54 : decode cX7_lay 54 = .ok (.iaload, 1) := by decide +kernel
theorem dX7_lay_55 : decode cX7_lay 55 = .ok (.ifCond .ge 6, 3) := by decide +kernel
theorem dX7_lay_58 : decode cX7_lay 58 = .ok (.ldc 188, 2) := by decide +kernel
theorem dX7_lay_60 : decode cX7_lay 60 = .ok (.ireturn, 1) := by decide +kernel
theorem dX7_lay_61 : decode cX7_lay 61 = .ok (.aload_n 0, 1) := by decide +kernel
theorem dX7_lay_62 : decode cX7_lay 62 = .ok (.getfield 60, 3) := by decide +kernel
theorem dX7_lay_65 : decode cX7_lay 65 = .ok (.iload_n 1, 1) := by decide +kernel
theorem dX7_lay_66 : decode cX7_lay 66 = .ok (.iaload, 1) := by decide +kernel
theorem dX7_lay_67 : decode cX7_lay 67 = .ok (.istore 4, 2) := by decide +kernel
theorem dX7_lay_69 : decode cX7_lay 69 = .ok (.aload_n 0, 1) := by decide +kernel
theorem dX7_lay_70 : decode cX7_lay 70 = .ok (.getfield 60, 3) := by decide +kernel
theorem dX7_lay_73 : decode cX7_lay 73 = .ok (.iload_n 1, 1) := by decide +kernel
theorem dX7_lay_74 : decode cX7_lay 74 = .ok (.iload_n 2, 1) := by decide +kernel
theorem dX7_lay_75 : decode cX7_lay 75 = .ok (.iastore, 1) := by decide +kernel
theorem dX7_lay_76 : decode cX7_lay 76 = .ok (.aload_n 0, 1) := by decide +kernel
theorem dX7_lay_77 : decode cX7_lay 77 = .ok (.getfield 63, 3) := by decide +kernel
theorem dX7_lay_80 : decode cX7_lay 80 = .ok (.iload_n 1, 1) := by decide +kernel
theorem dX7_lay_81 : decode cX7_lay 81 = .ok (.iload_n 2, 1) := by decide +kernel
theorem dX7_lay_82 : decode cX7_lay 82 = .ok (.iconst 1, 1) := by decide +kernel
theorem dX7_lay_83 : decode cX7_lay 83 = .ok (.if_icmp .ne 11, 3) := by decide +kernel
theorem dX7_lay_86 : decode cX7_lay 86 = .ok (.aload_n 0, 1) := by decide +kernel
theorem dX7_lay_87 : decode cX7_lay 87 = .ok (.iload_n 3, 1) := by decide +kernel
theorem dX7_lay_88 : decode cX7_lay 88 = .ok (.invokevirtual 92, 3) := by decide +kernel
theorem dX7_lay_91 : decode cX7_lay 91 = .ok (.goto 18, 3) := by decide +kernel
theorem dX7_lay_94 : decode cX7_lay 94 = .ok (.iload_n 2, 1) := by decide +kernel
theorem dX7_lay_95 : decode cX7_lay 95 = .ok (.iconst 2, 1) := by decide +kernel
theorem dX7_lay_96 : decode cX7_lay 96 = .ok (.if_icmp .ne 12, 3) := by decide +kernel
theorem dX7_lay_99 : decode cX7_lay 99 = .ok (.aload_n 0, 1) := by decide +kernel
theorem dX7_lay_100 : decode cX7_lay 100 = .ok (.getfield 54, 3) := by decide +kernel
theorem dX7_lay_103 : decode cX7_lay 103 = .ok (.iload_n 3, 1) := by decide +kernel
theorem dX7_lay_104 : decode cX7_lay 104 = .ok (.iaload, 1) := by decide +kernel
theorem dX7_lay_105 : decode cX7_lay 105 = .ok (.goto 4, 3) := by decide +kernel
theorem dX7_lay_108 : decode cX7_lay 108 = .ok (.iload_n 3, 1) := by decide +kernel
theorem dX7_lay_109 : decode cX7_lay 109 = .ok (.iastore, 1) := by decide +kernel
theorem dX7_lay_110 : decode cX7_lay 110 = .ok (.aload_n 0, 1) := by decide +kernel
theorem dX7_lay_111 : decode cX7_lay 111 = .ok (.getfield 66, 3) := by decide +kernel
theorem dX7_lay_114 : decode cX7_lay 114 = .ok (.iload_n 1, 1) := by decide +kernel
theorem dX7_lay_115 : decode cX7_lay 115 = .ok (.iload_n 2, 1) := by decide +kernel
theorem dX7_lay_116 : decode cX7_lay 116 = .ok (.iconst 1, 1) := by decide +kernel
theorem dX7_lay_117 : decode cX7_lay 117 = .ok (.if_icmp .ne 11, 3) := by decide +kernel
theorem dX7_lay_120 : decode cX7_lay 120 = .ok (.aload_n 0, 1) := by decide +kernel
theorem dX7_lay_121 : decode cX7_lay 121 = .ok (.iload_n 3, 1) := by decide +kernel
theorem dX7_lay_122 : decode cX7_lay 122 = .ok (.invokevirtual 132, 3) := by decide +kernel
theorem dX7_lay_125 : decode cX7_lay 125 = .ok (.goto 4, 3) := by decide +kernel
theorem dX7_lay_128 : decode cX7_lay 128 = .ok (.iconst 0, 1) := by decide +kernel
theorem dX7_lay_129 : decode cX7_lay 129 = .ok (.iastore, 1) := by decide +kernel
theorem dX7_lay_130 : decode cX7_lay 130 = .ok (.iconst 0, 1) := by decide +kernel
theorem dX7_lay_131 : decode cX7_lay 131 = .ok (.istore 5, 2) := by decide +kernel
theorem dX7_lay_133 : decode cX7_lay 133 = .ok (.iload 5, 2) := by decide +kernel
theorem dX7_lay_135 : decode cX7_lay 135 = .ok (.bipush 24, 2) := by decide +kernel
theorem dX7_lay_137 : decode cX7_lay 137 = .ok (.if_icmp .ge 38, 3) := by decide +kernel
theorem dX7_lay_140 : decode cX7_lay 140 = .ok (.iload_n 2, 1) := by decide +kernel
theorem dX7_lay_141 : decode cX7_lay 141 = .ok (.iconst 2, 1) := by decide +kernel
theorem dX7_lay_142 : decode cX7_lay 142 = .ok (.if_icmp .ne 33, 3) := by decide +kernel
theorem dX7_lay_145 : decode cX7_lay 145 = .ok (.aload_n 0, 1) := by decide +kernel
theorem dX7_lay_146 : decode cX7_lay 146 = .ok (.getfield 69, 3) := by decide +kernel
theorem dX7_lay_149 : decode cX7_lay 149 = .ok (.bipush 24, 2) := by decide +kernel
theorem dX7_lay_151 : decode cX7_lay 151 = .ok (.iload_n 1, 1) := by decide +kernel
theorem dX7_lay_152 : decode cX7_lay 152 = .ok (.imul, 1) := by decide +kernel
theorem dX7_lay_153 : decode cX7_lay 153 = .ok (.iload 5, 2) := by decide +kernel
theorem dX7_lay_155 : decode cX7_lay 155 = .ok (.iadd, 1) := by decide +kernel
theorem dX7_lay_156 : decode cX7_lay 156 = .ok (.aload_n 0, 1) := by decide +kernel
theorem dX7_lay_157 : decode cX7_lay 157 = .ok (.getfield 57, 3) := by decide +kernel
theorem dX7_lay_160 : decode cX7_lay 160 = .ok (.bipush 24, 2) := by decide +kernel
theorem dX7_lay_162 : decode cX7_lay 162 = .ok (.iload_n 3, 1) := by decide +kernel
theorem dX7_lay_163 : decode cX7_lay 163 = .ok (.imul, 1) := by decide +kernel
theorem dX7_lay_164 : decode cX7_lay 164 = .ok (.iload 5, 2) := by decide +kernel
theorem dX7_lay_166 : decode cX7_lay 166 = .ok (.iadd, 1) := by decide +kernel
theorem dX7_lay_167 : decode cX7_lay 167 = .ok (.iaload, 1) := by decide +kernel
theorem dX7_lay_168 : decode cX7_lay 168 = .ok (.iastore, 1) := by decide +kernel
theorem dX7_lay_169 : decode cX7_lay 169 = .ok (.iinc 5 1, 3) := by decide +kernel
theorem dX7_lay_172 : decode cX7_lay 172 = .ok (.goto (-39), 3) := by decide +kernel
theorem dX7_lay_175 : decode cX7_lay 175 = .ok (.iload 4, 2) := by decide +kernel
theorem dX7_lay_177 : decode cX7_lay 177 = .ok (.ireturn, 1) := by decide +kernel
theorem dX7_ask_0 : decode cX7_ask 0 = .ok (.iload_n 1, 1) := by decide +kernel
theorem dX7_ask_1 : decode cX7_ask 1 = .ok (.invokestatic 265, 3) := by decide +kernel
theorem dX7_ask_4 : decode cX7_ask 4 = .ok (.ifCond .eq 12, 3) := by decide +kernel
theorem dX7_ask_7 : decode cX7_ask 7 = .ok (.iload_n 2, 1) := by decide +kernel
theorem dX7_ask_8 : decode cX7_ask 8 = .ok (.iconst 0, 1) := by decide +kernel
theorem dX7_ask_9 : decode cX7_ask 9 = .ok (.iconst 5, 1) := by decide +kernel
theorem dX7_ask_10 : decode cX7_ask 10 = .ok (.invokestatic 78, 3) := by decide +kernel
theorem dX7_ask_13 : decode cX7_ask 13 = .ok (.ifCond .ne 6, 3) := by decide +kernel
theorem dX7_ask_16 : decode cX7_ask 16 = .ok (.ldc 90, 2) := by decide +kernel
theorem dX7_ask_18 : decode cX7_ask 18 = .ok (.ireturn, 1) := by decide +kernel
theorem dX7_ask_19 : decode cX7_ask 19 = .ok (.aload_n 0, 1) := by decide +kernel
theorem dX7_ask_20 : decode cX7_ask 20 = .ok (.getfield 60, 3) := by decide +kernel
theorem dX7_ask_23 : decode cX7_ask 23 = .ok (.iload_n 1, 1) := by decide +kernel
theorem dX7_ask_24 : decode cX7_ask 24 = .ok (.iaload, 1) := by decide +kernel
theorem dX7_ask_25 : decode cX7_ask 25 = .ok (.ifCond .ne 6, 3) := by decide +kernel
theorem dX7_ask_28 : decode cX7_ask 28 = .ok (.ldc 188, 2) := by decide +kernel
theorem dX7_ask_30 : decode cX7_ask 30 = .ok (.ireturn, 1) := by decide +kernel
theorem dX7_ask_31 : decode cX7_ask 31 = .ok (.aload_n 0, 1) := by decide +kernel
theorem dX7_ask_32 : decode cX7_ask 32 = .ok (.getfield 60, 3) := by decide +kernel
theorem dX7_ask_35 : decode cX7_ask 35 = .ok (.iload_n 1, 1) := by decide +kernel
theorem dX7_ask_36 : decode cX7_ask 36 = .ok (.iaload, 1) := by decide +kernel
theorem dX7_ask_37 : decode cX7_ask 37 = .ok (.iconst 1, 1) := by decide +kernel
theorem dX7_ask_38 : decode cX7_ask 38 = .ok (.if_icmp .ne 25, 3) := by decide +kernel
theorem dX7_ask_41 : decode cX7_ask 41 = .ok (.aload_n 0, 1) := by decide +kernel
theorem dX7_ask_42 : decode cX7_ask 42 = .ok (.getfield 63, 3) := by decide +kernel
theorem dX7_ask_45 : decode cX7_ask 45 = .ok (.iload_n 1, 1) := by decide +kernel
theorem dX7_ask_46 : decode cX7_ask 46 = .ok (.iaload, 1) := by decide +kernel
theorem dX7_ask_47 : decode cX7_ask 47 = .ok (.iload_n 2, 1) := by decide +kernel
theorem dX7_ask_48 : decode cX7_ask 48 = .ok (.invokestatic 144, 3) := by decide +kernel
theorem dX7_ask_51 : decode cX7_ask 51 = .ok (.ifCond .eq 12, 3) := by decide +kernel
theorem dX7_ask_54 : decode cX7_ask 54 = .ok (.aload_n 0, 1) := by decide +kernel
theorem dX7_ask_55 : decode cX7_ask 55 = .ok (.getfield 66, 3) := by decide +kernel
theorem dX7_ask_58 : decode cX7_ask 58 = .ok (.iload_n 1, 1) := by decide +kernel
theorem dX7_ask_59 : decode cX7_ask 59 = .ok (.iaload, 1) := by decide +kernel
theorem dX7_ask_60 : decode cX7_ask 60 = .ok (.goto 5, 3) := by decide +kernel
theorem dX7_ask_63 : decode cX7_ask 63 = .ok (.ldc 147, 2) := by decide +kernel
theorem dX7_ask_65 : decode cX7_ask 65 = .ok (.ireturn, 1) := by decide +kernel
theorem dX7_item_0 : decode cX7_item 0 = .ok (.iload_n 1, 1) := by decide +kernel
theorem dX7_item_1 : decode cX7_item 1 = .ok (.invokestatic 265, 3) := by decide +kernel
theorem dX7_item_4 : decode cX7_item 4 = .ok (.ifCond .ne 6, 3) := by decide +kernel
theorem dX7_item_7 : decode cX7_item 7 = .ok (.ldc 90, 2) := by decide +kernel
theorem dX7_item_9 : decode cX7_item 9 = .ok (.ireturn, 1) := by decide +kernel
theorem dX7_item_10 : decode cX7_item 10 = .ok (.aload_n 0, 1) := by decide +kernel
theorem dX7_item_11 : decode cX7_item 11 = .ok (.getfield 60, 3) := by decide +kernel
theorem dX7_item_14 : decode cX7_item 14 = .ok (.iload_n 1, 1) := by decide +kernel
theorem dX7_item_15 : decode cX7_item 15 = .ok (.iaload, 1) := by decide +kernel
theorem dX7_item_16 : decode cX7_item 16 = .ok (.ifCond .ne 6, 3) := by decide +kernel
theorem dX7_item_19 : decode cX7_item 19 = .ok (.ldc 188, 2) := by decide +kernel
theorem dX7_item_21 : decode cX7_item 21 = .ok (.ireturn, 1) := by decide +kernel
theorem dX7_item_22 : decode cX7_item 22 = .ok (.aload_n 0, 1) := by decide +kernel
theorem dX7_item_23 : decode cX7_item 23 = .ok (.getfield 60, 3) := by decide +kernel
theorem dX7_item_26 : decode cX7_item 26 = .ok (.iload_n 1, 1) := by decide +kernel
theorem dX7_item_27 : decode cX7_item 27 = .ok (.iaload, 1) := by decide +kernel
theorem dX7_item_28 : decode cX7_item 28 = .ok (.iconst 2, 1) := by decide +kernel
theorem dX7_item_29 : decode cX7_item 29 = .ok (.if_icmp .eq 6, 3) := by decide +kernel
theorem dX7_item_32 : decode cX7_item 32 = .ok (.ldc 147, 2) := by decide +kernel
theorem dX7_item_34 : decode cX7_item 34 = .ok (.ireturn, 1) := by decide +kernel
theorem dX7_item_35 : decode cX7_item 35 = .ok (.iload_n 2, 1) := by decide +kernel
theorem dX7_item_36 : decode cX7_item 36 = .ok (.iconst 0, 1) := by decide +kernel
theorem dX7_item_37 : decode cX7_item 37 = .ok (.aload_n 0, 1) := by decide +kernel
theorem dX7_item_38 : decode cX7_item 38 = .ok (.getfield 63, 3) := by decide +kernel
theorem dX7_item_41 : decode cX7_item 41 = .ok (.iload_n 1, 1) := by decide +kernel
theorem dX7_item_42 : decode cX7_item 42 = .ok (.iaload, 1) := by decide +kernel
theorem dX7_item_43 : decode cX7_item 43 = .ok (.iconst 1, 1) := by decide +kernel
theorem dX7_item_44 : decode cX7_item 44 = .ok (.isub, 1) := by decide +kernel
theorem dX7_item_45 : decode cX7_item 45 = .ok (.invokestatic 78, 3) := by decide +kernel
theorem dX7_item_48 : decode cX7_item 48 = .ok (.ifCond .ne 7, 3) := by decide +kernel
theorem dX7_item_51 : decode cX7_item 51 = .ok (.ldc_w 262, 3) := by decide +kernel
theorem dX7_item_54 : decode cX7_item 54 = .ok (.ireturn, 1) := by decide +kernel
theorem dX7_item_55 : decode cX7_item 55 = .ok (.aload_n 0, 1) := by decide +kernel
theorem dX7_item_56 : decode cX7_item 56 = .ok (.getfield 69, 3) := by decide +kernel
theorem dX7_item_59 : decode cX7_item 59 = .ok (.bipush 24, 2) := by decide +kernel
theorem dX7_item_61 : decode cX7_item 61 = .ok (.iload_n 1, 1) := by decide +kernel
theorem dX7_item_62 : decode cX7_item 62 = .ok (.imul, 1) := by decide +kernel
theorem dX7_item_63 : decode cX7_item 63 = .ok (.iload_n 2, 1) := by decide +kernel
theorem dX7_item_64 : decode cX7_item 64 = .ok (.iadd, 1) := by decide +kernel
theorem dX7_item_65 : decode cX7_item 65 = .ok (.iaload, 1) := by decide +kernel
theorem dX7_item_66 : decode cX7_item 66 = .ok (.istore_n 3, 1) := by decide +kernel
theorem dX7_item_67 : decode cX7_item 67 = .ok (.iload_n 3, 1) := by decide +kernel
theorem dX7_item_68 : decode cX7_item 68 = .ok (.ldc 171, 2) := by decide +kernel
theorem dX7_item_70 : decode cX7_item 70 = .ok (.if_icmp .ne 8, 3) := by decide +kernel
theorem dX7_item_73 : decode cX7_item 73 = .ok (.ldc 147, 2) := by decide +kernel
theorem dX7_item_75 : decode cX7_item 75 = .ok (.goto 4, 3) := by decide +kernel
theorem dX7_item_78 : decode cX7_item 78 = .ok (.iload_n 3, 1) := by decide +kernel
theorem dX7_item_79 : decode cX7_item 79 = .ok (.ireturn, 1) := by decide +kernel
theorem dX7_rest_0 : decode cX7_rest 0 = .ok (.iload_n 1, 1) := by decide +kernel
theorem dX7_rest_1 : decode cX7_rest 1 = .ok (.invokestatic 265, 3) := by decide +kernel
theorem dX7_rest_4 : decode cX7_rest 4 = .ok (.ifCond .ne 6, 3) := by decide +kernel
theorem dX7_rest_7 : decode cX7_rest 7 = .ok (.ldc 90, 2) := by decide +kernel
theorem dX7_rest_9 : decode cX7_rest 9 = .ok (.ireturn, 1) := by decide +kernel
theorem dX7_rest_10 : decode cX7_rest 10 = .ok (.aload_n 0, 1) := by decide +kernel
theorem dX7_rest_11 : decode cX7_rest 11 = .ok (.getfield 60, 3) := by decide +kernel
theorem dX7_rest_14 : decode cX7_rest 14 = .ok (.iload_n 1, 1) := by decide +kernel
theorem dX7_rest_15 : decode cX7_rest 15 = .ok (.iaload, 1) := by decide +kernel
theorem dX7_rest_16 : decode cX7_rest 16 = .ok (.ifCond .ne 6, 3) := by decide +kernel
theorem dX7_rest_19 : decode cX7_rest 19 = .ok (.ldc 188, 2) := by decide +kernel
theorem dX7_rest_21 : decode cX7_rest 21 = .ok (.ireturn, 1) := by decide +kernel
theorem dX7_rest_22 : decode cX7_rest 22 = .ok (.aload_n 0, 1) := by decide +kernel
theorem dX7_rest_23 : decode cX7_rest 23 = .ok (.getfield 60, 3) := by decide +kernel
theorem dX7_rest_26 : decode cX7_rest 26 = .ok (.iload_n 1, 1) := by decide +kernel
theorem dX7_rest_27 : decode cX7_rest 27 = .ok (.iaload, 1) := by decide +kernel
theorem dX7_rest_28 : decode cX7_rest 28 = .ok (.iconst 3, 1) := by decide +kernel
theorem dX7_rest_29 : decode cX7_rest 29 = .ok (.if_icmp .eq 6, 3) := by decide +kernel
theorem dX7_rest_32 : decode cX7_rest 32 = .ok (.ldc 147, 2) := by decide +kernel
theorem dX7_rest_34 : decode cX7_rest 34 = .ok (.ireturn, 1) := by decide +kernel
theorem dX7_rest_35 : decode cX7_rest 35 = .ok (.iload_n 2, 1) := by decide +kernel
theorem dX7_rest_36 : decode cX7_rest 36 = .ok (.ifCond .ne 9, 3) := by decide +kernel
theorem dX7_rest_39 : decode cX7_rest 39 = .ok (.ldc_w 268, 3) := by decide +kernel
theorem dX7_rest_42 : decode cX7_rest 42 = .ok (.goto 20, 3) := by decide +kernel
theorem dX7_rest_45 : decode cX7_rest 45 = .ok (.iload_n 2, 1) := by decide +kernel
theorem dX7_rest_46 : decode cX7_rest 46 = .ok (.iconst (-1), 1) := by decide +kernel
theorem dX7_rest_47 : decode cX7_rest 47 = .ok (.if_icmp .ne 7, 3) := by decide +kernel
theorem dX7_rest_50 : decode cX7_rest 50 = .ok (.iconst 0, 1) := by decide +kernel
theorem dX7_rest_51 : decode cX7_rest 51 = .ok (.goto 11, 3) := by decide +kernel
theorem dX7_rest_54 : decode cX7_rest 54 = .ok (.aload_n 0, 1) := by decide +kernel
theorem dX7_rest_55 : decode cX7_rest 55 = .ok (.getfield 63, 3) := by decide +kernel
theorem dX7_rest_58 : decode cX7_rest 58 = .ok (.iload_n 1, 1) := by decide +kernel
theorem dX7_rest_59 : decode cX7_rest 59 = .ok (.iaload, 1) := by decide +kernel
theorem dX7_rest_60 : decode cX7_rest 60 = .ok (.iload_n 2, 1) := by decide +kernel
theorem dX7_rest_61 : decode cX7_rest 61 = .ok (.irem, 1) := by decide +kernel
theorem dX7_rest_62 : decode cX7_rest 62 = .ok (.ireturn, 1) := by decide +kernel
theorem dX7_tell_0 : decode cX7_tell 0 = .ok (.aload_n 0, 1) := by decide +kernel
theorem dX7_tell_1 : decode cX7_tell 1 = .ok (.getfield 269, 3) := by decide +kernel
theorem dX7_tell_4 : decode cX7_tell 4 = .ok (.bipush 60, 2) := by decide +kernel
theorem dX7_tell_6 : decode cX7_tell 6 = .ok (.if_icmp .ne 6, 3) := by decide +kernel
theorem dX7_tell_9 : decode cX7_tell 9 = .ok (.ldc 91, 2) := by decide +kernel
theorem dX7_tell_11 : decode cX7_tell 11 = .ok (.ireturn, 1) := by decide +kernel
theorem dX7_tell_12 : decode cX7_tell 12 = .ok (.aload_n 0, 1) := by decide +kernel
theorem dX7_tell_13 : decode cX7_tell 13 = .ok (.getfield 75, 3) := by decide +kernel
theorem dX7_tell_16 : decode cX7_tell 16 = .ok (.aload_n 0, 1) := by decide +kernel
theorem dX7_tell_17 : decode cX7_tell 17 = .ok (.getfield 269, 3) := by decide +kernel
theorem dX7_tell_20 : decode cX7_tell 20 = .ok (.iload_n 1, 1) := by decide +kernel
theorem dX7_tell_21 : decode cX7_tell 21 = .ok (.iastore, 1) := by decide +kernel
theorem dX7_tell_22 : decode cX7_tell 22 = .ok (.aload_n 0, 1) := by decide +kernel
theorem dX7_tell_23 : decode cX7_tell 23 = .ok (.dup, 1) := by decide +kernel
theorem dX7_tell_24 : decode cX7_tell 24 = .ok (.getfield 269, 3) := by decide +kernel
theorem dX7_tell_27 : decode cX7_tell 27 = .ok (.iconst 1, 1) := by decide +kernel
theorem dX7_tell_28 : decode cX7_tell 28 = .ok (.iadd, 1) := by decide +kernel
theorem dX7_tell_29 : decode cX7_tell 29 = .ok (.putfield 269, 3) := by decide +kernel
theorem dX7_tell_32 : decode cX7_tell 32 = .ok (.aload_n 0, 1) := by decide +kernel
theorem dX7_tell_33 : decode cX7_tell 33 = .ok (.getfield 269, 3) := by decide +kernel
theorem dX7_tell_36 : decode cX7_tell 36 = .ok (.ireturn, 1) := by decide +kernel
theorem dX7_check_0 : decode cX7_check 0 = .ok (.aload_n 0, 1) := by decide +kernel
theorem dX7_check_1 : decode cX7_check 1 = .ok (.getfield 269, 3) := by decide +kernel
theorem dX7_check_4 : decode cX7_check 4 = .ok (.istore_n 3, 1) := by decide +kernel
theorem dX7_check_5 : decode cX7_check 5 = .ok (.aload_n 0, 1) := by decide +kernel
theorem dX7_check_6 : decode cX7_check 6 = .ok (.iconst 0, 1) := by decide +kernel
theorem dX7_check_7 : decode cX7_check 7 = .ok (.putfield 269, 3) := by decide +kernel
theorem dX7_check_10 : decode cX7_check 10 = .ok (.iload_n 2, 1) := by decide +kernel
theorem dX7_check_11 : decode cX7_check 11 = .ok (.iconst 1, 1) := by decide +kernel
theorem dX7_check_12 : decode cX7_check 12 = .ok (.bipush 30, 2) := by decide +kernel
theorem dX7_check_14 : decode cX7_check 14 = .ok (.invokestatic 78, 3) := by decide +kernel
theorem dX7_check_17 : decode cX7_check 17 = .ok (.ifCond .ne 6, 3) := by decide +kernel
theorem dX7_check_20 : decode cX7_check 20 = .ok (.ldc 90, 2) := by decide +kernel
theorem dX7_check_22 : decode cX7_check 22 = .ok (.ireturn, 1) := by decide +kernel
theorem dX7_check_23 : decode cX7_check 23 = .ok (.aload_n 0, 1) := by decide +kernel
theorem dX7_check_24 : decode cX7_check 24 = .ok (.getfield 272, 3) := by decide +kernel
theorem dX7_check_27 : decode cX7_check 27 = .ok (.ifCond .ne 7, 3) := by decide +kernel
theorem dX7_check_30 : decode cX7_check 30 = .ok (.ldc_w 268, 3) := by decide +kernel
theorem dX7_check_33 : decode cX7_check 33 = .ok (.ireturn, 1) := by decide +kernel
theorem dX7_check_34 : decode cX7_check 34 = .ok (.iload_n 1, 1) := by decide +kernel
theorem dX7_check_35 : decode cX7_check 35 = .ok (.iconst 0, 1) := by decide +kernel
theorem dX7_check_36 : decode cX7_check 36 = .ok (.aload_n 0, 1) := by decide +kernel
theorem dX7_check_37 : decode cX7_check 37 = .ok (.getfield 13, 3) := by decide +kernel
theorem dX7_check_40 : decode cX7_check 40 = .ok (.iconst 1, 1) := by decide +kernel
theorem dX7_check_41 : decode cX7_check 41 = .ok (.iaload, 1) := by decide +kernel
theorem dX7_check_42 : decode cX7_check 42 = .ok (.iconst 1, 1) := by decide +kernel
theorem dX7_check_43 : decode cX7_check 43 = .ok (.isub, 1) := by decide +kernel
theorem dX7_check_44 : decode cX7_check 44 = .ok (.invokestatic 78, 3) := by decide +kernel
theorem dX7_check_47 : decode cX7_check 47 = .ok (.ifCond .ne 6, 3) := by decide +kernel
theorem dX7_check_50 : decode cX7_check 50 = .ok (.ldc 90, 2) := by decide +kernel
theorem dX7_check_52 : decode cX7_check 52 = .ok (.ireturn, 1) := by decide +kernel
theorem dX7_check_53 : decode cX7_check 53 = .ok (.aload_n 0, 1) := by decide +kernel
theorem dX7_check_54 : decode cX7_check 54 = .ok (.getfield 9, 3) := by decide +kernel
theorem dX7_check_57 : decode cX7_check 57 = .ok (.aload_n 0, 1) := by decide +kernel
theorem dX7_check_58 : decode cX7_check 58 = .ok (.getfield 16, 3) := by decide +kernel
theorem dX7_check_61 : decode cX7_check 61 = .ok (.invokestatic 276, 3) := by decide +kernel
theorem dX7_check_64 : decode cX7_check 64 = .ok (.aload_n 0, 1) := by decide +kernel
theorem dX7_check_65 : decode cX7_check 65 = .ok (.getfield 13, 3) := by decide +kernel
theorem dX7_check_68 : decode cX7_check 68 = .ok (.aload_n 0, 1) := by decide +kernel
theorem dX7_check_69 : decode cX7_check 69 = .ok (.getfield 9, 3) := by decide +kernel
theorem dX7_check_72 : decode cX7_check 72 = .ok (.invokestatic 276, 3) := by decide +kernel
theorem dX7_check_75 : decode cX7_check 75 = .ok (.iconst 0, 1) := by decide +kernel
theorem dX7_check_76 : decode cX7_check 76 = .ok (.istore 4, 2) := by decide +kernel
theorem dX7_check_78 : decode cX7_check 78 = .ok (.iconst 0, 1) := by decide +kernel
theorem dX7_check_79 : decode cX7_check 79 = .ok (.istore 5, 2) := by decide +kernel
theorem dX7_check_81 : decode cX7_check 81 = .ok (.iload 5, 2) := by decide +kernel
theorem dX7_check_83 : decode cX7_check 83 = .ok (.iload_n 2, 1) := by decide +kernel
theorem dX7_check_84 : decode cX7_check 84 = .ok (.if_icmp .ge 95, 3) := by decide +kernel
theorem dX7_check_87 : decode cX7_check 87 = .ok (.iload 4, 2) := by decide +kernel
theorem dX7_check_89 : decode cX7_check 89 = .ok (.iconst 2, 1) := by decide +kernel
theorem dX7_check_90 : decode cX7_check 90 = .ok (.iload 5, 2) := by decide +kernel
theorem dX7_check_92 : decode cX7_check 92 = .ok (.imul, 1) := by decide +kernel
theorem dX7_check_93 : decode cX7_check 93 = .ok (.if_icmp .ne 86, 3) := by decide +kernel
theorem dX7_check_96 : decode cX7_check 96 = .ok (.aload_n 0, 1) := by decide +kernel
theorem dX7_check_97 : decode cX7_check 97 = .ok (.iload_n 1, 1) := by decide +kernel
theorem dX7_check_98 : decode cX7_check 98 = .ok (.invokevirtual 165, 3) := by decide +kernel
theorem dX7_check_101 : decode cX7_check 101 = .ok (.istore 6, 2) := by decide +kernel
theorem dX7_check_103 : decode cX7_check 103 = .ok (.iload 4, 2) := by decide +kernel
theorem dX7_check_105 : decode cX7_check 105 = .ok (.iload 4, 2) := by decide +kernel
theorem dX7_check_107 : decode cX7_check 107 = .ok (.iload_n 3, 1) := by decide +kernel
theorem dX7_check_108 : decode cX7_check 108 = .ok (.if_icmp .ge 19, 3) := by decide +kernel
theorem dX7_check_111 : decode cX7_check 111 = .ok (.aload_n 0, 1) := by decide +kernel
theorem dX7_check_112 : decode cX7_check 112 = .ok (.getfield 75, 3) := by decide +kernel
theorem dX7_check_115 : decode cX7_check 115 = .ok (.iload 4, 2) := by decide +kernel
theorem dX7_check_117 : decode cX7_check 117 = .ok (.iaload, 1) := by decide +kernel
theorem dX7_check_118 : decode cX7_check 118 = .ok (.iload 6, 2) := by decide +kernel
theorem dX7_check_120 : decode cX7_check 120 = .ok (.if_icmp .ne 7, 3) := by decide +kernel
theorem dX7_check_123 : decode cX7_check 123 = .ok (.iconst 1, 1) := by decide +kernel
theorem dX7_check_124 : decode cX7_check 124 = .ok (.goto 4, 3) := by decide +kernel
theorem dX7_check_127 : decode cX7_check 127 = .ok (.iconst 0, 1) := by decide +kernel
theorem dX7_check_128 : decode cX7_check 128 = .ok (.iadd, 1) := by decide +kernel
theorem dX7_check_129 : decode cX7_check 129 = .ok (.istore 4, 2) := by decide +kernel
theorem dX7_check_131 : decode cX7_check 131 = .ok (.iload 4, 2) := by decide +kernel
theorem dX7_check_133 : decode cX7_check 133 = .ok (.iload 4, 2) := by decide +kernel
theorem dX7_check_135 : decode cX7_check 135 = .ok (.iconst 2, 1) := by decide +kernel
theorem dX7_check_136 : decode cX7_check 136 = .ok (.iload 5, 2) := by decide +kernel
theorem dX7_check_138 : decode cX7_check 138 = .ok (.imul, 1) := by decide +kernel
theorem dX7_check_139 : decode cX7_check 139 = .ok (.iconst 1, 1) := by decide +kernel
theorem dX7_check_140 : decode cX7_check 140 = .ok (.iadd, 1) := by decide +kernel
theorem dX7_check_141 : decode cX7_check 141 = .ok (.if_icmp .ne 28, 3) := by decide +kernel
theorem dX7_check_144 : decode cX7_check 144 = .ok (.iload 4, 2) := by decide +kernel
theorem dX7_check_146 : decode cX7_check 146 = .ok (.iload_n 3, 1) := by decide +kernel
theorem dX7_check_147 : decode cX7_check 147 = .ok (.if_icmp .ge 22, 3) := by decide +kernel
theorem dX7_check_150 : decode cX7_check 150 = .ok (.aload_n 0, 1) := by decide +kernel
theorem dX7_check_151 : decode cX7_check 151 = .ok (.getfield 75, 3) := by decide +kernel
theorem dX7_check_154 : decode cX7_check 154 = .ok (.iload 4, 2) := by decide +kernel
theorem dX7_check_156 : decode cX7_check 156 = .ok (.iaload, 1) := by decide +kernel
theorem dX7_check_157 : decode cX7_check 157 = .ok (.aload_n 0, 1) := by decide +kernel
theorem dX7_check_158 : decode cX7_check 158 = .ok (.iload_n 1, 1) := by decide +kernel
theorem dX7_check_159 : decode cX7_check 159 = .ok (.invokevirtual 119, 3) := by decide +kernel
theorem dX7_check_162 : decode cX7_check 162 = .ok (.if_icmp .ne 7, 3) := by decide +kernel
theorem dX7_check_165 : decode cX7_check 165 = .ok (.iconst 1, 1) := by decide +kernel
theorem dX7_check_166 : decode cX7_check 166 = .ok (.goto 4, 3) := by decide +kernel
theorem dX7_check_169 : decode cX7_check 169 = .ok (.iconst 0, 1) := by decide +kernel
theorem dX7_check_170 : decode cX7_check 170 = .ok (.iadd, 1) := by decide +kernel
theorem dX7_check_171 : decode cX7_check 171 = .ok (.istore 4, 2) := by decide +kernel
theorem dX7_check_173 : decode cX7_check 173 = .ok (.iinc 5 1, 3) := by decide +kernel
theorem dX7_check_176 : decode cX7_check 176 = .ok (.goto (-95), 3) := by decide +kernel
theorem dX7_check_179 : decode cX7_check 179 = .ok (.aload_n 0, 1) := by decide +kernel
theorem dX7_check_180 : decode cX7_check 180 = .ok (.getfield 16, 3) := by decide +kernel
theorem dX7_check_183 : decode cX7_check 183 = .ok (.aload_n 0, 1) := by decide +kernel
theorem dX7_check_184 : decode cX7_check 184 = .ok (.getfield 9, 3) := by decide +kernel
theorem dX7_check_187 : decode cX7_check 187 = .ok (.invokestatic 276, 3) := by decide +kernel
theorem dX7_check_190 : decode cX7_check 190 = .ok (.iload 4, 2) := by decide +kernel
theorem dX7_check_192 : decode cX7_check 192 = .ok (.iload_n 3, 1) := by decide +kernel
theorem dX7_check_193 : decode cX7_check 193 = .ok (.if_icmp .ne 15, 3) := by decide +kernel
theorem dX7_check_196 : decode cX7_check 196 = .ok (.iload 4, 2) := by decide +kernel
theorem dX7_check_198 : decode cX7_check 198 = .ok (.iconst 2, 1) := by decide +kernel
theorem dX7_check_199 : decode cX7_check 199 = .ok (.iload_n 2, 1) := by decide +kernel
theorem dX7_check_200 : decode cX7_check 200 = .ok (.imul, 1) := by decide +kernel
theorem dX7_check_201 : decode cX7_check 201 = .ok (.if_icmp .ne 7, 3) := by decide +kernel
theorem dX7_check_204 : decode cX7_check 204 = .ok (.iconst 0, 1) := by decide +kernel
theorem dX7_check_205 : decode cX7_check 205 = .ok (.goto 7, 3) := by decide +kernel
theorem dX7_check_208 : decode cX7_check 208 = .ok (.iconst 1, 1) := by decide +kernel
theorem dX7_check_209 : decode cX7_check 209 = .ok (.iload 4, 2) := by decide +kernel
theorem dX7_check_211 : decode cX7_check 211 = .ok (.iadd, 1) := by decide +kernel
theorem dX7_check_212 : decode cX7_check 212 = .ok (.ireturn, 1) := by decide +kernel
theorem dX7_keep_0 : decode cX7_keep 0 = .ok (.aload_n 0, 1) := by decide +kernel
theorem dX7_keep_1 : decode cX7_keep 1 = .ok (.getfield 9, 3) := by decide +kernel
theorem dX7_keep_4 : decode cX7_keep 4 = .ok (.aload_n 0, 1) := by decide +kernel
theorem dX7_keep_5 : decode cX7_keep 5 = .ok (.getfield 13, 3) := by decide +kernel
theorem dX7_keep_8 : decode cX7_keep 8 = .ok (.invokestatic 276, 3) := by decide +kernel
theorem dX7_keep_11 : decode cX7_keep 11 = .ok (.aload_n 0, 1) := by decide +kernel
theorem dX7_keep_12 : decode cX7_keep 12 = .ok (.iconst 1, 1) := by decide +kernel
theorem dX7_keep_13 : decode cX7_keep 13 = .ok (.putfield 272, 3) := by decide +kernel
theorem dX7_keep_16 : decode cX7_keep 16 = .ok (.aload_n 0, 1) := by decide +kernel
theorem dX7_keep_17 : decode cX7_keep 17 = .ok (.getfield 9, 3) := by decide +kernel
theorem dX7_keep_20 : decode cX7_keep 20 = .ok (.iconst 1, 1) := by decide +kernel
theorem dX7_keep_21 : decode cX7_keep 21 = .ok (.iaload, 1) := by decide +kernel
theorem dX7_keep_22 : decode cX7_keep 22 = .ok (.ireturn, 1) := by decide +kernel
theorem dX7_back_0 : decode cX7_back 0 = .ok (.aload_n 0, 1) := by decide +kernel
theorem dX7_back_1 : decode cX7_back 1 = .ok (.getfield 272, 3) := by decide +kernel
theorem dX7_back_4 : decode cX7_back 4 = .ok (.ifCond .ne 7, 3) := by decide +kernel
theorem dX7_back_7 : decode cX7_back 7 = .ok (.ldc_w 268, 3) := by decide +kernel
theorem dX7_back_10 : decode cX7_back 10 = .ok (.ireturn, 1) := by decide +kernel
theorem dX7_back_11 : decode cX7_back 11 = .ok (.aload_n 0, 1) := by decide +kernel
theorem dX7_back_12 : decode cX7_back 12 = .ok (.getfield 13, 3) := by decide +kernel
theorem dX7_back_15 : decode cX7_back 15 = .ok (.aload_n 0, 1) := by decide +kernel
theorem dX7_back_16 : decode cX7_back 16 = .ok (.getfield 9, 3) := by decide +kernel
theorem dX7_back_19 : decode cX7_back 19 = .ok (.invokestatic 276, 3) := by decide +kernel
theorem dX7_back_22 : decode cX7_back 22 = .ok (.aload_n 0, 1) := by decide +kernel
theorem dX7_back_23 : decode cX7_back 23 = .ok (.getfield 9, 3) := by decide +kernel
theorem dX7_back_26 : decode cX7_back 26 = .ok (.iconst 1, 1) := by decide +kernel
theorem dX7_back_27 : decode cX7_back 27 = .ok (.iaload, 1) := by decide +kernel
theorem dX7_back_28 : decode cX7_back 28 = .ok (.ireturn, 1) := by decide +kernel
theorem dX7_count_0 : decode cX7_count 0 = .ok (.iload_n 1, 1) := by decide +kernel
theorem dX7_count_1 : decode cX7_count 1 = .ok (.tableswitch 94 0 8 #[51, 58, 58, 58, 58, 69, 77, 82, 87], 51) := by decide +kernel
theorem dX7_count_52 : decode cX7_count 52 = .ok (.aload_n 0, 1) := by decide +kernel
theorem dX7_count_53 : decode cX7_count 53 = .ok (.getfield 9, 3) := by decide +kernel
theorem dX7_count_56 : decode cX7_count 56 = .ok (.iconst 1, 1) := by decide +kernel
theorem dX7_count_57 : decode cX7_count 57 = .ok (.iaload, 1) := by decide +kernel
theorem dX7_count_58 : decode cX7_count 58 = .ok (.ireturn, 1) := by decide +kernel
theorem dX7_count_59 : decode cX7_count 59 = .ok (.aload_n 0, 1) := by decide +kernel
theorem dX7_count_60 : decode cX7_count 60 = .ok (.getfield 9, 3) := by decide +kernel
theorem dX7_count_63 : decode cX7_count 63 = .ok (.iconst 2, 1) := by decide +kernel
theorem dX7_count_64 : decode cX7_count 64 = .ok (.iload_n 1, 1) := by decide +kernel
theorem dX7_count_65 : decode cX7_count 65 = .ok (.iadd, 1) := by decide +kernel
theorem dX7_count_66 : decode cX7_count 66 = .ok (.iconst 1, 1) := by decide +kernel
theorem dX7_count_67 : decode cX7_count 67 = .ok (.isub, 1) := by decide +kernel
theorem dX7_count_68 : decode cX7_count 68 = .ok (.iaload, 1) := by decide +kernel
theorem dX7_count_69 : decode cX7_count 69 = .ok (.ireturn, 1) := by decide +kernel
theorem dX7_count_70 : decode cX7_count 70 = .ok (.aload_n 0, 1) := by decide +kernel
theorem dX7_count_71 : decode cX7_count 71 = .ok (.getfield 9, 3) := by decide +kernel
theorem dX7_count_74 : decode cX7_count 74 = .ok (.bipush 6, 2) := by decide +kernel
theorem dX7_count_76 : decode cX7_count 76 = .ok (.iaload, 1) := by decide +kernel
theorem dX7_count_77 : decode cX7_count 77 = .ok (.ireturn, 1) := by decide +kernel
theorem dX7_count_78 : decode cX7_count 78 = .ok (.aload_n 0, 1) := by decide +kernel
theorem dX7_count_79 : decode cX7_count 79 = .ok (.getfield 269, 3) := by decide +kernel
theorem dX7_count_82 : decode cX7_count 82 = .ok (.ireturn, 1) := by decide +kernel
theorem dX7_count_83 : decode cX7_count 83 = .ok (.aload_n 0, 1) := by decide +kernel
theorem dX7_count_84 : decode cX7_count 84 = .ok (.getfield 193, 3) := by decide +kernel
theorem dX7_count_87 : decode cX7_count 87 = .ok (.ireturn, 1) := by decide +kernel
theorem dX7_count_88 : decode cX7_count 88 = .ok (.aload_n 0, 1) := by decide +kernel
theorem dX7_count_89 : decode cX7_count 89 = .ok (.getfield 9, 3) := by decide +kernel
theorem dX7_count_92 : decode cX7_count 92 = .ok (.iconst 0, 1) := by decide +kernel
theorem dX7_count_93 : decode cX7_count 93 = .ok (.iaload, 1) := by decide +kernel
theorem dX7_count_94 : decode cX7_count 94 = .ok (.ireturn, 1) := by decide +kernel
theorem dX7_count_95 : decode cX7_count 95 = .ok (.ldc 90, 2) := by decide +kernel
theorem dX7_count_97 : decode cX7_count 97 = .ok (.ireturn, 1) := by decide +kernel

theorem dX9_init_0 : decode cX9_init 0 = .ok (.aload_n 0, 1) := by decide +kernel
theorem dX9_init_1 : decode cX9_init 1 = .ok (.invokespecial 1, 3) := by decide +kernel
theorem dX9_init_4 : decode cX9_init 4 = .ok (.aload_n 0, 1) := by decide +kernel
theorem dX9_init_5 : decode cX9_init 5 = .ok (.sipush 1444, 3) := by decide +kernel
theorem dX9_init_8 : decode cX9_init 8 = .ok (.newarray .int, 2) := by decide +kernel
theorem dX9_init_10 : decode cX9_init 10 = .ok (.putfield 9, 3) := by decide +kernel
theorem dX9_init_13 : decode cX9_init 13 = .ok (.aload_n 0, 1) := by decide +kernel
theorem dX9_init_14 : decode cX9_init 14 = .ok (.sipush 1444, 3) := by decide +kernel
theorem dX9_init_17 : decode cX9_init 17 = .ok (.newarray .int, 2) := by decide +kernel
theorem dX9_init_19 : decode cX9_init 19 = .ok (.putfield 13, 3) := by decide +kernel
theorem dX9_init_22 : decode cX9_init 22 = .ok (.aload_n 0, 1) := by decide +kernel
theorem dX9_init_23 : decode cX9_init 23 = .ok (.sipush 1444, 3) := by decide +kernel
theorem dX9_init_26 : decode cX9_init 26 = .ok (.newarray .int, 2) := by decide +kernel
theorem dX9_init_28 : decode cX9_init 28 = .ok (.putfield 16, 3) := by decide +kernel
theorem dX9_init_31 : decode cX9_init 31 = .ok (.aload_n 0, 1) := by decide +kernel
theorem dX9_init_32 : decode cX9_init 32 = .ok (.sipush 4096, 3) := by decide +kernel
theorem dX9_init_35 : decode cX9_init 35 = .ok (.newarray .int, 2) := by decide +kernel
theorem dX9_init_37 : decode cX9_init 37 = .ok (.putfield 19, 3) := by decide +kernel
theorem dX9_init_40 : decode cX9_init 40 = .ok (.aload_n 0, 1) := by decide +kernel
theorem dX9_init_41 : decode cX9_init 41 = .ok (.bipush 72, 2) := by decide +kernel
theorem dX9_init_43 : decode cX9_init 43 = .ok (.newarray .int, 2) := by decide +kernel
theorem dX9_init_45 : decode cX9_init 45 = .ok (.putfield 22, 3) := by decide +kernel
theorem dX9_init_48 : decode cX9_init 48 = .ok (.aload_n 0, 1) := by decide +kernel
theorem dX9_init_49 : decode cX9_init 49 = .ok (.bipush 96, 2) := by decide +kernel
theorem dX9_init_51 : decode cX9_init 51 = .ok (.newarray .int, 2) := by decide +kernel
theorem dX9_init_53 : decode cX9_init 53 = .ok (.putfield 25, 3) := by decide +kernel
theorem dX9_init_56 : decode cX9_init 56 = .ok (.aload_n 0, 1) := by decide +kernel
theorem dX9_init_57 : decode cX9_init 57 = .ok (.bipush 11, 2) := by decide +kernel
theorem dX9_init_59 : decode cX9_init 59 = .ok (.newarray .char, 2) := by decide +kernel
theorem dX9_init_61 : decode cX9_init 61 = .ok (.dup, 1) := by decide +kernel
theorem dX9_init_62 : decode cX9_init 62 = .ok (.iconst 0, 1) := by decide +kernel
theorem dX9_init_63 : decode cX9_init 63 = .ok (.bipush 102, 2) := by decide +kernel
theorem dX9_init_65 : decode cX9_init 65 = .ok (.castore, 1) := by decide +kernel
theorem dX9_init_66 : decode cX9_init 66 = .ok (.dup, 1) := by decide +kernel
theorem dX9_init_67 : decode cX9_init 67 = .ok (.iconst 1, 1) := by decide +kernel
theorem dX9_init_68 : decode cX9_init 68 = .ok (.bipush 97, 2) := by decide +kernel
theorem dX9_init_70 : decode cX9_init 70 = .ok (.castore, 1) := by decide +kernel
theorem dX9_init_71 : decode cX9_init 71 = .ok (.dup, 1) := by decide +kernel
theorem dX9_init_72 : decode cX9_init 72 = .ok (.iconst 2, 1) := by decide +kernel
theorem dX9_init_73 : decode cX9_init 73 = .ok (.bipush 114, 2) := by decide +kernel
theorem dX9_init_75 : decode cX9_init 75 = .ok (.castore, 1) := by decide +kernel
theorem dX9_init_76 : decode cX9_init 76 = .ok (.dup, 1) := by decide +kernel
theorem dX9_init_77 : decode cX9_init 77 = .ok (.iconst 3, 1) := by decide +kernel
theorem dX9_init_78 : decode cX9_init 78 = .ok (.bipush 101, 2) := by decide +kernel
theorem dX9_init_80 : decode cX9_init 80 = .ok (.castore, 1) := by decide +kernel
theorem dX9_init_81 : decode cX9_init 81 = .ok (.dup, 1) := by decide +kernel
theorem dX9_init_82 : decode cX9_init 82 = .ok (.iconst 4, 1) := by decide +kernel
theorem dX9_init_83 : decode cX9_init 83 = .ok (.bipush 102, 2) := by decide +kernel
theorem dX9_init_85 : decode cX9_init 85 = .ok (.castore, 1) := by decide +kernel
theorem dX9_init_86 : decode cX9_init 86 = .ok (.dup, 1) := by decide +kernel
theorem dX9_init_87 : decode cX9_init 87 = .ok (.iconst 5, 1) := by decide +kernel
theorem dX9_init_88 : decode cX9_init 88 = .ok (.bipush 101, 2) := by decide +kernel
theorem dX9_init_90 : decode cX9_init 90 = .ok (.castore, 1) := by decide +kernel
theorem dX9_init_91 : decode cX9_init 91 = .ok (.dup, 1) := by decide +kernel
theorem dX9_init_92 : decode cX9_init 92 = .ok (.bipush 6, 2) := by decide +kernel
theorem dX9_init_94 : decode cX9_init 94 = .ok (.bipush 101, 2) := by decide +kernel
theorem dX9_init_96 : decode cX9_init 96 = .ok (.castore, 1) := by decide +kernel
theorem dX9_init_97 : decode cX9_init 97 = .ok (.dup, 1) := by decide +kernel
theorem dX9_init_98 : decode cX9_init 98 = .ok (.bipush 7, 2) := by decide +kernel
theorem dX9_init_100 : decode cX9_init 100 = .ok (.bipush 102, 2) := by decide +kernel
theorem dX9_init_102 : decode cX9_init 102 = .ok (.castore, 1) := by decide +kernel
theorem dX9_init_103 : decode cX9_init 103 = .ok (.dup, 1) := by decide +kernel
theorem dX9_init_104 : decode cX9_init 104 = .ok (.bipush 8, 2) := by decide +kernel
theorem dX9_init_106 : decode cX9_init 106 = .ok (.bipush 105, 2) := by decide +kernel
theorem dX9_init_108 : decode cX9_init 108 = .ok (.castore, 1) := by decide +kernel
theorem dX9_init_109 : decode cX9_init 109 = .ok (.dup, 1) := by decide +kernel
theorem dX9_init_110 : decode cX9_init 110 = .ok (.bipush 9, 2) := by decide +kernel
theorem dX9_init_112 : decode cX9_init 112 = .ok (.bipush 110, 2) := by decide +kernel
theorem dX9_init_114 : decode cX9_init 114 = .ok (.castore, 1) := by decide +kernel
theorem dX9_init_115 : decode cX9_init 115 = .ok (.dup, 1) := by decide +kernel
theorem dX9_init_116 : decode cX9_init 116 = .ok (.bipush 10, 2) := by decide +kernel
theorem dX9_init_118 : decode cX9_init 118 = .ok (.bipush 101, 2) := by decide +kernel
theorem dX9_init_120 : decode cX9_init 120 = .ok (.castore, 1) := by decide +kernel
theorem dX9_init_121 : decode cX9_init 121 = .ok (.putfield 28, 3) := by decide +kernel
theorem dX9_init_124 : decode cX9_init 124 = .ok (.aload_n 0, 1) := by decide +kernel
theorem dX9_init_125 : decode cX9_init 125 = .ok (.iconst 4, 1) := by decide +kernel
theorem dX9_init_126 : decode cX9_init 126 = .ok (.newarray .int, 2) := by decide +kernel
theorem dX9_init_128 : decode cX9_init 128 = .ok (.dup, 1) := by decide +kernel
theorem dX9_init_129 : decode cX9_init 129 = .ok (.iconst 0, 1) := by decide +kernel
theorem dX9_init_130 : decode cX9_init 130 = .ok (.iconst 0, 1) := by decide +kernel
theorem dX9_init_131 : decode cX9_init 131 = .ok (.iastore, 1) := by decide +kernel
theorem dX9_init_132 : decode cX9_init 132 = .ok (.dup, 1) := by decide +kernel
theorem dX9_init_133 : decode cX9_init 133 = .ok (.iconst 1, 1) := by decide +kernel
theorem dX9_init_134 : decode cX9_init 134 = .ok (.iconst 4, 1) := by decide +kernel
theorem dX9_init_135 : decode cX9_init 135 = .ok (.iastore, 1) := by decide +kernel
theorem dX9_init_136 : decode cX9_init 136 = .ok (.dup, 1) := by decide +kernel
theorem dX9_init_137 : decode cX9_init 137 = .ok (.iconst 2, 1) := by decide +kernel
theorem dX9_init_138 : decode cX9_init 138 = .ok (.bipush 7, 2) := by decide +kernel
theorem dX9_init_140 : decode cX9_init 140 = .ok (.iastore, 1) := by decide +kernel
theorem dX9_init_141 : decode cX9_init 141 = .ok (.dup, 1) := by decide +kernel
theorem dX9_init_142 : decode cX9_init 142 = .ok (.iconst 3, 1) := by decide +kernel
theorem dX9_init_143 : decode cX9_init 143 = .ok (.bipush 11, 2) := by decide +kernel
theorem dX9_init_145 : decode cX9_init 145 = .ok (.iastore, 1) := by decide +kernel
theorem dX9_init_146 : decode cX9_init 146 = .ok (.putfield 32, 3) := by decide +kernel
theorem dX9_init_149 : decode cX9_init 149 = .ok (.aload_n 0, 1) := by decide +kernel
theorem dX9_init_150 : decode cX9_init 150 = .ok (.bipush 96, 2) := by decide +kernel
theorem dX9_init_152 : decode cX9_init 152 = .ok (.newarray .int, 2) := by decide +kernel
theorem dX9_init_154 : decode cX9_init 154 = .ok (.putfield 35, 3) := by decide +kernel
theorem dX9_init_157 : decode cX9_init 157 = .ok (.aload_n 0, 1) := by decide +kernel
theorem dX9_init_158 : decode cX9_init 158 = .ok (.bipush 96, 2) := by decide +kernel
theorem dX9_init_160 : decode cX9_init 160 = .ok (.newarray .int, 2) := by decide +kernel
theorem dX9_init_162 : decode cX9_init 162 = .ok (.putfield 38, 3) := by decide +kernel
theorem dX9_init_165 : decode cX9_init 165 = .ok (.aload_n 0, 1) := by decide +kernel
theorem dX9_init_166 : decode cX9_init 166 = .ok (.bipush 10, 2) := by decide +kernel
theorem dX9_init_168 : decode cX9_init 168 = .ok (.newarray .boolean, 2) := by decide +kernel
theorem dX9_init_170 : decode cX9_init 170 = .ok (.putfield 41, 3) := by decide +kernel
theorem dX9_init_173 : decode cX9_init 173 = .ok (.aload_n 0, 1) := by decide +kernel
theorem dX9_init_174 : decode cX9_init 174 = .ok (.bipush 96, 2) := by decide +kernel
theorem dX9_init_176 : decode cX9_init 176 = .ok (.newarray .int, 2) := by decide +kernel
theorem dX9_init_178 : decode cX9_init 178 = .ok (.putfield 45, 3) := by decide +kernel
theorem dX9_init_181 : decode cX9_init 181 = .ok (.aload_n 0, 1) := by decide +kernel
theorem dX9_init_182 : decode cX9_init 182 = .ok (.iconst 4, 1) := by decide +kernel
theorem dX9_init_183 : decode cX9_init 183 = .ok (.newarray .int, 2) := by decide +kernel
theorem dX9_init_185 : decode cX9_init 185 = .ok (.putfield 48, 3) := by decide +kernel
theorem dX9_init_188 : decode cX9_init 188 = .ok (.aload_n 0, 1) := by decide +kernel
theorem dX9_init_189 : decode cX9_init 189 = .ok (.iconst 4, 1) := by decide +kernel
theorem dX9_init_190 : decode cX9_init 190 = .ok (.newarray .int, 2) := by decide +kernel
theorem dX9_init_192 : decode cX9_init 192 = .ok (.dup, 1) := by decide +kernel
theorem dX9_init_193 : decode cX9_init 193 = .ok (.iconst 0, 1) := by decide +kernel
theorem dX9_init_194 : decode cX9_init 194 = .ok (.iconst (-1), 1) := by decide +kernel
theorem dX9_init_195 : decode cX9_init 195 = .ok (.iastore, 1) := by decide +kernel
theorem dX9_init_196 : decode cX9_init 196 = .ok (.dup, 1) := by decide +kernel
theorem dX9_init_197 : decode cX9_init 197 = .ok (.iconst 1, 1) := by decide +kernel
theorem dX9_init_198 : decode cX9_init 198 = .ok (.iconst (-1), 1) := by decide +kernel
theorem dX9_init_199 : decode cX9_init 199 = .ok (.iastore, 1) := by decide +kernel
theorem dX9_init_200 : decode cX9_init 200 = .ok (.dup, 1) := by decide +kernel
theorem dX9_init_201 : decode cX9_init 201 = .ok (.iconst 2, 1) := by decide +kernel
theorem dX9_init_202 : decode cX9_init 202 = .ok (.iconst (-1), 1) := by decide +kernel
theorem dX9_init_203 : decode cX9_init 203 = .ok (.iastore, 1) := by decide +kernel
theorem dX9_init_204 : decode cX9_init 204 = .ok (.dup, 1) := by decide +kernel
theorem dX9_init_205 : decode cX9_init 205 = .ok (.iconst 3, 1) := by decide +kernel
theorem dX9_init_206 : decode cX9_init 206 = .ok (.iconst (-1), 1) := by decide +kernel
theorem dX9_init_207 : decode cX9_init 207 = .ok (.iastore, 1) := by decide +kernel
theorem dX9_init_208 : decode cX9_init 208 = .ok (.putfield 51, 3) := by decide +kernel
theorem dX9_init_211 : decode cX9_init 211 = .ok (.aload_n 0, 1) := by decide +kernel
theorem dX9_init_212 : decode cX9_init 212 = .ok (.iconst 4, 1) := by decide +kernel
theorem dX9_init_213 : decode cX9_init 213 = .ok (.newarray .int, 2) := by decide +kernel
theorem dX9_init_215 : decode cX9_init 215 = .ok (.putfield 54, 3) := by decide +kernel
theorem dX9_init_218 : decode cX9_init 218 = .ok (.aload_n 0, 1) := by decide +kernel
theorem dX9_init_219 : decode cX9_init 219 = .ok (.bipush 96, 2) := by decide +kernel
theorem dX9_init_221 : decode cX9_init 221 = .ok (.newarray .int, 2) := by decide +kernel
theorem dX9_init_223 : decode cX9_init 223 = .ok (.putfield 57, 3) := by decide +kernel
theorem dX9_init_226 : decode cX9_init 226 = .ok (.aload_n 0, 1) := by decide +kernel
theorem dX9_init_227 : decode cX9_init 227 = .ok (.iconst 5, 1) := by decide +kernel
theorem dX9_init_228 : decode cX9_init 228 = .ok (.newarray .int, 2) := by decide +kernel
theorem dX9_init_230 : decode cX9_init 230 = .ok (.putfield 60, 3) := by decide +kernel
theorem dX9_init_233 : decode cX9_init 233 = .ok (.aload_n 0, 1) := by decide +kernel
theorem dX9_init_234 : decode cX9_init 234 = .ok (.iconst 5, 1) := by decide +kernel
theorem dX9_init_235 : decode cX9_init 235 = .ok (.newarray .int, 2) := by decide +kernel
theorem dX9_init_237 : decode cX9_init 237 = .ok (.putfield 63, 3) := by decide +kernel
theorem dX9_init_240 : decode cX9_init 240 = .ok (.aload_n 0, 1) := by decide +kernel
theorem dX9_init_241 : decode cX9_init 241 = .ok (.iconst 5, 1) := by decide +kernel
theorem dX9_init_242 : decode cX9_init 242 = .ok (.newarray .int, 2) := by decide +kernel
theorem dX9_init_244 : decode cX9_init 244 = .ok (.putfield 66, 3) := by decide +kernel
theorem dX9_init_247 : decode cX9_init 247 = .ok (.aload_n 0, 1) := by decide +kernel
theorem dX9_init_248 : decode cX9_init 248 = .ok (.bipush 120, 2) := by decide +kernel
theorem dX9_init_250 : decode cX9_init 250 = .ok (.newarray .int, 2) := by decide +kernel
theorem dX9_init_252 : decode cX9_init 252 = .ok (.putfield 69, 3) := by decide +kernel
theorem dX9_init_255 : decode cX9_init 255 = .ok (.aload_n 0, 1) := by decide +kernel
theorem dX9_init_256 : decode cX9_init 256 = .ok (.bipush 24, 2) := by decide +kernel
theorem dX9_init_258 : decode cX9_init 258 = .ok (.newarray .int, 2) := by decide +kernel
theorem dX9_init_260 : decode cX9_init 260 = .ok (.putfield 72, 3) := by decide +kernel
theorem dX9_init_263 : decode cX9_init 263 = .ok (.aload_n 0, 1) := by decide +kernel
theorem dX9_init_264 : decode cX9_init 264 = .ok (.bipush 60, 2) := by decide +kernel
theorem dX9_init_266 : decode cX9_init 266 = .ok (.newarray .int, 2) := by decide +kernel
theorem dX9_init_268 : decode cX9_init 268 = .ok (.putfield 75, 3) := by decide +kernel
theorem dX9_init_271 : decode cX9_init 271 = .ok (.aload_n 0, 1) := by decide +kernel
theorem dX9_init_272 : decode cX9_init 272 = .ok (.getfield 9, 3) := by decide +kernel
theorem dX9_init_275 : decode cX9_init 275 = .ok (.iconst 0, 1) := by decide +kernel
theorem dX9_init_276 : decode cX9_init 276 = .ok (.iconst 1, 1) := by decide +kernel
theorem dX9_init_277 : decode cX9_init 277 = .ok (.iastore, 1) := by decide +kernel
theorem dX9_init_278 : decode cX9_init 278 = .ok (.aload_n 0, 1) := by decide +kernel
theorem dX9_init_279 : decode cX9_init 279 = .ok (.getfield 9, 3) := by decide +kernel
theorem dX9_init_282 : decode cX9_init 282 = .ok (.iconst 2, 1) := by decide +kernel
theorem dX9_init_283 : decode cX9_init 283 = .ok (.bipush 9, 2) := by decide +kernel
theorem dX9_init_285 : decode cX9_init 285 = .ok (.iastore, 1) := by decide +kernel
theorem dX9_init_286 : decode cX9_init 286 = .ok (.aload_n 0, 1) := by decide +kernel
theorem dX9_init_287 : decode cX9_init 287 = .ok (.getfield 9, 3) := by decide +kernel
theorem dX9_init_290 : decode cX9_init 290 = .ok (.bipush 6, 2) := by decide +kernel
theorem dX9_init_292 : decode cX9_init 292 = .ok (.iconst 1, 1) := by decide +kernel
theorem dX9_init_293 : decode cX9_init 293 = .ok (.iastore, 1) := by decide +kernel
theorem dX9_init_294 : decode cX9_init 294 = .ok (.aload_n 0, 1) := by decide +kernel
theorem dX9_init_295 : decode cX9_init 295 = .ok (.getfield 9, 3) := by decide +kernel
theorem dX9_init_298 : decode cX9_init 298 = .ok (.bipush 8, 2) := by decide +kernel
theorem dX9_init_300 : decode cX9_init 300 = .ok (.bipush 50, 2) := by decide +kernel
theorem dX9_init_302 : decode cX9_init 302 = .ok (.iastore, 1) := by decide +kernel
theorem dX9_init_303 : decode cX9_init 303 = .ok (.aload_n 0, 1) := by decide +kernel
theorem dX9_init_304 : decode cX9_init 304 = .ok (.getfield 9, 3) := by decide +kernel
theorem dX9_init_307 : decode cX9_init 307 = .ok (.bipush 9, 2) := by decide +kernel
theorem dX9_init_309 : decode cX9_init 309 = .ok (.bipush 10, 2) := by decide +kernel
theorem dX9_init_311 : decode cX9_init 311 = .ok (.iastore, 1) := by decide +kernel
theorem dX9_init_312 : decode cX9_init 312 = .ok (.return_, 1) := by decide +kernel
theorem dX9_in_0 : decode cX9_in 0 = .ok (.iload_n 0, 1) := by decide +kernel
theorem dX9_in_1 : decode cX9_in 1 = .ok (.iload_n 1, 1) := by decide +kernel
theorem dX9_in_2 : decode cX9_in 2 = .ok (.if_icmp .lt 12, 3) := by decide +kernel
theorem dX9_in_5 : decode cX9_in 5 = .ok (.iload_n 0, 1) := by decide +kernel
theorem dX9_in_6 : decode cX9_in 6 = .ok (.iload_n 2, 1) := by decide +kernel
theorem dX9_in_7 : decode cX9_in 7 = .ok (.if_icmp .gt 7, 3) := by decide +kernel
theorem dX9_in_10 : decode cX9_in 10 = .ok (.iconst 1, 1) := by decide +kernel
theorem dX9_in_11 : decode cX9_in 11 = .ok (.goto 4, 3) := by decide +kernel
theorem dX9_in_14 : decode cX9_in 14 = .ok (.iconst 0, 1) := by decide +kernel
theorem dX9_in_15 : decode cX9_in 15 = .ok (.ireturn, 1) := by decide +kernel
theorem dX9_within_0 : decode cX9_within 0 = .ok (.iload_n 0, 1) := by decide +kernel
theorem dX9_within_1 : decode cX9_within 1 = .ok (.iload_n 1, 1) := by decide +kernel
theorem dX9_within_2 : decode cX9_within 2 = .ok (.if_icmp .ge 7, 3) := by decide +kernel
theorem dX9_within_5 : decode cX9_within 5 = .ok (.iload_n 1, 1) := by decide +kernel
theorem dX9_within_6 : decode cX9_within 6 = .ok (.goto 13, 3) := by decide +kernel
theorem dX9_within_9 : decode cX9_within 9 = .ok (.iload_n 0, 1) := by decide +kernel
theorem dX9_within_10 : decode cX9_within 10 = .ok (.iload_n 2, 1) := by decide +kernel
theorem dX9_within_11 : decode cX9_within 11 = .ok (.if_icmp .le 7, 3) := by decide +kernel
theorem dX9_within_14 : decode cX9_within 14 = .ok (.iload_n 2, 1) := by decide +kernel
theorem dX9_within_15 : decode cX9_within 15 = .ok (.goto 4, 3) := by decide +kernel
theorem dX9_within_18 : decode cX9_within 18 = .ok (.iload_n 0, 1) := by decide +kernel
theorem dX9_within_19 : decode cX9_within 19 = .ok (.ireturn, 1) := by decide +kernel
theorem dX9_copyAll_0 : decode cX9_copyAll 0 = .ok (.iconst 0, 1) := by decide +kernel
theorem dX9_copyAll_1 : decode cX9_copyAll 1 = .ok (.istore_n 2, 1) := by decide +kernel
theorem dX9_copyAll_2 : decode cX9_copyAll 2 = .ok (.iload_n 2, 1) := by decide +kernel
theorem dX9_copyAll_3 : decode cX9_copyAll 3 = .ok (.sipush 1444, 3) := by decide +kernel
theorem dX9_copyAll_6 : decode cX9_copyAll 6 = .ok (.if_icmp .ge 15, 3) := by decide +kernel
theorem dX9_copyAll_9 : decode cX9_copyAll 9 = .ok (.aload_n 1, 1) := by decide +kernel
theorem dX9_copyAll_10 : decode cX9_copyAll 10 = .ok (.iload_n 2, 1) := by decide +kernel
theorem dX9_copyAll_11 : decode cX9_copyAll 11 = .ok (.aload_n 0, 1) := by decide +kernel
theorem dX9_copyAll_12 : decode cX9_copyAll 12 = .ok (.iload_n 2, 1) := by decide +kernel
theorem dX9_copyAll_13 : decode cX9_copyAll 13 = .ok (.iaload, 1) := by decide +kernel
theorem dX9_copyAll_14 : decode cX9_copyAll 14 = .ok (.iastore, 1) := by decide +kernel
theorem dX9_copyAll_15 : decode cX9_copyAll 15 = .ok (.iinc 2 1, 3) := by decide +kernel
theorem dX9_copyAll_18 : decode cX9_copyAll 18 = .ok (.goto (-16), 3) := by decide +kernel
theorem dX9_copyAll_21 : decode cX9_copyAll 21 = .ok (.return_, 1) := by decide +kernel
theorem dX9_told0_0 : decode cX9_told0 0 = .ok (.iload_n 0, 1) := by decide +kernel
theorem dX9_told0_1 : decode cX9_told0 1 = .ok (.ifCond .ge 8, 3) := by decide +kernel
theorem dX9_told0_4 : decode cX9_told0 4 = .ok (.ldc 78, 2) := by decide +kernel
theorem dX9_told0_6 : decode cX9_told0 6 = .ok (.goto 4, 3) := by decide +kernel
theorem dX9_told0_9 : decode cX9_told0 9 = .ok (.iload_n 0, 1) := by decide +kernel
theorem dX9_told0_10 : decode cX9_told0 10 = .ok (.ireturn, 1) := by decide +kernel
theorem dX9_isSitter_0 : decode cX9_isSitter 0 = .ok (.iload_n 1, 1) := by decide +kernel
theorem dX9_isSitter_1 : decode cX9_isSitter 1 = .ok (.iconst 0, 1) := by decide +kernel
theorem dX9_isSitter_2 : decode cX9_isSitter 2 = .ok (.aload_n 0, 1) := by decide +kernel
theorem dX9_isSitter_3 : decode cX9_isSitter 3 = .ok (.getfield 9, 3) := by decide +kernel
theorem dX9_isSitter_6 : decode cX9_isSitter 6 = .ok (.iconst 1, 1) := by decide +kernel
theorem dX9_isSitter_7 : decode cX9_isSitter 7 = .ok (.iaload, 1) := by decide +kernel
theorem dX9_isSitter_8 : decode cX9_isSitter 8 = .ok (.iconst 1, 1) := by decide +kernel
theorem dX9_isSitter_9 : decode cX9_isSitter 9 = .ok (.isub, 1) := by decide +kernel
theorem dX9_isSitter_10 : decode cX9_isSitter 10 = .ok (.invokestatic 79, 3) := by decide +kernel
theorem dX9_isSitter_13 : decode cX9_isSitter 13 = .ok (.ireturn, 1) := by decide +kernel
theorem dX9_isPlace_0 : decode cX9_isPlace 0 = .ok (.iload_n 1, 1) := by decide +kernel
theorem dX9_isPlace_1 : decode cX9_isPlace 1 = .ok (.iconst 0, 1) := by decide +kernel
theorem dX9_isPlace_2 : decode cX9_isPlace 2 = .ok (.aload_n 0, 1) := by decide +kernel
theorem dX9_isPlace_3 : decode cX9_isPlace 3 = .ok (.getfield 9, 3) := by decide +kernel
theorem dX9_isPlace_6 : decode cX9_isPlace 6 = .ok (.iconst 2, 1) := by decide +kernel
theorem dX9_isPlace_7 : decode cX9_isPlace 7 = .ok (.iaload, 1) := by decide +kernel
theorem dX9_isPlace_8 : decode cX9_isPlace 8 = .ok (.iconst 1, 1) := by decide +kernel
theorem dX9_isPlace_9 : decode cX9_isPlace 9 = .ok (.isub, 1) := by decide +kernel
theorem dX9_isPlace_10 : decode cX9_isPlace 10 = .ok (.invokestatic 79, 3) := by decide +kernel
theorem dX9_isPlace_13 : decode cX9_isPlace 13 = .ok (.ireturn, 1) := by decide +kernel
theorem dX9_of_0 : decode cX9_of 0 = .ok (.aload_n 0, 1) := by decide +kernel
theorem dX9_of_1 : decode cX9_of 1 = .ok (.getfield 9, 3) := by decide +kernel
theorem dX9_of_4 : decode cX9_of 4 = .ok (.bipush 24, 2) := by decide +kernel
theorem dX9_of_6 : decode cX9_of 6 = .ok (.iconst 4, 1) := by decide +kernel
theorem dX9_of_7 : decode cX9_of 7 = .ok (.iload_n 1, 1) := by decide +kernel
theorem dX9_of_8 : decode cX9_of 8 = .ok (.imul, 1) := by decide +kernel
theorem dX9_of_9 : decode cX9_of 9 = .ok (.iadd, 1) := by decide +kernel
theorem dX9_of_10 : decode cX9_of 10 = .ok (.iload_n 2, 1) := by decide +kernel
theorem dX9_of_11 : decode cX9_of 11 = .ok (.iadd, 1) := by decide +kernel
theorem dX9_of_12 : decode cX9_of 12 = .ok (.iaload, 1) := by decide +kernel
theorem dX9_of_13 : decode cX9_of 13 = .ok (.ireturn, 1) := by decide +kernel
theorem dX9_put_0 : decode cX9_put 0 = .ok (.aload_n 0, 1) := by decide +kernel
theorem dX9_put_1 : decode cX9_put 1 = .ok (.getfield 9, 3) := by decide +kernel
theorem dX9_put_4 : decode cX9_put 4 = .ok (.bipush 24, 2) := by decide +kernel
theorem dX9_put_6 : decode cX9_put 6 = .ok (.iconst 4, 1) := by decide +kernel
theorem dX9_put_7 : decode cX9_put 7 = .ok (.iload_n 1, 1) := by decide +kernel
theorem dX9_put_8 : decode cX9_put 8 = .ok (.imul, 1) := by decide +kernel
theorem dX9_put_9 : decode cX9_put 9 = .ok (.iadd, 1) := by decide +kernel
theorem dX9_put_10 : decode cX9_put 10 = .ok (.iload_n 2, 1) := by decide +kernel
theorem dX9_put_11 : decode cX9_put 11 = .ok (.iadd, 1) := by decide +kernel
theorem dX9_put_12 : decode cX9_put 12 = .ok (.iload_n 3, 1) := by decide +kernel
theorem dX9_put_13 : decode cX9_put 13 = .ok (.iastore, 1) := by decide +kernel
theorem dX9_put_14 : decode cX9_put 14 = .ok (.return_, 1) := by decide +kernel
theorem dX9_becomes_0 : decode cX9_becomes 0 = .ok (.aload_n 0, 1) := by decide +kernel
theorem dX9_becomes_1 : decode cX9_becomes 1 = .ok (.getfield 9, 3) := by decide +kernel
theorem dX9_becomes_4 : decode cX9_becomes 4 = .ok (.iload_n 1, 1) := by decide +kernel
theorem dX9_becomes_5 : decode cX9_becomes 5 = .ok (.iaload, 1) := by decide +kernel
theorem dX9_becomes_6 : decode cX9_becomes 6 = .ok (.istore_n 3, 1) := by decide +kernel
theorem dX9_becomes_7 : decode cX9_becomes 7 = .ok (.aload_n 0, 1) := by decide +kernel
theorem dX9_becomes_8 : decode cX9_becomes 8 = .ok (.getfield 9, 3) := by decide +kernel
theorem dX9_becomes_11 : decode cX9_becomes 11 = .ok (.iload_n 1, 1) := by decide +kernel
theorem dX9_becomes_12 : decode cX9_becomes 12 = .ok (.iload_n 2, 1) := by decide +kernel
theorem dX9_becomes_13 : decode cX9_becomes 13 = .ok (.iastore, 1) := by decide +kernel
theorem dX9_becomes_14 : decode cX9_becomes 14 = .ok (.iload_n 3, 1) := by decide +kernel
theorem dX9_becomes_15 : decode cX9_becomes 15 = .ok (.ireturn, 1) := by decide +kernel
theorem dX9_isBroad_0 : decode cX9_isBroad 0 = .ok (.iload_n 0, 1) := by decide +kernel
theorem dX9_isBroad_1 : decode cX9_isBroad 1 = .ok (.iconst 1, 1) := by decide +kernel
theorem dX9_isBroad_2 : decode cX9_isBroad 2 = .ok (.if_icmp .eq 8, 3) := by decide +kernel
theorem dX9_isBroad_5 : decode cX9_isBroad 5 = .ok (.iload_n 0, 1) := by decide +kernel
theorem dX9_isBroad_6 : decode cX9_isBroad 6 = .ok (.iconst 3, 1) := by decide +kernel
theorem dX9_isBroad_7 : decode cX9_isBroad 7 = .ok (.if_icmp .ne 7, 3) := by decide +kernel
theorem dX9_isBroad_10 : decode cX9_isBroad 10 = .ok (.iconst 1, 1) := by decide +kernel
theorem dX9_isBroad_11 : decode cX9_isBroad 11 = .ok (.goto 4, 3) := by decide +kernel
theorem dX9_isBroad_14 : decode cX9_isBroad 14 = .ok (.iconst 0, 1) := by decide +kernel
theorem dX9_isBroad_15 : decode cX9_isBroad 15 = .ok (.ireturn, 1) := by decide +kernel
theorem dX9_isFriend_0 : decode cX9_isFriend 0 = .ok (.iload_n 0, 1) := by decide +kernel
theorem dX9_isFriend_1 : decode cX9_isFriend 1 = .ok (.iconst 2, 1) := by decide +kernel
theorem dX9_isFriend_2 : decode cX9_isFriend 2 = .ok (.if_icmp .eq 8, 3) := by decide +kernel
theorem dX9_isFriend_5 : decode cX9_isFriend 5 = .ok (.iload_n 0, 1) := by decide +kernel
theorem dX9_isFriend_6 : decode cX9_isFriend 6 = .ok (.iconst 4, 1) := by decide +kernel
theorem dX9_isFriend_7 : decode cX9_isFriend 7 = .ok (.if_icmp .ne 7, 3) := by decide +kernel
theorem dX9_isFriend_10 : decode cX9_isFriend 10 = .ok (.iconst 1, 1) := by decide +kernel
theorem dX9_isFriend_11 : decode cX9_isFriend 11 = .ok (.goto 4, 3) := by decide +kernel
theorem dX9_isFriend_14 : decode cX9_isFriend 14 = .ok (.iconst 0, 1) := by decide +kernel
theorem dX9_isFriend_15 : decode cX9_isFriend 15 = .ok (.ireturn, 1) := by decide +kernel
theorem dX9_setAt_0 : decode cX9_setAt 0 = .ok (.iload_n 1, 1) := by decide +kernel
theorem dX9_setAt_1 : decode cX9_setAt 1 = .ok (.invokestatic 83, 3) := by decide +kernel
theorem dX9_setAt_4 : decode cX9_setAt 4 = .ok (.ifCond .ne 7, 3) := by decide +kernel
theorem dX9_setAt_7 : decode cX9_setAt 7 = .ok (.iconst 1, 1) := by decide +kernel
theorem dX9_setAt_8 : decode cX9_setAt 8 = .ok (.iload_n 2, 1) := by decide +kernel
theorem dX9_setAt_9 : decode cX9_setAt 9 = .ok (.ishl, 1) := by decide +kernel
theorem dX9_setAt_10 : decode cX9_setAt 10 = .ok (.ireturn, 1) := by decide +kernel
theorem dX9_setAt_11 : decode cX9_setAt 11 = .ok (.aload_n 0, 1) := by decide +kernel
theorem dX9_setAt_12 : decode cX9_setAt 12 = .ok (.getfield 9, 3) := by decide +kernel
theorem dX9_setAt_15 : decode cX9_setAt 15 = .ok (.iconst 3, 1) := by decide +kernel
theorem dX9_setAt_16 : decode cX9_setAt 16 = .ok (.iaload, 1) := by decide +kernel
theorem dX9_setAt_17 : decode cX9_setAt 17 = .ok (.iconst 1, 1) := by decide +kernel
theorem dX9_setAt_18 : decode cX9_setAt 18 = .ok (.if_icmp .ne 16, 3) := by decide +kernel
theorem dX9_setAt_21 : decode cX9_setAt 21 = .ok (.iload_n 2, 1) := by decide +kernel
theorem dX9_setAt_22 : decode cX9_setAt 22 = .ok (.iconst 1, 1) := by decide +kernel
theorem dX9_setAt_23 : decode cX9_setAt 23 = .ok (.iadd, 1) := by decide +kernel
theorem dX9_setAt_24 : decode cX9_setAt 24 = .ok (.aload_n 0, 1) := by decide +kernel
theorem dX9_setAt_25 : decode cX9_setAt 25 = .ok (.getfield 9, 3) := by decide +kernel
theorem dX9_setAt_28 : decode cX9_setAt 28 = .ok (.iconst 2, 1) := by decide +kernel
theorem dX9_setAt_29 : decode cX9_setAt 29 = .ok (.iaload, 1) := by decide +kernel
theorem dX9_setAt_30 : decode cX9_setAt 30 = .ok (.irem, 1) := by decide +kernel
theorem dX9_setAt_31 : decode cX9_setAt 31 = .ok (.goto 6, 3) := by decide +kernel
theorem dX9_setAt_34 : decode cX9_setAt 34 = .ok (.iload_n 2, 1) := by decide +kernel
theorem dX9_setAt_35 : decode cX9_setAt 35 = .ok (.iconst 1, 1) := by decide +kernel
theorem dX9_setAt_36 : decode cX9_setAt 36 = .ok (.iadd, 1) := by decide +kernel
theorem dX9_setAt_37 : decode cX9_setAt 37 = .ok (.istore_n 3, 1) := by decide +kernel
theorem dX9_setAt_38 : decode cX9_setAt 38 = .ok (.iload_n 3, 1) := by decide +kernel
theorem dX9_setAt_39 : decode cX9_setAt 39 = .ok (.aload_n 0, 1) := by decide +kernel
theorem dX9_setAt_40 : decode cX9_setAt 40 = .ok (.getfield 9, 3) := by decide +kernel
theorem dX9_setAt_43 : decode cX9_setAt 43 = .ok (.iconst 2, 1) := by decide +kernel
theorem dX9_setAt_44 : decode cX9_setAt 44 = .ok (.iaload, 1) := by decide +kernel
theorem dX9_setAt_45 : decode cX9_setAt 45 = .ok (.if_icmp .eq 8, 3) := by decide +kernel
theorem dX9_setAt_48 : decode cX9_setAt 48 = .ok (.iload_n 3, 1) := by decide +kernel
theorem dX9_setAt_49 : decode cX9_setAt 49 = .ok (.iload_n 2, 1) := by decide +kernel
theorem dX9_setAt_50 : decode cX9_setAt 50 = .ok (.if_icmp .ne 7, 3) := by decide +kernel
theorem dX9_setAt_53 : decode cX9_setAt 53 = .ok (.iconst (-1), 1) := by decide +kernel
theorem dX9_setAt_54 : decode cX9_setAt 54 = .ok (.goto 10, 3) := by decide +kernel
theorem dX9_setAt_57 : decode cX9_setAt 57 = .ok (.iconst 1, 1) := by decide +kernel
theorem dX9_setAt_58 : decode cX9_setAt 58 = .ok (.iload_n 2, 1) := by decide +kernel
theorem dX9_setAt_59 : decode cX9_setAt 59 = .ok (.ishl, 1) := by decide +kernel
theorem dX9_setAt_60 : decode cX9_setAt 60 = .ok (.iconst 1, 1) := by decide +kernel
theorem dX9_setAt_61 : decode cX9_setAt 61 = .ok (.iload_n 3, 1) := by decide +kernel
theorem dX9_setAt_62 : decode cX9_setAt 62 = .ok (.ishl, 1) := by decide +kernel
theorem dX9_setAt_63 : decode cX9_setAt 63 = .ok (.ior, 1) := by decide +kernel
theorem dX9_setAt_64 : decode cX9_setAt 64 = .ok (.ireturn, 1) := by decide +kernel
theorem dX9_setOf_0 : decode cX9_setOf 0 = .ok (.aload_n 0, 1) := by decide +kernel
theorem dX9_setOf_1 : decode cX9_setOf 1 = .ok (.iload_n 1, 1) := by decide +kernel
theorem dX9_setOf_2 : decode cX9_setOf 2 = .ok (.iconst 1, 1) := by decide +kernel
theorem dX9_setOf_3 : decode cX9_setOf 3 = .ok (.invokevirtual 87, 3) := by decide +kernel
theorem dX9_setOf_6 : decode cX9_setOf 6 = .ok (.ifCond .ge 7, 3) := by decide +kernel
theorem dX9_setOf_9 : decode cX9_setOf 9 = .ok (.iconst 0, 1) := by decide +kernel
theorem dX9_setOf_10 : decode cX9_setOf 10 = .ok (.goto 19, 3) := by decide +kernel
theorem dX9_setOf_13 : decode cX9_setOf 13 = .ok (.aload_n 0, 1) := by decide +kernel
theorem dX9_setOf_14 : decode cX9_setOf 14 = .ok (.aload_n 0, 1) := by decide +kernel
theorem dX9_setOf_15 : decode cX9_setOf 15 = .ok (.iload_n 1, 1) := by decide +kernel
theorem dX9_setOf_16 : decode cX9_setOf 16 = .ok (.iconst 0, 1) := by decide +kernel
theorem dX9_setOf_17 : decode cX9_setOf 17 = .ok (.invokevirtual 87, 3) := by decide +kernel
theorem dX9_setOf_20 : decode cX9_setOf 20 = .ok (.aload_n 0, 1) := by decide +kernel
theorem dX9_setOf_21 : decode cX9_setOf 21 = .ok (.iload_n 1, 1) := by decide +kernel
theorem dX9_setOf_22 : decode cX9_setOf 22 = .ok (.iconst 1, 1) := by decide +kernel
theorem dX9_setOf_23 : decode cX9_setOf 23 = .ok (.invokevirtual 87, 3) := by decide +kernel
theorem dX9_setOf_26 : decode cX9_setOf 26 = .ok (.invokevirtual 91, 3) := by decide +kernel
theorem dX9_setOf_29 : decode cX9_setOf 29 = .ok (.ireturn, 1) := by decide +kernel
theorem dX9_taken_0 : decode cX9_taken 0 = .ok (.iconst 0, 1) := by decide +kernel
theorem dX9_taken_1 : decode cX9_taken 1 = .ok (.istore_n 1, 1) := by decide +kernel
theorem dX9_taken_2 : decode cX9_taken 2 = .ok (.iconst 0, 1) := by decide +kernel
theorem dX9_taken_3 : decode cX9_taken 3 = .ok (.istore_n 2, 1) := by decide +kernel
theorem dX9_taken_4 : decode cX9_taken 4 = .ok (.iload_n 2, 1) := by decide +kernel
theorem dX9_taken_5 : decode cX9_taken 5 = .ok (.aload_n 0, 1) := by decide +kernel
theorem dX9_taken_6 : decode cX9_taken 6 = .ok (.getfield 9, 3) := by decide +kernel
theorem dX9_taken_9 : decode cX9_taken 9 = .ok (.iconst 1, 1) := by decide +kernel
theorem dX9_taken_10 : decode cX9_taken 10 = .ok (.iaload, 1) := by decide +kernel
theorem dX9_taken_11 : decode cX9_taken 11 = .ok (.if_icmp .ge 17, 3) := by decide +kernel
theorem dX9_taken_14 : decode cX9_taken 14 = .ok (.iload_n 1, 1) := by decide +kernel
theorem dX9_taken_15 : decode cX9_taken 15 = .ok (.aload_n 0, 1) := by decide +kernel
theorem dX9_taken_16 : decode cX9_taken 16 = .ok (.iload_n 2, 1) := by decide +kernel
theorem dX9_taken_17 : decode cX9_taken 17 = .ok (.invokevirtual 94, 3) := by decide +kernel
theorem dX9_taken_20 : decode cX9_taken 20 = .ok (.ior, 1) := by decide +kernel
theorem dX9_taken_21 : decode cX9_taken 21 = .ok (.istore_n 1, 1) := by decide +kernel
theorem dX9_taken_22 : decode cX9_taken 22 = .ok (.iinc 2 1, 3) := by decide +kernel
theorem dX9_taken_25 : decode cX9_taken 25 = .ok (.goto (-21), 3) := by decide +kernel
theorem dX9_taken_28 : decode cX9_taken 28 = .ok (.iload_n 1, 1) := by decide +kernel
theorem dX9_taken_29 : decode cX9_taken 29 = .ok (.ireturn, 1) := by decide +kernel
theorem dX9_isSome_0 : decode cX9_isSome 0 = .ok (.aload_n 0, 1) := by decide +kernel
theorem dX9_isSome_1 : decode cX9_isSome 1 = .ok (.getfield 9, 3) := by decide +kernel
theorem dX9_isSome_4 : decode cX9_isSome 4 = .ok (.iconst 3, 1) := by decide +kernel
theorem dX9_isSome_5 : decode cX9_isSome 5 = .ok (.iaload, 1) := by decide +kernel
theorem dX9_isSome_6 : decode cX9_isSome 6 = .ok (.iconst 1, 1) := by decide +kernel
theorem dX9_isSome_7 : decode cX9_isSome 7 = .ok (.if_icmp .ne 32, 3) := by decide +kernel
theorem dX9_isSome_10 : decode cX9_isSome 10 = .ok (.iload_n 1, 1) := by decide +kernel
theorem dX9_isSome_11 : decode cX9_isSome 11 = .ok (.iload_n 2, 1) := by decide +kernel
theorem dX9_isSome_12 : decode cX9_isSome 12 = .ok (.aload_n 0, 1) := by decide +kernel
theorem dX9_isSome_13 : decode cX9_isSome 13 = .ok (.getfield 9, 3) := by decide +kernel
theorem dX9_isSome_16 : decode cX9_isSome 16 = .ok (.iconst 2, 1) := by decide +kernel
theorem dX9_isSome_17 : decode cX9_isSome 17 = .ok (.iaload, 1) := by decide +kernel
theorem dX9_isSome_18 : decode cX9_isSome 18 = .ok (.iadd, 1) := by decide +kernel
theorem dX9_isSome_19 : decode cX9_isSome 19 = .ok (.aload_n 0, 1) := by decide +kernel
theorem dX9_isSome_20 : decode cX9_isSome 20 = .ok (.getfield 9, 3) := by decide +kernel
theorem dX9_isSome_23 : decode cX9_isSome 23 = .ok (.iconst 2, 1) := by decide +kernel
theorem dX9_isSome_24 : decode cX9_isSome 24 = .ok (.iaload, 1) := by decide +kernel
theorem dX9_isSome_25 : decode cX9_isSome 25 = .ok (.irem, 1) := by decide +kernel
theorem dX9_isSome_26 : decode cX9_isSome 26 = .ok (.ishr, 1) := by decide +kernel
theorem dX9_isSome_27 : decode cX9_isSome 27 = .ok (.iconst 1, 1) := by decide +kernel
theorem dX9_isSome_28 : decode cX9_isSome 28 = .ok (.iand, 1) := by decide +kernel
theorem dX9_isSome_29 : decode cX9_isSome 29 = .ok (.iconst 1, 1) := by decide +kernel
theorem dX9_isSome_30 : decode cX9_isSome 30 = .ok (.if_icmp .ne 7, 3) := by decide +kernel
theorem dX9_isSome_33 : decode cX9_isSome 33 = .ok (.iconst 1, 1) := by decide +kernel
theorem dX9_isSome_34 : decode cX9_isSome 34 = .ok (.goto 4, 3) := by decide +kernel
theorem dX9_isSome_37 : decode cX9_isSome 37 = .ok (.iconst 0, 1) := by decide +kernel
theorem dX9_isSome_38 : decode cX9_isSome 38 = .ok (.ireturn, 1) := by decide +kernel
theorem dX9_isSome_39 : decode cX9_isSome 39 = .ok (.aload_n 0, 1) := by decide +kernel
theorem dX9_isSome_40 : decode cX9_isSome 40 = .ok (.iload_n 2, 1) := by decide +kernel
theorem dX9_isSome_41 : decode cX9_isSome 41 = .ok (.invokevirtual 98, 3) := by decide +kernel
theorem dX9_isSome_44 : decode cX9_isSome 44 = .ok (.ifCond .eq 20, 3) := by decide +kernel
theorem dX9_isSome_47 : decode cX9_isSome 47 = .ok (.iload_n 1, 1) := by decide +kernel
theorem dX9_isSome_48 : decode cX9_isSome 48 = .ok (.iload_n 2, 1) := by decide +kernel
theorem dX9_isSome_49 : decode cX9_isSome 49 = .ok (.ishr, 1) := by decide +kernel
theorem dX9_isSome_50 : decode cX9_isSome 50 = .ok (.iconst 1, 1) := by decide +kernel
theorem dX9_isSome_51 : decode cX9_isSome 51 = .ok (.iand, 1) := by decide +kernel
theorem dX9_isSome_52 : decode cX9_isSome 52 = .ok (.iconst 1, 1) := by decide +kernel
theorem dX9_isSome_53 : decode cX9_isSome 53 = .ok (.if_icmp .ne 7, 3) := by decide +kernel
theorem dX9_isSome_56 : decode cX9_isSome 56 = .ok (.iconst 1, 1) := by decide +kernel
theorem dX9_isSome_57 : decode cX9_isSome 57 = .ok (.goto 22, 3) := by decide +kernel
theorem dX9_isSome_60 : decode cX9_isSome 60 = .ok (.iconst 0, 1) := by decide +kernel
theorem dX9_isSome_61 : decode cX9_isSome 61 = .ok (.goto 18, 3) := by decide +kernel
theorem dX9_isSome_64 : decode cX9_isSome 64 = .ok (.aload_n 0, 1) := by decide +kernel
theorem dX9_isSome_65 : decode cX9_isSome 65 = .ok (.getfield 9, 3) := by decide +kernel
theorem dX9_isSome_68 : decode cX9_isSome 68 = .ok (.iconst 4, 1) := by decide +kernel
theorem dX9_isSome_69 : decode cX9_isSome 69 = .ok (.iaload, 1) := by decide +kernel
theorem dX9_isSome_70 : decode cX9_isSome 70 = .ok (.iconst 1, 1) := by decide +kernel
theorem dX9_isSome_71 : decode cX9_isSome 71 = .ok (.if_icmp .ne 7, 3) := by decide +kernel
theorem dX9_isSome_74 : decode cX9_isSome 74 = .ok (.iconst 1, 1) := by decide +kernel
theorem dX9_isSome_75 : decode cX9_isSome 75 = .ok (.goto 4, 3) := by decide +kernel
theorem dX9_isSome_78 : decode cX9_isSome 78 = .ok (.iconst 0, 1) := by decide +kernel
theorem dX9_isSome_79 : decode cX9_isSome 79 = .ok (.ireturn, 1) := by decide +kernel
theorem dX9_isByFriend_0 : decode cX9_isByFriend 0 = .ok (.aload_n 0, 1) := by decide +kernel
theorem dX9_isByFriend_1 : decode cX9_isByFriend 1 = .ok (.getfield 9, 3) := by decide +kernel
theorem dX9_isByFriend_4 : decode cX9_isByFriend 4 = .ok (.iconst 3, 1) := by decide +kernel
theorem dX9_isByFriend_5 : decode cX9_isByFriend 5 = .ok (.iaload, 1) := by decide +kernel
theorem dX9_isByFriend_6 : decode cX9_isByFriend 6 = .ok (.ifCond .ne 13, 3) := by decide +kernel
theorem dX9_isByFriend_9 : decode cX9_isByFriend 9 = .ok (.aload_n 0, 1) := by decide +kernel
theorem dX9_isByFriend_10 : decode cX9_isByFriend 10 = .ok (.iload_n 1, 1) := by decide +kernel
theorem dX9_isByFriend_11 : decode cX9_isByFriend 11 = .ok (.invokevirtual 98, 3) := by decide +kernel
theorem dX9_isByFriend_14 : decode cX9_isByFriend 14 = .ok (.ifCond .ne 5, 3) := by decide +kernel
theorem dX9_isByFriend_17 : decode cX9_isByFriend 17 = .ok (.iconst 0, 1) := by decide +kernel
theorem dX9_isByFriend_18 : decode cX9_isByFriend 18 = .ok (.ireturn, 1) := by decide +kernel
theorem dX9_isByFriend_19 : decode cX9_isByFriend 19 = .ok (.iload_n 1, 1) := by decide +kernel
theorem dX9_isByFriend_20 : decode cX9_isByFriend 20 = .ok (.aload_n 0, 1) := by decide +kernel
theorem dX9_isByFriend_21 : decode cX9_isByFriend 21 = .ok (.getfield 9, 3) := by decide +kernel
theorem dX9_isByFriend_24 : decode cX9_isByFriend 24 = .ok (.iconst 2, 1) := by decide +kernel
theorem dX9_isByFriend_25 : decode cX9_isByFriend 25 = .ok (.iaload, 1) := by decide +kernel
theorem dX9_isByFriend_26 : decode cX9_isByFriend 26 = .ok (.iadd, 1) := by decide +kernel
theorem dX9_isByFriend_27 : decode cX9_isByFriend 27 = .ok (.aload_n 0, 1) := by decide +kernel
theorem dX9_isByFriend_28 : decode cX9_isByFriend 28 = .ok (.getfield 9, 3) := by decide +kernel
theorem dX9_isByFriend_31 : decode cX9_isByFriend 31 = .ok (.iconst 2, 1) := by decide +kernel
theorem dX9_isByFriend_32 : decode cX9_isByFriend 32 = .ok (.iaload, 1) := by decide +kernel
theorem dX9_isByFriend_33 : decode cX9_isByFriend 33 = .ok (.irem, 1) := by decide +kernel
theorem dX9_isByFriend_34 : decode cX9_isByFriend 34 = .ok (.istore_n 2, 1) := by decide +kernel
theorem dX9_isByFriend_35 : decode cX9_isByFriend 35 = .ok (.iconst 0, 1) := by decide +kernel
theorem dX9_isByFriend_36 : decode cX9_isByFriend 36 = .ok (.istore_n 3, 1) := by decide +kernel
theorem dX9_isByFriend_37 : decode cX9_isByFriend 37 = .ok (.iconst 0, 1) := by decide +kernel
theorem dX9_isByFriend_38 : decode cX9_isByFriend 38 = .ok (.istore 4, 2) := by decide +kernel
theorem dX9_isByFriend_40 : decode cX9_isByFriend 40 = .ok (.iload 4, 2) := by decide +kernel
theorem dX9_isByFriend_42 : decode cX9_isByFriend 42 = .ok (.aload_n 0, 1) := by decide +kernel
theorem dX9_isByFriend_43 : decode cX9_isByFriend 43 = .ok (.getfield 9, 3) := by decide +kernel
theorem dX9_isByFriend_46 : decode cX9_isByFriend 46 = .ok (.iconst 1, 1) := by decide +kernel
theorem dX9_isByFriend_47 : decode cX9_isByFriend 47 = .ok (.iaload, 1) := by decide +kernel
theorem dX9_isByFriend_48 : decode cX9_isByFriend 48 = .ok (.if_icmp .ge 46, 3) := by decide +kernel
theorem dX9_isByFriend_51 : decode cX9_isByFriend 51 = .ok (.iload_n 3, 1) := by decide +kernel
theorem dX9_isByFriend_52 : decode cX9_isByFriend 52 = .ok (.ifCond .ne 30, 3) := by decide +kernel
theorem dX9_isByFriend_55 : decode cX9_isByFriend 55 = .ok (.aload_n 0, 1) := by decide +kernel
theorem dX9_isByFriend_56 : decode cX9_isByFriend 56 = .ok (.iload 4, 2) := by decide +kernel
theorem dX9_isByFriend_58 : decode cX9_isByFriend 58 = .ok (.iconst 0, 1) := by decide +kernel
theorem dX9_isByFriend_59 : decode cX9_isByFriend 59 = .ok (.invokevirtual 87, 3) := by decide +kernel
theorem dX9_isByFriend_62 : decode cX9_isByFriend 62 = .ok (.invokestatic 101, 3) := by decide +kernel
theorem dX9_isByFriend_65 : decode cX9_isByFriend 65 = .ok (.ifCond .eq 21, 3) := by decide +kernel
theorem dX9_isByFriend_68 : decode cX9_isByFriend 68 = .ok (.aload_n 0, 1) := by decide +kernel
theorem dX9_isByFriend_69 : decode cX9_isByFriend 69 = .ok (.iload 4, 2) := by decide +kernel
theorem dX9_isByFriend_71 : decode cX9_isByFriend 71 = .ok (.invokevirtual 94, 3) := by decide +kernel
theorem dX9_isByFriend_74 : decode cX9_isByFriend 74 = .ok (.iload_n 2, 1) := by decide +kernel
theorem dX9_isByFriend_75 : decode cX9_isByFriend 75 = .ok (.ishr, 1) := by decide +kernel
theorem dX9_isByFriend_76 : decode cX9_isByFriend 76 = .ok (.iconst 1, 1) := by decide +kernel
theorem dX9_isByFriend_77 : decode cX9_isByFriend 77 = .ok (.iand, 1) := by decide +kernel
theorem dX9_isByFriend_78 : decode cX9_isByFriend 78 = .ok (.iconst 1, 1) := by decide +kernel
theorem dX9_isByFriend_79 : decode cX9_isByFriend 79 = .ok (.if_icmp .ne 7, 3) := by decide +kernel
theorem dX9_isByFriend_82 : decode cX9_isByFriend 82 = .ok (.iconst 1, 1) := by decide +kernel
theorem dX9_isByFriend_83 : decode cX9_isByFriend 83 = .ok (.goto 4, 3) := by decide +kernel
theorem dX9_isByFriend_86 : decode cX9_isByFriend 86 = .ok (.iconst 0, 1) := by decide +kernel
theorem dX9_isByFriend_87 : decode cX9_isByFriend 87 = .ok (.istore_n 3, 1) := by decide +kernel
theorem dX9_isByFriend_88 : decode cX9_isByFriend 88 = .ok (.iinc 4 1, 3) := by decide +kernel
theorem dX9_isByFriend_91 : decode cX9_isByFriend 91 = .ok (.goto (-51), 3) := by decide +kernel
theorem dX9_isByFriend_94 : decode cX9_isByFriend 94 = .ok (.iload_n 3, 1) := by decide +kernel
theorem dX9_isByFriend_95 : decode cX9_isByFriend 95 = .ok (.ireturn, 1) := by decide +kernel
theorem dX9_may_0 : decode cX9_may 0 = .ok (.aload_n 0, 1) := by decide +kernel
theorem dX9_may_1 : decode cX9_may 1 = .ok (.iload_n 1, 1) := by decide +kernel
theorem dX9_may_2 : decode cX9_may 2 = .ok (.iconst 0, 1) := by decide +kernel
theorem dX9_may_3 : decode cX9_may 3 = .ok (.invokevirtual 87, 3) := by decide +kernel
theorem dX9_may_6 : decode cX9_may 6 = .ok (.istore 4, 2) := by decide +kernel
theorem dX9_may_8 : decode cX9_may 8 = .ok (.aload_n 0, 1) := by decide +kernel
theorem dX9_may_9 : decode cX9_may 9 = .ok (.iload 4, 2) := by decide +kernel
theorem dX9_may_11 : decode cX9_may 11 = .ok (.iload_n 2, 1) := by decide +kernel
theorem dX9_may_12 : decode cX9_may 12 = .ok (.invokevirtual 91, 3) := by decide +kernel
theorem dX9_may_15 : decode cX9_may 15 = .ok (.istore 5, 2) := by decide +kernel
theorem dX9_may_17 : decode cX9_may 17 = .ok (.aload_n 0, 1) := by decide +kernel
theorem dX9_may_18 : decode cX9_may 18 = .ok (.iload_n 1, 1) := by decide +kernel
theorem dX9_may_19 : decode cX9_may 19 = .ok (.iconst 1, 1) := by decide +kernel
theorem dX9_may_20 : decode cX9_may 20 = .ok (.invokevirtual 87, 3) := by decide +kernel
theorem dX9_may_23 : decode cX9_may 23 = .ok (.ifCond .ge 15, 3) := by decide +kernel
theorem dX9_may_26 : decode cX9_may 26 = .ok (.iload 5, 2) := by decide +kernel
theorem dX9_may_28 : decode cX9_may 28 = .ok (.ifCond .lt 10, 3) := by decide +kernel
theorem dX9_may_31 : decode cX9_may 31 = .ok (.iload 5, 2) := by decide +kernel
theorem dX9_may_33 : decode cX9_may 33 = .ok (.iload_n 3, 1) := by decide +kernel
theorem dX9_may_34 : decode cX9_may 34 = .ok (.iand, 1) := by decide +kernel
theorem dX9_may_35 : decode cX9_may 35 = .ok (.ifCond .eq 5, 3) := by decide +kernel
theorem dX9_may_38 : decode cX9_may 38 = .ok (.iconst 0, 1) := by decide +kernel
theorem dX9_may_39 : decode cX9_may 39 = .ok (.ireturn, 1) := by decide +kernel
theorem dX9_may_40 : decode cX9_may 40 = .ok (.iload 4, 2) := by decide +kernel
theorem dX9_may_42 : decode cX9_may 42 = .ok (.invokestatic 83, 3) := by decide +kernel
theorem dX9_may_45 : decode cX9_may 45 = .ok (.ifCond .eq 9, 3) := by decide +kernel
theorem dX9_may_48 : decode cX9_may 48 = .ok (.iload_n 2, 1) := by decide +kernel
theorem dX9_may_49 : decode cX9_may 49 = .ok (.iconst 2, 1) := by decide +kernel
theorem dX9_may_50 : decode cX9_may 50 = .ok (.iadd, 1) := by decide +kernel
theorem dX9_may_51 : decode cX9_may 51 = .ok (.goto 6, 3) := by decide +kernel
theorem dX9_may_54 : decode cX9_may 54 = .ok (.iload_n 2, 1) := by decide +kernel
theorem dX9_may_55 : decode cX9_may 55 = .ok (.iconst 1, 1) := by decide +kernel
theorem dX9_may_56 : decode cX9_may 56 = .ok (.iadd, 1) := by decide +kernel
theorem dX9_may_57 : decode cX9_may 57 = .ok (.istore 6, 2) := by decide +kernel
theorem dX9_may_59 : decode cX9_may 59 = .ok (.aload_n 0, 1) := by decide +kernel
theorem dX9_may_60 : decode cX9_may 60 = .ok (.iload_n 3, 1) := by decide +kernel
theorem dX9_may_61 : decode cX9_may 61 = .ok (.iload_n 2, 1) := by decide +kernel
theorem dX9_may_62 : decode cX9_may 62 = .ok (.iconst 1, 1) := by decide +kernel
theorem dX9_may_63 : decode cX9_may 63 = .ok (.isub, 1) := by decide +kernel
theorem dX9_may_64 : decode cX9_may 64 = .ok (.invokevirtual 104, 3) := by decide +kernel
theorem dX9_may_67 : decode cX9_may 67 = .ok (.istore 7, 2) := by decide +kernel
theorem dX9_may_69 : decode cX9_may 69 = .ok (.aload_n 0, 1) := by decide +kernel
theorem dX9_may_70 : decode cX9_may 70 = .ok (.iload_n 3, 1) := by decide +kernel
theorem dX9_may_71 : decode cX9_may 71 = .ok (.iload 6, 2) := by decide +kernel
theorem dX9_may_73 : decode cX9_may 73 = .ok (.invokevirtual 104, 3) := by decide +kernel
theorem dX9_may_76 : decode cX9_may 76 = .ok (.istore 8, 2) := by decide +kernel
theorem dX9_may_78 : decode cX9_may 78 = .ok (.iload 4, 2) := by decide +kernel
theorem dX9_may_80 : decode cX9_may 80 = .ok (.invokestatic 101, 3) := by decide +kernel
theorem dX9_may_83 : decode cX9_may 83 = .ok (.ifCond .eq 26, 3) := by decide +kernel
theorem dX9_may_86 : decode cX9_may 86 = .ok (.aload_n 0, 1) := by decide +kernel
theorem dX9_may_87 : decode cX9_may 87 = .ok (.iload_n 2, 1) := by decide +kernel
theorem dX9_may_88 : decode cX9_may 88 = .ok (.iconst 1, 1) := by decide +kernel
theorem dX9_may_89 : decode cX9_may 89 = .ok (.isub, 1) := by decide +kernel
theorem dX9_may_90 : decode cX9_may 90 = .ok (.invokevirtual 108, 3) := by decide +kernel
theorem dX9_may_93 : decode cX9_may 93 = .ok (.ifCond .ne 12, 3) := by decide +kernel
theorem dX9_may_96 : decode cX9_may 96 = .ok (.aload_n 0, 1) := by decide +kernel
theorem dX9_may_97 : decode cX9_may 97 = .ok (.iload 6, 2) := by decide +kernel
theorem dX9_may_99 : decode cX9_may 99 = .ok (.invokevirtual 108, 3) := by decide +kernel
theorem dX9_may_102 : decode cX9_may 102 = .ok (.ifCond .eq 7, 3) := by decide +kernel
theorem dX9_may_105 : decode cX9_may 105 = .ok (.iconst 1, 1) := by decide +kernel
theorem dX9_may_106 : decode cX9_may 106 = .ok (.goto 4, 3) := by decide +kernel
theorem dX9_may_109 : decode cX9_may 109 = .ok (.iconst 0, 1) := by decide +kernel
theorem dX9_may_110 : decode cX9_may 110 = .ok (.istore 9, 2) := by decide +kernel
theorem dX9_may_112 : decode cX9_may 112 = .ok (.iload 4, 2) := by decide +kernel
theorem dX9_may_114 : decode cX9_may 114 = .ok (.tableswitch 92 2 5 #[30, 48, 64, 48], 30) := by decide +kernel
theorem dX9_may_144 : decode cX9_may 144 = .ok (.iload 7, 2) := by decide +kernel
theorem dX9_may_146 : decode cX9_may 146 = .ok (.iload 8, 2) := by decide +kernel
theorem dX9_may_148 : decode cX9_may 148 = .ok (.if_icmp .eq 8, 3) := by decide +kernel
theorem dX9_may_151 : decode cX9_may 151 = .ok (.iload 9, 2) := by decide +kernel
theorem dX9_may_153 : decode cX9_may 153 = .ok (.ifCond .eq 7, 3) := by decide +kernel
theorem dX9_may_156 : decode cX9_may 156 = .ok (.iconst 1, 1) := by decide +kernel
theorem dX9_may_157 : decode cX9_may 157 = .ok (.goto 4, 3) := by decide +kernel
theorem dX9_may_160 : decode cX9_may 160 = .ok (.iconst 0, 1) := by decide +kernel
theorem dX9_may_161 : decode cX9_may 161 = .ok (.ireturn, 1) := by decide +kernel
theorem dX9_may_162 : decode cX9_may 162 = .ok (.iload 7, 2) := by decide +kernel
theorem dX9_may_164 : decode cX9_may 164 = .ok (.ifCond .ne 12, 3) := by decide +kernel
theorem dX9_may_167 : decode cX9_may 167 = .ok (.iload 8, 2) := by decide +kernel
theorem dX9_may_169 : decode cX9_may 169 = .ok (.ifCond .ne 7, 3) := by decide +kernel
theorem dX9_may_172 : decode cX9_may 172 = .ok (.iconst 1, 1) := by decide +kernel
theorem dX9_may_173 : decode cX9_may 173 = .ok (.goto 4, 3) := by decide +kernel
theorem dX9_may_176 : decode cX9_may 176 = .ok (.iconst 0, 1) := by decide +kernel
theorem dX9_may_177 : decode cX9_may 177 = .ok (.ireturn, 1) := by decide +kernel
theorem dX9_may_178 : decode cX9_may 178 = .ok (.iload 7, 2) := by decide +kernel
theorem dX9_may_180 : decode cX9_may 180 = .ok (.iload 8, 2) := by decide +kernel
theorem dX9_may_182 : decode cX9_may 182 = .ok (.if_icmp .eq 18, 3) := by decide +kernel
theorem dX9_may_185 : decode cX9_may 185 = .ok (.iload 9, 2) := by decide +kernel
theorem dX9_may_187 : decode cX9_may 187 = .ok (.ifCond .ne 13, 3) := by decide +kernel
theorem dX9_may_190 : decode cX9_may 190 = .ok (.iload 7, 2) := by decide +kernel
theorem dX9_may_192 : decode cX9_may 192 = .ok (.ifCond .ne 8, 3) := by decide +kernel
theorem dX9_may_195 : decode cX9_may 195 = .ok (.iload 8, 2) := by decide +kernel
theorem dX9_may_197 : decode cX9_may 197 = .ok (.ifCond .eq 7, 3) := by decide +kernel
theorem dX9_may_200 : decode cX9_may 200 = .ok (.iconst 1, 1) := by decide +kernel
theorem dX9_may_201 : decode cX9_may 201 = .ok (.goto 4, 3) := by decide +kernel
theorem dX9_may_204 : decode cX9_may 204 = .ok (.iconst 0, 1) := by decide +kernel
theorem dX9_may_205 : decode cX9_may 205 = .ok (.ireturn, 1) := by decide +kernel
theorem dX9_may_206 : decode cX9_may 206 = .ok (.iload 7, 2) := by decide +kernel
theorem dX9_may_208 : decode cX9_may 208 = .ok (.iload 8, 2) := by decide +kernel
theorem dX9_may_210 : decode cX9_may 210 = .ok (.if_icmp .ne 7, 3) := by decide +kernel
theorem dX9_may_213 : decode cX9_may 213 = .ok (.iconst 1, 1) := by decide +kernel
theorem dX9_may_214 : decode cX9_may 214 = .ok (.goto 4, 3) := by decide +kernel
theorem dX9_may_217 : decode cX9_may 217 = .ok (.iconst 0, 1) := by decide +kernel
theorem dX9_may_218 : decode cX9_may 218 = .ok (.ireturn, 1) := by decide +kernel
theorem dX9_placesOf_0 : decode cX9_placesOf 0 = .ok (.aload_n 0, 1) := by decide +kernel
theorem dX9_placesOf_1 : decode cX9_placesOf 1 = .ok (.invokevirtual 111, 3) := by decide +kernel
theorem dX9_placesOf_4 : decode cX9_placesOf 4 = .ok (.istore_n 2, 1) := by decide +kernel
theorem dX9_placesOf_5 : decode cX9_placesOf 5 = .ok (.iconst 0, 1) := by decide +kernel
theorem dX9_placesOf_6 : decode cX9_placesOf 6 = .ok (.istore_n 3, 1) := by decide +kernel
theorem dX9_placesOf_7 : decode cX9_placesOf 7 = .ok (.iconst 0, 1) := by decide +kernel
theorem dX9_placesOf_8 : decode cX9_placesOf 8 = .ok (.istore 4, 2) := by decide +kernel
theorem dX9_placesOf_10 : decode cX9_placesOf 10 = .ok (.iload 4, 2) := by decide +kernel
theorem dX9_placesOf_12 : decode cX9_placesOf 12 = .ok (.aload_n 0, 1) := by decide +kernel
theorem dX9_placesOf_13 : decode cX9_placesOf 13 = .ok (.getfield 9, 3) := by decide +kernel
theorem dX9_placesOf_16 : decode cX9_placesOf 16 = .ok (.iconst 2, 1) := by decide +kernel
theorem dX9_placesOf_17 : decode cX9_placesOf 17 = .ok (.iaload, 1) := by decide +kernel
theorem dX9_placesOf_18 : decode cX9_placesOf 18 = .ok (.if_icmp .ge 31, 3) := by decide +kernel
theorem dX9_placesOf_21 : decode cX9_placesOf 21 = .ok (.iload_n 3, 1) := by decide +kernel
theorem dX9_placesOf_22 : decode cX9_placesOf 22 = .ok (.aload_n 0, 1) := by decide +kernel
theorem dX9_placesOf_23 : decode cX9_placesOf 23 = .ok (.iload_n 1, 1) := by decide +kernel
theorem dX9_placesOf_24 : decode cX9_placesOf 24 = .ok (.iload 4, 2) := by decide +kernel
theorem dX9_placesOf_26 : decode cX9_placesOf 26 = .ok (.iload_n 2, 1) := by decide +kernel
theorem dX9_placesOf_27 : decode cX9_placesOf 27 = .ok (.invokevirtual 115, 3) := by decide +kernel
theorem dX9_placesOf_30 : decode cX9_placesOf 30 = .ok (.ifCond .eq 10, 3) := by decide +kernel
theorem dX9_placesOf_33 : decode cX9_placesOf 33 = .ok (.iconst 1, 1) := by decide +kernel
theorem dX9_placesOf_34 : decode cX9_placesOf 34 = .ok (.iload 4, 2) := by decide +kernel
theorem dX9_placesOf_36 : decode cX9_placesOf 36 = .ok (.ishl, 1) := by decide +kernel
theorem dX9_placesOf_37 : decode cX9_placesOf 37 = .ok (.goto 4, 3) := by decide +kernel
theorem dX9_placesOf_40 : decode cX9_placesOf 40 = .ok (.iconst 0, 1) := by decide +kernel
theorem dX9_placesOf_41 : decode cX9_placesOf 41 = .ok (.ior, 1) := by decide +kernel
theorem dX9_placesOf_42 : decode cX9_placesOf 42 = .ok (.istore_n 3, 1) := by decide +kernel
theorem dX9_placesOf_43 : decode cX9_placesOf 43 = .ok (.iinc 4 1, 3) := by decide +kernel
theorem dX9_placesOf_46 : decode cX9_placesOf 46 = .ok (.goto (-36), 3) := by decide +kernel
theorem dX9_placesOf_49 : decode cX9_placesOf 49 = .ok (.iload_n 3, 1) := by decide +kernel
theorem dX9_placesOf_50 : decode cX9_placesOf 50 = .ok (.ireturn, 1) := by decide +kernel
theorem dX9_bench_0 : decode cX9_bench 0 = .ok (.iload_n 1, 1) := by decide +kernel
theorem dX9_bench_1 : decode cX9_bench 1 = .ok (.iconst 1, 1) := by decide +kernel
theorem dX9_bench_2 : decode cX9_bench 2 = .ok (.bipush 12, 2) := by decide +kernel
theorem dX9_bench_4 : decode cX9_bench 4 = .ok (.invokestatic 79, 3) := by decide +kernel
theorem dX9_bench_7 : decode cX9_bench 7 = .ok (.ifCond .eq 21, 3) := by decide +kernel
theorem dX9_bench_10 : decode cX9_bench 10 = .ok (.iload_n 2, 1) := by decide +kernel
theorem dX9_bench_11 : decode cX9_bench 11 = .ok (.iconst 0, 1) := by decide +kernel
theorem dX9_bench_12 : decode cX9_bench 12 = .ok (.iconst 1, 1) := by decide +kernel
theorem dX9_bench_13 : decode cX9_bench 13 = .ok (.invokestatic 79, 3) := by decide +kernel
theorem dX9_bench_16 : decode cX9_bench 16 = .ok (.ifCond .eq 12, 3) := by decide +kernel
theorem dX9_bench_19 : decode cX9_bench 19 = .ok (.iload_n 3, 1) := by decide +kernel
theorem dX9_bench_20 : decode cX9_bench 20 = .ok (.iconst 0, 1) := by decide +kernel
theorem dX9_bench_21 : decode cX9_bench 21 = .ok (.iconst 1, 1) := by decide +kernel
theorem dX9_bench_22 : decode cX9_bench 22 = .ok (.invokestatic 79, 3) := by decide +kernel
theorem dX9_bench_25 : decode cX9_bench 25 = .ok (.ifCond .ne 6, 3) := by decide +kernel
theorem dX9_bench_28 : decode cX9_bench 28 = .ok (.ldc 118, 2) := by decide +kernel
theorem dX9_bench_30 : decode cX9_bench 30 = .ok (.ireturn, 1) := by decide +kernel
theorem dX9_bench_31 : decode cX9_bench 31 = .ok (.aload_n 0, 1) := by decide +kernel
theorem dX9_bench_32 : decode cX9_bench 32 = .ok (.invokevirtual 119, 3) := by decide +kernel
theorem dX9_bench_35 : decode cX9_bench 35 = .ok (.istore 4, 2) := by decide +kernel
theorem dX9_bench_37 : decode cX9_bench 37 = .ok (.iconst 0, 1) := by decide +kernel
theorem dX9_bench_38 : decode cX9_bench 38 = .ok (.istore 5, 2) := by decide +kernel
theorem dX9_bench_40 : decode cX9_bench 40 = .ok (.iload 5, 2) := by decide +kernel
theorem dX9_bench_42 : decode cX9_bench 42 = .ok (.aload_n 0, 1) := by decide +kernel
theorem dX9_bench_43 : decode cX9_bench 43 = .ok (.getfield 9, 3) := by decide +kernel
theorem dX9_bench_46 : decode cX9_bench 46 = .ok (.iconst 1, 1) := by decide +kernel
theorem dX9_bench_47 : decode cX9_bench 47 = .ok (.iaload, 1) := by decide +kernel
theorem dX9_bench_48 : decode cX9_bench 48 = .ok (.if_icmp .ge 17, 3) := by decide +kernel
theorem dX9_bench_51 : decode cX9_bench 51 = .ok (.aload_n 0, 1) := by decide +kernel
theorem dX9_bench_52 : decode cX9_bench 52 = .ok (.iload 5, 2) := by decide +kernel
theorem dX9_bench_54 : decode cX9_bench 54 = .ok (.iconst 1, 1) := by decide +kernel
theorem dX9_bench_55 : decode cX9_bench 55 = .ok (.iconst (-1), 1) := by decide +kernel
theorem dX9_bench_56 : decode cX9_bench 56 = .ok (.invokevirtual 122, 3) := by decide +kernel
theorem dX9_bench_59 : decode cX9_bench 59 = .ok (.iinc 5 1, 3) := by decide +kernel
theorem dX9_bench_62 : decode cX9_bench 62 = .ok (.goto (-22), 3) := by decide +kernel
theorem dX9_bench_65 : decode cX9_bench 65 = .ok (.iconst 0, 1) := by decide +kernel
theorem dX9_bench_66 : decode cX9_bench 66 = .ok (.istore 5, 2) := by decide +kernel
theorem dX9_bench_68 : decode cX9_bench 68 = .ok (.iload 5, 2) := by decide +kernel
theorem dX9_bench_70 : decode cX9_bench 70 = .ok (.bipush 12, 2) := by decide +kernel
theorem dX9_bench_72 : decode cX9_bench 72 = .ok (.if_icmp .ge 20, 3) := by decide +kernel
theorem dX9_bench_75 : decode cX9_bench 75 = .ok (.aload_n 0, 1) := by decide +kernel
theorem dX9_bench_76 : decode cX9_bench 76 = .ok (.getfield 9, 3) := by decide +kernel
theorem dX9_bench_79 : decode cX9_bench 79 = .ok (.bipush 12, 2) := by decide +kernel
theorem dX9_bench_81 : decode cX9_bench 81 = .ok (.iload 5, 2) := by decide +kernel
theorem dX9_bench_83 : decode cX9_bench 83 = .ok (.iadd, 1) := by decide +kernel
theorem dX9_bench_84 : decode cX9_bench 84 = .ok (.iconst 0, 1) := by decide +kernel
theorem dX9_bench_85 : decode cX9_bench 85 = .ok (.iastore, 1) := by decide +kernel
theorem dX9_bench_86 : decode cX9_bench 86 = .ok (.iinc 5 1, 3) := by decide +kernel
theorem dX9_bench_89 : decode cX9_bench 89 = .ok (.goto (-21), 3) := by decide +kernel
theorem dX9_bench_92 : decode cX9_bench 92 = .ok (.aload_n 0, 1) := by decide +kernel
theorem dX9_bench_93 : decode cX9_bench 93 = .ok (.getfield 9, 3) := by decide +kernel
theorem dX9_bench_96 : decode cX9_bench 96 = .ok (.iconst 2, 1) := by decide +kernel
theorem dX9_bench_97 : decode cX9_bench 97 = .ok (.iload_n 1, 1) := by decide +kernel
theorem dX9_bench_98 : decode cX9_bench 98 = .ok (.iastore, 1) := by decide +kernel
theorem dX9_bench_99 : decode cX9_bench 99 = .ok (.aload_n 0, 1) := by decide +kernel
theorem dX9_bench_100 : decode cX9_bench 100 = .ok (.getfield 9, 3) := by decide +kernel
theorem dX9_bench_103 : decode cX9_bench 103 = .ok (.iconst 3, 1) := by decide +kernel
theorem dX9_bench_104 : decode cX9_bench 104 = .ok (.iload_n 2, 1) := by decide +kernel
theorem dX9_bench_105 : decode cX9_bench 105 = .ok (.iastore, 1) := by decide +kernel
theorem dX9_bench_106 : decode cX9_bench 106 = .ok (.aload_n 0, 1) := by decide +kernel
theorem dX9_bench_107 : decode cX9_bench 107 = .ok (.getfield 9, 3) := by decide +kernel
theorem dX9_bench_110 : decode cX9_bench 110 = .ok (.iconst 4, 1) := by decide +kernel
theorem dX9_bench_111 : decode cX9_bench 111 = .ok (.iload_n 3, 1) := by decide +kernel
theorem dX9_bench_112 : decode cX9_bench 112 = .ok (.iastore, 1) := by decide +kernel
theorem dX9_bench_113 : decode cX9_bench 113 = .ok (.iload 4, 2) := by decide +kernel
theorem dX9_bench_115 : decode cX9_bench 115 = .ok (.ireturn, 1) := by decide +kernel
theorem dX9_comes_0 : decode cX9_comes 0 = .ok (.aload_n 0, 1) := by decide +kernel
theorem dX9_comes_1 : decode cX9_comes 1 = .ok (.getfield 9, 3) := by decide +kernel
theorem dX9_comes_4 : decode cX9_comes 4 = .ok (.iconst 1, 1) := by decide +kernel
theorem dX9_comes_5 : decode cX9_comes 5 = .ok (.iaload, 1) := by decide +kernel
theorem dX9_comes_6 : decode cX9_comes 6 = .ok (.istore_n 2, 1) := by decide +kernel
theorem dX9_comes_7 : decode cX9_comes 7 = .ok (.aload_n 0, 1) := by decide +kernel
theorem dX9_comes_8 : decode cX9_comes 8 = .ok (.getfield 9, 3) := by decide +kernel
theorem dX9_comes_11 : decode cX9_comes 11 = .ok (.iconst 1, 1) := by decide +kernel
theorem dX9_comes_12 : decode cX9_comes 12 = .ok (.dup2, 1) := by decide +kernel
theorem dX9_comes_13 : decode cX9_comes 13 = .ok (.iaload, 1) := by decide +kernel
theorem dX9_comes_14 : decode cX9_comes 14 = .ok (.iconst 1, 1) := by decide +kernel
theorem dX9_comes_15 : decode cX9_comes 15 = .ok (.iadd, 1) := by decide +kernel
theorem dX9_comes_16 : decode cX9_comes 16 = .ok (.iastore, 1) := by decide +kernel
theorem dX9_comes_17 : decode cX9_comes 17 = .ok (.aload_n 0, 1) := by decide +kernel
theorem dX9_comes_18 : decode cX9_comes 18 = .ok (.iload_n 2, 1) := by decide +kernel
theorem dX9_comes_19 : decode cX9_comes 19 = .ok (.iconst 0, 1) := by decide +kernel
theorem dX9_comes_20 : decode cX9_comes 20 = .ok (.iload_n 1, 1) := by decide +kernel
theorem dX9_comes_21 : decode cX9_comes 21 = .ok (.invokevirtual 122, 3) := by decide +kernel
theorem dX9_comes_24 : decode cX9_comes 24 = .ok (.aload_n 0, 1) := by decide +kernel
theorem dX9_comes_25 : decode cX9_comes 25 = .ok (.iload_n 2, 1) := by decide +kernel
theorem dX9_comes_26 : decode cX9_comes 26 = .ok (.iconst 1, 1) := by decide +kernel
theorem dX9_comes_27 : decode cX9_comes 27 = .ok (.iconst (-1), 1) := by decide +kernel
theorem dX9_comes_28 : decode cX9_comes 28 = .ok (.invokevirtual 122, 3) := by decide +kernel
theorem dX9_comes_31 : decode cX9_comes 31 = .ok (.aload_n 0, 1) := by decide +kernel
theorem dX9_comes_32 : decode cX9_comes 32 = .ok (.iload_n 2, 1) := by decide +kernel
theorem dX9_comes_33 : decode cX9_comes 33 = .ok (.iconst 2, 1) := by decide +kernel
theorem dX9_comes_34 : decode cX9_comes 34 = .ok (.iconst 0, 1) := by decide +kernel
theorem dX9_comes_35 : decode cX9_comes 35 = .ok (.invokevirtual 122, 3) := by decide +kernel
theorem dX9_comes_38 : decode cX9_comes 38 = .ok (.aload_n 0, 1) := by decide +kernel
theorem dX9_comes_39 : decode cX9_comes 39 = .ok (.iload_n 2, 1) := by decide +kernel
theorem dX9_comes_40 : decode cX9_comes 40 = .ok (.iconst 3, 1) := by decide +kernel
theorem dX9_comes_41 : decode cX9_comes 41 = .ok (.iconst 0, 1) := by decide +kernel
theorem dX9_comes_42 : decode cX9_comes 42 = .ok (.invokevirtual 122, 3) := by decide +kernel
theorem dX9_comes_45 : decode cX9_comes 45 = .ok (.iload_n 2, 1) := by decide +kernel
theorem dX9_comes_46 : decode cX9_comes 46 = .ok (.ireturn, 1) := by decide +kernel
theorem dX9_sitter_0 : decode cX9_sitter 0 = .ok (.iload_n 1, 1) := by decide +kernel
theorem dX9_sitter_1 : decode cX9_sitter 1 = .ok (.iconst 0, 1) := by decide +kernel
theorem dX9_sitter_2 : decode cX9_sitter 2 = .ok (.iconst 5, 1) := by decide +kernel
theorem dX9_sitter_3 : decode cX9_sitter 3 = .ok (.invokestatic 79, 3) := by decide +kernel
theorem dX9_sitter_6 : decode cX9_sitter 6 = .ok (.ifCond .ne 6, 3) := by decide +kernel
theorem dX9_sitter_9 : decode cX9_sitter 9 = .ok (.ldc 118, 2) := by decide +kernel
theorem dX9_sitter_11 : decode cX9_sitter 11 = .ok (.ireturn, 1) := by decide +kernel
theorem dX9_sitter_12 : decode cX9_sitter 12 = .ok (.aload_n 0, 1) := by decide +kernel
theorem dX9_sitter_13 : decode cX9_sitter 13 = .ok (.getfield 9, 3) := by decide +kernel
theorem dX9_sitter_16 : decode cX9_sitter 16 = .ok (.iconst 1, 1) := by decide +kernel
theorem dX9_sitter_17 : decode cX9_sitter 17 = .ok (.iaload, 1) := by decide +kernel
theorem dX9_sitter_18 : decode cX9_sitter 18 = .ok (.bipush 12, 2) := by decide +kernel
theorem dX9_sitter_20 : decode cX9_sitter 20 = .ok (.if_icmp .ne 8, 3) := by decide +kernel
theorem dX9_sitter_23 : decode cX9_sitter 23 = .ok (.ldc 126, 2) := by decide +kernel
theorem dX9_sitter_25 : decode cX9_sitter 25 = .ok (.goto 8, 3) := by decide +kernel
theorem dX9_sitter_28 : decode cX9_sitter 28 = .ok (.aload_n 0, 1) := by decide +kernel
theorem dX9_sitter_29 : decode cX9_sitter 29 = .ok (.iload_n 1, 1) := by decide +kernel
theorem dX9_sitter_30 : decode cX9_sitter 30 = .ok (.invokevirtual 127, 3) := by decide +kernel
theorem dX9_sitter_33 : decode cX9_sitter 33 = .ok (.ireturn, 1) := by decide +kernel
theorem dX9_worthOf_0 : decode cX9_worthOf 0 = .ok (.aload_n 0, 1) := by decide +kernel
theorem dX9_worthOf_1 : decode cX9_worthOf 1 = .ok (.iload_n 1, 1) := by decide +kernel
theorem dX9_worthOf_2 : decode cX9_worthOf 2 = .ok (.iconst 3, 1) := by decide +kernel
theorem dX9_worthOf_3 : decode cX9_worthOf 3 = .ok (.invokevirtual 87, 3) := by decide +kernel
theorem dX9_worthOf_6 : decode cX9_worthOf 6 = .ok (.istore_n 2, 1) := by decide +kernel
theorem dX9_worthOf_7 : decode cX9_worthOf 7 = .ok (.aload_n 0, 1) := by decide +kernel
theorem dX9_worthOf_8 : decode cX9_worthOf 8 = .ok (.iload_n 1, 1) := by decide +kernel
theorem dX9_worthOf_9 : decode cX9_worthOf 9 = .ok (.iconst 0, 1) := by decide +kernel
theorem dX9_worthOf_10 : decode cX9_worthOf 10 = .ok (.invokevirtual 87, 3) := by decide +kernel
theorem dX9_worthOf_13 : decode cX9_worthOf 13 = .ok (.tableswitch 59 1 5 #[35, 40, 45, 52, 57], 35) := by decide +kernel
theorem dX9_worthOf_48 : decode cX9_worthOf 48 = .ok (.iload_n 2, 1) := by decide +kernel
theorem dX9_worthOf_49 : decode cX9_worthOf 49 = .ok (.bipush 6, 2) := by decide +kernel
theorem dX9_worthOf_51 : decode cX9_worthOf 51 = .ok (.iadd, 1) := by decide +kernel
theorem dX9_worthOf_52 : decode cX9_worthOf 52 = .ok (.ireturn, 1) := by decide +kernel
theorem dX9_worthOf_53 : decode cX9_worthOf 53 = .ok (.bipush 99, 2) := by decide +kernel
theorem dX9_worthOf_55 : decode cX9_worthOf 55 = .ok (.iload_n 2, 1) := by decide +kernel
theorem dX9_worthOf_56 : decode cX9_worthOf 56 = .ok (.isub, 1) := by decide +kernel
theorem dX9_worthOf_57 : decode cX9_worthOf 57 = .ok (.ireturn, 1) := by decide +kernel
theorem dX9_worthOf_58 : decode cX9_worthOf 58 = .ok (.iconst 2, 1) := by decide +kernel
theorem dX9_worthOf_59 : decode cX9_worthOf 59 = .ok (.iload_n 2, 1) := by decide +kernel
theorem dX9_worthOf_60 : decode cX9_worthOf 60 = .ok (.bipush 6, 2) := by decide +kernel
theorem dX9_worthOf_62 : decode cX9_worthOf 62 = .ok (.iadd, 1) := by decide +kernel
theorem dX9_worthOf_63 : decode cX9_worthOf 63 = .ok (.imul, 1) := by decide +kernel
theorem dX9_worthOf_64 : decode cX9_worthOf 64 = .ok (.ireturn, 1) := by decide +kernel
theorem dX9_worthOf_65 : decode cX9_worthOf 65 = .ok (.bipush 95, 2) := by decide +kernel
theorem dX9_worthOf_67 : decode cX9_worthOf 67 = .ok (.iload_n 2, 1) := by decide +kernel
theorem dX9_worthOf_68 : decode cX9_worthOf 68 = .ok (.isub, 1) := by decide +kernel
theorem dX9_worthOf_69 : decode cX9_worthOf 69 = .ok (.ireturn, 1) := by decide +kernel
theorem dX9_worthOf_70 : decode cX9_worthOf 70 = .ok (.iconst 3, 1) := by decide +kernel
theorem dX9_worthOf_71 : decode cX9_worthOf 71 = .ok (.ireturn, 1) := by decide +kernel
theorem dX9_worthOf_72 : decode cX9_worthOf 72 = .ok (.iload_n 2, 1) := by decide +kernel
theorem dX9_worthOf_73 : decode cX9_worthOf 73 = .ok (.ireturn, 1) := by decide +kernel
theorem dX9_told_0 : decode cX9_told 0 = .ok (.aload_n 0, 1) := by decide +kernel
theorem dX9_told_1 : decode cX9_told 1 = .ok (.iload_n 1, 1) := by decide +kernel
theorem dX9_told_2 : decode cX9_told 2 = .ok (.invokevirtual 130, 3) := by decide +kernel
theorem dX9_told_5 : decode cX9_told 5 = .ok (.ifCond .ne 6, 3) := by decide +kernel
theorem dX9_told_8 : decode cX9_told 8 = .ok (.ldc 118, 2) := by decide +kernel
theorem dX9_told_10 : decode cX9_told 10 = .ok (.ireturn, 1) := by decide +kernel
theorem dX9_told_11 : decode cX9_told 11 = .ok (.iload_n 2, 1) := by decide +kernel
theorem dX9_told_12 : decode cX9_told 12 = .ok (.tableswitch 69 0 6 #[44, 44, 44, 44, 51, 57, 63], 44) := by decide +kernel
theorem dX9_told_56 : decode cX9_told 56 = .ok (.aload_n 0, 1) := by decide +kernel
theorem dX9_told_57 : decode cX9_told 57 = .ok (.iload_n 1, 1) := by decide +kernel
theorem dX9_told_58 : decode cX9_told 58 = .ok (.iload_n 2, 1) := by decide +kernel
theorem dX9_told_59 : decode cX9_told 59 = .ok (.invokevirtual 87, 3) := by decide +kernel
theorem dX9_told_62 : decode cX9_told 62 = .ok (.ireturn, 1) := by decide +kernel
theorem dX9_told_63 : decode cX9_told 63 = .ok (.aload_n 0, 1) := by decide +kernel
theorem dX9_told_64 : decode cX9_told 64 = .ok (.iload_n 1, 1) := by decide +kernel
theorem dX9_told_65 : decode cX9_told 65 = .ok (.invokevirtual 94, 3) := by decide +kernel
theorem dX9_told_68 : decode cX9_told 68 = .ok (.ireturn, 1) := by decide +kernel
theorem dX9_told_69 : decode cX9_told 69 = .ok (.aload_n 0, 1) := by decide +kernel
theorem dX9_told_70 : decode cX9_told 70 = .ok (.iload_n 1, 1) := by decide +kernel
theorem dX9_told_71 : decode cX9_told 71 = .ok (.invokevirtual 133, 3) := by decide +kernel
theorem dX9_told_74 : decode cX9_told 74 = .ok (.ireturn, 1) := by decide +kernel
theorem dX9_told_75 : decode cX9_told 75 = .ok (.aload_n 0, 1) := by decide +kernel
theorem dX9_told_76 : decode cX9_told 76 = .ok (.iload_n 1, 1) := by decide +kernel
theorem dX9_told_77 : decode cX9_told 77 = .ok (.invokevirtual 136, 3) := by decide +kernel
theorem dX9_told_80 : decode cX9_told 80 = .ok (.ireturn, 1) := by decide +kernel
theorem dX9_told_81 : decode cX9_told 81 = .ok (.ldc 118, 2) := by decide +kernel
theorem dX9_told_83 : decode cX9_told 83 = .ok (.ireturn, 1) := by decide +kernel
theorem dX9_isUnder_0 : decode cX9_isUnder 0 = .ok (.iload_n 1, 1) := by decide +kernel
theorem dX9_isUnder_1 : decode cX9_isUnder 1 = .ok (.ifCond .eq 28, 3) := by decide +kernel
theorem dX9_isUnder_4 : decode cX9_isUnder 4 = .ok (.iload_n 0, 1) := by decide +kernel
theorem dX9_isUnder_5 : decode cX9_isUnder 5 = .ok (.iload_n 1, 1) := by decide +kernel
theorem dX9_isUnder_6 : decode cX9_isUnder 6 = .ok (.if_icmp .eq 23, 3) := by decide +kernel
theorem dX9_isUnder_9 : decode cX9_isUnder 9 = .ok (.iload_n 1, 1) := by decide +kernel
theorem dX9_isUnder_10 : decode cX9_isUnder 10 = .ok (.iconst 1, 1) := by decide +kernel
theorem dX9_isUnder_11 : decode cX9_isUnder 11 = .ok (.if_icmp .ne 8, 3) := by decide +kernel
theorem dX9_isUnder_14 : decode cX9_isUnder 14 = .ok (.iload_n 0, 1) := by decide +kernel
theorem dX9_isUnder_15 : decode cX9_isUnder 15 = .ok (.iconst 3, 1) := by decide +kernel
theorem dX9_isUnder_16 : decode cX9_isUnder 16 = .ok (.if_icmp .eq 13, 3) := by decide +kernel
theorem dX9_isUnder_19 : decode cX9_isUnder 19 = .ok (.iload_n 1, 1) := by decide +kernel
theorem dX9_isUnder_20 : decode cX9_isUnder 20 = .ok (.iconst 2, 1) := by decide +kernel
theorem dX9_isUnder_21 : decode cX9_isUnder 21 = .ok (.if_icmp .ne 12, 3) := by decide +kernel
theorem dX9_isUnder_24 : decode cX9_isUnder 24 = .ok (.iload_n 0, 1) := by decide +kernel
theorem dX9_isUnder_25 : decode cX9_isUnder 25 = .ok (.iconst 4, 1) := by decide +kernel
theorem dX9_isUnder_26 : decode cX9_isUnder 26 = .ok (.if_icmp .ne 7, 3) := by decide +kernel
theorem dX9_isUnder_29 : decode cX9_isUnder 29 = .ok (.iconst 1, 1) := by decide +kernel
theorem dX9_isUnder_30 : decode cX9_isUnder 30 = .ok (.goto 4, 3) := by decide +kernel
theorem dX9_isUnder_33 : decode cX9_isUnder 33 = .ok (.iconst 0, 1) := by decide +kernel
theorem dX9_isUnder_34 : decode cX9_isUnder 34 = .ok (.ireturn, 1) := by decide +kernel
theorem dX9_as_0 : decode cX9_as 0 = .ok (.aload_n 0, 1) := by decide +kernel
theorem dX9_as_1 : decode cX9_as 1 = .ok (.iload_n 1, 1) := by decide +kernel
theorem dX9_as_2 : decode cX9_as 2 = .ok (.invokevirtual 130, 3) := by decide +kernel
theorem dX9_as_5 : decode cX9_as 5 = .ok (.ifCond .eq 12, 3) := by decide +kernel
theorem dX9_as_8 : decode cX9_as 8 = .ok (.iload_n 2, 1) := by decide +kernel
theorem dX9_as_9 : decode cX9_as 9 = .ok (.iconst 0, 1) := by decide +kernel
theorem dX9_as_10 : decode cX9_as 10 = .ok (.iconst 5, 1) := by decide +kernel
theorem dX9_as_11 : decode cX9_as 11 = .ok (.invokestatic 79, 3) := by decide +kernel
theorem dX9_as_14 : decode cX9_as 14 = .ok (.ifCond .ne 6, 3) := by decide +kernel
theorem dX9_as_17 : decode cX9_as 17 = .ok (.ldc 118, 2) := by decide +kernel
theorem dX9_as_19 : decode cX9_as 19 = .ok (.ireturn, 1) := by decide +kernel
theorem dX9_as_20 : decode cX9_as 20 = .ok (.aload_n 0, 1) := by decide +kernel
theorem dX9_as_21 : decode cX9_as 21 = .ok (.iload_n 1, 1) := by decide +kernel
theorem dX9_as_22 : decode cX9_as 22 = .ok (.iconst 0, 1) := by decide +kernel
theorem dX9_as_23 : decode cX9_as 23 = .ok (.invokevirtual 87, 3) := by decide +kernel
theorem dX9_as_26 : decode cX9_as 26 = .ok (.iload_n 2, 1) := by decide +kernel
theorem dX9_as_27 : decode cX9_as 27 = .ok (.invokestatic 139, 3) := by decide +kernel
theorem dX9_as_30 : decode cX9_as 30 = .ok (.ifCond .eq 12, 3) := by decide +kernel
theorem dX9_as_33 : decode cX9_as 33 = .ok (.aload_n 0, 1) := by decide +kernel
theorem dX9_as_34 : decode cX9_as 34 = .ok (.iload_n 1, 1) := by decide +kernel
theorem dX9_as_35 : decode cX9_as 35 = .ok (.iconst 3, 1) := by decide +kernel
theorem dX9_as_36 : decode cX9_as 36 = .ok (.invokevirtual 87, 3) := by decide +kernel
theorem dX9_as_39 : decode cX9_as 39 = .ok (.goto 5, 3) := by decide +kernel
theorem dX9_as_42 : decode cX9_as 42 = .ok (.ldc 142, 2) := by decide +kernel
theorem dX9_as_44 : decode cX9_as 44 = .ok (.ireturn, 1) := by decide +kernel
theorem dX9_turns_0 : decode cX9_turns 0 = .ok (.aload_n 0, 1) := by decide +kernel
theorem dX9_turns_1 : decode cX9_turns 1 = .ok (.iload_n 1, 1) := by decide +kernel
theorem dX9_turns_2 : decode cX9_turns 2 = .ok (.invokevirtual 130, 3) := by decide +kernel
theorem dX9_turns_5 : decode cX9_turns 5 = .ok (.ifCond .eq 12, 3) := by decide +kernel
theorem dX9_turns_8 : decode cX9_turns 8 = .ok (.iload_n 2, 1) := by decide +kernel
theorem dX9_turns_9 : decode cX9_turns 9 = .ok (.iconst 0, 1) := by decide +kernel
theorem dX9_turns_10 : decode cX9_turns 10 = .ok (.iconst 5, 1) := by decide +kernel
theorem dX9_turns_11 : decode cX9_turns 11 = .ok (.invokestatic 79, 3) := by decide +kernel
theorem dX9_turns_14 : decode cX9_turns 14 = .ok (.ifCond .ne 6, 3) := by decide +kernel
theorem dX9_turns_17 : decode cX9_turns 17 = .ok (.ldc 118, 2) := by decide +kernel
theorem dX9_turns_19 : decode cX9_turns 19 = .ok (.ireturn, 1) := by decide +kernel
theorem dX9_turns_20 : decode cX9_turns 20 = .ok (.aload_n 0, 1) := by decide +kernel
theorem dX9_turns_21 : decode cX9_turns 21 = .ok (.iload_n 1, 1) := by decide +kernel
theorem dX9_turns_22 : decode cX9_turns 22 = .ok (.iconst 1, 1) := by decide +kernel
theorem dX9_turns_23 : decode cX9_turns 23 = .ok (.invokevirtual 87, 3) := by decide +kernel
theorem dX9_turns_26 : decode cX9_turns 26 = .ok (.ifCond .lt 8, 3) := by decide +kernel
theorem dX9_turns_29 : decode cX9_turns 29 = .ok (.ldc 143, 2) := by decide +kernel
theorem dX9_turns_31 : decode cX9_turns 31 = .ok (.goto 14, 3) := by decide +kernel
theorem dX9_turns_34 : decode cX9_turns 34 = .ok (.aload_n 0, 1) := by decide +kernel
theorem dX9_turns_35 : decode cX9_turns 35 = .ok (.bipush 24, 2) := by decide +kernel
theorem dX9_turns_37 : decode cX9_turns 37 = .ok (.iconst 4, 1) := by decide +kernel
theorem dX9_turns_38 : decode cX9_turns 38 = .ok (.iload_n 1, 1) := by decide +kernel
theorem dX9_turns_39 : decode cX9_turns 39 = .ok (.imul, 1) := by decide +kernel
theorem dX9_turns_40 : decode cX9_turns 40 = .ok (.iadd, 1) := by decide +kernel
theorem dX9_turns_41 : decode cX9_turns 41 = .ok (.iload_n 2, 1) := by decide +kernel
theorem dX9_turns_42 : decode cX9_turns 42 = .ok (.invokevirtual 144, 3) := by decide +kernel
theorem dX9_turns_45 : decode cX9_turns 45 = .ok (.ireturn, 1) := by decide +kernel
theorem dX9_paysAt_0 : decode cX9_paysAt 0 = .ok (.aload_n 0, 1) := by decide +kernel
theorem dX9_paysAt_1 : decode cX9_paysAt 1 = .ok (.iconst 0, 1) := by decide +kernel
theorem dX9_paysAt_2 : decode cX9_paysAt 2 = .ok (.invokevirtual 147, 3) := by decide +kernel
theorem dX9_paysAt_5 : decode cX9_paysAt 5 = .ok (.istore_n 3, 1) := by decide +kernel
theorem dX9_paysAt_6 : decode cX9_paysAt 6 = .ok (.aload_n 0, 1) := by decide +kernel
theorem dX9_paysAt_7 : decode cX9_paysAt 7 = .ok (.getfield 48, 3) := by decide +kernel
theorem dX9_paysAt_10 : decode cX9_paysAt 10 = .ok (.iconst 0, 1) := by decide +kernel
theorem dX9_paysAt_11 : decode cX9_paysAt 11 = .ok (.aload_n 0, 1) := by decide +kernel
theorem dX9_paysAt_12 : decode cX9_paysAt 12 = .ok (.getfield 9, 3) := by decide +kernel
theorem dX9_paysAt_15 : decode cX9_paysAt 15 = .ok (.bipush 6, 2) := by decide +kernel
theorem dX9_paysAt_17 : decode cX9_paysAt 17 = .ok (.iaload, 1) := by decide +kernel
theorem dX9_paysAt_18 : decode cX9_paysAt 18 = .ok (.iastore, 1) := by decide +kernel
theorem dX9_paysAt_19 : decode cX9_paysAt 19 = .ok (.aload_n 0, 1) := by decide +kernel
theorem dX9_paysAt_20 : decode cX9_paysAt 20 = .ok (.getfield 48, 3) := by decide +kernel
theorem dX9_paysAt_23 : decode cX9_paysAt 23 = .ok (.iconst 1, 1) := by decide +kernel
theorem dX9_paysAt_24 : decode cX9_paysAt 24 = .ok (.aload_n 0, 1) := by decide +kernel
theorem dX9_paysAt_25 : decode cX9_paysAt 25 = .ok (.getfield 9, 3) := by decide +kernel
theorem dX9_paysAt_28 : decode cX9_paysAt 28 = .ok (.bipush 12, 2) := by decide +kernel
theorem dX9_paysAt_30 : decode cX9_paysAt 30 = .ok (.iload_n 2, 1) := by decide +kernel
theorem dX9_paysAt_31 : decode cX9_paysAt 31 = .ok (.iadd, 1) := by decide +kernel
theorem dX9_paysAt_32 : decode cX9_paysAt 32 = .ok (.iaload, 1) := by decide +kernel
theorem dX9_paysAt_33 : decode cX9_paysAt 33 = .ok (.iastore, 1) := by decide +kernel
theorem dX9_paysAt_34 : decode cX9_paysAt 34 = .ok (.aload_n 0, 1) := by decide +kernel
theorem dX9_paysAt_35 : decode cX9_paysAt 35 = .ok (.getfield 48, 3) := by decide +kernel
theorem dX9_paysAt_38 : decode cX9_paysAt 38 = .ok (.iconst 2, 1) := by decide +kernel
theorem dX9_paysAt_39 : decode cX9_paysAt 39 = .ok (.aload_n 0, 1) := by decide +kernel
theorem dX9_paysAt_40 : decode cX9_paysAt 40 = .ok (.iload_n 1, 1) := by decide +kernel
theorem dX9_paysAt_41 : decode cX9_paysAt 41 = .ok (.iconst 3, 1) := by decide +kernel
theorem dX9_paysAt_42 : decode cX9_paysAt 42 = .ok (.invokevirtual 87, 3) := by decide +kernel
theorem dX9_paysAt_45 : decode cX9_paysAt 45 = .ok (.iastore, 1) := by decide +kernel
theorem dX9_paysAt_46 : decode cX9_paysAt 46 = .ok (.iload_n 3, 1) := by decide +kernel
theorem dX9_paysAt_47 : decode cX9_paysAt 47 = .ok (.ifCond .ge 23, 3) := by decide +kernel
theorem dX9_paysAt_50 : decode cX9_paysAt 50 = .ok (.aload_n 0, 1) := by decide +kernel
theorem dX9_paysAt_51 : decode cX9_paysAt 51 = .ok (.getfield 9, 3) := by decide +kernel
theorem dX9_paysAt_54 : decode cX9_paysAt 54 = .ok (.bipush 6, 2) := by decide +kernel
theorem dX9_paysAt_56 : decode cX9_paysAt 56 = .ok (.iaload, 1) := by decide +kernel
theorem dX9_paysAt_57 : decode cX9_paysAt 57 = .ok (.aload_n 0, 1) := by decide +kernel
theorem dX9_paysAt_58 : decode cX9_paysAt 58 = .ok (.getfield 9, 3) := by decide +kernel
theorem dX9_paysAt_61 : decode cX9_paysAt 61 = .ok (.bipush 12, 2) := by decide +kernel
theorem dX9_paysAt_63 : decode cX9_paysAt 63 = .ok (.iload_n 2, 1) := by decide +kernel
theorem dX9_paysAt_64 : decode cX9_paysAt 64 = .ok (.iadd, 1) := by decide +kernel
theorem dX9_paysAt_65 : decode cX9_paysAt 65 = .ok (.iaload, 1) := by decide +kernel
theorem dX9_paysAt_66 : decode cX9_paysAt 66 = .ok (.iadd, 1) := by decide +kernel
theorem dX9_paysAt_67 : decode cX9_paysAt 67 = .ok (.goto 17, 3) := by decide +kernel
theorem dX9_paysAt_70 : decode cX9_paysAt 70 = .ok (.aload_n 0, 1) := by decide +kernel
theorem dX9_paysAt_71 : decode cX9_paysAt 71 = .ok (.iload_n 3, 1) := by decide +kernel
theorem dX9_paysAt_72 : decode cX9_paysAt 72 = .ok (.invokevirtual 150, 3) := by decide +kernel
theorem dX9_paysAt_75 : decode cX9_paysAt 75 = .ok (.sipush (-999), 3) := by decide +kernel
theorem dX9_paysAt_78 : decode cX9_paysAt 78 = .ok (.sipush 999, 3) := by decide +kernel
theorem dX9_paysAt_81 : decode cX9_paysAt 81 = .ok (.invokestatic 153, 3) := by decide +kernel
theorem dX9_paysAt_84 : decode cX9_paysAt 84 = .ok (.istore 4, 2) := by decide +kernel
theorem dX9_paysAt_86 : decode cX9_paysAt 86 = .ok (.aload_n 0, 1) := by decide +kernel
theorem dX9_paysAt_87 : decode cX9_paysAt 87 = .ok (.iload_n 1, 1) := by decide +kernel
theorem dX9_paysAt_88 : decode cX9_paysAt 88 = .ok (.iconst 0, 1) := by decide +kernel
theorem dX9_paysAt_89 : decode cX9_paysAt 89 = .ok (.invokevirtual 87, 3) := by decide +kernel
theorem dX9_paysAt_92 : decode cX9_paysAt 92 = .ok (.tableswitch 56 1 4 #[32, 37, 42, 49], 32) := by decide +kernel
theorem dX9_paysAt_124 : decode cX9_paysAt 124 = .ok (.iconst 2, 1) := by decide +kernel
theorem dX9_paysAt_125 : decode cX9_paysAt 125 = .ok (.iload 4, 2) := by decide +kernel
theorem dX9_paysAt_127 : decode cX9_paysAt 127 = .ok (.imul, 1) := by decide +kernel
theorem dX9_paysAt_128 : decode cX9_paysAt 128 = .ok (.ireturn, 1) := by decide +kernel
theorem dX9_paysAt_129 : decode cX9_paysAt 129 = .ok (.iload 4, 2) := by decide +kernel
theorem dX9_paysAt_131 : decode cX9_paysAt 131 = .ok (.iconst 2, 1) := by decide +kernel
theorem dX9_paysAt_132 : decode cX9_paysAt 132 = .ok (.isub, 1) := by decide +kernel
theorem dX9_paysAt_133 : decode cX9_paysAt 133 = .ok (.ireturn, 1) := by decide +kernel
theorem dX9_paysAt_134 : decode cX9_paysAt 134 = .ok (.iconst 2, 1) := by decide +kernel
theorem dX9_paysAt_135 : decode cX9_paysAt 135 = .ok (.iload 4, 2) := by decide +kernel
theorem dX9_paysAt_137 : decode cX9_paysAt 137 = .ok (.imul, 1) := by decide +kernel
theorem dX9_paysAt_138 : decode cX9_paysAt 138 = .ok (.iconst 1, 1) := by decide +kernel
theorem dX9_paysAt_139 : decode cX9_paysAt 139 = .ok (.iadd, 1) := by decide +kernel
theorem dX9_paysAt_140 : decode cX9_paysAt 140 = .ok (.ireturn, 1) := by decide +kernel
theorem dX9_paysAt_141 : decode cX9_paysAt 141 = .ok (.iload 4, 2) := by decide +kernel
theorem dX9_paysAt_143 : decode cX9_paysAt 143 = .ok (.iconst 2, 1) := by decide +kernel
theorem dX9_paysAt_144 : decode cX9_paysAt 144 = .ok (.isub, 1) := by decide +kernel
theorem dX9_paysAt_145 : decode cX9_paysAt 145 = .ok (.iconst 2, 1) := by decide +kernel
theorem dX9_paysAt_146 : decode cX9_paysAt 146 = .ok (.idiv, 1) := by decide +kernel
theorem dX9_paysAt_147 : decode cX9_paysAt 147 = .ok (.ireturn, 1) := by decide +kernel
theorem dX9_paysAt_148 : decode cX9_paysAt 148 = .ok (.iload 4, 2) := by decide +kernel
theorem dX9_paysAt_150 : decode cX9_paysAt 150 = .ok (.ireturn, 1) := by decide +kernel
theorem dX9_sitsDown_0 : decode cX9_sitsDown 0 = .ok (.aload_n 0, 1) := by decide +kernel
theorem dX9_sitsDown_1 : decode cX9_sitsDown 1 = .ok (.iload_n 1, 1) := by decide +kernel
theorem dX9_sitsDown_2 : decode cX9_sitsDown 2 = .ok (.iload_n 2, 1) := by decide +kernel
theorem dX9_sitsDown_3 : decode cX9_sitsDown 3 = .ok (.invokevirtual 157, 3) := by decide +kernel
theorem dX9_sitsDown_6 : decode cX9_sitsDown 6 = .ok (.istore_n 3, 1) := by decide +kernel
theorem dX9_sitsDown_7 : decode cX9_sitsDown 7 = .ok (.aload_n 0, 1) := by decide +kernel
theorem dX9_sitsDown_8 : decode cX9_sitsDown 8 = .ok (.iload_n 1, 1) := by decide +kernel
theorem dX9_sitsDown_9 : decode cX9_sitsDown 9 = .ok (.iconst 1, 1) := by decide +kernel
theorem dX9_sitsDown_10 : decode cX9_sitsDown 10 = .ok (.iload_n 2, 1) := by decide +kernel
theorem dX9_sitsDown_11 : decode cX9_sitsDown 11 = .ok (.invokevirtual 122, 3) := by decide +kernel
theorem dX9_sitsDown_14 : decode cX9_sitsDown 14 = .ok (.aload_n 0, 1) := by decide +kernel
theorem dX9_sitsDown_15 : decode cX9_sitsDown 15 = .ok (.iload_n 1, 1) := by decide +kernel
theorem dX9_sitsDown_16 : decode cX9_sitsDown 16 = .ok (.iconst 3, 1) := by decide +kernel
theorem dX9_sitsDown_17 : decode cX9_sitsDown 17 = .ok (.aload_n 0, 1) := by decide +kernel
theorem dX9_sitsDown_18 : decode cX9_sitsDown 18 = .ok (.iload_n 1, 1) := by decide +kernel
theorem dX9_sitsDown_19 : decode cX9_sitsDown 19 = .ok (.iconst 3, 1) := by decide +kernel
theorem dX9_sitsDown_20 : decode cX9_sitsDown 20 = .ok (.invokevirtual 87, 3) := by decide +kernel
theorem dX9_sitsDown_23 : decode cX9_sitsDown 23 = .ok (.iconst 1, 1) := by decide +kernel
theorem dX9_sitsDown_24 : decode cX9_sitsDown 24 = .ok (.iadd, 1) := by decide +kernel
theorem dX9_sitsDown_25 : decode cX9_sitsDown 25 = .ok (.invokevirtual 122, 3) := by decide +kernel
theorem dX9_sitsDown_28 : decode cX9_sitsDown 28 = .ok (.aload_n 0, 1) := by decide +kernel
theorem dX9_sitsDown_29 : decode cX9_sitsDown 29 = .ok (.iload_n 1, 1) := by decide +kernel
theorem dX9_sitsDown_30 : decode cX9_sitsDown 30 = .ok (.iconst 2, 1) := by decide +kernel
theorem dX9_sitsDown_31 : decode cX9_sitsDown 31 = .ok (.aload_n 0, 1) := by decide +kernel
theorem dX9_sitsDown_32 : decode cX9_sitsDown 32 = .ok (.iload_n 1, 1) := by decide +kernel
theorem dX9_sitsDown_33 : decode cX9_sitsDown 33 = .ok (.iconst 2, 1) := by decide +kernel
theorem dX9_sitsDown_34 : decode cX9_sitsDown 34 = .ok (.invokevirtual 87, 3) := by decide +kernel
theorem dX9_sitsDown_37 : decode cX9_sitsDown 37 = .ok (.iload_n 3, 1) := by decide +kernel
theorem dX9_sitsDown_38 : decode cX9_sitsDown 38 = .ok (.isub, 1) := by decide +kernel
theorem dX9_sitsDown_39 : decode cX9_sitsDown 39 = .ok (.sipush (-9999), 3) := by decide +kernel
theorem dX9_sitsDown_42 : decode cX9_sitsDown 42 = .ok (.sipush 9999, 3) := by decide +kernel
theorem dX9_sitsDown_45 : decode cX9_sitsDown 45 = .ok (.invokestatic 153, 3) := by decide +kernel
theorem dX9_sitsDown_48 : decode cX9_sitsDown 48 = .ok (.invokevirtual 122, 3) := by decide +kernel
theorem dX9_sitsDown_51 : decode cX9_sitsDown 51 = .ok (.aload_n 0, 1) := by decide +kernel
theorem dX9_sitsDown_52 : decode cX9_sitsDown 52 = .ok (.getfield 9, 3) := by decide +kernel
theorem dX9_sitsDown_55 : decode cX9_sitsDown 55 = .ok (.bipush 10, 2) := by decide +kernel
theorem dX9_sitsDown_57 : decode cX9_sitsDown 57 = .ok (.dup2, 1) := by decide +kernel
theorem dX9_sitsDown_58 : decode cX9_sitsDown 58 = .ok (.iaload, 1) := by decide +kernel
theorem dX9_sitsDown_59 : decode cX9_sitsDown 59 = .ok (.iload_n 3, 1) := by decide +kernel
theorem dX9_sitsDown_60 : decode cX9_sitsDown 60 = .ok (.iadd, 1) := by decide +kernel
theorem dX9_sitsDown_61 : decode cX9_sitsDown 61 = .ok (.iastore, 1) := by decide +kernel
theorem dX9_sitsDown_62 : decode cX9_sitsDown 62 = .ok (.iload_n 3, 1) := by decide +kernel
theorem dX9_sitsDown_63 : decode cX9_sitsDown 63 = .ok (.ireturn, 1) := by decide +kernel
theorem dX9_sits_0 : decode cX9_sits 0 = .ok (.aload_n 0, 1) := by decide +kernel
theorem dX9_sits_1 : decode cX9_sits 1 = .ok (.iload_n 1, 1) := by decide +kernel
theorem dX9_sits_2 : decode cX9_sits 2 = .ok (.invokevirtual 130, 3) := by decide +kernel
theorem dX9_sits_5 : decode cX9_sits 5 = .ok (.ifCond .eq 11, 3) := by decide +kernel
theorem dX9_sits_8 : decode cX9_sits 8 = .ok (.aload_n 0, 1) := by decide +kernel
theorem dX9_sits_9 : decode cX9_sits 9 = .ok (.iload_n 2, 1) := by decide +kernel
theorem dX9_sits_10 : decode cX9_sits 10 = .ok (.invokevirtual 98, 3) := by decide +kernel
theorem dX9_sits_13 : decode cX9_sits 13 = .ok (.ifCond .ne 6, 3) := by decide +kernel
theorem dX9_sits_16 : decode cX9_sits 16 = .ok (.ldc 118, 2) := by decide +kernel
theorem dX9_sits_18 : decode cX9_sits 18 = .ok (.ireturn, 1) := by decide +kernel
theorem dX9_sits_19 : decode cX9_sits 19 = .ok (.aload_n 0, 1) := by decide +kernel
theorem dX9_sits_20 : decode cX9_sits 20 = .ok (.iload_n 1, 1) := by decide +kernel
theorem dX9_sits_21 : decode cX9_sits 21 = .ok (.iload_n 2, 1) := by decide +kernel
theorem dX9_sits_22 : decode cX9_sits 22 = .ok (.aload_n 0, 1) := by decide +kernel
theorem dX9_sits_23 : decode cX9_sits 23 = .ok (.invokevirtual 111, 3) := by decide +kernel
theorem dX9_sits_26 : decode cX9_sits 26 = .ok (.invokevirtual 115, 3) := by decide +kernel
theorem dX9_sits_29 : decode cX9_sits 29 = .ok (.ifCond .eq 12, 3) := by decide +kernel
theorem dX9_sits_32 : decode cX9_sits 32 = .ok (.aload_n 0, 1) := by decide +kernel
theorem dX9_sits_33 : decode cX9_sits 33 = .ok (.iload_n 1, 1) := by decide +kernel
theorem dX9_sits_34 : decode cX9_sits 34 = .ok (.iload_n 2, 1) := by decide +kernel
theorem dX9_sits_35 : decode cX9_sits 35 = .ok (.invokevirtual 160, 3) := by decide +kernel
theorem dX9_sits_38 : decode cX9_sits 38 = .ok (.goto 5, 3) := by decide +kernel
theorem dX9_sits_41 : decode cX9_sits 41 = .ok (.ldc 143, 2) := by decide +kernel
theorem dX9_sits_43 : decode cX9_sits 43 = .ok (.ireturn, 1) := by decide +kernel
theorem dX9_rises_0 : decode cX9_rises 0 = .ok (.aload_n 0, 1) := by decide +kernel
theorem dX9_rises_1 : decode cX9_rises 1 = .ok (.iload_n 1, 1) := by decide +kernel
theorem dX9_rises_2 : decode cX9_rises 2 = .ok (.invokevirtual 130, 3) := by decide +kernel
theorem dX9_rises_5 : decode cX9_rises 5 = .ok (.ifCond .ne 6, 3) := by decide +kernel
theorem dX9_rises_8 : decode cX9_rises 8 = .ok (.ldc 118, 2) := by decide +kernel
theorem dX9_rises_10 : decode cX9_rises 10 = .ok (.ireturn, 1) := by decide +kernel
theorem dX9_rises_11 : decode cX9_rises 11 = .ok (.aload_n 0, 1) := by decide +kernel
theorem dX9_rises_12 : decode cX9_rises 12 = .ok (.iload_n 1, 1) := by decide +kernel
theorem dX9_rises_13 : decode cX9_rises 13 = .ok (.iconst 1, 1) := by decide +kernel
theorem dX9_rises_14 : decode cX9_rises 14 = .ok (.invokevirtual 87, 3) := by decide +kernel
theorem dX9_rises_17 : decode cX9_rises 17 = .ok (.ifCond .ge 8, 3) := by decide +kernel
theorem dX9_rises_20 : decode cX9_rises 20 = .ok (.ldc 143, 2) := by decide +kernel
theorem dX9_rises_22 : decode cX9_rises 22 = .ok (.goto 16, 3) := by decide +kernel
theorem dX9_rises_25 : decode cX9_rises 25 = .ok (.aload_n 0, 1) := by decide +kernel
theorem dX9_rises_26 : decode cX9_rises 26 = .ok (.bipush 24, 2) := by decide +kernel
theorem dX9_rises_28 : decode cX9_rises 28 = .ok (.iconst 4, 1) := by decide +kernel
theorem dX9_rises_29 : decode cX9_rises 29 = .ok (.iload_n 1, 1) := by decide +kernel
theorem dX9_rises_30 : decode cX9_rises 30 = .ok (.imul, 1) := by decide +kernel
theorem dX9_rises_31 : decode cX9_rises 31 = .ok (.iadd, 1) := by decide +kernel
theorem dX9_rises_32 : decode cX9_rises 32 = .ok (.iconst 1, 1) := by decide +kernel
theorem dX9_rises_33 : decode cX9_rises 33 = .ok (.iadd, 1) := by decide +kernel
theorem dX9_rises_34 : decode cX9_rises 34 = .ok (.iconst (-1), 1) := by decide +kernel
theorem dX9_rises_35 : decode cX9_rises 35 = .ok (.invokevirtual 144, 3) := by decide +kernel
theorem dX9_rises_38 : decode cX9_rises 38 = .ok (.ireturn, 1) := by decide +kernel
theorem dX9_who_0 : decode cX9_who 0 = .ok (.aload_n 0, 1) := by decide +kernel
theorem dX9_who_1 : decode cX9_who 1 = .ok (.iload_n 1, 1) := by decide +kernel
theorem dX9_who_2 : decode cX9_who 2 = .ok (.invokevirtual 98, 3) := by decide +kernel
theorem dX9_who_5 : decode cX9_who 5 = .ok (.ifCond .ne 6, 3) := by decide +kernel
theorem dX9_who_8 : decode cX9_who 8 = .ok (.ldc 118, 2) := by decide +kernel
theorem dX9_who_10 : decode cX9_who 10 = .ok (.ireturn, 1) := by decide +kernel
theorem dX9_who_11 : decode cX9_who 11 = .ok (.iconst (-1), 1) := by decide +kernel
theorem dX9_who_12 : decode cX9_who 12 = .ok (.istore_n 2, 1) := by decide +kernel
theorem dX9_who_13 : decode cX9_who 13 = .ok (.iconst 0, 1) := by decide +kernel
theorem dX9_who_14 : decode cX9_who 14 = .ok (.istore_n 3, 1) := by decide +kernel
theorem dX9_who_15 : decode cX9_who 15 = .ok (.iload_n 3, 1) := by decide +kernel
theorem dX9_who_16 : decode cX9_who 16 = .ok (.aload_n 0, 1) := by decide +kernel
theorem dX9_who_17 : decode cX9_who 17 = .ok (.getfield 9, 3) := by decide +kernel
theorem dX9_who_20 : decode cX9_who 20 = .ok (.iconst 1, 1) := by decide +kernel
theorem dX9_who_21 : decode cX9_who 21 = .ok (.iaload, 1) := by decide +kernel
theorem dX9_who_22 : decode cX9_who 22 = .ok (.if_icmp .ge 28, 3) := by decide +kernel
theorem dX9_who_25 : decode cX9_who 25 = .ok (.aload_n 0, 1) := by decide +kernel
theorem dX9_who_26 : decode cX9_who 26 = .ok (.iload_n 3, 1) := by decide +kernel
theorem dX9_who_27 : decode cX9_who 27 = .ok (.invokevirtual 94, 3) := by decide +kernel
theorem dX9_who_30 : decode cX9_who 30 = .ok (.iload_n 1, 1) := by decide +kernel
theorem dX9_who_31 : decode cX9_who 31 = .ok (.ishr, 1) := by decide +kernel
theorem dX9_who_32 : decode cX9_who 32 = .ok (.iconst 1, 1) := by decide +kernel
theorem dX9_who_33 : decode cX9_who 33 = .ok (.iand, 1) := by decide +kernel
theorem dX9_who_34 : decode cX9_who 34 = .ok (.iconst 1, 1) := by decide +kernel
theorem dX9_who_35 : decode cX9_who 35 = .ok (.if_icmp .ne 7, 3) := by decide +kernel
theorem dX9_who_38 : decode cX9_who 38 = .ok (.iload_n 3, 1) := by decide +kernel
theorem dX9_who_39 : decode cX9_who 39 = .ok (.goto 4, 3) := by decide +kernel
theorem dX9_who_42 : decode cX9_who 42 = .ok (.iload_n 2, 1) := by decide +kernel
theorem dX9_who_43 : decode cX9_who 43 = .ok (.istore_n 2, 1) := by decide +kernel
theorem dX9_who_44 : decode cX9_who 44 = .ok (.iinc 3 1, 3) := by decide +kernel
theorem dX9_who_47 : decode cX9_who 47 = .ok (.goto (-32), 3) := by decide +kernel
theorem dX9_who_50 : decode cX9_who 50 = .ok (.iload_n 2, 1) := by decide +kernel
theorem dX9_who_51 : decode cX9_who 51 = .ok (.invokestatic 163, 3) := by decide +kernel
theorem dX9_who_54 : decode cX9_who 54 = .ok (.ireturn, 1) := by decide +kernel
theorem dX9_cushion_0 : decode cX9_cushion 0 = .ok (.aload_n 0, 1) := by decide +kernel
theorem dX9_cushion_1 : decode cX9_cushion 1 = .ok (.iload_n 1, 1) := by decide +kernel
theorem dX9_cushion_2 : decode cX9_cushion 2 = .ok (.invokevirtual 98, 3) := by decide +kernel
theorem dX9_cushion_5 : decode cX9_cushion 5 = .ok (.ifCond .eq 25, 3) := by decide +kernel
theorem dX9_cushion_8 : decode cX9_cushion 8 = .ok (.iload_n 2, 1) := by decide +kernel
theorem dX9_cushion_9 : decode cX9_cushion 9 = .ok (.iconst 0, 1) := by decide +kernel
theorem dX9_cushion_10 : decode cX9_cushion 10 = .ok (.bipush 99, 2) := by decide +kernel
theorem dX9_cushion_12 : decode cX9_cushion 12 = .ok (.invokestatic 79, 3) := by decide +kernel
theorem dX9_cushion_15 : decode cX9_cushion 15 = .ok (.ifCond .eq 15, 3) := by decide +kernel
theorem dX9_cushion_18 : decode cX9_cushion 18 = .ok (.aload_n 0, 1) := by decide +kernel
theorem dX9_cushion_19 : decode cX9_cushion 19 = .ok (.bipush 12, 2) := by decide +kernel
theorem dX9_cushion_21 : decode cX9_cushion 21 = .ok (.iload_n 1, 1) := by decide +kernel
theorem dX9_cushion_22 : decode cX9_cushion 22 = .ok (.iadd, 1) := by decide +kernel
theorem dX9_cushion_23 : decode cX9_cushion 23 = .ok (.iload_n 2, 1) := by decide +kernel
theorem dX9_cushion_24 : decode cX9_cushion 24 = .ok (.invokevirtual 144, 3) := by decide +kernel
theorem dX9_cushion_27 : decode cX9_cushion 27 = .ok (.goto 5, 3) := by decide +kernel
theorem dX9_cushion_30 : decode cX9_cushion 30 = .ok (.ldc 118, 2) := by decide +kernel
theorem dX9_cushion_32 : decode cX9_cushion 32 = .ok (.ireturn, 1) := by decide +kernel
theorem dX9_rule_0 : decode cX9_rule 0 = .ok (.iload_n 1, 1) := by decide +kernel
theorem dX9_rule_1 : decode cX9_rule 1 = .ok (.iconst 0, 1) := by decide +kernel
theorem dX9_rule_2 : decode cX9_rule 2 = .ok (.iconst 3, 1) := by decide +kernel
theorem dX9_rule_3 : decode cX9_rule 3 = .ok (.invokestatic 79, 3) := by decide +kernel
theorem dX9_rule_6 : decode cX9_rule 6 = .ok (.ifCond .eq 43, 3) := by decide +kernel
theorem dX9_rule_9 : decode cX9_rule 9 = .ok (.iload_n 2, 1) := by decide +kernel
theorem dX9_rule_10 : decode cX9_rule 10 = .ok (.iconst 0, 1) := by decide +kernel
theorem dX9_rule_11 : decode cX9_rule 11 = .ok (.iload_n 1, 1) := by decide +kernel
theorem dX9_rule_12 : decode cX9_rule 12 = .ok (.ifCond .ne 8, 3) := by decide +kernel
theorem dX9_rule_15 : decode cX9_rule 15 = .ok (.bipush 99, 2) := by decide +kernel
theorem dX9_rule_17 : decode cX9_rule 17 = .ok (.goto 14, 3) := by decide +kernel
theorem dX9_rule_20 : decode cX9_rule 20 = .ok (.iload_n 1, 1) := by decide +kernel
theorem dX9_rule_21 : decode cX9_rule 21 = .ok (.iconst 1, 1) := by decide +kernel
theorem dX9_rule_22 : decode cX9_rule 22 = .ok (.if_icmp .ne 7, 3) := by decide +kernel
theorem dX9_rule_25 : decode cX9_rule 25 = .ok (.iconst 2, 1) := by decide +kernel
theorem dX9_rule_26 : decode cX9_rule 26 = .ok (.goto 5, 3) := by decide +kernel
theorem dX9_rule_29 : decode cX9_rule 29 = .ok (.bipush 100, 2) := by decide +kernel
theorem dX9_rule_31 : decode cX9_rule 31 = .ok (.invokestatic 79, 3) := by decide +kernel
theorem dX9_rule_34 : decode cX9_rule 34 = .ok (.ifCond .eq 15, 3) := by decide +kernel
theorem dX9_rule_37 : decode cX9_rule 37 = .ok (.aload_n 0, 1) := by decide +kernel
theorem dX9_rule_38 : decode cX9_rule 38 = .ok (.bipush 6, 2) := by decide +kernel
theorem dX9_rule_40 : decode cX9_rule 40 = .ok (.iload_n 1, 1) := by decide +kernel
theorem dX9_rule_41 : decode cX9_rule 41 = .ok (.iadd, 1) := by decide +kernel
theorem dX9_rule_42 : decode cX9_rule 42 = .ok (.iload_n 2, 1) := by decide +kernel
theorem dX9_rule_43 : decode cX9_rule 43 = .ok (.invokevirtual 144, 3) := by decide +kernel
theorem dX9_rule_46 : decode cX9_rule 46 = .ok (.goto 5, 3) := by decide +kernel
theorem dX9_rule_49 : decode cX9_rule 49 = .ok (.ldc 118, 2) := by decide +kernel
theorem dX9_rule_51 : decode cX9_rule 51 = .ok (.ireturn, 1) := by decide +kernel
theorem dX9_draw_0 : decode cX9_draw 0 = .ok (.aload_n 0, 1) := by decide +kernel
theorem dX9_draw_1 : decode cX9_draw 1 = .ok (.getfield 9, 3) := by decide +kernel
theorem dX9_draw_4 : decode cX9_draw 4 = .ok (.iconst 0, 1) := by decide +kernel
theorem dX9_draw_5 : decode cX9_draw 5 = .ok (.aload_n 0, 1) := by decide +kernel
theorem dX9_draw_6 : decode cX9_draw 6 = .ok (.getfield 9, 3) := by decide +kernel
theorem dX9_draw_9 : decode cX9_draw 9 = .ok (.iconst 0, 1) := by decide +kernel
theorem dX9_draw_10 : decode cX9_draw 10 = .ok (.iaload, 1) := by decide +kernel
theorem dX9_draw_11 : decode cX9_draw 11 = .ok (.ldc 166, 2) := by decide +kernel
theorem dX9_draw_13 : decode cX9_draw 13 = .ok (.imul, 1) := by decide +kernel
theorem dX9_draw_14 : decode cX9_draw 14 = .ok (.sipush 12345, 3) := by decide +kernel
theorem dX9_draw_17 : decode cX9_draw 17 = .ok (.iadd, 1) := by decide +kernel
theorem dX9_draw_18 : decode cX9_draw 18 = .ok (.iastore, 1) := by decide +kernel
theorem dX9_draw_19 : decode cX9_draw 19 = .ok (.aload_n 0, 1) := by decide +kernel
theorem dX9_draw_20 : decode cX9_draw 20 = .ok (.getfield 9, 3) := by decide +kernel
theorem dX9_draw_23 : decode cX9_draw 23 = .ok (.iconst 0, 1) := by decide +kernel
theorem dX9_draw_24 : decode cX9_draw 24 = .ok (.iaload, 1) := by decide +kernel
theorem dX9_draw_25 : decode cX9_draw 25 = .ok (.bipush 8, 2) := by decide +kernel
theorem dX9_draw_27 : decode cX9_draw 27 = .ok (.iushr, 1) := by decide +kernel
theorem dX9_draw_28 : decode cX9_draw 28 = .ok (.ireturn, 1) := by decide +kernel
theorem dX9_deal_0 : decode cX9_deal 0 = .ok (.iload_n 1, 1) := by decide +kernel
theorem dX9_deal_1 : decode cX9_deal 1 = .ok (.iconst 1, 1) := by decide +kernel
theorem dX9_deal_2 : decode cX9_deal 2 = .ok (.bipush 12, 2) := by decide +kernel
theorem dX9_deal_4 : decode cX9_deal 4 = .ok (.invokestatic 79, 3) := by decide +kernel
theorem dX9_deal_7 : decode cX9_deal 7 = .ok (.ifCond .ne 6, 3) := by decide +kernel
theorem dX9_deal_10 : decode cX9_deal 10 = .ok (.ldc 118, 2) := by decide +kernel
theorem dX9_deal_12 : decode cX9_deal 12 = .ok (.ireturn, 1) := by decide +kernel
theorem dX9_deal_13 : decode cX9_deal 13 = .ok (.iconst 0, 1) := by decide +kernel
theorem dX9_deal_14 : decode cX9_deal 14 = .ok (.istore_n 2, 1) := by decide +kernel
theorem dX9_deal_15 : decode cX9_deal 15 = .ok (.iload_n 2, 1) := by decide +kernel
theorem dX9_deal_16 : decode cX9_deal 16 = .ok (.iload_n 1, 1) := by decide +kernel
theorem dX9_deal_17 : decode cX9_deal 17 = .ok (.if_icmp .ge 32, 3) := by decide +kernel
theorem dX9_deal_20 : decode cX9_deal 20 = .ok (.aload_n 0, 1) := by decide +kernel
theorem dX9_deal_21 : decode cX9_deal 21 = .ok (.getfield 9, 3) := by decide +kernel
theorem dX9_deal_24 : decode cX9_deal 24 = .ok (.iconst 1, 1) := by decide +kernel
theorem dX9_deal_25 : decode cX9_deal 25 = .ok (.iaload, 1) := by decide +kernel
theorem dX9_deal_26 : decode cX9_deal 26 = .ok (.bipush 12, 2) := by decide +kernel
theorem dX9_deal_28 : decode cX9_deal 28 = .ok (.if_icmp .ge 21, 3) := by decide +kernel
theorem dX9_deal_31 : decode cX9_deal 31 = .ok (.aload_n 0, 1) := by decide +kernel
theorem dX9_deal_32 : decode cX9_deal 32 = .ok (.aload_n 0, 1) := by decide +kernel
theorem dX9_deal_33 : decode cX9_deal 33 = .ok (.invokevirtual 167, 3) := by decide +kernel
theorem dX9_deal_36 : decode cX9_deal 36 = .ok (.bipush 6, 2) := by decide +kernel
theorem dX9_deal_38 : decode cX9_deal 38 = .ok (.irem, 1) := by decide +kernel
theorem dX9_deal_39 : decode cX9_deal 39 = .ok (.invokevirtual 127, 3) := by decide +kernel
theorem dX9_deal_42 : decode cX9_deal 42 = .ok (.istore_n 3, 1) := by decide +kernel
theorem dX9_deal_43 : decode cX9_deal 43 = .ok (.iinc 2 1, 3) := by decide +kernel
theorem dX9_deal_46 : decode cX9_deal 46 = .ok (.goto (-31), 3) := by decide +kernel
theorem dX9_deal_49 : decode cX9_deal 49 = .ok (.iload_n 2, 1) := by decide +kernel
theorem dX9_deal_50 : decode cX9_deal 50 = .ok (.ireturn, 1) := by decide +kernel
theorem dX9_seed_0 : decode cX9_seed 0 = .ok (.aload_n 0, 1) := by decide +kernel
theorem dX9_seed_1 : decode cX9_seed 1 = .ok (.iconst 0, 1) := by decide +kernel
theorem dX9_seed_2 : decode cX9_seed 2 = .ok (.iload_n 1, 1) := by decide +kernel
theorem dX9_seed_3 : decode cX9_seed 3 = .ok (.invokevirtual 144, 3) := by decide +kernel
theorem dX9_seed_6 : decode cX9_seed 6 = .ok (.ireturn, 1) := by decide +kernel
theorem dX9_bits_0 : decode cX9_bits 0 = .ok (.iconst 0, 1) := by decide +kernel
theorem dX9_bits_1 : decode cX9_bits 1 = .ok (.istore_n 1, 1) := by decide +kernel
theorem dX9_bits_2 : decode cX9_bits 2 = .ok (.iconst 0, 1) := by decide +kernel
theorem dX9_bits_3 : decode cX9_bits 3 = .ok (.istore_n 2, 1) := by decide +kernel
theorem dX9_bits_4 : decode cX9_bits 4 = .ok (.iload_n 2, 1) := by decide +kernel
theorem dX9_bits_5 : decode cX9_bits 5 = .ok (.bipush 12, 2) := by decide +kernel
theorem dX9_bits_7 : decode cX9_bits 7 = .ok (.if_icmp .ge 17, 3) := by decide +kernel
theorem dX9_bits_10 : decode cX9_bits 10 = .ok (.iload_n 1, 1) := by decide +kernel
theorem dX9_bits_11 : decode cX9_bits 11 = .ok (.iload_n 0, 1) := by decide +kernel
theorem dX9_bits_12 : decode cX9_bits 12 = .ok (.iload_n 2, 1) := by decide +kernel
theorem dX9_bits_13 : decode cX9_bits 13 = .ok (.ishr, 1) := by decide +kernel
theorem dX9_bits_14 : decode cX9_bits 14 = .ok (.iconst 1, 1) := by decide +kernel
theorem dX9_bits_15 : decode cX9_bits 15 = .ok (.iand, 1) := by decide +kernel
theorem dX9_bits_16 : decode cX9_bits 16 = .ok (.iadd, 1) := by decide +kernel
theorem dX9_bits_17 : decode cX9_bits 17 = .ok (.istore_n 1, 1) := by decide +kernel
theorem dX9_bits_18 : decode cX9_bits 18 = .ok (.iinc 2 1, 3) := by decide +kernel
theorem dX9_bits_21 : decode cX9_bits 21 = .ok (.goto (-17), 3) := by decide +kernel
theorem dX9_bits_24 : decode cX9_bits 24 = .ok (.iload_n 1, 1) := by decide +kernel
theorem dX9_bits_25 : decode cX9_bits 25 = .ok (.ireturn, 1) := by decide +kernel
theorem dX9_manySit_0 : decode cX9_manySit 0 = .ok (.iconst 0, 1) := by decide +kernel
theorem dX9_manySit_1 : decode cX9_manySit 1 = .ok (.istore_n 1, 1) := by decide +kernel
theorem dX9_manySit_2 : decode cX9_manySit 2 = .ok (.iconst 0, 1) := by decide +kernel
theorem dX9_manySit_3 : decode cX9_manySit 3 = .ok (.istore_n 2, 1) := by decide +kernel
theorem dX9_manySit_4 : decode cX9_manySit 4 = .ok (.iload_n 2, 1) := by decide +kernel
theorem dX9_manySit_5 : decode cX9_manySit 5 = .ok (.aload_n 0, 1) := by decide +kernel
theorem dX9_manySit_6 : decode cX9_manySit 6 = .ok (.getfield 9, 3) := by decide +kernel
theorem dX9_manySit_9 : decode cX9_manySit 9 = .ok (.iconst 1, 1) := by decide +kernel
theorem dX9_manySit_10 : decode cX9_manySit 10 = .ok (.iaload, 1) := by decide +kernel
theorem dX9_manySit_11 : decode cX9_manySit 11 = .ok (.if_icmp .ge 26, 3) := by decide +kernel
theorem dX9_manySit_14 : decode cX9_manySit 14 = .ok (.iload_n 1, 1) := by decide +kernel
theorem dX9_manySit_15 : decode cX9_manySit 15 = .ok (.aload_n 0, 1) := by decide +kernel
theorem dX9_manySit_16 : decode cX9_manySit 16 = .ok (.iload_n 2, 1) := by decide +kernel
theorem dX9_manySit_17 : decode cX9_manySit 17 = .ok (.iconst 1, 1) := by decide +kernel
theorem dX9_manySit_18 : decode cX9_manySit 18 = .ok (.invokevirtual 87, 3) := by decide +kernel
theorem dX9_manySit_21 : decode cX9_manySit 21 = .ok (.ifCond .ge 7, 3) := by decide +kernel
theorem dX9_manySit_24 : decode cX9_manySit 24 = .ok (.iconst 0, 1) := by decide +kernel
theorem dX9_manySit_25 : decode cX9_manySit 25 = .ok (.goto 4, 3) := by decide +kernel
theorem dX9_manySit_28 : decode cX9_manySit 28 = .ok (.iconst 1, 1) := by decide +kernel
theorem dX9_manySit_29 : decode cX9_manySit 29 = .ok (.iadd, 1) := by decide +kernel
theorem dX9_manySit_30 : decode cX9_manySit 30 = .ok (.istore_n 1, 1) := by decide +kernel
theorem dX9_manySit_31 : decode cX9_manySit 31 = .ok (.iinc 2 1, 3) := by decide +kernel
theorem dX9_manySit_34 : decode cX9_manySit 34 = .ok (.goto (-30), 3) := by decide +kernel
theorem dX9_manySit_37 : decode cX9_manySit 37 = .ok (.iload_n 1, 1) := by decide +kernel
theorem dX9_manySit_38 : decode cX9_manySit 38 = .ok (.ireturn, 1) := by decide +kernel
theorem dX9_placeIn_0 : decode cX9_placeIn 0 = .ok (.iload_n 1, 1) := by decide +kernel
theorem dX9_placeIn_1 : decode cX9_placeIn 1 = .ok (.istore_n 2, 1) := by decide +kernel
theorem dX9_placeIn_2 : decode cX9_placeIn 2 = .ok (.iconst 0, 1) := by decide +kernel
theorem dX9_placeIn_3 : decode cX9_placeIn 3 = .ok (.istore_n 3, 1) := by decide +kernel
theorem dX9_placeIn_4 : decode cX9_placeIn 4 = .ok (.iload_n 2, 1) := by decide +kernel
theorem dX9_placeIn_5 : decode cX9_placeIn 5 = .ok (.ifCond .gt 11, 3) := by decide +kernel
theorem dX9_placeIn_8 : decode cX9_placeIn 8 = .ok (.iload_n 0, 1) := by decide +kernel
theorem dX9_placeIn_9 : decode cX9_placeIn 9 = .ok (.iload_n 3, 1) := by decide +kernel
theorem dX9_placeIn_10 : decode cX9_placeIn 10 = .ok (.ishr, 1) := by decide +kernel
theorem dX9_placeIn_11 : decode cX9_placeIn 11 = .ok (.iconst 1, 1) := by decide +kernel
theorem dX9_placeIn_12 : decode cX9_placeIn 12 = .ok (.iand, 1) := by decide +kernel
theorem dX9_placeIn_13 : decode cX9_placeIn 13 = .ok (.ifCond .ne 17, 3) := by decide +kernel
theorem dX9_placeIn_16 : decode cX9_placeIn 16 = .ok (.iload_n 2, 1) := by decide +kernel
theorem dX9_placeIn_17 : decode cX9_placeIn 17 = .ok (.iload_n 0, 1) := by decide +kernel
theorem dX9_placeIn_18 : decode cX9_placeIn 18 = .ok (.iload_n 3, 1) := by decide +kernel
theorem dX9_placeIn_19 : decode cX9_placeIn 19 = .ok (.ishr, 1) := by decide +kernel
theorem dX9_placeIn_20 : decode cX9_placeIn 20 = .ok (.iconst 1, 1) := by decide +kernel
theorem dX9_placeIn_21 : decode cX9_placeIn 21 = .ok (.iand, 1) := by decide +kernel
theorem dX9_placeIn_22 : decode cX9_placeIn 22 = .ok (.isub, 1) := by decide +kernel
theorem dX9_placeIn_23 : decode cX9_placeIn 23 = .ok (.istore_n 2, 1) := by decide +kernel
theorem dX9_placeIn_24 : decode cX9_placeIn 24 = .ok (.iinc 3 1, 3) := by decide +kernel
theorem dX9_placeIn_27 : decode cX9_placeIn 27 = .ok (.goto (-23), 3) := by decide +kernel
theorem dX9_placeIn_30 : decode cX9_placeIn 30 = .ok (.iload_n 3, 1) := by decide +kernel
theorem dX9_placeIn_31 : decode cX9_placeIn 31 = .ok (.ireturn, 1) := by decide +kernel
theorem dX9_softest_0 : decode cX9_softest 0 = .ok (.iload_n 1, 1) := by decide +kernel
theorem dX9_softest_1 : decode cX9_softest 1 = .ok (.iconst 0, 1) := by decide +kernel
theorem dX9_softest_2 : decode cX9_softest 2 = .ok (.invokestatic 170, 3) := by decide +kernel
theorem dX9_softest_5 : decode cX9_softest 5 = .ok (.istore_n 2, 1) := by decide +kernel
theorem dX9_softest_6 : decode cX9_softest 6 = .ok (.iload_n 2, 1) := by decide +kernel
theorem dX9_softest_7 : decode cX9_softest 7 = .ok (.iconst 1, 1) := by decide +kernel
theorem dX9_softest_8 : decode cX9_softest 8 = .ok (.iadd, 1) := by decide +kernel
theorem dX9_softest_9 : decode cX9_softest 9 = .ok (.istore_n 3, 1) := by decide +kernel
theorem dX9_softest_10 : decode cX9_softest 10 = .ok (.iload_n 3, 1) := by decide +kernel
theorem dX9_softest_11 : decode cX9_softest 11 = .ok (.aload_n 0, 1) := by decide +kernel
theorem dX9_softest_12 : decode cX9_softest 12 = .ok (.getfield 9, 3) := by decide +kernel
theorem dX9_softest_15 : decode cX9_softest 15 = .ok (.iconst 2, 1) := by decide +kernel
theorem dX9_softest_16 : decode cX9_softest 16 = .ok (.iaload, 1) := by decide +kernel
theorem dX9_softest_17 : decode cX9_softest 17 = .ok (.if_icmp .ge 45, 3) := by decide +kernel
theorem dX9_softest_20 : decode cX9_softest 20 = .ok (.iload_n 1, 1) := by decide +kernel
theorem dX9_softest_21 : decode cX9_softest 21 = .ok (.iload_n 3, 1) := by decide +kernel
theorem dX9_softest_22 : decode cX9_softest 22 = .ok (.ishr, 1) := by decide +kernel
theorem dX9_softest_23 : decode cX9_softest 23 = .ok (.iconst 1, 1) := by decide +kernel
theorem dX9_softest_24 : decode cX9_softest 24 = .ok (.iand, 1) := by decide +kernel
theorem dX9_softest_25 : decode cX9_softest 25 = .ok (.iconst 1, 1) := by decide +kernel
theorem dX9_softest_26 : decode cX9_softest 26 = .ok (.if_icmp .ne 28, 3) := by decide +kernel
theorem dX9_softest_29 : decode cX9_softest 29 = .ok (.aload_n 0, 1) := by decide +kernel
theorem dX9_softest_30 : decode cX9_softest 30 = .ok (.getfield 9, 3) := by decide +kernel
theorem dX9_softest_33 : decode cX9_softest 33 = .ok (.bipush 12, 2) := by decide +kernel
theorem dX9_softest_35 : decode cX9_softest 35 = .ok (.iload_n 3, 1) := by decide +kernel
theorem dX9_softest_36 : decode cX9_softest 36 = .ok (.iadd, 1) := by decide +kernel
theorem dX9_softest_37 : decode cX9_softest 37 = .ok (.iaload, 1) := by decide +kernel
theorem dX9_softest_38 : decode cX9_softest 38 = .ok (.aload_n 0, 1) := by decide +kernel
theorem dX9_softest_39 : decode cX9_softest 39 = .ok (.getfield 9, 3) := by decide +kernel
theorem dX9_softest_42 : decode cX9_softest 42 = .ok (.bipush 12, 2) := by decide +kernel
theorem dX9_softest_44 : decode cX9_softest 44 = .ok (.iload_n 2, 1) := by decide +kernel
theorem dX9_softest_45 : decode cX9_softest 45 = .ok (.iadd, 1) := by decide +kernel
theorem dX9_softest_46 : decode cX9_softest 46 = .ok (.iaload, 1) := by decide +kernel
theorem dX9_softest_47 : decode cX9_softest 47 = .ok (.if_icmp .le 7, 3) := by decide +kernel
theorem dX9_softest_50 : decode cX9_softest 50 = .ok (.iload_n 3, 1) := by decide +kernel
theorem dX9_softest_51 : decode cX9_softest 51 = .ok (.goto 4, 3) := by decide +kernel
theorem dX9_softest_54 : decode cX9_softest 54 = .ok (.iload_n 2, 1) := by decide +kernel
theorem dX9_softest_55 : decode cX9_softest 55 = .ok (.istore_n 2, 1) := by decide +kernel
theorem dX9_softest_56 : decode cX9_softest 56 = .ok (.iinc 3 1, 3) := by decide +kernel
theorem dX9_softest_59 : decode cX9_softest 59 = .ok (.goto (-49), 3) := by decide +kernel
theorem dX9_softest_62 : decode cX9_softest 62 = .ok (.iload_n 2, 1) := by decide +kernel
theorem dX9_softest_63 : decode cX9_softest 63 = .ok (.ireturn, 1) := by decide +kernel
theorem dX9_comesIn_0 : decode cX9_comesIn 0 = .ok (.iconst 0, 1) := by decide +kernel
theorem dX9_comesIn_1 : decode cX9_comesIn 1 = .ok (.istore_n 1, 1) := by decide +kernel
theorem dX9_comesIn_2 : decode cX9_comesIn 2 = .ok (.iload_n 1, 1) := by decide +kernel
theorem dX9_comesIn_3 : decode cX9_comesIn 3 = .ok (.aload_n 0, 1) := by decide +kernel
theorem dX9_comesIn_4 : decode cX9_comesIn 4 = .ok (.getfield 9, 3) := by decide +kernel
theorem dX9_comesIn_7 : decode cX9_comesIn 7 = .ok (.iconst 1, 1) := by decide +kernel
theorem dX9_comesIn_8 : decode cX9_comesIn 8 = .ok (.iaload, 1) := by decide +kernel
theorem dX9_comesIn_9 : decode cX9_comesIn 9 = .ok (.if_icmp .ge 18, 3) := by decide +kernel
theorem dX9_comesIn_12 : decode cX9_comesIn 12 = .ok (.aload_n 0, 1) := by decide +kernel
theorem dX9_comesIn_13 : decode cX9_comesIn 13 = .ok (.iload_n 1, 1) := by decide +kernel
theorem dX9_comesIn_14 : decode cX9_comesIn 14 = .ok (.iconst 1, 1) := by decide +kernel
theorem dX9_comesIn_15 : decode cX9_comesIn 15 = .ok (.invokevirtual 87, 3) := by decide +kernel
theorem dX9_comesIn_18 : decode cX9_comesIn 18 = .ok (.ifCond .lt 9, 3) := by decide +kernel
theorem dX9_comesIn_21 : decode cX9_comesIn 21 = .ok (.iinc 1 1, 3) := by decide +kernel
theorem dX9_comesIn_24 : decode cX9_comesIn 24 = .ok (.goto (-22), 3) := by decide +kernel
theorem dX9_comesIn_27 : decode cX9_comesIn 27 = .ok (.iload_n 1, 1) := by decide +kernel
theorem dX9_comesIn_28 : decode cX9_comesIn 28 = .ok (.aload_n 0, 1) := by decide +kernel
theorem dX9_comesIn_29 : decode cX9_comesIn 29 = .ok (.getfield 9, 3) := by decide +kernel
theorem dX9_comesIn_32 : decode cX9_comesIn 32 = .ok (.iconst 1, 1) := by decide +kernel
theorem dX9_comesIn_33 : decode cX9_comesIn 33 = .ok (.iaload, 1) := by decide +kernel
theorem dX9_comesIn_34 : decode cX9_comesIn 34 = .ok (.if_icmp .ne 7, 3) := by decide +kernel
theorem dX9_comesIn_37 : decode cX9_comesIn 37 = .ok (.iconst 0, 1) := by decide +kernel
theorem dX9_comesIn_38 : decode cX9_comesIn 38 = .ok (.goto 8, 3) := by decide +kernel
theorem dX9_comesIn_41 : decode cX9_comesIn 41 = .ok (.aload_n 0, 1) := by decide +kernel
theorem dX9_comesIn_42 : decode cX9_comesIn 42 = .ok (.iload_n 1, 1) := by decide +kernel
theorem dX9_comesIn_43 : decode cX9_comesIn 43 = .ok (.invokevirtual 133, 3) := by decide +kernel
theorem dX9_comesIn_46 : decode cX9_comesIn 46 = .ok (.istore_n 2, 1) := by decide +kernel
theorem dX9_comesIn_47 : decode cX9_comesIn 47 = .ok (.iload_n 2, 1) := by decide +kernel
theorem dX9_comesIn_48 : decode cX9_comesIn 48 = .ok (.ifCond .eq 72, 3) := by decide +kernel
theorem dX9_comesIn_51 : decode cX9_comesIn 51 = .ok (.aload_n 0, 1) := by decide +kernel
theorem dX9_comesIn_52 : decode cX9_comesIn 52 = .ok (.getfield 9, 3) := by decide +kernel
theorem dX9_comesIn_55 : decode cX9_comesIn 55 = .ok (.bipush 7, 2) := by decide +kernel
theorem dX9_comesIn_57 : decode cX9_comesIn 57 = .ok (.iaload, 1) := by decide +kernel
theorem dX9_comesIn_58 : decode cX9_comesIn 58 = .ok (.ifCond .ne 19, 3) := by decide +kernel
theorem dX9_comesIn_61 : decode cX9_comesIn 61 = .ok (.iload_n 2, 1) := by decide +kernel
theorem dX9_comesIn_62 : decode cX9_comesIn 62 = .ok (.aload_n 0, 1) := by decide +kernel
theorem dX9_comesIn_63 : decode cX9_comesIn 63 = .ok (.invokevirtual 167, 3) := by decide +kernel
theorem dX9_comesIn_66 : decode cX9_comesIn 66 = .ok (.iload_n 2, 1) := by decide +kernel
theorem dX9_comesIn_67 : decode cX9_comesIn 67 = .ok (.invokestatic 173, 3) := by decide +kernel
theorem dX9_comesIn_70 : decode cX9_comesIn 70 = .ok (.irem, 1) := by decide +kernel
theorem dX9_comesIn_71 : decode cX9_comesIn 71 = .ok (.invokestatic 170, 3) := by decide +kernel
theorem dX9_comesIn_74 : decode cX9_comesIn 74 = .ok (.goto 27, 3) := by decide +kernel
theorem dX9_comesIn_77 : decode cX9_comesIn 77 = .ok (.aload_n 0, 1) := by decide +kernel
theorem dX9_comesIn_78 : decode cX9_comesIn 78 = .ok (.getfield 9, 3) := by decide +kernel
theorem dX9_comesIn_81 : decode cX9_comesIn 81 = .ok (.bipush 7, 2) := by decide +kernel
theorem dX9_comesIn_83 : decode cX9_comesIn 83 = .ok (.iaload, 1) := by decide +kernel
theorem dX9_comesIn_84 : decode cX9_comesIn 84 = .ok (.iconst 1, 1) := by decide +kernel
theorem dX9_comesIn_85 : decode cX9_comesIn 85 = .ok (.if_icmp .ne 11, 3) := by decide +kernel
theorem dX9_comesIn_88 : decode cX9_comesIn 88 = .ok (.iload_n 2, 1) := by decide +kernel
theorem dX9_comesIn_89 : decode cX9_comesIn 89 = .ok (.iconst 0, 1) := by decide +kernel
theorem dX9_comesIn_90 : decode cX9_comesIn 90 = .ok (.invokestatic 170, 3) := by decide +kernel
theorem dX9_comesIn_93 : decode cX9_comesIn 93 = .ok (.goto 8, 3) := by decide +kernel
theorem dX9_comesIn_96 : decode cX9_comesIn 96 = .ok (.aload_n 0, 1) := by decide +kernel
theorem dX9_comesIn_97 : decode cX9_comesIn 97 = .ok (.iload_n 2, 1) := by decide +kernel
theorem dX9_comesIn_98 : decode cX9_comesIn 98 = .ok (.invokevirtual 176, 3) := by decide +kernel
theorem dX9_comesIn_101 : decode cX9_comesIn 101 = .ok (.istore_n 3, 1) := by decide +kernel
theorem dX9_comesIn_102 : decode cX9_comesIn 102 = .ok (.aload_n 0, 1) := by decide +kernel
theorem dX9_comesIn_103 : decode cX9_comesIn 103 = .ok (.iload_n 1, 1) := by decide +kernel
theorem dX9_comesIn_104 : decode cX9_comesIn 104 = .ok (.iload_n 3, 1) := by decide +kernel
theorem dX9_comesIn_105 : decode cX9_comesIn 105 = .ok (.invokevirtual 160, 3) := by decide +kernel
theorem dX9_comesIn_108 : decode cX9_comesIn 108 = .ok (.istore 4, 2) := by decide +kernel
theorem dX9_comesIn_110 : decode cX9_comesIn 110 = .ok (.aload_n 0, 1) := by decide +kernel
theorem dX9_comesIn_111 : decode cX9_comesIn 111 = .ok (.dup, 1) := by decide +kernel
theorem dX9_comesIn_112 : decode cX9_comesIn 112 = .ok (.getfield 179, 3) := by decide +kernel
theorem dX9_comesIn_115 : decode cX9_comesIn 115 = .ok (.iconst 1, 1) := by decide +kernel
theorem dX9_comesIn_116 : decode cX9_comesIn 116 = .ok (.iadd, 1) := by decide +kernel
theorem dX9_comesIn_117 : decode cX9_comesIn 117 = .ok (.putfield 179, 3) := by decide +kernel
theorem dX9_comesIn_120 : decode cX9_comesIn 120 = .ok (.return_, 1) := by decide +kernel
theorem dX9_minute_0 : decode cX9_minute 0 = .ok (.aload_n 0, 1) := by decide +kernel
theorem dX9_minute_1 : decode cX9_minute 1 = .ok (.invokevirtual 167, 3) := by decide +kernel
theorem dX9_minute_4 : decode cX9_minute 4 = .ok (.bipush 100, 2) := by decide +kernel
theorem dX9_minute_6 : decode cX9_minute 6 = .ok (.irem, 1) := by decide +kernel
theorem dX9_minute_7 : decode cX9_minute 7 = .ok (.aload_n 0, 1) := by decide +kernel
theorem dX9_minute_8 : decode cX9_minute 8 = .ok (.getfield 9, 3) := by decide +kernel
theorem dX9_minute_11 : decode cX9_minute 11 = .ok (.bipush 8, 2) := by decide +kernel
theorem dX9_minute_13 : decode cX9_minute 13 = .ok (.iaload, 1) := by decide +kernel
theorem dX9_minute_14 : decode cX9_minute 14 = .ok (.if_icmp .ge 7, 3) := by decide +kernel
theorem dX9_minute_17 : decode cX9_minute 17 = .ok (.aload_n 0, 1) := by decide +kernel
theorem dX9_minute_18 : decode cX9_minute 18 = .ok (.invokevirtual 183, 3) := by decide +kernel
theorem dX9_minute_21 : decode cX9_minute 21 = .ok (.aload_n 0, 1) := by decide +kernel
theorem dX9_minute_22 : decode cX9_minute 22 = .ok (.invokevirtual 167, 3) := by decide +kernel
theorem dX9_minute_25 : decode cX9_minute 25 = .ok (.bipush 100, 2) := by decide +kernel
theorem dX9_minute_27 : decode cX9_minute 27 = .ok (.irem, 1) := by decide +kernel
theorem dX9_minute_28 : decode cX9_minute 28 = .ok (.aload_n 0, 1) := by decide +kernel
theorem dX9_minute_29 : decode cX9_minute 29 = .ok (.getfield 9, 3) := by decide +kernel
theorem dX9_minute_32 : decode cX9_minute 32 = .ok (.bipush 9, 2) := by decide +kernel
theorem dX9_minute_34 : decode cX9_minute 34 = .ok (.iaload, 1) := by decide +kernel
theorem dX9_minute_35 : decode cX9_minute 35 = .ok (.if_icmp .ge 7, 3) := by decide +kernel
theorem dX9_minute_38 : decode cX9_minute 38 = .ok (.iconst 1, 1) := by decide +kernel
theorem dX9_minute_39 : decode cX9_minute 39 = .ok (.goto 4, 3) := by decide +kernel
theorem dX9_minute_42 : decode cX9_minute 42 = .ok (.iconst 0, 1) := by decide +kernel
theorem dX9_minute_43 : decode cX9_minute 43 = .ok (.istore_n 1, 1) := by decide +kernel
theorem dX9_minute_44 : decode cX9_minute 44 = .ok (.iload_n 1, 1) := by decide +kernel
theorem dX9_minute_45 : decode cX9_minute 45 = .ok (.ifCond .eq 29, 3) := by decide +kernel
theorem dX9_minute_48 : decode cX9_minute 48 = .ok (.aload_n 0, 1) := by decide +kernel
theorem dX9_minute_49 : decode cX9_minute 49 = .ok (.getfield 9, 3) := by decide +kernel
theorem dX9_minute_52 : decode cX9_minute 52 = .ok (.iconst 1, 1) := by decide +kernel
theorem dX9_minute_53 : decode cX9_minute 53 = .ok (.iaload, 1) := by decide +kernel
theorem dX9_minute_54 : decode cX9_minute 54 = .ok (.ifCond .le 20, 3) := by decide +kernel
theorem dX9_minute_57 : decode cX9_minute 57 = .ok (.aload_n 0, 1) := by decide +kernel
theorem dX9_minute_58 : decode cX9_minute 58 = .ok (.aload_n 0, 1) := by decide +kernel
theorem dX9_minute_59 : decode cX9_minute 59 = .ok (.invokevirtual 167, 3) := by decide +kernel
theorem dX9_minute_62 : decode cX9_minute 62 = .ok (.aload_n 0, 1) := by decide +kernel
theorem dX9_minute_63 : decode cX9_minute 63 = .ok (.getfield 9, 3) := by decide +kernel
theorem dX9_minute_66 : decode cX9_minute 66 = .ok (.iconst 1, 1) := by decide +kernel
theorem dX9_minute_67 : decode cX9_minute 67 = .ok (.iaload, 1) := by decide +kernel
theorem dX9_minute_68 : decode cX9_minute 68 = .ok (.irem, 1) := by decide +kernel
theorem dX9_minute_69 : decode cX9_minute 69 = .ok (.iconst 1, 1) := by decide +kernel
theorem dX9_minute_70 : decode cX9_minute 70 = .ok (.iconst (-1), 1) := by decide +kernel
theorem dX9_minute_71 : decode cX9_minute 71 = .ok (.invokevirtual 122, 3) := by decide +kernel
theorem dX9_minute_74 : decode cX9_minute 74 = .ok (.aload_n 0, 1) := by decide +kernel
theorem dX9_minute_75 : decode cX9_minute 75 = .ok (.getfield 9, 3) := by decide +kernel
theorem dX9_minute_78 : decode cX9_minute 78 = .ok (.iconst 5, 1) := by decide +kernel
theorem dX9_minute_79 : decode cX9_minute 79 = .ok (.dup2, 1) := by decide +kernel
theorem dX9_minute_80 : decode cX9_minute 80 = .ok (.iaload, 1) := by decide +kernel
theorem dX9_minute_81 : decode cX9_minute 81 = .ok (.iconst 1, 1) := by decide +kernel
theorem dX9_minute_82 : decode cX9_minute 82 = .ok (.iadd, 1) := by decide +kernel
theorem dX9_minute_83 : decode cX9_minute 83 = .ok (.iastore, 1) := by decide +kernel
theorem dX9_minute_84 : decode cX9_minute 84 = .ok (.return_, 1) := by decide +kernel
theorem dX9_goesOn_0 : decode cX9_goesOn 0 = .ok (.iconst 0, 1) := by decide +kernel
theorem dX9_goesOn_1 : decode cX9_goesOn 1 = .ok (.istore_n 2, 1) := by decide +kernel
theorem dX9_goesOn_2 : decode cX9_goesOn 2 = .ok (.iload_n 2, 1) := by decide +kernel
theorem dX9_goesOn_3 : decode cX9_goesOn 3 = .ok (.iload_n 1, 1) := by decide +kernel
theorem dX9_goesOn_4 : decode cX9_goesOn 4 = .ok (.if_icmp .ge 13, 3) := by decide +kernel
theorem dX9_goesOn_7 : decode cX9_goesOn 7 = .ok (.aload_n 0, 1) := by decide +kernel
theorem dX9_goesOn_8 : decode cX9_goesOn 8 = .ok (.invokevirtual 186, 3) := by decide +kernel
theorem dX9_goesOn_11 : decode cX9_goesOn 11 = .ok (.iinc 2 1, 3) := by decide +kernel
theorem dX9_goesOn_14 : decode cX9_goesOn 14 = .ok (.goto (-12), 3) := by decide +kernel
theorem dX9_goesOn_17 : decode cX9_goesOn 17 = .ok (.return_, 1) := by decide +kernel
theorem dX9_minutes_0 : decode cX9_minutes 0 = .ok (.iload_n 1, 1) := by decide +kernel
theorem dX9_minutes_1 : decode cX9_minutes 1 = .ok (.iconst 1, 1) := by decide +kernel
theorem dX9_minutes_2 : decode cX9_minutes 2 = .ok (.bipush 100, 2) := by decide +kernel
theorem dX9_minutes_4 : decode cX9_minutes 4 = .ok (.invokestatic 79, 3) := by decide +kernel
theorem dX9_minutes_7 : decode cX9_minutes 7 = .ok (.ifCond .ne 6, 3) := by decide +kernel
theorem dX9_minutes_10 : decode cX9_minutes 10 = .ok (.ldc 118, 2) := by decide +kernel
theorem dX9_minutes_12 : decode cX9_minutes 12 = .ok (.ireturn, 1) := by decide +kernel
theorem dX9_minutes_13 : decode cX9_minutes 13 = .ok (.aload_n 0, 1) := by decide +kernel
theorem dX9_minutes_14 : decode cX9_minutes 14 = .ok (.iconst 0, 1) := by decide +kernel
theorem dX9_minutes_15 : decode cX9_minutes 15 = .ok (.putfield 179, 3) := by decide +kernel
theorem dX9_minutes_18 : decode cX9_minutes 18 = .ok (.aload_n 0, 1) := by decide +kernel
theorem dX9_minutes_19 : decode cX9_minutes 19 = .ok (.sipush 9999, 3) := by decide +kernel
theorem dX9_minutes_22 : decode cX9_minutes 22 = .ok (.aload_n 0, 1) := by decide +kernel
theorem dX9_minutes_23 : decode cX9_minutes 23 = .ok (.getfield 9, 3) := by decide +kernel
theorem dX9_minutes_26 : decode cX9_minutes 26 = .ok (.iconst 5, 1) := by decide +kernel
theorem dX9_minutes_27 : decode cX9_minutes 27 = .ok (.iaload, 1) := by decide +kernel
theorem dX9_minutes_28 : decode cX9_minutes 28 = .ok (.isub, 1) := by decide +kernel
theorem dX9_minutes_29 : decode cX9_minutes 29 = .ok (.iconst 0, 1) := by decide +kernel
theorem dX9_minutes_30 : decode cX9_minutes 30 = .ok (.iload_n 1, 1) := by decide +kernel
theorem dX9_minutes_31 : decode cX9_minutes 31 = .ok (.invokestatic 153, 3) := by decide +kernel
theorem dX9_minutes_34 : decode cX9_minutes 34 = .ok (.invokevirtual 189, 3) := by decide +kernel
theorem dX9_minutes_37 : decode cX9_minutes 37 = .ok (.aload_n 0, 1) := by decide +kernel
theorem dX9_minutes_38 : decode cX9_minutes 38 = .ok (.getfield 179, 3) := by decide +kernel
theorem dX9_minutes_41 : decode cX9_minutes 41 = .ok (.ireturn, 1) := by decide +kernel
theorem dX9_inn_0 : decode cX9_inn 0 = .ok (.iload_n 1, 1) := by decide +kernel
theorem dX9_inn_1 : decode cX9_inn 1 = .ok (.tableswitch 90 0 3 #[31, 36, 44, 49], 31) := by decide +kernel
theorem dX9_inn_32 : decode cX9_inn 32 = .ok (.aload_n 0, 1) := by decide +kernel
theorem dX9_inn_33 : decode cX9_inn 33 = .ok (.invokevirtual 111, 3) := by decide +kernel
theorem dX9_inn_36 : decode cX9_inn 36 = .ok (.ireturn, 1) := by decide +kernel
theorem dX9_inn_37 : decode cX9_inn 37 = .ok (.aload_n 0, 1) := by decide +kernel
theorem dX9_inn_38 : decode cX9_inn 38 = .ok (.getfield 9, 3) := by decide +kernel
theorem dX9_inn_41 : decode cX9_inn 41 = .ok (.bipush 10, 2) := by decide +kernel
theorem dX9_inn_43 : decode cX9_inn 43 = .ok (.iaload, 1) := by decide +kernel
theorem dX9_inn_44 : decode cX9_inn 44 = .ok (.ireturn, 1) := by decide +kernel
theorem dX9_inn_45 : decode cX9_inn 45 = .ok (.aload_n 0, 1) := by decide +kernel
theorem dX9_inn_46 : decode cX9_inn 46 = .ok (.invokevirtual 119, 3) := by decide +kernel
theorem dX9_inn_49 : decode cX9_inn 49 = .ok (.ireturn, 1) := by decide +kernel
theorem dX9_inn_50 : decode cX9_inn 50 = .ok (.iconst 0, 1) := by decide +kernel
theorem dX9_inn_51 : decode cX9_inn 51 = .ok (.istore_n 2, 1) := by decide +kernel
theorem dX9_inn_52 : decode cX9_inn 52 = .ok (.iconst 0, 1) := by decide +kernel
theorem dX9_inn_53 : decode cX9_inn 53 = .ok (.istore_n 3, 1) := by decide +kernel
theorem dX9_inn_54 : decode cX9_inn 54 = .ok (.iload_n 3, 1) := by decide +kernel
theorem dX9_inn_55 : decode cX9_inn 55 = .ok (.aload_n 0, 1) := by decide +kernel
theorem dX9_inn_56 : decode cX9_inn 56 = .ok (.getfield 9, 3) := by decide +kernel
theorem dX9_inn_59 : decode cX9_inn 59 = .ok (.iconst 1, 1) := by decide +kernel
theorem dX9_inn_60 : decode cX9_inn 60 = .ok (.iaload, 1) := by decide +kernel
theorem dX9_inn_61 : decode cX9_inn 61 = .ok (.if_icmp .ge 28, 3) := by decide +kernel
theorem dX9_inn_64 : decode cX9_inn 64 = .ok (.iload_n 2, 1) := by decide +kernel
theorem dX9_inn_65 : decode cX9_inn 65 = .ok (.aload_n 0, 1) := by decide +kernel
theorem dX9_inn_66 : decode cX9_inn 66 = .ok (.iload_n 3, 1) := by decide +kernel
theorem dX9_inn_67 : decode cX9_inn 67 = .ok (.iconst 1, 1) := by decide +kernel
theorem dX9_inn_68 : decode cX9_inn 68 = .ok (.invokevirtual 87, 3) := by decide +kernel
theorem dX9_inn_71 : decode cX9_inn 71 = .ok (.ifCond .ge 9, 3) := by decide +kernel
theorem dX9_inn_74 : decode cX9_inn 74 = .ok (.iconst 1, 1) := by decide +kernel
theorem dX9_inn_75 : decode cX9_inn 75 = .ok (.iload_n 3, 1) := by decide +kernel
theorem dX9_inn_76 : decode cX9_inn 76 = .ok (.ishl, 1) := by decide +kernel
theorem dX9_inn_77 : decode cX9_inn 77 = .ok (.goto 4, 3) := by decide +kernel
theorem dX9_inn_80 : decode cX9_inn 80 = .ok (.iconst 0, 1) := by decide +kernel
theorem dX9_inn_81 : decode cX9_inn 81 = .ok (.ior, 1) := by decide +kernel
theorem dX9_inn_82 : decode cX9_inn 82 = .ok (.istore_n 2, 1) := by decide +kernel
theorem dX9_inn_83 : decode cX9_inn 83 = .ok (.iinc 3 1, 3) := by decide +kernel
theorem dX9_inn_86 : decode cX9_inn 86 = .ok (.goto (-32), 3) := by decide +kernel
theorem dX9_inn_89 : decode cX9_inn 89 = .ok (.iload_n 2, 1) := by decide +kernel
theorem dX9_inn_90 : decode cX9_inn 90 = .ok (.ireturn, 1) := by decide +kernel
theorem dX9_inn_91 : decode cX9_inn 91 = .ok (.ldc 118, 2) := by decide +kernel
theorem dX9_inn_93 : decode cX9_inn 93 = .ok (.ireturn, 1) := by decide +kernel
theorem dX9_mayOrdinary_0 : decode cX9_mayOrdinary 0 = .ok (.iload_n 1, 1) := by decide +kernel
theorem dX9_mayOrdinary_1 : decode cX9_mayOrdinary 1 = .ok (.iload_n 2, 1) := by decide +kernel
theorem dX9_mayOrdinary_2 : decode cX9_mayOrdinary 2 = .ok (.ishr, 1) := by decide +kernel
theorem dX9_mayOrdinary_3 : decode cX9_mayOrdinary 3 = .ok (.iconst 1, 1) := by decide +kernel
theorem dX9_mayOrdinary_4 : decode cX9_mayOrdinary 4 = .ok (.iand, 1) := by decide +kernel
theorem dX9_mayOrdinary_5 : decode cX9_mayOrdinary 5 = .ok (.ifCond .ne 26, 3) := by decide +kernel
theorem dX9_mayOrdinary_8 : decode cX9_mayOrdinary 8 = .ok (.aload_n 0, 1) := by decide +kernel
theorem dX9_mayOrdinary_9 : decode cX9_mayOrdinary 9 = .ok (.iload_n 1, 1) := by decide +kernel
theorem dX9_mayOrdinary_10 : decode cX9_mayOrdinary 10 = .ok (.iload_n 2, 1) := by decide +kernel
theorem dX9_mayOrdinary_11 : decode cX9_mayOrdinary 11 = .ok (.iconst 1, 1) := by decide +kernel
theorem dX9_mayOrdinary_12 : decode cX9_mayOrdinary 12 = .ok (.isub, 1) := by decide +kernel
theorem dX9_mayOrdinary_13 : decode cX9_mayOrdinary 13 = .ok (.invokevirtual 104, 3) := by decide +kernel
theorem dX9_mayOrdinary_16 : decode cX9_mayOrdinary 16 = .ok (.aload_n 0, 1) := by decide +kernel
theorem dX9_mayOrdinary_17 : decode cX9_mayOrdinary 17 = .ok (.iload_n 1, 1) := by decide +kernel
theorem dX9_mayOrdinary_18 : decode cX9_mayOrdinary 18 = .ok (.iload_n 2, 1) := by decide +kernel
theorem dX9_mayOrdinary_19 : decode cX9_mayOrdinary 19 = .ok (.iconst 1, 1) := by decide +kernel
theorem dX9_mayOrdinary_20 : decode cX9_mayOrdinary 20 = .ok (.iadd, 1) := by decide +kernel
theorem dX9_mayOrdinary_21 : decode cX9_mayOrdinary 21 = .ok (.invokevirtual 104, 3) := by decide +kernel
theorem dX9_mayOrdinary_24 : decode cX9_mayOrdinary 24 = .ok (.if_icmp .ne 7, 3) := by decide +kernel
theorem dX9_mayOrdinary_27 : decode cX9_mayOrdinary 27 = .ok (.iconst 1, 1) := by decide +kernel
theorem dX9_mayOrdinary_28 : decode cX9_mayOrdinary 28 = .ok (.goto 4, 3) := by decide +kernel
theorem dX9_mayOrdinary_31 : decode cX9_mayOrdinary 31 = .ok (.iconst 0, 1) := by decide +kernel
theorem dX9_mayOrdinary_32 : decode cX9_mayOrdinary 32 = .ok (.ireturn, 1) := by decide +kernel
theorem dX9_worksSet_0 : decode cX9_worksSet 0 = .ok (.iconst 0, 1) := by decide +kernel
theorem dX9_worksSet_1 : decode cX9_worksSet 1 = .ok (.istore_n 3, 1) := by decide +kernel
theorem dX9_worksSet_2 : decode cX9_worksSet 2 = .ok (.iconst 0, 1) := by decide +kernel
theorem dX9_worksSet_3 : decode cX9_worksSet 3 = .ok (.istore 4, 2) := by decide +kernel
theorem dX9_worksSet_5 : decode cX9_worksSet 5 = .ok (.bipush 99, 2) := by decide +kernel
theorem dX9_worksSet_7 : decode cX9_worksSet 7 = .ok (.istore 5, 2) := by decide +kernel
theorem dX9_worksSet_9 : decode cX9_worksSet 9 = .ok (.lconst 0, 1) := by decide +kernel
theorem dX9_worksSet_10 : decode cX9_worksSet 10 = .ok (.lstore 6, 2) := by decide +kernel
theorem dX9_worksSet_12 : decode cX9_worksSet 12 = .ok (.iconst 0, 1) := by decide +kernel
theorem dX9_worksSet_13 : decode cX9_worksSet 13 = .ok (.istore 8, 2) := by decide +kernel
theorem dX9_worksSet_15 : decode cX9_worksSet 15 = .ok (.iconst 0, 1) := by decide +kernel
theorem dX9_worksSet_16 : decode cX9_worksSet 16 = .ok (.istore 9, 2) := by decide +kernel
theorem dX9_worksSet_18 : decode cX9_worksSet 18 = .ok (.iload 9, 2) := by decide +kernel
theorem dX9_worksSet_20 : decode cX9_worksSet 20 = .ok (.aload_n 0, 1) := by decide +kernel
theorem dX9_worksSet_21 : decode cX9_worksSet 21 = .ok (.getfield 9, 3) := by decide +kernel
theorem dX9_worksSet_24 : decode cX9_worksSet 24 = .ok (.iconst 2, 1) := by decide +kernel
theorem dX9_worksSet_25 : decode cX9_worksSet 25 = .ok (.iaload, 1) := by decide +kernel
theorem dX9_worksSet_26 : decode cX9_worksSet 26 = .ok (.if_icmp .ge 129, 3) := by decide +kernel
theorem dX9_worksSet_29 : decode cX9_worksSet 29 = .ok (.aload_n 0, 1) := by decide +kernel
theorem dX9_worksSet_30 : decode cX9_worksSet 30 = .ok (.iload_n 1, 1) := by decide +kernel
theorem dX9_worksSet_31 : decode cX9_worksSet 31 = .ok (.iload 9, 2) := by decide +kernel
theorem dX9_worksSet_33 : decode cX9_worksSet 33 = .ok (.invokevirtual 193, 3) := by decide +kernel
theorem dX9_worksSet_36 : decode cX9_worksSet 36 = .ok (.ifCond .eq 113, 3) := by decide +kernel
theorem dX9_worksSet_39 : decode cX9_worksSet 39 = .ok (.aload_n 0, 1) := by decide +kernel
theorem dX9_worksSet_40 : decode cX9_worksSet 40 = .ok (.getfield 19, 3) := by decide +kernel
theorem dX9_worksSet_43 : decode cX9_worksSet 43 = .ok (.iload_n 1, 1) := by decide +kernel
theorem dX9_worksSet_44 : decode cX9_worksSet 44 = .ok (.iconst 1, 1) := by decide +kernel
theorem dX9_worksSet_45 : decode cX9_worksSet 45 = .ok (.iload 9, 2) := by decide +kernel
theorem dX9_worksSet_47 : decode cX9_worksSet 47 = .ok (.ishl, 1) := by decide +kernel
theorem dX9_worksSet_48 : decode cX9_worksSet 48 = .ok (.ior, 1) := by decide +kernel
theorem dX9_worksSet_49 : decode cX9_worksSet 49 = .ok (.iaload, 1) := by decide +kernel
theorem dX9_worksSet_50 : decode cX9_worksSet 50 = .ok (.istore 10, 2) := by decide +kernel
theorem dX9_worksSet_52 : decode cX9_worksSet 52 = .ok (.iload_n 2, 1) := by decide +kernel
theorem dX9_worksSet_53 : decode cX9_worksSet 53 = .ok (.iconst 4, 1) := by decide +kernel
theorem dX9_worksSet_54 : decode cX9_worksSet 54 = .ok (.if_icmp .ne 24, 3) := by decide +kernel
theorem dX9_worksSet_57 : decode cX9_worksSet 57 = .ok (.aload_n 0, 1) := by decide +kernel
theorem dX9_worksSet_58 : decode cX9_worksSet 58 = .ok (.getfield 9, 3) := by decide +kernel
theorem dX9_worksSet_61 : decode cX9_worksSet 61 = .ok (.bipush 6, 2) := by decide +kernel
theorem dX9_worksSet_63 : decode cX9_worksSet 63 = .ok (.iaload, 1) := by decide +kernel
theorem dX9_worksSet_64 : decode cX9_worksSet 64 = .ok (.aload_n 0, 1) := by decide +kernel
theorem dX9_worksSet_65 : decode cX9_worksSet 65 = .ok (.getfield 9, 3) := by decide +kernel
theorem dX9_worksSet_68 : decode cX9_worksSet 68 = .ok (.bipush 12, 2) := by decide +kernel
theorem dX9_worksSet_70 : decode cX9_worksSet 70 = .ok (.iload 9, 2) := by decide +kernel
theorem dX9_worksSet_72 : decode cX9_worksSet 72 = .ok (.iadd, 1) := by decide +kernel
theorem dX9_worksSet_73 : decode cX9_worksSet 73 = .ok (.iaload, 1) := by decide +kernel
theorem dX9_worksSet_74 : decode cX9_worksSet 74 = .ok (.iadd, 1) := by decide +kernel
theorem dX9_worksSet_75 : decode cX9_worksSet 75 = .ok (.goto 4, 3) := by decide +kernel
theorem dX9_worksSet_78 : decode cX9_worksSet 78 = .ok (.iconst 1, 1) := by decide +kernel
theorem dX9_worksSet_79 : decode cX9_worksSet 79 = .ok (.istore 11, 2) := by decide +kernel
theorem dX9_worksSet_81 : decode cX9_worksSet 81 = .ok (.iinc 3 1, 3) := by decide +kernel
theorem dX9_worksSet_84 : decode cX9_worksSet 84 = .ok (.iload 10, 2) := by decide +kernel
theorem dX9_worksSet_86 : decode cX9_worksSet 86 = .ok (.iload 11, 2) := by decide +kernel
theorem dX9_worksSet_88 : decode cX9_worksSet 88 = .ok (.iadd, 1) := by decide +kernel
theorem dX9_worksSet_89 : decode cX9_worksSet 89 = .ok (.iload 4, 2) := by decide +kernel
theorem dX9_worksSet_91 : decode cX9_worksSet 91 = .ok (.if_icmp .le 11, 3) := by decide +kernel
theorem dX9_worksSet_94 : decode cX9_worksSet 94 = .ok (.iload 10, 2) := by decide +kernel
theorem dX9_worksSet_96 : decode cX9_worksSet 96 = .ok (.iload 11, 2) := by decide +kernel
theorem dX9_worksSet_98 : decode cX9_worksSet 98 = .ok (.iadd, 1) := by decide +kernel
theorem dX9_worksSet_99 : decode cX9_worksSet 99 = .ok (.goto 5, 3) := by decide +kernel
theorem dX9_worksSet_102 : decode cX9_worksSet 102 = .ok (.iload 4, 2) := by decide +kernel
theorem dX9_worksSet_104 : decode cX9_worksSet 104 = .ok (.istore 4, 2) := by decide +kernel
theorem dX9_worksSet_106 : decode cX9_worksSet 106 = .ok (.iload 10, 2) := by decide +kernel
theorem dX9_worksSet_108 : decode cX9_worksSet 108 = .ok (.iload 11, 2) := by decide +kernel
theorem dX9_worksSet_110 : decode cX9_worksSet 110 = .ok (.iadd, 1) := by decide +kernel
theorem dX9_worksSet_111 : decode cX9_worksSet 111 = .ok (.iload 5, 2) := by decide +kernel
theorem dX9_worksSet_113 : decode cX9_worksSet 113 = .ok (.if_icmp .ge 11, 3) := by decide +kernel
theorem dX9_worksSet_116 : decode cX9_worksSet 116 = .ok (.iload 10, 2) := by decide +kernel
theorem dX9_worksSet_118 : decode cX9_worksSet 118 = .ok (.iload 11, 2) := by decide +kernel
theorem dX9_worksSet_120 : decode cX9_worksSet 120 = .ok (.iadd, 1) := by decide +kernel
theorem dX9_worksSet_121 : decode cX9_worksSet 121 = .ok (.goto 5, 3) := by decide +kernel
theorem dX9_worksSet_124 : decode cX9_worksSet 124 = .ok (.iload 5, 2) := by decide +kernel
theorem dX9_worksSet_126 : decode cX9_worksSet 126 = .ok (.istore 5, 2) := by decide +kernel
theorem dX9_worksSet_128 : decode cX9_worksSet 128 = .ok (.lload 6, 2) := by decide +kernel
theorem dX9_worksSet_130 : decode cX9_worksSet 130 = .ok (.iload 10, 2) := by decide +kernel
theorem dX9_worksSet_132 : decode cX9_worksSet 132 = .ok (.i2l, 1) := by decide +kernel
theorem dX9_worksSet_133 : decode cX9_worksSet 133 = .ok (.ladd, 1) := by decide +kernel
theorem dX9_worksSet_134 : decode cX9_worksSet 134 = .ok (.lstore 6, 2) := by decide +kernel
theorem dX9_worksSet_136 : decode cX9_worksSet 136 = .ok (.iload 10, 2) := by decide +kernel
theorem dX9_worksSet_138 : decode cX9_worksSet 138 = .ok (.ifCond .ne 7, 3) := by decide +kernel
theorem dX9_worksSet_141 : decode cX9_worksSet 141 = .ok (.iconst 1, 1) := by decide +kernel
theorem dX9_worksSet_142 : decode cX9_worksSet 142 = .ok (.goto 5, 3) := by decide +kernel
theorem dX9_worksSet_145 : decode cX9_worksSet 145 = .ok (.iload 8, 2) := by decide +kernel
theorem dX9_worksSet_147 : decode cX9_worksSet 147 = .ok (.istore 8, 2) := by decide +kernel
theorem dX9_worksSet_149 : decode cX9_worksSet 149 = .ok (.iinc 9 1, 3) := by decide +kernel
theorem dX9_worksSet_152 : decode cX9_worksSet 152 = .ok (.goto (-134), 3) := by decide +kernel
theorem dX9_worksSet_155 : decode cX9_worksSet 155 = .ok (.iload_n 2, 1) := by decide +kernel
theorem dX9_worksSet_156 : decode cX9_worksSet 156 = .ok (.tableswitch 58 1 3 #[28, 39, 55], 28) := by decide +kernel
theorem dX9_worksSet_184 : decode cX9_worksSet 184 = .ok (.iload_n 3, 1) := by decide +kernel
theorem dX9_worksSet_185 : decode cX9_worksSet 185 = .ok (.ifCond .ne 7, 3) := by decide +kernel
theorem dX9_worksSet_188 : decode cX9_worksSet 188 = .ok (.iconst 0, 1) := by decide +kernel
theorem dX9_worksSet_189 : decode cX9_worksSet 189 = .ok (.goto 5, 3) := by decide +kernel
theorem dX9_worksSet_192 : decode cX9_worksSet 192 = .ok (.iload 5, 2) := by decide +kernel
theorem dX9_worksSet_194 : decode cX9_worksSet 194 = .ok (.ireturn, 1) := by decide +kernel
theorem dX9_worksSet_195 : decode cX9_worksSet 195 = .ok (.iload_n 3, 1) := by decide +kernel
theorem dX9_worksSet_196 : decode cX9_worksSet 196 = .ok (.ifCond .ne 7, 3) := by decide +kernel
theorem dX9_worksSet_199 : decode cX9_worksSet 199 = .ok (.iconst 1, 1) := by decide +kernel
theorem dX9_worksSet_200 : decode cX9_worksSet 200 = .ok (.goto 10, 3) := by decide +kernel
theorem dX9_worksSet_203 : decode cX9_worksSet 203 = .ok (.lload 6, 2) := by decide +kernel
theorem dX9_worksSet_205 : decode cX9_worksSet 205 = .ok (.ldc2_w 196, 3) := by decide +kernel
theorem dX9_worksSet_208 : decode cX9_worksSet 208 = .ok (.lrem, 1) := by decide +kernel
theorem dX9_worksSet_209 : decode cX9_worksSet 209 = .ok (.l2i, 1) := by decide +kernel
theorem dX9_worksSet_210 : decode cX9_worksSet 210 = .ok (.ireturn, 1) := by decide +kernel
theorem dX9_worksSet_211 : decode cX9_worksSet 211 = .ok (.iload 8, 2) := by decide +kernel
theorem dX9_worksSet_213 : decode cX9_worksSet 213 = .ok (.ireturn, 1) := by decide +kernel
theorem dX9_worksSet_214 : decode cX9_worksSet 214 = .ok (.iload 4, 2) := by decide +kernel
theorem dX9_worksSet_216 : decode cX9_worksSet 216 = .ok (.ireturn, 1) := by decide +kernel
theorem dX9_works_0 : decode cX9_works 0 = .ok (.aload_n 0, 1) := by decide +kernel
theorem dX9_works_1 : decode cX9_works 1 = .ok (.invokevirtual 111, 3) := by decide +kernel
theorem dX9_works_4 : decode cX9_works 4 = .ok (.istore_n 2, 1) := by decide +kernel
theorem dX9_works_5 : decode cX9_works 5 = .ok (.iconst 1, 1) := by decide +kernel
theorem dX9_works_6 : decode cX9_works 6 = .ok (.aload_n 0, 1) := by decide +kernel
theorem dX9_works_7 : decode cX9_works 7 = .ok (.getfield 9, 3) := by decide +kernel
theorem dX9_works_10 : decode cX9_works 10 = .ok (.iconst 2, 1) := by decide +kernel
theorem dX9_works_11 : decode cX9_works 11 = .ok (.iaload, 1) := by decide +kernel
theorem dX9_works_12 : decode cX9_works 12 = .ok (.ishl, 1) := by decide +kernel
theorem dX9_works_13 : decode cX9_works 13 = .ok (.iconst 1, 1) := by decide +kernel
theorem dX9_works_14 : decode cX9_works 14 = .ok (.isub, 1) := by decide +kernel
theorem dX9_works_15 : decode cX9_works 15 = .ok (.istore_n 3, 1) := by decide +kernel
theorem dX9_works_16 : decode cX9_works 16 = .ok (.iload_n 3, 1) := by decide +kernel
theorem dX9_works_17 : decode cX9_works 17 = .ok (.iload_n 2, 1) := by decide +kernel
theorem dX9_works_18 : decode cX9_works 18 = .ok (.if_icmp .lt 21, 3) := by decide +kernel
theorem dX9_works_21 : decode cX9_works 21 = .ok (.aload_n 0, 1) := by decide +kernel
theorem dX9_works_22 : decode cX9_works 22 = .ok (.getfield 19, 3) := by decide +kernel
theorem dX9_works_25 : decode cX9_works 25 = .ok (.iload_n 3, 1) := by decide +kernel
theorem dX9_works_26 : decode cX9_works 26 = .ok (.aload_n 0, 1) := by decide +kernel
theorem dX9_works_27 : decode cX9_works 27 = .ok (.iload_n 3, 1) := by decide +kernel
theorem dX9_works_28 : decode cX9_works 28 = .ok (.iload_n 1, 1) := by decide +kernel
theorem dX9_works_29 : decode cX9_works 29 = .ok (.invokevirtual 198, 3) := by decide +kernel
theorem dX9_works_32 : decode cX9_works 32 = .ok (.iastore, 1) := by decide +kernel
theorem dX9_works_33 : decode cX9_works 33 = .ok (.iinc 3 (-1), 3) := by decide +kernel
theorem dX9_works_36 : decode cX9_works 36 = .ok (.goto (-20), 3) := by decide +kernel
theorem dX9_works_39 : decode cX9_works 39 = .ok (.aload_n 0, 1) := by decide +kernel
theorem dX9_works_40 : decode cX9_works 40 = .ok (.getfield 19, 3) := by decide +kernel
theorem dX9_works_43 : decode cX9_works 43 = .ok (.iload_n 2, 1) := by decide +kernel
theorem dX9_works_44 : decode cX9_works 44 = .ok (.iaload, 1) := by decide +kernel
theorem dX9_works_45 : decode cX9_works 45 = .ok (.ireturn, 1) := by decide +kernel
theorem dX9_goes_0 : decode cX9_goes 0 = .ok (.iload_n 1, 1) := by decide +kernel
theorem dX9_goes_1 : decode cX9_goes 1 = .ok (.iconst 0, 1) := by decide +kernel
theorem dX9_goes_2 : decode cX9_goes 2 = .ok (.iconst 2, 1) := by decide +kernel
theorem dX9_goes_3 : decode cX9_goes 3 = .ok (.invokestatic 79, 3) := by decide +kernel
theorem dX9_goes_6 : decode cX9_goes 6 = .ok (.ifCond .eq 11, 3) := by decide +kernel
theorem dX9_goes_9 : decode cX9_goes 9 = .ok (.aload_n 0, 1) := by decide +kernel
theorem dX9_goes_10 : decode cX9_goes 10 = .ok (.iload_n 1, 1) := by decide +kernel
theorem dX9_goes_11 : decode cX9_goes 11 = .ok (.invokevirtual 201, 3) := by decide +kernel
theorem dX9_goes_14 : decode cX9_goes 14 = .ok (.goto 5, 3) := by decide +kernel
theorem dX9_goes_17 : decode cX9_goes 17 = .ok (.ldc 118, 2) := by decide +kernel
theorem dX9_goes_19 : decode cX9_goes 19 = .ok (.ireturn, 1) := by decide +kernel
theorem dX9_game_0 : decode cX9_game 0 = .ok (.iload_n 1, 1) := by decide +kernel
theorem dX9_game_1 : decode cX9_game 1 = .ok (.iconst 0, 1) := by decide +kernel
theorem dX9_game_2 : decode cX9_game 2 = .ok (.iconst 1, 1) := by decide +kernel
theorem dX9_game_3 : decode cX9_game 3 = .ok (.invokestatic 79, 3) := by decide +kernel
theorem dX9_game_6 : decode cX9_game 6 = .ok (.ifCond .ne 6, 3) := by decide +kernel
theorem dX9_game_9 : decode cX9_game 9 = .ok (.ldc 118, 2) := by decide +kernel
theorem dX9_game_11 : decode cX9_game 11 = .ok (.ireturn, 1) := by decide +kernel
theorem dX9_game_12 : decode cX9_game 12 = .ok (.aload_n 0, 1) := by decide +kernel
theorem dX9_game_13 : decode cX9_game 13 = .ok (.iconst 3, 1) := by decide +kernel
theorem dX9_game_14 : decode cX9_game 14 = .ok (.invokevirtual 201, 3) := by decide +kernel
theorem dX9_game_17 : decode cX9_game 17 = .ok (.istore_n 2, 1) := by decide +kernel
theorem dX9_game_18 : decode cX9_game 18 = .ok (.aload_n 0, 1) := by decide +kernel
theorem dX9_game_19 : decode cX9_game 19 = .ok (.invokevirtual 111, 3) := by decide +kernel
theorem dX9_game_22 : decode cX9_game 22 = .ok (.istore_n 3, 1) := by decide +kernel
theorem dX9_game_23 : decode cX9_game 23 = .ok (.iconst 0, 1) := by decide +kernel
theorem dX9_game_24 : decode cX9_game 24 = .ok (.istore 4, 2) := by decide +kernel
theorem dX9_game_26 : decode cX9_game 26 = .ok (.iconst 0, 1) := by decide +kernel
theorem dX9_game_27 : decode cX9_game 27 = .ok (.istore 5, 2) := by decide +kernel
theorem dX9_game_29 : decode cX9_game 29 = .ok (.iload 5, 2) := by decide +kernel
theorem dX9_game_31 : decode cX9_game 31 = .ok (.aload_n 0, 1) := by decide +kernel
theorem dX9_game_32 : decode cX9_game 32 = .ok (.getfield 9, 3) := by decide +kernel
theorem dX9_game_35 : decode cX9_game 35 = .ok (.iconst 2, 1) := by decide +kernel
theorem dX9_game_36 : decode cX9_game 36 = .ok (.iaload, 1) := by decide +kernel
theorem dX9_game_37 : decode cX9_game 37 = .ok (.if_icmp .ge 46, 3) := by decide +kernel
theorem dX9_game_40 : decode cX9_game 40 = .ok (.iload 4, 2) := by decide +kernel
theorem dX9_game_42 : decode cX9_game 42 = .ok (.aload_n 0, 1) := by decide +kernel
theorem dX9_game_43 : decode cX9_game 43 = .ok (.iload_n 3, 1) := by decide +kernel
theorem dX9_game_44 : decode cX9_game 44 = .ok (.iload 5, 2) := by decide +kernel
theorem dX9_game_46 : decode cX9_game 46 = .ok (.invokevirtual 193, 3) := by decide +kernel
theorem dX9_game_49 : decode cX9_game 49 = .ok (.ifCond .eq 24, 3) := by decide +kernel
theorem dX9_game_52 : decode cX9_game 52 = .ok (.aload_n 0, 1) := by decide +kernel
theorem dX9_game_53 : decode cX9_game 53 = .ok (.getfield 19, 3) := by decide +kernel
theorem dX9_game_56 : decode cX9_game 56 = .ok (.iload_n 3, 1) := by decide +kernel
theorem dX9_game_57 : decode cX9_game 57 = .ok (.iconst 1, 1) := by decide +kernel
theorem dX9_game_58 : decode cX9_game 58 = .ok (.iload 5, 2) := by decide +kernel
theorem dX9_game_60 : decode cX9_game 60 = .ok (.ishl, 1) := by decide +kernel
theorem dX9_game_61 : decode cX9_game 61 = .ok (.ior, 1) := by decide +kernel
theorem dX9_game_62 : decode cX9_game 62 = .ok (.iaload, 1) := by decide +kernel
theorem dX9_game_63 : decode cX9_game 63 = .ok (.ifCond .ne 10, 3) := by decide +kernel
theorem dX9_game_66 : decode cX9_game 66 = .ok (.iconst 1, 1) := by decide +kernel
theorem dX9_game_67 : decode cX9_game 67 = .ok (.iload 5, 2) := by decide +kernel
theorem dX9_game_69 : decode cX9_game 69 = .ok (.ishl, 1) := by decide +kernel
theorem dX9_game_70 : decode cX9_game 70 = .ok (.goto 4, 3) := by decide +kernel
theorem dX9_game_73 : decode cX9_game 73 = .ok (.iconst 0, 1) := by decide +kernel
theorem dX9_game_74 : decode cX9_game 74 = .ok (.ior, 1) := by decide +kernel
theorem dX9_game_75 : decode cX9_game 75 = .ok (.istore 4, 2) := by decide +kernel
theorem dX9_game_77 : decode cX9_game 77 = .ok (.iinc 5 1, 3) := by decide +kernel
theorem dX9_game_80 : decode cX9_game 80 = .ok (.goto (-51), 3) := by decide +kernel
theorem dX9_game_83 : decode cX9_game 83 = .ok (.iload_n 1, 1) := by decide +kernel
theorem dX9_game_84 : decode cX9_game 84 = .ok (.ifCond .ne 7, 3) := by decide +kernel
theorem dX9_game_87 : decode cX9_game 87 = .ok (.iload_n 2, 1) := by decide +kernel
theorem dX9_game_88 : decode cX9_game 88 = .ok (.goto 5, 3) := by decide +kernel
theorem dX9_game_91 : decode cX9_game 91 = .ok (.iload 4, 2) := by decide +kernel
theorem dX9_game_93 : decode cX9_game 93 = .ok (.ireturn, 1) := by decide +kernel
theorem dX9_worthy_0 : decode cX9_worthy 0 = .ok (.iload_n 1, 1) := by decide +kernel
theorem dX9_worthy_1 : decode cX9_worthy 1 = .ok (.iconst 0, 1) := by decide +kernel
theorem dX9_worthy_2 : decode cX9_worthy 2 = .ok (.iconst 1, 1) := by decide +kernel
theorem dX9_worthy_3 : decode cX9_worthy 3 = .ok (.invokestatic 79, 3) := by decide +kernel
theorem dX9_worthy_6 : decode cX9_worthy 6 = .ok (.ifCond .ne 6, 3) := by decide +kernel
theorem dX9_worthy_9 : decode cX9_worthy 9 = .ok (.ldc 118, 2) := by decide +kernel
theorem dX9_worthy_11 : decode cX9_worthy 11 = .ok (.ireturn, 1) := by decide +kernel
theorem dX9_worthy_12 : decode cX9_worthy 12 = .ok (.aload_n 0, 1) := by decide +kernel
theorem dX9_worthy_13 : decode cX9_worthy 13 = .ok (.invokevirtual 111, 3) := by decide +kernel
theorem dX9_worthy_16 : decode cX9_worthy 16 = .ok (.istore_n 2, 1) := by decide +kernel
theorem dX9_worthy_17 : decode cX9_worthy 17 = .ok (.iconst (-1), 1) := by decide +kernel
theorem dX9_worthy_18 : decode cX9_worthy 18 = .ok (.istore_n 3, 1) := by decide +kernel
theorem dX9_worthy_19 : decode cX9_worthy 19 = .ok (.iconst 0, 1) := by decide +kernel
theorem dX9_worthy_20 : decode cX9_worthy 20 = .ok (.istore 4, 2) := by decide +kernel
theorem dX9_worthy_22 : decode cX9_worthy 22 = .ok (.iconst 0, 1) := by decide +kernel
theorem dX9_worthy_23 : decode cX9_worthy 23 = .ok (.istore 5, 2) := by decide +kernel
theorem dX9_worthy_25 : decode cX9_worthy 25 = .ok (.iload 5, 2) := by decide +kernel
theorem dX9_worthy_27 : decode cX9_worthy 27 = .ok (.aload_n 0, 1) := by decide +kernel
theorem dX9_worthy_28 : decode cX9_worthy 28 = .ok (.getfield 9, 3) := by decide +kernel
theorem dX9_worthy_31 : decode cX9_worthy 31 = .ok (.iconst 2, 1) := by decide +kernel
theorem dX9_worthy_32 : decode cX9_worthy 32 = .ok (.iaload, 1) := by decide +kernel
theorem dX9_worthy_33 : decode cX9_worthy 33 = .ok (.if_icmp .ge 73, 3) := by decide +kernel
theorem dX9_worthy_36 : decode cX9_worthy 36 = .ok (.iload_n 2, 1) := by decide +kernel
theorem dX9_worthy_37 : decode cX9_worthy 37 = .ok (.iload 5, 2) := by decide +kernel
theorem dX9_worthy_39 : decode cX9_worthy 39 = .ok (.ishr, 1) := by decide +kernel
theorem dX9_worthy_40 : decode cX9_worthy 40 = .ok (.iconst 1, 1) := by decide +kernel
theorem dX9_worthy_41 : decode cX9_worthy 41 = .ok (.iand, 1) := by decide +kernel
theorem dX9_worthy_42 : decode cX9_worthy 42 = .ok (.ifCond .ne 58, 3) := by decide +kernel
theorem dX9_worthy_45 : decode cX9_worthy 45 = .ok (.aload_n 0, 1) := by decide +kernel
theorem dX9_worthy_46 : decode cX9_worthy 46 = .ok (.getfield 9, 3) := by decide +kernel
theorem dX9_worthy_49 : decode cX9_worthy 49 = .ok (.bipush 12, 2) := by decide +kernel
theorem dX9_worthy_51 : decode cX9_worthy 51 = .ok (.iload 5, 2) := by decide +kernel
theorem dX9_worthy_53 : decode cX9_worthy 53 = .ok (.iadd, 1) := by decide +kernel
theorem dX9_worthy_54 : decode cX9_worthy 54 = .ok (.dup2, 1) := by decide +kernel
theorem dX9_worthy_55 : decode cX9_worthy 55 = .ok (.iaload, 1) := by decide +kernel
theorem dX9_worthy_56 : decode cX9_worthy 56 = .ok (.bipush 50, 2) := by decide +kernel
theorem dX9_worthy_58 : decode cX9_worthy 58 = .ok (.iadd, 1) := by decide +kernel
theorem dX9_worthy_59 : decode cX9_worthy 59 = .ok (.iastore, 1) := by decide +kernel
theorem dX9_worthy_60 : decode cX9_worthy 60 = .ok (.aload_n 0, 1) := by decide +kernel
theorem dX9_worthy_61 : decode cX9_worthy 61 = .ok (.iconst 4, 1) := by decide +kernel
theorem dX9_worthy_62 : decode cX9_worthy 62 = .ok (.invokevirtual 201, 3) := by decide +kernel
theorem dX9_worthy_65 : decode cX9_worthy 65 = .ok (.istore 6, 2) := by decide +kernel
theorem dX9_worthy_67 : decode cX9_worthy 67 = .ok (.aload_n 0, 1) := by decide +kernel
theorem dX9_worthy_68 : decode cX9_worthy 68 = .ok (.getfield 9, 3) := by decide +kernel
theorem dX9_worthy_71 : decode cX9_worthy 71 = .ok (.bipush 12, 2) := by decide +kernel
theorem dX9_worthy_73 : decode cX9_worthy 73 = .ok (.iload 5, 2) := by decide +kernel
theorem dX9_worthy_75 : decode cX9_worthy 75 = .ok (.iadd, 1) := by decide +kernel
theorem dX9_worthy_76 : decode cX9_worthy 76 = .ok (.dup2, 1) := by decide +kernel
theorem dX9_worthy_77 : decode cX9_worthy 77 = .ok (.iaload, 1) := by decide +kernel
theorem dX9_worthy_78 : decode cX9_worthy 78 = .ok (.bipush 50, 2) := by decide +kernel
theorem dX9_worthy_80 : decode cX9_worthy 80 = .ok (.isub, 1) := by decide +kernel
theorem dX9_worthy_81 : decode cX9_worthy 81 = .ok (.iastore, 1) := by decide +kernel
theorem dX9_worthy_82 : decode cX9_worthy 82 = .ok (.iload_n 3, 1) := by decide +kernel
theorem dX9_worthy_83 : decode cX9_worthy 83 = .ok (.ifCond .lt 10, 3) := by decide +kernel
theorem dX9_worthy_86 : decode cX9_worthy 86 = .ok (.iload 6, 2) := by decide +kernel
theorem dX9_worthy_88 : decode cX9_worthy 88 = .ok (.iload 4, 2) := by decide +kernel
theorem dX9_worthy_90 : decode cX9_worthy 90 = .ok (.if_icmp .le 10, 3) := by decide +kernel
theorem dX9_worthy_93 : decode cX9_worthy 93 = .ok (.iload 5, 2) := by decide +kernel
theorem dX9_worthy_95 : decode cX9_worthy 95 = .ok (.istore_n 3, 1) := by decide +kernel
theorem dX9_worthy_96 : decode cX9_worthy 96 = .ok (.iload 6, 2) := by decide +kernel
theorem dX9_worthy_98 : decode cX9_worthy 98 = .ok (.istore 4, 2) := by decide +kernel
theorem dX9_worthy_100 : decode cX9_worthy 100 = .ok (.iinc 5 1, 3) := by decide +kernel
theorem dX9_worthy_103 : decode cX9_worthy 103 = .ok (.goto (-78), 3) := by decide +kernel
theorem dX9_worthy_106 : decode cX9_worthy 106 = .ok (.iload_n 3, 1) := by decide +kernel
theorem dX9_worthy_107 : decode cX9_worthy 107 = .ok (.ifCond .ge 8, 3) := by decide +kernel
theorem dX9_worthy_110 : decode cX9_worthy 110 = .ok (.ldc 78, 2) := by decide +kernel
theorem dX9_worthy_112 : decode cX9_worthy 112 = .ok (.goto 13, 3) := by decide +kernel
theorem dX9_worthy_115 : decode cX9_worthy 115 = .ok (.iload_n 1, 1) := by decide +kernel
theorem dX9_worthy_116 : decode cX9_worthy 116 = .ok (.ifCond .ne 7, 3) := by decide +kernel
theorem dX9_worthy_119 : decode cX9_worthy 119 = .ok (.iload_n 3, 1) := by decide +kernel
theorem dX9_worthy_120 : decode cX9_worthy 120 = .ok (.goto 5, 3) := by decide +kernel
theorem dX9_worthy_123 : decode cX9_worthy 123 = .ok (.iload 4, 2) := by decide +kernel
theorem dX9_worthy_125 : decode cX9_worthy 125 = .ok (.ireturn, 1) := by decide +kernel
theorem dX9_thinks_0 : decode cX9_thinks 0 = .ok (.iconst 0, 1) := by decide +kernel
theorem dX9_thinks_1 : decode cX9_thinks 1 = .ok (.istore_n 1, 1) := by decide +kernel
theorem dX9_thinks_2 : decode cX9_thinks 2 = .ok (.iload_n 1, 1) := by decide +kernel
theorem dX9_thinks_3 : decode cX9_thinks 3 = .ok (.bipush 72, 2) := by decide +kernel
theorem dX9_thinks_5 : decode cX9_thinks 5 = .ok (.if_icmp .ge 21, 3) := by decide +kernel
theorem dX9_thinks_8 : decode cX9_thinks 8 = .ok (.aload_n 0, 1) := by decide +kernel
theorem dX9_thinks_9 : decode cX9_thinks 9 = .ok (.getfield 22, 3) := by decide +kernel
theorem dX9_thinks_12 : decode cX9_thinks 12 = .ok (.iload_n 1, 1) := by decide +kernel
theorem dX9_thinks_13 : decode cX9_thinks 13 = .ok (.aload_n 0, 1) := by decide +kernel
theorem dX9_thinks_14 : decode cX9_thinks 14 = .ok (.getfield 9, 3) := by decide +kernel
theorem dX9_thinks_17 : decode cX9_thinks 17 = .ok (.iload_n 1, 1) := by decide +kernel
theorem dX9_thinks_18 : decode cX9_thinks 18 = .ok (.iaload, 1) := by decide +kernel
theorem dX9_thinks_19 : decode cX9_thinks 19 = .ok (.iastore, 1) := by decide +kernel
theorem dX9_thinks_20 : decode cX9_thinks 20 = .ok (.iinc 1 1, 3) := by decide +kernel
theorem dX9_thinks_23 : decode cX9_thinks 23 = .ok (.goto (-21), 3) := by decide +kernel
theorem dX9_thinks_26 : decode cX9_thinks 26 = .ok (.return_, 1) := by decide +kernel
theorem dX9_putsBack_0 : decode cX9_putsBack 0 = .ok (.iconst 0, 1) := by decide +kernel
theorem dX9_putsBack_1 : decode cX9_putsBack 1 = .ok (.istore_n 1, 1) := by decide +kernel
theorem dX9_putsBack_2 : decode cX9_putsBack 2 = .ok (.iload_n 1, 1) := by decide +kernel
theorem dX9_putsBack_3 : decode cX9_putsBack 3 = .ok (.bipush 72, 2) := by decide +kernel
theorem dX9_putsBack_5 : decode cX9_putsBack 5 = .ok (.if_icmp .ge 21, 3) := by decide +kernel
theorem dX9_putsBack_8 : decode cX9_putsBack 8 = .ok (.aload_n 0, 1) := by decide +kernel
theorem dX9_putsBack_9 : decode cX9_putsBack 9 = .ok (.getfield 9, 3) := by decide +kernel
theorem dX9_putsBack_12 : decode cX9_putsBack 12 = .ok (.iload_n 1, 1) := by decide +kernel
theorem dX9_putsBack_13 : decode cX9_putsBack 13 = .ok (.aload_n 0, 1) := by decide +kernel
theorem dX9_putsBack_14 : decode cX9_putsBack 14 = .ok (.getfield 22, 3) := by decide +kernel
theorem dX9_putsBack_17 : decode cX9_putsBack 17 = .ok (.iload_n 1, 1) := by decide +kernel
theorem dX9_putsBack_18 : decode cX9_putsBack 18 = .ok (.iaload, 1) := by decide +kernel
theorem dX9_putsBack_19 : decode cX9_putsBack 19 = .ok (.iastore, 1) := by decide +kernel
theorem dX9_putsBack_20 : decode cX9_putsBack 20 = .ok (.iinc 1 1, 3) := by decide +kernel
theorem dX9_putsBack_23 : decode cX9_putsBack 23 = .ok (.goto (-21), 3) := by decide +kernel
theorem dX9_putsBack_26 : decode cX9_putsBack 26 = .ok (.return_, 1) := by decide +kernel
theorem dX9_behind_0 : decode cX9_behind 0 = .ok (.iload_n 1, 1) := by decide +kernel
theorem dX9_behind_1 : decode cX9_behind 1 = .ok (.iconst 0, 1) := by decide +kernel
theorem dX9_behind_2 : decode cX9_behind 2 = .ok (.bipush 100, 2) := by decide +kernel
theorem dX9_behind_4 : decode cX9_behind 4 = .ok (.invokestatic 79, 3) := by decide +kernel
theorem dX9_behind_7 : decode cX9_behind 7 = .ok (.ifCond .eq 22, 3) := by decide +kernel
theorem dX9_behind_10 : decode cX9_behind 10 = .ok (.iload_n 2, 1) := by decide +kernel
theorem dX9_behind_11 : decode cX9_behind 11 = .ok (.ifCond .lt 18, 3) := by decide +kernel
theorem dX9_behind_14 : decode cX9_behind 14 = .ok (.iload_n 2, 1) := by decide +kernel
theorem dX9_behind_15 : decode cX9_behind 15 = .ok (.iconst 2, 1) := by decide +kernel
theorem dX9_behind_16 : decode cX9_behind 16 = .ok (.if_icmp .le 16, 3) := by decide +kernel
theorem dX9_behind_19 : decode cX9_behind 19 = .ok (.aload_n 0, 1) := by decide +kernel
theorem dX9_behind_20 : decode cX9_behind 20 = .ok (.iload_n 2, 1) := by decide +kernel
theorem dX9_behind_21 : decode cX9_behind 21 = .ok (.iconst 3, 1) := by decide +kernel
theorem dX9_behind_22 : decode cX9_behind 22 = .ok (.isub, 1) := by decide +kernel
theorem dX9_behind_23 : decode cX9_behind 23 = .ok (.invokevirtual 130, 3) := by decide +kernel
theorem dX9_behind_26 : decode cX9_behind 26 = .ok (.ifCond .ne 6, 3) := by decide +kernel
theorem dX9_behind_29 : decode cX9_behind 29 = .ok (.ldc 118, 2) := by decide +kernel
theorem dX9_behind_31 : decode cX9_behind 31 = .ok (.ireturn, 1) := by decide +kernel
theorem dX9_behind_32 : decode cX9_behind 32 = .ok (.aload_n 0, 1) := by decide +kernel
theorem dX9_behind_33 : decode cX9_behind 33 = .ok (.invokevirtual 204, 3) := by decide +kernel
theorem dX9_behind_36 : decode cX9_behind 36 = .ok (.aload_n 0, 1) := by decide +kernel
theorem dX9_behind_37 : decode cX9_behind 37 = .ok (.iload_n 1, 1) := by decide +kernel
theorem dX9_behind_38 : decode cX9_behind 38 = .ok (.invokevirtual 189, 3) := by decide +kernel
theorem dX9_behind_41 : decode cX9_behind 41 = .ok (.iload_n 2, 1) := by decide +kernel
theorem dX9_behind_42 : decode cX9_behind 42 = .ok (.iconst 2, 1) := by decide +kernel
theorem dX9_behind_43 : decode cX9_behind 43 = .ok (.if_icmp .le 14, 3) := by decide +kernel
theorem dX9_behind_46 : decode cX9_behind 46 = .ok (.aload_n 0, 1) := by decide +kernel
theorem dX9_behind_47 : decode cX9_behind 47 = .ok (.iload_n 2, 1) := by decide +kernel
theorem dX9_behind_48 : decode cX9_behind 48 = .ok (.iconst 3, 1) := by decide +kernel
theorem dX9_behind_49 : decode cX9_behind 49 = .ok (.isub, 1) := by decide +kernel
theorem dX9_behind_50 : decode cX9_behind 50 = .ok (.iconst 1, 1) := by decide +kernel
theorem dX9_behind_51 : decode cX9_behind 51 = .ok (.invokevirtual 87, 3) := by decide +kernel
theorem dX9_behind_54 : decode cX9_behind 54 = .ok (.goto 8, 3) := by decide +kernel
theorem dX9_behind_57 : decode cX9_behind 57 = .ok (.aload_n 0, 1) := by decide +kernel
theorem dX9_behind_58 : decode cX9_behind 58 = .ok (.iload_n 2, 1) := by decide +kernel
theorem dX9_behind_59 : decode cX9_behind 59 = .ok (.invokevirtual 207, 3) := by decide +kernel
theorem dX9_behind_62 : decode cX9_behind 62 = .ok (.istore_n 3, 1) := by decide +kernel
theorem dX9_behind_63 : decode cX9_behind 63 = .ok (.aload_n 0, 1) := by decide +kernel
theorem dX9_behind_64 : decode cX9_behind 64 = .ok (.invokevirtual 210, 3) := by decide +kernel
theorem dX9_behind_67 : decode cX9_behind 67 = .ok (.iload_n 3, 1) := by decide +kernel
theorem dX9_behind_68 : decode cX9_behind 68 = .ok (.ireturn, 1) := by decide +kernel
theorem dX9_isFullUp_0 : decode cX9_isFullUp 0 = .ok (.iconst 1, 1) := by decide +kernel
theorem dX9_isFullUp_1 : decode cX9_isFullUp 1 = .ok (.istore_n 1, 1) := by decide +kernel
theorem dX9_isFullUp_2 : decode cX9_isFullUp 2 = .ok (.iconst 0, 1) := by decide +kernel
theorem dX9_isFullUp_3 : decode cX9_isFullUp 3 = .ok (.istore_n 2, 1) := by decide +kernel
theorem dX9_isFullUp_4 : decode cX9_isFullUp 4 = .ok (.iload_n 2, 1) := by decide +kernel
theorem dX9_isFullUp_5 : decode cX9_isFullUp 5 = .ok (.aload_n 0, 1) := by decide +kernel
theorem dX9_isFullUp_6 : decode cX9_isFullUp 6 = .ok (.getfield 9, 3) := by decide +kernel
theorem dX9_isFullUp_9 : decode cX9_isFullUp 9 = .ok (.iconst 1, 1) := by decide +kernel
theorem dX9_isFullUp_10 : decode cX9_isFullUp 10 = .ok (.iaload, 1) := by decide +kernel
theorem dX9_isFullUp_11 : decode cX9_isFullUp 11 = .ok (.if_icmp .ge 27, 3) := by decide +kernel
theorem dX9_isFullUp_14 : decode cX9_isFullUp 14 = .ok (.iload_n 1, 1) := by decide +kernel
theorem dX9_isFullUp_15 : decode cX9_isFullUp 15 = .ok (.ifCond .eq 15, 3) := by decide +kernel
theorem dX9_isFullUp_18 : decode cX9_isFullUp 18 = .ok (.aload_n 0, 1) := by decide +kernel
theorem dX9_isFullUp_19 : decode cX9_isFullUp 19 = .ok (.iload_n 2, 1) := by decide +kernel
theorem dX9_isFullUp_20 : decode cX9_isFullUp 20 = .ok (.invokevirtual 133, 3) := by decide +kernel
theorem dX9_isFullUp_23 : decode cX9_isFullUp 23 = .ok (.ifCond .ne 7, 3) := by decide +kernel
theorem dX9_isFullUp_26 : decode cX9_isFullUp 26 = .ok (.iconst 1, 1) := by decide +kernel
theorem dX9_isFullUp_27 : decode cX9_isFullUp 27 = .ok (.goto 4, 3) := by decide +kernel
theorem dX9_isFullUp_30 : decode cX9_isFullUp 30 = .ok (.iconst 0, 1) := by decide +kernel
theorem dX9_isFullUp_31 : decode cX9_isFullUp 31 = .ok (.istore_n 1, 1) := by decide +kernel
theorem dX9_isFullUp_32 : decode cX9_isFullUp 32 = .ok (.iinc 2 1, 3) := by decide +kernel
theorem dX9_isFullUp_35 : decode cX9_isFullUp 35 = .ok (.goto (-31), 3) := by decide +kernel
theorem dX9_isFullUp_38 : decode cX9_isFullUp 38 = .ok (.iload_n 1, 1) := by decide +kernel
theorem dX9_isFullUp_39 : decode cX9_isFullUp 39 = .ok (.ireturn, 1) := by decide +kernel
theorem dX9_fullUp_0 : decode cX9_fullUp 0 = .ok (.aload_n 0, 1) := by decide +kernel
theorem dX9_fullUp_1 : decode cX9_fullUp 1 = .ok (.invokevirtual 204, 3) := by decide +kernel
theorem dX9_fullUp_4 : decode cX9_fullUp 4 = .ok (.iconst 0, 1) := by decide +kernel
theorem dX9_fullUp_5 : decode cX9_fullUp 5 = .ok (.istore_n 1, 1) := by decide +kernel
theorem dX9_fullUp_6 : decode cX9_fullUp 6 = .ok (.iload_n 1, 1) := by decide +kernel
theorem dX9_fullUp_7 : decode cX9_fullUp 7 = .ok (.sipush 200, 3) := by decide +kernel
theorem dX9_fullUp_10 : decode cX9_fullUp 10 = .ok (.if_icmp .gt 20, 3) := by decide +kernel
theorem dX9_fullUp_13 : decode cX9_fullUp 13 = .ok (.aload_n 0, 1) := by decide +kernel
theorem dX9_fullUp_14 : decode cX9_fullUp 14 = .ok (.invokevirtual 213, 3) := by decide +kernel
theorem dX9_fullUp_17 : decode cX9_fullUp 17 = .ok (.ifCond .ne 13, 3) := by decide +kernel
theorem dX9_fullUp_20 : decode cX9_fullUp 20 = .ok (.aload_n 0, 1) := by decide +kernel
theorem dX9_fullUp_21 : decode cX9_fullUp 21 = .ok (.invokevirtual 186, 3) := by decide +kernel
theorem dX9_fullUp_24 : decode cX9_fullUp 24 = .ok (.iinc 1 1, 3) := by decide +kernel
theorem dX9_fullUp_27 : decode cX9_fullUp 27 = .ok (.goto (-21), 3) := by decide +kernel
theorem dX9_fullUp_30 : decode cX9_fullUp 30 = .ok (.aload_n 0, 1) := by decide +kernel
theorem dX9_fullUp_31 : decode cX9_fullUp 31 = .ok (.invokevirtual 210, 3) := by decide +kernel
theorem dX9_fullUp_34 : decode cX9_fullUp 34 = .ok (.iload_n 1, 1) := by decide +kernel
theorem dX9_fullUp_35 : decode cX9_fullUp 35 = .ok (.sipush 200, 3) := by decide +kernel
theorem dX9_fullUp_38 : decode cX9_fullUp 38 = .ok (.if_icmp .le 8, 3) := by decide +kernel
theorem dX9_fullUp_41 : decode cX9_fullUp 41 = .ok (.ldc 78, 2) := by decide +kernel
theorem dX9_fullUp_43 : decode cX9_fullUp 43 = .ok (.goto 4, 3) := by decide +kernel
theorem dX9_fullUp_46 : decode cX9_fullUp 46 = .ok (.iload_n 1, 1) := by decide +kernel
theorem dX9_fullUp_47 : decode cX9_fullUp 47 = .ok (.ireturn, 1) := by decide +kernel
theorem dX9_rose_0 : decode cX9_rose 0 = .ok (.iload_n 1, 1) := by decide +kernel
theorem dX9_rose_1 : decode cX9_rose 1 = .ok (.iconst 1, 1) := by decide +kernel
theorem dX9_rose_2 : decode cX9_rose 2 = .ok (.bipush 60, 2) := by decide +kernel
theorem dX9_rose_4 : decode cX9_rose 4 = .ok (.invokestatic 79, 3) := by decide +kernel
theorem dX9_rose_7 : decode cX9_rose 7 = .ok (.ifCond .eq 12, 3) := by decide +kernel
theorem dX9_rose_10 : decode cX9_rose 10 = .ok (.iload_n 2, 1) := by decide +kernel
theorem dX9_rose_11 : decode cX9_rose 11 = .ok (.iconst 0, 1) := by decide +kernel
theorem dX9_rose_12 : decode cX9_rose 12 = .ok (.iconst 1, 1) := by decide +kernel
theorem dX9_rose_13 : decode cX9_rose 13 = .ok (.invokestatic 79, 3) := by decide +kernel
theorem dX9_rose_16 : decode cX9_rose 16 = .ok (.ifCond .ne 6, 3) := by decide +kernel
theorem dX9_rose_19 : decode cX9_rose 19 = .ok (.ldc 118, 2) := by decide +kernel
theorem dX9_rose_21 : decode cX9_rose 21 = .ok (.ireturn, 1) := by decide +kernel
theorem dX9_rose_22 : decode cX9_rose 22 = .ok (.aload_n 0, 1) := by decide +kernel
theorem dX9_rose_23 : decode cX9_rose 23 = .ok (.invokevirtual 204, 3) := by decide +kernel
theorem dX9_rose_26 : decode cX9_rose 26 = .ok (.iconst (-1), 1) := by decide +kernel
theorem dX9_rose_27 : decode cX9_rose 27 = .ok (.istore_n 3, 1) := by decide +kernel
theorem dX9_rose_28 : decode cX9_rose 28 = .ok (.iconst 0, 1) := by decide +kernel
theorem dX9_rose_29 : decode cX9_rose 29 = .ok (.istore 4, 2) := by decide +kernel
theorem dX9_rose_31 : decode cX9_rose 31 = .ok (.iconst 0, 1) := by decide +kernel
theorem dX9_rose_32 : decode cX9_rose 32 = .ok (.istore 5, 2) := by decide +kernel
theorem dX9_rose_34 : decode cX9_rose 34 = .ok (.iload 5, 2) := by decide +kernel
theorem dX9_rose_36 : decode cX9_rose 36 = .ok (.aload_n 0, 1) := by decide +kernel
theorem dX9_rose_37 : decode cX9_rose 37 = .ok (.getfield 9, 3) := by decide +kernel
theorem dX9_rose_40 : decode cX9_rose 40 = .ok (.iconst 1, 1) := by decide +kernel
theorem dX9_rose_41 : decode cX9_rose 41 = .ok (.iaload, 1) := by decide +kernel
theorem dX9_rose_42 : decode cX9_rose 42 = .ok (.if_icmp .ge 63, 3) := by decide +kernel
theorem dX9_rose_45 : decode cX9_rose 45 = .ok (.aload_n 0, 1) := by decide +kernel
theorem dX9_rose_46 : decode cX9_rose 46 = .ok (.iload 5, 2) := by decide +kernel
theorem dX9_rose_48 : decode cX9_rose 48 = .ok (.iconst 1, 1) := by decide +kernel
theorem dX9_rose_49 : decode cX9_rose 49 = .ok (.invokevirtual 87, 3) := by decide +kernel
theorem dX9_rose_52 : decode cX9_rose 52 = .ok (.ifCond .lt 47, 3) := by decide +kernel
theorem dX9_rose_55 : decode cX9_rose 55 = .ok (.aload_n 0, 1) := by decide +kernel
theorem dX9_rose_56 : decode cX9_rose 56 = .ok (.iload 5, 2) := by decide +kernel
theorem dX9_rose_58 : decode cX9_rose 58 = .ok (.iconst 1, 1) := by decide +kernel
theorem dX9_rose_59 : decode cX9_rose 59 = .ok (.iconst (-1), 1) := by decide +kernel
theorem dX9_rose_60 : decode cX9_rose 60 = .ok (.invokevirtual 122, 3) := by decide +kernel
theorem dX9_rose_63 : decode cX9_rose 63 = .ok (.aload_n 0, 1) := by decide +kernel
theorem dX9_rose_64 : decode cX9_rose 64 = .ok (.iload_n 1, 1) := by decide +kernel
theorem dX9_rose_65 : decode cX9_rose 65 = .ok (.invokevirtual 189, 3) := by decide +kernel
theorem dX9_rose_68 : decode cX9_rose 68 = .ok (.aload_n 0, 1) := by decide +kernel
theorem dX9_rose_69 : decode cX9_rose 69 = .ok (.getfield 9, 3) := by decide +kernel
theorem dX9_rose_72 : decode cX9_rose 72 = .ok (.bipush 10, 2) := by decide +kernel
theorem dX9_rose_74 : decode cX9_rose 74 = .ok (.iaload, 1) := by decide +kernel
theorem dX9_rose_75 : decode cX9_rose 75 = .ok (.istore 6, 2) := by decide +kernel
theorem dX9_rose_77 : decode cX9_rose 77 = .ok (.aload_n 0, 1) := by decide +kernel
theorem dX9_rose_78 : decode cX9_rose 78 = .ok (.invokevirtual 210, 3) := by decide +kernel
theorem dX9_rose_81 : decode cX9_rose 81 = .ok (.iload_n 3, 1) := by decide +kernel
theorem dX9_rose_82 : decode cX9_rose 82 = .ok (.ifCond .lt 10, 3) := by decide +kernel
theorem dX9_rose_85 : decode cX9_rose 85 = .ok (.iload 6, 2) := by decide +kernel
theorem dX9_rose_87 : decode cX9_rose 87 = .ok (.iload 4, 2) := by decide +kernel
theorem dX9_rose_89 : decode cX9_rose 89 = .ok (.if_icmp .le 10, 3) := by decide +kernel
theorem dX9_rose_92 : decode cX9_rose 92 = .ok (.iload 5, 2) := by decide +kernel
theorem dX9_rose_94 : decode cX9_rose 94 = .ok (.istore_n 3, 1) := by decide +kernel
theorem dX9_rose_95 : decode cX9_rose 95 = .ok (.iload 6, 2) := by decide +kernel
theorem dX9_rose_97 : decode cX9_rose 97 = .ok (.istore 4, 2) := by decide +kernel
theorem dX9_rose_99 : decode cX9_rose 99 = .ok (.iinc 5 1, 3) := by decide +kernel
theorem dX9_rose_102 : decode cX9_rose 102 = .ok (.goto (-68), 3) := by decide +kernel
theorem dX9_rose_105 : decode cX9_rose 105 = .ok (.iload_n 3, 1) := by decide +kernel
theorem dX9_rose_106 : decode cX9_rose 106 = .ok (.ifCond .ge 8, 3) := by decide +kernel
theorem dX9_rose_109 : decode cX9_rose 109 = .ok (.ldc 78, 2) := by decide +kernel
theorem dX9_rose_111 : decode cX9_rose 111 = .ok (.goto 13, 3) := by decide +kernel
theorem dX9_rose_114 : decode cX9_rose 114 = .ok (.iload_n 2, 1) := by decide +kernel
theorem dX9_rose_115 : decode cX9_rose 115 = .ok (.ifCond .ne 7, 3) := by decide +kernel
theorem dX9_rose_118 : decode cX9_rose 118 = .ok (.iload_n 3, 1) := by decide +kernel
theorem dX9_rose_119 : decode cX9_rose 119 = .ok (.goto 5, 3) := by decide +kernel
theorem dX9_rose_122 : decode cX9_rose 122 = .ok (.iload 4, 2) := by decide +kernel
theorem dX9_rose_124 : decode cX9_rose 124 = .ok (.ireturn, 1) := by decide +kernel
theorem dX9_book_0 : decode cX9_book 0 = .ok (.iload_n 1, 1) := by decide +kernel
theorem dX9_book_1 : decode cX9_book 1 = .ok (.invokestatic 217, 3) := by decide +kernel
theorem dX9_book_4 : decode cX9_book 4 = .ok (.ifCond .ne 6, 3) := by decide +kernel
theorem dX9_book_7 : decode cX9_book 7 = .ok (.ldc 118, 2) := by decide +kernel
theorem dX9_book_9 : decode cX9_book 9 = .ok (.ireturn, 1) := by decide +kernel
theorem dX9_book_10 : decode cX9_book 10 = .ok (.aload_n 0, 1) := by decide +kernel
theorem dX9_book_11 : decode cX9_book 11 = .ok (.getfield 51, 3) := by decide +kernel
theorem dX9_book_14 : decode cX9_book 14 = .ok (.iload_n 1, 1) := by decide +kernel
theorem dX9_book_15 : decode cX9_book 15 = .ok (.iaload, 1) := by decide +kernel
theorem dX9_book_16 : decode cX9_book 16 = .ok (.ifCond .ge 6, 3) := by decide +kernel
theorem dX9_book_19 : decode cX9_book 19 = .ok (.ldc 220, 2) := by decide +kernel
theorem dX9_book_21 : decode cX9_book 21 = .ok (.ireturn, 1) := by decide +kernel
theorem dX9_book_22 : decode cX9_book 22 = .ok (.aload_n 0, 1) := by decide +kernel
theorem dX9_book_23 : decode cX9_book 23 = .ok (.invokevirtual 111, 3) := by decide +kernel
theorem dX9_book_26 : decode cX9_book 26 = .ok (.istore_n 2, 1) := by decide +kernel
theorem dX9_book_27 : decode cX9_book 27 = .ok (.iconst 0, 1) := by decide +kernel
theorem dX9_book_28 : decode cX9_book 28 = .ok (.istore_n 3, 1) := by decide +kernel
theorem dX9_book_29 : decode cX9_book 29 = .ok (.iconst 0, 1) := by decide +kernel
theorem dX9_book_30 : decode cX9_book 30 = .ok (.istore 4, 2) := by decide +kernel
theorem dX9_book_32 : decode cX9_book 32 = .ok (.iload 4, 2) := by decide +kernel
theorem dX9_book_34 : decode cX9_book 34 = .ok (.aload_n 0, 1) := by decide +kernel
theorem dX9_book_35 : decode cX9_book 35 = .ok (.getfield 54, 3) := by decide +kernel
theorem dX9_book_38 : decode cX9_book 38 = .ok (.iload_n 1, 1) := by decide +kernel
theorem dX9_book_39 : decode cX9_book 39 = .ok (.iaload, 1) := by decide +kernel
theorem dX9_book_40 : decode cX9_book 40 = .ok (.if_icmp .ge 61, 3) := by decide +kernel
theorem dX9_book_43 : decode cX9_book 43 = .ok (.aload_n 0, 1) := by decide +kernel
theorem dX9_book_44 : decode cX9_book 44 = .ok (.getfield 57, 3) := by decide +kernel
theorem dX9_book_47 : decode cX9_book 47 = .ok (.bipush 24, 2) := by decide +kernel
theorem dX9_book_49 : decode cX9_book 49 = .ok (.iload_n 1, 1) := by decide +kernel
theorem dX9_book_50 : decode cX9_book 50 = .ok (.imul, 1) := by decide +kernel
theorem dX9_book_51 : decode cX9_book 51 = .ok (.iload 4, 2) := by decide +kernel
theorem dX9_book_53 : decode cX9_book 53 = .ok (.iadd, 1) := by decide +kernel
theorem dX9_book_54 : decode cX9_book 54 = .ok (.iaload, 1) := by decide +kernel
theorem dX9_book_55 : decode cX9_book 55 = .ok (.istore 5, 2) := by decide +kernel
theorem dX9_book_57 : decode cX9_book 57 = .ok (.iload 5, 2) := by decide +kernel
theorem dX9_book_59 : decode cX9_book 59 = .ok (.ldc 78, 2) := by decide +kernel
theorem dX9_book_61 : decode cX9_book 61 = .ok (.if_icmp .eq 34, 3) := by decide +kernel
theorem dX9_book_64 : decode cX9_book 64 = .ok (.aload_n 0, 1) := by decide +kernel
theorem dX9_book_65 : decode cX9_book 65 = .ok (.iload 5, 2) := by decide +kernel
theorem dX9_book_67 : decode cX9_book 67 = .ok (.invokevirtual 98, 3) := by decide +kernel
theorem dX9_book_70 : decode cX9_book 70 = .ok (.ifCond .eq 13, 3) := by decide +kernel
theorem dX9_book_73 : decode cX9_book 73 = .ok (.aload_n 0, 1) := by decide +kernel
theorem dX9_book_74 : decode cX9_book 74 = .ok (.iload_n 2, 1) := by decide +kernel
theorem dX9_book_75 : decode cX9_book 75 = .ok (.iload 5, 2) := by decide +kernel
theorem dX9_book_77 : decode cX9_book 77 = .ok (.invokevirtual 193, 3) := by decide +kernel
theorem dX9_book_80 : decode cX9_book 80 = .ok (.ifCond .ne 5, 3) := by decide +kernel
theorem dX9_book_83 : decode cX9_book 83 = .ok (.iload_n 3, 1) := by decide +kernel
theorem dX9_book_84 : decode cX9_book 84 = .ok (.ireturn, 1) := by decide +kernel
theorem dX9_book_85 : decode cX9_book 85 = .ok (.iload_n 2, 1) := by decide +kernel
theorem dX9_book_86 : decode cX9_book 86 = .ok (.iconst 1, 1) := by decide +kernel
theorem dX9_book_87 : decode cX9_book 87 = .ok (.iload 5, 2) := by decide +kernel
theorem dX9_book_89 : decode cX9_book 89 = .ok (.ishl, 1) := by decide +kernel
theorem dX9_book_90 : decode cX9_book 90 = .ok (.ior, 1) := by decide +kernel
theorem dX9_book_91 : decode cX9_book 91 = .ok (.istore_n 2, 1) := by decide +kernel
theorem dX9_book_92 : decode cX9_book 92 = .ok (.iinc 3 1, 3) := by decide +kernel
theorem dX9_book_95 : decode cX9_book 95 = .ok (.iinc 4 1, 3) := by decide +kernel
theorem dX9_book_98 : decode cX9_book 98 = .ok (.goto (-66), 3) := by decide +kernel
theorem dX9_book_101 : decode cX9_book 101 = .ok (.iload_n 3, 1) := by decide +kernel
theorem dX9_book_102 : decode cX9_book 102 = .ok (.ireturn, 1) := by decide +kernel
theorem dX9_fee_0 : decode cX9_fee 0 = .ok (.aload_n 0, 1) := by decide +kernel
theorem dX9_fee_1 : decode cX9_fee 1 = .ok (.iconst 1, 1) := by decide +kernel
theorem dX9_fee_2 : decode cX9_fee 2 = .ok (.invokevirtual 147, 3) := by decide +kernel
theorem dX9_fee_5 : decode cX9_fee 5 = .ok (.istore_n 1, 1) := by decide +kernel
theorem dX9_fee_6 : decode cX9_fee 6 = .ok (.aload_n 0, 1) := by decide +kernel
theorem dX9_fee_7 : decode cX9_fee 7 = .ok (.getfield 48, 3) := by decide +kernel
theorem dX9_fee_10 : decode cX9_fee 10 = .ok (.iconst 0, 1) := by decide +kernel
theorem dX9_fee_11 : decode cX9_fee 11 = .ok (.aload_n 0, 1) := by decide +kernel
theorem dX9_fee_12 : decode cX9_fee 12 = .ok (.getfield 9, 3) := by decide +kernel
theorem dX9_fee_15 : decode cX9_fee 15 = .ok (.bipush 10, 2) := by decide +kernel
theorem dX9_fee_17 : decode cX9_fee 17 = .ok (.iaload, 1) := by decide +kernel
theorem dX9_fee_18 : decode cX9_fee 18 = .ok (.iastore, 1) := by decide +kernel
theorem dX9_fee_19 : decode cX9_fee 19 = .ok (.aload_n 0, 1) := by decide +kernel
theorem dX9_fee_20 : decode cX9_fee 20 = .ok (.getfield 48, 3) := by decide +kernel
theorem dX9_fee_23 : decode cX9_fee 23 = .ok (.iconst 1, 1) := by decide +kernel
theorem dX9_fee_24 : decode cX9_fee 24 = .ok (.aload_n 0, 1) := by decide +kernel
theorem dX9_fee_25 : decode cX9_fee 25 = .ok (.getfield 9, 3) := by decide +kernel
theorem dX9_fee_28 : decode cX9_fee 28 = .ok (.iconst 5, 1) := by decide +kernel
theorem dX9_fee_29 : decode cX9_fee 29 = .ok (.iaload, 1) := by decide +kernel
theorem dX9_fee_30 : decode cX9_fee 30 = .ok (.iastore, 1) := by decide +kernel
theorem dX9_fee_31 : decode cX9_fee 31 = .ok (.iload_n 1, 1) := by decide +kernel
theorem dX9_fee_32 : decode cX9_fee 32 = .ok (.ifCond .ge 13, 3) := by decide +kernel
theorem dX9_fee_35 : decode cX9_fee 35 = .ok (.aload_n 0, 1) := by decide +kernel
theorem dX9_fee_36 : decode cX9_fee 36 = .ok (.getfield 9, 3) := by decide +kernel
theorem dX9_fee_39 : decode cX9_fee 39 = .ok (.bipush 10, 2) := by decide +kernel
theorem dX9_fee_41 : decode cX9_fee 41 = .ok (.iaload, 1) := by decide +kernel
theorem dX9_fee_42 : decode cX9_fee 42 = .ok (.goto 8, 3) := by decide +kernel
theorem dX9_fee_45 : decode cX9_fee 45 = .ok (.aload_n 0, 1) := by decide +kernel
theorem dX9_fee_46 : decode cX9_fee 46 = .ok (.iload_n 1, 1) := by decide +kernel
theorem dX9_fee_47 : decode cX9_fee 47 = .ok (.invokevirtual 150, 3) := by decide +kernel
theorem dX9_fee_50 : decode cX9_fee 50 = .ok (.ireturn, 1) := by decide +kernel
theorem dX9_fine_0 : decode cX9_fine 0 = .ok (.aload_n 0, 1) := by decide +kernel
theorem dX9_fine_1 : decode cX9_fine 1 = .ok (.iload_n 1, 1) := by decide +kernel
theorem dX9_fine_2 : decode cX9_fine 2 = .ok (.invokevirtual 130, 3) := by decide +kernel
theorem dX9_fine_5 : decode cX9_fine 5 = .ok (.ifCond .ne 6, 3) := by decide +kernel
theorem dX9_fine_8 : decode cX9_fine 8 = .ok (.ldc 118, 2) := by decide +kernel
theorem dX9_fine_10 : decode cX9_fine 10 = .ok (.ireturn, 1) := by decide +kernel
theorem dX9_fine_11 : decode cX9_fine 11 = .ok (.aload_n 0, 1) := by decide +kernel
theorem dX9_fine_12 : decode cX9_fine 12 = .ok (.iconst 2, 1) := by decide +kernel
theorem dX9_fine_13 : decode cX9_fine 13 = .ok (.invokevirtual 147, 3) := by decide +kernel
theorem dX9_fine_16 : decode cX9_fine 16 = .ok (.istore_n 2, 1) := by decide +kernel
theorem dX9_fine_17 : decode cX9_fine 17 = .ok (.aload_n 0, 1) := by decide +kernel
theorem dX9_fine_18 : decode cX9_fine 18 = .ok (.getfield 48, 3) := by decide +kernel
theorem dX9_fine_21 : decode cX9_fine 21 = .ok (.iconst 0, 1) := by decide +kernel
theorem dX9_fine_22 : decode cX9_fine 22 = .ok (.aload_n 0, 1) := by decide +kernel
theorem dX9_fine_23 : decode cX9_fine 23 = .ok (.iload_n 1, 1) := by decide +kernel
theorem dX9_fine_24 : decode cX9_fine 24 = .ok (.iconst 2, 1) := by decide +kernel
theorem dX9_fine_25 : decode cX9_fine 25 = .ok (.invokevirtual 87, 3) := by decide +kernel
theorem dX9_fine_28 : decode cX9_fine 28 = .ok (.iastore, 1) := by decide +kernel
theorem dX9_fine_29 : decode cX9_fine 29 = .ok (.aload_n 0, 1) := by decide +kernel
theorem dX9_fine_30 : decode cX9_fine 30 = .ok (.getfield 48, 3) := by decide +kernel
theorem dX9_fine_33 : decode cX9_fine 33 = .ok (.iconst 1, 1) := by decide +kernel
theorem dX9_fine_34 : decode cX9_fine 34 = .ok (.aload_n 0, 1) := by decide +kernel
theorem dX9_fine_35 : decode cX9_fine 35 = .ok (.iload_n 1, 1) := by decide +kernel
theorem dX9_fine_36 : decode cX9_fine 36 = .ok (.iconst 3, 1) := by decide +kernel
theorem dX9_fine_37 : decode cX9_fine 37 = .ok (.invokevirtual 87, 3) := by decide +kernel
theorem dX9_fine_40 : decode cX9_fine 40 = .ok (.iastore, 1) := by decide +kernel
theorem dX9_fine_41 : decode cX9_fine 41 = .ok (.iload_n 2, 1) := by decide +kernel
theorem dX9_fine_42 : decode cX9_fine 42 = .ok (.ifCond .ge 12, 3) := by decide +kernel
theorem dX9_fine_45 : decode cX9_fine 45 = .ok (.aload_n 0, 1) := by decide +kernel
theorem dX9_fine_46 : decode cX9_fine 46 = .ok (.iload_n 1, 1) := by decide +kernel
theorem dX9_fine_47 : decode cX9_fine 47 = .ok (.iconst 3, 1) := by decide +kernel
theorem dX9_fine_48 : decode cX9_fine 48 = .ok (.invokevirtual 87, 3) := by decide +kernel
theorem dX9_fine_51 : decode cX9_fine 51 = .ok (.goto 8, 3) := by decide +kernel
theorem dX9_fine_54 : decode cX9_fine 54 = .ok (.aload_n 0, 1) := by decide +kernel
theorem dX9_fine_55 : decode cX9_fine 55 = .ok (.iload_n 2, 1) := by decide +kernel
theorem dX9_fine_56 : decode cX9_fine 56 = .ok (.invokevirtual 150, 3) := by decide +kernel
theorem dX9_fine_59 : decode cX9_fine 59 = .ok (.ireturn, 1) := by decide +kernel
theorem dX9_feed_0 : decode cX9_feed 0 = .ok (.aload_n 0, 1) := by decide +kernel
theorem dX9_feed_1 : decode cX9_feed 1 = .ok (.getfield 221, 3) := by decide +kernel
theorem dX9_feed_4 : decode cX9_feed 4 = .ok (.bipush 12, 2) := by decide +kernel
theorem dX9_feed_6 : decode cX9_feed 6 = .ok (.iadd, 1) := by decide +kernel
theorem dX9_feed_7 : decode cX9_feed 7 = .ok (.bipush 96, 2) := by decide +kernel
theorem dX9_feed_9 : decode cX9_feed 9 = .ok (.if_icmp .le 6, 3) := by decide +kernel
theorem dX9_feed_12 : decode cX9_feed 12 = .ok (.ldc 126, 2) := by decide +kernel
theorem dX9_feed_14 : decode cX9_feed 14 = .ok (.ireturn, 1) := by decide +kernel
theorem dX9_feed_15 : decode cX9_feed 15 = .ok (.iconst 0, 1) := by decide +kernel
theorem dX9_feed_16 : decode cX9_feed 16 = .ok (.istore 4, 2) := by decide +kernel
theorem dX9_feed_18 : decode cX9_feed 18 = .ok (.iload 4, 2) := by decide +kernel
theorem dX9_feed_20 : decode cX9_feed 20 = .ok (.bipush 12, 2) := by decide +kernel
theorem dX9_feed_22 : decode cX9_feed 22 = .ok (.if_icmp .ge 62, 3) := by decide +kernel
theorem dX9_feed_25 : decode cX9_feed 25 = .ok (.iload 4, 2) := by decide +kernel
theorem dX9_feed_27 : decode cX9_feed 27 = .ok (.iconst 4, 1) := by decide +kernel
theorem dX9_feed_28 : decode cX9_feed 28 = .ok (.if_icmp .ge 7, 3) := by decide +kernel
theorem dX9_feed_31 : decode cX9_feed 31 = .ok (.iload_n 1, 1) := by decide +kernel
theorem dX9_feed_32 : decode cX9_feed 32 = .ok (.goto 15, 3) := by decide +kernel
theorem dX9_feed_35 : decode cX9_feed 35 = .ok (.iload 4, 2) := by decide +kernel
theorem dX9_feed_37 : decode cX9_feed 37 = .ok (.bipush 8, 2) := by decide +kernel
theorem dX9_feed_39 : decode cX9_feed 39 = .ok (.if_icmp .ge 7, 3) := by decide +kernel
theorem dX9_feed_42 : decode cX9_feed 42 = .ok (.iload_n 2, 1) := by decide +kernel
theorem dX9_feed_43 : decode cX9_feed 43 = .ok (.goto 4, 3) := by decide +kernel
theorem dX9_feed_46 : decode cX9_feed 46 = .ok (.iload_n 3, 1) := by decide +kernel
theorem dX9_feed_47 : decode cX9_feed 47 = .ok (.istore 5, 2) := by decide +kernel
theorem dX9_feed_49 : decode cX9_feed 49 = .ok (.aload_n 0, 1) := by decide +kernel
theorem dX9_feed_50 : decode cX9_feed 50 = .ok (.getfield 25, 3) := by decide +kernel
theorem dX9_feed_53 : decode cX9_feed 53 = .ok (.aload_n 0, 1) := by decide +kernel
theorem dX9_feed_54 : decode cX9_feed 54 = .ok (.getfield 221, 3) := by decide +kernel
theorem dX9_feed_57 : decode cX9_feed 57 = .ok (.iload 4, 2) := by decide +kernel
theorem dX9_feed_59 : decode cX9_feed 59 = .ok (.iadd, 1) := by decide +kernel
theorem dX9_feed_60 : decode cX9_feed 60 = .ok (.iload 5, 2) := by decide +kernel
theorem dX9_feed_62 : decode cX9_feed 62 = .ok (.bipush 24, 2) := by decide +kernel
theorem dX9_feed_64 : decode cX9_feed 64 = .ok (.bipush 8, 2) := by decide +kernel
theorem dX9_feed_66 : decode cX9_feed 66 = .ok (.iload 4, 2) := by decide +kernel
theorem dX9_feed_68 : decode cX9_feed 68 = .ok (.iconst 4, 1) := by decide +kernel
theorem dX9_feed_69 : decode cX9_feed 69 = .ok (.irem, 1) := by decide +kernel
theorem dX9_feed_70 : decode cX9_feed 70 = .ok (.imul, 1) := by decide +kernel
theorem dX9_feed_71 : decode cX9_feed 71 = .ok (.isub, 1) := by decide +kernel
theorem dX9_feed_72 : decode cX9_feed 72 = .ok (.ishr, 1) := by decide +kernel
theorem dX9_feed_73 : decode cX9_feed 73 = .ok (.sipush 255, 3) := by decide +kernel
theorem dX9_feed_76 : decode cX9_feed 76 = .ok (.iand, 1) := by decide +kernel
theorem dX9_feed_77 : decode cX9_feed 77 = .ok (.iastore, 1) := by decide +kernel
theorem dX9_feed_78 : decode cX9_feed 78 = .ok (.iinc 4 1, 3) := by decide +kernel
theorem dX9_feed_81 : decode cX9_feed 81 = .ok (.goto (-63), 3) := by decide +kernel
theorem dX9_feed_84 : decode cX9_feed 84 = .ok (.aload_n 0, 1) := by decide +kernel
theorem dX9_feed_85 : decode cX9_feed 85 = .ok (.dup, 1) := by decide +kernel
theorem dX9_feed_86 : decode cX9_feed 86 = .ok (.getfield 221, 3) := by decide +kernel
theorem dX9_feed_89 : decode cX9_feed 89 = .ok (.bipush 12, 2) := by decide +kernel
theorem dX9_feed_91 : decode cX9_feed 91 = .ok (.iadd, 1) := by decide +kernel
theorem dX9_feed_92 : decode cX9_feed 92 = .ok (.putfield 221, 3) := by decide +kernel
theorem dX9_feed_95 : decode cX9_feed 95 = .ok (.aload_n 0, 1) := by decide +kernel
theorem dX9_feed_96 : decode cX9_feed 96 = .ok (.getfield 221, 3) := by decide +kernel
theorem dX9_feed_99 : decode cX9_feed 99 = .ok (.ireturn, 1) := by decide +kernel
theorem dX9_trim_0 : decode cX9_trim 0 = .ok (.iload_n 1, 1) := by decide +kernel
theorem dX9_trim_1 : decode cX9_trim 1 = .ok (.iconst 0, 1) := by decide +kernel
theorem dX9_trim_2 : decode cX9_trim 2 = .ok (.aload_n 0, 1) := by decide +kernel
theorem dX9_trim_3 : decode cX9_trim 3 = .ok (.getfield 221, 3) := by decide +kernel
theorem dX9_trim_6 : decode cX9_trim 6 = .ok (.invokestatic 79, 3) := by decide +kernel
theorem dX9_trim_9 : decode cX9_trim 9 = .ok (.ifCond .ne 6, 3) := by decide +kernel
theorem dX9_trim_12 : decode cX9_trim 12 = .ok (.ldc 118, 2) := by decide +kernel
theorem dX9_trim_14 : decode cX9_trim 14 = .ok (.ireturn, 1) := by decide +kernel
theorem dX9_trim_15 : decode cX9_trim 15 = .ok (.aload_n 0, 1) := by decide +kernel
theorem dX9_trim_16 : decode cX9_trim 16 = .ok (.iload_n 1, 1) := by decide +kernel
theorem dX9_trim_17 : decode cX9_trim 17 = .ok (.putfield 221, 3) := by decide +kernel
theorem dX9_trim_20 : decode cX9_trim 20 = .ok (.iload_n 1, 1) := by decide +kernel
theorem dX9_trim_21 : decode cX9_trim 21 = .ok (.ireturn, 1) := by decide +kernel
theorem dX9_isLetter_0 : decode cX9_isLetter 0 = .ok (.iload_n 1, 1) := by decide +kernel
theorem dX9_isLetter_1 : decode cX9_isLetter 1 = .ok (.aload_n 0, 1) := by decide +kernel
theorem dX9_isLetter_2 : decode cX9_isLetter 2 = .ok (.getfield 221, 3) := by decide +kernel
theorem dX9_isLetter_5 : decode cX9_isLetter 5 = .ok (.if_icmp .ge 29, 3) := by decide +kernel
theorem dX9_isLetter_8 : decode cX9_isLetter 8 = .ok (.aload_n 0, 1) := by decide +kernel
theorem dX9_isLetter_9 : decode cX9_isLetter 9 = .ok (.getfield 25, 3) := by decide +kernel
theorem dX9_isLetter_12 : decode cX9_isLetter 12 = .ok (.iload_n 1, 1) := by decide +kernel
theorem dX9_isLetter_13 : decode cX9_isLetter 13 = .ok (.iaload, 1) := by decide +kernel
theorem dX9_isLetter_14 : decode cX9_isLetter 14 = .ok (.bipush 97, 2) := by decide +kernel
theorem dX9_isLetter_16 : decode cX9_isLetter 16 = .ok (.if_icmp .lt 18, 3) := by decide +kernel
theorem dX9_isLetter_19 : decode cX9_isLetter 19 = .ok (.aload_n 0, 1) := by decide +kernel
theorem dX9_isLetter_20 : decode cX9_isLetter 20 = .ok (.getfield 25, 3) := by decide +kernel
theorem dX9_isLetter_23 : decode cX9_isLetter 23 = .ok (.iload_n 1, 1) := by decide +kernel
theorem dX9_isLetter_24 : decode cX9_isLetter 24 = .ok (.iaload, 1) := by decide +kernel
theorem dX9_isLetter_25 : decode cX9_isLetter 25 = .ok (.bipush 122, 2) := by decide +kernel
theorem dX9_isLetter_27 : decode cX9_isLetter 27 = .ok (.if_icmp .gt 7, 3) := by decide +kernel
theorem dX9_isLetter_30 : decode cX9_isLetter 30 = .ok (.iconst 1, 1) := by decide +kernel
theorem dX9_isLetter_31 : decode cX9_isLetter 31 = .ok (.goto 4, 3) := by decide +kernel
theorem dX9_isLetter_34 : decode cX9_isLetter 34 = .ok (.iconst 0, 1) := by decide +kernel
theorem dX9_isLetter_35 : decode cX9_isLetter 35 = .ok (.ireturn, 1) := by decide +kernel
theorem dX9_isFigure_0 : decode cX9_isFigure 0 = .ok (.iload_n 1, 1) := by decide +kernel
theorem dX9_isFigure_1 : decode cX9_isFigure 1 = .ok (.aload_n 0, 1) := by decide +kernel
theorem dX9_isFigure_2 : decode cX9_isFigure 2 = .ok (.getfield 221, 3) := by decide +kernel
theorem dX9_isFigure_5 : decode cX9_isFigure 5 = .ok (.if_icmp .ge 29, 3) := by decide +kernel
theorem dX9_isFigure_8 : decode cX9_isFigure 8 = .ok (.aload_n 0, 1) := by decide +kernel
theorem dX9_isFigure_9 : decode cX9_isFigure 9 = .ok (.getfield 25, 3) := by decide +kernel
theorem dX9_isFigure_12 : decode cX9_isFigure 12 = .ok (.iload_n 1, 1) := by decide +kernel
theorem dX9_isFigure_13 : decode cX9_isFigure 13 = .ok (.iaload, 1) := by decide +kernel
theorem dX9_isFigure_14 : decode cX9_isFigure 14 = .ok (.bipush 48, 2) := by decide +kernel
theorem dX9_isFigure_16 : decode cX9_isFigure 16 = .ok (.if_icmp .lt 18, 3) := by decide +kernel
theorem dX9_isFigure_19 : decode cX9_isFigure 19 = .ok (.aload_n 0, 1) := by decide +kernel
theorem dX9_isFigure_20 : decode cX9_isFigure 20 = .ok (.getfield 25, 3) := by decide +kernel
theorem dX9_isFigure_23 : decode cX9_isFigure 23 = .ok (.iload_n 1, 1) := by decide +kernel
theorem dX9_isFigure_24 : decode cX9_isFigure 24 = .ok (.iaload, 1) := by decide +kernel
theorem dX9_isFigure_25 : decode cX9_isFigure 25 = .ok (.bipush 57, 2) := by decide +kernel
theorem dX9_isFigure_27 : decode cX9_isFigure 27 = .ok (.if_icmp .gt 7, 3) := by decide +kernel
theorem dX9_isFigure_30 : decode cX9_isFigure 30 = .ok (.iconst 1, 1) := by decide +kernel
theorem dX9_isFigure_31 : decode cX9_isFigure 31 = .ok (.goto 4, 3) := by decide +kernel
theorem dX9_isFigure_34 : decode cX9_isFigure 34 = .ok (.iconst 0, 1) := by decide +kernel
theorem dX9_isFigure_35 : decode cX9_isFigure 35 = .ok (.ireturn, 1) := by decide +kernel
theorem dX9_go_0 : decode cX9_go 0 = .ok (.aload_n 0, 1) := by decide +kernel
theorem dX9_go_1 : decode cX9_go 1 = .ok (.getfield 224, 3) := by decide +kernel
theorem dX9_go_4 : decode cX9_go 4 = .ok (.aload_n 0, 1) := by decide +kernel
theorem dX9_go_5 : decode cX9_go 5 = .ok (.getfield 221, 3) := by decide +kernel
theorem dX9_go_8 : decode cX9_go 8 = .ok (.if_icmp .ge 30, 3) := by decide +kernel
theorem dX9_go_11 : decode cX9_go 11 = .ok (.aload_n 0, 1) := by decide +kernel
theorem dX9_go_12 : decode cX9_go 12 = .ok (.getfield 25, 3) := by decide +kernel
theorem dX9_go_15 : decode cX9_go 15 = .ok (.aload_n 0, 1) := by decide +kernel
theorem dX9_go_16 : decode cX9_go 16 = .ok (.getfield 224, 3) := by decide +kernel
theorem dX9_go_19 : decode cX9_go 19 = .ok (.iaload, 1) := by decide +kernel
theorem dX9_go_20 : decode cX9_go 20 = .ok (.bipush 32, 2) := by decide +kernel
theorem dX9_go_22 : decode cX9_go 22 = .ok (.if_icmp .ne 16, 3) := by decide +kernel
theorem dX9_go_25 : decode cX9_go 25 = .ok (.aload_n 0, 1) := by decide +kernel
theorem dX9_go_26 : decode cX9_go 26 = .ok (.dup, 1) := by decide +kernel
theorem dX9_go_27 : decode cX9_go 27 = .ok (.getfield 224, 3) := by decide +kernel
theorem dX9_go_30 : decode cX9_go 30 = .ok (.iconst 1, 1) := by decide +kernel
theorem dX9_go_31 : decode cX9_go 31 = .ok (.iadd, 1) := by decide +kernel
theorem dX9_go_32 : decode cX9_go 32 = .ok (.putfield 224, 3) := by decide +kernel
theorem dX9_go_35 : decode cX9_go 35 = .ok (.goto (-35), 3) := by decide +kernel
theorem dX9_go_38 : decode cX9_go 38 = .ok (.aload_n 0, 1) := by decide +kernel
theorem dX9_go_39 : decode cX9_go 39 = .ok (.aload_n 0, 1) := by decide +kernel
theorem dX9_go_40 : decode cX9_go 40 = .ok (.getfield 224, 3) := by decide +kernel
theorem dX9_go_43 : decode cX9_go 43 = .ok (.putfield 227, 3) := by decide +kernel
theorem dX9_go_46 : decode cX9_go 46 = .ok (.aload_n 0, 1) := by decide +kernel
theorem dX9_go_47 : decode cX9_go 47 = .ok (.getfield 227, 3) := by decide +kernel
theorem dX9_go_50 : decode cX9_go 50 = .ok (.aload_n 0, 1) := by decide +kernel
theorem dX9_go_51 : decode cX9_go 51 = .ok (.getfield 230, 3) := by decide +kernel
theorem dX9_go_54 : decode cX9_go 54 = .ok (.if_icmp .ne 7, 3) := by decide +kernel
theorem dX9_go_57 : decode cX9_go 57 = .ok (.iconst 1, 1) := by decide +kernel
theorem dX9_go_58 : decode cX9_go 58 = .ok (.goto 4, 3) := by decide +kernel
theorem dX9_go_61 : decode cX9_go 61 = .ok (.iconst 0, 1) := by decide +kernel
theorem dX9_go_62 : decode cX9_go 62 = .ok (.istore_n 1, 1) := by decide +kernel
theorem dX9_go_63 : decode cX9_go 63 = .ok (.aload_n 0, 1) := by decide +kernel
theorem dX9_go_64 : decode cX9_go 64 = .ok (.getfield 227, 3) := by decide +kernel
theorem dX9_go_67 : decode cX9_go 67 = .ok (.aload_n 0, 1) := by decide +kernel
theorem dX9_go_68 : decode cX9_go 68 = .ok (.getfield 221, 3) := by decide +kernel
theorem dX9_go_71 : decode cX9_go 71 = .ok (.if_icmp .ne 11, 3) := by decide +kernel
theorem dX9_go_74 : decode cX9_go 74 = .ok (.aload_n 0, 1) := by decide +kernel
theorem dX9_go_75 : decode cX9_go 75 = .ok (.iconst 0, 1) := by decide +kernel
theorem dX9_go_76 : decode cX9_go 76 = .ok (.putfield 233, 3) := by decide +kernel
theorem dX9_go_79 : decode cX9_go 79 = .ok (.goto 224, 3) := by decide +kernel
theorem dX9_go_82 : decode cX9_go 82 = .ok (.aload_n 0, 1) := by decide +kernel
theorem dX9_go_83 : decode cX9_go 83 = .ok (.aload_n 0, 1) := by decide +kernel
theorem dX9_go_84 : decode cX9_go 84 = .ok (.getfield 227, 3) := by decide +kernel
theorem dX9_go_87 : decode cX9_go 87 = .ok (.invokevirtual 236, 3) := by decide +kernel
theorem dX9_go_90 : decode cX9_go 90 = .ok (.ifCond .eq 64, 3) := by decide +kernel
theorem dX9_go_93 : decode cX9_go 93 = .ok (.aload_n 0, 1) := by decide +kernel
theorem dX9_go_94 : decode cX9_go 94 = .ok (.aload_n 0, 1) := by decide +kernel
theorem dX9_go_95 : decode cX9_go 95 = .ok (.getfield 224, 3) := by decide +kernel
theorem dX9_go_98 : decode cX9_go 98 = .ok (.invokevirtual 236, 3) := by decide +kernel
theorem dX9_go_101 : decode cX9_go 101 = .ok (.ifCond .eq 16, 3) := by decide +kernel
theorem dX9_go_104 : decode cX9_go 104 = .ok (.aload_n 0, 1) := by decide +kernel
theorem dX9_go_105 : decode cX9_go 105 = .ok (.dup, 1) := by decide +kernel
theorem dX9_go_106 : decode cX9_go 106 = .ok (.getfield 224, 3) := by decide +kernel
theorem dX9_go_109 : decode cX9_go 109 = .ok (.iconst 1, 1) := by decide +kernel
theorem dX9_go_110 : decode cX9_go 110 = .ok (.iadd, 1) := by decide +kernel
theorem dX9_go_111 : decode cX9_go 111 = .ok (.putfield 224, 3) := by decide +kernel
theorem dX9_go_114 : decode cX9_go 114 = .ok (.goto (-21), 3) := by decide +kernel
theorem dX9_go_117 : decode cX9_go 117 = .ok (.aload_n 0, 1) := by decide +kernel
theorem dX9_go_118 : decode cX9_go 118 = .ok (.iload_n 1, 1) := by decide +kernel
theorem dX9_go_119 : decode cX9_go 119 = .ok (.ifCond .eq 7, 3) := by decide +kernel
theorem dX9_go_122 : decode cX9_go 122 = .ok (.iconst 4, 1) := by decide +kernel
theorem dX9_go_123 : decode cX9_go 123 = .ok (.goto 4, 3) := by decide +kernel
theorem dX9_go_126 : decode cX9_go 126 = .ok (.iconst 1, 1) := by decide +kernel
theorem dX9_go_127 : decode cX9_go 127 = .ok (.putfield 233, 3) := by decide +kernel
theorem dX9_go_130 : decode cX9_go 130 = .ok (.aload_n 0, 1) := by decide +kernel
theorem dX9_go_131 : decode cX9_go 131 = .ok (.aload_n 0, 1) := by decide +kernel
theorem dX9_go_132 : decode cX9_go 132 = .ok (.getfield 25, 3) := by decide +kernel
theorem dX9_go_135 : decode cX9_go 135 = .ok (.aload_n 0, 1) := by decide +kernel
theorem dX9_go_136 : decode cX9_go 136 = .ok (.getfield 227, 3) := by decide +kernel
theorem dX9_go_139 : decode cX9_go 139 = .ok (.iaload, 1) := by decide +kernel
theorem dX9_go_140 : decode cX9_go 140 = .ok (.putfield 239, 3) := by decide +kernel
theorem dX9_go_143 : decode cX9_go 143 = .ok (.aload_n 0, 1) := by decide +kernel
theorem dX9_go_144 : decode cX9_go 144 = .ok (.aload_n 0, 1) := by decide +kernel
theorem dX9_go_145 : decode cX9_go 145 = .ok (.getfield 224, 3) := by decide +kernel
theorem dX9_go_148 : decode cX9_go 148 = .ok (.putfield 230, 3) := by decide +kernel
theorem dX9_go_151 : decode cX9_go 151 = .ok (.goto 152, 3) := by decide +kernel
theorem dX9_go_154 : decode cX9_go 154 = .ok (.aload_n 0, 1) := by decide +kernel
theorem dX9_go_155 : decode cX9_go 155 = .ok (.aload_n 0, 1) := by decide +kernel
theorem dX9_go_156 : decode cX9_go 156 = .ok (.getfield 227, 3) := by decide +kernel
theorem dX9_go_159 : decode cX9_go 159 = .ok (.invokevirtual 242, 3) := by decide +kernel
theorem dX9_go_162 : decode cX9_go 162 = .ok (.ifCond .eq 113, 3) := by decide +kernel
theorem dX9_go_165 : decode cX9_go 165 = .ok (.aload_n 0, 1) := by decide +kernel
theorem dX9_go_166 : decode cX9_go 166 = .ok (.iconst 0, 1) := by decide +kernel
theorem dX9_go_167 : decode cX9_go 167 = .ok (.putfield 239, 3) := by decide +kernel
theorem dX9_go_170 : decode cX9_go 170 = .ok (.aload_n 0, 1) := by decide +kernel
theorem dX9_go_171 : decode cX9_go 171 = .ok (.aload_n 0, 1) := by decide +kernel
theorem dX9_go_172 : decode cX9_go 172 = .ok (.getfield 224, 3) := by decide +kernel
theorem dX9_go_175 : decode cX9_go 175 = .ok (.invokevirtual 242, 3) := by decide +kernel
theorem dX9_go_178 : decode cX9_go 178 = .ok (.ifCond .eq 60, 3) := by decide +kernel
theorem dX9_go_181 : decode cX9_go 181 = .ok (.aload_n 0, 1) := by decide +kernel
theorem dX9_go_182 : decode cX9_go 182 = .ok (.aload_n 0, 1) := by decide +kernel
theorem dX9_go_183 : decode cX9_go 183 = .ok (.getfield 224, 3) := by decide +kernel
theorem dX9_go_186 : decode cX9_go 186 = .ok (.aload_n 0, 1) := by decide +kernel
theorem dX9_go_187 : decode cX9_go 187 = .ok (.getfield 227, 3) := by decide +kernel
theorem dX9_go_190 : decode cX9_go 190 = .ok (.isub, 1) := by decide +kernel
theorem dX9_go_191 : decode cX9_go 191 = .ok (.iconst 4, 1) := by decide +kernel
theorem dX9_go_192 : decode cX9_go 192 = .ok (.if_icmp .ge 26, 3) := by decide +kernel
theorem dX9_go_195 : decode cX9_go 195 = .ok (.bipush 10, 2) := by decide +kernel
theorem dX9_go_197 : decode cX9_go 197 = .ok (.aload_n 0, 1) := by decide +kernel
theorem dX9_go_198 : decode cX9_go 198 = .ok (.getfield 239, 3) := by decide +kernel
theorem dX9_go_201 : decode cX9_go 201 = .ok (.imul, 1) := by decide +kernel
theorem dX9_go_202 : decode cX9_go 202 = .ok (.aload_n 0, 1) := by decide +kernel
theorem dX9_go_203 : decode cX9_go 203 = .ok (.getfield 25, 3) := by decide +kernel
theorem dX9_go_206 : decode cX9_go 206 = .ok (.aload_n 0, 1) := by decide +kernel
theorem dX9_go_207 : decode cX9_go 207 = .ok (.getfield 224, 3) := by decide +kernel
theorem dX9_go_210 : decode cX9_go 210 = .ok (.iaload, 1) := by decide +kernel
theorem dX9_go_211 : decode cX9_go 211 = .ok (.iadd, 1) := by decide +kernel
theorem dX9_go_212 : decode cX9_go 212 = .ok (.bipush 48, 2) := by decide +kernel
theorem dX9_go_214 : decode cX9_go 214 = .ok (.isub, 1) := by decide +kernel
theorem dX9_go_215 : decode cX9_go 215 = .ok (.goto 7, 3) := by decide +kernel
theorem dX9_go_218 : decode cX9_go 218 = .ok (.aload_n 0, 1) := by decide +kernel
theorem dX9_go_219 : decode cX9_go 219 = .ok (.getfield 239, 3) := by decide +kernel
theorem dX9_go_222 : decode cX9_go 222 = .ok (.putfield 239, 3) := by decide +kernel
theorem dX9_go_225 : decode cX9_go 225 = .ok (.aload_n 0, 1) := by decide +kernel
theorem dX9_go_226 : decode cX9_go 226 = .ok (.dup, 1) := by decide +kernel
theorem dX9_go_227 : decode cX9_go 227 = .ok (.getfield 224, 3) := by decide +kernel
theorem dX9_go_230 : decode cX9_go 230 = .ok (.iconst 1, 1) := by decide +kernel
theorem dX9_go_231 : decode cX9_go 231 = .ok (.iadd, 1) := by decide +kernel
theorem dX9_go_232 : decode cX9_go 232 = .ok (.putfield 224, 3) := by decide +kernel
theorem dX9_go_235 : decode cX9_go 235 = .ok (.goto (-65), 3) := by decide +kernel
theorem dX9_go_238 : decode cX9_go 238 = .ok (.aload_n 0, 1) := by decide +kernel
theorem dX9_go_239 : decode cX9_go 239 = .ok (.iload_n 1, 1) := by decide +kernel
theorem dX9_go_240 : decode cX9_go 240 = .ok (.ifCond .ne 16, 3) := by decide +kernel
theorem dX9_go_243 : decode cX9_go 243 = .ok (.aload_n 0, 1) := by decide +kernel
theorem dX9_go_244 : decode cX9_go 244 = .ok (.getfield 224, 3) := by decide +kernel
theorem dX9_go_247 : decode cX9_go 247 = .ok (.aload_n 0, 1) := by decide +kernel
theorem dX9_go_248 : decode cX9_go 248 = .ok (.getfield 227, 3) := by decide +kernel
theorem dX9_go_251 : decode cX9_go 251 = .ok (.isub, 1) := by decide +kernel
theorem dX9_go_252 : decode cX9_go 252 = .ok (.iconst 4, 1) := by decide +kernel
theorem dX9_go_253 : decode cX9_go 253 = .ok (.if_icmp .le 7, 3) := by decide +kernel
theorem dX9_go_256 : decode cX9_go 256 = .ok (.iconst 4, 1) := by decide +kernel
theorem dX9_go_257 : decode cX9_go 257 = .ok (.goto 4, 3) := by decide +kernel
theorem dX9_go_260 : decode cX9_go 260 = .ok (.iconst 2, 1) := by decide +kernel
theorem dX9_go_261 : decode cX9_go 261 = .ok (.putfield 233, 3) := by decide +kernel
theorem dX9_go_264 : decode cX9_go 264 = .ok (.aload_n 0, 1) := by decide +kernel
theorem dX9_go_265 : decode cX9_go 265 = .ok (.aload_n 0, 1) := by decide +kernel
theorem dX9_go_266 : decode cX9_go 266 = .ok (.getfield 224, 3) := by decide +kernel
theorem dX9_go_269 : decode cX9_go 269 = .ok (.putfield 230, 3) := by decide +kernel
theorem dX9_go_272 : decode cX9_go 272 = .ok (.goto 31, 3) := by decide +kernel
theorem dX9_go_275 : decode cX9_go 275 = .ok (.aload_n 0, 1) := by decide +kernel
theorem dX9_go_276 : decode cX9_go 276 = .ok (.iconst 3, 1) := by decide +kernel
theorem dX9_go_277 : decode cX9_go 277 = .ok (.putfield 233, 3) := by decide +kernel
theorem dX9_go_280 : decode cX9_go 280 = .ok (.aload_n 0, 1) := by decide +kernel
theorem dX9_go_281 : decode cX9_go 281 = .ok (.aload_n 0, 1) := by decide +kernel
theorem dX9_go_282 : decode cX9_go 282 = .ok (.getfield 25, 3) := by decide +kernel
theorem dX9_go_285 : decode cX9_go 285 = .ok (.aload_n 0, 1) := by decide +kernel
theorem dX9_go_286 : decode cX9_go 286 = .ok (.getfield 227, 3) := by decide +kernel
theorem dX9_go_289 : decode cX9_go 289 = .ok (.iaload, 1) := by decide +kernel
theorem dX9_go_290 : decode cX9_go 290 = .ok (.putfield 239, 3) := by decide +kernel
theorem dX9_go_293 : decode cX9_go 293 = .ok (.aload_n 0, 1) := by decide +kernel
theorem dX9_go_294 : decode cX9_go 294 = .ok (.dup, 1) := by decide +kernel
theorem dX9_go_295 : decode cX9_go 295 = .ok (.getfield 224, 3) := by decide +kernel
theorem dX9_go_298 : decode cX9_go 298 = .ok (.iconst 1, 1) := by decide +kernel
theorem dX9_go_299 : decode cX9_go 299 = .ok (.iadd, 1) := by decide +kernel
theorem dX9_go_300 : decode cX9_go 300 = .ok (.putfield 224, 3) := by decide +kernel
theorem dX9_go_303 : decode cX9_go 303 = .ok (.return_, 1) := by decide +kernel
theorem dX9_takesKey_0 : decode cX9_takesKey 0 = .ok (.aload_n 0, 1) := by decide +kernel
theorem dX9_takesKey_1 : decode cX9_takesKey 1 = .ok (.getfield 233, 3) := by decide +kernel
theorem dX9_takesKey_4 : decode cX9_takesKey 4 = .ok (.iconst 1, 1) := by decide +kernel
theorem dX9_takesKey_5 : decode cX9_takesKey 5 = .ok (.if_icmp .eq 5, 3) := by decide +kernel
theorem dX9_takesKey_8 : decode cX9_takesKey 8 = .ok (.iconst 0, 1) := by decide +kernel
theorem dX9_takesKey_9 : decode cX9_takesKey 9 = .ok (.ireturn, 1) := by decide +kernel
theorem dX9_takesKey_10 : decode cX9_takesKey 10 = .ok (.iconst 0, 1) := by decide +kernel
theorem dX9_takesKey_11 : decode cX9_takesKey 11 = .ok (.istore_n 1, 1) := by decide +kernel
theorem dX9_takesKey_12 : decode cX9_takesKey 12 = .ok (.iload_n 1, 1) := by decide +kernel
theorem dX9_takesKey_13 : decode cX9_takesKey 13 = .ok (.iconst 3, 1) := by decide +kernel
theorem dX9_takesKey_14 : decode cX9_takesKey 14 = .ok (.if_icmp .ge 113, 3) := by decide +kernel
theorem dX9_takesKey_17 : decode cX9_takesKey 17 = .ok (.aload_n 0, 1) := by decide +kernel
theorem dX9_takesKey_18 : decode cX9_takesKey 18 = .ok (.getfield 32, 3) := by decide +kernel
theorem dX9_takesKey_21 : decode cX9_takesKey 21 = .ok (.iload_n 1, 1) := by decide +kernel
theorem dX9_takesKey_22 : decode cX9_takesKey 22 = .ok (.iconst 1, 1) := by decide +kernel
theorem dX9_takesKey_23 : decode cX9_takesKey 23 = .ok (.iadd, 1) := by decide +kernel
theorem dX9_takesKey_24 : decode cX9_takesKey 24 = .ok (.iaload, 1) := by decide +kernel
theorem dX9_takesKey_25 : decode cX9_takesKey 25 = .ok (.aload_n 0, 1) := by decide +kernel
theorem dX9_takesKey_26 : decode cX9_takesKey 26 = .ok (.getfield 32, 3) := by decide +kernel
theorem dX9_takesKey_29 : decode cX9_takesKey 29 = .ok (.iload_n 1, 1) := by decide +kernel
theorem dX9_takesKey_30 : decode cX9_takesKey 30 = .ok (.iaload, 1) := by decide +kernel
theorem dX9_takesKey_31 : decode cX9_takesKey 31 = .ok (.isub, 1) := by decide +kernel
theorem dX9_takesKey_32 : decode cX9_takesKey 32 = .ok (.istore_n 2, 1) := by decide +kernel
theorem dX9_takesKey_33 : decode cX9_takesKey 33 = .ok (.iload_n 2, 1) := by decide +kernel
theorem dX9_takesKey_34 : decode cX9_takesKey 34 = .ok (.aload_n 0, 1) := by decide +kernel
theorem dX9_takesKey_35 : decode cX9_takesKey 35 = .ok (.getfield 224, 3) := by decide +kernel
theorem dX9_takesKey_38 : decode cX9_takesKey 38 = .ok (.aload_n 0, 1) := by decide +kernel
theorem dX9_takesKey_39 : decode cX9_takesKey 39 = .ok (.getfield 227, 3) := by decide +kernel
theorem dX9_takesKey_42 : decode cX9_takesKey 42 = .ok (.isub, 1) := by decide +kernel
theorem dX9_takesKey_43 : decode cX9_takesKey 43 = .ok (.if_icmp .ne 7, 3) := by decide +kernel
theorem dX9_takesKey_46 : decode cX9_takesKey 46 = .ok (.iconst 1, 1) := by decide +kernel
theorem dX9_takesKey_47 : decode cX9_takesKey 47 = .ok (.goto 4, 3) := by decide +kernel
theorem dX9_takesKey_50 : decode cX9_takesKey 50 = .ok (.iconst 0, 1) := by decide +kernel
theorem dX9_takesKey_51 : decode cX9_takesKey 51 = .ok (.istore_n 3, 1) := by decide +kernel
theorem dX9_takesKey_52 : decode cX9_takesKey 52 = .ok (.iconst 0, 1) := by decide +kernel
theorem dX9_takesKey_53 : decode cX9_takesKey 53 = .ok (.istore 4, 2) := by decide +kernel
theorem dX9_takesKey_55 : decode cX9_takesKey 55 = .ok (.iload 4, 2) := by decide +kernel
theorem dX9_takesKey_57 : decode cX9_takesKey 57 = .ok (.iload_n 2, 1) := by decide +kernel
theorem dX9_takesKey_58 : decode cX9_takesKey 58 = .ok (.if_icmp .ge 48, 3) := by decide +kernel
theorem dX9_takesKey_61 : decode cX9_takesKey 61 = .ok (.iload_n 3, 1) := by decide +kernel
theorem dX9_takesKey_62 : decode cX9_takesKey 62 = .ok (.ifCond .eq 44, 3) := by decide +kernel
theorem dX9_takesKey_65 : decode cX9_takesKey 65 = .ok (.aload_n 0, 1) := by decide +kernel
theorem dX9_takesKey_66 : decode cX9_takesKey 66 = .ok (.getfield 25, 3) := by decide +kernel
theorem dX9_takesKey_69 : decode cX9_takesKey 69 = .ok (.aload_n 0, 1) := by decide +kernel
theorem dX9_takesKey_70 : decode cX9_takesKey 70 = .ok (.getfield 227, 3) := by decide +kernel
theorem dX9_takesKey_73 : decode cX9_takesKey 73 = .ok (.iload 4, 2) := by decide +kernel
theorem dX9_takesKey_75 : decode cX9_takesKey 75 = .ok (.iadd, 1) := by decide +kernel
theorem dX9_takesKey_76 : decode cX9_takesKey 76 = .ok (.iaload, 1) := by decide +kernel
theorem dX9_takesKey_77 : decode cX9_takesKey 77 = .ok (.aload_n 0, 1) := by decide +kernel
theorem dX9_takesKey_78 : decode cX9_takesKey 78 = .ok (.getfield 28, 3) := by decide +kernel
theorem dX9_takesKey_81 : decode cX9_takesKey 81 = .ok (.aload_n 0, 1) := by decide +kernel
theorem dX9_takesKey_82 : decode cX9_takesKey 82 = .ok (.getfield 32, 3) := by decide +kernel
theorem dX9_takesKey_85 : decode cX9_takesKey 85 = .ok (.iload_n 1, 1) := by decide +kernel
theorem dX9_takesKey_86 : decode cX9_takesKey 86 = .ok (.iaload, 1) := by decide +kernel
theorem dX9_takesKey_87 : decode cX9_takesKey 87 = .ok (.iload 4, 2) := by decide +kernel
theorem dX9_takesKey_89 : decode cX9_takesKey 89 = .ok (.iadd, 1) := by decide +kernel
theorem dX9_takesKey_90 : decode cX9_takesKey 90 = .ok (.caload, 1) := by decide +kernel
theorem dX9_takesKey_91 : decode cX9_takesKey 91 = .ok (.if_icmp .ne 7, 3) := by decide +kernel
theorem dX9_takesKey_94 : decode cX9_takesKey 94 = .ok (.iconst 1, 1) := by decide +kernel
theorem dX9_takesKey_95 : decode cX9_takesKey 95 = .ok (.goto 4, 3) := by decide +kernel
theorem dX9_takesKey_98 : decode cX9_takesKey 98 = .ok (.iconst 0, 1) := by decide +kernel
theorem dX9_takesKey_99 : decode cX9_takesKey 99 = .ok (.istore_n 3, 1) := by decide +kernel
theorem dX9_takesKey_100 : decode cX9_takesKey 100 = .ok (.iinc 4 1, 3) := by decide +kernel
theorem dX9_takesKey_103 : decode cX9_takesKey 103 = .ok (.goto (-48), 3) := by decide +kernel
theorem dX9_takesKey_106 : decode cX9_takesKey 106 = .ok (.iload_n 3, 1) := by decide +kernel
theorem dX9_takesKey_107 : decode cX9_takesKey 107 = .ok (.ifCond .eq 14, 3) := by decide +kernel
theorem dX9_takesKey_110 : decode cX9_takesKey 110 = .ok (.aload_n 0, 1) := by decide +kernel
theorem dX9_takesKey_111 : decode cX9_takesKey 111 = .ok (.iload_n 1, 1) := by decide +kernel
theorem dX9_takesKey_112 : decode cX9_takesKey 112 = .ok (.putfield 245, 3) := by decide +kernel
theorem dX9_takesKey_115 : decode cX9_takesKey 115 = .ok (.aload_n 0, 1) := by decide +kernel
theorem dX9_takesKey_116 : decode cX9_takesKey 116 = .ok (.invokevirtual 248, 3) := by decide +kernel
theorem dX9_takesKey_119 : decode cX9_takesKey 119 = .ok (.iconst 1, 1) := by decide +kernel
theorem dX9_takesKey_120 : decode cX9_takesKey 120 = .ok (.ireturn, 1) := by decide +kernel
theorem dX9_takesKey_121 : decode cX9_takesKey 121 = .ok (.iinc 1 1, 3) := by decide +kernel
theorem dX9_takesKey_124 : decode cX9_takesKey 124 = .ok (.goto (-112), 3) := by decide +kernel
theorem dX9_takesKey_127 : decode cX9_takesKey 127 = .ok (.iconst 0, 1) := by decide +kernel
theorem dX9_takesKey_128 : decode cX9_takesKey 128 = .ok (.ireturn, 1) := by decide +kernel
theorem dX9_nameOf_0 : decode cX9_nameOf 0 = .ok (.aload_n 0, 1) := by decide +kernel
theorem dX9_nameOf_1 : decode cX9_nameOf 1 = .ok (.getfield 245, 3) := by decide +kernel
theorem dX9_nameOf_4 : decode cX9_nameOf 4 = .ok (.lookupswitch 82 #[(0, 28), (1, 60)], 28) := by decide +kernel
theorem dX9_nameOf_32 : decode cX9_nameOf 32 = .ok (.iload_n 1, 1) := by decide +kernel
theorem dX9_nameOf_33 : decode cX9_nameOf 33 = .ok (.bipush 112, 2) := by decide +kernel
theorem dX9_nameOf_35 : decode cX9_nameOf 35 = .ok (.if_icmp .ne 7, 3) := by decide +kernel
theorem dX9_nameOf_38 : decode cX9_nameOf 38 = .ok (.iconst 0, 1) := by decide +kernel
theorem dX9_nameOf_39 : decode cX9_nameOf 39 = .ok (.goto 24, 3) := by decide +kernel
theorem dX9_nameOf_42 : decode cX9_nameOf 42 = .ok (.iload_n 1, 1) := by decide +kernel
theorem dX9_nameOf_43 : decode cX9_nameOf 43 = .ok (.bipush 99, 2) := by decide +kernel
theorem dX9_nameOf_45 : decode cX9_nameOf 45 = .ok (.if_icmp .ne 7, 3) := by decide +kernel
theorem dX9_nameOf_48 : decode cX9_nameOf 48 = .ok (.iconst 1, 1) := by decide +kernel
theorem dX9_nameOf_49 : decode cX9_nameOf 49 = .ok (.goto 14, 3) := by decide +kernel
theorem dX9_nameOf_52 : decode cX9_nameOf 52 = .ok (.iload_n 1, 1) := by decide +kernel
theorem dX9_nameOf_53 : decode cX9_nameOf 53 = .ok (.bipush 115, 2) := by decide +kernel
theorem dX9_nameOf_55 : decode cX9_nameOf 55 = .ok (.if_icmp .ne 7, 3) := by decide +kernel
theorem dX9_nameOf_58 : decode cX9_nameOf 58 = .ok (.iconst 2, 1) := by decide +kernel
theorem dX9_nameOf_59 : decode cX9_nameOf 59 = .ok (.goto 4, 3) := by decide +kernel
theorem dX9_nameOf_62 : decode cX9_nameOf 62 = .ok (.iconst (-1), 1) := by decide +kernel
theorem dX9_nameOf_63 : decode cX9_nameOf 63 = .ok (.ireturn, 1) := by decide +kernel
theorem dX9_nameOf_64 : decode cX9_nameOf 64 = .ok (.iload_n 1, 1) := by decide +kernel
theorem dX9_nameOf_65 : decode cX9_nameOf 65 = .ok (.bipush 116, 2) := by decide +kernel
theorem dX9_nameOf_67 : decode cX9_nameOf 67 = .ok (.if_icmp .ne 7, 3) := by decide +kernel
theorem dX9_nameOf_70 : decode cX9_nameOf 70 = .ok (.iconst 0, 1) := by decide +kernel
theorem dX9_nameOf_71 : decode cX9_nameOf 71 = .ok (.goto 14, 3) := by decide +kernel
theorem dX9_nameOf_74 : decode cX9_nameOf 74 = .ok (.iload_n 1, 1) := by decide +kernel
theorem dX9_nameOf_75 : decode cX9_nameOf 75 = .ok (.bipush 109, 2) := by decide +kernel
theorem dX9_nameOf_77 : decode cX9_nameOf 77 = .ok (.if_icmp .ne 7, 3) := by decide +kernel
theorem dX9_nameOf_80 : decode cX9_nameOf 80 = .ok (.iconst 1, 1) := by decide +kernel
theorem dX9_nameOf_81 : decode cX9_nameOf 81 = .ok (.goto 4, 3) := by decide +kernel
theorem dX9_nameOf_84 : decode cX9_nameOf 84 = .ok (.iconst (-1), 1) := by decide +kernel
theorem dX9_nameOf_85 : decode cX9_nameOf 85 = .ok (.ireturn, 1) := by decide +kernel
theorem dX9_nameOf_86 : decode cX9_nameOf 86 = .ok (.iload_n 1, 1) := by decide +kernel
theorem dX9_nameOf_87 : decode cX9_nameOf 87 = .ok (.bipush 112, 2) := by decide +kernel
theorem dX9_nameOf_89 : decode cX9_nameOf 89 = .ok (.if_icmp .ne 7, 3) := by decide +kernel
theorem dX9_nameOf_92 : decode cX9_nameOf 92 = .ok (.iconst 0, 1) := by decide +kernel
theorem dX9_nameOf_93 : decode cX9_nameOf 93 = .ok (.goto 14, 3) := by decide +kernel
theorem dX9_nameOf_96 : decode cX9_nameOf 96 = .ok (.iload_n 1, 1) := by decide +kernel
theorem dX9_nameOf_97 : decode cX9_nameOf 97 = .ok (.bipush 115, 2) := by decide +kernel
theorem dX9_nameOf_99 : decode cX9_nameOf 99 = .ok (.if_icmp .ne 7, 3) := by decide +kernel
theorem dX9_nameOf_102 : decode cX9_nameOf 102 = .ok (.iconst 1, 1) := by decide +kernel
theorem dX9_nameOf_103 : decode cX9_nameOf 103 = .ok (.goto 4, 3) := by decide +kernel
theorem dX9_nameOf_106 : decode cX9_nameOf 106 = .ok (.iconst (-1), 1) := by decide +kernel
theorem dX9_nameOf_107 : decode cX9_nameOf 107 = .ok (.ireturn, 1) := by decide +kernel
theorem dX9_rank_0 : decode cX9_rank 0 = .ok (.iload_n 0, 1) := by decide +kernel
theorem dX9_rank_1 : decode cX9_rank 1 = .ok (.iconst (-1), 1) := by decide +kernel
theorem dX9_rank_2 : decode cX9_rank 2 = .ok (.if_icmp .ne 7, 3) := by decide +kernel
theorem dX9_rank_5 : decode cX9_rank 5 = .ok (.iconst 1, 1) := by decide +kernel
theorem dX9_rank_6 : decode cX9_rank 6 = .ok (.goto 45, 3) := by decide +kernel
theorem dX9_rank_9 : decode cX9_rank 9 = .ok (.iload_n 0, 1) := by decide +kernel
theorem dX9_rank_10 : decode cX9_rank 10 = .ok (.bipush (-2), 2) := by decide +kernel
theorem dX9_rank_12 : decode cX9_rank 12 = .ok (.if_icmp .ne 7, 3) := by decide +kernel
theorem dX9_rank_15 : decode cX9_rank 15 = .ok (.iconst 2, 1) := by decide +kernel
theorem dX9_rank_16 : decode cX9_rank 16 = .ok (.goto 35, 3) := by decide +kernel
theorem dX9_rank_19 : decode cX9_rank 19 = .ok (.iload_n 0, 1) := by decide +kernel
theorem dX9_rank_20 : decode cX9_rank 20 = .ok (.bipush (-5), 2) := by decide +kernel
theorem dX9_rank_22 : decode cX9_rank 22 = .ok (.if_icmp .lt 7, 3) := by decide +kernel
theorem dX9_rank_25 : decode cX9_rank 25 = .ok (.iconst 3, 1) := by decide +kernel
theorem dX9_rank_26 : decode cX9_rank 26 = .ok (.goto 25, 3) := by decide +kernel
theorem dX9_rank_29 : decode cX9_rank 29 = .ok (.iload_n 0, 1) := by decide +kernel
theorem dX9_rank_30 : decode cX9_rank 30 = .ok (.bipush (-7), 2) := by decide +kernel
theorem dX9_rank_32 : decode cX9_rank 32 = .ok (.if_icmp .lt 7, 3) := by decide +kernel
theorem dX9_rank_35 : decode cX9_rank 35 = .ok (.iconst 4, 1) := by decide +kernel
theorem dX9_rank_36 : decode cX9_rank 36 = .ok (.goto 15, 3) := by decide +kernel
theorem dX9_rank_39 : decode cX9_rank 39 = .ok (.iload_n 0, 1) := by decide +kernel
theorem dX9_rank_40 : decode cX9_rank 40 = .ok (.bipush (-9), 2) := by decide +kernel
theorem dX9_rank_42 : decode cX9_rank 42 = .ok (.if_icmp .lt 7, 3) := by decide +kernel
theorem dX9_rank_45 : decode cX9_rank 45 = .ok (.iconst 5, 1) := by decide +kernel
theorem dX9_rank_46 : decode cX9_rank 46 = .ok (.goto 5, 3) := by decide +kernel
theorem dX9_rank_49 : decode cX9_rank 49 = .ok (.bipush 6, 2) := by decide +kernel
theorem dX9_rank_51 : decode cX9_rank 51 = .ok (.ireturn, 1) := by decide +kernel
theorem dX9_settle_0 : decode cX9_settle 0 = .ok (.aload_n 0, 1) := by decide +kernel
theorem dX9_settle_1 : decode cX9_settle 1 = .ok (.getfield 251, 3) := by decide +kernel
theorem dX9_settle_4 : decode cX9_settle 4 = .ok (.ifCond .le 78, 3) := by decide +kernel
theorem dX9_settle_7 : decode cX9_settle 7 = .ok (.aload_n 0, 1) := by decide +kernel
theorem dX9_settle_8 : decode cX9_settle 8 = .ok (.getfield 38, 3) := by decide +kernel
theorem dX9_settle_11 : decode cX9_settle 11 = .ok (.aload_n 0, 1) := by decide +kernel
theorem dX9_settle_12 : decode cX9_settle 12 = .ok (.getfield 251, 3) := by decide +kernel
theorem dX9_settle_15 : decode cX9_settle 15 = .ok (.iconst 1, 1) := by decide +kernel
theorem dX9_settle_16 : decode cX9_settle 16 = .ok (.isub, 1) := by decide +kernel
theorem dX9_settle_17 : decode cX9_settle 17 = .ok (.iaload, 1) := by decide +kernel
theorem dX9_settle_18 : decode cX9_settle 18 = .ok (.bipush (-11), 2) := by decide +kernel
theorem dX9_settle_20 : decode cX9_settle 20 = .ok (.if_icmp .eq 62, 3) := by decide +kernel
theorem dX9_settle_23 : decode cX9_settle 23 = .ok (.aload_n 0, 1) := by decide +kernel
theorem dX9_settle_24 : decode cX9_settle 24 = .ok (.getfield 38, 3) := by decide +kernel
theorem dX9_settle_27 : decode cX9_settle 27 = .ok (.aload_n 0, 1) := by decide +kernel
theorem dX9_settle_28 : decode cX9_settle 28 = .ok (.getfield 251, 3) := by decide +kernel
theorem dX9_settle_31 : decode cX9_settle 31 = .ok (.iconst 1, 1) := by decide +kernel
theorem dX9_settle_32 : decode cX9_settle 32 = .ok (.isub, 1) := by decide +kernel
theorem dX9_settle_33 : decode cX9_settle 33 = .ok (.iaload, 1) := by decide +kernel
theorem dX9_settle_34 : decode cX9_settle 34 = .ok (.invokestatic 254, 3) := by decide +kernel
theorem dX9_settle_37 : decode cX9_settle 37 = .ok (.iload_n 1, 1) := by decide +kernel
theorem dX9_settle_38 : decode cX9_settle 38 = .ok (.if_icmp .lt 44, 3) := by decide +kernel
theorem dX9_settle_41 : decode cX9_settle 41 = .ok (.aload_n 0, 1) := by decide +kernel
theorem dX9_settle_42 : decode cX9_settle 42 = .ok (.dup, 1) := by decide +kernel
theorem dX9_settle_43 : decode cX9_settle 43 = .ok (.getfield 251, 3) := by decide +kernel
theorem dX9_settle_46 : decode cX9_settle 46 = .ok (.iconst 1, 1) := by decide +kernel
theorem dX9_settle_47 : decode cX9_settle 47 = .ok (.isub, 1) := by decide +kernel
theorem dX9_settle_48 : decode cX9_settle 48 = .ok (.putfield 251, 3) := by decide +kernel
theorem dX9_settle_51 : decode cX9_settle 51 = .ok (.aload_n 0, 1) := by decide +kernel
theorem dX9_settle_52 : decode cX9_settle 52 = .ok (.getfield 35, 3) := by decide +kernel
theorem dX9_settle_55 : decode cX9_settle 55 = .ok (.aload_n 0, 1) := by decide +kernel
theorem dX9_settle_56 : decode cX9_settle 56 = .ok (.getfield 257, 3) := by decide +kernel
theorem dX9_settle_59 : decode cX9_settle 59 = .ok (.aload_n 0, 1) := by decide +kernel
theorem dX9_settle_60 : decode cX9_settle 60 = .ok (.getfield 38, 3) := by decide +kernel
theorem dX9_settle_63 : decode cX9_settle 63 = .ok (.aload_n 0, 1) := by decide +kernel
theorem dX9_settle_64 : decode cX9_settle 64 = .ok (.getfield 251, 3) := by decide +kernel
theorem dX9_settle_67 : decode cX9_settle 67 = .ok (.iaload, 1) := by decide +kernel
theorem dX9_settle_68 : decode cX9_settle 68 = .ok (.iastore, 1) := by decide +kernel
theorem dX9_settle_69 : decode cX9_settle 69 = .ok (.aload_n 0, 1) := by decide +kernel
theorem dX9_settle_70 : decode cX9_settle 70 = .ok (.dup, 1) := by decide +kernel
theorem dX9_settle_71 : decode cX9_settle 71 = .ok (.getfield 257, 3) := by decide +kernel
theorem dX9_settle_74 : decode cX9_settle 74 = .ok (.iconst 1, 1) := by decide +kernel
theorem dX9_settle_75 : decode cX9_settle 75 = .ok (.iadd, 1) := by decide +kernel
theorem dX9_settle_76 : decode cX9_settle 76 = .ok (.putfield 257, 3) := by decide +kernel
theorem dX9_settle_79 : decode cX9_settle 79 = .ok (.goto (-79), 3) := by decide +kernel
theorem dX9_settle_82 : decode cX9_settle 82 = .ok (.return_, 1) := by decide +kernel
theorem dX9_signHere_0 : decode cX9_signHere 0 = .ok (.aload_n 0, 1) := by decide +kernel
theorem dX9_signHere_1 : decode cX9_signHere 1 = .ok (.getfield 233, 3) := by decide +kernel
theorem dX9_signHere_4 : decode cX9_signHere 4 = .ok (.iconst 3, 1) := by decide +kernel
theorem dX9_signHere_5 : decode cX9_signHere 5 = .ok (.if_icmp .eq 5, 3) := by decide +kernel
theorem dX9_signHere_8 : decode cX9_signHere 8 = .ok (.iconst 0, 1) := by decide +kernel
theorem dX9_signHere_9 : decode cX9_signHere 9 = .ok (.ireturn, 1) := by decide +kernel
theorem dX9_signHere_10 : decode cX9_signHere 10 = .ok (.aload_n 0, 1) := by decide +kernel
theorem dX9_signHere_11 : decode cX9_signHere 11 = .ok (.getfield 239, 3) := by decide +kernel
theorem dX9_signHere_14 : decode cX9_signHere 14 = .ok (.lookupswitch 108 #[(38, 84), (42, 102), (43, 96), (45, 99), (47, 105), (60, 87), (61, 90), (62, 93), (124, 82)], 82) := by decide +kernel
theorem dX9_signHere_96 : decode cX9_signHere 96 = .ok (.iconst (-1), 1) := by decide +kernel
theorem dX9_signHere_97 : decode cX9_signHere 97 = .ok (.ireturn, 1) := by decide +kernel
theorem dX9_signHere_98 : decode cX9_signHere 98 = .ok (.bipush (-2), 2) := by decide +kernel
theorem dX9_signHere_100 : decode cX9_signHere 100 = .ok (.ireturn, 1) := by decide +kernel
theorem dX9_signHere_101 : decode cX9_signHere 101 = .ok (.bipush (-3), 2) := by decide +kernel
theorem dX9_signHere_103 : decode cX9_signHere 103 = .ok (.ireturn, 1) := by decide +kernel
theorem dX9_signHere_104 : decode cX9_signHere 104 = .ok (.bipush (-4), 2) := by decide +kernel
theorem dX9_signHere_106 : decode cX9_signHere 106 = .ok (.ireturn, 1) := by decide +kernel
theorem dX9_signHere_107 : decode cX9_signHere 107 = .ok (.bipush (-5), 2) := by decide +kernel
theorem dX9_signHere_109 : decode cX9_signHere 109 = .ok (.ireturn, 1) := by decide +kernel
theorem dX9_signHere_110 : decode cX9_signHere 110 = .ok (.bipush (-6), 2) := by decide +kernel
theorem dX9_signHere_112 : decode cX9_signHere 112 = .ok (.ireturn, 1) := by decide +kernel
theorem dX9_signHere_113 : decode cX9_signHere 113 = .ok (.bipush (-7), 2) := by decide +kernel
theorem dX9_signHere_115 : decode cX9_signHere 115 = .ok (.ireturn, 1) := by decide +kernel
theorem dX9_signHere_116 : decode cX9_signHere 116 = .ok (.bipush (-8), 2) := by decide +kernel
theorem dX9_signHere_118 : decode cX9_signHere 118 = .ok (.ireturn, 1) := by decide +kernel
theorem dX9_signHere_119 : decode cX9_signHere 119 = .ok (.bipush (-9), 2) := by decide +kernel
theorem dX9_signHere_121 : decode cX9_signHere 121 = .ok (.ireturn, 1) := by decide +kernel
theorem dX9_signHere_122 : decode cX9_signHere 122 = .ok (.iconst 0, 1) := by decide +kernel
theorem dX9_signHere_123 : decode cX9_signHere 123 = .ok (.ireturn, 1) := by decide +kernel
theorem dX9_takesPart_0 : decode cX9_takesPart 0 = .ok (.aload_n 0, 1) := by decide +kernel
theorem dX9_takesPart_1 : decode cX9_takesPart 1 = .ok (.getfield 233, 3) := by decide +kernel
theorem dX9_takesPart_4 : decode cX9_takesPart 4 = .ok (.iconst 1, 1) := by decide +kernel
theorem dX9_takesPart_5 : decode cX9_takesPart 5 = .ok (.if_icmp .ne 31, 3) := by decide +kernel
theorem dX9_takesPart_8 : decode cX9_takesPart 8 = .ok (.aload_n 0, 1) := by decide +kernel
theorem dX9_takesPart_9 : decode cX9_takesPart 9 = .ok (.getfield 224, 3) := by decide +kernel
theorem dX9_takesPart_12 : decode cX9_takesPart 12 = .ok (.aload_n 0, 1) := by decide +kernel
theorem dX9_takesPart_13 : decode cX9_takesPart 13 = .ok (.getfield 227, 3) := by decide +kernel
theorem dX9_takesPart_16 : decode cX9_takesPart 16 = .ok (.isub, 1) := by decide +kernel
theorem dX9_takesPart_17 : decode cX9_takesPart 17 = .ok (.iconst 1, 1) := by decide +kernel
theorem dX9_takesPart_18 : decode cX9_takesPart 18 = .ok (.if_icmp .ne 18, 3) := by decide +kernel
theorem dX9_takesPart_21 : decode cX9_takesPart 21 = .ok (.aload_n 0, 1) := by decide +kernel
theorem dX9_takesPart_22 : decode cX9_takesPart 22 = .ok (.aload_n 0, 1) := by decide +kernel
theorem dX9_takesPart_23 : decode cX9_takesPart 23 = .ok (.getfield 239, 3) := by decide +kernel
theorem dX9_takesPart_26 : decode cX9_takesPart 26 = .ok (.invokevirtual 260, 3) := by decide +kernel
theorem dX9_takesPart_29 : decode cX9_takesPart 29 = .ok (.ifCond .lt 7, 3) := by decide +kernel
theorem dX9_takesPart_32 : decode cX9_takesPart 32 = .ok (.iconst 1, 1) := by decide +kernel
theorem dX9_takesPart_33 : decode cX9_takesPart 33 = .ok (.goto 4, 3) := by decide +kernel
theorem dX9_takesPart_36 : decode cX9_takesPart 36 = .ok (.iconst 0, 1) := by decide +kernel
theorem dX9_takesPart_37 : decode cX9_takesPart 37 = .ok (.istore_n 1, 1) := by decide +kernel
theorem dX9_takesPart_38 : decode cX9_takesPart 38 = .ok (.aload_n 0, 1) := by decide +kernel
theorem dX9_takesPart_39 : decode cX9_takesPart 39 = .ok (.getfield 233, 3) := by decide +kernel
theorem dX9_takesPart_42 : decode cX9_takesPart 42 = .ok (.iconst 2, 1) := by decide +kernel
theorem dX9_takesPart_43 : decode cX9_takesPart 43 = .ok (.if_icmp .eq 9, 3) := by decide +kernel
theorem dX9_takesPart_46 : decode cX9_takesPart 46 = .ok (.iload_n 1, 1) := by decide +kernel
theorem dX9_takesPart_47 : decode cX9_takesPart 47 = .ok (.ifCond .ne 5, 3) := by decide +kernel
theorem dX9_takesPart_50 : decode cX9_takesPart 50 = .ok (.iconst 0, 1) := by decide +kernel
theorem dX9_takesPart_51 : decode cX9_takesPart 51 = .ok (.ireturn, 1) := by decide +kernel
theorem dX9_takesPart_52 : decode cX9_takesPart 52 = .ok (.aload_n 0, 1) := by decide +kernel
theorem dX9_takesPart_53 : decode cX9_takesPart 53 = .ok (.getfield 35, 3) := by decide +kernel
theorem dX9_takesPart_56 : decode cX9_takesPart 56 = .ok (.aload_n 0, 1) := by decide +kernel
theorem dX9_takesPart_57 : decode cX9_takesPart 57 = .ok (.getfield 257, 3) := by decide +kernel
theorem dX9_takesPart_60 : decode cX9_takesPart 60 = .ok (.aload_n 0, 1) := by decide +kernel
theorem dX9_takesPart_61 : decode cX9_takesPart 61 = .ok (.getfield 233, 3) := by decide +kernel
theorem dX9_takesPart_64 : decode cX9_takesPart 64 = .ok (.iconst 2, 1) := by decide +kernel
theorem dX9_takesPart_65 : decode cX9_takesPart 65 = .ok (.if_icmp .ne 10, 3) := by decide +kernel
theorem dX9_takesPart_68 : decode cX9_takesPart 68 = .ok (.aload_n 0, 1) := by decide +kernel
theorem dX9_takesPart_69 : decode cX9_takesPart 69 = .ok (.getfield 239, 3) := by decide +kernel
theorem dX9_takesPart_72 : decode cX9_takesPart 72 = .ok (.goto 15, 3) := by decide +kernel
theorem dX9_takesPart_75 : decode cX9_takesPart 75 = .ok (.sipush 10000, 3) := by decide +kernel
theorem dX9_takesPart_78 : decode cX9_takesPart 78 = .ok (.aload_n 0, 1) := by decide +kernel
theorem dX9_takesPart_79 : decode cX9_takesPart 79 = .ok (.aload_n 0, 1) := by decide +kernel
theorem dX9_takesPart_80 : decode cX9_takesPart 80 = .ok (.getfield 239, 3) := by decide +kernel
theorem dX9_takesPart_83 : decode cX9_takesPart 83 = .ok (.invokevirtual 260, 3) := by decide +kernel
theorem dX9_takesPart_86 : decode cX9_takesPart 86 = .ok (.iadd, 1) := by decide +kernel
theorem dX9_takesPart_87 : decode cX9_takesPart 87 = .ok (.iastore, 1) := by decide +kernel
theorem dX9_takesPart_88 : decode cX9_takesPart 88 = .ok (.aload_n 0, 1) := by decide +kernel
theorem dX9_takesPart_89 : decode cX9_takesPart 89 = .ok (.dup, 1) := by decide +kernel
theorem dX9_takesPart_90 : decode cX9_takesPart 90 = .ok (.getfield 257, 3) := by decide +kernel
theorem dX9_takesPart_93 : decode cX9_takesPart 93 = .ok (.iconst 1, 1) := by decide +kernel
theorem dX9_takesPart_94 : decode cX9_takesPart 94 = .ok (.iadd, 1) := by decide +kernel
theorem dX9_takesPart_95 : decode cX9_takesPart 95 = .ok (.putfield 257, 3) := by decide +kernel
theorem dX9_takesPart_98 : decode cX9_takesPart 98 = .ok (.aload_n 0, 1) := by decide +kernel
theorem dX9_takesPart_99 : decode cX9_takesPart 99 = .ok (.dup, 1) := by decide +kernel
theorem dX9_takesPart_100 : decode cX9_takesPart 100 = .ok (.getfield 263, 3) := by decide +kernel
theorem dX9_takesPart_103 : decode cX9_takesPart 103 = .ok (.iconst 1, 1) := by decide +kernel
theorem dX9_takesPart_104 : decode cX9_takesPart 104 = .ok (.iadd, 1) := by decide +kernel
theorem dX9_takesPart_105 : decode cX9_takesPart 105 = .ok (.putfield 263, 3) := by decide +kernel
theorem dX9_takesPart_108 : decode cX9_takesPart 108 = .ok (.aload_n 0, 1) := by decide +kernel
theorem dX9_takesPart_109 : decode cX9_takesPart 109 = .ok (.bipush 6, 2) := by decide +kernel
theorem dX9_takesPart_111 : decode cX9_takesPart 111 = .ok (.invokevirtual 266, 3) := by decide +kernel
theorem dX9_takesPart_114 : decode cX9_takesPart 114 = .ok (.aload_n 0, 1) := by decide +kernel
theorem dX9_takesPart_115 : decode cX9_takesPart 115 = .ok (.invokevirtual 248, 3) := by decide +kernel
theorem dX9_takesPart_118 : decode cX9_takesPart 118 = .ok (.iconst 1, 1) := by decide +kernel
theorem dX9_takesPart_119 : decode cX9_takesPart 119 = .ok (.ireturn, 1) := by decide +kernel
theorem dX9_takesE_0 : decode cX9_takesE 0 = .ok (.iconst 0, 1) := by decide +kernel
theorem dX9_takesE_1 : decode cX9_takesE 1 = .ok (.istore_n 1, 1) := by decide +kernel
theorem dX9_takesE_2 : decode cX9_takesE 2 = .ok (.iconst 0, 1) := by decide +kernel
theorem dX9_takesE_3 : decode cX9_takesE 3 = .ok (.istore_n 2, 1) := by decide +kernel
theorem dX9_takesE_4 : decode cX9_takesE 4 = .ok (.iconst 1, 1) := by decide +kernel
theorem dX9_takesE_5 : decode cX9_takesE 5 = .ok (.istore_n 3, 1) := by decide +kernel
theorem dX9_takesE_6 : decode cX9_takesE 6 = .ok (.aload_n 0, 1) := by decide +kernel
theorem dX9_takesE_7 : decode cX9_takesE 7 = .ok (.iconst 0, 1) := by decide +kernel
theorem dX9_takesE_8 : decode cX9_takesE 8 = .ok (.putfield 257, 3) := by decide +kernel
theorem dX9_takesE_11 : decode cX9_takesE 11 = .ok (.aload_n 0, 1) := by decide +kernel
theorem dX9_takesE_12 : decode cX9_takesE 12 = .ok (.iconst 0, 1) := by decide +kernel
theorem dX9_takesE_13 : decode cX9_takesE 13 = .ok (.putfield 263, 3) := by decide +kernel
theorem dX9_takesE_16 : decode cX9_takesE 16 = .ok (.aload_n 0, 1) := by decide +kernel
theorem dX9_takesE_17 : decode cX9_takesE 17 = .ok (.iconst 0, 1) := by decide +kernel
theorem dX9_takesE_18 : decode cX9_takesE 18 = .ok (.putfield 251, 3) := by decide +kernel
theorem dX9_takesE_21 : decode cX9_takesE 21 = .ok (.aload_n 0, 1) := by decide +kernel
theorem dX9_takesE_22 : decode cX9_takesE 22 = .ok (.getfield 41, 3) := by decide +kernel
theorem dX9_takesE_25 : decode cX9_takesE 25 = .ok (.iconst 0, 1) := by decide +kernel
theorem dX9_takesE_26 : decode cX9_takesE 26 = .ok (.iconst 0, 1) := by decide +kernel
theorem dX9_takesE_27 : decode cX9_takesE 27 = .ok (.bastore, 1) := by decide +kernel
theorem dX9_takesE_28 : decode cX9_takesE 28 = .ok (.iload_n 3, 1) := by decide +kernel
theorem dX9_takesE_29 : decode cX9_takesE 29 = .ok (.ifCond .ne 10, 3) := by decide +kernel
theorem dX9_takesE_32 : decode cX9_takesE 32 = .ok (.aload_n 0, 1) := by decide +kernel
theorem dX9_takesE_33 : decode cX9_takesE 33 = .ok (.getfield 233, 3) := by decide +kernel
theorem dX9_takesE_36 : decode cX9_takesE 36 = .ok (.ifCond .eq 309, 3) := by decide +kernel
theorem dX9_takesE_39 : decode cX9_takesE 39 = .ok (.iload_n 3, 1) := by decide +kernel
theorem dX9_takesE_40 : decode cX9_takesE 40 = .ok (.ifCond .eq 140, 3) := by decide +kernel
theorem dX9_takesE_43 : decode cX9_takesE 43 = .ok (.aload_n 0, 1) := by decide +kernel
theorem dX9_takesE_44 : decode cX9_takesE 44 = .ok (.getfield 233, 3) := by decide +kernel
theorem dX9_takesE_47 : decode cX9_takesE 47 = .ok (.iconst 3, 1) := by decide +kernel
theorem dX9_takesE_48 : decode cX9_takesE 48 = .ok (.if_icmp .ne 49, 3) := by decide +kernel
theorem dX9_takesE_51 : decode cX9_takesE 51 = .ok (.aload_n 0, 1) := by decide +kernel
theorem dX9_takesE_52 : decode cX9_takesE 52 = .ok (.getfield 239, 3) := by decide +kernel
theorem dX9_takesE_55 : decode cX9_takesE 55 = .ok (.bipush 33, 2) := by decide +kernel
theorem dX9_takesE_57 : decode cX9_takesE 57 = .ok (.if_icmp .ne 40, 3) := by decide +kernel
theorem dX9_takesE_60 : decode cX9_takesE 60 = .ok (.iload_n 2, 1) := by decide +kernel
theorem dX9_takesE_61 : decode cX9_takesE 61 = .ok (.bipush 8, 2) := by decide +kernel
theorem dX9_takesE_63 : decode cX9_takesE 63 = .ok (.if_icmp .ge 34, 3) := by decide +kernel
theorem dX9_takesE_66 : decode cX9_takesE 66 = .ok (.aload_n 0, 1) := by decide +kernel
theorem dX9_takesE_67 : decode cX9_takesE 67 = .ok (.getfield 38, 3) := by decide +kernel
theorem dX9_takesE_70 : decode cX9_takesE 70 = .ok (.aload_n 0, 1) := by decide +kernel
theorem dX9_takesE_71 : decode cX9_takesE 71 = .ok (.getfield 251, 3) := by decide +kernel
theorem dX9_takesE_74 : decode cX9_takesE 74 = .ok (.bipush (-10), 2) := by decide +kernel
theorem dX9_takesE_76 : decode cX9_takesE 76 = .ok (.iastore, 1) := by decide +kernel
theorem dX9_takesE_77 : decode cX9_takesE 77 = .ok (.aload_n 0, 1) := by decide +kernel
theorem dX9_takesE_78 : decode cX9_takesE 78 = .ok (.dup, 1) := by decide +kernel
theorem dX9_takesE_79 : decode cX9_takesE 79 = .ok (.getfield 251, 3) := by decide +kernel
theorem dX9_takesE_82 : decode cX9_takesE 82 = .ok (.iconst 1, 1) := by decide +kernel
theorem dX9_takesE_83 : decode cX9_takesE 83 = .ok (.iadd, 1) := by decide +kernel
theorem dX9_takesE_84 : decode cX9_takesE 84 = .ok (.putfield 251, 3) := by decide +kernel
theorem dX9_takesE_87 : decode cX9_takesE 87 = .ok (.iinc 2 1, 3) := by decide +kernel
theorem dX9_takesE_90 : decode cX9_takesE 90 = .ok (.aload_n 0, 1) := by decide +kernel
theorem dX9_takesE_91 : decode cX9_takesE 91 = .ok (.invokevirtual 248, 3) := by decide +kernel
theorem dX9_takesE_94 : decode cX9_takesE 94 = .ok (.goto 78, 3) := by decide +kernel
theorem dX9_takesE_97 : decode cX9_takesE 97 = .ok (.aload_n 0, 1) := by decide +kernel
theorem dX9_takesE_98 : decode cX9_takesE 98 = .ok (.getfield 233, 3) := by decide +kernel
theorem dX9_takesE_101 : decode cX9_takesE 101 = .ok (.iconst 3, 1) := by decide +kernel
theorem dX9_takesE_102 : decode cX9_takesE 102 = .ok (.if_icmp .ne 56, 3) := by decide +kernel
theorem dX9_takesE_105 : decode cX9_takesE 105 = .ok (.aload_n 0, 1) := by decide +kernel
theorem dX9_takesE_106 : decode cX9_takesE 106 = .ok (.getfield 239, 3) := by decide +kernel
theorem dX9_takesE_109 : decode cX9_takesE 109 = .ok (.bipush 40, 2) := by decide +kernel
theorem dX9_takesE_111 : decode cX9_takesE 111 = .ok (.if_icmp .ne 47, 3) := by decide +kernel
theorem dX9_takesE_114 : decode cX9_takesE 114 = .ok (.iload_n 1, 1) := by decide +kernel
theorem dX9_takesE_115 : decode cX9_takesE 115 = .ok (.bipush 8, 2) := by decide +kernel
theorem dX9_takesE_117 : decode cX9_takesE 117 = .ok (.if_icmp .ge 41, 3) := by decide +kernel
theorem dX9_takesE_120 : decode cX9_takesE 120 = .ok (.aload_n 0, 1) := by decide +kernel
theorem dX9_takesE_121 : decode cX9_takesE 121 = .ok (.getfield 38, 3) := by decide +kernel
theorem dX9_takesE_124 : decode cX9_takesE 124 = .ok (.aload_n 0, 1) := by decide +kernel
theorem dX9_takesE_125 : decode cX9_takesE 125 = .ok (.getfield 251, 3) := by decide +kernel
theorem dX9_takesE_128 : decode cX9_takesE 128 = .ok (.bipush (-11), 2) := by decide +kernel
theorem dX9_takesE_130 : decode cX9_takesE 130 = .ok (.iastore, 1) := by decide +kernel
theorem dX9_takesE_131 : decode cX9_takesE 131 = .ok (.aload_n 0, 1) := by decide +kernel
theorem dX9_takesE_132 : decode cX9_takesE 132 = .ok (.dup, 1) := by decide +kernel
theorem dX9_takesE_133 : decode cX9_takesE 133 = .ok (.getfield 251, 3) := by decide +kernel
theorem dX9_takesE_136 : decode cX9_takesE 136 = .ok (.iconst 1, 1) := by decide +kernel
theorem dX9_takesE_137 : decode cX9_takesE 137 = .ok (.iadd, 1) := by decide +kernel
theorem dX9_takesE_138 : decode cX9_takesE 138 = .ok (.putfield 251, 3) := by decide +kernel
theorem dX9_takesE_141 : decode cX9_takesE 141 = .ok (.iinc 1 1, 3) := by decide +kernel
theorem dX9_takesE_144 : decode cX9_takesE 144 = .ok (.aload_n 0, 1) := by decide +kernel
theorem dX9_takesE_145 : decode cX9_takesE 145 = .ok (.getfield 41, 3) := by decide +kernel
theorem dX9_takesE_148 : decode cX9_takesE 148 = .ok (.iload_n 1, 1) := by decide +kernel
theorem dX9_takesE_149 : decode cX9_takesE 149 = .ok (.iconst 0, 1) := by decide +kernel
theorem dX9_takesE_150 : decode cX9_takesE 150 = .ok (.bastore, 1) := by decide +kernel
theorem dX9_takesE_151 : decode cX9_takesE 151 = .ok (.aload_n 0, 1) := by decide +kernel
theorem dX9_takesE_152 : decode cX9_takesE 152 = .ok (.invokevirtual 248, 3) := by decide +kernel
theorem dX9_takesE_155 : decode cX9_takesE 155 = .ok (.goto 17, 3) := by decide +kernel
theorem dX9_takesE_158 : decode cX9_takesE 158 = .ok (.aload_n 0, 1) := by decide +kernel
theorem dX9_takesE_159 : decode cX9_takesE 159 = .ok (.invokevirtual 269, 3) := by decide +kernel
theorem dX9_takesE_162 : decode cX9_takesE 162 = .ok (.ifCond .eq 8, 3) := by decide +kernel
theorem dX9_takesE_165 : decode cX9_takesE 165 = .ok (.iconst 0, 1) := by decide +kernel
theorem dX9_takesE_166 : decode cX9_takesE 166 = .ok (.istore_n 3, 1) := by decide +kernel
theorem dX9_takesE_167 : decode cX9_takesE 167 = .ok (.goto 5, 3) := by decide +kernel
theorem dX9_takesE_170 : decode cX9_takesE 170 = .ok (.iconst 0, 1) := by decide +kernel
theorem dX9_takesE_171 : decode cX9_takesE 171 = .ok (.ireturn, 1) := by decide +kernel
theorem dX9_takesE_172 : decode cX9_takesE 172 = .ok (.aload_n 0, 1) := by decide +kernel
theorem dX9_takesE_173 : decode cX9_takesE 173 = .ok (.invokevirtual 272, 3) := by decide +kernel
theorem dX9_takesE_176 : decode cX9_takesE 176 = .ok (.istore_n 2, 1) := by decide +kernel
theorem dX9_takesE_177 : decode cX9_takesE 177 = .ok (.goto (-149), 3) := by decide +kernel
theorem dX9_takesE_180 : decode cX9_takesE 180 = .ok (.aload_n 0, 1) := by decide +kernel
theorem dX9_takesE_181 : decode cX9_takesE 181 = .ok (.getfield 233, 3) := by decide +kernel
theorem dX9_takesE_184 : decode cX9_takesE 184 = .ok (.iconst 3, 1) := by decide +kernel
theorem dX9_takesE_185 : decode cX9_takesE 185 = .ok (.if_icmp .ne 52, 3) := by decide +kernel
theorem dX9_takesE_188 : decode cX9_takesE 188 = .ok (.aload_n 0, 1) := by decide +kernel
theorem dX9_takesE_189 : decode cX9_takesE 189 = .ok (.getfield 239, 3) := by decide +kernel
theorem dX9_takesE_192 : decode cX9_takesE 192 = .ok (.bipush 41, 2) := by decide +kernel
theorem dX9_takesE_194 : decode cX9_takesE 194 = .ok (.if_icmp .ne 43, 3) := by decide +kernel
theorem dX9_takesE_197 : decode cX9_takesE 197 = .ok (.iload_n 1, 1) := by decide +kernel
theorem dX9_takesE_198 : decode cX9_takesE 198 = .ok (.ifCond .le 39, 3) := by decide +kernel
theorem dX9_takesE_201 : decode cX9_takesE 201 = .ok (.aload_n 0, 1) := by decide +kernel
theorem dX9_takesE_202 : decode cX9_takesE 202 = .ok (.iconst 0, 1) := by decide +kernel
theorem dX9_takesE_203 : decode cX9_takesE 203 = .ok (.invokevirtual 266, 3) := by decide +kernel
theorem dX9_takesE_206 : decode cX9_takesE 206 = .ok (.aload_n 0, 1) := by decide +kernel
theorem dX9_takesE_207 : decode cX9_takesE 207 = .ok (.dup, 1) := by decide +kernel
theorem dX9_takesE_208 : decode cX9_takesE 208 = .ok (.getfield 251, 3) := by decide +kernel
theorem dX9_takesE_211 : decode cX9_takesE 211 = .ok (.iconst 1, 1) := by decide +kernel
theorem dX9_takesE_212 : decode cX9_takesE 212 = .ok (.isub, 1) := by decide +kernel
theorem dX9_takesE_213 : decode cX9_takesE 213 = .ok (.putfield 251, 3) := by decide +kernel
theorem dX9_takesE_216 : decode cX9_takesE 216 = .ok (.iinc 1 (-1), 3) := by decide +kernel
theorem dX9_takesE_219 : decode cX9_takesE 219 = .ok (.aload_n 0, 1) := by decide +kernel
theorem dX9_takesE_220 : decode cX9_takesE 220 = .ok (.bipush 6, 2) := by decide +kernel
theorem dX9_takesE_222 : decode cX9_takesE 222 = .ok (.invokevirtual 266, 3) := by decide +kernel
theorem dX9_takesE_225 : decode cX9_takesE 225 = .ok (.aload_n 0, 1) := by decide +kernel
theorem dX9_takesE_226 : decode cX9_takesE 226 = .ok (.invokevirtual 272, 3) := by decide +kernel
theorem dX9_takesE_229 : decode cX9_takesE 229 = .ok (.istore_n 2, 1) := by decide +kernel
theorem dX9_takesE_230 : decode cX9_takesE 230 = .ok (.aload_n 0, 1) := by decide +kernel
theorem dX9_takesE_231 : decode cX9_takesE 231 = .ok (.invokevirtual 248, 3) := by decide +kernel
theorem dX9_takesE_234 : decode cX9_takesE 234 = .ok (.goto (-206), 3) := by decide +kernel
theorem dX9_takesE_237 : decode cX9_takesE 237 = .ok (.aload_n 0, 1) := by decide +kernel
theorem dX9_takesE_238 : decode cX9_takesE 238 = .ok (.invokevirtual 275, 3) := by decide +kernel
theorem dX9_takesE_241 : decode cX9_takesE 241 = .ok (.istore 4, 2) := by decide +kernel
theorem dX9_takesE_243 : decode cX9_takesE 243 = .ok (.iload 4, 2) := by decide +kernel
theorem dX9_takesE_245 : decode cX9_takesE 245 = .ok (.ifCond .eq 21, 3) := by decide +kernel
theorem dX9_takesE_248 : decode cX9_takesE 248 = .ok (.iload 4, 2) := by decide +kernel
theorem dX9_takesE_250 : decode cX9_takesE 250 = .ok (.invokestatic 254, 3) := by decide +kernel
theorem dX9_takesE_253 : decode cX9_takesE 253 = .ok (.iconst 3, 1) := by decide +kernel
theorem dX9_takesE_254 : decode cX9_takesE 254 = .ok (.if_icmp .ne 14, 3) := by decide +kernel
theorem dX9_takesE_257 : decode cX9_takesE 257 = .ok (.aload_n 0, 1) := by decide +kernel
theorem dX9_takesE_258 : decode cX9_takesE 258 = .ok (.getfield 41, 3) := by decide +kernel
theorem dX9_takesE_261 : decode cX9_takesE 261 = .ok (.iload_n 1, 1) := by decide +kernel
theorem dX9_takesE_262 : decode cX9_takesE 262 = .ok (.baload, 1) := by decide +kernel
theorem dX9_takesE_263 : decode cX9_takesE 263 = .ok (.ifCond .eq 5, 3) := by decide +kernel
theorem dX9_takesE_266 : decode cX9_takesE 266 = .ok (.iconst 0, 1) := by decide +kernel
theorem dX9_takesE_267 : decode cX9_takesE 267 = .ok (.ireturn, 1) := by decide +kernel
theorem dX9_takesE_268 : decode cX9_takesE 268 = .ok (.aload_n 0, 1) := by decide +kernel
theorem dX9_takesE_269 : decode cX9_takesE 269 = .ok (.getfield 41, 3) := by decide +kernel
theorem dX9_takesE_272 : decode cX9_takesE 272 = .ok (.iload_n 1, 1) := by decide +kernel
theorem dX9_takesE_273 : decode cX9_takesE 273 = .ok (.iload 4, 2) := by decide +kernel
theorem dX9_takesE_275 : decode cX9_takesE 275 = .ok (.invokestatic 254, 3) := by decide +kernel
theorem dX9_takesE_278 : decode cX9_takesE 278 = .ok (.iconst 3, 1) := by decide +kernel
theorem dX9_takesE_279 : decode cX9_takesE 279 = .ok (.if_icmp .eq 21, 3) := by decide +kernel
theorem dX9_takesE_282 : decode cX9_takesE 282 = .ok (.iload 4, 2) := by decide +kernel
theorem dX9_takesE_284 : decode cX9_takesE 284 = .ok (.invokestatic 254, 3) := by decide +kernel
theorem dX9_takesE_287 : decode cX9_takesE 287 = .ok (.iconst 3, 1) := by decide +kernel
theorem dX9_takesE_288 : decode cX9_takesE 288 = .ok (.if_icmp .le 16, 3) := by decide +kernel
theorem dX9_takesE_291 : decode cX9_takesE 291 = .ok (.aload_n 0, 1) := by decide +kernel
theorem dX9_takesE_292 : decode cX9_takesE 292 = .ok (.getfield 41, 3) := by decide +kernel
theorem dX9_takesE_295 : decode cX9_takesE 295 = .ok (.iload_n 1, 1) := by decide +kernel
theorem dX9_takesE_296 : decode cX9_takesE 296 = .ok (.baload, 1) := by decide +kernel
theorem dX9_takesE_297 : decode cX9_takesE 297 = .ok (.ifCond .eq 7, 3) := by decide +kernel
theorem dX9_takesE_300 : decode cX9_takesE 300 = .ok (.iconst 1, 1) := by decide +kernel
theorem dX9_takesE_301 : decode cX9_takesE 301 = .ok (.goto 4, 3) := by decide +kernel
theorem dX9_takesE_304 : decode cX9_takesE 304 = .ok (.iconst 0, 1) := by decide +kernel
theorem dX9_takesE_305 : decode cX9_takesE 305 = .ok (.bastore, 1) := by decide +kernel
theorem dX9_takesE_306 : decode cX9_takesE 306 = .ok (.aload_n 0, 1) := by decide +kernel
theorem dX9_takesE_307 : decode cX9_takesE 307 = .ok (.iload 4, 2) := by decide +kernel
theorem dX9_takesE_309 : decode cX9_takesE 309 = .ok (.invokestatic 254, 3) := by decide +kernel
theorem dX9_takesE_312 : decode cX9_takesE 312 = .ok (.invokevirtual 266, 3) := by decide +kernel
theorem dX9_takesE_315 : decode cX9_takesE 315 = .ok (.aload_n 0, 1) := by decide +kernel
theorem dX9_takesE_316 : decode cX9_takesE 316 = .ok (.getfield 38, 3) := by decide +kernel
theorem dX9_takesE_319 : decode cX9_takesE 319 = .ok (.aload_n 0, 1) := by decide +kernel
theorem dX9_takesE_320 : decode cX9_takesE 320 = .ok (.getfield 251, 3) := by decide +kernel
theorem dX9_takesE_323 : decode cX9_takesE 323 = .ok (.iload 4, 2) := by decide +kernel
theorem dX9_takesE_325 : decode cX9_takesE 325 = .ok (.iastore, 1) := by decide +kernel
theorem dX9_takesE_326 : decode cX9_takesE 326 = .ok (.aload_n 0, 1) := by decide +kernel
theorem dX9_takesE_327 : decode cX9_takesE 327 = .ok (.dup, 1) := by decide +kernel
theorem dX9_takesE_328 : decode cX9_takesE 328 = .ok (.getfield 251, 3) := by decide +kernel
theorem dX9_takesE_331 : decode cX9_takesE 331 = .ok (.iconst 1, 1) := by decide +kernel
theorem dX9_takesE_332 : decode cX9_takesE 332 = .ok (.iadd, 1) := by decide +kernel
theorem dX9_takesE_333 : decode cX9_takesE 333 = .ok (.putfield 251, 3) := by decide +kernel
theorem dX9_takesE_336 : decode cX9_takesE 336 = .ok (.iconst 1, 1) := by decide +kernel
theorem dX9_takesE_337 : decode cX9_takesE 337 = .ok (.istore_n 3, 1) := by decide +kernel
theorem dX9_takesE_338 : decode cX9_takesE 338 = .ok (.aload_n 0, 1) := by decide +kernel
theorem dX9_takesE_339 : decode cX9_takesE 339 = .ok (.invokevirtual 248, 3) := by decide +kernel
theorem dX9_takesE_342 : decode cX9_takesE 342 = .ok (.goto (-314), 3) := by decide +kernel
theorem dX9_takesE_345 : decode cX9_takesE 345 = .ok (.aload_n 0, 1) := by decide +kernel
theorem dX9_takesE_346 : decode cX9_takesE 346 = .ok (.iconst 0, 1) := by decide +kernel
theorem dX9_takesE_347 : decode cX9_takesE 347 = .ok (.invokevirtual 266, 3) := by decide +kernel
theorem dX9_takesE_350 : decode cX9_takesE 350 = .ok (.iload_n 1, 1) := by decide +kernel
theorem dX9_takesE_351 : decode cX9_takesE 351 = .ok (.ifCond .ne 7, 3) := by decide +kernel
theorem dX9_takesE_354 : decode cX9_takesE 354 = .ok (.iconst 1, 1) := by decide +kernel
theorem dX9_takesE_355 : decode cX9_takesE 355 = .ok (.goto 4, 3) := by decide +kernel
theorem dX9_takesE_358 : decode cX9_takesE 358 = .ok (.iconst 0, 1) := by decide +kernel
theorem dX9_takesE_359 : decode cX9_takesE 359 = .ok (.ireturn, 1) := by decide +kernel
theorem dX9_notsOpen_0 : decode cX9_notsOpen 0 = .ok (.iconst 0, 1) := by decide +kernel
theorem dX9_notsOpen_1 : decode cX9_notsOpen 1 = .ok (.istore_n 1, 1) := by decide +kernel
theorem dX9_notsOpen_2 : decode cX9_notsOpen 2 = .ok (.iconst 0, 1) := by decide +kernel
theorem dX9_notsOpen_3 : decode cX9_notsOpen 3 = .ok (.istore_n 2, 1) := by decide +kernel
theorem dX9_notsOpen_4 : decode cX9_notsOpen 4 = .ok (.iload_n 2, 1) := by decide +kernel
theorem dX9_notsOpen_5 : decode cX9_notsOpen 5 = .ok (.aload_n 0, 1) := by decide +kernel
theorem dX9_notsOpen_6 : decode cX9_notsOpen 6 = .ok (.getfield 251, 3) := by decide +kernel
theorem dX9_notsOpen_9 : decode cX9_notsOpen 9 = .ok (.if_icmp .ge 28, 3) := by decide +kernel
theorem dX9_notsOpen_12 : decode cX9_notsOpen 12 = .ok (.iload_n 1, 1) := by decide +kernel
theorem dX9_notsOpen_13 : decode cX9_notsOpen 13 = .ok (.aload_n 0, 1) := by decide +kernel
theorem dX9_notsOpen_14 : decode cX9_notsOpen 14 = .ok (.getfield 38, 3) := by decide +kernel
theorem dX9_notsOpen_17 : decode cX9_notsOpen 17 = .ok (.iload_n 2, 1) := by decide +kernel
theorem dX9_notsOpen_18 : decode cX9_notsOpen 18 = .ok (.iaload, 1) := by decide +kernel
theorem dX9_notsOpen_19 : decode cX9_notsOpen 19 = .ok (.bipush (-10), 2) := by decide +kernel
theorem dX9_notsOpen_21 : decode cX9_notsOpen 21 = .ok (.if_icmp .ne 7, 3) := by decide +kernel
theorem dX9_notsOpen_24 : decode cX9_notsOpen 24 = .ok (.iconst 1, 1) := by decide +kernel
theorem dX9_notsOpen_25 : decode cX9_notsOpen 25 = .ok (.goto 4, 3) := by decide +kernel
theorem dX9_notsOpen_28 : decode cX9_notsOpen 28 = .ok (.iconst 0, 1) := by decide +kernel
theorem dX9_notsOpen_29 : decode cX9_notsOpen 29 = .ok (.iadd, 1) := by decide +kernel
theorem dX9_notsOpen_30 : decode cX9_notsOpen 30 = .ok (.istore_n 1, 1) := by decide +kernel
theorem dX9_notsOpen_31 : decode cX9_notsOpen 31 = .ok (.iinc 2 1, 3) := by decide +kernel
theorem dX9_notsOpen_34 : decode cX9_notsOpen 34 = .ok (.goto (-30), 3) := by decide +kernel
theorem dX9_notsOpen_37 : decode cX9_notsOpen 37 = .ok (.iload_n 1, 1) := by decide +kernel
theorem dX9_notsOpen_38 : decode cX9_notsOpen 38 = .ok (.ireturn, 1) := by decide +kernel
theorem dX9_text_0 : decode cX9_text 0 = .ok (.aload_n 0, 1) := by decide +kernel
theorem dX9_text_1 : decode cX9_text 1 = .ok (.iconst 0, 1) := by decide +kernel
theorem dX9_text_2 : decode cX9_text 2 = .ok (.putfield 224, 3) := by decide +kernel
theorem dX9_text_5 : decode cX9_text 5 = .ok (.aload_n 0, 1) := by decide +kernel
theorem dX9_text_6 : decode cX9_text 6 = .ok (.iconst (-1), 1) := by decide +kernel
theorem dX9_text_7 : decode cX9_text 7 = .ok (.putfield 230, 3) := by decide +kernel
theorem dX9_text_10 : decode cX9_text 10 = .ok (.aload_n 0, 1) := by decide +kernel
theorem dX9_text_11 : decode cX9_text 11 = .ok (.invokevirtual 248, 3) := by decide +kernel
theorem dX9_text_14 : decode cX9_text 14 = .ok (.aload_n 0, 1) := by decide +kernel
theorem dX9_text_15 : decode cX9_text 15 = .ok (.invokevirtual 278, 3) := by decide +kernel
theorem dX9_text_18 : decode cX9_text 18 = .ok (.ifCond .eq 14, 3) := by decide +kernel
theorem dX9_text_21 : decode cX9_text 21 = .ok (.aload_n 0, 1) := by decide +kernel
theorem dX9_text_22 : decode cX9_text 22 = .ok (.invokevirtual 281, 3) := by decide +kernel
theorem dX9_text_25 : decode cX9_text 25 = .ok (.ifCond .eq 7, 3) := by decide +kernel
theorem dX9_text_28 : decode cX9_text 28 = .ok (.iconst 1, 1) := by decide +kernel
theorem dX9_text_29 : decode cX9_text 29 = .ok (.goto 4, 3) := by decide +kernel
theorem dX9_text_32 : decode cX9_text 32 = .ok (.iconst 0, 1) := by decide +kernel
theorem dX9_text_33 : decode cX9_text 33 = .ok (.istore_n 1, 1) := by decide +kernel
theorem dX9_text_34 : decode cX9_text 34 = .ok (.aload_n 0, 1) := by decide +kernel
theorem dX9_text_35 : decode cX9_text 35 = .ok (.iconst 0, 1) := by decide +kernel
theorem dX9_text_36 : decode cX9_text 36 = .ok (.putfield 221, 3) := by decide +kernel
theorem dX9_text_39 : decode cX9_text 39 = .ok (.iload_n 1, 1) := by decide +kernel
theorem dX9_text_40 : decode cX9_text 40 = .ok (.ifCond .ne 11, 3) := by decide +kernel
theorem dX9_text_43 : decode cX9_text 43 = .ok (.bipush (-100), 2) := by decide +kernel
theorem dX9_text_45 : decode cX9_text 45 = .ok (.aload_n 0, 1) := by decide +kernel
theorem dX9_text_46 : decode cX9_text 46 = .ok (.getfield 227, 3) := by decide +kernel
theorem dX9_text_49 : decode cX9_text 49 = .ok (.isub, 1) := by decide +kernel
theorem dX9_text_50 : decode cX9_text 50 = .ok (.ireturn, 1) := by decide +kernel
theorem dX9_text_51 : decode cX9_text 51 = .ok (.aload_n 0, 1) := by decide +kernel
theorem dX9_text_52 : decode cX9_text 52 = .ok (.getfield 9, 3) := by decide +kernel
theorem dX9_text_55 : decode cX9_text 55 = .ok (.bipush 11, 2) := by decide +kernel
theorem dX9_text_57 : decode cX9_text 57 = .ok (.iaload, 1) := by decide +kernel
theorem dX9_text_58 : decode cX9_text 58 = .ok (.bipush 14, 2) := by decide +kernel
theorem dX9_text_60 : decode cX9_text 60 = .ok (.if_icmp .ne 6, 3) := by decide +kernel
theorem dX9_text_63 : decode cX9_text 63 = .ok (.ldc 126, 2) := by decide +kernel
theorem dX9_text_65 : decode cX9_text 65 = .ok (.ireturn, 1) := by decide +kernel
theorem dX9_text_66 : decode cX9_text 66 = .ok (.aload_n 0, 1) := by decide +kernel
theorem dX9_text_67 : decode cX9_text 67 = .ok (.getfield 9, 3) := by decide +kernel
theorem dX9_text_70 : decode cX9_text 70 = .ok (.bipush 11, 2) := by decide +kernel
theorem dX9_text_72 : decode cX9_text 72 = .ok (.iaload, 1) := by decide +kernel
theorem dX9_text_73 : decode cX9_text 73 = .ok (.istore_n 2, 1) := by decide +kernel
theorem dX9_text_74 : decode cX9_text 74 = .ok (.aload_n 0, 1) := by decide +kernel
theorem dX9_text_75 : decode cX9_text 75 = .ok (.getfield 9, 3) := by decide +kernel
theorem dX9_text_78 : decode cX9_text 78 = .ok (.bipush 72, 2) := by decide +kernel
theorem dX9_text_80 : decode cX9_text 80 = .ok (.iconst 2, 1) := by decide +kernel
theorem dX9_text_81 : decode cX9_text 81 = .ok (.iload_n 2, 1) := by decide +kernel
theorem dX9_text_82 : decode cX9_text 82 = .ok (.imul, 1) := by decide +kernel
theorem dX9_text_83 : decode cX9_text 83 = .ok (.iadd, 1) := by decide +kernel
theorem dX9_text_84 : decode cX9_text 84 = .ok (.sipush 1000, 3) := by decide +kernel
theorem dX9_text_87 : decode cX9_text 87 = .ok (.aload_n 0, 1) := by decide +kernel
theorem dX9_text_88 : decode cX9_text 88 = .ok (.getfield 245, 3) := by decide +kernel
theorem dX9_text_91 : decode cX9_text 91 = .ok (.imul, 1) := by decide +kernel
theorem dX9_text_92 : decode cX9_text 92 = .ok (.aload_n 0, 1) := by decide +kernel
theorem dX9_text_93 : decode cX9_text 93 = .ok (.getfield 257, 3) := by decide +kernel
theorem dX9_text_96 : decode cX9_text 96 = .ok (.iadd, 1) := by decide +kernel
theorem dX9_text_97 : decode cX9_text 97 = .ok (.iastore, 1) := by decide +kernel
theorem dX9_text_98 : decode cX9_text 98 = .ok (.aload_n 0, 1) := by decide +kernel
theorem dX9_text_99 : decode cX9_text 99 = .ok (.getfield 9, 3) := by decide +kernel
theorem dX9_text_102 : decode cX9_text 102 = .ok (.bipush 72, 2) := by decide +kernel
theorem dX9_text_104 : decode cX9_text 104 = .ok (.iconst 2, 1) := by decide +kernel
theorem dX9_text_105 : decode cX9_text 105 = .ok (.iload_n 2, 1) := by decide +kernel
theorem dX9_text_106 : decode cX9_text 106 = .ok (.imul, 1) := by decide +kernel
theorem dX9_text_107 : decode cX9_text 107 = .ok (.iadd, 1) := by decide +kernel
theorem dX9_text_108 : decode cX9_text 108 = .ok (.iconst 1, 1) := by decide +kernel
theorem dX9_text_109 : decode cX9_text 109 = .ok (.iadd, 1) := by decide +kernel
theorem dX9_text_110 : decode cX9_text 110 = .ok (.aload_n 0, 1) := by decide +kernel
theorem dX9_text_111 : decode cX9_text 111 = .ok (.getfield 263, 3) := by decide +kernel
theorem dX9_text_114 : decode cX9_text 114 = .ok (.iastore, 1) := by decide +kernel
theorem dX9_text_115 : decode cX9_text 115 = .ok (.iconst 0, 1) := by decide +kernel
theorem dX9_text_116 : decode cX9_text 116 = .ok (.istore_n 3, 1) := by decide +kernel
theorem dX9_text_117 : decode cX9_text 117 = .ok (.iload_n 3, 1) := by decide +kernel
theorem dX9_text_118 : decode cX9_text 118 = .ok (.aload_n 0, 1) := by decide +kernel
theorem dX9_text_119 : decode cX9_text 119 = .ok (.getfield 257, 3) := by decide +kernel
theorem dX9_text_122 : decode cX9_text 122 = .ok (.if_icmp .ge 29, 3) := by decide +kernel
theorem dX9_text_125 : decode cX9_text 125 = .ok (.aload_n 0, 1) := by decide +kernel
theorem dX9_text_126 : decode cX9_text 126 = .ok (.getfield 9, 3) := by decide +kernel
theorem dX9_text_129 : decode cX9_text 129 = .ok (.bipush 100, 2) := by decide +kernel
theorem dX9_text_131 : decode cX9_text 131 = .ok (.bipush 96, 2) := by decide +kernel
theorem dX9_text_133 : decode cX9_text 133 = .ok (.iload_n 2, 1) := by decide +kernel
theorem dX9_text_134 : decode cX9_text 134 = .ok (.imul, 1) := by decide +kernel
theorem dX9_text_135 : decode cX9_text 135 = .ok (.iadd, 1) := by decide +kernel
theorem dX9_text_136 : decode cX9_text 136 = .ok (.iload_n 3, 1) := by decide +kernel
theorem dX9_text_137 : decode cX9_text 137 = .ok (.iadd, 1) := by decide +kernel
theorem dX9_text_138 : decode cX9_text 138 = .ok (.aload_n 0, 1) := by decide +kernel
theorem dX9_text_139 : decode cX9_text 139 = .ok (.getfield 35, 3) := by decide +kernel
theorem dX9_text_142 : decode cX9_text 142 = .ok (.iload_n 3, 1) := by decide +kernel
theorem dX9_text_143 : decode cX9_text 143 = .ok (.iaload, 1) := by decide +kernel
theorem dX9_text_144 : decode cX9_text 144 = .ok (.iastore, 1) := by decide +kernel
theorem dX9_text_145 : decode cX9_text 145 = .ok (.iinc 3 1, 3) := by decide +kernel
theorem dX9_text_148 : decode cX9_text 148 = .ok (.goto (-31), 3) := by decide +kernel
theorem dX9_text_151 : decode cX9_text 151 = .ok (.aload_n 0, 1) := by decide +kernel
theorem dX9_text_152 : decode cX9_text 152 = .ok (.getfield 9, 3) := by decide +kernel
theorem dX9_text_155 : decode cX9_text 155 = .ok (.bipush 11, 2) := by decide +kernel
theorem dX9_text_157 : decode cX9_text 157 = .ok (.dup2, 1) := by decide +kernel
theorem dX9_text_158 : decode cX9_text 158 = .ok (.iaload, 1) := by decide +kernel
theorem dX9_text_159 : decode cX9_text 159 = .ok (.iconst 1, 1) := by decide +kernel
theorem dX9_text_160 : decode cX9_text 160 = .ok (.iadd, 1) := by decide +kernel
theorem dX9_text_161 : decode cX9_text 161 = .ok (.iastore, 1) := by decide +kernel
theorem dX9_text_162 : decode cX9_text 162 = .ok (.iload_n 2, 1) := by decide +kernel
theorem dX9_text_163 : decode cX9_text 163 = .ok (.ireturn, 1) := by decide +kernel
theorem dX9_textTold_0 : decode cX9_textTold 0 = .ok (.iload_n 1, 1) := by decide +kernel
theorem dX9_textTold_1 : decode cX9_textTold 1 = .ok (.iconst 0, 1) := by decide +kernel
theorem dX9_textTold_2 : decode cX9_textTold 2 = .ok (.aload_n 0, 1) := by decide +kernel
theorem dX9_textTold_3 : decode cX9_textTold 3 = .ok (.getfield 9, 3) := by decide +kernel
theorem dX9_textTold_6 : decode cX9_textTold 6 = .ok (.bipush 11, 2) := by decide +kernel
theorem dX9_textTold_8 : decode cX9_textTold 8 = .ok (.iaload, 1) := by decide +kernel
theorem dX9_textTold_9 : decode cX9_textTold 9 = .ok (.iconst 1, 1) := by decide +kernel
theorem dX9_textTold_10 : decode cX9_textTold 10 = .ok (.isub, 1) := by decide +kernel
theorem dX9_textTold_11 : decode cX9_textTold 11 = .ok (.invokestatic 79, 3) := by decide +kernel
theorem dX9_textTold_14 : decode cX9_textTold 14 = .ok (.ifCond .eq 12, 3) := by decide +kernel
theorem dX9_textTold_17 : decode cX9_textTold 17 = .ok (.iload_n 2, 1) := by decide +kernel
theorem dX9_textTold_18 : decode cX9_textTold 18 = .ok (.iconst 0, 1) := by decide +kernel
theorem dX9_textTold_19 : decode cX9_textTold 19 = .ok (.iconst 1, 1) := by decide +kernel
theorem dX9_textTold_20 : decode cX9_textTold 20 = .ok (.invokestatic 79, 3) := by decide +kernel
theorem dX9_textTold_23 : decode cX9_textTold 23 = .ok (.ifCond .ne 6, 3) := by decide +kernel
theorem dX9_textTold_26 : decode cX9_textTold 26 = .ok (.ldc 118, 2) := by decide +kernel
theorem dX9_textTold_28 : decode cX9_textTold 28 = .ok (.ireturn, 1) := by decide +kernel
theorem dX9_textTold_29 : decode cX9_textTold 29 = .ok (.iload_n 2, 1) := by decide +kernel
theorem dX9_textTold_30 : decode cX9_textTold 30 = .ok (.ifCond .ne 21, 3) := by decide +kernel
theorem dX9_textTold_33 : decode cX9_textTold 33 = .ok (.aload_n 0, 1) := by decide +kernel
theorem dX9_textTold_34 : decode cX9_textTold 34 = .ok (.getfield 9, 3) := by decide +kernel
theorem dX9_textTold_37 : decode cX9_textTold 37 = .ok (.bipush 72, 2) := by decide +kernel
theorem dX9_textTold_39 : decode cX9_textTold 39 = .ok (.iconst 2, 1) := by decide +kernel
theorem dX9_textTold_40 : decode cX9_textTold 40 = .ok (.iload_n 1, 1) := by decide +kernel
theorem dX9_textTold_41 : decode cX9_textTold 41 = .ok (.imul, 1) := by decide +kernel
theorem dX9_textTold_42 : decode cX9_textTold 42 = .ok (.iadd, 1) := by decide +kernel
theorem dX9_textTold_43 : decode cX9_textTold 43 = .ok (.iaload, 1) := by decide +kernel
theorem dX9_textTold_44 : decode cX9_textTold 44 = .ok (.sipush 1000, 3) := by decide +kernel
theorem dX9_textTold_47 : decode cX9_textTold 47 = .ok (.idiv, 1) := by decide +kernel
theorem dX9_textTold_48 : decode cX9_textTold 48 = .ok (.goto 16, 3) := by decide +kernel
theorem dX9_textTold_51 : decode cX9_textTold 51 = .ok (.aload_n 0, 1) := by decide +kernel
theorem dX9_textTold_52 : decode cX9_textTold 52 = .ok (.getfield 9, 3) := by decide +kernel
theorem dX9_textTold_55 : decode cX9_textTold 55 = .ok (.bipush 72, 2) := by decide +kernel
theorem dX9_textTold_57 : decode cX9_textTold 57 = .ok (.iconst 2, 1) := by decide +kernel
theorem dX9_textTold_58 : decode cX9_textTold 58 = .ok (.iload_n 1, 1) := by decide +kernel
theorem dX9_textTold_59 : decode cX9_textTold 59 = .ok (.imul, 1) := by decide +kernel
theorem dX9_textTold_60 : decode cX9_textTold 60 = .ok (.iadd, 1) := by decide +kernel
theorem dX9_textTold_61 : decode cX9_textTold 61 = .ok (.iconst 1, 1) := by decide +kernel
theorem dX9_textTold_62 : decode cX9_textTold 62 = .ok (.iadd, 1) := by decide +kernel
theorem dX9_textTold_63 : decode cX9_textTold 63 = .ok (.iaload, 1) := by decide +kernel
theorem dX9_textTold_64 : decode cX9_textTold 64 = .ok (.ireturn, 1) := by decide +kernel
theorem dX9_counts_0 : decode cX9_counts 0 = .ok (.aload_n 0, 1) := by decide +kernel
theorem dX9_counts_1 : decode cX9_counts 1 = .ok (.getfield 9, 3) := by decide +kernel
theorem dX9_counts_4 : decode cX9_counts 4 = .ok (.bipush 11, 2) := by decide +kernel
theorem dX9_counts_6 : decode cX9_counts 6 = .ok (.iaload, 1) := by decide +kernel
theorem dX9_counts_7 : decode cX9_counts 7 = .ok (.iconst 1, 1) := by decide +kernel
theorem dX9_counts_8 : decode cX9_counts 8 = .ok (.isub, 1) := by decide +kernel
theorem dX9_counts_9 : decode cX9_counts 9 = .ok (.istore_n 2, 1) := by decide +kernel
theorem dX9_counts_10 : decode cX9_counts 10 = .ok (.iload_n 2, 1) := by decide +kernel
theorem dX9_counts_11 : decode cX9_counts 11 = .ok (.ifCond .lt 30, 3) := by decide +kernel
theorem dX9_counts_14 : decode cX9_counts 14 = .ok (.aload_n 0, 1) := by decide +kernel
theorem dX9_counts_15 : decode cX9_counts 15 = .ok (.getfield 9, 3) := by decide +kernel
theorem dX9_counts_18 : decode cX9_counts 18 = .ok (.bipush 72, 2) := by decide +kernel
theorem dX9_counts_20 : decode cX9_counts 20 = .ok (.iconst 2, 1) := by decide +kernel
theorem dX9_counts_21 : decode cX9_counts 21 = .ok (.iload_n 2, 1) := by decide +kernel
theorem dX9_counts_22 : decode cX9_counts 22 = .ok (.imul, 1) := by decide +kernel
theorem dX9_counts_23 : decode cX9_counts 23 = .ok (.iadd, 1) := by decide +kernel
theorem dX9_counts_24 : decode cX9_counts 24 = .ok (.iaload, 1) := by decide +kernel
theorem dX9_counts_25 : decode cX9_counts 25 = .ok (.sipush 1000, 3) := by decide +kernel
theorem dX9_counts_28 : decode cX9_counts 28 = .ok (.idiv, 1) := by decide +kernel
theorem dX9_counts_29 : decode cX9_counts 29 = .ok (.iload_n 1, 1) := by decide +kernel
theorem dX9_counts_30 : decode cX9_counts 30 = .ok (.if_icmp .ne 5, 3) := by decide +kernel
theorem dX9_counts_33 : decode cX9_counts 33 = .ok (.iload_n 2, 1) := by decide +kernel
theorem dX9_counts_34 : decode cX9_counts 34 = .ok (.ireturn, 1) := by decide +kernel
theorem dX9_counts_35 : decode cX9_counts 35 = .ok (.iinc 2 (-1), 3) := by decide +kernel
theorem dX9_counts_38 : decode cX9_counts 38 = .ok (.goto (-28), 3) := by decide +kernel
theorem dX9_counts_41 : decode cX9_counts 41 = .ok (.iconst (-1), 1) := by decide +kernel
theorem dX9_counts_42 : decode cX9_counts 42 = .ok (.ireturn, 1) := by decide +kernel
theorem dX9_why_0 : decode cX9_why 0 = .ok (.iload_n 1, 1) := by decide +kernel
theorem dX9_why_1 : decode cX9_why 1 = .ok (.iconst 0, 1) := by decide +kernel
theorem dX9_why_2 : decode cX9_why 2 = .ok (.iconst 2, 1) := by decide +kernel
theorem dX9_why_3 : decode cX9_why 3 = .ok (.invokestatic 79, 3) := by decide +kernel
theorem dX9_why_6 : decode cX9_why 6 = .ok (.ifCond .ne 6, 3) := by decide +kernel
theorem dX9_why_9 : decode cX9_why 9 = .ok (.ldc 118, 2) := by decide +kernel
theorem dX9_why_11 : decode cX9_why 11 = .ok (.ireturn, 1) := by decide +kernel
theorem dX9_why_12 : decode cX9_why 12 = .ok (.aload_n 0, 1) := by decide +kernel
theorem dX9_why_13 : decode cX9_why 13 = .ok (.iload_n 1, 1) := by decide +kernel
theorem dX9_why_14 : decode cX9_why 14 = .ok (.invokevirtual 147, 3) := by decide +kernel
theorem dX9_why_17 : decode cX9_why 17 = .ok (.istore_n 2, 1) := by decide +kernel
theorem dX9_why_18 : decode cX9_why 18 = .ok (.iload_n 2, 1) := by decide +kernel
theorem dX9_why_19 : decode cX9_why 19 = .ok (.ifCond .ge 8, 3) := by decide +kernel
theorem dX9_why_22 : decode cX9_why 22 = .ok (.ldc 78, 2) := by decide +kernel
theorem dX9_why_24 : decode cX9_why 24 = .ok (.goto 4, 3) := by decide +kernel
theorem dX9_why_27 : decode cX9_why 27 = .ok (.iload_n 2, 1) := by decide +kernel
theorem dX9_why_28 : decode cX9_why 28 = .ok (.ireturn, 1) := by decide +kernel
theorem dX9_two_0 : decode cX9_two 0 = .ok (.iload_n 0, 1) := by decide +kernel
theorem dX9_two_1 : decode cX9_two 1 = .ok (.tableswitch 120 (-8) (-1) #[116, 112, 108, 97, 86, 75, 61, 47], 47) := by decide +kernel
theorem dX9_two_48 : decode cX9_two 48 = .ok (.iload_n 1, 1) := by decide +kernel
theorem dX9_two_49 : decode cX9_two 49 = .ok (.ifCond .ne 7, 3) := by decide +kernel
theorem dX9_two_52 : decode cX9_two 52 = .ok (.iload_n 2, 1) := by decide +kernel
theorem dX9_two_53 : decode cX9_two 53 = .ok (.ifCond .eq 7, 3) := by decide +kernel
theorem dX9_two_56 : decode cX9_two 56 = .ok (.iconst 1, 1) := by decide +kernel
theorem dX9_two_57 : decode cX9_two 57 = .ok (.goto 4, 3) := by decide +kernel
theorem dX9_two_60 : decode cX9_two 60 = .ok (.iconst 0, 1) := by decide +kernel
theorem dX9_two_61 : decode cX9_two 61 = .ok (.ireturn, 1) := by decide +kernel
theorem dX9_two_62 : decode cX9_two 62 = .ok (.iload_n 1, 1) := by decide +kernel
theorem dX9_two_63 : decode cX9_two 63 = .ok (.ifCond .eq 11, 3) := by decide +kernel
theorem dX9_two_66 : decode cX9_two 66 = .ok (.iload_n 2, 1) := by decide +kernel
theorem dX9_two_67 : decode cX9_two 67 = .ok (.ifCond .eq 7, 3) := by decide +kernel
theorem dX9_two_70 : decode cX9_two 70 = .ok (.iconst 1, 1) := by decide +kernel
theorem dX9_two_71 : decode cX9_two 71 = .ok (.goto 4, 3) := by decide +kernel
theorem dX9_two_74 : decode cX9_two 74 = .ok (.iconst 0, 1) := by decide +kernel
theorem dX9_two_75 : decode cX9_two 75 = .ok (.ireturn, 1) := by decide +kernel
theorem dX9_two_76 : decode cX9_two 76 = .ok (.iload_n 1, 1) := by decide +kernel
theorem dX9_two_77 : decode cX9_two 77 = .ok (.iload_n 2, 1) := by decide +kernel
theorem dX9_two_78 : decode cX9_two 78 = .ok (.if_icmp .ge 7, 3) := by decide +kernel
theorem dX9_two_81 : decode cX9_two 81 = .ok (.iconst 1, 1) := by decide +kernel
theorem dX9_two_82 : decode cX9_two 82 = .ok (.goto 4, 3) := by decide +kernel
theorem dX9_two_85 : decode cX9_two 85 = .ok (.iconst 0, 1) := by decide +kernel
theorem dX9_two_86 : decode cX9_two 86 = .ok (.ireturn, 1) := by decide +kernel
theorem dX9_two_87 : decode cX9_two 87 = .ok (.iload_n 1, 1) := by decide +kernel
theorem dX9_two_88 : decode cX9_two 88 = .ok (.iload_n 2, 1) := by decide +kernel
theorem dX9_two_89 : decode cX9_two 89 = .ok (.if_icmp .ne 7, 3) := by decide +kernel
theorem dX9_two_92 : decode cX9_two 92 = .ok (.iconst 1, 1) := by decide +kernel
theorem dX9_two_93 : decode cX9_two 93 = .ok (.goto 4, 3) := by decide +kernel
theorem dX9_two_96 : decode cX9_two 96 = .ok (.iconst 0, 1) := by decide +kernel
theorem dX9_two_97 : decode cX9_two 97 = .ok (.ireturn, 1) := by decide +kernel
theorem dX9_two_98 : decode cX9_two 98 = .ok (.iload_n 1, 1) := by decide +kernel
theorem dX9_two_99 : decode cX9_two 99 = .ok (.iload_n 2, 1) := by decide +kernel
theorem dX9_two_100 : decode cX9_two 100 = .ok (.if_icmp .le 7, 3) := by decide +kernel
theorem dX9_two_103 : decode cX9_two 103 = .ok (.iconst 1, 1) := by decide +kernel
theorem dX9_two_104 : decode cX9_two 104 = .ok (.goto 4, 3) := by decide +kernel
theorem dX9_two_107 : decode cX9_two 107 = .ok (.iconst 0, 1) := by decide +kernel
theorem dX9_two_108 : decode cX9_two 108 = .ok (.ireturn, 1) := by decide +kernel
theorem dX9_two_109 : decode cX9_two 109 = .ok (.iload_n 1, 1) := by decide +kernel
theorem dX9_two_110 : decode cX9_two 110 = .ok (.iload_n 2, 1) := by decide +kernel
theorem dX9_two_111 : decode cX9_two 111 = .ok (.iadd, 1) := by decide +kernel
theorem dX9_two_112 : decode cX9_two 112 = .ok (.ireturn, 1) := by decide +kernel
theorem dX9_two_113 : decode cX9_two 113 = .ok (.iload_n 1, 1) := by decide +kernel
theorem dX9_two_114 : decode cX9_two 114 = .ok (.iload_n 2, 1) := by decide +kernel
theorem dX9_two_115 : decode cX9_two 115 = .ok (.isub, 1) := by decide +kernel
theorem dX9_two_116 : decode cX9_two 116 = .ok (.ireturn, 1) := by decide +kernel
theorem dX9_two_117 : decode cX9_two 117 = .ok (.iload_n 1, 1) := by decide +kernel
theorem dX9_two_118 : decode cX9_two 118 = .ok (.iload_n 2, 1) := by decide +kernel
theorem dX9_two_119 : decode cX9_two 119 = .ok (.imul, 1) := by decide +kernel
theorem dX9_two_120 : decode cX9_two 120 = .ok (.ireturn, 1) := by decide +kernel
theorem dX9_two_121 : decode cX9_two 121 = .ok (.iload_n 2, 1) := by decide +kernel
theorem dX9_two_122 : decode cX9_two 122 = .ok (.ifCond .ne 7, 3) := by decide +kernel
theorem dX9_two_125 : decode cX9_two 125 = .ok (.iconst 0, 1) := by decide +kernel
theorem dX9_two_126 : decode cX9_two 126 = .ok (.goto 6, 3) := by decide +kernel
theorem dX9_two_129 : decode cX9_two 129 = .ok (.iload_n 1, 1) := by decide +kernel
theorem dX9_two_130 : decode cX9_two 130 = .ok (.iload_n 2, 1) := by decide +kernel
theorem dX9_two_131 : decode cX9_two 131 = .ok (.idiv, 1) := by decide +kernel
theorem dX9_two_132 : decode cX9_two 132 = .ok (.ireturn, 1) := by decide +kernel
theorem dX9_worksOut_0 : decode cX9_worksOut 0 = .ok (.iconst 0, 1) := by decide +kernel
theorem dX9_worksOut_1 : decode cX9_worksOut 1 = .ok (.istore_n 2, 1) := by decide +kernel
theorem dX9_worksOut_2 : decode cX9_worksOut 2 = .ok (.aload_n 0, 1) := by decide +kernel
theorem dX9_worksOut_3 : decode cX9_worksOut 3 = .ok (.getfield 9, 3) := by decide +kernel
theorem dX9_worksOut_6 : decode cX9_worksOut 6 = .ok (.bipush 72, 2) := by decide +kernel
theorem dX9_worksOut_8 : decode cX9_worksOut 8 = .ok (.iconst 2, 1) := by decide +kernel
theorem dX9_worksOut_9 : decode cX9_worksOut 9 = .ok (.iload_n 1, 1) := by decide +kernel
theorem dX9_worksOut_10 : decode cX9_worksOut 10 = .ok (.imul, 1) := by decide +kernel
theorem dX9_worksOut_11 : decode cX9_worksOut 11 = .ok (.iadd, 1) := by decide +kernel
theorem dX9_worksOut_12 : decode cX9_worksOut 12 = .ok (.iaload, 1) := by decide +kernel
theorem dX9_worksOut_13 : decode cX9_worksOut 13 = .ok (.sipush 1000, 3) := by decide +kernel
theorem dX9_worksOut_16 : decode cX9_worksOut 16 = .ok (.irem, 1) := by decide +kernel
theorem dX9_worksOut_17 : decode cX9_worksOut 17 = .ok (.istore_n 3, 1) := by decide +kernel
theorem dX9_worksOut_18 : decode cX9_worksOut 18 = .ok (.iconst 0, 1) := by decide +kernel
theorem dX9_worksOut_19 : decode cX9_worksOut 19 = .ok (.istore 4, 2) := by decide +kernel
theorem dX9_worksOut_21 : decode cX9_worksOut 21 = .ok (.iload 4, 2) := by decide +kernel
theorem dX9_worksOut_23 : decode cX9_worksOut 23 = .ok (.iload_n 3, 1) := by decide +kernel
theorem dX9_worksOut_24 : decode cX9_worksOut 24 = .ok (.if_icmp .ge 131, 3) := by decide +kernel
theorem dX9_worksOut_27 : decode cX9_worksOut 27 = .ok (.aload_n 0, 1) := by decide +kernel
theorem dX9_worksOut_28 : decode cX9_worksOut 28 = .ok (.getfield 9, 3) := by decide +kernel
theorem dX9_worksOut_31 : decode cX9_worksOut 31 = .ok (.bipush 100, 2) := by decide +kernel
theorem dX9_worksOut_33 : decode cX9_worksOut 33 = .ok (.bipush 96, 2) := by decide +kernel
theorem dX9_worksOut_35 : decode cX9_worksOut 35 = .ok (.iload_n 1, 1) := by decide +kernel
theorem dX9_worksOut_36 : decode cX9_worksOut 36 = .ok (.imul, 1) := by decide +kernel
theorem dX9_worksOut_37 : decode cX9_worksOut 37 = .ok (.iadd, 1) := by decide +kernel
theorem dX9_worksOut_38 : decode cX9_worksOut 38 = .ok (.iload 4, 2) := by decide +kernel
theorem dX9_worksOut_40 : decode cX9_worksOut 40 = .ok (.iadd, 1) := by decide +kernel
theorem dX9_worksOut_41 : decode cX9_worksOut 41 = .ok (.iaload, 1) := by decide +kernel
theorem dX9_worksOut_42 : decode cX9_worksOut 42 = .ok (.istore 5, 2) := by decide +kernel
theorem dX9_worksOut_44 : decode cX9_worksOut 44 = .ok (.iload 5, 2) := by decide +kernel
theorem dX9_worksOut_46 : decode cX9_worksOut 46 = .ok (.ifCond .lt 39, 3) := by decide +kernel
theorem dX9_worksOut_49 : decode cX9_worksOut 49 = .ok (.aload_n 0, 1) := by decide +kernel
theorem dX9_worksOut_50 : decode cX9_worksOut 50 = .ok (.getfield 45, 3) := by decide +kernel
theorem dX9_worksOut_53 : decode cX9_worksOut 53 = .ok (.iload_n 2, 1) := by decide +kernel
theorem dX9_worksOut_54 : decode cX9_worksOut 54 = .ok (.iload 5, 2) := by decide +kernel
theorem dX9_worksOut_56 : decode cX9_worksOut 56 = .ok (.sipush 10000, 3) := by decide +kernel
theorem dX9_worksOut_59 : decode cX9_worksOut 59 = .ok (.if_icmp .ge 8, 3) := by decide +kernel
theorem dX9_worksOut_62 : decode cX9_worksOut 62 = .ok (.iload 5, 2) := by decide +kernel
theorem dX9_worksOut_64 : decode cX9_worksOut 64 = .ok (.goto 14, 3) := by decide +kernel
theorem dX9_worksOut_67 : decode cX9_worksOut 67 = .ok (.aload_n 0, 1) := by decide +kernel
theorem dX9_worksOut_68 : decode cX9_worksOut 68 = .ok (.getfield 48, 3) := by decide +kernel
theorem dX9_worksOut_71 : decode cX9_worksOut 71 = .ok (.iload 5, 2) := by decide +kernel
theorem dX9_worksOut_73 : decode cX9_worksOut 73 = .ok (.sipush 10000, 3) := by decide +kernel
theorem dX9_worksOut_76 : decode cX9_worksOut 76 = .ok (.isub, 1) := by decide +kernel
theorem dX9_worksOut_77 : decode cX9_worksOut 77 = .ok (.iaload, 1) := by decide +kernel
theorem dX9_worksOut_78 : decode cX9_worksOut 78 = .ok (.iastore, 1) := by decide +kernel
theorem dX9_worksOut_79 : decode cX9_worksOut 79 = .ok (.iinc 2 1, 3) := by decide +kernel
theorem dX9_worksOut_82 : decode cX9_worksOut 82 = .ok (.goto 67, 3) := by decide +kernel
theorem dX9_worksOut_85 : decode cX9_worksOut 85 = .ok (.iload 5, 2) := by decide +kernel
theorem dX9_worksOut_87 : decode cX9_worksOut 87 = .ok (.bipush (-10), 2) := by decide +kernel
theorem dX9_worksOut_89 : decode cX9_worksOut 89 = .ok (.if_icmp .ne 30, 3) := by decide +kernel
theorem dX9_worksOut_92 : decode cX9_worksOut 92 = .ok (.aload_n 0, 1) := by decide +kernel
theorem dX9_worksOut_93 : decode cX9_worksOut 93 = .ok (.getfield 45, 3) := by decide +kernel
theorem dX9_worksOut_96 : decode cX9_worksOut 96 = .ok (.iload_n 2, 1) := by decide +kernel
theorem dX9_worksOut_97 : decode cX9_worksOut 97 = .ok (.iconst 1, 1) := by decide +kernel
theorem dX9_worksOut_98 : decode cX9_worksOut 98 = .ok (.isub, 1) := by decide +kernel
theorem dX9_worksOut_99 : decode cX9_worksOut 99 = .ok (.aload_n 0, 1) := by decide +kernel
theorem dX9_worksOut_100 : decode cX9_worksOut 100 = .ok (.getfield 45, 3) := by decide +kernel
theorem dX9_worksOut_103 : decode cX9_worksOut 103 = .ok (.iload_n 2, 1) := by decide +kernel
theorem dX9_worksOut_104 : decode cX9_worksOut 104 = .ok (.iconst 1, 1) := by decide +kernel
theorem dX9_worksOut_105 : decode cX9_worksOut 105 = .ok (.isub, 1) := by decide +kernel
theorem dX9_worksOut_106 : decode cX9_worksOut 106 = .ok (.iaload, 1) := by decide +kernel
theorem dX9_worksOut_107 : decode cX9_worksOut 107 = .ok (.ifCond .ne 7, 3) := by decide +kernel
theorem dX9_worksOut_110 : decode cX9_worksOut 110 = .ok (.iconst 1, 1) := by decide +kernel
theorem dX9_worksOut_111 : decode cX9_worksOut 111 = .ok (.goto 4, 3) := by decide +kernel
theorem dX9_worksOut_114 : decode cX9_worksOut 114 = .ok (.iconst 0, 1) := by decide +kernel
theorem dX9_worksOut_115 : decode cX9_worksOut 115 = .ok (.iastore, 1) := by decide +kernel
theorem dX9_worksOut_116 : decode cX9_worksOut 116 = .ok (.goto 33, 3) := by decide +kernel
theorem dX9_worksOut_119 : decode cX9_worksOut 119 = .ok (.iinc 2 (-1), 3) := by decide +kernel
theorem dX9_worksOut_122 : decode cX9_worksOut 122 = .ok (.aload_n 0, 1) := by decide +kernel
theorem dX9_worksOut_123 : decode cX9_worksOut 123 = .ok (.getfield 45, 3) := by decide +kernel
theorem dX9_worksOut_126 : decode cX9_worksOut 126 = .ok (.iload_n 2, 1) := by decide +kernel
theorem dX9_worksOut_127 : decode cX9_worksOut 127 = .ok (.iconst 1, 1) := by decide +kernel
theorem dX9_worksOut_128 : decode cX9_worksOut 128 = .ok (.isub, 1) := by decide +kernel
theorem dX9_worksOut_129 : decode cX9_worksOut 129 = .ok (.iload 5, 2) := by decide +kernel
theorem dX9_worksOut_131 : decode cX9_worksOut 131 = .ok (.aload_n 0, 1) := by decide +kernel
theorem dX9_worksOut_132 : decode cX9_worksOut 132 = .ok (.getfield 45, 3) := by decide +kernel
theorem dX9_worksOut_135 : decode cX9_worksOut 135 = .ok (.iload_n 2, 1) := by decide +kernel
theorem dX9_worksOut_136 : decode cX9_worksOut 136 = .ok (.iconst 1, 1) := by decide +kernel
theorem dX9_worksOut_137 : decode cX9_worksOut 137 = .ok (.isub, 1) := by decide +kernel
theorem dX9_worksOut_138 : decode cX9_worksOut 138 = .ok (.iaload, 1) := by decide +kernel
theorem dX9_worksOut_139 : decode cX9_worksOut 139 = .ok (.aload_n 0, 1) := by decide +kernel
theorem dX9_worksOut_140 : decode cX9_worksOut 140 = .ok (.getfield 45, 3) := by decide +kernel
theorem dX9_worksOut_143 : decode cX9_worksOut 143 = .ok (.iload_n 2, 1) := by decide +kernel
theorem dX9_worksOut_144 : decode cX9_worksOut 144 = .ok (.iaload, 1) := by decide +kernel
theorem dX9_worksOut_145 : decode cX9_worksOut 145 = .ok (.invokestatic 284, 3) := by decide +kernel
theorem dX9_worksOut_148 : decode cX9_worksOut 148 = .ok (.iastore, 1) := by decide +kernel
theorem dX9_worksOut_149 : decode cX9_worksOut 149 = .ok (.iinc 4 1, 3) := by decide +kernel
theorem dX9_worksOut_152 : decode cX9_worksOut 152 = .ok (.goto (-131), 3) := by decide +kernel
theorem dX9_worksOut_155 : decode cX9_worksOut 155 = .ok (.aload_n 0, 1) := by decide +kernel
theorem dX9_worksOut_156 : decode cX9_worksOut 156 = .ok (.getfield 45, 3) := by decide +kernel
theorem dX9_worksOut_159 : decode cX9_worksOut 159 = .ok (.iconst 0, 1) := by decide +kernel
theorem dX9_worksOut_160 : decode cX9_worksOut 160 = .ok (.iaload, 1) := by decide +kernel
theorem dX9_worksOut_161 : decode cX9_worksOut 161 = .ok (.ireturn, 1) := by decide +kernel
theorem dX9_isSheet_0 : decode cX9_isSheet 0 = .ok (.iload_n 0, 1) := by decide +kernel
theorem dX9_isSheet_1 : decode cX9_isSheet 1 = .ok (.iconst 0, 1) := by decide +kernel
theorem dX9_isSheet_2 : decode cX9_isSheet 2 = .ok (.iconst 3, 1) := by decide +kernel
theorem dX9_isSheet_3 : decode cX9_isSheet 3 = .ok (.invokestatic 79, 3) := by decide +kernel
theorem dX9_isSheet_6 : decode cX9_isSheet 6 = .ok (.ireturn, 1) := by decide +kernel
theorem dX9_isSlot_0 : decode cX9_isSlot 0 = .ok (.iload_n 0, 1) := by decide +kernel
theorem dX9_isSlot_1 : decode cX9_isSlot 1 = .ok (.iconst 0, 1) := by decide +kernel
theorem dX9_isSlot_2 : decode cX9_isSlot 2 = .ok (.iconst 4, 1) := by decide +kernel
theorem dX9_isSlot_3 : decode cX9_isSlot 3 = .ok (.invokestatic 79, 3) := by decide +kernel
theorem dX9_isSlot_6 : decode cX9_isSlot 6 = .ok (.ireturn, 1) := by decide +kernel
theorem dX9_sheet_0 : decode cX9_sheet 0 = .ok (.iload_n 1, 1) := by decide +kernel
theorem dX9_sheet_1 : decode cX9_sheet 1 = .ok (.invokestatic 217, 3) := by decide +kernel
theorem dX9_sheet_4 : decode cX9_sheet 4 = .ok (.ifCond .eq 22, 3) := by decide +kernel
theorem dX9_sheet_7 : decode cX9_sheet 7 = .ok (.iload_n 2, 1) := by decide +kernel
theorem dX9_sheet_8 : decode cX9_sheet 8 = .ok (.iconst (-1), 1) := by decide +kernel
theorem dX9_sheet_9 : decode cX9_sheet 9 = .ok (.iconst 1, 1) := by decide +kernel
theorem dX9_sheet_10 : decode cX9_sheet 10 = .ok (.invokestatic 79, 3) := by decide +kernel
theorem dX9_sheet_13 : decode cX9_sheet 13 = .ok (.ifCond .eq 13, 3) := by decide +kernel
theorem dX9_sheet_16 : decode cX9_sheet 16 = .ok (.iload_n 2, 1) := by decide +kernel
theorem dX9_sheet_17 : decode cX9_sheet 17 = .ok (.ifCond .lt 12, 3) := by decide +kernel
theorem dX9_sheet_20 : decode cX9_sheet 20 = .ok (.iload_n 3, 1) := by decide +kernel
theorem dX9_sheet_21 : decode cX9_sheet 21 = .ok (.bipush 24, 2) := by decide +kernel
theorem dX9_sheet_23 : decode cX9_sheet 23 = .ok (.if_icmp .le 6, 3) := by decide +kernel
theorem dX9_sheet_26 : decode cX9_sheet 26 = .ok (.ldc 118, 2) := by decide +kernel
theorem dX9_sheet_28 : decode cX9_sheet 28 = .ok (.ireturn, 1) := by decide +kernel
theorem dX9_sheet_29 : decode cX9_sheet 29 = .ok (.iload_n 2, 1) := by decide +kernel
theorem dX9_sheet_30 : decode cX9_sheet 30 = .ok (.ifCond .lt 11, 3) := by decide +kernel
theorem dX9_sheet_33 : decode cX9_sheet 33 = .ok (.iload_n 3, 1) := by decide +kernel
theorem dX9_sheet_34 : decode cX9_sheet 34 = .ok (.ifCond .ge 7, 3) := by decide +kernel
theorem dX9_sheet_37 : decode cX9_sheet 37 = .ok (.ldc_w 287, 3) := by decide +kernel
theorem dX9_sheet_40 : decode cX9_sheet 40 = .ok (.ireturn, 1) := by decide +kernel
theorem dX9_sheet_41 : decode cX9_sheet 41 = .ok (.aload_n 0, 1) := by decide +kernel
theorem dX9_sheet_42 : decode cX9_sheet 42 = .ok (.getfield 51, 3) := by decide +kernel
theorem dX9_sheet_45 : decode cX9_sheet 45 = .ok (.iload_n 1, 1) := by decide +kernel
theorem dX9_sheet_46 : decode cX9_sheet 46 = .ok (.iload_n 2, 1) := by decide +kernel
theorem dX9_sheet_47 : decode cX9_sheet 47 = .ok (.iastore, 1) := by decide +kernel
theorem dX9_sheet_48 : decode cX9_sheet 48 = .ok (.aload_n 0, 1) := by decide +kernel
theorem dX9_sheet_49 : decode cX9_sheet 49 = .ok (.getfield 54, 3) := by decide +kernel
theorem dX9_sheet_52 : decode cX9_sheet 52 = .ok (.iload_n 1, 1) := by decide +kernel
theorem dX9_sheet_53 : decode cX9_sheet 53 = .ok (.iload_n 2, 1) := by decide +kernel
theorem dX9_sheet_54 : decode cX9_sheet 54 = .ok (.ifCond .ge 7, 3) := by decide +kernel
theorem dX9_sheet_57 : decode cX9_sheet 57 = .ok (.iconst 0, 1) := by decide +kernel
theorem dX9_sheet_58 : decode cX9_sheet 58 = .ok (.goto 4, 3) := by decide +kernel
theorem dX9_sheet_61 : decode cX9_sheet 61 = .ok (.iload_n 3, 1) := by decide +kernel
theorem dX9_sheet_62 : decode cX9_sheet 62 = .ok (.iastore, 1) := by decide +kernel
theorem dX9_sheet_63 : decode cX9_sheet 63 = .ok (.iconst 0, 1) := by decide +kernel
theorem dX9_sheet_64 : decode cX9_sheet 64 = .ok (.istore 4, 2) := by decide +kernel
theorem dX9_sheet_66 : decode cX9_sheet 66 = .ok (.iload 4, 2) := by decide +kernel
theorem dX9_sheet_68 : decode cX9_sheet 68 = .ok (.bipush 24, 2) := by decide +kernel
theorem dX9_sheet_70 : decode cX9_sheet 70 = .ok (.if_icmp .ge 22, 3) := by decide +kernel
theorem dX9_sheet_73 : decode cX9_sheet 73 = .ok (.aload_n 0, 1) := by decide +kernel
theorem dX9_sheet_74 : decode cX9_sheet 74 = .ok (.getfield 57, 3) := by decide +kernel
theorem dX9_sheet_77 : decode cX9_sheet 77 = .ok (.bipush 24, 2) := by decide +kernel
theorem dX9_sheet_79 : decode cX9_sheet 79 = .ok (.iload_n 1, 1) := by decide +kernel
theorem dX9_sheet_80 : decode cX9_sheet 80 = .ok (.imul, 1) := by decide +kernel
theorem dX9_sheet_81 : decode cX9_sheet 81 = .ok (.iload 4, 2) := by decide +kernel
theorem dX9_sheet_83 : decode cX9_sheet 83 = .ok (.iadd, 1) := by decide +kernel
theorem dX9_sheet_84 : decode cX9_sheet 84 = .ok (.iconst 0, 1) := by decide +kernel
theorem dX9_sheet_85 : decode cX9_sheet 85 = .ok (.iastore, 1) := by decide +kernel
theorem dX9_sheet_86 : decode cX9_sheet 86 = .ok (.iinc 4 1, 3) := by decide +kernel
theorem dX9_sheet_89 : decode cX9_sheet 89 = .ok (.goto (-23), 3) := by decide +kernel
theorem dX9_sheet_92 : decode cX9_sheet 92 = .ok (.aload_n 0, 1) := by decide +kernel
theorem dX9_sheet_93 : decode cX9_sheet 93 = .ok (.getfield 54, 3) := by decide +kernel
theorem dX9_sheet_96 : decode cX9_sheet 96 = .ok (.iload_n 1, 1) := by decide +kernel
theorem dX9_sheet_97 : decode cX9_sheet 97 = .ok (.iaload, 1) := by decide +kernel
theorem dX9_sheet_98 : decode cX9_sheet 98 = .ok (.ireturn, 1) := by decide +kernel
theorem dX9_mark_0 : decode cX9_mark 0 = .ok (.iload_n 1, 1) := by decide +kernel
theorem dX9_mark_1 : decode cX9_mark 1 = .ok (.invokestatic 217, 3) := by decide +kernel
theorem dX9_mark_4 : decode cX9_mark 4 = .ok (.ifCond .ne 6, 3) := by decide +kernel
theorem dX9_mark_7 : decode cX9_mark 7 = .ok (.ldc 118, 2) := by decide +kernel
theorem dX9_mark_9 : decode cX9_mark 9 = .ok (.ireturn, 1) := by decide +kernel
theorem dX9_mark_10 : decode cX9_mark 10 = .ok (.aload_n 0, 1) := by decide +kernel
theorem dX9_mark_11 : decode cX9_mark 11 = .ok (.getfield 51, 3) := by decide +kernel
theorem dX9_mark_14 : decode cX9_mark 14 = .ok (.iload_n 1, 1) := by decide +kernel
theorem dX9_mark_15 : decode cX9_mark 15 = .ok (.iaload, 1) := by decide +kernel
theorem dX9_mark_16 : decode cX9_mark 16 = .ok (.ifCond .ge 6, 3) := by decide +kernel
theorem dX9_mark_19 : decode cX9_mark 19 = .ok (.ldc 220, 2) := by decide +kernel
theorem dX9_mark_21 : decode cX9_mark 21 = .ok (.ireturn, 1) := by decide +kernel
theorem dX9_mark_22 : decode cX9_mark 22 = .ok (.iload_n 2, 1) := by decide +kernel
theorem dX9_mark_23 : decode cX9_mark 23 = .ok (.iconst 0, 1) := by decide +kernel
theorem dX9_mark_24 : decode cX9_mark 24 = .ok (.aload_n 0, 1) := by decide +kernel
theorem dX9_mark_25 : decode cX9_mark 25 = .ok (.getfield 54, 3) := by decide +kernel
theorem dX9_mark_28 : decode cX9_mark 28 = .ok (.iload_n 1, 1) := by decide +kernel
theorem dX9_mark_29 : decode cX9_mark 29 = .ok (.iaload, 1) := by decide +kernel
theorem dX9_mark_30 : decode cX9_mark 30 = .ok (.iconst 1, 1) := by decide +kernel
theorem dX9_mark_31 : decode cX9_mark 31 = .ok (.isub, 1) := by decide +kernel
theorem dX9_mark_32 : decode cX9_mark 32 = .ok (.invokestatic 79, 3) := by decide +kernel
theorem dX9_mark_35 : decode cX9_mark 35 = .ok (.ifCond .ne 7, 3) := by decide +kernel
theorem dX9_mark_38 : decode cX9_mark 38 = .ok (.ldc_w 288, 3) := by decide +kernel
theorem dX9_mark_41 : decode cX9_mark 41 = .ok (.ireturn, 1) := by decide +kernel
theorem dX9_mark_42 : decode cX9_mark 42 = .ok (.aload_n 0, 1) := by decide +kernel
theorem dX9_mark_43 : decode cX9_mark 43 = .ok (.getfield 51, 3) := by decide +kernel
theorem dX9_mark_46 : decode cX9_mark 46 = .ok (.iload_n 1, 1) := by decide +kernel
theorem dX9_mark_47 : decode cX9_mark 47 = .ok (.iaload, 1) := by decide +kernel
theorem dX9_mark_48 : decode cX9_mark 48 = .ok (.ifCond .ne 12, 3) := by decide +kernel
theorem dX9_mark_51 : decode cX9_mark 51 = .ok (.iload_n 3, 1) := by decide +kernel
theorem dX9_mark_52 : decode cX9_mark 52 = .ok (.ldc 78, 2) := by decide +kernel
theorem dX9_mark_54 : decode cX9_mark 54 = .ok (.if_icmp .ne 6, 3) := by decide +kernel
theorem dX9_mark_57 : decode cX9_mark 57 = .ok (.ldc 142, 2) := by decide +kernel
theorem dX9_mark_59 : decode cX9_mark 59 = .ok (.ireturn, 1) := by decide +kernel
theorem dX9_mark_60 : decode cX9_mark 60 = .ok (.aload_n 0, 1) := by decide +kernel
theorem dX9_mark_61 : decode cX9_mark 61 = .ok (.getfield 51, 3) := by decide +kernel
theorem dX9_mark_64 : decode cX9_mark 64 = .ok (.iload_n 1, 1) := by decide +kernel
theorem dX9_mark_65 : decode cX9_mark 65 = .ok (.iaload, 1) := by decide +kernel
theorem dX9_mark_66 : decode cX9_mark 66 = .ok (.iconst 1, 1) := by decide +kernel
theorem dX9_mark_67 : decode cX9_mark 67 = .ok (.if_icmp .ne 25, 3) := by decide +kernel
theorem dX9_mark_70 : decode cX9_mark 70 = .ok (.iload_n 3, 1) := by decide +kernel
theorem dX9_mark_71 : decode cX9_mark 71 = .ok (.ldc 78, 2) := by decide +kernel
theorem dX9_mark_73 : decode cX9_mark 73 = .ok (.if_icmp .eq 19, 3) := by decide +kernel
theorem dX9_mark_76 : decode cX9_mark 76 = .ok (.iload_n 3, 1) := by decide +kernel
theorem dX9_mark_77 : decode cX9_mark 77 = .ok (.ldc_w 289, 3) := by decide +kernel
theorem dX9_mark_80 : decode cX9_mark 80 = .ok (.ldc_w 290, 3) := by decide +kernel
theorem dX9_mark_83 : decode cX9_mark 83 = .ok (.invokestatic 79, 3) := by decide +kernel
theorem dX9_mark_86 : decode cX9_mark 86 = .ok (.ifCond .ne 6, 3) := by decide +kernel
theorem dX9_mark_89 : decode cX9_mark 89 = .ok (.ldc 118, 2) := by decide +kernel
theorem dX9_mark_91 : decode cX9_mark 91 = .ok (.ireturn, 1) := by decide +kernel
theorem dX9_mark_92 : decode cX9_mark 92 = .ok (.aload_n 0, 1) := by decide +kernel
theorem dX9_mark_93 : decode cX9_mark 93 = .ok (.getfield 57, 3) := by decide +kernel
theorem dX9_mark_96 : decode cX9_mark 96 = .ok (.bipush 24, 2) := by decide +kernel
theorem dX9_mark_98 : decode cX9_mark 98 = .ok (.iload_n 1, 1) := by decide +kernel
theorem dX9_mark_99 : decode cX9_mark 99 = .ok (.imul, 1) := by decide +kernel
theorem dX9_mark_100 : decode cX9_mark 100 = .ok (.iload_n 2, 1) := by decide +kernel
theorem dX9_mark_101 : decode cX9_mark 101 = .ok (.iadd, 1) := by decide +kernel
theorem dX9_mark_102 : decode cX9_mark 102 = .ok (.aload_n 0, 1) := by decide +kernel
theorem dX9_mark_103 : decode cX9_mark 103 = .ok (.getfield 51, 3) := by decide +kernel
theorem dX9_mark_106 : decode cX9_mark 106 = .ok (.iload_n 1, 1) := by decide +kernel
theorem dX9_mark_107 : decode cX9_mark 107 = .ok (.iaload, 1) := by decide +kernel
theorem dX9_mark_108 : decode cX9_mark 108 = .ok (.ifCond .ne 8, 3) := by decide +kernel
theorem dX9_mark_111 : decode cX9_mark 111 = .ok (.iload_n 3, 1) := by decide +kernel
theorem dX9_mark_112 : decode cX9_mark 112 = .ok (.i2s, 1) := by decide +kernel
theorem dX9_mark_113 : decode cX9_mark 113 = .ok (.goto 4, 3) := by decide +kernel
theorem dX9_mark_116 : decode cX9_mark 116 = .ok (.iload_n 3, 1) := by decide +kernel
theorem dX9_mark_117 : decode cX9_mark 117 = .ok (.iastore, 1) := by decide +kernel
theorem dX9_mark_118 : decode cX9_mark 118 = .ok (.iconst 1, 1) := by decide +kernel
theorem dX9_mark_119 : decode cX9_mark 119 = .ok (.ireturn, 1) := by decide +kernel
theorem dX9_pour_0 : decode cX9_pour 0 = .ok (.iload_n 1, 1) := by decide +kernel
theorem dX9_pour_1 : decode cX9_pour 1 = .ok (.invokestatic 217, 3) := by decide +kernel
theorem dX9_pour_4 : decode cX9_pour 4 = .ok (.ifCond .ne 6, 3) := by decide +kernel
theorem dX9_pour_7 : decode cX9_pour 7 = .ok (.ldc 118, 2) := by decide +kernel
theorem dX9_pour_9 : decode cX9_pour 9 = .ok (.ireturn, 1) := by decide +kernel
theorem dX9_pour_10 : decode cX9_pour 10 = .ok (.aload_n 0, 1) := by decide +kernel
theorem dX9_pour_11 : decode cX9_pour 11 = .ok (.getfield 51, 3) := by decide +kernel
theorem dX9_pour_14 : decode cX9_pour 14 = .ok (.iload_n 1, 1) := by decide +kernel
theorem dX9_pour_15 : decode cX9_pour 15 = .ok (.iaload, 1) := by decide +kernel
theorem dX9_pour_16 : decode cX9_pour 16 = .ok (.ifCond .ge 6, 3) := by decide +kernel
theorem dX9_pour_19 : decode cX9_pour 19 = .ok (.ldc 220, 2) := by decide +kernel
theorem dX9_pour_21 : decode cX9_pour 21 = .ok (.ireturn, 1) := by decide +kernel
theorem dX9_pour_22 : decode cX9_pour 22 = .ok (.iconst 0, 1) := by decide +kernel
theorem dX9_pour_23 : decode cX9_pour 23 = .ok (.istore_n 2, 1) := by decide +kernel
theorem dX9_pour_24 : decode cX9_pour 24 = .ok (.iconst 0, 1) := by decide +kernel
theorem dX9_pour_25 : decode cX9_pour 25 = .ok (.istore_n 3, 1) := by decide +kernel
theorem dX9_pour_26 : decode cX9_pour 26 = .ok (.iload_n 3, 1) := by decide +kernel
theorem dX9_pour_27 : decode cX9_pour 27 = .ok (.aload_n 0, 1) := by decide +kernel
theorem dX9_pour_28 : decode cX9_pour 28 = .ok (.getfield 54, 3) := by decide +kernel
theorem dX9_pour_31 : decode cX9_pour 31 = .ok (.iload_n 1, 1) := by decide +kernel
theorem dX9_pour_32 : decode cX9_pour 32 = .ok (.iaload, 1) := by decide +kernel
theorem dX9_pour_33 : decode cX9_pour 33 = .ok (.if_icmp .ge 84, 3) := by decide +kernel
theorem dX9_pour_36 : decode cX9_pour 36 = .ok (.iload_n 3, 1) := by decide +kernel
theorem dX9_pour_37 : decode cX9_pour 37 = .ok (.aload_n 0, 1) := by decide +kernel
theorem dX9_pour_38 : decode cX9_pour 38 = .ok (.getfield 9, 3) := by decide +kernel
theorem dX9_pour_41 : decode cX9_pour 41 = .ok (.iconst 2, 1) := by decide +kernel
theorem dX9_pour_42 : decode cX9_pour 42 = .ok (.iaload, 1) := by decide +kernel
theorem dX9_pour_43 : decode cX9_pour 43 = .ok (.if_icmp .ge 74, 3) := by decide +kernel
theorem dX9_pour_46 : decode cX9_pour 46 = .ok (.aload_n 0, 1) := by decide +kernel
theorem dX9_pour_47 : decode cX9_pour 47 = .ok (.getfield 57, 3) := by decide +kernel
theorem dX9_pour_50 : decode cX9_pour 50 = .ok (.bipush 24, 2) := by decide +kernel
theorem dX9_pour_52 : decode cX9_pour 52 = .ok (.iload_n 1, 1) := by decide +kernel
theorem dX9_pour_53 : decode cX9_pour 53 = .ok (.imul, 1) := by decide +kernel
theorem dX9_pour_54 : decode cX9_pour 54 = .ok (.iload_n 3, 1) := by decide +kernel
theorem dX9_pour_55 : decode cX9_pour 55 = .ok (.iadd, 1) := by decide +kernel
theorem dX9_pour_56 : decode cX9_pour 56 = .ok (.iaload, 1) := by decide +kernel
theorem dX9_pour_57 : decode cX9_pour 57 = .ok (.istore 4, 2) := by decide +kernel
theorem dX9_pour_59 : decode cX9_pour 59 = .ok (.iload 4, 2) := by decide +kernel
theorem dX9_pour_61 : decode cX9_pour 61 = .ok (.ldc 78, 2) := by decide +kernel
theorem dX9_pour_63 : decode cX9_pour 63 = .ok (.if_icmp .ne 15, 3) := by decide +kernel
theorem dX9_pour_66 : decode cX9_pour 66 = .ok (.aload_n 0, 1) := by decide +kernel
theorem dX9_pour_67 : decode cX9_pour 67 = .ok (.getfield 9, 3) := by decide +kernel
theorem dX9_pour_70 : decode cX9_pour 70 = .ok (.bipush 12, 2) := by decide +kernel
theorem dX9_pour_72 : decode cX9_pour 72 = .ok (.iload_n 3, 1) := by decide +kernel
theorem dX9_pour_73 : decode cX9_pour 73 = .ok (.iadd, 1) := by decide +kernel
theorem dX9_pour_74 : decode cX9_pour 74 = .ok (.iaload, 1) := by decide +kernel
theorem dX9_pour_75 : decode cX9_pour 75 = .ok (.goto 11, 3) := by decide +kernel
theorem dX9_pour_78 : decode cX9_pour 78 = .ok (.iload 4, 2) := by decide +kernel
theorem dX9_pour_80 : decode cX9_pour 80 = .ok (.iconst 0, 1) := by decide +kernel
theorem dX9_pour_81 : decode cX9_pour 81 = .ok (.bipush 99, 2) := by decide +kernel
theorem dX9_pour_83 : decode cX9_pour 83 = .ok (.invokestatic 153, 3) := by decide +kernel
theorem dX9_pour_86 : decode cX9_pour 86 = .ok (.istore 5, 2) := by decide +kernel
theorem dX9_pour_88 : decode cX9_pour 88 = .ok (.iload_n 2, 1) := by decide +kernel
theorem dX9_pour_89 : decode cX9_pour 89 = .ok (.aload_n 0, 1) := by decide +kernel
theorem dX9_pour_90 : decode cX9_pour 90 = .ok (.bipush 12, 2) := by decide +kernel
theorem dX9_pour_92 : decode cX9_pour 92 = .ok (.iload_n 3, 1) := by decide +kernel
theorem dX9_pour_93 : decode cX9_pour 93 = .ok (.iadd, 1) := by decide +kernel
theorem dX9_pour_94 : decode cX9_pour 94 = .ok (.iload 5, 2) := by decide +kernel
theorem dX9_pour_96 : decode cX9_pour 96 = .ok (.invokevirtual 144, 3) := by decide +kernel
theorem dX9_pour_99 : decode cX9_pour 99 = .ok (.iload 5, 2) := by decide +kernel
theorem dX9_pour_101 : decode cX9_pour 101 = .ok (.if_icmp .ne 7, 3) := by decide +kernel
theorem dX9_pour_104 : decode cX9_pour 104 = .ok (.iconst 0, 1) := by decide +kernel
theorem dX9_pour_105 : decode cX9_pour 105 = .ok (.goto 4, 3) := by decide +kernel
theorem dX9_pour_108 : decode cX9_pour 108 = .ok (.iconst 1, 1) := by decide +kernel
theorem dX9_pour_109 : decode cX9_pour 109 = .ok (.iadd, 1) := by decide +kernel
theorem dX9_pour_110 : decode cX9_pour 110 = .ok (.istore_n 2, 1) := by decide +kernel
theorem dX9_pour_111 : decode cX9_pour 111 = .ok (.iinc 3 1, 3) := by decide +kernel
theorem dX9_pour_114 : decode cX9_pour 114 = .ok (.goto (-88), 3) := by decide +kernel
theorem dX9_pour_117 : decode cX9_pour 117 = .ok (.iload_n 2, 1) := by decide +kernel
theorem dX9_pour_118 : decode cX9_pour 118 = .ok (.ireturn, 1) := by decide +kernel
theorem dX9_reads_0 : decode cX9_reads 0 = .ok (.iload_n 1, 1) := by decide +kernel
theorem dX9_reads_1 : decode cX9_reads 1 = .ok (.invokestatic 217, 3) := by decide +kernel
theorem dX9_reads_4 : decode cX9_reads 4 = .ok (.ifCond .ne 6, 3) := by decide +kernel
theorem dX9_reads_7 : decode cX9_reads 7 = .ok (.ldc 118, 2) := by decide +kernel
theorem dX9_reads_9 : decode cX9_reads 9 = .ok (.ireturn, 1) := by decide +kernel
theorem dX9_reads_10 : decode cX9_reads 10 = .ok (.aload_n 0, 1) := by decide +kernel
theorem dX9_reads_11 : decode cX9_reads 11 = .ok (.getfield 51, 3) := by decide +kernel
theorem dX9_reads_14 : decode cX9_reads 14 = .ok (.iload_n 1, 1) := by decide +kernel
theorem dX9_reads_15 : decode cX9_reads 15 = .ok (.iaload, 1) := by decide +kernel
theorem dX9_reads_16 : decode cX9_reads 16 = .ok (.ifCond .ge 6, 3) := by decide +kernel
theorem dX9_reads_19 : decode cX9_reads 19 = .ok (.ldc 220, 2) := by decide +kernel
theorem dX9_reads_21 : decode cX9_reads 21 = .ok (.ireturn, 1) := by decide +kernel
theorem dX9_reads_22 : decode cX9_reads 22 = .ok (.iconst 0, 1) := by decide +kernel
theorem dX9_reads_23 : decode cX9_reads 23 = .ok (.istore_n 2, 1) := by decide +kernel
theorem dX9_reads_24 : decode cX9_reads 24 = .ok (.iload_n 2, 1) := by decide +kernel
theorem dX9_reads_25 : decode cX9_reads 25 = .ok (.aload_n 0, 1) := by decide +kernel
theorem dX9_reads_26 : decode cX9_reads 26 = .ok (.getfield 54, 3) := by decide +kernel
theorem dX9_reads_29 : decode cX9_reads 29 = .ok (.iload_n 1, 1) := by decide +kernel
theorem dX9_reads_30 : decode cX9_reads 30 = .ok (.iaload, 1) := by decide +kernel
theorem dX9_reads_31 : decode cX9_reads 31 = .ok (.if_icmp .ge 47, 3) := by decide +kernel
theorem dX9_reads_34 : decode cX9_reads 34 = .ok (.aload_n 0, 1) := by decide +kernel
theorem dX9_reads_35 : decode cX9_reads 35 = .ok (.getfield 57, 3) := by decide +kernel
theorem dX9_reads_38 : decode cX9_reads 38 = .ok (.bipush 24, 2) := by decide +kernel
theorem dX9_reads_40 : decode cX9_reads 40 = .ok (.iload_n 1, 1) := by decide +kernel
theorem dX9_reads_41 : decode cX9_reads 41 = .ok (.imul, 1) := by decide +kernel
theorem dX9_reads_42 : decode cX9_reads 42 = .ok (.iload_n 2, 1) := by decide +kernel
theorem dX9_reads_43 : decode cX9_reads 43 = .ok (.iadd, 1) := by decide +kernel
theorem dX9_reads_44 : decode cX9_reads 44 = .ok (.iaload, 1) := by decide +kernel
theorem dX9_reads_45 : decode cX9_reads 45 = .ok (.istore_n 3, 1) := by decide +kernel
theorem dX9_reads_46 : decode cX9_reads 46 = .ok (.iload_n 3, 1) := by decide +kernel
theorem dX9_reads_47 : decode cX9_reads 47 = .ok (.ldc 78, 2) := by decide +kernel
theorem dX9_reads_49 : decode cX9_reads 49 = .ok (.if_icmp .eq 23, 3) := by decide +kernel
theorem dX9_reads_52 : decode cX9_reads 52 = .ok (.aload_n 0, 1) := by decide +kernel
theorem dX9_reads_53 : decode cX9_reads 53 = .ok (.iload_n 2, 1) := by decide +kernel
theorem dX9_reads_54 : decode cX9_reads 54 = .ok (.invokevirtual 130, 3) := by decide +kernel
theorem dX9_reads_57 : decode cX9_reads 57 = .ok (.ifCond .eq 13, 3) := by decide +kernel
theorem dX9_reads_60 : decode cX9_reads 60 = .ok (.iload_n 3, 1) := by decide +kernel
theorem dX9_reads_61 : decode cX9_reads 61 = .ok (.aload_n 0, 1) := by decide +kernel
theorem dX9_reads_62 : decode cX9_reads 62 = .ok (.iload_n 2, 1) := by decide +kernel
theorem dX9_reads_63 : decode cX9_reads 63 = .ok (.iconst 2, 1) := by decide +kernel
theorem dX9_reads_64 : decode cX9_reads 64 = .ok (.invokevirtual 87, 3) := by decide +kernel
theorem dX9_reads_67 : decode cX9_reads 67 = .ok (.if_icmp .eq 5, 3) := by decide +kernel
theorem dX9_reads_70 : decode cX9_reads 70 = .ok (.iload_n 2, 1) := by decide +kernel
theorem dX9_reads_71 : decode cX9_reads 71 = .ok (.ireturn, 1) := by decide +kernel
theorem dX9_reads_72 : decode cX9_reads 72 = .ok (.iinc 2 1, 3) := by decide +kernel
theorem dX9_reads_75 : decode cX9_reads 75 = .ok (.goto (-51), 3) := by decide +kernel
theorem dX9_reads_78 : decode cX9_reads 78 = .ok (.ldc 78, 2) := by decide +kernel
theorem dX9_reads_80 : decode cX9_reads 80 = .ok (.ireturn, 1) := by decide +kernel
theorem dX9_copy_0 : decode cX9_copy 0 = .ok (.iload_n 1, 1) := by decide +kernel
theorem dX9_copy_1 : decode cX9_copy 1 = .ok (.invokestatic 217, 3) := by decide +kernel
theorem dX9_copy_4 : decode cX9_copy 4 = .ok (.ifCond .eq 10, 3) := by decide +kernel
theorem dX9_copy_7 : decode cX9_copy 7 = .ok (.iload_n 3, 1) := by decide +kernel
theorem dX9_copy_8 : decode cX9_copy 8 = .ok (.invokestatic 217, 3) := by decide +kernel
theorem dX9_copy_11 : decode cX9_copy 11 = .ok (.ifCond .ne 6, 3) := by decide +kernel
theorem dX9_copy_14 : decode cX9_copy 14 = .ok (.ldc 118, 2) := by decide +kernel
theorem dX9_copy_16 : decode cX9_copy 16 = .ok (.ireturn, 1) := by decide +kernel
theorem dX9_copy_17 : decode cX9_copy 17 = .ok (.aload_n 0, 1) := by decide +kernel
theorem dX9_copy_18 : decode cX9_copy 18 = .ok (.getfield 51, 3) := by decide +kernel
theorem dX9_copy_21 : decode cX9_copy 21 = .ok (.iload_n 1, 1) := by decide +kernel
theorem dX9_copy_22 : decode cX9_copy 22 = .ok (.iaload, 1) := by decide +kernel
theorem dX9_copy_23 : decode cX9_copy 23 = .ok (.ifCond .lt 12, 3) := by decide +kernel
theorem dX9_copy_26 : decode cX9_copy 26 = .ok (.aload_n 0, 1) := by decide +kernel
theorem dX9_copy_27 : decode cX9_copy 27 = .ok (.getfield 51, 3) := by decide +kernel
theorem dX9_copy_30 : decode cX9_copy 30 = .ok (.iload_n 3, 1) := by decide +kernel
theorem dX9_copy_31 : decode cX9_copy 31 = .ok (.iaload, 1) := by decide +kernel
theorem dX9_copy_32 : decode cX9_copy 32 = .ok (.ifCond .ge 6, 3) := by decide +kernel
theorem dX9_copy_35 : decode cX9_copy 35 = .ok (.ldc 220, 2) := by decide +kernel
theorem dX9_copy_37 : decode cX9_copy 37 = .ok (.ireturn, 1) := by decide +kernel
theorem dX9_copy_38 : decode cX9_copy 38 = .ok (.aload_n 0, 1) := by decide +kernel
theorem dX9_copy_39 : decode cX9_copy 39 = .ok (.getfield 51, 3) := by decide +kernel
theorem dX9_copy_42 : decode cX9_copy 42 = .ok (.iload_n 1, 1) := by decide +kernel
theorem dX9_copy_43 : decode cX9_copy 43 = .ok (.iaload, 1) := by decide +kernel
theorem dX9_copy_44 : decode cX9_copy 44 = .ok (.aload_n 0, 1) := by decide +kernel
theorem dX9_copy_45 : decode cX9_copy 45 = .ok (.getfield 51, 3) := by decide +kernel
theorem dX9_copy_48 : decode cX9_copy 48 = .ok (.iload_n 3, 1) := by decide +kernel
theorem dX9_copy_49 : decode cX9_copy 49 = .ok (.iaload, 1) := by decide +kernel
theorem dX9_copy_50 : decode cX9_copy 50 = .ok (.if_icmp .eq 6, 3) := by decide +kernel
theorem dX9_copy_53 : decode cX9_copy 53 = .ok (.ldc 142, 2) := by decide +kernel
theorem dX9_copy_55 : decode cX9_copy 55 = .ok (.ireturn, 1) := by decide +kernel
theorem dX9_copy_56 : decode cX9_copy 56 = .ok (.iload_n 2, 1) := by decide +kernel
theorem dX9_copy_57 : decode cX9_copy 57 = .ok (.ifCond .lt 40, 3) := by decide +kernel
theorem dX9_copy_60 : decode cX9_copy 60 = .ok (.iload 4, 2) := by decide +kernel
theorem dX9_copy_62 : decode cX9_copy 62 = .ok (.ifCond .lt 35, 3) := by decide +kernel
theorem dX9_copy_65 : decode cX9_copy 65 = .ok (.iload 5, 2) := by decide +kernel
theorem dX9_copy_67 : decode cX9_copy 67 = .ok (.ifCond .lt 30, 3) := by decide +kernel
theorem dX9_copy_70 : decode cX9_copy 70 = .ok (.iload_n 2, 1) := by decide +kernel
theorem dX9_copy_71 : decode cX9_copy 71 = .ok (.aload_n 0, 1) := by decide +kernel
theorem dX9_copy_72 : decode cX9_copy 72 = .ok (.getfield 54, 3) := by decide +kernel
theorem dX9_copy_75 : decode cX9_copy 75 = .ok (.iload_n 1, 1) := by decide +kernel
theorem dX9_copy_76 : decode cX9_copy 76 = .ok (.iaload, 1) := by decide +kernel
theorem dX9_copy_77 : decode cX9_copy 77 = .ok (.iload 5, 2) := by decide +kernel
theorem dX9_copy_79 : decode cX9_copy 79 = .ok (.isub, 1) := by decide +kernel
theorem dX9_copy_80 : decode cX9_copy 80 = .ok (.if_icmp .gt 17, 3) := by decide +kernel
theorem dX9_copy_83 : decode cX9_copy 83 = .ok (.iload 4, 2) := by decide +kernel
theorem dX9_copy_85 : decode cX9_copy 85 = .ok (.aload_n 0, 1) := by decide +kernel
theorem dX9_copy_86 : decode cX9_copy 86 = .ok (.getfield 54, 3) := by decide +kernel
theorem dX9_copy_89 : decode cX9_copy 89 = .ok (.iload_n 3, 1) := by decide +kernel
theorem dX9_copy_90 : decode cX9_copy 90 = .ok (.iaload, 1) := by decide +kernel
theorem dX9_copy_91 : decode cX9_copy 91 = .ok (.iload 5, 2) := by decide +kernel
theorem dX9_copy_93 : decode cX9_copy 93 = .ok (.isub, 1) := by decide +kernel
theorem dX9_copy_94 : decode cX9_copy 94 = .ok (.if_icmp .le 7, 3) := by decide +kernel
theorem dX9_copy_97 : decode cX9_copy 97 = .ok (.ldc_w 288, 3) := by decide +kernel
theorem dX9_copy_100 : decode cX9_copy 100 = .ok (.ireturn, 1) := by decide +kernel
theorem dX9_copy_101 : decode cX9_copy 101 = .ok (.iconst 0, 1) := by decide +kernel
theorem dX9_copy_102 : decode cX9_copy 102 = .ok (.istore 6, 2) := by decide +kernel
theorem dX9_copy_104 : decode cX9_copy 104 = .ok (.iload 6, 2) := by decide +kernel
theorem dX9_copy_106 : decode cX9_copy 106 = .ok (.iload 5, 2) := by decide +kernel
theorem dX9_copy_108 : decode cX9_copy 108 = .ok (.if_icmp .ge 30, 3) := by decide +kernel
theorem dX9_copy_111 : decode cX9_copy 111 = .ok (.aload_n 0, 1) := by decide +kernel
theorem dX9_copy_112 : decode cX9_copy 112 = .ok (.getfield 72, 3) := by decide +kernel
theorem dX9_copy_115 : decode cX9_copy 115 = .ok (.iload 6, 2) := by decide +kernel
theorem dX9_copy_117 : decode cX9_copy 117 = .ok (.aload_n 0, 1) := by decide +kernel
theorem dX9_copy_118 : decode cX9_copy 118 = .ok (.getfield 57, 3) := by decide +kernel
theorem dX9_copy_121 : decode cX9_copy 121 = .ok (.bipush 24, 2) := by decide +kernel
theorem dX9_copy_123 : decode cX9_copy 123 = .ok (.iload_n 1, 1) := by decide +kernel
theorem dX9_copy_124 : decode cX9_copy 124 = .ok (.imul, 1) := by decide +kernel
theorem dX9_copy_125 : decode cX9_copy 125 = .ok (.iload_n 2, 1) := by decide +kernel
theorem dX9_copy_126 : decode cX9_copy 126 = .ok (.iadd, 1) := by decide +kernel
theorem dX9_copy_127 : decode cX9_copy 127 = .ok (.iload 6, 2) := by decide +kernel
theorem dX9_copy_129 : decode cX9_copy 129 = .ok (.iadd, 1) := by decide +kernel
theorem dX9_copy_130 : decode cX9_copy 130 = .ok (.iaload, 1) := by decide +kernel
theorem dX9_copy_131 : decode cX9_copy 131 = .ok (.iastore, 1) := by decide +kernel
theorem dX9_copy_132 : decode cX9_copy 132 = .ok (.iinc 6 1, 3) := by decide +kernel
theorem dX9_copy_135 : decode cX9_copy 135 = .ok (.goto (-31), 3) := by decide +kernel
theorem dX9_copy_138 : decode cX9_copy 138 = .ok (.iconst 0, 1) := by decide +kernel
theorem dX9_copy_139 : decode cX9_copy 139 = .ok (.istore 6, 2) := by decide +kernel
theorem dX9_copy_141 : decode cX9_copy 141 = .ok (.iload 6, 2) := by decide +kernel
theorem dX9_copy_143 : decode cX9_copy 143 = .ok (.iload 5, 2) := by decide +kernel
theorem dX9_copy_145 : decode cX9_copy 145 = .ok (.if_icmp .ge 31, 3) := by decide +kernel
theorem dX9_copy_148 : decode cX9_copy 148 = .ok (.aload_n 0, 1) := by decide +kernel
theorem dX9_copy_149 : decode cX9_copy 149 = .ok (.getfield 57, 3) := by decide +kernel
theorem dX9_copy_152 : decode cX9_copy 152 = .ok (.bipush 24, 2) := by decide +kernel
theorem dX9_copy_154 : decode cX9_copy 154 = .ok (.iload_n 3, 1) := by decide +kernel
theorem dX9_copy_155 : decode cX9_copy 155 = .ok (.imul, 1) := by decide +kernel
theorem dX9_copy_156 : decode cX9_copy 156 = .ok (.iload 4, 2) := by decide +kernel
theorem dX9_copy_158 : decode cX9_copy 158 = .ok (.iadd, 1) := by decide +kernel
theorem dX9_copy_159 : decode cX9_copy 159 = .ok (.iload 6, 2) := by decide +kernel
theorem dX9_copy_161 : decode cX9_copy 161 = .ok (.iadd, 1) := by decide +kernel
theorem dX9_copy_162 : decode cX9_copy 162 = .ok (.aload_n 0, 1) := by decide +kernel
theorem dX9_copy_163 : decode cX9_copy 163 = .ok (.getfield 72, 3) := by decide +kernel
theorem dX9_copy_166 : decode cX9_copy 166 = .ok (.iload 6, 2) := by decide +kernel
theorem dX9_copy_168 : decode cX9_copy 168 = .ok (.iaload, 1) := by decide +kernel
theorem dX9_copy_169 : decode cX9_copy 169 = .ok (.iastore, 1) := by decide +kernel
theorem dX9_copy_170 : decode cX9_copy 170 = .ok (.iinc 6 1, 3) := by decide +kernel
theorem dX9_copy_173 : decode cX9_copy 173 = .ok (.goto (-32), 3) := by decide +kernel
theorem dX9_copy_176 : decode cX9_copy 176 = .ok (.iload 5, 2) := by decide +kernel
theorem dX9_copy_178 : decode cX9_copy 178 = .ok (.ireturn, 1) := by decide +kernel
theorem dX9_lay_0 : decode cX9_lay 0 = .ok (.iload_n 1, 1) := by decide +kernel
theorem dX9_lay_1 : decode cX9_lay 1 = .ok (.invokestatic 291, 3) := by decide +kernel
theorem dX9_lay_4 : decode cX9_lay 4 = .ok (.ifCond .eq 37, 3) := by decide +kernel
theorem dX9_lay_7 : decode cX9_lay 7 = .ok (.iload_n 2, 1) := by decide +kernel
theorem dX9_lay_8 : decode cX9_lay 8 = .ok (.iconst 0, 1) := by decide +kernel
theorem dX9_lay_9 : decode cX9_lay 9 = .ok (.iconst 3, 1) := by decide +kernel
theorem dX9_lay_10 : decode cX9_lay 10 = .ok (.invokestatic 79, 3) := by decide +kernel
theorem dX9_lay_13 : decode cX9_lay 13 = .ok (.ifCond .eq 28, 3) := by decide +kernel
theorem dX9_lay_16 : decode cX9_lay 16 = .ok (.iload_n 2, 1) := by decide +kernel
theorem dX9_lay_17 : decode cX9_lay 17 = .ok (.iconst 1, 1) := by decide +kernel
theorem dX9_lay_18 : decode cX9_lay 18 = .ok (.if_icmp .ne 11, 3) := by decide +kernel
theorem dX9_lay_21 : decode cX9_lay 21 = .ok (.aload_n 0, 1) := by decide +kernel
theorem dX9_lay_22 : decode cX9_lay 22 = .ok (.iload_n 3, 1) := by decide +kernel
theorem dX9_lay_23 : decode cX9_lay 23 = .ok (.invokevirtual 130, 3) := by decide +kernel
theorem dX9_lay_26 : decode cX9_lay 26 = .ok (.ifCond .eq 15, 3) := by decide +kernel
theorem dX9_lay_29 : decode cX9_lay 29 = .ok (.iload_n 2, 1) := by decide +kernel
theorem dX9_lay_30 : decode cX9_lay 30 = .ok (.iconst 2, 1) := by decide +kernel
theorem dX9_lay_31 : decode cX9_lay 31 = .ok (.if_icmp .ne 13, 3) := by decide +kernel
theorem dX9_lay_34 : decode cX9_lay 34 = .ok (.iload_n 3, 1) := by decide +kernel
theorem dX9_lay_35 : decode cX9_lay 35 = .ok (.invokestatic 217, 3) := by decide +kernel
theorem dX9_lay_38 : decode cX9_lay 38 = .ok (.ifCond .ne 6, 3) := by decide +kernel
theorem dX9_lay_41 : decode cX9_lay 41 = .ok (.ldc 118, 2) := by decide +kernel
theorem dX9_lay_43 : decode cX9_lay 43 = .ok (.ireturn, 1) := by decide +kernel
theorem dX9_lay_44 : decode cX9_lay 44 = .ok (.iload_n 2, 1) := by decide +kernel
theorem dX9_lay_45 : decode cX9_lay 45 = .ok (.iconst 2, 1) := by decide +kernel
theorem dX9_lay_46 : decode cX9_lay 46 = .ok (.if_icmp .ne 15, 3) := by decide +kernel
theorem dX9_lay_49 : decode cX9_lay 49 = .ok (.aload_n 0, 1) := by decide +kernel
theorem dX9_lay_50 : decode cX9_lay 50 = .ok (.getfield 51, 3) := by decide +kernel
theorem dX9_lay_53 : decode cX9_lay 53 = .ok (.iload_n 3, 1) := by decide +kernel
theorem dX9_lay_54 : decode cX9_lay 54 = .ok (.iaload, 1) := by decide +kernel
theorem dX9_lay_55 : decode cX9_lay 55 = .ok (.ifCond .ge 6, 3) := by decide +kernel
theorem dX9_lay_58 : decode cX9_lay 58 = .ok (.ldc 220, 2) := by decide +kernel
theorem dX9_lay_60 : decode cX9_lay 60 = .ok (.ireturn, 1) := by decide +kernel
theorem dX9_lay_61 : decode cX9_lay 61 = .ok (.aload_n 0, 1) := by decide +kernel
theorem dX9_lay_62 : decode cX9_lay 62 = .ok (.getfield 60, 3) := by decide +kernel
theorem dX9_lay_65 : decode cX9_lay 65 = .ok (.iload_n 1, 1) := by decide +kernel
theorem dX9_lay_66 : decode cX9_lay 66 = .ok (.iaload, 1) := by decide +kernel
theorem dX9_lay_67 : decode cX9_lay 67 = .ok (.istore 4, 2) := by decide +kernel
theorem dX9_lay_69 : decode cX9_lay 69 = .ok (.aload_n 0, 1) := by decide +kernel
theorem dX9_lay_70 : decode cX9_lay 70 = .ok (.getfield 60, 3) := by decide +kernel
theorem dX9_lay_73 : decode cX9_lay 73 = .ok (.iload_n 1, 1) := by decide +kernel
theorem dX9_lay_74 : decode cX9_lay 74 = .ok (.iload_n 2, 1) := by decide +kernel
theorem dX9_lay_75 : decode cX9_lay 75 = .ok (.iastore, 1) := by decide +kernel
theorem dX9_lay_76 : decode cX9_lay 76 = .ok (.aload_n 0, 1) := by decide +kernel
theorem dX9_lay_77 : decode cX9_lay 77 = .ok (.getfield 63, 3) := by decide +kernel
theorem dX9_lay_80 : decode cX9_lay 80 = .ok (.iload_n 1, 1) := by decide +kernel
theorem dX9_lay_81 : decode cX9_lay 81 = .ok (.iload_n 2, 1) := by decide +kernel
theorem dX9_lay_82 : decode cX9_lay 82 = .ok (.iconst 1, 1) := by decide +kernel
theorem dX9_lay_83 : decode cX9_lay 83 = .ok (.if_icmp .ne 12, 3) := by decide +kernel
theorem dX9_lay_86 : decode cX9_lay 86 = .ok (.aload_n 0, 1) := by decide +kernel
theorem dX9_lay_87 : decode cX9_lay 87 = .ok (.iload_n 3, 1) := by decide +kernel
theorem dX9_lay_88 : decode cX9_lay 88 = .ok (.iconst 0, 1) := by decide +kernel
theorem dX9_lay_89 : decode cX9_lay 89 = .ok (.invokevirtual 87, 3) := by decide +kernel
theorem dX9_lay_92 : decode cX9_lay 92 = .ok (.goto 18, 3) := by decide +kernel
theorem dX9_lay_95 : decode cX9_lay 95 = .ok (.iload_n 2, 1) := by decide +kernel
theorem dX9_lay_96 : decode cX9_lay 96 = .ok (.iconst 2, 1) := by decide +kernel
theorem dX9_lay_97 : decode cX9_lay 97 = .ok (.if_icmp .ne 12, 3) := by decide +kernel
theorem dX9_lay_100 : decode cX9_lay 100 = .ok (.aload_n 0, 1) := by decide +kernel
theorem dX9_lay_101 : decode cX9_lay 101 = .ok (.getfield 54, 3) := by decide +kernel
theorem dX9_lay_104 : decode cX9_lay 104 = .ok (.iload_n 3, 1) := by decide +kernel
theorem dX9_lay_105 : decode cX9_lay 105 = .ok (.iaload, 1) := by decide +kernel
theorem dX9_lay_106 : decode cX9_lay 106 = .ok (.goto 4, 3) := by decide +kernel
theorem dX9_lay_109 : decode cX9_lay 109 = .ok (.iload_n 3, 1) := by decide +kernel
theorem dX9_lay_110 : decode cX9_lay 110 = .ok (.iastore, 1) := by decide +kernel
theorem dX9_lay_111 : decode cX9_lay 111 = .ok (.aload_n 0, 1) := by decide +kernel
theorem dX9_lay_112 : decode cX9_lay 112 = .ok (.getfield 66, 3) := by decide +kernel
theorem dX9_lay_115 : decode cX9_lay 115 = .ok (.iload_n 1, 1) := by decide +kernel
theorem dX9_lay_116 : decode cX9_lay 116 = .ok (.iload_n 2, 1) := by decide +kernel
theorem dX9_lay_117 : decode cX9_lay 117 = .ok (.iconst 1, 1) := by decide +kernel
theorem dX9_lay_118 : decode cX9_lay 118 = .ok (.if_icmp .ne 11, 3) := by decide +kernel
theorem dX9_lay_121 : decode cX9_lay 121 = .ok (.aload_n 0, 1) := by decide +kernel
theorem dX9_lay_122 : decode cX9_lay 122 = .ok (.iload_n 3, 1) := by decide +kernel
theorem dX9_lay_123 : decode cX9_lay 123 = .ok (.invokevirtual 136, 3) := by decide +kernel
theorem dX9_lay_126 : decode cX9_lay 126 = .ok (.goto 4, 3) := by decide +kernel
theorem dX9_lay_129 : decode cX9_lay 129 = .ok (.iconst 0, 1) := by decide +kernel
theorem dX9_lay_130 : decode cX9_lay 130 = .ok (.iastore, 1) := by decide +kernel
theorem dX9_lay_131 : decode cX9_lay 131 = .ok (.iconst 0, 1) := by decide +kernel
theorem dX9_lay_132 : decode cX9_lay 132 = .ok (.istore 5, 2) := by decide +kernel
theorem dX9_lay_134 : decode cX9_lay 134 = .ok (.iload 5, 2) := by decide +kernel
theorem dX9_lay_136 : decode cX9_lay 136 = .ok (.bipush 24, 2) := by decide +kernel
theorem dX9_lay_138 : decode cX9_lay 138 = .ok (.if_icmp .ge 38, 3) := by decide +kernel
theorem dX9_lay_141 : decode cX9_lay 141 = .ok (.iload_n 2, 1) := by decide +kernel
theorem dX9_lay_142 : decode cX9_lay 142 = .ok (.iconst 2, 1) := by decide +kernel
theorem dX9_lay_143 : decode cX9_lay 143 = .ok (.if_icmp .ne 33, 3) := by decide +kernel
theorem dX9_lay_146 : decode cX9_lay 146 = .ok (.aload_n 0, 1) := by decide +kernel
theorem dX9_lay_147 : decode cX9_lay 147 = .ok (.getfield 69, 3) := by decide +kernel
theorem dX9_lay_150 : decode cX9_lay 150 = .ok (.bipush 24, 2) := by decide +kernel
theorem dX9_lay_152 : decode cX9_lay 152 = .ok (.iload_n 1, 1) := by decide +kernel
theorem dX9_lay_153 : decode cX9_lay 153 = .ok (.imul, 1) := by decide +kernel
theorem dX9_lay_154 : decode cX9_lay 154 = .ok (.iload 5, 2) := by decide +kernel
theorem dX9_lay_156 : decode cX9_lay 156 = .ok (.iadd, 1) := by decide +kernel
theorem dX9_lay_157 : decode cX9_lay 157 = .ok (.aload_n 0, 1) := by decide +kernel
theorem dX9_lay_158 : decode cX9_lay 158 = .ok (.getfield 57, 3) := by decide +kernel
theorem dX9_lay_161 : decode cX9_lay 161 = .ok (.bipush 24, 2) := by decide +kernel
theorem dX9_lay_163 : decode cX9_lay 163 = .ok (.iload_n 3, 1) := by decide +kernel
theorem dX9_lay_164 : decode cX9_lay 164 = .ok (.imul, 1) := by decide +kernel
theorem dX9_lay_165 : decode cX9_lay 165 = .ok (.iload 5, 2) := by decide +kernel
theorem dX9_lay_167 : decode cX9_lay 167 = .ok (.iadd, 1) := by decide +kernel
theorem dX9_lay_168 : decode cX9_lay 168 = .ok (.iaload, 1) := by decide +kernel
theorem dX9_lay_169 : decode cX9_lay 169 = .ok (.iastore, 1) := by decide +kernel
theorem dX9_lay_170 : decode cX9_lay 170 = .ok (.iinc 5 1, 3) := by decide +kernel
theorem dX9_lay_173 : decode cX9_lay 173 = .ok (.goto (-39), 3) := by decide +kernel
theorem dX9_lay_176 : decode cX9_lay 176 = .ok (.iload 4, 2) := by decide +kernel
theorem dX9_lay_178 : decode cX9_lay 178 = .ok (.ireturn, 1) := by decide +kernel
theorem dX9_ask_0 : decode cX9_ask 0 = .ok (.iload_n 1, 1) := by decide +kernel
theorem dX9_ask_1 : decode cX9_ask 1 = .ok (.invokestatic 291, 3) := by decide +kernel
theorem dX9_ask_4 : decode cX9_ask 4 = .ok (.ifCond .eq 12, 3) := by decide +kernel
theorem dX9_ask_7 : decode cX9_ask 7 = .ok (.iload_n 2, 1) := by decide +kernel
theorem dX9_ask_8 : decode cX9_ask 8 = .ok (.iconst 0, 1) := by decide +kernel
theorem dX9_ask_9 : decode cX9_ask 9 = .ok (.iconst 5, 1) := by decide +kernel
theorem dX9_ask_10 : decode cX9_ask 10 = .ok (.invokestatic 79, 3) := by decide +kernel
theorem dX9_ask_13 : decode cX9_ask 13 = .ok (.ifCond .ne 6, 3) := by decide +kernel
theorem dX9_ask_16 : decode cX9_ask 16 = .ok (.ldc 118, 2) := by decide +kernel
theorem dX9_ask_18 : decode cX9_ask 18 = .ok (.ireturn, 1) := by decide +kernel
theorem dX9_ask_19 : decode cX9_ask 19 = .ok (.aload_n 0, 1) := by decide +kernel
theorem dX9_ask_20 : decode cX9_ask 20 = .ok (.getfield 60, 3) := by decide +kernel
theorem dX9_ask_23 : decode cX9_ask 23 = .ok (.iload_n 1, 1) := by decide +kernel
theorem dX9_ask_24 : decode cX9_ask 24 = .ok (.iaload, 1) := by decide +kernel
theorem dX9_ask_25 : decode cX9_ask 25 = .ok (.ifCond .ne 6, 3) := by decide +kernel
theorem dX9_ask_28 : decode cX9_ask 28 = .ok (.ldc 220, 2) := by decide +kernel
theorem dX9_ask_30 : decode cX9_ask 30 = .ok (.ireturn, 1) := by decide +kernel
theorem dX9_ask_31 : decode cX9_ask 31 = .ok (.aload_n 0, 1) := by decide +kernel
theorem dX9_ask_32 : decode cX9_ask 32 = .ok (.getfield 60, 3) := by decide +kernel
theorem dX9_ask_35 : decode cX9_ask 35 = .ok (.iload_n 1, 1) := by decide +kernel
theorem dX9_ask_36 : decode cX9_ask 36 = .ok (.iaload, 1) := by decide +kernel
theorem dX9_ask_37 : decode cX9_ask 37 = .ok (.iconst 1, 1) := by decide +kernel
theorem dX9_ask_38 : decode cX9_ask 38 = .ok (.if_icmp .ne 25, 3) := by decide +kernel
theorem dX9_ask_41 : decode cX9_ask 41 = .ok (.aload_n 0, 1) := by decide +kernel
theorem dX9_ask_42 : decode cX9_ask 42 = .ok (.getfield 63, 3) := by decide +kernel
theorem dX9_ask_45 : decode cX9_ask 45 = .ok (.iload_n 1, 1) := by decide +kernel
theorem dX9_ask_46 : decode cX9_ask 46 = .ok (.iaload, 1) := by decide +kernel
theorem dX9_ask_47 : decode cX9_ask 47 = .ok (.iload_n 2, 1) := by decide +kernel
theorem dX9_ask_48 : decode cX9_ask 48 = .ok (.invokestatic 139, 3) := by decide +kernel
theorem dX9_ask_51 : decode cX9_ask 51 = .ok (.ifCond .eq 12, 3) := by decide +kernel
theorem dX9_ask_54 : decode cX9_ask 54 = .ok (.aload_n 0, 1) := by decide +kernel
theorem dX9_ask_55 : decode cX9_ask 55 = .ok (.getfield 66, 3) := by decide +kernel
theorem dX9_ask_58 : decode cX9_ask 58 = .ok (.iload_n 1, 1) := by decide +kernel
theorem dX9_ask_59 : decode cX9_ask 59 = .ok (.iaload, 1) := by decide +kernel
theorem dX9_ask_60 : decode cX9_ask 60 = .ok (.goto 5, 3) := by decide +kernel
theorem dX9_ask_63 : decode cX9_ask 63 = .ok (.ldc 142, 2) := by decide +kernel
theorem dX9_ask_65 : decode cX9_ask 65 = .ok (.ireturn, 1) := by decide +kernel
theorem dX9_item_0 : decode cX9_item 0 = .ok (.iload_n 1, 1) := by decide +kernel
theorem dX9_item_1 : decode cX9_item 1 = .ok (.invokestatic 291, 3) := by decide +kernel
theorem dX9_item_4 : decode cX9_item 4 = .ok (.ifCond .ne 6, 3) := by decide +kernel
theorem dX9_item_7 : decode cX9_item 7 = .ok (.ldc 118, 2) := by decide +kernel
theorem dX9_item_9 : decode cX9_item 9 = .ok (.ireturn, 1) := by decide +kernel
theorem dX9_item_10 : decode cX9_item 10 = .ok (.aload_n 0, 1) := by decide +kernel
theorem dX9_item_11 : decode cX9_item 11 = .ok (.getfield 60, 3) := by decide +kernel
theorem dX9_item_14 : decode cX9_item 14 = .ok (.iload_n 1, 1) := by decide +kernel
theorem dX9_item_15 : decode cX9_item 15 = .ok (.iaload, 1) := by decide +kernel
theorem dX9_item_16 : decode cX9_item 16 = .ok (.ifCond .ne 6, 3) := by decide +kernel
theorem dX9_item_19 : decode cX9_item 19 = .ok (.ldc 220, 2) := by decide +kernel
theorem dX9_item_21 : decode cX9_item 21 = .ok (.ireturn, 1) := by decide +kernel
theorem dX9_item_22 : decode cX9_item 22 = .ok (.aload_n 0, 1) := by decide +kernel
theorem dX9_item_23 : decode cX9_item 23 = .ok (.getfield 60, 3) := by decide +kernel
theorem dX9_item_26 : decode cX9_item 26 = .ok (.iload_n 1, 1) := by decide +kernel
theorem dX9_item_27 : decode cX9_item 27 = .ok (.iaload, 1) := by decide +kernel
theorem dX9_item_28 : decode cX9_item 28 = .ok (.iconst 2, 1) := by decide +kernel
theorem dX9_item_29 : decode cX9_item 29 = .ok (.if_icmp .eq 6, 3) := by decide +kernel
theorem dX9_item_32 : decode cX9_item 32 = .ok (.ldc 142, 2) := by decide +kernel
theorem dX9_item_34 : decode cX9_item 34 = .ok (.ireturn, 1) := by decide +kernel
theorem dX9_item_35 : decode cX9_item 35 = .ok (.iload_n 2, 1) := by decide +kernel
theorem dX9_item_36 : decode cX9_item 36 = .ok (.iconst 0, 1) := by decide +kernel
theorem dX9_item_37 : decode cX9_item 37 = .ok (.aload_n 0, 1) := by decide +kernel
theorem dX9_item_38 : decode cX9_item 38 = .ok (.getfield 63, 3) := by decide +kernel
theorem dX9_item_41 : decode cX9_item 41 = .ok (.iload_n 1, 1) := by decide +kernel
theorem dX9_item_42 : decode cX9_item 42 = .ok (.iaload, 1) := by decide +kernel
theorem dX9_item_43 : decode cX9_item 43 = .ok (.iconst 1, 1) := by decide +kernel
theorem dX9_item_44 : decode cX9_item 44 = .ok (.isub, 1) := by decide +kernel
theorem dX9_item_45 : decode cX9_item 45 = .ok (.invokestatic 79, 3) := by decide +kernel
theorem dX9_item_48 : decode cX9_item 48 = .ok (.ifCond .ne 7, 3) := by decide +kernel
theorem dX9_item_51 : decode cX9_item 51 = .ok (.ldc_w 288, 3) := by decide +kernel
theorem dX9_item_54 : decode cX9_item 54 = .ok (.ireturn, 1) := by decide +kernel
theorem dX9_item_55 : decode cX9_item 55 = .ok (.aload_n 0, 1) := by decide +kernel
theorem dX9_item_56 : decode cX9_item 56 = .ok (.getfield 69, 3) := by decide +kernel
theorem dX9_item_59 : decode cX9_item 59 = .ok (.bipush 24, 2) := by decide +kernel
theorem dX9_item_61 : decode cX9_item 61 = .ok (.iload_n 1, 1) := by decide +kernel
theorem dX9_item_62 : decode cX9_item 62 = .ok (.imul, 1) := by decide +kernel
theorem dX9_item_63 : decode cX9_item 63 = .ok (.iload_n 2, 1) := by decide +kernel
theorem dX9_item_64 : decode cX9_item 64 = .ok (.iadd, 1) := by decide +kernel
theorem dX9_item_65 : decode cX9_item 65 = .ok (.iaload, 1) := by decide +kernel
theorem dX9_item_66 : decode cX9_item 66 = .ok (.istore_n 3, 1) := by decide +kernel
theorem dX9_item_67 : decode cX9_item 67 = .ok (.iload_n 3, 1) := by decide +kernel
theorem dX9_item_68 : decode cX9_item 68 = .ok (.ldc 78, 2) := by decide +kernel
theorem dX9_item_70 : decode cX9_item 70 = .ok (.if_icmp .ne 8, 3) := by decide +kernel
theorem dX9_item_73 : decode cX9_item 73 = .ok (.ldc 142, 2) := by decide +kernel
theorem dX9_item_75 : decode cX9_item 75 = .ok (.goto 4, 3) := by decide +kernel
theorem dX9_item_78 : decode cX9_item 78 = .ok (.iload_n 3, 1) := by decide +kernel
theorem dX9_item_79 : decode cX9_item 79 = .ok (.ireturn, 1) := by decide +kernel
theorem dX9_rest_0 : decode cX9_rest 0 = .ok (.iload_n 1, 1) := by decide +kernel
theorem dX9_rest_1 : decode cX9_rest 1 = .ok (.invokestatic 291, 3) := by decide +kernel
theorem dX9_rest_4 : decode cX9_rest 4 = .ok (.ifCond .ne 6, 3) := by decide +kernel
theorem dX9_rest_7 : decode cX9_rest 7 = .ok (.ldc 118, 2) := by decide +kernel
theorem dX9_rest_9 : decode cX9_rest 9 = .ok (.ireturn, 1) := by decide +kernel
theorem dX9_rest_10 : decode cX9_rest 10 = .ok (.aload_n 0, 1) := by decide +kernel
theorem dX9_rest_11 : decode cX9_rest 11 = .ok (.getfield 60, 3) := by decide +kernel
theorem dX9_rest_14 : decode cX9_rest 14 = .ok (.iload_n 1, 1) := by decide +kernel
theorem dX9_rest_15 : decode cX9_rest 15 = .ok (.iaload, 1) := by decide +kernel
theorem dX9_rest_16 : decode cX9_rest 16 = .ok (.ifCond .ne 6, 3) := by decide +kernel
theorem dX9_rest_19 : decode cX9_rest 19 = .ok (.ldc 220, 2) := by decide +kernel
theorem dX9_rest_21 : decode cX9_rest 21 = .ok (.ireturn, 1) := by decide +kernel
theorem dX9_rest_22 : decode cX9_rest 22 = .ok (.aload_n 0, 1) := by decide +kernel
theorem dX9_rest_23 : decode cX9_rest 23 = .ok (.getfield 60, 3) := by decide +kernel
theorem dX9_rest_26 : decode cX9_rest 26 = .ok (.iload_n 1, 1) := by decide +kernel
theorem dX9_rest_27 : decode cX9_rest 27 = .ok (.iaload, 1) := by decide +kernel
theorem dX9_rest_28 : decode cX9_rest 28 = .ok (.iconst 3, 1) := by decide +kernel
theorem dX9_rest_29 : decode cX9_rest 29 = .ok (.if_icmp .eq 6, 3) := by decide +kernel
theorem dX9_rest_32 : decode cX9_rest 32 = .ok (.ldc 142, 2) := by decide +kernel
theorem dX9_rest_34 : decode cX9_rest 34 = .ok (.ireturn, 1) := by decide +kernel
theorem dX9_rest_35 : decode cX9_rest 35 = .ok (.iload_n 2, 1) := by decide +kernel
theorem dX9_rest_36 : decode cX9_rest 36 = .ok (.ifCond .ne 8, 3) := by decide +kernel
theorem dX9_rest_39 : decode cX9_rest 39 = .ok (.ldc 143, 2) := by decide +kernel
theorem dX9_rest_41 : decode cX9_rest 41 = .ok (.goto 20, 3) := by decide +kernel
theorem dX9_rest_44 : decode cX9_rest 44 = .ok (.iload_n 2, 1) := by decide +kernel
theorem dX9_rest_45 : decode cX9_rest 45 = .ok (.iconst (-1), 1) := by decide +kernel
theorem dX9_rest_46 : decode cX9_rest 46 = .ok (.if_icmp .ne 7, 3) := by decide +kernel
theorem dX9_rest_49 : decode cX9_rest 49 = .ok (.iconst 0, 1) := by decide +kernel
theorem dX9_rest_50 : decode cX9_rest 50 = .ok (.goto 11, 3) := by decide +kernel
theorem dX9_rest_53 : decode cX9_rest 53 = .ok (.aload_n 0, 1) := by decide +kernel
theorem dX9_rest_54 : decode cX9_rest 54 = .ok (.getfield 63, 3) := by decide +kernel
theorem dX9_rest_57 : decode cX9_rest 57 = .ok (.iload_n 1, 1) := by decide +kernel
theorem dX9_rest_58 : decode cX9_rest 58 = .ok (.iaload, 1) := by decide +kernel
theorem dX9_rest_59 : decode cX9_rest 59 = .ok (.iload_n 2, 1) := by decide +kernel
theorem dX9_rest_60 : decode cX9_rest 60 = .ok (.irem, 1) := by decide +kernel
theorem dX9_rest_61 : decode cX9_rest 61 = .ok (.ireturn, 1) := by decide +kernel
theorem dX9_tell_0 : decode cX9_tell 0 = .ok (.aload_n 0, 1) := by decide +kernel
theorem dX9_tell_1 : decode cX9_tell 1 = .ok (.getfield 294, 3) := by decide +kernel
theorem dX9_tell_4 : decode cX9_tell 4 = .ok (.bipush 60, 2) := by decide +kernel
theorem dX9_tell_6 : decode cX9_tell 6 = .ok (.if_icmp .ne 6, 3) := by decide +kernel
theorem dX9_tell_9 : decode cX9_tell 9 = .ok (.ldc 126, 2) := by decide +kernel
theorem dX9_tell_11 : decode cX9_tell 11 = .ok (.ireturn, 1) := by decide +kernel
theorem dX9_tell_12 : decode cX9_tell 12 = .ok (.aload_n 0, 1) := by decide +kernel
theorem dX9_tell_13 : decode cX9_tell 13 = .ok (.getfield 75, 3) := by decide +kernel
theorem dX9_tell_16 : decode cX9_tell 16 = .ok (.aload_n 0, 1) := by decide +kernel
theorem dX9_tell_17 : decode cX9_tell 17 = .ok (.getfield 294, 3) := by decide +kernel
theorem dX9_tell_20 : decode cX9_tell 20 = .ok (.iload_n 1, 1) := by decide +kernel
theorem dX9_tell_21 : decode cX9_tell 21 = .ok (.iastore, 1) := by decide +kernel
theorem dX9_tell_22 : decode cX9_tell 22 = .ok (.aload_n 0, 1) := by decide +kernel
theorem dX9_tell_23 : decode cX9_tell 23 = .ok (.dup, 1) := by decide +kernel
theorem dX9_tell_24 : decode cX9_tell 24 = .ok (.getfield 294, 3) := by decide +kernel
theorem dX9_tell_27 : decode cX9_tell 27 = .ok (.iconst 1, 1) := by decide +kernel
theorem dX9_tell_28 : decode cX9_tell 28 = .ok (.iadd, 1) := by decide +kernel
theorem dX9_tell_29 : decode cX9_tell 29 = .ok (.putfield 294, 3) := by decide +kernel
theorem dX9_tell_32 : decode cX9_tell 32 = .ok (.aload_n 0, 1) := by decide +kernel
theorem dX9_tell_33 : decode cX9_tell 33 = .ok (.getfield 294, 3) := by decide +kernel
theorem dX9_tell_36 : decode cX9_tell 36 = .ok (.ireturn, 1) := by decide +kernel
theorem dX9_check_0 : decode cX9_check 0 = .ok (.aload_n 0, 1) := by decide +kernel
theorem dX9_check_1 : decode cX9_check 1 = .ok (.getfield 294, 3) := by decide +kernel
theorem dX9_check_4 : decode cX9_check 4 = .ok (.istore_n 2, 1) := by decide +kernel
theorem dX9_check_5 : decode cX9_check 5 = .ok (.aload_n 0, 1) := by decide +kernel
theorem dX9_check_6 : decode cX9_check 6 = .ok (.iconst 0, 1) := by decide +kernel
theorem dX9_check_7 : decode cX9_check 7 = .ok (.putfield 294, 3) := by decide +kernel
theorem dX9_check_10 : decode cX9_check 10 = .ok (.iload_n 1, 1) := by decide +kernel
theorem dX9_check_11 : decode cX9_check 11 = .ok (.iconst 1, 1) := by decide +kernel
theorem dX9_check_12 : decode cX9_check 12 = .ok (.bipush 30, 2) := by decide +kernel
theorem dX9_check_14 : decode cX9_check 14 = .ok (.invokestatic 79, 3) := by decide +kernel
theorem dX9_check_17 : decode cX9_check 17 = .ok (.ifCond .ne 6, 3) := by decide +kernel
theorem dX9_check_20 : decode cX9_check 20 = .ok (.ldc 118, 2) := by decide +kernel
theorem dX9_check_22 : decode cX9_check 22 = .ok (.ireturn, 1) := by decide +kernel
theorem dX9_check_23 : decode cX9_check 23 = .ok (.aload_n 0, 1) := by decide +kernel
theorem dX9_check_24 : decode cX9_check 24 = .ok (.getfield 297, 3) := by decide +kernel
theorem dX9_check_27 : decode cX9_check 27 = .ok (.ifCond .ne 6, 3) := by decide +kernel
theorem dX9_check_30 : decode cX9_check 30 = .ok (.ldc 143, 2) := by decide +kernel
theorem dX9_check_32 : decode cX9_check 32 = .ok (.ireturn, 1) := by decide +kernel
theorem dX9_check_33 : decode cX9_check 33 = .ok (.aload_n 0, 1) := by decide +kernel
theorem dX9_check_34 : decode cX9_check 34 = .ok (.getfield 9, 3) := by decide +kernel
theorem dX9_check_37 : decode cX9_check 37 = .ok (.aload_n 0, 1) := by decide +kernel
theorem dX9_check_38 : decode cX9_check 38 = .ok (.getfield 16, 3) := by decide +kernel
theorem dX9_check_41 : decode cX9_check 41 = .ok (.invokestatic 301, 3) := by decide +kernel
theorem dX9_check_44 : decode cX9_check 44 = .ok (.aload_n 0, 1) := by decide +kernel
theorem dX9_check_45 : decode cX9_check 45 = .ok (.getfield 13, 3) := by decide +kernel
theorem dX9_check_48 : decode cX9_check 48 = .ok (.aload_n 0, 1) := by decide +kernel
theorem dX9_check_49 : decode cX9_check 49 = .ok (.getfield 9, 3) := by decide +kernel
theorem dX9_check_52 : decode cX9_check 52 = .ok (.invokestatic 301, 3) := by decide +kernel
theorem dX9_check_55 : decode cX9_check 55 = .ok (.iconst 2, 1) := by decide +kernel
theorem dX9_check_56 : decode cX9_check 56 = .ok (.sipush 9999, 3) := by decide +kernel
theorem dX9_check_59 : decode cX9_check 59 = .ok (.aload_n 0, 1) := by decide +kernel
theorem dX9_check_60 : decode cX9_check 60 = .ok (.getfield 9, 3) := by decide +kernel
theorem dX9_check_63 : decode cX9_check 63 = .ok (.iconst 5, 1) := by decide +kernel
theorem dX9_check_64 : decode cX9_check 64 = .ok (.iaload, 1) := by decide +kernel
theorem dX9_check_65 : decode cX9_check 65 = .ok (.isub, 1) := by decide +kernel
theorem dX9_check_66 : decode cX9_check 66 = .ok (.iconst 0, 1) := by decide +kernel
theorem dX9_check_67 : decode cX9_check 67 = .ok (.iload_n 1, 1) := by decide +kernel
theorem dX9_check_68 : decode cX9_check 68 = .ok (.invokestatic 153, 3) := by decide +kernel
theorem dX9_check_71 : decode cX9_check 71 = .ok (.imul, 1) := by decide +kernel
theorem dX9_check_72 : decode cX9_check 72 = .ok (.istore_n 3, 1) := by decide +kernel
theorem dX9_check_73 : decode cX9_check 73 = .ok (.iconst 0, 1) := by decide +kernel
theorem dX9_check_74 : decode cX9_check 74 = .ok (.istore 4, 2) := by decide +kernel
theorem dX9_check_76 : decode cX9_check 76 = .ok (.iconst 0, 1) := by decide +kernel
theorem dX9_check_77 : decode cX9_check 77 = .ok (.istore 5, 2) := by decide +kernel
theorem dX9_check_79 : decode cX9_check 79 = .ok (.iconst 2, 1) := by decide +kernel
theorem dX9_check_80 : decode cX9_check 80 = .ok (.iload 5, 2) := by decide +kernel
theorem dX9_check_82 : decode cX9_check 82 = .ok (.imul, 1) := by decide +kernel
theorem dX9_check_83 : decode cX9_check 83 = .ok (.iload_n 3, 1) := by decide +kernel
theorem dX9_check_84 : decode cX9_check 84 = .ok (.if_icmp .ge 96, 3) := by decide +kernel
theorem dX9_check_87 : decode cX9_check 87 = .ok (.iload 4, 2) := by decide +kernel
theorem dX9_check_89 : decode cX9_check 89 = .ok (.iconst 2, 1) := by decide +kernel
theorem dX9_check_90 : decode cX9_check 90 = .ok (.iload 5, 2) := by decide +kernel
theorem dX9_check_92 : decode cX9_check 92 = .ok (.imul, 1) := by decide +kernel
theorem dX9_check_93 : decode cX9_check 93 = .ok (.if_icmp .ne 87, 3) := by decide +kernel
theorem dX9_check_96 : decode cX9_check 96 = .ok (.aload_n 0, 1) := by decide +kernel
theorem dX9_check_97 : decode cX9_check 97 = .ok (.invokevirtual 186, 3) := by decide +kernel
theorem dX9_check_100 : decode cX9_check 100 = .ok (.iload 4, 2) := by decide +kernel
theorem dX9_check_102 : decode cX9_check 102 = .ok (.iload 4, 2) := by decide +kernel
theorem dX9_check_104 : decode cX9_check 104 = .ok (.iload_n 2, 1) := by decide +kernel
theorem dX9_check_105 : decode cX9_check 105 = .ok (.if_icmp .ge 21, 3) := by decide +kernel
theorem dX9_check_108 : decode cX9_check 108 = .ok (.aload_n 0, 1) := by decide +kernel
theorem dX9_check_109 : decode cX9_check 109 = .ok (.getfield 75, 3) := by decide +kernel
theorem dX9_check_112 : decode cX9_check 112 = .ok (.iload 4, 2) := by decide +kernel
theorem dX9_check_114 : decode cX9_check 114 = .ok (.iaload, 1) := by decide +kernel
theorem dX9_check_115 : decode cX9_check 115 = .ok (.aload_n 0, 1) := by decide +kernel
theorem dX9_check_116 : decode cX9_check 116 = .ok (.invokevirtual 111, 3) := by decide +kernel
theorem dX9_check_119 : decode cX9_check 119 = .ok (.if_icmp .ne 7, 3) := by decide +kernel
theorem dX9_check_122 : decode cX9_check 122 = .ok (.iconst 1, 1) := by decide +kernel
theorem dX9_check_123 : decode cX9_check 123 = .ok (.goto 4, 3) := by decide +kernel
theorem dX9_check_126 : decode cX9_check 126 = .ok (.iconst 0, 1) := by decide +kernel
theorem dX9_check_127 : decode cX9_check 127 = .ok (.iadd, 1) := by decide +kernel
theorem dX9_check_128 : decode cX9_check 128 = .ok (.istore 4, 2) := by decide +kernel
theorem dX9_check_130 : decode cX9_check 130 = .ok (.iload 4, 2) := by decide +kernel
theorem dX9_check_132 : decode cX9_check 132 = .ok (.iload 4, 2) := by decide +kernel
theorem dX9_check_134 : decode cX9_check 134 = .ok (.iconst 2, 1) := by decide +kernel
theorem dX9_check_135 : decode cX9_check 135 = .ok (.iload 5, 2) := by decide +kernel
theorem dX9_check_137 : decode cX9_check 137 = .ok (.imul, 1) := by decide +kernel
theorem dX9_check_138 : decode cX9_check 138 = .ok (.iconst 1, 1) := by decide +kernel
theorem dX9_check_139 : decode cX9_check 139 = .ok (.iadd, 1) := by decide +kernel
theorem dX9_check_140 : decode cX9_check 140 = .ok (.if_icmp .ne 30, 3) := by decide +kernel
theorem dX9_check_143 : decode cX9_check 143 = .ok (.iload 4, 2) := by decide +kernel
theorem dX9_check_145 : decode cX9_check 145 = .ok (.iload_n 2, 1) := by decide +kernel
theorem dX9_check_146 : decode cX9_check 146 = .ok (.if_icmp .ge 24, 3) := by decide +kernel
theorem dX9_check_149 : decode cX9_check 149 = .ok (.aload_n 0, 1) := by decide +kernel
theorem dX9_check_150 : decode cX9_check 150 = .ok (.getfield 75, 3) := by decide +kernel
theorem dX9_check_153 : decode cX9_check 153 = .ok (.iload 4, 2) := by decide +kernel
theorem dX9_check_155 : decode cX9_check 155 = .ok (.iaload, 1) := by decide +kernel
theorem dX9_check_156 : decode cX9_check 156 = .ok (.aload_n 0, 1) := by decide +kernel
theorem dX9_check_157 : decode cX9_check 157 = .ok (.getfield 9, 3) := by decide +kernel
theorem dX9_check_160 : decode cX9_check 160 = .ok (.bipush 10, 2) := by decide +kernel
theorem dX9_check_162 : decode cX9_check 162 = .ok (.iaload, 1) := by decide +kernel
theorem dX9_check_163 : decode cX9_check 163 = .ok (.if_icmp .ne 7, 3) := by decide +kernel
theorem dX9_check_166 : decode cX9_check 166 = .ok (.iconst 1, 1) := by decide +kernel
theorem dX9_check_167 : decode cX9_check 167 = .ok (.goto 4, 3) := by decide +kernel
theorem dX9_check_170 : decode cX9_check 170 = .ok (.iconst 0, 1) := by decide +kernel
theorem dX9_check_171 : decode cX9_check 171 = .ok (.iadd, 1) := by decide +kernel
theorem dX9_check_172 : decode cX9_check 172 = .ok (.istore 4, 2) := by decide +kernel
theorem dX9_check_174 : decode cX9_check 174 = .ok (.iinc 5 1, 3) := by decide +kernel
theorem dX9_check_177 : decode cX9_check 177 = .ok (.goto (-98), 3) := by decide +kernel
theorem dX9_check_180 : decode cX9_check 180 = .ok (.aload_n 0, 1) := by decide +kernel
theorem dX9_check_181 : decode cX9_check 181 = .ok (.getfield 16, 3) := by decide +kernel
theorem dX9_check_184 : decode cX9_check 184 = .ok (.aload_n 0, 1) := by decide +kernel
theorem dX9_check_185 : decode cX9_check 185 = .ok (.getfield 9, 3) := by decide +kernel
theorem dX9_check_188 : decode cX9_check 188 = .ok (.invokestatic 301, 3) := by decide +kernel
theorem dX9_check_191 : decode cX9_check 191 = .ok (.iload 4, 2) := by decide +kernel
theorem dX9_check_193 : decode cX9_check 193 = .ok (.iload_n 2, 1) := by decide +kernel
theorem dX9_check_194 : decode cX9_check 194 = .ok (.if_icmp .ne 13, 3) := by decide +kernel
theorem dX9_check_197 : decode cX9_check 197 = .ok (.iload 4, 2) := by decide +kernel
theorem dX9_check_199 : decode cX9_check 199 = .ok (.iload_n 3, 1) := by decide +kernel
theorem dX9_check_200 : decode cX9_check 200 = .ok (.if_icmp .ne 7, 3) := by decide +kernel
theorem dX9_check_203 : decode cX9_check 203 = .ok (.iconst 0, 1) := by decide +kernel
theorem dX9_check_204 : decode cX9_check 204 = .ok (.goto 7, 3) := by decide +kernel
theorem dX9_check_207 : decode cX9_check 207 = .ok (.iconst 1, 1) := by decide +kernel
theorem dX9_check_208 : decode cX9_check 208 = .ok (.iload 4, 2) := by decide +kernel
theorem dX9_check_210 : decode cX9_check 210 = .ok (.iadd, 1) := by decide +kernel
theorem dX9_check_211 : decode cX9_check 211 = .ok (.ireturn, 1) := by decide +kernel
theorem dX9_keep_0 : decode cX9_keep 0 = .ok (.aload_n 0, 1) := by decide +kernel
theorem dX9_keep_1 : decode cX9_keep 1 = .ok (.getfield 9, 3) := by decide +kernel
theorem dX9_keep_4 : decode cX9_keep 4 = .ok (.aload_n 0, 1) := by decide +kernel
theorem dX9_keep_5 : decode cX9_keep 5 = .ok (.getfield 13, 3) := by decide +kernel
theorem dX9_keep_8 : decode cX9_keep 8 = .ok (.invokestatic 301, 3) := by decide +kernel
theorem dX9_keep_11 : decode cX9_keep 11 = .ok (.aload_n 0, 1) := by decide +kernel
theorem dX9_keep_12 : decode cX9_keep 12 = .ok (.iconst 1, 1) := by decide +kernel
theorem dX9_keep_13 : decode cX9_keep 13 = .ok (.putfield 297, 3) := by decide +kernel
theorem dX9_keep_16 : decode cX9_keep 16 = .ok (.aload_n 0, 1) := by decide +kernel
theorem dX9_keep_17 : decode cX9_keep 17 = .ok (.getfield 9, 3) := by decide +kernel
theorem dX9_keep_20 : decode cX9_keep 20 = .ok (.iconst 1, 1) := by decide +kernel
theorem dX9_keep_21 : decode cX9_keep 21 = .ok (.iaload, 1) := by decide +kernel
theorem dX9_keep_22 : decode cX9_keep 22 = .ok (.ireturn, 1) := by decide +kernel
theorem dX9_back_0 : decode cX9_back 0 = .ok (.aload_n 0, 1) := by decide +kernel
theorem dX9_back_1 : decode cX9_back 1 = .ok (.getfield 297, 3) := by decide +kernel
theorem dX9_back_4 : decode cX9_back 4 = .ok (.ifCond .ne 6, 3) := by decide +kernel
theorem dX9_back_7 : decode cX9_back 7 = .ok (.ldc 143, 2) := by decide +kernel
theorem dX9_back_9 : decode cX9_back 9 = .ok (.ireturn, 1) := by decide +kernel
theorem dX9_back_10 : decode cX9_back 10 = .ok (.aload_n 0, 1) := by decide +kernel
theorem dX9_back_11 : decode cX9_back 11 = .ok (.getfield 13, 3) := by decide +kernel
theorem dX9_back_14 : decode cX9_back 14 = .ok (.aload_n 0, 1) := by decide +kernel
theorem dX9_back_15 : decode cX9_back 15 = .ok (.getfield 9, 3) := by decide +kernel
theorem dX9_back_18 : decode cX9_back 18 = .ok (.invokestatic 301, 3) := by decide +kernel
theorem dX9_back_21 : decode cX9_back 21 = .ok (.aload_n 0, 1) := by decide +kernel
theorem dX9_back_22 : decode cX9_back 22 = .ok (.getfield 9, 3) := by decide +kernel
theorem dX9_back_25 : decode cX9_back 25 = .ok (.iconst 1, 1) := by decide +kernel
theorem dX9_back_26 : decode cX9_back 26 = .ok (.iaload, 1) := by decide +kernel
theorem dX9_back_27 : decode cX9_back 27 = .ok (.ireturn, 1) := by decide +kernel
theorem dX9_count_0 : decode cX9_count 0 = .ok (.iload_n 1, 1) := by decide +kernel
theorem dX9_count_1 : decode cX9_count 1 = .ok (.iconst 1, 1) := by decide +kernel
theorem dX9_count_2 : decode cX9_count 2 = .ok (.bipush 8, 2) := by decide +kernel
theorem dX9_count_4 : decode cX9_count 4 = .ok (.invokestatic 79, 3) := by decide +kernel
theorem dX9_count_7 : decode cX9_count 7 = .ok (.ifCond .eq 14, 3) := by decide +kernel
theorem dX9_count_10 : decode cX9_count 10 = .ok (.aload_n 0, 1) := by decide +kernel
theorem dX9_count_11 : decode cX9_count 11 = .ok (.getfield 9, 3) := by decide +kernel
theorem dX9_count_14 : decode cX9_count 14 = .ok (.iconst 2, 1) := by decide +kernel
theorem dX9_count_15 : decode cX9_count 15 = .ok (.iload_n 1, 1) := by decide +kernel
theorem dX9_count_16 : decode cX9_count 16 = .ok (.iadd, 1) := by decide +kernel
theorem dX9_count_17 : decode cX9_count 17 = .ok (.iconst 1, 1) := by decide +kernel
theorem dX9_count_18 : decode cX9_count 18 = .ok (.isub, 1) := by decide +kernel
theorem dX9_count_19 : decode cX9_count 19 = .ok (.iaload, 1) := by decide +kernel
theorem dX9_count_20 : decode cX9_count 20 = .ok (.ireturn, 1) := by decide +kernel
theorem dX9_count_21 : decode cX9_count 21 = .ok (.iload_n 1, 1) := by decide +kernel
theorem dX9_count_22 : decode cX9_count 22 = .ok (.tableswitch 98 0 12 #[66, 98, 98, 98, 98, 98, 98, 98, 98, 73, 81, 86, 91], 66) := by decide +kernel
theorem dX9_count_88 : decode cX9_count 88 = .ok (.aload_n 0, 1) := by decide +kernel
theorem dX9_count_89 : decode cX9_count 89 = .ok (.getfield 9, 3) := by decide +kernel
theorem dX9_count_92 : decode cX9_count 92 = .ok (.iconst 1, 1) := by decide +kernel
theorem dX9_count_93 : decode cX9_count 93 = .ok (.iaload, 1) := by decide +kernel
theorem dX9_count_94 : decode cX9_count 94 = .ok (.ireturn, 1) := by decide +kernel
theorem dX9_count_95 : decode cX9_count 95 = .ok (.aload_n 0, 1) := by decide +kernel
theorem dX9_count_96 : decode cX9_count 96 = .ok (.getfield 9, 3) := by decide +kernel
theorem dX9_count_99 : decode cX9_count 99 = .ok (.bipush 11, 2) := by decide +kernel
theorem dX9_count_101 : decode cX9_count 101 = .ok (.iaload, 1) := by decide +kernel
theorem dX9_count_102 : decode cX9_count 102 = .ok (.ireturn, 1) := by decide +kernel
theorem dX9_count_103 : decode cX9_count 103 = .ok (.aload_n 0, 1) := by decide +kernel
theorem dX9_count_104 : decode cX9_count 104 = .ok (.getfield 294, 3) := by decide +kernel
theorem dX9_count_107 : decode cX9_count 107 = .ok (.ireturn, 1) := by decide +kernel
theorem dX9_count_108 : decode cX9_count 108 = .ok (.aload_n 0, 1) := by decide +kernel
theorem dX9_count_109 : decode cX9_count 109 = .ok (.getfield 221, 3) := by decide +kernel
theorem dX9_count_112 : decode cX9_count 112 = .ok (.ireturn, 1) := by decide +kernel
theorem dX9_count_113 : decode cX9_count 113 = .ok (.aload_n 0, 1) := by decide +kernel
theorem dX9_count_114 : decode cX9_count 114 = .ok (.getfield 9, 3) := by decide +kernel
theorem dX9_count_117 : decode cX9_count 117 = .ok (.iconst 0, 1) := by decide +kernel
theorem dX9_count_118 : decode cX9_count 118 = .ok (.iaload, 1) := by decide +kernel
theorem dX9_count_119 : decode cX9_count 119 = .ok (.ireturn, 1) := by decide +kernel
theorem dX9_count_120 : decode cX9_count 120 = .ok (.ldc 118, 2) := by decide +kernel
theorem dX9_count_122 : decode cX9_count 122 = .ok (.ireturn, 1) := by decide +kernel

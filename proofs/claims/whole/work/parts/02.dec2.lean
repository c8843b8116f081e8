theorem d_M_init_0 : decode c_M_init 0 = .ok (.aload_n 0, 1) := by decide +kernel
theorem d_M_init_1 : decode c_M_init 1 = .ok (.invokespecial 1, 3) := by decide +kernel
theorem d_M_init_4 : decode c_M_init 4 = .ok (.aload_n 0, 1) := by decide +kernel
theorem d_M_init_5 : decode c_M_init 5 = .ok (.sipush 499, 3) := by decide +kernel
theorem d_M_init_8 : decode c_M_init 8 = .ok (.newarray .int, 2) := by decide +kernel
theorem d_M_init_10 : decode c_M_init 10 = .ok (.putfield 7, 3) := by decide +kernel
theorem d_M_init_13 : decode c_M_init 13 = .ok (.aload_n 0, 1) := by decide +kernel
theorem d_M_init_14 : decode c_M_init 14 = .ok (.sipush 3992, 3) := by decide +kernel
theorem d_M_init_17 : decode c_M_init 17 = .ok (.newarray .int, 2) := by decide +kernel
theorem d_M_init_19 : decode c_M_init 19 = .ok (.putfield 13, 3) := by decide +kernel
theorem d_M_init_22 : decode c_M_init 22 = .ok (.aload_n 0, 1) := by decide +kernel
theorem d_M_init_23 : decode c_M_init 23 = .ok (.sipush 499, 3) := by decide +kernel
theorem d_M_init_26 : decode c_M_init 26 = .ok (.newarray .int, 2) := by decide +kernel
theorem d_M_init_28 : decode c_M_init 28 = .ok (.putfield 16, 3) := by decide +kernel
theorem d_M_init_31 : decode c_M_init 31 = .ok (.aload_n 0, 1) := by decide +kernel
theorem d_M_init_32 : decode c_M_init 32 = .ok (.bipush 11, 2) := by decide +kernel
theorem d_M_init_34 : decode c_M_init 34 = .ok (.newarray .int, 2) := by decide +kernel
theorem d_M_init_36 : decode c_M_init 36 = .ok (.dup, 1) := by decide +kernel
theorem d_M_init_37 : decode c_M_init 37 = .ok (.iconst 0, 1) := by decide +kernel
theorem d_M_init_38 : decode c_M_init 38 = .ok (.bipush 20, 2) := by decide +kernel
theorem d_M_init_40 : decode c_M_init 40 = .ok (.iastore, 1) := by decide +kernel
theorem d_M_init_41 : decode c_M_init 41 = .ok (.dup, 1) := by decide +kernel
theorem d_M_init_42 : decode c_M_init 42 = .ok (.iconst 1, 1) := by decide +kernel
theorem d_M_init_43 : decode c_M_init 43 = .ok (.iconst 1, 1) := by decide +kernel
theorem d_M_init_44 : decode c_M_init 44 = .ok (.iastore, 1) := by decide +kernel
theorem d_M_init_45 : decode c_M_init 45 = .ok (.dup, 1) := by decide +kernel
theorem d_M_init_46 : decode c_M_init 46 = .ok (.iconst 2, 1) := by decide +kernel
theorem d_M_init_47 : decode c_M_init 47 = .ok (.iconst 2, 1) := by decide +kernel
theorem d_M_init_48 : decode c_M_init 48 = .ok (.iastore, 1) := by decide +kernel
theorem d_M_init_49 : decode c_M_init 49 = .ok (.dup, 1) := by decide +kernel
theorem d_M_init_50 : decode c_M_init 50 = .ok (.iconst 3, 1) := by decide +kernel
theorem d_M_init_51 : decode c_M_init 51 = .ok (.iconst 2, 1) := by decide +kernel
theorem d_M_init_52 : decode c_M_init 52 = .ok (.iastore, 1) := by decide +kernel
theorem d_M_init_53 : decode c_M_init 53 = .ok (.dup, 1) := by decide +kernel
theorem d_M_init_54 : decode c_M_init 54 = .ok (.iconst 4, 1) := by decide +kernel
theorem d_M_init_55 : decode c_M_init 55 = .ok (.iconst 1, 1) := by decide +kernel
theorem d_M_init_56 : decode c_M_init 56 = .ok (.iastore, 1) := by decide +kernel
theorem d_M_init_57 : decode c_M_init 57 = .ok (.dup, 1) := by decide +kernel
theorem d_M_init_58 : decode c_M_init 58 = .ok (.iconst 5, 1) := by decide +kernel
theorem d_M_init_59 : decode c_M_init 59 = .ok (.bipush 20, 2) := by decide +kernel
theorem d_M_init_61 : decode c_M_init 61 = .ok (.iastore, 1) := by decide +kernel
theorem d_M_init_62 : decode c_M_init 62 = .ok (.dup, 1) := by decide +kernel
theorem d_M_init_63 : decode c_M_init 63 = .ok (.bipush 6, 2) := by decide +kernel
theorem d_M_init_65 : decode c_M_init 65 = .ok (.bipush 50, 2) := by decide +kernel
theorem d_M_init_67 : decode c_M_init 67 = .ok (.iastore, 1) := by decide +kernel
theorem d_M_init_68 : decode c_M_init 68 = .ok (.dup, 1) := by decide +kernel
theorem d_M_init_69 : decode c_M_init 69 = .ok (.bipush 7, 2) := by decide +kernel
theorem d_M_init_71 : decode c_M_init 71 = .ok (.iconst 1, 1) := by decide +kernel
theorem d_M_init_72 : decode c_M_init 72 = .ok (.iastore, 1) := by decide +kernel
theorem d_M_init_73 : decode c_M_init 73 = .ok (.dup, 1) := by decide +kernel
theorem d_M_init_74 : decode c_M_init 74 = .ok (.bipush 8, 2) := by decide +kernel
theorem d_M_init_76 : decode c_M_init 76 = .ok (.iconst 1, 1) := by decide +kernel
theorem d_M_init_77 : decode c_M_init 77 = .ok (.iastore, 1) := by decide +kernel
theorem d_M_init_78 : decode c_M_init 78 = .ok (.dup, 1) := by decide +kernel
theorem d_M_init_79 : decode c_M_init 79 = .ok (.bipush 9, 2) := by decide +kernel
theorem d_M_init_81 : decode c_M_init 81 = .ok (.iconst 1, 1) := by decide +kernel
theorem d_M_init_82 : decode c_M_init 82 = .ok (.iastore, 1) := by decide +kernel
theorem d_M_init_83 : decode c_M_init 83 = .ok (.dup, 1) := by decide +kernel
theorem d_M_init_84 : decode c_M_init 84 = .ok (.bipush 10, 2) := by decide +kernel
theorem d_M_init_86 : decode c_M_init 86 = .ok (.iconst 5, 1) := by decide +kernel
theorem d_M_init_87 : decode c_M_init 87 = .ok (.iastore, 1) := by decide +kernel
theorem d_M_init_88 : decode c_M_init 88 = .ok (.putfield 19, 3) := by decide +kernel
theorem d_M_init_91 : decode c_M_init 91 = .ok (.aload_n 0, 1) := by decide +kernel
theorem d_M_init_92 : decode c_M_init 92 = .ok (.bipush 11, 2) := by decide +kernel
theorem d_M_init_94 : decode c_M_init 94 = .ok (.newarray .int, 2) := by decide +kernel
theorem d_M_init_96 : decode c_M_init 96 = .ok (.dup, 1) := by decide +kernel
theorem d_M_init_97 : decode c_M_init 97 = .ok (.iconst 0, 1) := by decide +kernel
theorem d_M_init_98 : decode c_M_init 98 = .ok (.bipush 99, 2) := by decide +kernel
theorem d_M_init_100 : decode c_M_init 100 = .ok (.iastore, 1) := by decide +kernel
theorem d_M_init_101 : decode c_M_init 101 = .ok (.dup, 1) := by decide +kernel
theorem d_M_init_102 : decode c_M_init 102 = .ok (.iconst 1, 1) := by decide +kernel
theorem d_M_init_103 : decode c_M_init 103 = .ok (.iconst 4, 1) := by decide +kernel
theorem d_M_init_104 : decode c_M_init 104 = .ok (.iastore, 1) := by decide +kernel
theorem d_M_init_105 : decode c_M_init 105 = .ok (.dup, 1) := by decide +kernel
theorem d_M_init_106 : decode c_M_init 106 = .ok (.iconst 2, 1) := by decide +kernel
theorem d_M_init_107 : decode c_M_init 107 = .ok (.bipush 99, 2) := by decide +kernel
theorem d_M_init_109 : decode c_M_init 109 = .ok (.iastore, 1) := by decide +kernel
theorem d_M_init_110 : decode c_M_init 110 = .ok (.dup, 1) := by decide +kernel
theorem d_M_init_111 : decode c_M_init 111 = .ok (.iconst 3, 1) := by decide +kernel
theorem d_M_init_112 : decode c_M_init 112 = .ok (.bipush 9, 2) := by decide +kernel
theorem d_M_init_114 : decode c_M_init 114 = .ok (.iastore, 1) := by decide +kernel
theorem d_M_init_115 : decode c_M_init 115 = .ok (.dup, 1) := by decide +kernel
theorem d_M_init_116 : decode c_M_init 116 = .ok (.iconst 4, 1) := by decide +kernel
theorem d_M_init_117 : decode c_M_init 117 = .ok (.bipush 9, 2) := by decide +kernel
theorem d_M_init_119 : decode c_M_init 119 = .ok (.iastore, 1) := by decide +kernel
theorem d_M_init_120 : decode c_M_init 120 = .ok (.dup, 1) := by decide +kernel
theorem d_M_init_121 : decode c_M_init 121 = .ok (.iconst 5, 1) := by decide +kernel
theorem d_M_init_122 : decode c_M_init 122 = .ok (.bipush 99, 2) := by decide +kernel
theorem d_M_init_124 : decode c_M_init 124 = .ok (.iastore, 1) := by decide +kernel
theorem d_M_init_125 : decode c_M_init 125 = .ok (.dup, 1) := by decide +kernel
theorem d_M_init_126 : decode c_M_init 126 = .ok (.bipush 6, 2) := by decide +kernel
theorem d_M_init_128 : decode c_M_init 128 = .ok (.bipush 99, 2) := by decide +kernel
theorem d_M_init_130 : decode c_M_init 130 = .ok (.iastore, 1) := by decide +kernel
theorem d_M_init_131 : decode c_M_init 131 = .ok (.dup, 1) := by decide +kernel
theorem d_M_init_132 : decode c_M_init 132 = .ok (.bipush 7, 2) := by decide +kernel
theorem d_M_init_134 : decode c_M_init 134 = .ok (.iconst 3, 1) := by decide +kernel
theorem d_M_init_135 : decode c_M_init 135 = .ok (.iastore, 1) := by decide +kernel
theorem d_M_init_136 : decode c_M_init 136 = .ok (.dup, 1) := by decide +kernel
theorem d_M_init_137 : decode c_M_init 137 = .ok (.bipush 8, 2) := by decide +kernel
theorem d_M_init_139 : decode c_M_init 139 = .ok (.bipush 9, 2) := by decide +kernel
theorem d_M_init_141 : decode c_M_init 141 = .ok (.iastore, 1) := by decide +kernel
theorem d_M_init_142 : decode c_M_init 142 = .ok (.dup, 1) := by decide +kernel
theorem d_M_init_143 : decode c_M_init 143 = .ok (.bipush 9, 2) := by decide +kernel
theorem d_M_init_145 : decode c_M_init 145 = .ok (.bipush 9, 2) := by decide +kernel
theorem d_M_init_147 : decode c_M_init 147 = .ok (.iastore, 1) := by decide +kernel
theorem d_M_init_148 : decode c_M_init 148 = .ok (.dup, 1) := by decide +kernel
theorem d_M_init_149 : decode c_M_init 149 = .ok (.bipush 10, 2) := by decide +kernel
theorem d_M_init_151 : decode c_M_init 151 = .ok (.bipush 30, 2) := by decide +kernel
theorem d_M_init_153 : decode c_M_init 153 = .ok (.iastore, 1) := by decide +kernel
theorem d_M_init_154 : decode c_M_init 154 = .ok (.putfield 22, 3) := by decide +kernel
theorem d_M_init_157 : decode c_M_init 157 = .ok (.aload_n 0, 1) := by decide +kernel
theorem d_M_init_158 : decode c_M_init 158 = .ok (.bipush 8, 2) := by decide +kernel
theorem d_M_init_160 : decode c_M_init 160 = .ok (.newarray .int, 2) := by decide +kernel
theorem d_M_init_162 : decode c_M_init 162 = .ok (.dup, 1) := by decide +kernel
theorem d_M_init_163 : decode c_M_init 163 = .ok (.iconst 0, 1) := by decide +kernel
theorem d_M_init_164 : decode c_M_init 164 = .ok (.iconst (-1), 1) := by decide +kernel
theorem d_M_init_165 : decode c_M_init 165 = .ok (.iastore, 1) := by decide +kernel
theorem d_M_init_166 : decode c_M_init 166 = .ok (.dup, 1) := by decide +kernel
theorem d_M_init_167 : decode c_M_init 167 = .ok (.iconst 1, 1) := by decide +kernel
theorem d_M_init_168 : decode c_M_init 168 = .ok (.iconst (-1), 1) := by decide +kernel
theorem d_M_init_169 : decode c_M_init 169 = .ok (.iastore, 1) := by decide +kernel
theorem d_M_init_170 : decode c_M_init 170 = .ok (.dup, 1) := by decide +kernel
theorem d_M_init_171 : decode c_M_init 171 = .ok (.iconst 2, 1) := by decide +kernel
theorem d_M_init_172 : decode c_M_init 172 = .ok (.iconst 0, 1) := by decide +kernel
theorem d_M_init_173 : decode c_M_init 173 = .ok (.iastore, 1) := by decide +kernel
theorem d_M_init_174 : decode c_M_init 174 = .ok (.dup, 1) := by decide +kernel
theorem d_M_init_175 : decode c_M_init 175 = .ok (.iconst 3, 1) := by decide +kernel
theorem d_M_init_176 : decode c_M_init 176 = .ok (.iconst 1, 1) := by decide +kernel
theorem d_M_init_177 : decode c_M_init 177 = .ok (.iastore, 1) := by decide +kernel
theorem d_M_init_178 : decode c_M_init 178 = .ok (.dup, 1) := by decide +kernel
theorem d_M_init_179 : decode c_M_init 179 = .ok (.iconst 4, 1) := by decide +kernel
theorem d_M_init_180 : decode c_M_init 180 = .ok (.iconst 1, 1) := by decide +kernel
theorem d_M_init_181 : decode c_M_init 181 = .ok (.iastore, 1) := by decide +kernel
theorem d_M_init_182 : decode c_M_init 182 = .ok (.dup, 1) := by decide +kernel
theorem d_M_init_183 : decode c_M_init 183 = .ok (.iconst 5, 1) := by decide +kernel
theorem d_M_init_184 : decode c_M_init 184 = .ok (.iconst 1, 1) := by decide +kernel
theorem d_M_init_185 : decode c_M_init 185 = .ok (.iastore, 1) := by decide +kernel
theorem d_M_init_186 : decode c_M_init 186 = .ok (.dup, 1) := by decide +kernel
theorem d_M_init_187 : decode c_M_init 187 = .ok (.bipush 6, 2) := by decide +kernel
theorem d_M_init_189 : decode c_M_init 189 = .ok (.iconst 0, 1) := by decide +kernel
theorem d_M_init_190 : decode c_M_init 190 = .ok (.iastore, 1) := by decide +kernel
theorem d_M_init_191 : decode c_M_init 191 = .ok (.dup, 1) := by decide +kernel
theorem d_M_init_192 : decode c_M_init 192 = .ok (.bipush 7, 2) := by decide +kernel
theorem d_M_init_194 : decode c_M_init 194 = .ok (.iconst (-1), 1) := by decide +kernel
theorem d_M_init_195 : decode c_M_init 195 = .ok (.iastore, 1) := by decide +kernel
theorem d_M_init_196 : decode c_M_init 196 = .ok (.putfield 25, 3) := by decide +kernel
theorem d_M_init_199 : decode c_M_init 199 = .ok (.aload_n 0, 1) := by decide +kernel
theorem d_M_init_200 : decode c_M_init 200 = .ok (.bipush 8, 2) := by decide +kernel
theorem d_M_init_202 : decode c_M_init 202 = .ok (.newarray .int, 2) := by decide +kernel
theorem d_M_init_204 : decode c_M_init 204 = .ok (.dup, 1) := by decide +kernel
theorem d_M_init_205 : decode c_M_init 205 = .ok (.iconst 0, 1) := by decide +kernel
theorem d_M_init_206 : decode c_M_init 206 = .ok (.iconst 0, 1) := by decide +kernel
theorem d_M_init_207 : decode c_M_init 207 = .ok (.iastore, 1) := by decide +kernel
theorem d_M_init_208 : decode c_M_init 208 = .ok (.dup, 1) := by decide +kernel
theorem d_M_init_209 : decode c_M_init 209 = .ok (.iconst 1, 1) := by decide +kernel
theorem d_M_init_210 : decode c_M_init 210 = .ok (.iconst 1, 1) := by decide +kernel
theorem d_M_init_211 : decode c_M_init 211 = .ok (.iastore, 1) := by decide +kernel
theorem d_M_init_212 : decode c_M_init 212 = .ok (.dup, 1) := by decide +kernel
theorem d_M_init_213 : decode c_M_init 213 = .ok (.iconst 2, 1) := by decide +kernel
theorem d_M_init_214 : decode c_M_init 214 = .ok (.iconst 1, 1) := by decide +kernel
theorem d_M_init_215 : decode c_M_init 215 = .ok (.iastore, 1) := by decide +kernel
theorem d_M_init_216 : decode c_M_init 216 = .ok (.dup, 1) := by decide +kernel
theorem d_M_init_217 : decode c_M_init 217 = .ok (.iconst 3, 1) := by decide +kernel
theorem d_M_init_218 : decode c_M_init 218 = .ok (.iconst 1, 1) := by decide +kernel
theorem d_M_init_219 : decode c_M_init 219 = .ok (.iastore, 1) := by decide +kernel
theorem d_M_init_220 : decode c_M_init 220 = .ok (.dup, 1) := by decide +kernel
theorem d_M_init_221 : decode c_M_init 221 = .ok (.iconst 4, 1) := by decide +kernel
theorem d_M_init_222 : decode c_M_init 222 = .ok (.iconst 0, 1) := by decide +kernel
theorem d_M_init_223 : decode c_M_init 223 = .ok (.iastore, 1) := by decide +kernel
theorem d_M_init_224 : decode c_M_init 224 = .ok (.dup, 1) := by decide +kernel
theorem d_M_init_225 : decode c_M_init 225 = .ok (.iconst 5, 1) := by decide +kernel
theorem d_M_init_226 : decode c_M_init 226 = .ok (.iconst (-1), 1) := by decide +kernel
theorem d_M_init_227 : decode c_M_init 227 = .ok (.iastore, 1) := by decide +kernel
theorem d_M_init_228 : decode c_M_init 228 = .ok (.dup, 1) := by decide +kernel
theorem d_M_init_229 : decode c_M_init 229 = .ok (.bipush 6, 2) := by decide +kernel
theorem d_M_init_231 : decode c_M_init 231 = .ok (.iconst (-1), 1) := by decide +kernel
theorem d_M_init_232 : decode c_M_init 232 = .ok (.iastore, 1) := by decide +kernel
theorem d_M_init_233 : decode c_M_init 233 = .ok (.dup, 1) := by decide +kernel
theorem d_M_init_234 : decode c_M_init 234 = .ok (.bipush 7, 2) := by decide +kernel
theorem d_M_init_236 : decode c_M_init 236 = .ok (.iconst (-1), 1) := by decide +kernel
theorem d_M_init_237 : decode c_M_init 237 = .ok (.iastore, 1) := by decide +kernel
theorem d_M_init_238 : decode c_M_init 238 = .ok (.putfield 28, 3) := by decide +kernel
theorem d_M_init_241 : decode c_M_init 241 = .ok (.aload_n 0, 1) := by decide +kernel
theorem d_M_init_242 : decode c_M_init 242 = .ok (.sipush 400, 3) := by decide +kernel
theorem d_M_init_245 : decode c_M_init 245 = .ok (.newarray .int, 2) := by decide +kernel
theorem d_M_init_247 : decode c_M_init 247 = .ok (.putfield 31, 3) := by decide +kernel
theorem d_M_init_250 : decode c_M_init 250 = .ok (.aload_n 0, 1) := by decide +kernel
theorem d_M_init_251 : decode c_M_init 251 = .ok (.iconst (-1), 1) := by decide +kernel
theorem d_M_init_252 : decode c_M_init 252 = .ok (.putfield 34, 3) := by decide +kernel
theorem d_M_init_255 : decode c_M_init 255 = .ok (.aload_n 0, 1) := by decide +kernel
theorem d_M_init_256 : decode c_M_init 256 = .ok (.sipush 499, 3) := by decide +kernel
theorem d_M_init_259 : decode c_M_init 259 = .ok (.newarray .int, 2) := by decide +kernel
theorem d_M_init_261 : decode c_M_init 261 = .ok (.putfield 38, 3) := by decide +kernel
theorem d_M_init_264 : decode c_M_init 264 = .ok (.aload_n 0, 1) := by decide +kernel
theorem d_M_init_265 : decode c_M_init 265 = .ok (.sipush 648, 3) := by decide +kernel
theorem d_M_init_268 : decode c_M_init 268 = .ok (.newarray .int, 2) := by decide +kernel
theorem d_M_init_270 : decode c_M_init 270 = .ok (.putfield 41, 3) := by decide +kernel
theorem d_M_init_273 : decode c_M_init 273 = .ok (.aload_n 0, 1) := by decide +kernel
theorem d_M_init_274 : decode c_M_init 274 = .ok (.sipush 648, 3) := by decide +kernel
theorem d_M_init_277 : decode c_M_init 277 = .ok (.newarray .int, 2) := by decide +kernel
theorem d_M_init_279 : decode c_M_init 279 = .ok (.putfield 44, 3) := by decide +kernel
theorem d_M_init_282 : decode c_M_init 282 = .ok (.aload_n 0, 1) := by decide +kernel
theorem d_M_init_283 : decode c_M_init 283 = .ok (.sipush 2592, 3) := by decide +kernel
theorem d_M_init_286 : decode c_M_init 286 = .ok (.newarray .int, 2) := by decide +kernel
theorem d_M_init_288 : decode c_M_init 288 = .ok (.putfield 47, 3) := by decide +kernel
theorem d_M_init_291 : decode c_M_init 291 = .ok (.aload_n 0, 1) := by decide +kernel
theorem d_M_init_292 : decode c_M_init 292 = .ok (.sipush 700, 3) := by decide +kernel
theorem d_M_init_295 : decode c_M_init 295 = .ok (.newarray .int, 2) := by decide +kernel
theorem d_M_init_297 : decode c_M_init 297 = .ok (.putfield 50, 3) := by decide +kernel
theorem d_M_init_300 : decode c_M_init 300 = .ok (.aload_n 0, 1) := by decide +kernel
theorem d_M_init_301 : decode c_M_init 301 = .ok (.ldc 53, 2) := by decide +kernel
theorem d_M_init_303 : decode c_M_init 303 = .ok (.newarray .int, 2) := by decide +kernel
theorem d_M_init_305 : decode c_M_init 305 = .ok (.putfield 54, 3) := by decide +kernel
theorem d_M_init_308 : decode c_M_init 308 = .ok (.aload_n 0, 1) := by decide +kernel
theorem d_M_init_309 : decode c_M_init 309 = .ok (.bipush 40, 2) := by decide +kernel
theorem d_M_init_311 : decode c_M_init 311 = .ok (.newarray .int, 2) := by decide +kernel
theorem d_M_init_313 : decode c_M_init 313 = .ok (.putfield 57, 3) := by decide +kernel
theorem d_M_init_316 : decode c_M_init 316 = .ok (.aload_n 0, 1) := by decide +kernel
theorem d_M_init_317 : decode c_M_init 317 = .ok (.bipush 6, 2) := by decide +kernel
theorem d_M_init_319 : decode c_M_init 319 = .ok (.newarray .int, 2) := by decide +kernel
theorem d_M_init_321 : decode c_M_init 321 = .ok (.putfield 60, 3) := by decide +kernel
theorem d_M_init_324 : decode c_M_init 324 = .ok (.aload_n 0, 1) := by decide +kernel
theorem d_M_init_325 : decode c_M_init 325 = .ok (.bipush 36, 2) := by decide +kernel
theorem d_M_init_327 : decode c_M_init 327 = .ok (.newarray .int, 2) := by decide +kernel
theorem d_M_init_329 : decode c_M_init 329 = .ok (.putfield 63, 3) := by decide +kernel
theorem d_M_init_332 : decode c_M_init 332 = .ok (.aload_n 0, 1) := by decide +kernel
theorem d_M_init_333 : decode c_M_init 333 = .ok (.bipush 81, 2) := by decide +kernel
theorem d_M_init_335 : decode c_M_init 335 = .ok (.newarray .int, 2) := by decide +kernel
theorem d_M_init_337 : decode c_M_init 337 = .ok (.putfield 66, 3) := by decide +kernel
theorem d_M_init_340 : decode c_M_init 340 = .ok (.aload_n 0, 1) := by decide +kernel
theorem d_M_init_341 : decode c_M_init 341 = .ok (.iconst (-1), 1) := by decide +kernel
theorem d_M_init_342 : decode c_M_init 342 = .ok (.putfield 69, 3) := by decide +kernel
theorem d_M_init_345 : decode c_M_init 345 = .ok (.aload_n 0, 1) := by decide +kernel
theorem d_M_init_346 : decode c_M_init 346 = .ok (.iconst (-1), 1) := by decide +kernel
theorem d_M_init_347 : decode c_M_init 347 = .ok (.putfield 72, 3) := by decide +kernel
theorem d_M_init_350 : decode c_M_init 350 = .ok (.aload_n 0, 1) := by decide +kernel
theorem d_M_init_351 : decode c_M_init 351 = .ok (.sipush 700, 3) := by decide +kernel
theorem d_M_init_354 : decode c_M_init 354 = .ok (.newarray .int, 2) := by decide +kernel
theorem d_M_init_356 : decode c_M_init 356 = .ok (.putfield 75, 3) := by decide +kernel
theorem d_M_init_359 : decode c_M_init 359 = .ok (.aload_n 0, 1) := by decide +kernel
theorem d_M_init_360 : decode c_M_init 360 = .ok (.sipush 280, 3) := by decide +kernel
theorem d_M_init_363 : decode c_M_init 363 = .ok (.newarray .int, 2) := by decide +kernel
theorem d_M_init_365 : decode c_M_init 365 = .ok (.putfield 78, 3) := by decide +kernel
theorem d_M_init_368 : decode c_M_init 368 = .ok (.aload_n 0, 1) := by decide +kernel
theorem d_M_init_369 : decode c_M_init 369 = .ok (.bipush 81, 2) := by decide +kernel
theorem d_M_init_371 : decode c_M_init 371 = .ok (.newarray .int, 2) := by decide +kernel
theorem d_M_init_373 : decode c_M_init 373 = .ok (.putfield 81, 3) := by decide +kernel
theorem d_M_init_376 : decode c_M_init 376 = .ok (.aload_n 0, 1) := by decide +kernel
theorem d_M_init_377 : decode c_M_init 377 = .ok (.bipush 81, 2) := by decide +kernel
theorem d_M_init_379 : decode c_M_init 379 = .ok (.newarray .int, 2) := by decide +kernel
theorem d_M_init_381 : decode c_M_init 381 = .ok (.putfield 84, 3) := by decide +kernel
theorem d_M_init_384 : decode c_M_init 384 = .ok (.iconst 0, 1) := by decide +kernel
theorem d_M_init_385 : decode c_M_init 385 = .ok (.istore_n 1, 1) := by decide +kernel
theorem d_M_init_386 : decode c_M_init 386 = .ok (.iload_n 1, 1) := by decide +kernel
theorem d_M_init_387 : decode c_M_init 387 = .ok (.bipush 11, 2) := by decide +kernel
theorem d_M_init_389 : decode c_M_init 389 = .ok (.if_icmp .ge 23, 3) := by decide +kernel
theorem d_M_init_392 : decode c_M_init 392 = .ok (.aload_n 0, 1) := by decide +kernel
theorem d_M_init_393 : decode c_M_init 393 = .ok (.getfield 7, 3) := by decide +kernel
theorem d_M_init_396 : decode c_M_init 396 = .ok (.iconst 2, 1) := by decide +kernel
theorem d_M_init_397 : decode c_M_init 397 = .ok (.iload_n 1, 1) := by decide +kernel
theorem d_M_init_398 : decode c_M_init 398 = .ok (.iadd, 1) := by decide +kernel
theorem d_M_init_399 : decode c_M_init 399 = .ok (.aload_n 0, 1) := by decide +kernel
theorem d_M_init_400 : decode c_M_init 400 = .ok (.getfield 19, 3) := by decide +kernel
theorem d_M_init_403 : decode c_M_init 403 = .ok (.iload_n 1, 1) := by decide +kernel
theorem d_M_init_404 : decode c_M_init 404 = .ok (.iaload, 1) := by decide +kernel
theorem d_M_init_405 : decode c_M_init 405 = .ok (.iastore, 1) := by decide +kernel
theorem d_M_init_406 : decode c_M_init 406 = .ok (.iinc 1 1, 3) := by decide +kernel
theorem d_M_init_409 : decode c_M_init 409 = .ok (.goto (-23), 3) := by decide +kernel
theorem d_M_init_412 : decode c_M_init 412 = .ok (.return_, 1) := by decide +kernel
theorem d_M_thrown_0 : decode c_M_thrown 0 = .ok (.aload_n 0, 1) := by decide +kernel
theorem d_M_thrown_1 : decode c_M_thrown 1 = .ok (.getfield 87, 3) := by decide +kernel
theorem d_M_thrown_4 : decode c_M_thrown 4 = .ok (.ireturn, 1) := by decide +kernel
theorem d_M_isIn_0 : decode c_M_isIn 0 = .ok (.iload_n 0, 1) := by decide +kernel
theorem d_M_isIn_1 : decode c_M_isIn 1 = .ok (.iload_n 1, 1) := by decide +kernel
theorem d_M_isIn_2 : decode c_M_isIn 2 = .ok (.if_icmp .lt 12, 3) := by decide +kernel
theorem d_M_isIn_5 : decode c_M_isIn 5 = .ok (.iload_n 0, 1) := by decide +kernel
theorem d_M_isIn_6 : decode c_M_isIn 6 = .ok (.iload_n 2, 1) := by decide +kernel
theorem d_M_isIn_7 : decode c_M_isIn 7 = .ok (.if_icmp .gt 7, 3) := by decide +kernel
theorem d_M_isIn_10 : decode c_M_isIn 10 = .ok (.iconst 1, 1) := by decide +kernel
theorem d_M_isIn_11 : decode c_M_isIn 11 = .ok (.goto 4, 3) := by decide +kernel
theorem d_M_isIn_14 : decode c_M_isIn 14 = .ok (.iconst 0, 1) := by decide +kernel
theorem d_M_isIn_15 : decode c_M_isIn 15 = .ok (.ireturn, 1) := by decide +kernel
theorem d_M_apart_0 : decode c_M_apart 0 = .ok (.iload_n 0, 1) := by decide +kernel
theorem d_M_apart_1 : decode c_M_apart 1 = .ok (.iload_n 1, 1) := by decide +kernel
theorem d_M_apart_2 : decode c_M_apart 2 = .ok (.if_icmp .ge 9, 3) := by decide +kernel
theorem d_M_apart_5 : decode c_M_apart 5 = .ok (.iload_n 1, 1) := by decide +kernel
theorem d_M_apart_6 : decode c_M_apart 6 = .ok (.iload_n 0, 1) := by decide +kernel
theorem d_M_apart_7 : decode c_M_apart 7 = .ok (.isub, 1) := by decide +kernel
theorem d_M_apart_8 : decode c_M_apart 8 = .ok (.goto 6, 3) := by decide +kernel
theorem d_M_apart_11 : decode c_M_apart 11 = .ok (.iload_n 0, 1) := by decide +kernel
theorem d_M_apart_12 : decode c_M_apart 12 = .ok (.iload_n 1, 1) := by decide +kernel
theorem d_M_apart_13 : decode c_M_apart 13 = .ok (.isub, 1) := by decide +kernel
theorem d_M_apart_14 : decode c_M_apart 14 = .ok (.ireturn, 1) := by decide +kernel
theorem d_M_lesser_0 : decode c_M_lesser 0 = .ok (.iload_n 0, 1) := by decide +kernel
theorem d_M_lesser_1 : decode c_M_lesser 1 = .ok (.iload_n 1, 1) := by decide +kernel
theorem d_M_lesser_2 : decode c_M_lesser 2 = .ok (.if_icmp .ge 7, 3) := by decide +kernel
theorem d_M_lesser_5 : decode c_M_lesser 5 = .ok (.iload_n 0, 1) := by decide +kernel
theorem d_M_lesser_6 : decode c_M_lesser 6 = .ok (.goto 4, 3) := by decide +kernel
theorem d_M_lesser_9 : decode c_M_lesser 9 = .ok (.iload_n 1, 1) := by decide +kernel
theorem d_M_lesser_10 : decode c_M_lesser 10 = .ok (.ireturn, 1) := by decide +kernel
theorem d_M_places_0 : decode c_M_places 0 = .ok (.aload_n 0, 1) := by decide +kernel
theorem d_M_places_1 : decode c_M_places 1 = .ok (.getfield 7, 3) := by decide +kernel
theorem d_M_places_4 : decode c_M_places 4 = .ok (.iconst 0, 1) := by decide +kernel
theorem d_M_places_5 : decode c_M_places 5 = .ok (.iaload, 1) := by decide +kernel
theorem d_M_places_6 : decode c_M_places 6 = .ok (.aload_n 0, 1) := by decide +kernel
theorem d_M_places_7 : decode c_M_places 7 = .ok (.getfield 7, 3) := by decide +kernel
theorem d_M_places_10 : decode c_M_places 10 = .ok (.iconst 1, 1) := by decide +kernel
theorem d_M_places_11 : decode c_M_places 11 = .ok (.iaload, 1) := by decide +kernel
theorem d_M_places_12 : decode c_M_places 12 = .ok (.imul, 1) := by decide +kernel
theorem d_M_places_13 : decode c_M_places 13 = .ok (.ireturn, 1) := by decide +kernel
theorem d_M_isPlace_0 : decode c_M_isPlace 0 = .ok (.iload_n 1, 1) := by decide +kernel
theorem d_M_isPlace_1 : decode c_M_isPlace 1 = .ok (.iconst 0, 1) := by decide +kernel
theorem d_M_isPlace_2 : decode c_M_isPlace 2 = .ok (.aload_n 0, 1) := by decide +kernel
theorem d_M_isPlace_3 : decode c_M_isPlace 3 = .ok (.invokevirtual 90, 3) := by decide +kernel
theorem d_M_isPlace_6 : decode c_M_isPlace 6 = .ok (.iconst 1, 1) := by decide +kernel
theorem d_M_isPlace_7 : decode c_M_isPlace 7 = .ok (.isub, 1) := by decide +kernel
theorem d_M_isPlace_8 : decode c_M_isPlace 8 = .ok (.invokestatic 94, 3) := by decide +kernel
theorem d_M_isPlace_11 : decode c_M_isPlace 11 = .ok (.ireturn, 1) := by decide +kernel
theorem d_M_isWet_0 : decode c_M_isWet 0 = .ok (.aload_n 0, 1) := by decide +kernel
theorem d_M_isWet_1 : decode c_M_isWet 1 = .ok (.getfield 7, 3) := by decide +kernel
theorem d_M_isWet_4 : decode c_M_isWet 4 = .ok (.bipush 94, 2) := by decide +kernel
theorem d_M_isWet_6 : decode c_M_isWet 6 = .ok (.iload_n 1, 1) := by decide +kernel
theorem d_M_isWet_7 : decode c_M_isWet 7 = .ok (.iadd, 1) := by decide +kernel
theorem d_M_isWet_8 : decode c_M_isWet 8 = .ok (.iaload, 1) := by decide +kernel
theorem d_M_isWet_9 : decode c_M_isWet 9 = .ok (.iconst 1, 1) := by decide +kernel
theorem d_M_isWet_10 : decode c_M_isWet 10 = .ok (.if_icmp .ne 7, 3) := by decide +kernel
theorem d_M_isWet_13 : decode c_M_isWet 13 = .ok (.iconst 1, 1) := by decide +kernel
theorem d_M_isWet_14 : decode c_M_isWet 14 = .ok (.goto 4, 3) := by decide +kernel
theorem d_M_isWet_17 : decode c_M_isWet 17 = .ok (.iconst 0, 1) := by decide +kernel
theorem d_M_isWet_18 : decode c_M_isWet 18 = .ok (.ireturn, 1) := by decide +kernel
theorem d_M_beside_0 : decode c_M_beside 0 = .ok (.iload_n 1, 1) := by decide +kernel
theorem d_M_beside_1 : decode c_M_beside 1 = .ok (.aload_n 0, 1) := by decide +kernel
theorem d_M_beside_2 : decode c_M_beside 2 = .ok (.getfield 7, 3) := by decide +kernel
theorem d_M_beside_5 : decode c_M_beside 5 = .ok (.iconst 0, 1) := by decide +kernel
theorem d_M_beside_6 : decode c_M_beside 6 = .ok (.iaload, 1) := by decide +kernel
theorem d_M_beside_7 : decode c_M_beside 7 = .ok (.idiv, 1) := by decide +kernel
theorem d_M_beside_8 : decode c_M_beside 8 = .ok (.aload_n 0, 1) := by decide +kernel
theorem d_M_beside_9 : decode c_M_beside 9 = .ok (.getfield 25, 3) := by decide +kernel
theorem d_M_beside_12 : decode c_M_beside 12 = .ok (.iload_n 2, 1) := by decide +kernel
theorem d_M_beside_13 : decode c_M_beside 13 = .ok (.iaload, 1) := by decide +kernel
theorem d_M_beside_14 : decode c_M_beside 14 = .ok (.iadd, 1) := by decide +kernel
theorem d_M_beside_15 : decode c_M_beside 15 = .ok (.istore_n 3, 1) := by decide +kernel
theorem d_M_beside_16 : decode c_M_beside 16 = .ok (.iload_n 1, 1) := by decide +kernel
theorem d_M_beside_17 : decode c_M_beside 17 = .ok (.aload_n 0, 1) := by decide +kernel
theorem d_M_beside_18 : decode c_M_beside 18 = .ok (.getfield 7, 3) := by decide +kernel
theorem d_M_beside_21 : decode c_M_beside 21 = .ok (.iconst 0, 1) := by decide +kernel
theorem d_M_beside_22 : decode c_M_beside 22 = .ok (.iaload, 1) := by decide +kernel
theorem d_M_beside_23 : decode c_M_beside 23 = .ok (.irem, 1) := by decide +kernel
theorem d_M_beside_24 : decode c_M_beside 24 = .ok (.aload_n 0, 1) := by decide +kernel
theorem d_M_beside_25 : decode c_M_beside 25 = .ok (.getfield 28, 3) := by decide +kernel
theorem d_M_beside_28 : decode c_M_beside 28 = .ok (.iload_n 2, 1) := by decide +kernel
theorem d_M_beside_29 : decode c_M_beside 29 = .ok (.iaload, 1) := by decide +kernel
theorem d_M_beside_30 : decode c_M_beside 30 = .ok (.iadd, 1) := by decide +kernel
theorem d_M_beside_31 : decode c_M_beside 31 = .ok (.istore 4, 2) := by decide +kernel
theorem d_M_beside_33 : decode c_M_beside 33 = .ok (.iload_n 3, 1) := by decide +kernel
theorem d_M_beside_34 : decode c_M_beside 34 = .ok (.iconst 0, 1) := by decide +kernel
theorem d_M_beside_35 : decode c_M_beside 35 = .ok (.aload_n 0, 1) := by decide +kernel
theorem d_M_beside_36 : decode c_M_beside 36 = .ok (.getfield 7, 3) := by decide +kernel
theorem d_M_beside_39 : decode c_M_beside 39 = .ok (.iconst 1, 1) := by decide +kernel
theorem d_M_beside_40 : decode c_M_beside 40 = .ok (.iaload, 1) := by decide +kernel
theorem d_M_beside_41 : decode c_M_beside 41 = .ok (.iconst 1, 1) := by decide +kernel
theorem d_M_beside_42 : decode c_M_beside 42 = .ok (.isub, 1) := by decide +kernel
theorem d_M_beside_43 : decode c_M_beside 43 = .ok (.invokestatic 94, 3) := by decide +kernel
theorem d_M_beside_46 : decode c_M_beside 46 = .ok (.ifCond .eq 34, 3) := by decide +kernel
theorem d_M_beside_49 : decode c_M_beside 49 = .ok (.iload 4, 2) := by decide +kernel
theorem d_M_beside_51 : decode c_M_beside 51 = .ok (.iconst 0, 1) := by decide +kernel
theorem d_M_beside_52 : decode c_M_beside 52 = .ok (.aload_n 0, 1) := by decide +kernel
theorem d_M_beside_53 : decode c_M_beside 53 = .ok (.getfield 7, 3) := by decide +kernel
theorem d_M_beside_56 : decode c_M_beside 56 = .ok (.iconst 0, 1) := by decide +kernel
theorem d_M_beside_57 : decode c_M_beside 57 = .ok (.iaload, 1) := by decide +kernel
theorem d_M_beside_58 : decode c_M_beside 58 = .ok (.iconst 1, 1) := by decide +kernel
theorem d_M_beside_59 : decode c_M_beside 59 = .ok (.isub, 1) := by decide +kernel
theorem d_M_beside_60 : decode c_M_beside 60 = .ok (.invokestatic 94, 3) := by decide +kernel
theorem d_M_beside_63 : decode c_M_beside 63 = .ok (.ifCond .eq 17, 3) := by decide +kernel
theorem d_M_beside_66 : decode c_M_beside 66 = .ok (.iload_n 3, 1) := by decide +kernel
theorem d_M_beside_67 : decode c_M_beside 67 = .ok (.aload_n 0, 1) := by decide +kernel
theorem d_M_beside_68 : decode c_M_beside 68 = .ok (.getfield 7, 3) := by decide +kernel
theorem d_M_beside_71 : decode c_M_beside 71 = .ok (.iconst 0, 1) := by decide +kernel
theorem d_M_beside_72 : decode c_M_beside 72 = .ok (.iaload, 1) := by decide +kernel
theorem d_M_beside_73 : decode c_M_beside 73 = .ok (.imul, 1) := by decide +kernel
theorem d_M_beside_74 : decode c_M_beside 74 = .ok (.iload 4, 2) := by decide +kernel
theorem d_M_beside_76 : decode c_M_beside 76 = .ok (.iadd, 1) := by decide +kernel
theorem d_M_beside_77 : decode c_M_beside 77 = .ok (.goto 4, 3) := by decide +kernel
theorem d_M_beside_80 : decode c_M_beside 80 = .ok (.iconst (-1), 1) := by decide +kernel
theorem d_M_beside_81 : decode c_M_beside 81 = .ok (.ireturn, 1) := by decide +kernel
theorem d_M_longOf_0 : decode c_M_longOf 0 = .ok (.iload_n 0, 1) := by decide +kernel
theorem d_M_longOf_1 : decode c_M_longOf 1 = .ok (.iconst 2, 1) := by decide +kernel
theorem d_M_longOf_2 : decode c_M_longOf 2 = .ok (.irem, 1) := by decide +kernel
theorem d_M_longOf_3 : decode c_M_longOf 3 = .ok (.ifCond .ne 8, 3) := by decide +kernel
theorem d_M_longOf_6 : decode c_M_longOf 6 = .ok (.bipush 10, 2) := by decide +kernel
theorem d_M_longOf_8 : decode c_M_longOf 8 = .ok (.goto 5, 3) := by decide +kernel
theorem d_M_longOf_11 : decode c_M_longOf 11 = .ok (.bipush 14, 2) := by decide +kernel
theorem d_M_longOf_13 : decode c_M_longOf 13 = .ok (.ireturn, 1) := by decide +kernel
theorem d_M_differ_0 : decode c_M_differ 0 = .ok (.aload_n 0, 1) := by decide +kernel
theorem d_M_differ_1 : decode c_M_differ 1 = .ok (.getfield 7, 3) := by decide +kernel
theorem d_M_differ_4 : decode c_M_differ 4 = .ok (.bipush 13, 2) := by decide +kernel
theorem d_M_differ_6 : decode c_M_differ 6 = .ok (.iload_n 1, 1) := by decide +kernel
theorem d_M_differ_7 : decode c_M_differ 7 = .ok (.iadd, 1) := by decide +kernel
theorem d_M_differ_8 : decode c_M_differ 8 = .ok (.iaload, 1) := by decide +kernel
theorem d_M_differ_9 : decode c_M_differ 9 = .ok (.aload_n 0, 1) := by decide +kernel
theorem d_M_differ_10 : decode c_M_differ 10 = .ok (.getfield 7, 3) := by decide +kernel
theorem d_M_differ_13 : decode c_M_differ 13 = .ok (.bipush 13, 2) := by decide +kernel
theorem d_M_differ_15 : decode c_M_differ 15 = .ok (.iload_n 2, 1) := by decide +kernel
theorem d_M_differ_16 : decode c_M_differ 16 = .ok (.iadd, 1) := by decide +kernel
theorem d_M_differ_17 : decode c_M_differ 17 = .ok (.iaload, 1) := by decide +kernel
theorem d_M_differ_18 : decode c_M_differ 18 = .ok (.invokestatic 98, 3) := by decide +kernel
theorem d_M_differ_21 : decode c_M_differ 21 = .ok (.ireturn, 1) := by decide +kernel
theorem d_M_isSteep_0 : decode c_M_isSteep 0 = .ok (.bipush 100, 2) := by decide +kernel
theorem d_M_isSteep_2 : decode c_M_isSteep 2 = .ok (.aload_n 0, 1) := by decide +kernel
theorem d_M_isSteep_3 : decode c_M_isSteep 3 = .ok (.iload_n 1, 1) := by decide +kernel
theorem d_M_isSteep_4 : decode c_M_isSteep 4 = .ok (.aload_n 0, 1) := by decide +kernel
theorem d_M_isSteep_5 : decode c_M_isSteep 5 = .ok (.iload_n 1, 1) := by decide +kernel
theorem d_M_isSteep_6 : decode c_M_isSteep 6 = .ok (.iload_n 2, 1) := by decide +kernel
theorem d_M_isSteep_7 : decode c_M_isSteep 7 = .ok (.invokevirtual 102, 3) := by decide +kernel
theorem d_M_isSteep_10 : decode c_M_isSteep 10 = .ok (.invokevirtual 105, 3) := by decide +kernel
theorem d_M_isSteep_13 : decode c_M_isSteep 13 = .ok (.imul, 1) := by decide +kernel
theorem d_M_isSteep_14 : decode c_M_isSteep 14 = .ok (.aload_n 0, 1) := by decide +kernel
theorem d_M_isSteep_15 : decode c_M_isSteep 15 = .ok (.getfield 7, 3) := by decide +kernel
theorem d_M_isSteep_18 : decode c_M_isSteep 18 = .ok (.iconst 2, 1) := by decide +kernel
theorem d_M_isSteep_19 : decode c_M_isSteep 19 = .ok (.iaload, 1) := by decide +kernel
theorem d_M_isSteep_20 : decode c_M_isSteep 20 = .ok (.iload_n 2, 1) := by decide +kernel
theorem d_M_isSteep_21 : decode c_M_isSteep 21 = .ok (.invokestatic 108, 3) := by decide +kernel
theorem d_M_isSteep_24 : decode c_M_isSteep 24 = .ok (.imul, 1) := by decide +kernel
theorem d_M_isSteep_25 : decode c_M_isSteep 25 = .ok (.if_icmp .le 7, 3) := by decide +kernel
theorem d_M_isSteep_28 : decode c_M_isSteep 28 = .ok (.iconst 1, 1) := by decide +kernel
theorem d_M_isSteep_29 : decode c_M_isSteep 29 = .ok (.goto 4, 3) := by decide +kernel
theorem d_M_isSteep_32 : decode c_M_isSteep 32 = .ok (.iconst 0, 1) := by decide +kernel
theorem d_M_isSteep_33 : decode c_M_isSteep 33 = .ok (.ireturn, 1) := by decide +kernel
theorem d_M_isOpen_0 : decode c_M_isOpen 0 = .ok (.aload_n 0, 1) := by decide +kernel
theorem d_M_isOpen_1 : decode c_M_isOpen 1 = .ok (.iload_n 1, 1) := by decide +kernel
theorem d_M_isOpen_2 : decode c_M_isOpen 2 = .ok (.iload_n 2, 1) := by decide +kernel
theorem d_M_isOpen_3 : decode c_M_isOpen 3 = .ok (.invokevirtual 102, 3) := by decide +kernel
theorem d_M_isOpen_6 : decode c_M_isOpen 6 = .ok (.istore_n 3, 1) := by decide +kernel
theorem d_M_isOpen_7 : decode c_M_isOpen 7 = .ok (.iload_n 3, 1) := by decide +kernel
theorem d_M_isOpen_8 : decode c_M_isOpen 8 = .ok (.iconst (-1), 1) := by decide +kernel
theorem d_M_isOpen_9 : decode c_M_isOpen 9 = .ok (.if_icmp .eq 51, 3) := by decide +kernel
theorem d_M_isOpen_12 : decode c_M_isOpen 12 = .ok (.aload_n 0, 1) := by decide +kernel
theorem d_M_isOpen_13 : decode c_M_isOpen 13 = .ok (.iload_n 1, 1) := by decide +kernel
theorem d_M_isOpen_14 : decode c_M_isOpen 14 = .ok (.invokevirtual 112, 3) := by decide +kernel
theorem d_M_isOpen_17 : decode c_M_isOpen 17 = .ok (.ifCond .ne 43, 3) := by decide +kernel
theorem d_M_isOpen_20 : decode c_M_isOpen 20 = .ok (.aload_n 0, 1) := by decide +kernel
theorem d_M_isOpen_21 : decode c_M_isOpen 21 = .ok (.iload_n 3, 1) := by decide +kernel
theorem d_M_isOpen_22 : decode c_M_isOpen 22 = .ok (.invokevirtual 112, 3) := by decide +kernel
theorem d_M_isOpen_25 : decode c_M_isOpen 25 = .ok (.ifCond .ne 35, 3) := by decide +kernel
theorem d_M_isOpen_28 : decode c_M_isOpen 28 = .ok (.iload_n 1, 1) := by decide +kernel
theorem d_M_isOpen_29 : decode c_M_isOpen 29 = .ok (.aload_n 0, 1) := by decide +kernel
theorem d_M_isOpen_30 : decode c_M_isOpen 30 = .ok (.getfield 69, 3) := by decide +kernel
theorem d_M_isOpen_33 : decode c_M_isOpen 33 = .ok (.if_icmp .ne 11, 3) := by decide +kernel
theorem d_M_isOpen_36 : decode c_M_isOpen 36 = .ok (.iload_n 3, 1) := by decide +kernel
theorem d_M_isOpen_37 : decode c_M_isOpen 37 = .ok (.aload_n 0, 1) := by decide +kernel
theorem d_M_isOpen_38 : decode c_M_isOpen 38 = .ok (.getfield 72, 3) := by decide +kernel
theorem d_M_isOpen_41 : decode c_M_isOpen 41 = .ok (.if_icmp .eq 19, 3) := by decide +kernel
theorem d_M_isOpen_44 : decode c_M_isOpen 44 = .ok (.iload_n 1, 1) := by decide +kernel
theorem d_M_isOpen_45 : decode c_M_isOpen 45 = .ok (.aload_n 0, 1) := by decide +kernel
theorem d_M_isOpen_46 : decode c_M_isOpen 46 = .ok (.getfield 72, 3) := by decide +kernel
theorem d_M_isOpen_49 : decode c_M_isOpen 49 = .ok (.if_icmp .ne 13, 3) := by decide +kernel
theorem d_M_isOpen_52 : decode c_M_isOpen 52 = .ok (.iload_n 3, 1) := by decide +kernel
theorem d_M_isOpen_53 : decode c_M_isOpen 53 = .ok (.aload_n 0, 1) := by decide +kernel
theorem d_M_isOpen_54 : decode c_M_isOpen 54 = .ok (.getfield 69, 3) := by decide +kernel
theorem d_M_isOpen_57 : decode c_M_isOpen 57 = .ok (.if_icmp .ne 5, 3) := by decide +kernel
theorem d_M_isOpen_60 : decode c_M_isOpen 60 = .ok (.iconst 0, 1) := by decide +kernel
theorem d_M_isOpen_61 : decode c_M_isOpen 61 = .ok (.ireturn, 1) := by decide +kernel
theorem d_M_isOpen_62 : decode c_M_isOpen 62 = .ok (.iload_n 2, 1) := by decide +kernel
theorem d_M_isOpen_63 : decode c_M_isOpen 63 = .ok (.iconst 2, 1) := by decide +kernel
theorem d_M_isOpen_64 : decode c_M_isOpen 64 = .ok (.irem, 1) := by decide +kernel
theorem d_M_isOpen_65 : decode c_M_isOpen 65 = .ok (.ifCond .eq 36, 3) := by decide +kernel
theorem d_M_isOpen_68 : decode c_M_isOpen 68 = .ok (.aload_n 0, 1) := by decide +kernel
theorem d_M_isOpen_69 : decode c_M_isOpen 69 = .ok (.aload_n 0, 1) := by decide +kernel
theorem d_M_isOpen_70 : decode c_M_isOpen 70 = .ok (.iload_n 1, 1) := by decide +kernel
theorem d_M_isOpen_71 : decode c_M_isOpen 71 = .ok (.iload_n 2, 1) := by decide +kernel
theorem d_M_isOpen_72 : decode c_M_isOpen 72 = .ok (.iconst 1, 1) := by decide +kernel
theorem d_M_isOpen_73 : decode c_M_isOpen 73 = .ok (.isub, 1) := by decide +kernel
theorem d_M_isOpen_74 : decode c_M_isOpen 74 = .ok (.invokevirtual 102, 3) := by decide +kernel
theorem d_M_isOpen_77 : decode c_M_isOpen 77 = .ok (.invokevirtual 112, 3) := by decide +kernel
theorem d_M_isOpen_80 : decode c_M_isOpen 80 = .ok (.ifCond .eq 21, 3) := by decide +kernel
theorem d_M_isOpen_83 : decode c_M_isOpen 83 = .ok (.aload_n 0, 1) := by decide +kernel
theorem d_M_isOpen_84 : decode c_M_isOpen 84 = .ok (.aload_n 0, 1) := by decide +kernel
theorem d_M_isOpen_85 : decode c_M_isOpen 85 = .ok (.iload_n 1, 1) := by decide +kernel
theorem d_M_isOpen_86 : decode c_M_isOpen 86 = .ok (.iload_n 2, 1) := by decide +kernel
theorem d_M_isOpen_87 : decode c_M_isOpen 87 = .ok (.iconst 1, 1) := by decide +kernel
theorem d_M_isOpen_88 : decode c_M_isOpen 88 = .ok (.iadd, 1) := by decide +kernel
theorem d_M_isOpen_89 : decode c_M_isOpen 89 = .ok (.bipush 8, 2) := by decide +kernel
theorem d_M_isOpen_91 : decode c_M_isOpen 91 = .ok (.irem, 1) := by decide +kernel
theorem d_M_isOpen_92 : decode c_M_isOpen 92 = .ok (.invokevirtual 102, 3) := by decide +kernel
theorem d_M_isOpen_95 : decode c_M_isOpen 95 = .ok (.invokevirtual 112, 3) := by decide +kernel
theorem d_M_isOpen_98 : decode c_M_isOpen 98 = .ok (.ifCond .ne 7, 3) := by decide +kernel
theorem d_M_isOpen_101 : decode c_M_isOpen 101 = .ok (.iconst 1, 1) := by decide +kernel
theorem d_M_isOpen_102 : decode c_M_isOpen 102 = .ok (.goto 4, 3) := by decide +kernel
theorem d_M_isOpen_105 : decode c_M_isOpen 105 = .ok (.iconst 0, 1) := by decide +kernel
theorem d_M_isOpen_106 : decode c_M_isOpen 106 = .ok (.ireturn, 1) := by decide +kernel
theorem d_M_canStep_0 : decode c_M_canStep 0 = .ok (.aload_n 0, 1) := by decide +kernel
theorem d_M_canStep_1 : decode c_M_canStep 1 = .ok (.iload_n 1, 1) := by decide +kernel
theorem d_M_canStep_2 : decode c_M_canStep 2 = .ok (.iload_n 2, 1) := by decide +kernel
theorem d_M_canStep_3 : decode c_M_canStep 3 = .ok (.invokevirtual 116, 3) := by decide +kernel
theorem d_M_canStep_6 : decode c_M_canStep 6 = .ok (.ifCond .eq 16, 3) := by decide +kernel
theorem d_M_canStep_9 : decode c_M_canStep 9 = .ok (.aload_n 0, 1) := by decide +kernel
theorem d_M_canStep_10 : decode c_M_canStep 10 = .ok (.iload_n 1, 1) := by decide +kernel
theorem d_M_canStep_11 : decode c_M_canStep 11 = .ok (.iload_n 2, 1) := by decide +kernel
theorem d_M_canStep_12 : decode c_M_canStep 12 = .ok (.invokevirtual 120, 3) := by decide +kernel
theorem d_M_canStep_15 : decode c_M_canStep 15 = .ok (.ifCond .ne 7, 3) := by decide +kernel
theorem d_M_canStep_18 : decode c_M_canStep 18 = .ok (.iconst 1, 1) := by decide +kernel
theorem d_M_canStep_19 : decode c_M_canStep 19 = .ok (.goto 4, 3) := by decide +kernel
theorem d_M_canStep_22 : decode c_M_canStep 22 = .ok (.iconst 0, 1) := by decide +kernel
theorem d_M_canStep_23 : decode c_M_canStep 23 = .ok (.ireturn, 1) := by decide +kernel
theorem d_M_eighths_0 : decode c_M_eighths 0 = .ok (.iload_n 0, 1) := by decide +kernel
theorem d_M_eighths_1 : decode c_M_eighths 1 = .ok (.iload_n 1, 1) := by decide +kernel
theorem d_M_eighths_2 : decode c_M_eighths 2 = .ok (.invokestatic 98, 3) := by decide +kernel
theorem d_M_eighths_5 : decode c_M_eighths 5 = .ok (.istore_n 2, 1) := by decide +kernel
theorem d_M_eighths_6 : decode c_M_eighths 6 = .ok (.iload_n 2, 1) := by decide +kernel
theorem d_M_eighths_7 : decode c_M_eighths 7 = .ok (.iconst 4, 1) := by decide +kernel
theorem d_M_eighths_8 : decode c_M_eighths 8 = .ok (.if_icmp .le 10, 3) := by decide +kernel
theorem d_M_eighths_11 : decode c_M_eighths 11 = .ok (.bipush 8, 2) := by decide +kernel
theorem d_M_eighths_13 : decode c_M_eighths 13 = .ok (.iload_n 2, 1) := by decide +kernel
theorem d_M_eighths_14 : decode c_M_eighths 14 = .ok (.isub, 1) := by decide +kernel
theorem d_M_eighths_15 : decode c_M_eighths 15 = .ok (.goto 4, 3) := by decide +kernel
theorem d_M_eighths_18 : decode c_M_eighths 18 = .ok (.iload_n 2, 1) := by decide +kernel
theorem d_M_eighths_19 : decode c_M_eighths 19 = .ok (.ireturn, 1) := by decide +kernel
theorem d_M_isFlat_0 : decode c_M_isFlat 0 = .ok (.iconst 0, 1) := by decide +kernel
theorem d_M_isFlat_1 : decode c_M_isFlat 1 = .ok (.istore_n 2, 1) := by decide +kernel
theorem d_M_isFlat_2 : decode c_M_isFlat 2 = .ok (.iload_n 2, 1) := by decide +kernel
theorem d_M_isFlat_3 : decode c_M_isFlat 3 = .ok (.bipush 8, 2) := by decide +kernel
theorem d_M_isFlat_5 : decode c_M_isFlat 5 = .ok (.if_icmp .ge 38, 3) := by decide +kernel
theorem d_M_isFlat_8 : decode c_M_isFlat 8 = .ok (.aload_n 0, 1) := by decide +kernel
theorem d_M_isFlat_9 : decode c_M_isFlat 9 = .ok (.iload_n 1, 1) := by decide +kernel
theorem d_M_isFlat_10 : decode c_M_isFlat 10 = .ok (.iload_n 2, 1) := by decide +kernel
theorem d_M_isFlat_11 : decode c_M_isFlat 11 = .ok (.invokevirtual 102, 3) := by decide +kernel
theorem d_M_isFlat_14 : decode c_M_isFlat 14 = .ok (.istore_n 3, 1) := by decide +kernel
theorem d_M_isFlat_15 : decode c_M_isFlat 15 = .ok (.iload_n 3, 1) := by decide +kernel
theorem d_M_isFlat_16 : decode c_M_isFlat 16 = .ok (.iconst (-1), 1) := by decide +kernel
theorem d_M_isFlat_17 : decode c_M_isFlat 17 = .ok (.if_icmp .eq 20, 3) := by decide +kernel
theorem d_M_isFlat_20 : decode c_M_isFlat 20 = .ok (.aload_n 0, 1) := by decide +kernel
theorem d_M_isFlat_21 : decode c_M_isFlat 21 = .ok (.iload_n 1, 1) := by decide +kernel
theorem d_M_isFlat_22 : decode c_M_isFlat 22 = .ok (.iload_n 3, 1) := by decide +kernel
theorem d_M_isFlat_23 : decode c_M_isFlat 23 = .ok (.invokevirtual 105, 3) := by decide +kernel
theorem d_M_isFlat_26 : decode c_M_isFlat 26 = .ok (.aload_n 0, 1) := by decide +kernel
theorem d_M_isFlat_27 : decode c_M_isFlat 27 = .ok (.getfield 7, 3) := by decide +kernel
theorem d_M_isFlat_30 : decode c_M_isFlat 30 = .ok (.iconst 4, 1) := by decide +kernel
theorem d_M_isFlat_31 : decode c_M_isFlat 31 = .ok (.iaload, 1) := by decide +kernel
theorem d_M_isFlat_32 : decode c_M_isFlat 32 = .ok (.if_icmp .le 5, 3) := by decide +kernel
theorem d_M_isFlat_35 : decode c_M_isFlat 35 = .ok (.iconst 0, 1) := by decide +kernel
theorem d_M_isFlat_36 : decode c_M_isFlat 36 = .ok (.ireturn, 1) := by decide +kernel
theorem d_M_isFlat_37 : decode c_M_isFlat 37 = .ok (.iinc 2 1, 3) := by decide +kernel
theorem d_M_isFlat_40 : decode c_M_isFlat 40 = .ok (.goto (-38), 3) := by decide +kernel
theorem d_M_isFlat_43 : decode c_M_isFlat 43 = .ok (.iconst 1, 1) := by decide +kernel
theorem d_M_isFlat_44 : decode c_M_isFlat 44 = .ok (.ireturn, 1) := by decide +kernel
theorem d_M_canBend_0 : decode c_M_canBend 0 = .ok (.iload_n 2, 1) := by decide +kernel
theorem d_M_canBend_1 : decode c_M_canBend 1 = .ok (.iload_n 3, 1) := by decide +kernel
theorem d_M_canBend_2 : decode c_M_canBend 2 = .ok (.invokestatic 123, 3) := by decide +kernel
theorem d_M_canBend_5 : decode c_M_canBend 5 = .ok (.aload_n 0, 1) := by decide +kernel
theorem d_M_canBend_6 : decode c_M_canBend 6 = .ok (.getfield 7, 3) := by decide +kernel
theorem d_M_canBend_9 : decode c_M_canBend 9 = .ok (.iconst 3, 1) := by decide +kernel
theorem d_M_canBend_10 : decode c_M_canBend 10 = .ok (.iaload, 1) := by decide +kernel
theorem d_M_canBend_11 : decode c_M_canBend 11 = .ok (.if_icmp .le 11, 3) := by decide +kernel
theorem d_M_canBend_14 : decode c_M_canBend 14 = .ok (.aload_n 0, 1) := by decide +kernel
theorem d_M_canBend_15 : decode c_M_canBend 15 = .ok (.iload_n 1, 1) := by decide +kernel
theorem d_M_canBend_16 : decode c_M_canBend 16 = .ok (.invokevirtual 126, 3) := by decide +kernel
theorem d_M_canBend_19 : decode c_M_canBend 19 = .ok (.ifCond .eq 7, 3) := by decide +kernel
theorem d_M_canBend_22 : decode c_M_canBend 22 = .ok (.iconst 1, 1) := by decide +kernel
theorem d_M_canBend_23 : decode c_M_canBend 23 = .ok (.goto 4, 3) := by decide +kernel
theorem d_M_canBend_26 : decode c_M_canBend 26 = .ok (.iconst 0, 1) := by decide +kernel
theorem d_M_canBend_27 : decode c_M_canBend 27 = .ok (.ireturn, 1) := by decide +kernel
theorem d_M_bendCost_0 : decode c_M_bendCost 0 = .ok (.iload_n 1, 1) := by decide +kernel
theorem d_M_bendCost_1 : decode c_M_bendCost 1 = .ok (.iload_n 2, 1) := by decide +kernel
theorem d_M_bendCost_2 : decode c_M_bendCost 2 = .ok (.invokestatic 123, 3) := by decide +kernel
theorem d_M_bendCost_5 : decode c_M_bendCost 5 = .ok (.aload_n 0, 1) := by decide +kernel
theorem d_M_bendCost_6 : decode c_M_bendCost 6 = .ok (.getfield 7, 3) := by decide +kernel
theorem d_M_bendCost_9 : decode c_M_bendCost 9 = .ok (.iconst 3, 1) := by decide +kernel
theorem d_M_bendCost_10 : decode c_M_bendCost 10 = .ok (.iaload, 1) := by decide +kernel
theorem d_M_bendCost_11 : decode c_M_bendCost 11 = .ok (.if_icmp .gt 19, 3) := by decide +kernel
theorem d_M_bendCost_14 : decode c_M_bendCost 14 = .ok (.aload_n 0, 1) := by decide +kernel
theorem d_M_bendCost_15 : decode c_M_bendCost 15 = .ok (.getfield 7, 3) := by decide +kernel
theorem d_M_bendCost_18 : decode c_M_bendCost 18 = .ok (.bipush 6, 2) := by decide +kernel
theorem d_M_bendCost_20 : decode c_M_bendCost 20 = .ok (.iaload, 1) := by decide +kernel
theorem d_M_bendCost_21 : decode c_M_bendCost 21 = .ok (.iload_n 1, 1) := by decide +kernel
theorem d_M_bendCost_22 : decode c_M_bendCost 22 = .ok (.iload_n 2, 1) := by decide +kernel
theorem d_M_bendCost_23 : decode c_M_bendCost 23 = .ok (.invokestatic 123, 3) := by decide +kernel
theorem d_M_bendCost_26 : decode c_M_bendCost 26 = .ok (.imul, 1) := by decide +kernel
theorem d_M_bendCost_27 : decode c_M_bendCost 27 = .ok (.goto 10, 3) := by decide +kernel
theorem d_M_bendCost_30 : decode c_M_bendCost 30 = .ok (.aload_n 0, 1) := by decide +kernel
theorem d_M_bendCost_31 : decode c_M_bendCost 31 = .ok (.getfield 7, 3) := by decide +kernel
theorem d_M_bendCost_34 : decode c_M_bendCost 34 = .ok (.bipush 7, 2) := by decide +kernel
theorem d_M_bendCost_36 : decode c_M_bendCost 36 = .ok (.iaload, 1) := by decide +kernel
theorem d_M_bendCost_37 : decode c_M_bendCost 37 = .ok (.ireturn, 1) := by decide +kernel
theorem d_M_climb_0 : decode c_M_climb 0 = .ok (.aload_n 0, 1) := by decide +kernel
theorem d_M_climb_1 : decode c_M_climb 1 = .ok (.getfield 7, 3) := by decide +kernel
theorem d_M_climb_4 : decode c_M_climb 4 = .ok (.bipush 13, 2) := by decide +kernel
theorem d_M_climb_6 : decode c_M_climb 6 = .ok (.iload_n 2, 1) := by decide +kernel
theorem d_M_climb_7 : decode c_M_climb 7 = .ok (.iadd, 1) := by decide +kernel
theorem d_M_climb_8 : decode c_M_climb 8 = .ok (.iaload, 1) := by decide +kernel
theorem d_M_climb_9 : decode c_M_climb 9 = .ok (.aload_n 0, 1) := by decide +kernel
theorem d_M_climb_10 : decode c_M_climb 10 = .ok (.getfield 7, 3) := by decide +kernel
theorem d_M_climb_13 : decode c_M_climb 13 = .ok (.bipush 13, 2) := by decide +kernel
theorem d_M_climb_15 : decode c_M_climb 15 = .ok (.iload_n 1, 1) := by decide +kernel
theorem d_M_climb_16 : decode c_M_climb 16 = .ok (.iadd, 1) := by decide +kernel
theorem d_M_climb_17 : decode c_M_climb 17 = .ok (.iaload, 1) := by decide +kernel
theorem d_M_climb_18 : decode c_M_climb 18 = .ok (.if_icmp .le 25, 3) := by decide +kernel
theorem d_M_climb_21 : decode c_M_climb 21 = .ok (.aload_n 0, 1) := by decide +kernel
theorem d_M_climb_22 : decode c_M_climb 22 = .ok (.getfield 7, 3) := by decide +kernel
theorem d_M_climb_25 : decode c_M_climb 25 = .ok (.bipush 13, 2) := by decide +kernel
theorem d_M_climb_27 : decode c_M_climb 27 = .ok (.iload_n 2, 1) := by decide +kernel
theorem d_M_climb_28 : decode c_M_climb 28 = .ok (.iadd, 1) := by decide +kernel
theorem d_M_climb_29 : decode c_M_climb 29 = .ok (.iaload, 1) := by decide +kernel
theorem d_M_climb_30 : decode c_M_climb 30 = .ok (.aload_n 0, 1) := by decide +kernel
theorem d_M_climb_31 : decode c_M_climb 31 = .ok (.getfield 7, 3) := by decide +kernel
theorem d_M_climb_34 : decode c_M_climb 34 = .ok (.bipush 13, 2) := by decide +kernel
theorem d_M_climb_36 : decode c_M_climb 36 = .ok (.iload_n 1, 1) := by decide +kernel
theorem d_M_climb_37 : decode c_M_climb 37 = .ok (.iadd, 1) := by decide +kernel
theorem d_M_climb_38 : decode c_M_climb 38 = .ok (.iaload, 1) := by decide +kernel
theorem d_M_climb_39 : decode c_M_climb 39 = .ok (.isub, 1) := by decide +kernel
theorem d_M_climb_40 : decode c_M_climb 40 = .ok (.goto 4, 3) := by decide +kernel
theorem d_M_climb_43 : decode c_M_climb 43 = .ok (.iconst 0, 1) := by decide +kernel
theorem d_M_climb_44 : decode c_M_climb 44 = .ok (.ireturn, 1) := by decide +kernel
theorem d_M_isUsed_0 : decode c_M_isUsed 0 = .ok (.iconst 0, 1) := by decide +kernel
theorem d_M_isUsed_1 : decode c_M_isUsed 1 = .ok (.istore_n 3, 1) := by decide +kernel
theorem d_M_isUsed_2 : decode c_M_isUsed 2 = .ok (.iload_n 3, 1) := by decide +kernel
theorem d_M_isUsed_3 : decode c_M_isUsed 3 = .ok (.iconst 4, 1) := by decide +kernel
theorem d_M_isUsed_4 : decode c_M_isUsed 4 = .ok (.if_icmp .ge 28, 3) := by decide +kernel
theorem d_M_isUsed_7 : decode c_M_isUsed 7 = .ok (.aload_n 0, 1) := by decide +kernel
theorem d_M_isUsed_8 : decode c_M_isUsed 8 = .ok (.iload_n 3, 1) := by decide +kernel
theorem d_M_isUsed_9 : decode c_M_isUsed 9 = .ok (.aload_n 0, 1) := by decide +kernel
theorem d_M_isUsed_10 : decode c_M_isUsed 10 = .ok (.iload_n 3, 1) := by decide +kernel
theorem d_M_isUsed_11 : decode c_M_isUsed 11 = .ok (.invokevirtual 129, 3) := by decide +kernel
theorem d_M_isUsed_14 : decode c_M_isUsed 14 = .ok (.iconst 1, 1) := by decide +kernel
theorem d_M_isUsed_15 : decode c_M_isUsed 15 = .ok (.isub, 1) := by decide +kernel
theorem d_M_isUsed_16 : decode c_M_isUsed 16 = .ok (.iload_n 1, 1) := by decide +kernel
theorem d_M_isUsed_17 : decode c_M_isUsed 17 = .ok (.iload_n 2, 1) := by decide +kernel
theorem d_M_isUsed_18 : decode c_M_isUsed 18 = .ok (.invokevirtual 132, 3) := by decide +kernel
theorem d_M_isUsed_21 : decode c_M_isUsed 21 = .ok (.ifCond .eq 5, 3) := by decide +kernel
theorem d_M_isUsed_24 : decode c_M_isUsed 24 = .ok (.iconst 1, 1) := by decide +kernel
theorem d_M_isUsed_25 : decode c_M_isUsed 25 = .ok (.ireturn, 1) := by decide +kernel
theorem d_M_isUsed_26 : decode c_M_isUsed 26 = .ok (.iinc 3 1, 3) := by decide +kernel
theorem d_M_isUsed_29 : decode c_M_isUsed 29 = .ok (.goto (-27), 3) := by decide +kernel
theorem d_M_isUsed_32 : decode c_M_isUsed 32 = .ok (.iconst 0, 1) := by decide +kernel
theorem d_M_isUsed_33 : decode c_M_isUsed 33 = .ok (.ireturn, 1) := by decide +kernel
theorem d_M_stepOf_0 : decode c_M_stepOf 0 = .ok (.aload_n 0, 1) := by decide +kernel
theorem d_M_stepOf_1 : decode c_M_stepOf 1 = .ok (.iload_n 1, 1) := by decide +kernel
theorem d_M_stepOf_2 : decode c_M_stepOf 2 = .ok (.iload_n 2, 1) := by decide +kernel
theorem d_M_stepOf_3 : decode c_M_stepOf 3 = .ok (.invokevirtual 102, 3) := by decide +kernel
theorem d_M_stepOf_6 : decode c_M_stepOf 6 = .ok (.istore 4, 2) := by decide +kernel
theorem d_M_stepOf_8 : decode c_M_stepOf 8 = .ok (.iload_n 3, 1) := by decide +kernel
theorem d_M_stepOf_9 : decode c_M_stepOf 9 = .ok (.tableswitch 94 0 4 #[35, 55, 60, 68, 70], 35) := by decide +kernel
theorem d_M_stepOf_44 : decode c_M_stepOf 44 = .ok (.iload_n 2, 1) := by decide +kernel
theorem d_M_stepOf_45 : decode c_M_stepOf 45 = .ok (.invokestatic 108, 3) := by decide +kernel
theorem d_M_stepOf_48 : decode c_M_stepOf 48 = .ok (.aload_n 0, 1) := by decide +kernel
theorem d_M_stepOf_49 : decode c_M_stepOf 49 = .ok (.getfield 7, 3) := by decide +kernel
theorem d_M_stepOf_52 : decode c_M_stepOf 52 = .ok (.iconst 5, 1) := by decide +kernel
theorem d_M_stepOf_53 : decode c_M_stepOf 53 = .ok (.iaload, 1) := by decide +kernel
theorem d_M_stepOf_54 : decode c_M_stepOf 54 = .ok (.aload_n 0, 1) := by decide +kernel
theorem d_M_stepOf_55 : decode c_M_stepOf 55 = .ok (.iload_n 1, 1) := by decide +kernel
theorem d_M_stepOf_56 : decode c_M_stepOf 56 = .ok (.iload 4, 2) := by decide +kernel
theorem d_M_stepOf_58 : decode c_M_stepOf 58 = .ok (.invokevirtual 105, 3) := by decide +kernel
theorem d_M_stepOf_61 : decode c_M_stepOf 61 = .ok (.imul, 1) := by decide +kernel
theorem d_M_stepOf_62 : decode c_M_stepOf 62 = .ok (.iadd, 1) := by decide +kernel
theorem d_M_stepOf_63 : decode c_M_stepOf 63 = .ok (.ireturn, 1) := by decide +kernel
theorem d_M_stepOf_64 : decode c_M_stepOf 64 = .ok (.iload_n 2, 1) := by decide +kernel
theorem d_M_stepOf_65 : decode c_M_stepOf 65 = .ok (.invokestatic 108, 3) := by decide +kernel
theorem d_M_stepOf_68 : decode c_M_stepOf 68 = .ok (.ireturn, 1) := by decide +kernel
theorem d_M_stepOf_69 : decode c_M_stepOf 69 = .ok (.aload_n 0, 1) := by decide +kernel
theorem d_M_stepOf_70 : decode c_M_stepOf 70 = .ok (.iload_n 1, 1) := by decide +kernel
theorem d_M_stepOf_71 : decode c_M_stepOf 71 = .ok (.iload 4, 2) := by decide +kernel
theorem d_M_stepOf_73 : decode c_M_stepOf 73 = .ok (.invokevirtual 136, 3) := by decide +kernel
theorem d_M_stepOf_76 : decode c_M_stepOf 76 = .ok (.ireturn, 1) := by decide +kernel
theorem d_M_stepOf_77 : decode c_M_stepOf 77 = .ok (.iconst 1, 1) := by decide +kernel
theorem d_M_stepOf_78 : decode c_M_stepOf 78 = .ok (.ireturn, 1) := by decide +kernel
theorem d_M_stepOf_79 : decode c_M_stepOf 79 = .ok (.aload_n 0, 1) := by decide +kernel
theorem d_M_stepOf_80 : decode c_M_stepOf 80 = .ok (.iload_n 1, 1) := by decide +kernel
theorem d_M_stepOf_81 : decode c_M_stepOf 81 = .ok (.iload_n 2, 1) := by decide +kernel
theorem d_M_stepOf_82 : decode c_M_stepOf 82 = .ok (.iconst 0, 1) := by decide +kernel
theorem d_M_stepOf_83 : decode c_M_stepOf 83 = .ok (.invokevirtual 139, 3) := by decide +kernel
theorem d_M_stepOf_86 : decode c_M_stepOf 86 = .ok (.aload_n 0, 1) := by decide +kernel
theorem d_M_stepOf_87 : decode c_M_stepOf 87 = .ok (.iload_n 1, 1) := by decide +kernel
theorem d_M_stepOf_88 : decode c_M_stepOf 88 = .ok (.iload 4, 2) := by decide +kernel
theorem d_M_stepOf_90 : decode c_M_stepOf 90 = .ok (.invokevirtual 143, 3) := by decide +kernel
theorem d_M_stepOf_93 : decode c_M_stepOf 93 = .ok (.ifCond .eq 7, 3) := by decide +kernel
theorem d_M_stepOf_96 : decode c_M_stepOf 96 = .ok (.iconst 2, 1) := by decide +kernel
theorem d_M_stepOf_97 : decode c_M_stepOf 97 = .ok (.goto 4, 3) := by decide +kernel
theorem d_M_stepOf_100 : decode c_M_stepOf 100 = .ok (.iconst 1, 1) := by decide +kernel
theorem d_M_stepOf_101 : decode c_M_stepOf 101 = .ok (.idiv, 1) := by decide +kernel
theorem d_M_stepOf_102 : decode c_M_stepOf 102 = .ok (.ireturn, 1) := by decide +kernel
theorem d_M_stepOf_103 : decode c_M_stepOf 103 = .ok (.aload_n 0, 1) := by decide +kernel
theorem d_M_stepOf_104 : decode c_M_stepOf 104 = .ok (.iload_n 1, 1) := by decide +kernel
theorem d_M_stepOf_105 : decode c_M_stepOf 105 = .ok (.iload_n 2, 1) := by decide +kernel
theorem d_M_stepOf_106 : decode c_M_stepOf 106 = .ok (.iconst 0, 1) := by decide +kernel
theorem d_M_stepOf_107 : decode c_M_stepOf 107 = .ok (.invokevirtual 139, 3) := by decide +kernel
theorem d_M_stepOf_110 : decode c_M_stepOf 110 = .ok (.aload_n 0, 1) := by decide +kernel
theorem d_M_stepOf_111 : decode c_M_stepOf 111 = .ok (.getfield 81, 3) := by decide +kernel
theorem d_M_stepOf_114 : decode c_M_stepOf 114 = .ok (.iload 4, 2) := by decide +kernel
theorem d_M_stepOf_116 : decode c_M_stepOf 116 = .ok (.iaload, 1) := by decide +kernel
theorem d_M_stepOf_117 : decode c_M_stepOf 117 = .ok (.iadd, 1) := by decide +kernel
theorem d_M_stepOf_118 : decode c_M_stepOf 118 = .ok (.ireturn, 1) := by decide +kernel
theorem d_M_bendOf_0 : decode c_M_bendOf 0 = .ok (.iload_n 3, 1) := by decide +kernel
theorem d_M_bendOf_1 : decode c_M_bendOf 1 = .ok (.ifCond .eq 8, 3) := by decide +kernel
theorem d_M_bendOf_4 : decode c_M_bendOf 4 = .ok (.iload_n 3, 1) := by decide +kernel
theorem d_M_bendOf_5 : decode c_M_bendOf 5 = .ok (.iconst 4, 1) := by decide +kernel
theorem d_M_bendOf_6 : decode c_M_bendOf 6 = .ok (.if_icmp .lt 12, 3) := by decide +kernel
theorem d_M_bendOf_9 : decode c_M_bendOf 9 = .ok (.aload_n 0, 1) := by decide +kernel
theorem d_M_bendOf_10 : decode c_M_bendOf 10 = .ok (.iload_n 1, 1) := by decide +kernel
theorem d_M_bendOf_11 : decode c_M_bendOf 11 = .ok (.iload_n 2, 1) := by decide +kernel
theorem d_M_bendOf_12 : decode c_M_bendOf 12 = .ok (.invokevirtual 146, 3) := by decide +kernel
theorem d_M_bendOf_15 : decode c_M_bendOf 15 = .ok (.goto 4, 3) := by decide +kernel
theorem d_M_bendOf_18 : decode c_M_bendOf 18 = .ok (.iconst 0, 1) := by decide +kernel
theorem d_M_bendOf_19 : decode c_M_bendOf 19 = .ok (.ireturn, 1) := by decide +kernel
theorem d_M_isLess_0 : decode c_M_isLess 0 = .ok (.iload_n 1, 1) := by decide +kernel
theorem d_M_isLess_1 : decode c_M_isLess 1 = .ok (.aload_n 0, 1) := by decide +kernel
theorem d_M_isLess_2 : decode c_M_isLess 2 = .ok (.getfield 41, 3) := by decide +kernel
theorem d_M_isLess_5 : decode c_M_isLess 5 = .ok (.iload_n 3, 1) := by decide +kernel
theorem d_M_isLess_6 : decode c_M_isLess 6 = .ok (.iaload, 1) := by decide +kernel
theorem d_M_isLess_7 : decode c_M_isLess 7 = .ok (.if_icmp .lt 23, 3) := by decide +kernel
theorem d_M_isLess_10 : decode c_M_isLess 10 = .ok (.iload_n 1, 1) := by decide +kernel
theorem d_M_isLess_11 : decode c_M_isLess 11 = .ok (.aload_n 0, 1) := by decide +kernel
theorem d_M_isLess_12 : decode c_M_isLess 12 = .ok (.getfield 41, 3) := by decide +kernel
theorem d_M_isLess_15 : decode c_M_isLess 15 = .ok (.iload_n 3, 1) := by decide +kernel
theorem d_M_isLess_16 : decode c_M_isLess 16 = .ok (.iaload, 1) := by decide +kernel
theorem d_M_isLess_17 : decode c_M_isLess 17 = .ok (.if_icmp .ne 17, 3) := by decide +kernel
theorem d_M_isLess_20 : decode c_M_isLess 20 = .ok (.iload_n 2, 1) := by decide +kernel
theorem d_M_isLess_21 : decode c_M_isLess 21 = .ok (.aload_n 0, 1) := by decide +kernel
theorem d_M_isLess_22 : decode c_M_isLess 22 = .ok (.getfield 44, 3) := by decide +kernel
theorem d_M_isLess_25 : decode c_M_isLess 25 = .ok (.iload_n 3, 1) := by decide +kernel
theorem d_M_isLess_26 : decode c_M_isLess 26 = .ok (.iaload, 1) := by decide +kernel
theorem d_M_isLess_27 : decode c_M_isLess 27 = .ok (.if_icmp .ge 7, 3) := by decide +kernel
theorem d_M_isLess_30 : decode c_M_isLess 30 = .ok (.iconst 1, 1) := by decide +kernel
theorem d_M_isLess_31 : decode c_M_isLess 31 = .ok (.goto 4, 3) := by decide +kernel
theorem d_M_isLess_34 : decode c_M_isLess 34 = .ok (.iconst 0, 1) := by decide +kernel
theorem d_M_isLess_35 : decode c_M_isLess 35 = .ok (.ireturn, 1) := by decide +kernel
theorem d_M_eases_0 : decode c_M_eases 0 = .ok (.iconst 0, 1) := by decide +kernel
theorem d_M_eases_1 : decode c_M_eases 1 = .ok (.istore 4, 2) := by decide +kernel
theorem d_M_eases_3 : decode c_M_eases 3 = .ok (.iconst 0, 1) := by decide +kernel
theorem d_M_eases_4 : decode c_M_eases 4 = .ok (.istore 5, 2) := by decide +kernel
theorem d_M_eases_6 : decode c_M_eases 6 = .ok (.iload 5, 2) := by decide +kernel
theorem d_M_eases_8 : decode c_M_eases 8 = .ok (.bipush 8, 2) := by decide +kernel
theorem d_M_eases_10 : decode c_M_eases 10 = .ok (.if_icmp .ge 153, 3) := by decide +kernel
theorem d_M_eases_13 : decode c_M_eases 13 = .ok (.aload_n 0, 1) := by decide +kernel
theorem d_M_eases_14 : decode c_M_eases 14 = .ok (.iload_n 1, 1) := by decide +kernel
theorem d_M_eases_15 : decode c_M_eases 15 = .ok (.iload 5, 2) := by decide +kernel
theorem d_M_eases_17 : decode c_M_eases 17 = .ok (.invokevirtual 149, 3) := by decide +kernel
theorem d_M_eases_20 : decode c_M_eases 20 = .ok (.ifCond .eq 137, 3) := by decide +kernel
theorem d_M_eases_23 : decode c_M_eases 23 = .ok (.aload_n 0, 1) := by decide +kernel
theorem d_M_eases_24 : decode c_M_eases 24 = .ok (.iload_n 1, 1) := by decide +kernel
theorem d_M_eases_25 : decode c_M_eases 25 = .ok (.iload_n 2, 1) := by decide +kernel
theorem d_M_eases_26 : decode c_M_eases 26 = .ok (.iload 5, 2) := by decide +kernel
theorem d_M_eases_28 : decode c_M_eases 28 = .ok (.invokevirtual 152, 3) := by decide +kernel
theorem d_M_eases_31 : decode c_M_eases 31 = .ok (.ifCond .ne 6, 3) := by decide +kernel
theorem d_M_eases_34 : decode c_M_eases 34 = .ok (.goto 123, 3) := by decide +kernel
theorem d_M_eases_37 : decode c_M_eases 37 = .ok (.bipush 8, 2) := by decide +kernel
theorem d_M_eases_39 : decode c_M_eases 39 = .ok (.aload_n 0, 1) := by decide +kernel
theorem d_M_eases_40 : decode c_M_eases 40 = .ok (.iload_n 1, 1) := by decide +kernel
theorem d_M_eases_41 : decode c_M_eases 41 = .ok (.iload 5, 2) := by decide +kernel
theorem d_M_eases_43 : decode c_M_eases 43 = .ok (.invokevirtual 102, 3) := by decide +kernel
theorem d_M_eases_46 : decode c_M_eases 46 = .ok (.imul, 1) := by decide +kernel
theorem d_M_eases_47 : decode c_M_eases 47 = .ok (.iload 5, 2) := by decide +kernel
theorem d_M_eases_49 : decode c_M_eases 49 = .ok (.iadd, 1) := by decide +kernel
theorem d_M_eases_50 : decode c_M_eases 50 = .ok (.istore 6, 2) := by decide +kernel
theorem d_M_eases_52 : decode c_M_eases 52 = .ok (.aload_n 0, 1) := by decide +kernel
theorem d_M_eases_53 : decode c_M_eases 53 = .ok (.getfield 41, 3) := by decide +kernel
theorem d_M_eases_56 : decode c_M_eases 56 = .ok (.iload 6, 2) := by decide +kernel
theorem d_M_eases_58 : decode c_M_eases 58 = .ok (.iaload, 1) := by decide +kernel
theorem d_M_eases_59 : decode c_M_eases 59 = .ok (.ldc 155, 2) := by decide +kernel
theorem d_M_eases_61 : decode c_M_eases 61 = .ok (.if_icmp .ne 6, 3) := by decide +kernel
theorem d_M_eases_64 : decode c_M_eases 64 = .ok (.goto 93, 3) := by decide +kernel
theorem d_M_eases_67 : decode c_M_eases 67 = .ok (.aload_n 0, 1) := by decide +kernel
theorem d_M_eases_68 : decode c_M_eases 68 = .ok (.getfield 41, 3) := by decide +kernel
theorem d_M_eases_71 : decode c_M_eases 71 = .ok (.iload 6, 2) := by decide +kernel
theorem d_M_eases_73 : decode c_M_eases 73 = .ok (.iaload, 1) := by decide +kernel
theorem d_M_eases_74 : decode c_M_eases 74 = .ok (.aload_n 0, 1) := by decide +kernel
theorem d_M_eases_75 : decode c_M_eases 75 = .ok (.iload_n 1, 1) := by decide +kernel
theorem d_M_eases_76 : decode c_M_eases 76 = .ok (.iload 5, 2) := by decide +kernel
theorem d_M_eases_78 : decode c_M_eases 78 = .ok (.iload_n 3, 1) := by decide +kernel
theorem d_M_eases_79 : decode c_M_eases 79 = .ok (.invokevirtual 139, 3) := by decide +kernel
theorem d_M_eases_82 : decode c_M_eases 82 = .ok (.iadd, 1) := by decide +kernel
theorem d_M_eases_83 : decode c_M_eases 83 = .ok (.aload_n 0, 1) := by decide +kernel
theorem d_M_eases_84 : decode c_M_eases 84 = .ok (.iload_n 2, 1) := by decide +kernel
theorem d_M_eases_85 : decode c_M_eases 85 = .ok (.iload 5, 2) := by decide +kernel
theorem d_M_eases_87 : decode c_M_eases 87 = .ok (.iload_n 3, 1) := by decide +kernel
theorem d_M_eases_88 : decode c_M_eases 88 = .ok (.invokevirtual 156, 3) := by decide +kernel
theorem d_M_eases_91 : decode c_M_eases 91 = .ok (.iadd, 1) := by decide +kernel
theorem d_M_eases_92 : decode c_M_eases 92 = .ok (.istore 7, 2) := by decide +kernel
theorem d_M_eases_94 : decode c_M_eases 94 = .ok (.aload_n 0, 1) := by decide +kernel
theorem d_M_eases_95 : decode c_M_eases 95 = .ok (.iload 7, 2) := by decide +kernel
theorem d_M_eases_97 : decode c_M_eases 97 = .ok (.aload_n 0, 1) := by decide +kernel
theorem d_M_eases_98 : decode c_M_eases 98 = .ok (.getfield 44, 3) := by decide +kernel
theorem d_M_eases_101 : decode c_M_eases 101 = .ok (.iload 6, 2) := by decide +kernel
theorem d_M_eases_103 : decode c_M_eases 103 = .ok (.iaload, 1) := by decide +kernel
theorem d_M_eases_104 : decode c_M_eases 104 = .ok (.iconst 1, 1) := by decide +kernel
theorem d_M_eases_105 : decode c_M_eases 105 = .ok (.iadd, 1) := by decide +kernel
theorem d_M_eases_106 : decode c_M_eases 106 = .ok (.bipush 8, 2) := by decide +kernel
theorem d_M_eases_108 : decode c_M_eases 108 = .ok (.iload_n 1, 1) := by decide +kernel
theorem d_M_eases_109 : decode c_M_eases 109 = .ok (.imul, 1) := by decide +kernel
theorem d_M_eases_110 : decode c_M_eases 110 = .ok (.iload_n 2, 1) := by decide +kernel
theorem d_M_eases_111 : decode c_M_eases 111 = .ok (.iadd, 1) := by decide +kernel
theorem d_M_eases_112 : decode c_M_eases 112 = .ok (.invokevirtual 159, 3) := by decide +kernel
theorem d_M_eases_115 : decode c_M_eases 115 = .ok (.ifCond .ne 6, 3) := by decide +kernel
theorem d_M_eases_118 : decode c_M_eases 118 = .ok (.goto 39, 3) := by decide +kernel
theorem d_M_eases_121 : decode c_M_eases 121 = .ok (.aload_n 0, 1) := by decide +kernel
theorem d_M_eases_122 : decode c_M_eases 122 = .ok (.getfield 41, 3) := by decide +kernel
theorem d_M_eases_125 : decode c_M_eases 125 = .ok (.bipush 8, 2) := by decide +kernel
theorem d_M_eases_127 : decode c_M_eases 127 = .ok (.iload_n 1, 1) := by decide +kernel
theorem d_M_eases_128 : decode c_M_eases 128 = .ok (.imul, 1) := by decide +kernel
theorem d_M_eases_129 : decode c_M_eases 129 = .ok (.iload_n 2, 1) := by decide +kernel
theorem d_M_eases_130 : decode c_M_eases 130 = .ok (.iadd, 1) := by decide +kernel
theorem d_M_eases_131 : decode c_M_eases 131 = .ok (.iload 7, 2) := by decide +kernel
theorem d_M_eases_133 : decode c_M_eases 133 = .ok (.iastore, 1) := by decide +kernel
theorem d_M_eases_134 : decode c_M_eases 134 = .ok (.aload_n 0, 1) := by decide +kernel
theorem d_M_eases_135 : decode c_M_eases 135 = .ok (.getfield 44, 3) := by decide +kernel
theorem d_M_eases_138 : decode c_M_eases 138 = .ok (.bipush 8, 2) := by decide +kernel
theorem d_M_eases_140 : decode c_M_eases 140 = .ok (.iload_n 1, 1) := by decide +kernel
theorem d_M_eases_141 : decode c_M_eases 141 = .ok (.imul, 1) := by decide +kernel
theorem d_M_eases_142 : decode c_M_eases 142 = .ok (.iload_n 2, 1) := by decide +kernel
theorem d_M_eases_143 : decode c_M_eases 143 = .ok (.iadd, 1) := by decide +kernel
theorem d_M_eases_144 : decode c_M_eases 144 = .ok (.aload_n 0, 1) := by decide +kernel
theorem d_M_eases_145 : decode c_M_eases 145 = .ok (.getfield 44, 3) := by decide +kernel
theorem d_M_eases_148 : decode c_M_eases 148 = .ok (.iload 6, 2) := by decide +kernel
theorem d_M_eases_150 : decode c_M_eases 150 = .ok (.iaload, 1) := by decide +kernel
theorem d_M_eases_151 : decode c_M_eases 151 = .ok (.iconst 1, 1) := by decide +kernel
theorem d_M_eases_152 : decode c_M_eases 152 = .ok (.iadd, 1) := by decide +kernel
theorem d_M_eases_153 : decode c_M_eases 153 = .ok (.iastore, 1) := by decide +kernel
theorem d_M_eases_154 : decode c_M_eases 154 = .ok (.iconst 1, 1) := by decide +kernel
theorem d_M_eases_155 : decode c_M_eases 155 = .ok (.istore 4, 2) := by decide +kernel
theorem d_M_eases_157 : decode c_M_eases 157 = .ok (.iinc 5 1, 3) := by decide +kernel
theorem d_M_eases_160 : decode c_M_eases 160 = .ok (.goto (-154), 3) := by decide +kernel
theorem d_M_eases_163 : decode c_M_eases 163 = .ok (.iload 4, 2) := by decide +kernel
theorem d_M_eases_165 : decode c_M_eases 165 = .ok (.ireturn, 1) := by decide +kernel
theorem d_M_goesTo_0 : decode c_M_goesTo 0 = .ok (.iload_n 2, 1) := by decide +kernel
theorem d_M_goesTo_1 : decode c_M_goesTo 1 = .ok (.iconst 5, 1) := by decide +kernel
theorem d_M_goesTo_2 : decode c_M_goesTo 2 = .ok (.if_icmp .ne 7, 3) := by decide +kernel
theorem d_M_goesTo_5 : decode c_M_goesTo 5 = .ok (.aload_n 0, 1) := by decide +kernel
theorem d_M_goesTo_6 : decode c_M_goesTo 6 = .ok (.invokevirtual 162, 3) := by decide +kernel
theorem d_M_goesTo_9 : decode c_M_goesTo 9 = .ok (.iconst 0, 1) := by decide +kernel
theorem d_M_goesTo_10 : decode c_M_goesTo 10 = .ok (.istore_n 3, 1) := by decide +kernel
theorem d_M_goesTo_11 : decode c_M_goesTo 11 = .ok (.iload_n 3, 1) := by decide +kernel
theorem d_M_goesTo_12 : decode c_M_goesTo 12 = .ok (.sipush 648, 3) := by decide +kernel
theorem d_M_goesTo_15 : decode c_M_goesTo 15 = .ok (.if_icmp .ge 49, 3) := by decide +kernel
theorem d_M_goesTo_18 : decode c_M_goesTo 18 = .ok (.aload_n 0, 1) := by decide +kernel
theorem d_M_goesTo_19 : decode c_M_goesTo 19 = .ok (.getfield 41, 3) := by decide +kernel
theorem d_M_goesTo_22 : decode c_M_goesTo 22 = .ok (.iload_n 3, 1) := by decide +kernel
theorem d_M_goesTo_23 : decode c_M_goesTo 23 = .ok (.iload_n 3, 1) := by decide +kernel
theorem d_M_goesTo_24 : decode c_M_goesTo 24 = .ok (.bipush 8, 2) := by decide +kernel
theorem d_M_goesTo_26 : decode c_M_goesTo 26 = .ok (.idiv, 1) := by decide +kernel
theorem d_M_goesTo_27 : decode c_M_goesTo 27 = .ok (.iload_n 1, 1) := by decide +kernel
theorem d_M_goesTo_28 : decode c_M_goesTo 28 = .ok (.if_icmp .ne 7, 3) := by decide +kernel
theorem d_M_goesTo_31 : decode c_M_goesTo 31 = .ok (.iconst 0, 1) := by decide +kernel
theorem d_M_goesTo_32 : decode c_M_goesTo 32 = .ok (.goto 5, 3) := by decide +kernel
theorem d_M_goesTo_35 : decode c_M_goesTo 35 = .ok (.ldc 155, 2) := by decide +kernel
theorem d_M_goesTo_37 : decode c_M_goesTo 37 = .ok (.iastore, 1) := by decide +kernel
theorem d_M_goesTo_38 : decode c_M_goesTo 38 = .ok (.aload_n 0, 1) := by decide +kernel
theorem d_M_goesTo_39 : decode c_M_goesTo 39 = .ok (.getfield 44, 3) := by decide +kernel
theorem d_M_goesTo_42 : decode c_M_goesTo 42 = .ok (.iload_n 3, 1) := by decide +kernel
theorem d_M_goesTo_43 : decode c_M_goesTo 43 = .ok (.iload_n 3, 1) := by decide +kernel
theorem d_M_goesTo_44 : decode c_M_goesTo 44 = .ok (.bipush 8, 2) := by decide +kernel
theorem d_M_goesTo_46 : decode c_M_goesTo 46 = .ok (.idiv, 1) := by decide +kernel
theorem d_M_goesTo_47 : decode c_M_goesTo 47 = .ok (.iload_n 1, 1) := by decide +kernel
theorem d_M_goesTo_48 : decode c_M_goesTo 48 = .ok (.if_icmp .ne 7, 3) := by decide +kernel
theorem d_M_goesTo_51 : decode c_M_goesTo 51 = .ok (.iconst 0, 1) := by decide +kernel
theorem d_M_goesTo_52 : decode c_M_goesTo 52 = .ok (.goto 5, 3) := by decide +kernel
theorem d_M_goesTo_55 : decode c_M_goesTo 55 = .ok (.ldc 155, 2) := by decide +kernel
theorem d_M_goesTo_57 : decode c_M_goesTo 57 = .ok (.iastore, 1) := by decide +kernel
theorem d_M_goesTo_58 : decode c_M_goesTo 58 = .ok (.iinc 3 1, 3) := by decide +kernel
theorem d_M_goesTo_61 : decode c_M_goesTo 61 = .ok (.goto (-50), 3) := by decide +kernel
theorem d_M_goesTo_64 : decode c_M_goesTo 64 = .ok (.iconst 1, 1) := by decide +kernel
theorem d_M_goesTo_65 : decode c_M_goesTo 65 = .ok (.istore_n 3, 1) := by decide +kernel
theorem d_M_goesTo_66 : decode c_M_goesTo 66 = .ok (.iload_n 3, 1) := by decide +kernel
theorem d_M_goesTo_67 : decode c_M_goesTo 67 = .ok (.ifCond .eq 70, 3) := by decide +kernel
theorem d_M_goesTo_70 : decode c_M_goesTo 70 = .ok (.iconst 0, 1) := by decide +kernel
theorem d_M_goesTo_71 : decode c_M_goesTo 71 = .ok (.istore_n 3, 1) := by decide +kernel
theorem d_M_goesTo_72 : decode c_M_goesTo 72 = .ok (.iconst 0, 1) := by decide +kernel
theorem d_M_goesTo_73 : decode c_M_goesTo 73 = .ok (.istore 4, 2) := by decide +kernel
theorem d_M_goesTo_75 : decode c_M_goesTo 75 = .ok (.iload 4, 2) := by decide +kernel
theorem d_M_goesTo_77 : decode c_M_goesTo 77 = .ok (.aload_n 0, 1) := by decide +kernel
theorem d_M_goesTo_78 : decode c_M_goesTo 78 = .ok (.invokevirtual 90, 3) := by decide +kernel
theorem d_M_goesTo_81 : decode c_M_goesTo 81 = .ok (.if_icmp .ge 53, 3) := by decide +kernel
theorem d_M_goesTo_84 : decode c_M_goesTo 84 = .ok (.iconst 0, 1) := by decide +kernel
theorem d_M_goesTo_85 : decode c_M_goesTo 85 = .ok (.istore 5, 2) := by decide +kernel
theorem d_M_goesTo_87 : decode c_M_goesTo 87 = .ok (.iload 5, 2) := by decide +kernel
theorem d_M_goesTo_89 : decode c_M_goesTo 89 = .ok (.bipush 8, 2) := by decide +kernel
theorem d_M_goesTo_91 : decode c_M_goesTo 91 = .ok (.if_icmp .ge 37, 3) := by decide +kernel
theorem d_M_goesTo_94 : decode c_M_goesTo 94 = .ok (.iload 4, 2) := by decide +kernel
theorem d_M_goesTo_96 : decode c_M_goesTo 96 = .ok (.iload_n 1, 1) := by decide +kernel
theorem d_M_goesTo_97 : decode c_M_goesTo 97 = .ok (.if_icmp .eq 31, 3) := by decide +kernel
theorem d_M_goesTo_100 : decode c_M_goesTo 100 = .ok (.aload_n 0, 1) := by decide +kernel
theorem d_M_goesTo_101 : decode c_M_goesTo 101 = .ok (.iload 4, 2) := by decide +kernel
theorem d_M_goesTo_103 : decode c_M_goesTo 103 = .ok (.iload 5, 2) := by decide +kernel
theorem d_M_goesTo_105 : decode c_M_goesTo 105 = .ok (.iload_n 2, 1) := by decide +kernel
theorem d_M_goesTo_106 : decode c_M_goesTo 106 = .ok (.invokevirtual 165, 3) := by decide +kernel
theorem d_M_goesTo_109 : decode c_M_goesTo 109 = .ok (.ifCond .ne 7, 3) := by decide +kernel
theorem d_M_goesTo_112 : decode c_M_goesTo 112 = .ok (.iload_n 3, 1) := by decide +kernel
theorem d_M_goesTo_113 : decode c_M_goesTo 113 = .ok (.ifCond .eq 7, 3) := by decide +kernel
theorem d_M_goesTo_116 : decode c_M_goesTo 116 = .ok (.iconst 1, 1) := by decide +kernel
theorem d_M_goesTo_117 : decode c_M_goesTo 117 = .ok (.goto 4, 3) := by decide +kernel
theorem d_M_goesTo_120 : decode c_M_goesTo 120 = .ok (.iconst 0, 1) := by decide +kernel
theorem d_M_goesTo_121 : decode c_M_goesTo 121 = .ok (.istore_n 3, 1) := by decide +kernel
theorem d_M_goesTo_122 : decode c_M_goesTo 122 = .ok (.iinc 5 1, 3) := by decide +kernel
theorem d_M_goesTo_125 : decode c_M_goesTo 125 = .ok (.goto (-38), 3) := by decide +kernel
theorem d_M_goesTo_128 : decode c_M_goesTo 128 = .ok (.iinc 4 1, 3) := by decide +kernel
theorem d_M_goesTo_131 : decode c_M_goesTo 131 = .ok (.goto (-56), 3) := by decide +kernel
theorem d_M_goesTo_134 : decode c_M_goesTo 134 = .ok (.goto (-68), 3) := by decide +kernel
theorem d_M_goesTo_137 : decode c_M_goesTo 137 = .ok (.return_, 1) := by decide +kernel
theorem d_M_isWay_0 : decode c_M_isWay 0 = .ok (.aload_n 0, 1) := by decide +kernel
theorem d_M_isWay_1 : decode c_M_isWay 1 = .ok (.iload_n 2, 1) := by decide +kernel
theorem d_M_isWay_2 : decode c_M_isWay 2 = .ok (.iload_n 3, 1) := by decide +kernel
theorem d_M_isWay_3 : decode c_M_isWay 3 = .ok (.invokevirtual 168, 3) := by decide +kernel
theorem d_M_isWay_6 : decode c_M_isWay 6 = .ok (.aload_n 0, 1) := by decide +kernel
theorem d_M_isWay_7 : decode c_M_isWay 7 = .ok (.iconst 1, 1) := by decide +kernel
theorem d_M_isWay_8 : decode c_M_isWay 8 = .ok (.putfield 172, 3) := by decide +kernel
theorem d_M_isWay_11 : decode c_M_isWay 11 = .ok (.aload_n 0, 1) := by decide +kernel
theorem d_M_isWay_12 : decode c_M_isWay 12 = .ok (.getfield 50, 3) := by decide +kernel
theorem d_M_isWay_15 : decode c_M_isWay 15 = .ok (.iconst 0, 1) := by decide +kernel
theorem d_M_isWay_16 : decode c_M_isWay 16 = .ok (.iload_n 1, 1) := by decide +kernel
theorem d_M_isWay_17 : decode c_M_isWay 17 = .ok (.iastore, 1) := by decide +kernel
theorem d_M_isWay_18 : decode c_M_isWay 18 = .ok (.iload_n 1, 1) := by decide +kernel
theorem d_M_isWay_19 : decode c_M_isWay 19 = .ok (.istore 4, 2) := by decide +kernel
theorem d_M_isWay_21 : decode c_M_isWay 21 = .ok (.iconst (-1), 1) := by decide +kernel
theorem d_M_isWay_22 : decode c_M_isWay 22 = .ok (.istore 5, 2) := by decide +kernel
theorem d_M_isWay_24 : decode c_M_isWay 24 = .ok (.iload 4, 2) := by decide +kernel
theorem d_M_isWay_26 : decode c_M_isWay 26 = .ok (.iload_n 2, 1) := by decide +kernel
theorem d_M_isWay_27 : decode c_M_isWay 27 = .ok (.if_icmp .eq 264, 3) := by decide +kernel
theorem d_M_isWay_30 : decode c_M_isWay 30 = .ok (.iconst (-1), 1) := by decide +kernel
theorem d_M_isWay_31 : decode c_M_isWay 31 = .ok (.istore 6, 2) := by decide +kernel
theorem d_M_isWay_33 : decode c_M_isWay 33 = .ok (.ldc 155, 2) := by decide +kernel
theorem d_M_isWay_35 : decode c_M_isWay 35 = .ok (.istore 7, 2) := by decide +kernel
theorem d_M_isWay_37 : decode c_M_isWay 37 = .ok (.ldc 155, 2) := by decide +kernel
theorem d_M_isWay_39 : decode c_M_isWay 39 = .ok (.istore 8, 2) := by decide +kernel
theorem d_M_isWay_41 : decode c_M_isWay 41 = .ok (.iconst 0, 1) := by decide +kernel
theorem d_M_isWay_42 : decode c_M_isWay 42 = .ok (.istore 9, 2) := by decide +kernel
theorem d_M_isWay_44 : decode c_M_isWay 44 = .ok (.iload 9, 2) := by decide +kernel
theorem d_M_isWay_46 : decode c_M_isWay 46 = .ok (.bipush 8, 2) := by decide +kernel
theorem d_M_isWay_48 : decode c_M_isWay 48 = .ok (.if_icmp .ge 197, 3) := by decide +kernel
theorem d_M_isWay_51 : decode c_M_isWay 51 = .ok (.aload_n 0, 1) := by decide +kernel
theorem d_M_isWay_52 : decode c_M_isWay 52 = .ok (.iload 4, 2) := by decide +kernel
theorem d_M_isWay_54 : decode c_M_isWay 54 = .ok (.iload 9, 2) := by decide +kernel
theorem d_M_isWay_56 : decode c_M_isWay 56 = .ok (.invokevirtual 149, 3) := by decide +kernel
theorem d_M_isWay_59 : decode c_M_isWay 59 = .ok (.ifCond .eq 180, 3) := by decide +kernel
theorem d_M_isWay_62 : decode c_M_isWay 62 = .ok (.iload 5, 2) := by decide +kernel
theorem d_M_isWay_64 : decode c_M_isWay 64 = .ok (.iconst (-1), 1) := by decide +kernel
theorem d_M_isWay_65 : decode c_M_isWay 65 = .ok (.if_icmp .eq 19, 3) := by decide +kernel
theorem d_M_isWay_68 : decode c_M_isWay 68 = .ok (.aload_n 0, 1) := by decide +kernel
theorem d_M_isWay_69 : decode c_M_isWay 69 = .ok (.iload 4, 2) := by decide +kernel
theorem d_M_isWay_71 : decode c_M_isWay 71 = .ok (.iload 5, 2) := by decide +kernel
theorem d_M_isWay_73 : decode c_M_isWay 73 = .ok (.iload 9, 2) := by decide +kernel
theorem d_M_isWay_75 : decode c_M_isWay 75 = .ok (.invokevirtual 152, 3) := by decide +kernel
theorem d_M_isWay_78 : decode c_M_isWay 78 = .ok (.ifCond .ne 6, 3) := by decide +kernel
theorem d_M_isWay_81 : decode c_M_isWay 81 = .ok (.goto 158, 3) := by decide +kernel
theorem d_M_isWay_84 : decode c_M_isWay 84 = .ok (.aload_n 0, 1) := by decide +kernel
theorem d_M_isWay_85 : decode c_M_isWay 85 = .ok (.iload 4, 2) := by decide +kernel
theorem d_M_isWay_87 : decode c_M_isWay 87 = .ok (.iload 9, 2) := by decide +kernel
theorem d_M_isWay_89 : decode c_M_isWay 89 = .ok (.invokevirtual 102, 3) := by decide +kernel
theorem d_M_isWay_92 : decode c_M_isWay 92 = .ok (.istore 10, 2) := by decide +kernel
theorem d_M_isWay_94 : decode c_M_isWay 94 = .ok (.aload_n 0, 1) := by decide +kernel
theorem d_M_isWay_95 : decode c_M_isWay 95 = .ok (.getfield 41, 3) := by decide +kernel
theorem d_M_isWay_98 : decode c_M_isWay 98 = .ok (.bipush 8, 2) := by decide +kernel
theorem d_M_isWay_100 : decode c_M_isWay 100 = .ok (.iload 10, 2) := by decide +kernel
theorem d_M_isWay_102 : decode c_M_isWay 102 = .ok (.imul, 1) := by decide +kernel
theorem d_M_isWay_103 : decode c_M_isWay 103 = .ok (.iload 9, 2) := by decide +kernel
theorem d_M_isWay_105 : decode c_M_isWay 105 = .ok (.iadd, 1) := by decide +kernel
theorem d_M_isWay_106 : decode c_M_isWay 106 = .ok (.iaload, 1) := by decide +kernel
theorem d_M_isWay_107 : decode c_M_isWay 107 = .ok (.ldc 155, 2) := by decide +kernel
theorem d_M_isWay_109 : decode c_M_isWay 109 = .ok (.if_icmp .ne 6, 3) := by decide +kernel
theorem d_M_isWay_112 : decode c_M_isWay 112 = .ok (.goto 127, 3) := by decide +kernel
theorem d_M_isWay_115 : decode c_M_isWay 115 = .ok (.aload_n 0, 1) := by decide +kernel
theorem d_M_isWay_116 : decode c_M_isWay 116 = .ok (.getfield 41, 3) := by decide +kernel
theorem d_M_isWay_119 : decode c_M_isWay 119 = .ok (.bipush 8, 2) := by decide +kernel
theorem d_M_isWay_121 : decode c_M_isWay 121 = .ok (.iload 10, 2) := by decide +kernel
theorem d_M_isWay_123 : decode c_M_isWay 123 = .ok (.imul, 1) := by decide +kernel
theorem d_M_isWay_124 : decode c_M_isWay 124 = .ok (.iload 9, 2) := by decide +kernel
theorem d_M_isWay_126 : decode c_M_isWay 126 = .ok (.iadd, 1) := by decide +kernel
theorem d_M_isWay_127 : decode c_M_isWay 127 = .ok (.iaload, 1) := by decide +kernel
theorem d_M_isWay_128 : decode c_M_isWay 128 = .ok (.aload_n 0, 1) := by decide +kernel
theorem d_M_isWay_129 : decode c_M_isWay 129 = .ok (.iload 4, 2) := by decide +kernel
theorem d_M_isWay_131 : decode c_M_isWay 131 = .ok (.iload 9, 2) := by decide +kernel
theorem d_M_isWay_133 : decode c_M_isWay 133 = .ok (.iload_n 3, 1) := by decide +kernel
theorem d_M_isWay_134 : decode c_M_isWay 134 = .ok (.invokevirtual 139, 3) := by decide +kernel
theorem d_M_isWay_137 : decode c_M_isWay 137 = .ok (.iadd, 1) := by decide +kernel
theorem d_M_isWay_138 : decode c_M_isWay 138 = .ok (.iload 5, 2) := by decide +kernel
theorem d_M_isWay_140 : decode c_M_isWay 140 = .ok (.iconst (-1), 1) := by decide +kernel
theorem d_M_isWay_141 : decode c_M_isWay 141 = .ok (.if_icmp .ne 7, 3) := by decide +kernel
theorem d_M_isWay_144 : decode c_M_isWay 144 = .ok (.iconst 0, 1) := by decide +kernel
theorem d_M_isWay_145 : decode c_M_isWay 145 = .ok (.goto 12, 3) := by decide +kernel
theorem d_M_isWay_148 : decode c_M_isWay 148 = .ok (.aload_n 0, 1) := by decide +kernel
theorem d_M_isWay_149 : decode c_M_isWay 149 = .ok (.iload 5, 2) := by decide +kernel
theorem d_M_isWay_151 : decode c_M_isWay 151 = .ok (.iload 9, 2) := by decide +kernel
theorem d_M_isWay_153 : decode c_M_isWay 153 = .ok (.iload_n 3, 1) := by decide +kernel
theorem d_M_isWay_154 : decode c_M_isWay 154 = .ok (.invokevirtual 156, 3) := by decide +kernel
theorem d_M_isWay_157 : decode c_M_isWay 157 = .ok (.iadd, 1) := by decide +kernel
theorem d_M_isWay_158 : decode c_M_isWay 158 = .ok (.istore 11, 2) := by decide +kernel
theorem d_M_isWay_160 : decode c_M_isWay 160 = .ok (.aload_n 0, 1) := by decide +kernel
theorem d_M_isWay_161 : decode c_M_isWay 161 = .ok (.getfield 44, 3) := by decide +kernel
theorem d_M_isWay_164 : decode c_M_isWay 164 = .ok (.bipush 8, 2) := by decide +kernel
theorem d_M_isWay_166 : decode c_M_isWay 166 = .ok (.iload 10, 2) := by decide +kernel
theorem d_M_isWay_168 : decode c_M_isWay 168 = .ok (.imul, 1) := by decide +kernel
theorem d_M_isWay_169 : decode c_M_isWay 169 = .ok (.iload 9, 2) := by decide +kernel
theorem d_M_isWay_171 : decode c_M_isWay 171 = .ok (.iadd, 1) := by decide +kernel
theorem d_M_isWay_172 : decode c_M_isWay 172 = .ok (.iaload, 1) := by decide +kernel
theorem d_M_isWay_173 : decode c_M_isWay 173 = .ok (.iconst 1, 1) := by decide +kernel
theorem d_M_isWay_174 : decode c_M_isWay 174 = .ok (.iadd, 1) := by decide +kernel
theorem d_M_isWay_175 : decode c_M_isWay 175 = .ok (.istore 12, 2) := by decide +kernel
theorem d_M_isWay_177 : decode c_M_isWay 177 = .ok (.iload 6, 2) := by decide +kernel
theorem d_M_isWay_179 : decode c_M_isWay 179 = .ok (.iconst (-1), 1) := by decide +kernel
theorem d_M_isWay_180 : decode c_M_isWay 180 = .ok (.if_icmp .eq 47, 3) := by decide +kernel
theorem d_M_isWay_183 : decode c_M_isWay 183 = .ok (.iload 11, 2) := by decide +kernel
theorem d_M_isWay_185 : decode c_M_isWay 185 = .ok (.iload 7, 2) := by decide +kernel
theorem d_M_isWay_187 : decode c_M_isWay 187 = .ok (.if_icmp .gt 52, 3) := by decide +kernel
theorem d_M_isWay_190 : decode c_M_isWay 190 = .ok (.iload 11, 2) := by decide +kernel
theorem d_M_isWay_192 : decode c_M_isWay 192 = .ok (.iload 7, 2) := by decide +kernel
theorem d_M_isWay_194 : decode c_M_isWay 194 = .ok (.if_icmp .ne 33, 3) := by decide +kernel
theorem d_M_isWay_197 : decode c_M_isWay 197 = .ok (.iload 12, 2) := by decide +kernel
theorem d_M_isWay_199 : decode c_M_isWay 199 = .ok (.iload 8, 2) := by decide +kernel
theorem d_M_isWay_201 : decode c_M_isWay 201 = .ok (.if_icmp .gt 38, 3) := by decide +kernel
theorem d_M_isWay_204 : decode c_M_isWay 204 = .ok (.iload 12, 2) := by decide +kernel
theorem d_M_isWay_206 : decode c_M_isWay 206 = .ok (.iload 8, 2) := by decide +kernel
theorem d_M_isWay_208 : decode c_M_isWay 208 = .ok (.if_icmp .ne 19, 3) := by decide +kernel
theorem d_M_isWay_211 : decode c_M_isWay 211 = .ok (.iload 10, 2) := by decide +kernel
theorem d_M_isWay_213 : decode c_M_isWay 213 = .ok (.aload_n 0, 1) := by decide +kernel
theorem d_M_isWay_214 : decode c_M_isWay 214 = .ok (.iload 4, 2) := by decide +kernel
theorem d_M_isWay_216 : decode c_M_isWay 216 = .ok (.iload 6, 2) := by decide +kernel
theorem d_M_isWay_218 : decode c_M_isWay 218 = .ok (.invokevirtual 102, 3) := by decide +kernel
theorem d_M_isWay_221 : decode c_M_isWay 221 = .ok (.if_icmp .le 6, 3) := by decide +kernel
theorem d_M_isWay_224 : decode c_M_isWay 224 = .ok (.goto 15, 3) := by decide +kernel
theorem d_M_isWay_227 : decode c_M_isWay 227 = .ok (.iload 9, 2) := by decide +kernel
theorem d_M_isWay_229 : decode c_M_isWay 229 = .ok (.istore 6, 2) := by decide +kernel
theorem d_M_isWay_231 : decode c_M_isWay 231 = .ok (.iload 11, 2) := by decide +kernel
theorem d_M_isWay_233 : decode c_M_isWay 233 = .ok (.istore 7, 2) := by decide +kernel
theorem d_M_isWay_235 : decode c_M_isWay 235 = .ok (.iload 12, 2) := by decide +kernel
theorem d_M_isWay_237 : decode c_M_isWay 237 = .ok (.istore 8, 2) := by decide +kernel
theorem d_M_isWay_239 : decode c_M_isWay 239 = .ok (.iinc 9 1, 3) := by decide +kernel
theorem d_M_isWay_242 : decode c_M_isWay 242 = .ok (.goto (-198), 3) := by decide +kernel
theorem d_M_isWay_245 : decode c_M_isWay 245 = .ok (.iload 6, 2) := by decide +kernel
theorem d_M_isWay_247 : decode c_M_isWay 247 = .ok (.iconst (-1), 1) := by decide +kernel
theorem d_M_isWay_248 : decode c_M_isWay 248 = .ok (.if_icmp .ne 5, 3) := by decide +kernel
theorem d_M_isWay_251 : decode c_M_isWay 251 = .ok (.iconst 0, 1) := by decide +kernel
theorem d_M_isWay_252 : decode c_M_isWay 252 = .ok (.ireturn, 1) := by decide +kernel
theorem d_M_isWay_253 : decode c_M_isWay 253 = .ok (.aload_n 0, 1) := by decide +kernel
theorem d_M_isWay_254 : decode c_M_isWay 254 = .ok (.iload 4, 2) := by decide +kernel
theorem d_M_isWay_256 : decode c_M_isWay 256 = .ok (.iload 6, 2) := by decide +kernel
theorem d_M_isWay_258 : decode c_M_isWay 258 = .ok (.invokevirtual 102, 3) := by decide +kernel
theorem d_M_isWay_261 : decode c_M_isWay 261 = .ok (.istore 4, 2) := by decide +kernel
theorem d_M_isWay_263 : decode c_M_isWay 263 = .ok (.iload 6, 2) := by decide +kernel
theorem d_M_isWay_265 : decode c_M_isWay 265 = .ok (.istore 5, 2) := by decide +kernel
theorem d_M_isWay_267 : decode c_M_isWay 267 = .ok (.aload_n 0, 1) := by decide +kernel
theorem d_M_isWay_268 : decode c_M_isWay 268 = .ok (.getfield 50, 3) := by decide +kernel
theorem d_M_isWay_271 : decode c_M_isWay 271 = .ok (.aload_n 0, 1) := by decide +kernel
theorem d_M_isWay_272 : decode c_M_isWay 272 = .ok (.getfield 172, 3) := by decide +kernel
theorem d_M_isWay_275 : decode c_M_isWay 275 = .ok (.iload 4, 2) := by decide +kernel
theorem d_M_isWay_277 : decode c_M_isWay 277 = .ok (.iastore, 1) := by decide +kernel
theorem d_M_isWay_278 : decode c_M_isWay 278 = .ok (.aload_n 0, 1) := by decide +kernel
theorem d_M_isWay_279 : decode c_M_isWay 279 = .ok (.dup, 1) := by decide +kernel
theorem d_M_isWay_280 : decode c_M_isWay 280 = .ok (.getfield 172, 3) := by decide +kernel
theorem d_M_isWay_283 : decode c_M_isWay 283 = .ok (.iconst 1, 1) := by decide +kernel
theorem d_M_isWay_284 : decode c_M_isWay 284 = .ok (.iadd, 1) := by decide +kernel
theorem d_M_isWay_285 : decode c_M_isWay 285 = .ok (.putfield 172, 3) := by decide +kernel
theorem d_M_isWay_288 : decode c_M_isWay 288 = .ok (.goto (-264), 3) := by decide +kernel
theorem d_M_isWay_291 : decode c_M_isWay 291 = .ok (.iconst 1, 1) := by decide +kernel
theorem d_M_isWay_292 : decode c_M_isWay 292 = .ok (.ireturn, 1) := by decide +kernel
theorem d_M_headingOf_0 : decode c_M_headingOf 0 = .ok (.iload_n 0, 1) := by decide +kernel
theorem d_M_headingOf_1 : decode c_M_headingOf 1 = .ok (.ifCond .ge 14, 3) := by decide +kernel
theorem d_M_headingOf_4 : decode c_M_headingOf 4 = .ok (.iload_n 1, 1) := by decide +kernel
theorem d_M_headingOf_5 : decode c_M_headingOf 5 = .ok (.ifCond .ge 8, 3) := by decide +kernel
theorem d_M_headingOf_8 : decode c_M_headingOf 8 = .ok (.bipush 7, 2) := by decide +kernel
theorem d_M_headingOf_10 : decode c_M_headingOf 10 = .ok (.goto 4, 3) := by decide +kernel
theorem d_M_headingOf_13 : decode c_M_headingOf 13 = .ok (.iload_n 1, 1) := by decide +kernel
theorem d_M_headingOf_14 : decode c_M_headingOf 14 = .ok (.ireturn, 1) := by decide +kernel
theorem d_M_headingOf_15 : decode c_M_headingOf 15 = .ok (.iload_n 0, 1) := by decide +kernel
theorem d_M_headingOf_16 : decode c_M_headingOf 16 = .ok (.ifCond .ne 14, 3) := by decide +kernel
theorem d_M_headingOf_19 : decode c_M_headingOf 19 = .ok (.iload_n 1, 1) := by decide +kernel
theorem d_M_headingOf_20 : decode c_M_headingOf 20 = .ok (.ifCond .ge 8, 3) := by decide +kernel
theorem d_M_headingOf_23 : decode c_M_headingOf 23 = .ok (.bipush 6, 2) := by decide +kernel
theorem d_M_headingOf_25 : decode c_M_headingOf 25 = .ok (.goto 4, 3) := by decide +kernel
theorem d_M_headingOf_28 : decode c_M_headingOf 28 = .ok (.iconst 2, 1) := by decide +kernel
theorem d_M_headingOf_29 : decode c_M_headingOf 29 = .ok (.ireturn, 1) := by decide +kernel
theorem d_M_headingOf_30 : decode c_M_headingOf 30 = .ok (.iconst 4, 1) := by decide +kernel
theorem d_M_headingOf_31 : decode c_M_headingOf 31 = .ok (.iload_n 1, 1) := by decide +kernel
theorem d_M_headingOf_32 : decode c_M_headingOf 32 = .ok (.isub, 1) := by decide +kernel
theorem d_M_headingOf_33 : decode c_M_headingOf 33 = .ok (.ireturn, 1) := by decide +kernel
theorem d_M_heading_0 : decode c_M_heading 0 = .ok (.iload_n 2, 1) := by decide +kernel
theorem d_M_heading_1 : decode c_M_heading 1 = .ok (.aload_n 0, 1) := by decide +kernel
theorem d_M_heading_2 : decode c_M_heading 2 = .ok (.getfield 7, 3) := by decide +kernel
theorem d_M_heading_5 : decode c_M_heading 5 = .ok (.iconst 0, 1) := by decide +kernel
theorem d_M_heading_6 : decode c_M_heading 6 = .ok (.iaload, 1) := by decide +kernel
theorem d_M_heading_7 : decode c_M_heading 7 = .ok (.idiv, 1) := by decide +kernel
theorem d_M_heading_8 : decode c_M_heading 8 = .ok (.iload_n 1, 1) := by decide +kernel
theorem d_M_heading_9 : decode c_M_heading 9 = .ok (.aload_n 0, 1) := by decide +kernel
theorem d_M_heading_10 : decode c_M_heading 10 = .ok (.getfield 7, 3) := by decide +kernel
theorem d_M_heading_13 : decode c_M_heading 13 = .ok (.iconst 0, 1) := by decide +kernel
theorem d_M_heading_14 : decode c_M_heading 14 = .ok (.iaload, 1) := by decide +kernel
theorem d_M_heading_15 : decode c_M_heading 15 = .ok (.idiv, 1) := by decide +kernel
theorem d_M_heading_16 : decode c_M_heading 16 = .ok (.isub, 1) := by decide +kernel
theorem d_M_heading_17 : decode c_M_heading 17 = .ok (.iload_n 2, 1) := by decide +kernel
theorem d_M_heading_18 : decode c_M_heading 18 = .ok (.aload_n 0, 1) := by decide +kernel
theorem d_M_heading_19 : decode c_M_heading 19 = .ok (.getfield 7, 3) := by decide +kernel
theorem d_M_heading_22 : decode c_M_heading 22 = .ok (.iconst 0, 1) := by decide +kernel
theorem d_M_heading_23 : decode c_M_heading 23 = .ok (.iaload, 1) := by decide +kernel
theorem d_M_heading_24 : decode c_M_heading 24 = .ok (.irem, 1) := by decide +kernel
theorem d_M_heading_25 : decode c_M_heading 25 = .ok (.iload_n 1, 1) := by decide +kernel
theorem d_M_heading_26 : decode c_M_heading 26 = .ok (.aload_n 0, 1) := by decide +kernel
theorem d_M_heading_27 : decode c_M_heading 27 = .ok (.getfield 7, 3) := by decide +kernel
theorem d_M_heading_30 : decode c_M_heading 30 = .ok (.iconst 0, 1) := by decide +kernel
theorem d_M_heading_31 : decode c_M_heading 31 = .ok (.iaload, 1) := by decide +kernel
theorem d_M_heading_32 : decode c_M_heading 32 = .ok (.irem, 1) := by decide +kernel
theorem d_M_heading_33 : decode c_M_heading 33 = .ok (.isub, 1) := by decide +kernel
theorem d_M_heading_34 : decode c_M_heading 34 = .ok (.invokestatic 175, 3) := by decide +kernel
theorem d_M_heading_37 : decode c_M_heading 37 = .ok (.ireturn, 1) := by decide +kernel
theorem d_M_measure_0 : decode c_M_measure 0 = .ok (.iconst 0, 1) := by decide +kernel
theorem d_M_measure_1 : decode c_M_measure 1 = .ok (.istore_n 2, 1) := by decide +kernel
theorem d_M_measure_2 : decode c_M_measure 2 = .ok (.iconst (-1), 1) := by decide +kernel
theorem d_M_measure_3 : decode c_M_measure 3 = .ok (.istore_n 3, 1) := by decide +kernel
theorem d_M_measure_4 : decode c_M_measure 4 = .ok (.iconst 1, 1) := by decide +kernel
theorem d_M_measure_5 : decode c_M_measure 5 = .ok (.istore 4, 2) := by decide +kernel
theorem d_M_measure_7 : decode c_M_measure 7 = .ok (.iload 4, 2) := by decide +kernel
theorem d_M_measure_9 : decode c_M_measure 9 = .ok (.aload_n 0, 1) := by decide +kernel
theorem d_M_measure_10 : decode c_M_measure 10 = .ok (.getfield 172, 3) := by decide +kernel
theorem d_M_measure_13 : decode c_M_measure 13 = .ok (.if_icmp .ge 71, 3) := by decide +kernel
theorem d_M_measure_16 : decode c_M_measure 16 = .ok (.aload_n 0, 1) := by decide +kernel
theorem d_M_measure_17 : decode c_M_measure 17 = .ok (.aload_n 0, 1) := by decide +kernel
theorem d_M_measure_18 : decode c_M_measure 18 = .ok (.getfield 50, 3) := by decide +kernel
theorem d_M_measure_21 : decode c_M_measure 21 = .ok (.iload 4, 2) := by decide +kernel
theorem d_M_measure_23 : decode c_M_measure 23 = .ok (.iconst 1, 1) := by decide +kernel
theorem d_M_measure_24 : decode c_M_measure 24 = .ok (.isub, 1) := by decide +kernel
theorem d_M_measure_25 : decode c_M_measure 25 = .ok (.iaload, 1) := by decide +kernel
theorem d_M_measure_26 : decode c_M_measure 26 = .ok (.aload_n 0, 1) := by decide +kernel
theorem d_M_measure_27 : decode c_M_measure 27 = .ok (.getfield 50, 3) := by decide +kernel
theorem d_M_measure_30 : decode c_M_measure 30 = .ok (.iload 4, 2) := by decide +kernel
theorem d_M_measure_32 : decode c_M_measure 32 = .ok (.iaload, 1) := by decide +kernel
theorem d_M_measure_33 : decode c_M_measure 33 = .ok (.invokevirtual 178, 3) := by decide +kernel
theorem d_M_measure_36 : decode c_M_measure 36 = .ok (.istore 5, 2) := by decide +kernel
theorem d_M_measure_38 : decode c_M_measure 38 = .ok (.iload_n 2, 1) := by decide +kernel
theorem d_M_measure_39 : decode c_M_measure 39 = .ok (.aload_n 0, 1) := by decide +kernel
theorem d_M_measure_40 : decode c_M_measure 40 = .ok (.aload_n 0, 1) := by decide +kernel
theorem d_M_measure_41 : decode c_M_measure 41 = .ok (.getfield 50, 3) := by decide +kernel
theorem d_M_measure_44 : decode c_M_measure 44 = .ok (.iload 4, 2) := by decide +kernel
theorem d_M_measure_46 : decode c_M_measure 46 = .ok (.iconst 1, 1) := by decide +kernel
theorem d_M_measure_47 : decode c_M_measure 47 = .ok (.isub, 1) := by decide +kernel
theorem d_M_measure_48 : decode c_M_measure 48 = .ok (.iaload, 1) := by decide +kernel
theorem d_M_measure_49 : decode c_M_measure 49 = .ok (.iload 5, 2) := by decide +kernel
theorem d_M_measure_51 : decode c_M_measure 51 = .ok (.iload_n 1, 1) := by decide +kernel
theorem d_M_measure_52 : decode c_M_measure 52 = .ok (.invokevirtual 139, 3) := by decide +kernel
theorem d_M_measure_55 : decode c_M_measure 55 = .ok (.iload_n 3, 1) := by decide +kernel
theorem d_M_measure_56 : decode c_M_measure 56 = .ok (.iconst (-1), 1) := by decide +kernel
theorem d_M_measure_57 : decode c_M_measure 57 = .ok (.if_icmp .ne 7, 3) := by decide +kernel
theorem d_M_measure_60 : decode c_M_measure 60 = .ok (.iconst 0, 1) := by decide +kernel
theorem d_M_measure_61 : decode c_M_measure 61 = .ok (.goto 11, 3) := by decide +kernel
theorem d_M_measure_64 : decode c_M_measure 64 = .ok (.aload_n 0, 1) := by decide +kernel
theorem d_M_measure_65 : decode c_M_measure 65 = .ok (.iload_n 3, 1) := by decide +kernel
theorem d_M_measure_66 : decode c_M_measure 66 = .ok (.iload 5, 2) := by decide +kernel
theorem d_M_measure_68 : decode c_M_measure 68 = .ok (.iload_n 1, 1) := by decide +kernel
theorem d_M_measure_69 : decode c_M_measure 69 = .ok (.invokevirtual 156, 3) := by decide +kernel
theorem d_M_measure_72 : decode c_M_measure 72 = .ok (.iadd, 1) := by decide +kernel
theorem d_M_measure_73 : decode c_M_measure 73 = .ok (.iadd, 1) := by decide +kernel
theorem d_M_measure_74 : decode c_M_measure 74 = .ok (.istore_n 2, 1) := by decide +kernel
theorem d_M_measure_75 : decode c_M_measure 75 = .ok (.iload 5, 2) := by decide +kernel
theorem d_M_measure_77 : decode c_M_measure 77 = .ok (.istore_n 3, 1) := by decide +kernel
theorem d_M_measure_78 : decode c_M_measure 78 = .ok (.iinc 4 1, 3) := by decide +kernel
theorem d_M_measure_81 : decode c_M_measure 81 = .ok (.goto (-74), 3) := by decide +kernel
theorem d_M_measure_84 : decode c_M_measure 84 = .ok (.iload_n 2, 1) := by decide +kernel
theorem d_M_measure_85 : decode c_M_measure 85 = .ok (.ireturn, 1) := by decide +kernel
theorem d_M_isLesser_0 : decode c_M_isLesser 0 = .ok (.iload_n 2, 1) := by decide +kernel
theorem d_M_isLesser_1 : decode c_M_isLesser 1 = .ok (.aload_n 0, 1) := by decide +kernel
theorem d_M_isLesser_2 : decode c_M_isLesser 2 = .ok (.getfield 41, 3) := by decide +kernel
theorem d_M_isLesser_5 : decode c_M_isLesser 5 = .ok (.iload_n 1, 1) := by decide +kernel
theorem d_M_isLesser_6 : decode c_M_isLesser 6 = .ok (.iaload, 1) := by decide +kernel
theorem d_M_isLesser_7 : decode c_M_isLesser 7 = .ok (.if_icmp .lt 5, 3) := by decide +kernel
theorem d_M_isLesser_10 : decode c_M_isLesser 10 = .ok (.iconst 0, 1) := by decide +kernel
theorem d_M_isLesser_11 : decode c_M_isLesser 11 = .ok (.ireturn, 1) := by decide +kernel
theorem d_M_isLesser_12 : decode c_M_isLesser 12 = .ok (.aload_n 0, 1) := by decide +kernel
theorem d_M_isLesser_13 : decode c_M_isLesser 13 = .ok (.getfield 41, 3) := by decide +kernel
theorem d_M_isLesser_16 : decode c_M_isLesser 16 = .ok (.iload_n 1, 1) := by decide +kernel
theorem d_M_isLesser_17 : decode c_M_isLesser 17 = .ok (.iload_n 2, 1) := by decide +kernel
theorem d_M_isLesser_18 : decode c_M_isLesser 18 = .ok (.iastore, 1) := by decide +kernel
theorem d_M_isLesser_19 : decode c_M_isLesser 19 = .ok (.iconst 1, 1) := by decide +kernel
theorem d_M_isLesser_20 : decode c_M_isLesser 20 = .ok (.ireturn, 1) := by decide +kernel
theorem d_M_goesFrom_0 : decode c_M_goesFrom 0 = .ok (.iconst 0, 1) := by decide +kernel
theorem d_M_goesFrom_1 : decode c_M_goesFrom 1 = .ok (.istore_n 2, 1) := by decide +kernel
theorem d_M_goesFrom_2 : decode c_M_goesFrom 2 = .ok (.iload_n 2, 1) := by decide +kernel
theorem d_M_goesFrom_3 : decode c_M_goesFrom 3 = .ok (.sipush 648, 3) := by decide +kernel
theorem d_M_goesFrom_6 : decode c_M_goesFrom 6 = .ok (.if_icmp .ge 17, 3) := by decide +kernel
theorem d_M_goesFrom_9 : decode c_M_goesFrom 9 = .ok (.aload_n 0, 1) := by decide +kernel
theorem d_M_goesFrom_10 : decode c_M_goesFrom 10 = .ok (.getfield 41, 3) := by decide +kernel
theorem d_M_goesFrom_13 : decode c_M_goesFrom 13 = .ok (.iload_n 2, 1) := by decide +kernel
theorem d_M_goesFrom_14 : decode c_M_goesFrom 14 = .ok (.ldc 155, 2) := by decide +kernel
theorem d_M_goesFrom_16 : decode c_M_goesFrom 16 = .ok (.iastore, 1) := by decide +kernel
theorem d_M_goesFrom_17 : decode c_M_goesFrom 17 = .ok (.iinc 2 1, 3) := by decide +kernel
theorem d_M_goesFrom_20 : decode c_M_goesFrom 20 = .ok (.goto (-18), 3) := by decide +kernel
theorem d_M_goesFrom_23 : decode c_M_goesFrom 23 = .ok (.iconst 0, 1) := by decide +kernel
theorem d_M_goesFrom_24 : decode c_M_goesFrom 24 = .ok (.istore_n 2, 1) := by decide +kernel
theorem d_M_goesFrom_25 : decode c_M_goesFrom 25 = .ok (.iload_n 2, 1) := by decide +kernel
theorem d_M_goesFrom_26 : decode c_M_goesFrom 26 = .ok (.bipush 8, 2) := by decide +kernel
theorem d_M_goesFrom_28 : decode c_M_goesFrom 28 = .ok (.if_icmp .ge 41, 3) := by decide +kernel
theorem d_M_goesFrom_31 : decode c_M_goesFrom 31 = .ok (.aload_n 0, 1) := by decide +kernel
theorem d_M_goesFrom_32 : decode c_M_goesFrom 32 = .ok (.iload_n 1, 1) := by decide +kernel
theorem d_M_goesFrom_33 : decode c_M_goesFrom 33 = .ok (.iload_n 2, 1) := by decide +kernel
theorem d_M_goesFrom_34 : decode c_M_goesFrom 34 = .ok (.invokevirtual 149, 3) := by decide +kernel
theorem d_M_goesFrom_37 : decode c_M_goesFrom 37 = .ok (.ifCond .eq 26, 3) := by decide +kernel
theorem d_M_goesFrom_40 : decode c_M_goesFrom 40 = .ok (.aload_n 0, 1) := by decide +kernel
theorem d_M_goesFrom_41 : decode c_M_goesFrom 41 = .ok (.getfield 41, 3) := by decide +kernel
theorem d_M_goesFrom_44 : decode c_M_goesFrom 44 = .ok (.bipush 8, 2) := by decide +kernel
theorem d_M_goesFrom_46 : decode c_M_goesFrom 46 = .ok (.aload_n 0, 1) := by decide +kernel
theorem d_M_goesFrom_47 : decode c_M_goesFrom 47 = .ok (.iload_n 1, 1) := by decide +kernel
theorem d_M_goesFrom_48 : decode c_M_goesFrom 48 = .ok (.iload_n 2, 1) := by decide +kernel
theorem d_M_goesFrom_49 : decode c_M_goesFrom 49 = .ok (.invokevirtual 102, 3) := by decide +kernel
theorem d_M_goesFrom_52 : decode c_M_goesFrom 52 = .ok (.imul, 1) := by decide +kernel
theorem d_M_goesFrom_53 : decode c_M_goesFrom 53 = .ok (.iload_n 2, 1) := by decide +kernel
theorem d_M_goesFrom_54 : decode c_M_goesFrom 54 = .ok (.iadd, 1) := by decide +kernel
theorem d_M_goesFrom_55 : decode c_M_goesFrom 55 = .ok (.aload_n 0, 1) := by decide +kernel
theorem d_M_goesFrom_56 : decode c_M_goesFrom 56 = .ok (.iload_n 1, 1) := by decide +kernel
theorem d_M_goesFrom_57 : decode c_M_goesFrom 57 = .ok (.iload_n 2, 1) := by decide +kernel
theorem d_M_goesFrom_58 : decode c_M_goesFrom 58 = .ok (.iconst 0, 1) := by decide +kernel
theorem d_M_goesFrom_59 : decode c_M_goesFrom 59 = .ok (.invokevirtual 139, 3) := by decide +kernel
theorem d_M_goesFrom_62 : decode c_M_goesFrom 62 = .ok (.iastore, 1) := by decide +kernel
theorem d_M_goesFrom_63 : decode c_M_goesFrom 63 = .ok (.iinc 2 1, 3) := by decide +kernel
theorem d_M_goesFrom_66 : decode c_M_goesFrom 66 = .ok (.goto (-41), 3) := by decide +kernel
theorem d_M_goesFrom_69 : decode c_M_goesFrom 69 = .ok (.iconst 1, 1) := by decide +kernel
theorem d_M_goesFrom_70 : decode c_M_goesFrom 70 = .ok (.istore_n 2, 1) := by decide +kernel
theorem d_M_goesFrom_71 : decode c_M_goesFrom 71 = .ok (.iload_n 2, 1) := by decide +kernel
theorem d_M_goesFrom_72 : decode c_M_goesFrom 72 = .ok (.ifCond .eq 150, 3) := by decide +kernel
theorem d_M_goesFrom_75 : decode c_M_goesFrom 75 = .ok (.iconst 0, 1) := by decide +kernel
theorem d_M_goesFrom_76 : decode c_M_goesFrom 76 = .ok (.istore_n 2, 1) := by decide +kernel
theorem d_M_goesFrom_77 : decode c_M_goesFrom 77 = .ok (.iconst 0, 1) := by decide +kernel
theorem d_M_goesFrom_78 : decode c_M_goesFrom 78 = .ok (.istore_n 3, 1) := by decide +kernel
theorem d_M_goesFrom_79 : decode c_M_goesFrom 79 = .ok (.iload_n 3, 1) := by decide +kernel
theorem d_M_goesFrom_80 : decode c_M_goesFrom 80 = .ok (.bipush 8, 2) := by decide +kernel
theorem d_M_goesFrom_82 : decode c_M_goesFrom 82 = .ok (.aload_n 0, 1) := by decide +kernel
theorem d_M_goesFrom_83 : decode c_M_goesFrom 83 = .ok (.invokevirtual 90, 3) := by decide +kernel
theorem d_M_goesFrom_86 : decode c_M_goesFrom 86 = .ok (.imul, 1) := by decide +kernel
theorem d_M_goesFrom_87 : decode c_M_goesFrom 87 = .ok (.if_icmp .ge 132, 3) := by decide +kernel
theorem d_M_goesFrom_90 : decode c_M_goesFrom 90 = .ok (.aload_n 0, 1) := by decide +kernel
theorem d_M_goesFrom_91 : decode c_M_goesFrom 91 = .ok (.getfield 41, 3) := by decide +kernel
theorem d_M_goesFrom_94 : decode c_M_goesFrom 94 = .ok (.iload_n 3, 1) := by decide +kernel
theorem d_M_goesFrom_95 : decode c_M_goesFrom 95 = .ok (.iaload, 1) := by decide +kernel
theorem d_M_goesFrom_96 : decode c_M_goesFrom 96 = .ok (.ldc 155, 2) := by decide +kernel
theorem d_M_goesFrom_98 : decode c_M_goesFrom 98 = .ok (.if_icmp .ne 6, 3) := by decide +kernel
theorem d_M_goesFrom_101 : decode c_M_goesFrom 101 = .ok (.goto 112, 3) := by decide +kernel
theorem d_M_goesFrom_104 : decode c_M_goesFrom 104 = .ok (.iload_n 3, 1) := by decide +kernel
theorem d_M_goesFrom_105 : decode c_M_goesFrom 105 = .ok (.bipush 8, 2) := by decide +kernel
theorem d_M_goesFrom_107 : decode c_M_goesFrom 107 = .ok (.idiv, 1) := by decide +kernel
theorem d_M_goesFrom_108 : decode c_M_goesFrom 108 = .ok (.istore 4, 2) := by decide +kernel
theorem d_M_goesFrom_110 : decode c_M_goesFrom 110 = .ok (.iconst 0, 1) := by decide +kernel
theorem d_M_goesFrom_111 : decode c_M_goesFrom 111 = .ok (.istore 5, 2) := by decide +kernel
theorem d_M_goesFrom_113 : decode c_M_goesFrom 113 = .ok (.iload 5, 2) := by decide +kernel
theorem d_M_goesFrom_115 : decode c_M_goesFrom 115 = .ok (.bipush 8, 2) := by decide +kernel
theorem d_M_goesFrom_117 : decode c_M_goesFrom 117 = .ok (.if_icmp .ge 96, 3) := by decide +kernel
theorem d_M_goesFrom_120 : decode c_M_goesFrom 120 = .ok (.aload_n 0, 1) := by decide +kernel
theorem d_M_goesFrom_121 : decode c_M_goesFrom 121 = .ok (.iload 4, 2) := by decide +kernel
theorem d_M_goesFrom_123 : decode c_M_goesFrom 123 = .ok (.iload 5, 2) := by decide +kernel
theorem d_M_goesFrom_125 : decode c_M_goesFrom 125 = .ok (.invokevirtual 149, 3) := by decide +kernel
theorem d_M_goesFrom_128 : decode c_M_goesFrom 128 = .ok (.ifCond .eq 79, 3) := by decide +kernel
theorem d_M_goesFrom_131 : decode c_M_goesFrom 131 = .ok (.aload_n 0, 1) := by decide +kernel
theorem d_M_goesFrom_132 : decode c_M_goesFrom 132 = .ok (.iload 4, 2) := by decide +kernel
theorem d_M_goesFrom_134 : decode c_M_goesFrom 134 = .ok (.iload_n 3, 1) := by decide +kernel
theorem d_M_goesFrom_135 : decode c_M_goesFrom 135 = .ok (.bipush 8, 2) := by decide +kernel
theorem d_M_goesFrom_137 : decode c_M_goesFrom 137 = .ok (.irem, 1) := by decide +kernel
theorem d_M_goesFrom_138 : decode c_M_goesFrom 138 = .ok (.iload 5, 2) := by decide +kernel
theorem d_M_goesFrom_140 : decode c_M_goesFrom 140 = .ok (.invokevirtual 152, 3) := by decide +kernel
theorem d_M_goesFrom_143 : decode c_M_goesFrom 143 = .ok (.ifCond .ne 6, 3) := by decide +kernel
theorem d_M_goesFrom_146 : decode c_M_goesFrom 146 = .ok (.goto 61, 3) := by decide +kernel
theorem d_M_goesFrom_149 : decode c_M_goesFrom 149 = .ok (.aload_n 0, 1) := by decide +kernel
theorem d_M_goesFrom_150 : decode c_M_goesFrom 150 = .ok (.bipush 8, 2) := by decide +kernel
theorem d_M_goesFrom_152 : decode c_M_goesFrom 152 = .ok (.aload_n 0, 1) := by decide +kernel
theorem d_M_goesFrom_153 : decode c_M_goesFrom 153 = .ok (.iload 4, 2) := by decide +kernel
theorem d_M_goesFrom_155 : decode c_M_goesFrom 155 = .ok (.iload 5, 2) := by decide +kernel
theorem d_M_goesFrom_157 : decode c_M_goesFrom 157 = .ok (.invokevirtual 102, 3) := by decide +kernel
theorem d_M_goesFrom_160 : decode c_M_goesFrom 160 = .ok (.imul, 1) := by decide +kernel
theorem d_M_goesFrom_161 : decode c_M_goesFrom 161 = .ok (.iload 5, 2) := by decide +kernel
theorem d_M_goesFrom_163 : decode c_M_goesFrom 163 = .ok (.iadd, 1) := by decide +kernel
theorem d_M_goesFrom_164 : decode c_M_goesFrom 164 = .ok (.aload_n 0, 1) := by decide +kernel
theorem d_M_goesFrom_165 : decode c_M_goesFrom 165 = .ok (.getfield 41, 3) := by decide +kernel
theorem d_M_goesFrom_168 : decode c_M_goesFrom 168 = .ok (.iload_n 3, 1) := by decide +kernel
theorem d_M_goesFrom_169 : decode c_M_goesFrom 169 = .ok (.iaload, 1) := by decide +kernel
theorem d_M_goesFrom_170 : decode c_M_goesFrom 170 = .ok (.aload_n 0, 1) := by decide +kernel
theorem d_M_goesFrom_171 : decode c_M_goesFrom 171 = .ok (.iload 4, 2) := by decide +kernel
theorem d_M_goesFrom_173 : decode c_M_goesFrom 173 = .ok (.iload 5, 2) := by decide +kernel
theorem d_M_goesFrom_175 : decode c_M_goesFrom 175 = .ok (.iconst 0, 1) := by decide +kernel
theorem d_M_goesFrom_176 : decode c_M_goesFrom 176 = .ok (.invokevirtual 139, 3) := by decide +kernel
theorem d_M_goesFrom_179 : decode c_M_goesFrom 179 = .ok (.iadd, 1) := by decide +kernel
theorem d_M_goesFrom_180 : decode c_M_goesFrom 180 = .ok (.aload_n 0, 1) := by decide +kernel
theorem d_M_goesFrom_181 : decode c_M_goesFrom 181 = .ok (.iload_n 3, 1) := by decide +kernel
theorem d_M_goesFrom_182 : decode c_M_goesFrom 182 = .ok (.bipush 8, 2) := by decide +kernel
theorem d_M_goesFrom_184 : decode c_M_goesFrom 184 = .ok (.irem, 1) := by decide +kernel
theorem d_M_goesFrom_185 : decode c_M_goesFrom 185 = .ok (.iload 5, 2) := by decide +kernel
theorem d_M_goesFrom_187 : decode c_M_goesFrom 187 = .ok (.invokevirtual 146, 3) := by decide +kernel
theorem d_M_goesFrom_190 : decode c_M_goesFrom 190 = .ok (.iadd, 1) := by decide +kernel
theorem d_M_goesFrom_191 : decode c_M_goesFrom 191 = .ok (.invokevirtual 181, 3) := by decide +kernel
theorem d_M_goesFrom_194 : decode c_M_goesFrom 194 = .ok (.ifCond .ne 7, 3) := by decide +kernel
theorem d_M_goesFrom_197 : decode c_M_goesFrom 197 = .ok (.iload_n 2, 1) := by decide +kernel
theorem d_M_goesFrom_198 : decode c_M_goesFrom 198 = .ok (.ifCond .eq 7, 3) := by decide +kernel
theorem d_M_goesFrom_201 : decode c_M_goesFrom 201 = .ok (.iconst 1, 1) := by decide +kernel
theorem d_M_goesFrom_202 : decode c_M_goesFrom 202 = .ok (.goto 4, 3) := by decide +kernel
theorem d_M_goesFrom_205 : decode c_M_goesFrom 205 = .ok (.iconst 0, 1) := by decide +kernel
theorem d_M_goesFrom_206 : decode c_M_goesFrom 206 = .ok (.istore_n 2, 1) := by decide +kernel
theorem d_M_goesFrom_207 : decode c_M_goesFrom 207 = .ok (.iinc 5 1, 3) := by decide +kernel
theorem d_M_goesFrom_210 : decode c_M_goesFrom 210 = .ok (.goto (-97), 3) := by decide +kernel
theorem d_M_goesFrom_213 : decode c_M_goesFrom 213 = .ok (.iinc 3 1, 3) := by decide +kernel
theorem d_M_goesFrom_216 : decode c_M_goesFrom 216 = .ok (.goto (-137), 3) := by decide +kernel
theorem d_M_goesFrom_219 : decode c_M_goesFrom 219 = .ok (.goto (-148), 3) := by decide +kernel
theorem d_M_goesFrom_222 : decode c_M_goesFrom 222 = .ok (.return_, 1) := by decide +kernel
theorem d_M_costAt_0 : decode c_M_costAt 0 = .ok (.ldc 155, 2) := by decide +kernel
theorem d_M_costAt_2 : decode c_M_costAt 2 = .ok (.istore_n 2, 1) := by decide +kernel
theorem d_M_costAt_3 : decode c_M_costAt 3 = .ok (.iconst 0, 1) := by decide +kernel
theorem d_M_costAt_4 : decode c_M_costAt 4 = .ok (.istore_n 3, 1) := by decide +kernel
theorem d_M_costAt_5 : decode c_M_costAt 5 = .ok (.iload_n 3, 1) := by decide +kernel
theorem d_M_costAt_6 : decode c_M_costAt 6 = .ok (.bipush 8, 2) := by decide +kernel
theorem d_M_costAt_8 : decode c_M_costAt 8 = .ok (.if_icmp .ge 25, 3) := by decide +kernel
theorem d_M_costAt_11 : decode c_M_costAt 11 = .ok (.iload_n 2, 1) := by decide +kernel
theorem d_M_costAt_12 : decode c_M_costAt 12 = .ok (.aload_n 0, 1) := by decide +kernel
theorem d_M_costAt_13 : decode c_M_costAt 13 = .ok (.getfield 41, 3) := by decide +kernel
theorem d_M_costAt_16 : decode c_M_costAt 16 = .ok (.bipush 8, 2) := by decide +kernel
theorem d_M_costAt_18 : decode c_M_costAt 18 = .ok (.iload_n 1, 1) := by decide +kernel
theorem d_M_costAt_19 : decode c_M_costAt 19 = .ok (.imul, 1) := by decide +kernel
theorem d_M_costAt_20 : decode c_M_costAt 20 = .ok (.iload_n 3, 1) := by decide +kernel
theorem d_M_costAt_21 : decode c_M_costAt 21 = .ok (.iadd, 1) := by decide +kernel
theorem d_M_costAt_22 : decode c_M_costAt 22 = .ok (.iaload, 1) := by decide +kernel
theorem d_M_costAt_23 : decode c_M_costAt 23 = .ok (.invokestatic 184, 3) := by decide +kernel
theorem d_M_costAt_26 : decode c_M_costAt 26 = .ok (.istore_n 2, 1) := by decide +kernel
theorem d_M_costAt_27 : decode c_M_costAt 27 = .ok (.iinc 3 1, 3) := by decide +kernel
theorem d_M_costAt_30 : decode c_M_costAt 30 = .ok (.goto (-25), 3) := by decide +kernel
theorem d_M_costAt_33 : decode c_M_costAt 33 = .ok (.iload_n 2, 1) := by decide +kernel
theorem d_M_costAt_34 : decode c_M_costAt 34 = .ok (.ireturn, 1) := by decide +kernel
theorem d_M_isThere_0 : decode c_M_isThere 0 = .ok (.aload_n 0, 1) := by decide +kernel
theorem d_M_isThere_1 : decode c_M_isThere 1 = .ok (.iload_n 1, 1) := by decide +kernel
theorem d_M_isThere_2 : decode c_M_isThere 2 = .ok (.invokevirtual 187, 3) := by decide +kernel
theorem d_M_isThere_5 : decode c_M_isThere 5 = .ok (.aload_n 0, 1) := by decide +kernel
theorem d_M_isThere_6 : decode c_M_isThere 6 = .ok (.iload_n 2, 1) := by decide +kernel
theorem d_M_isThere_7 : decode c_M_isThere 7 = .ok (.invokevirtual 191, 3) := by decide +kernel
theorem d_M_isThere_10 : decode c_M_isThere 10 = .ok (.ldc 155, 2) := by decide +kernel
theorem d_M_isThere_12 : decode c_M_isThere 12 = .ok (.if_icmp .ge 7, 3) := by decide +kernel
theorem d_M_isThere_15 : decode c_M_isThere 15 = .ok (.iconst 1, 1) := by decide +kernel
theorem d_M_isThere_16 : decode c_M_isThere 16 = .ok (.goto 4, 3) := by decide +kernel
theorem d_M_isThere_19 : decode c_M_isThere 19 = .ok (.iconst 0, 1) := by decide +kernel
theorem d_M_isThere_20 : decode c_M_isThere 20 = .ok (.ireturn, 1) := by decide +kernel
theorem d_M_runOf_0 : decode c_M_runOf 0 = .ok (.iconst (-1), 1) := by decide +kernel
theorem d_M_runOf_1 : decode c_M_runOf 1 = .ok (.istore_n 2, 1) := by decide +kernel
theorem d_M_runOf_2 : decode c_M_runOf 2 = .ok (.iconst 0, 1) := by decide +kernel
theorem d_M_runOf_3 : decode c_M_runOf 3 = .ok (.istore_n 3, 1) := by decide +kernel
theorem d_M_runOf_4 : decode c_M_runOf 4 = .ok (.iload_n 3, 1) := by decide +kernel
theorem d_M_runOf_5 : decode c_M_runOf 5 = .ok (.bipush 8, 2) := by decide +kernel
theorem d_M_runOf_7 : decode c_M_runOf 7 = .ok (.if_icmp .ge 78, 3) := by decide +kernel
theorem d_M_runOf_10 : decode c_M_runOf 10 = .ok (.aload_n 0, 1) := by decide +kernel
theorem d_M_runOf_11 : decode c_M_runOf 11 = .ok (.iload_n 1, 1) := by decide +kernel
theorem d_M_runOf_12 : decode c_M_runOf 12 = .ok (.iload_n 3, 1) := by decide +kernel
theorem d_M_runOf_13 : decode c_M_runOf 13 = .ok (.invokevirtual 102, 3) := by decide +kernel
theorem d_M_runOf_16 : decode c_M_runOf 16 = .ok (.istore 4, 2) := by decide +kernel
theorem d_M_runOf_18 : decode c_M_runOf 18 = .ok (.iload 4, 2) := by decide +kernel
theorem d_M_runOf_20 : decode c_M_runOf 20 = .ok (.iconst (-1), 1) := by decide +kernel
theorem d_M_runOf_21 : decode c_M_runOf 21 = .ok (.if_icmp .eq 58, 3) := by decide +kernel
theorem d_M_runOf_24 : decode c_M_runOf 24 = .ok (.aload_n 0, 1) := by decide +kernel
theorem d_M_runOf_25 : decode c_M_runOf 25 = .ok (.getfield 7, 3) := by decide +kernel
theorem d_M_runOf_28 : decode c_M_runOf 28 = .ok (.bipush 13, 2) := by decide +kernel
theorem d_M_runOf_30 : decode c_M_runOf 30 = .ok (.iload 4, 2) := by decide +kernel
theorem d_M_runOf_32 : decode c_M_runOf 32 = .ok (.iadd, 1) := by decide +kernel
theorem d_M_runOf_33 : decode c_M_runOf 33 = .ok (.iaload, 1) := by decide +kernel
theorem d_M_runOf_34 : decode c_M_runOf 34 = .ok (.aload_n 0, 1) := by decide +kernel
theorem d_M_runOf_35 : decode c_M_runOf 35 = .ok (.getfield 7, 3) := by decide +kernel
theorem d_M_runOf_38 : decode c_M_runOf 38 = .ok (.bipush 13, 2) := by decide +kernel
theorem d_M_runOf_40 : decode c_M_runOf 40 = .ok (.iload_n 1, 1) := by decide +kernel
theorem d_M_runOf_41 : decode c_M_runOf 41 = .ok (.iadd, 1) := by decide +kernel
theorem d_M_runOf_42 : decode c_M_runOf 42 = .ok (.iaload, 1) := by decide +kernel
theorem d_M_runOf_43 : decode c_M_runOf 43 = .ok (.if_icmp .lt 6, 3) := by decide +kernel
theorem d_M_runOf_46 : decode c_M_runOf 46 = .ok (.goto 33, 3) := by decide +kernel
theorem d_M_runOf_49 : decode c_M_runOf 49 = .ok (.iload_n 2, 1) := by decide +kernel
theorem d_M_runOf_50 : decode c_M_runOf 50 = .ok (.iconst (-1), 1) := by decide +kernel
theorem d_M_runOf_51 : decode c_M_runOf 51 = .ok (.if_icmp .eq 25, 3) := by decide +kernel
theorem d_M_runOf_54 : decode c_M_runOf 54 = .ok (.aload_n 0, 1) := by decide +kernel
theorem d_M_runOf_55 : decode c_M_runOf 55 = .ok (.getfield 7, 3) := by decide +kernel
theorem d_M_runOf_58 : decode c_M_runOf 58 = .ok (.bipush 13, 2) := by decide +kernel
theorem d_M_runOf_60 : decode c_M_runOf 60 = .ok (.iload 4, 2) := by decide +kernel
theorem d_M_runOf_62 : decode c_M_runOf 62 = .ok (.iadd, 1) := by decide +kernel
theorem d_M_runOf_63 : decode c_M_runOf 63 = .ok (.iaload, 1) := by decide +kernel
theorem d_M_runOf_64 : decode c_M_runOf 64 = .ok (.aload_n 0, 1) := by decide +kernel
theorem d_M_runOf_65 : decode c_M_runOf 65 = .ok (.getfield 7, 3) := by decide +kernel
theorem d_M_runOf_68 : decode c_M_runOf 68 = .ok (.bipush 13, 2) := by decide +kernel
theorem d_M_runOf_70 : decode c_M_runOf 70 = .ok (.iload_n 2, 1) := by decide +kernel
theorem d_M_runOf_71 : decode c_M_runOf 71 = .ok (.iadd, 1) := by decide +kernel
theorem d_M_runOf_72 : decode c_M_runOf 72 = .ok (.iaload, 1) := by decide +kernel
theorem d_M_runOf_73 : decode c_M_runOf 73 = .ok (.if_icmp .ge 6, 3) := by decide +kernel
theorem d_M_runOf_76 : decode c_M_runOf 76 = .ok (.iload 4, 2) := by decide +kernel
theorem d_M_runOf_78 : decode c_M_runOf 78 = .ok (.istore_n 2, 1) := by decide +kernel
theorem d_M_runOf_79 : decode c_M_runOf 79 = .ok (.iinc 3 1, 3) := by decide +kernel
theorem d_M_runOf_82 : decode c_M_runOf 82 = .ok (.goto (-78), 3) := by decide +kernel
theorem d_M_runOf_85 : decode c_M_runOf 85 = .ok (.iload_n 2, 1) := by decide +kernel
theorem d_M_runOf_86 : decode c_M_runOf 86 = .ok (.ireturn, 1) := by decide +kernel
theorem d_M_laysCatches_0 : decode c_M_laysCatches 0 = .ok (.iconst 0, 1) := by decide +kernel
theorem d_M_laysCatches_1 : decode c_M_laysCatches 1 = .ok (.istore_n 1, 1) := by decide +kernel
theorem d_M_laysCatches_2 : decode c_M_laysCatches 2 = .ok (.iload_n 1, 1) := by decide +kernel
theorem d_M_laysCatches_3 : decode c_M_laysCatches 3 = .ok (.aload_n 0, 1) := by decide +kernel
theorem d_M_laysCatches_4 : decode c_M_laysCatches 4 = .ok (.invokevirtual 90, 3) := by decide +kernel
theorem d_M_laysCatches_7 : decode c_M_laysCatches 7 = .ok (.if_icmp .ge 16, 3) := by decide +kernel
theorem d_M_laysCatches_10 : decode c_M_laysCatches 10 = .ok (.aload_n 0, 1) := by decide +kernel
theorem d_M_laysCatches_11 : decode c_M_laysCatches 11 = .ok (.getfield 81, 3) := by decide +kernel
theorem d_M_laysCatches_14 : decode c_M_laysCatches 14 = .ok (.iload_n 1, 1) := by decide +kernel
theorem d_M_laysCatches_15 : decode c_M_laysCatches 15 = .ok (.iconst 0, 1) := by decide +kernel
theorem d_M_laysCatches_16 : decode c_M_laysCatches 16 = .ok (.iastore, 1) := by decide +kernel
theorem d_M_laysCatches_17 : decode c_M_laysCatches 17 = .ok (.iinc 1 1, 3) := by decide +kernel
theorem d_M_laysCatches_20 : decode c_M_laysCatches 20 = .ok (.goto (-18), 3) := by decide +kernel
theorem d_M_laysCatches_23 : decode c_M_laysCatches 23 = .ok (.iconst 0, 1) := by decide +kernel
theorem d_M_laysCatches_24 : decode c_M_laysCatches 24 = .ok (.istore_n 1, 1) := by decide +kernel
theorem d_M_laysCatches_25 : decode c_M_laysCatches 25 = .ok (.iload_n 1, 1) := by decide +kernel
theorem d_M_laysCatches_26 : decode c_M_laysCatches 26 = .ok (.aload_n 0, 1) := by decide +kernel
theorem d_M_laysCatches_27 : decode c_M_laysCatches 27 = .ok (.invokevirtual 90, 3) := by decide +kernel
theorem d_M_laysCatches_30 : decode c_M_laysCatches 30 = .ok (.if_icmp .ge 35, 3) := by decide +kernel
theorem d_M_laysCatches_33 : decode c_M_laysCatches 33 = .ok (.iload_n 1, 1) := by decide +kernel
theorem d_M_laysCatches_34 : decode c_M_laysCatches 34 = .ok (.istore_n 2, 1) := by decide +kernel
theorem d_M_laysCatches_35 : decode c_M_laysCatches 35 = .ok (.iload_n 2, 1) := by decide +kernel
theorem d_M_laysCatches_36 : decode c_M_laysCatches 36 = .ok (.iconst (-1), 1) := by decide +kernel
theorem d_M_laysCatches_37 : decode c_M_laysCatches 37 = .ok (.if_icmp .eq 22, 3) := by decide +kernel
theorem d_M_laysCatches_40 : decode c_M_laysCatches 40 = .ok (.aload_n 0, 1) := by decide +kernel
theorem d_M_laysCatches_41 : decode c_M_laysCatches 41 = .ok (.getfield 81, 3) := by decide +kernel
theorem d_M_laysCatches_44 : decode c_M_laysCatches 44 = .ok (.iload_n 2, 1) := by decide +kernel
theorem d_M_laysCatches_45 : decode c_M_laysCatches 45 = .ok (.dup2, 1) := by decide +kernel
theorem d_M_laysCatches_46 : decode c_M_laysCatches 46 = .ok (.iaload, 1) := by decide +kernel
theorem d_M_laysCatches_47 : decode c_M_laysCatches 47 = .ok (.iconst 1, 1) := by decide +kernel
theorem d_M_laysCatches_48 : decode c_M_laysCatches 48 = .ok (.iadd, 1) := by decide +kernel
theorem d_M_laysCatches_49 : decode c_M_laysCatches 49 = .ok (.iastore, 1) := by decide +kernel
theorem d_M_laysCatches_50 : decode c_M_laysCatches 50 = .ok (.aload_n 0, 1) := by decide +kernel
theorem d_M_laysCatches_51 : decode c_M_laysCatches 51 = .ok (.iload_n 2, 1) := by decide +kernel
theorem d_M_laysCatches_52 : decode c_M_laysCatches 52 = .ok (.invokevirtual 194, 3) := by decide +kernel
theorem d_M_laysCatches_55 : decode c_M_laysCatches 55 = .ok (.istore_n 2, 1) := by decide +kernel
theorem d_M_laysCatches_56 : decode c_M_laysCatches 56 = .ok (.goto (-21), 3) := by decide +kernel
theorem d_M_laysCatches_59 : decode c_M_laysCatches 59 = .ok (.iinc 1 1, 3) := by decide +kernel
theorem d_M_laysCatches_62 : decode c_M_laysCatches 62 = .ok (.goto (-37), 3) := by decide +kernel
theorem d_M_laysCatches_65 : decode c_M_laysCatches 65 = .ok (.return_, 1) := by decide +kernel
theorem d_M_isEdge_0 : decode c_M_isEdge 0 = .ok (.iload_n 1, 1) := by decide +kernel
theorem d_M_isEdge_1 : decode c_M_isEdge 1 = .ok (.aload_n 0, 1) := by decide +kernel
theorem d_M_isEdge_2 : decode c_M_isEdge 2 = .ok (.getfield 7, 3) := by decide +kernel
theorem d_M_isEdge_5 : decode c_M_isEdge 5 = .ok (.iconst 0, 1) := by decide +kernel
theorem d_M_isEdge_6 : decode c_M_isEdge 6 = .ok (.iaload, 1) := by decide +kernel
theorem d_M_isEdge_7 : decode c_M_isEdge 7 = .ok (.idiv, 1) := by decide +kernel
theorem d_M_isEdge_8 : decode c_M_isEdge 8 = .ok (.istore_n 2, 1) := by decide +kernel
theorem d_M_isEdge_9 : decode c_M_isEdge 9 = .ok (.iload_n 1, 1) := by decide +kernel
theorem d_M_isEdge_10 : decode c_M_isEdge 10 = .ok (.aload_n 0, 1) := by decide +kernel
theorem d_M_isEdge_11 : decode c_M_isEdge 11 = .ok (.getfield 7, 3) := by decide +kernel
theorem d_M_isEdge_14 : decode c_M_isEdge 14 = .ok (.iconst 0, 1) := by decide +kernel
theorem d_M_isEdge_15 : decode c_M_isEdge 15 = .ok (.iaload, 1) := by decide +kernel
theorem d_M_isEdge_16 : decode c_M_isEdge 16 = .ok (.irem, 1) := by decide +kernel
theorem d_M_isEdge_17 : decode c_M_isEdge 17 = .ok (.istore_n 3, 1) := by decide +kernel
theorem d_M_isEdge_18 : decode c_M_isEdge 18 = .ok (.iload_n 2, 1) := by decide +kernel
theorem d_M_isEdge_19 : decode c_M_isEdge 19 = .ok (.ifCond .eq 31, 3) := by decide +kernel
theorem d_M_isEdge_22 : decode c_M_isEdge 22 = .ok (.iload_n 2, 1) := by decide +kernel
theorem d_M_isEdge_23 : decode c_M_isEdge 23 = .ok (.aload_n 0, 1) := by decide +kernel
theorem d_M_isEdge_24 : decode c_M_isEdge 24 = .ok (.getfield 7, 3) := by decide +kernel
theorem d_M_isEdge_27 : decode c_M_isEdge 27 = .ok (.iconst 1, 1) := by decide +kernel
theorem d_M_isEdge_28 : decode c_M_isEdge 28 = .ok (.iaload, 1) := by decide +kernel
theorem d_M_isEdge_29 : decode c_M_isEdge 29 = .ok (.iconst 1, 1) := by decide +kernel
theorem d_M_isEdge_30 : decode c_M_isEdge 30 = .ok (.isub, 1) := by decide +kernel
theorem d_M_isEdge_31 : decode c_M_isEdge 31 = .ok (.if_icmp .eq 19, 3) := by decide +kernel
theorem d_M_isEdge_34 : decode c_M_isEdge 34 = .ok (.iload_n 3, 1) := by decide +kernel
theorem d_M_isEdge_35 : decode c_M_isEdge 35 = .ok (.ifCond .eq 15, 3) := by decide +kernel
theorem d_M_isEdge_38 : decode c_M_isEdge 38 = .ok (.iload_n 3, 1) := by decide +kernel
theorem d_M_isEdge_39 : decode c_M_isEdge 39 = .ok (.aload_n 0, 1) := by decide +kernel
theorem d_M_isEdge_40 : decode c_M_isEdge 40 = .ok (.getfield 7, 3) := by decide +kernel
theorem d_M_isEdge_43 : decode c_M_isEdge 43 = .ok (.iconst 0, 1) := by decide +kernel
theorem d_M_isEdge_44 : decode c_M_isEdge 44 = .ok (.iaload, 1) := by decide +kernel
theorem d_M_isEdge_45 : decode c_M_isEdge 45 = .ok (.iconst 1, 1) := by decide +kernel
theorem d_M_isEdge_46 : decode c_M_isEdge 46 = .ok (.isub, 1) := by decide +kernel
theorem d_M_isEdge_47 : decode c_M_isEdge 47 = .ok (.if_icmp .ne 7, 3) := by decide +kernel
theorem d_M_isEdge_50 : decode c_M_isEdge 50 = .ok (.iconst 1, 1) := by decide +kernel
theorem d_M_isEdge_51 : decode c_M_isEdge 51 = .ok (.goto 4, 3) := by decide +kernel
theorem d_M_isEdge_54 : decode c_M_isEdge 54 = .ok (.iconst 0, 1) := by decide +kernel
theorem d_M_isEdge_55 : decode c_M_isEdge 55 = .ok (.ireturn, 1) := by decide +kernel
theorem d_M_sinks_0 : decode c_M_sinks 0 = .ok (.iconst 0, 1) := by decide +kernel
theorem d_M_sinks_1 : decode c_M_sinks 1 = .ok (.istore_n 2, 1) := by decide +kernel
theorem d_M_sinks_2 : decode c_M_sinks 2 = .ok (.iconst 0, 1) := by decide +kernel
theorem d_M_sinks_3 : decode c_M_sinks 3 = .ok (.istore_n 3, 1) := by decide +kernel
theorem d_M_sinks_4 : decode c_M_sinks 4 = .ok (.iload_n 3, 1) := by decide +kernel
theorem d_M_sinks_5 : decode c_M_sinks 5 = .ok (.bipush 8, 2) := by decide +kernel
theorem d_M_sinks_7 : decode c_M_sinks 7 = .ok (.if_icmp .ge 90, 3) := by decide +kernel
theorem d_M_sinks_10 : decode c_M_sinks 10 = .ok (.aload_n 0, 1) := by decide +kernel
theorem d_M_sinks_11 : decode c_M_sinks 11 = .ok (.iload_n 1, 1) := by decide +kernel
theorem d_M_sinks_12 : decode c_M_sinks 12 = .ok (.iload_n 3, 1) := by decide +kernel
theorem d_M_sinks_13 : decode c_M_sinks 13 = .ok (.invokevirtual 102, 3) := by decide +kernel
theorem d_M_sinks_16 : decode c_M_sinks 16 = .ok (.istore 4, 2) := by decide +kernel
theorem d_M_sinks_18 : decode c_M_sinks 18 = .ok (.iload 4, 2) := by decide +kernel
theorem d_M_sinks_20 : decode c_M_sinks 20 = .ok (.iconst (-1), 1) := by decide +kernel
theorem d_M_sinks_21 : decode c_M_sinks 21 = .ok (.if_icmp .ne 6, 3) := by decide +kernel
theorem d_M_sinks_24 : decode c_M_sinks 24 = .ok (.goto 67, 3) := by decide +kernel
theorem d_M_sinks_27 : decode c_M_sinks 27 = .ok (.aload_n 0, 1) := by decide +kernel
theorem d_M_sinks_28 : decode c_M_sinks 28 = .ok (.getfield 84, 3) := by decide +kernel
theorem d_M_sinks_31 : decode c_M_sinks 31 = .ok (.iload 4, 2) := by decide +kernel
theorem d_M_sinks_33 : decode c_M_sinks 33 = .ok (.iaload, 1) := by decide +kernel
theorem d_M_sinks_34 : decode c_M_sinks 34 = .ok (.aload_n 0, 1) := by decide +kernel
theorem d_M_sinks_35 : decode c_M_sinks 35 = .ok (.getfield 7, 3) := by decide +kernel
theorem d_M_sinks_38 : decode c_M_sinks 38 = .ok (.bipush 13, 2) := by decide +kernel
theorem d_M_sinks_40 : decode c_M_sinks 40 = .ok (.iload_n 1, 1) := by decide +kernel
theorem d_M_sinks_41 : decode c_M_sinks 41 = .ok (.iadd, 1) := by decide +kernel
theorem d_M_sinks_42 : decode c_M_sinks 42 = .ok (.iaload, 1) := by decide +kernel
theorem d_M_sinks_43 : decode c_M_sinks 43 = .ok (.if_icmp .le 13, 3) := by decide +kernel
theorem d_M_sinks_46 : decode c_M_sinks 46 = .ok (.aload_n 0, 1) := by decide +kernel
theorem d_M_sinks_47 : decode c_M_sinks 47 = .ok (.getfield 84, 3) := by decide +kernel
theorem d_M_sinks_50 : decode c_M_sinks 50 = .ok (.iload 4, 2) := by decide +kernel
theorem d_M_sinks_52 : decode c_M_sinks 52 = .ok (.iaload, 1) := by decide +kernel
theorem d_M_sinks_53 : decode c_M_sinks 53 = .ok (.goto 12, 3) := by decide +kernel
theorem d_M_sinks_56 : decode c_M_sinks 56 = .ok (.aload_n 0, 1) := by decide +kernel
theorem d_M_sinks_57 : decode c_M_sinks 57 = .ok (.getfield 7, 3) := by decide +kernel
theorem d_M_sinks_60 : decode c_M_sinks 60 = .ok (.bipush 13, 2) := by decide +kernel
theorem d_M_sinks_62 : decode c_M_sinks 62 = .ok (.iload_n 1, 1) := by decide +kernel
theorem d_M_sinks_63 : decode c_M_sinks 63 = .ok (.iadd, 1) := by decide +kernel
theorem d_M_sinks_64 : decode c_M_sinks 64 = .ok (.iaload, 1) := by decide +kernel
theorem d_M_sinks_65 : decode c_M_sinks 65 = .ok (.istore 5, 2) := by decide +kernel
theorem d_M_sinks_67 : decode c_M_sinks 67 = .ok (.iload 5, 2) := by decide +kernel
theorem d_M_sinks_69 : decode c_M_sinks 69 = .ok (.aload_n 0, 1) := by decide +kernel
theorem d_M_sinks_70 : decode c_M_sinks 70 = .ok (.getfield 84, 3) := by decide +kernel
theorem d_M_sinks_73 : decode c_M_sinks 73 = .ok (.iload_n 1, 1) := by decide +kernel
theorem d_M_sinks_74 : decode c_M_sinks 74 = .ok (.iaload, 1) := by decide +kernel
theorem d_M_sinks_75 : decode c_M_sinks 75 = .ok (.if_icmp .lt 6, 3) := by decide +kernel
theorem d_M_sinks_78 : decode c_M_sinks 78 = .ok (.goto 13, 3) := by decide +kernel
theorem d_M_sinks_81 : decode c_M_sinks 81 = .ok (.aload_n 0, 1) := by decide +kernel
theorem d_M_sinks_82 : decode c_M_sinks 82 = .ok (.getfield 84, 3) := by decide +kernel
theorem d_M_sinks_85 : decode c_M_sinks 85 = .ok (.iload_n 1, 1) := by decide +kernel
theorem d_M_sinks_86 : decode c_M_sinks 86 = .ok (.iload 5, 2) := by decide +kernel
theorem d_M_sinks_88 : decode c_M_sinks 88 = .ok (.iastore, 1) := by decide +kernel
theorem d_M_sinks_89 : decode c_M_sinks 89 = .ok (.iconst 1, 1) := by decide +kernel
theorem d_M_sinks_90 : decode c_M_sinks 90 = .ok (.istore_n 2, 1) := by decide +kernel
theorem d_M_sinks_91 : decode c_M_sinks 91 = .ok (.iinc 3 1, 3) := by decide +kernel
theorem d_M_sinks_94 : decode c_M_sinks 94 = .ok (.goto (-90), 3) := by decide +kernel
theorem d_M_sinks_97 : decode c_M_sinks 97 = .ok (.iload_n 2, 1) := by decide +kernel
theorem d_M_sinks_98 : decode c_M_sinks 98 = .ok (.ireturn, 1) := by decide +kernel
theorem d_M_spillOf_0 : decode c_M_spillOf 0 = .ok (.iconst 0, 1) := by decide +kernel
theorem d_M_spillOf_1 : decode c_M_spillOf 1 = .ok (.istore_n 2, 1) := by decide +kernel
theorem d_M_spillOf_2 : decode c_M_spillOf 2 = .ok (.iload_n 2, 1) := by decide +kernel
theorem d_M_spillOf_3 : decode c_M_spillOf 3 = .ok (.aload_n 0, 1) := by decide +kernel
theorem d_M_spillOf_4 : decode c_M_spillOf 4 = .ok (.invokevirtual 90, 3) := by decide +kernel
theorem d_M_spillOf_7 : decode c_M_spillOf 7 = .ok (.if_icmp .ge 37, 3) := by decide +kernel
theorem d_M_spillOf_10 : decode c_M_spillOf 10 = .ok (.aload_n 0, 1) := by decide +kernel
theorem d_M_spillOf_11 : decode c_M_spillOf 11 = .ok (.getfield 84, 3) := by decide +kernel
theorem d_M_spillOf_14 : decode c_M_spillOf 14 = .ok (.iload_n 2, 1) := by decide +kernel
theorem d_M_spillOf_15 : decode c_M_spillOf 15 = .ok (.aload_n 0, 1) := by decide +kernel
theorem d_M_spillOf_16 : decode c_M_spillOf 16 = .ok (.iload_n 2, 1) := by decide +kernel
theorem d_M_spillOf_17 : decode c_M_spillOf 17 = .ok (.invokevirtual 197, 3) := by decide +kernel
theorem d_M_spillOf_20 : decode c_M_spillOf 20 = .ok (.ifCond .eq 15, 3) := by decide +kernel
theorem d_M_spillOf_23 : decode c_M_spillOf 23 = .ok (.aload_n 0, 1) := by decide +kernel
theorem d_M_spillOf_24 : decode c_M_spillOf 24 = .ok (.getfield 7, 3) := by decide +kernel
theorem d_M_spillOf_27 : decode c_M_spillOf 27 = .ok (.bipush 13, 2) := by decide +kernel
theorem d_M_spillOf_29 : decode c_M_spillOf 29 = .ok (.iload_n 2, 1) := by decide +kernel
theorem d_M_spillOf_30 : decode c_M_spillOf 30 = .ok (.iadd, 1) := by decide +kernel
theorem d_M_spillOf_31 : decode c_M_spillOf 31 = .ok (.iaload, 1) := by decide +kernel
theorem d_M_spillOf_32 : decode c_M_spillOf 32 = .ok (.goto 5, 3) := by decide +kernel
theorem d_M_spillOf_35 : decode c_M_spillOf 35 = .ok (.ldc 155, 2) := by decide +kernel
theorem d_M_spillOf_37 : decode c_M_spillOf 37 = .ok (.iastore, 1) := by decide +kernel
theorem d_M_spillOf_38 : decode c_M_spillOf 38 = .ok (.iinc 2 1, 3) := by decide +kernel
theorem d_M_spillOf_41 : decode c_M_spillOf 41 = .ok (.goto (-39), 3) := by decide +kernel
theorem d_M_spillOf_44 : decode c_M_spillOf 44 = .ok (.iconst 1, 1) := by decide +kernel
theorem d_M_spillOf_45 : decode c_M_spillOf 45 = .ok (.istore_n 2, 1) := by decide +kernel
theorem d_M_spillOf_46 : decode c_M_spillOf 46 = .ok (.iload_n 2, 1) := by decide +kernel
theorem d_M_spillOf_47 : decode c_M_spillOf 47 = .ok (.ifCond .eq 42, 3) := by decide +kernel
theorem d_M_spillOf_50 : decode c_M_spillOf 50 = .ok (.iconst 0, 1) := by decide +kernel
theorem d_M_spillOf_51 : decode c_M_spillOf 51 = .ok (.istore_n 2, 1) := by decide +kernel
theorem d_M_spillOf_52 : decode c_M_spillOf 52 = .ok (.iconst 0, 1) := by decide +kernel
theorem d_M_spillOf_53 : decode c_M_spillOf 53 = .ok (.istore_n 3, 1) := by decide +kernel
theorem d_M_spillOf_54 : decode c_M_spillOf 54 = .ok (.iload_n 3, 1) := by decide +kernel
theorem d_M_spillOf_55 : decode c_M_spillOf 55 = .ok (.aload_n 0, 1) := by decide +kernel
theorem d_M_spillOf_56 : decode c_M_spillOf 56 = .ok (.invokevirtual 90, 3) := by decide +kernel
theorem d_M_spillOf_59 : decode c_M_spillOf 59 = .ok (.if_icmp .ge 27, 3) := by decide +kernel
theorem d_M_spillOf_62 : decode c_M_spillOf 62 = .ok (.aload_n 0, 1) := by decide +kernel
theorem d_M_spillOf_63 : decode c_M_spillOf 63 = .ok (.iload_n 3, 1) := by decide +kernel
theorem d_M_spillOf_64 : decode c_M_spillOf 64 = .ok (.invokevirtual 200, 3) := by decide +kernel
theorem d_M_spillOf_67 : decode c_M_spillOf 67 = .ok (.ifCond .ne 7, 3) := by decide +kernel
theorem d_M_spillOf_70 : decode c_M_spillOf 70 = .ok (.iload_n 2, 1) := by decide +kernel
theorem d_M_spillOf_71 : decode c_M_spillOf 71 = .ok (.ifCond .eq 7, 3) := by decide +kernel
theorem d_M_spillOf_74 : decode c_M_spillOf 74 = .ok (.iconst 1, 1) := by decide +kernel
theorem d_M_spillOf_75 : decode c_M_spillOf 75 = .ok (.goto 4, 3) := by decide +kernel
theorem d_M_spillOf_78 : decode c_M_spillOf 78 = .ok (.iconst 0, 1) := by decide +kernel
theorem d_M_spillOf_79 : decode c_M_spillOf 79 = .ok (.istore_n 2, 1) := by decide +kernel
theorem d_M_spillOf_80 : decode c_M_spillOf 80 = .ok (.iinc 3 1, 3) := by decide +kernel
theorem d_M_spillOf_83 : decode c_M_spillOf 83 = .ok (.goto (-29), 3) := by decide +kernel
theorem d_M_spillOf_86 : decode c_M_spillOf 86 = .ok (.goto (-40), 3) := by decide +kernel
theorem d_M_spillOf_89 : decode c_M_spillOf 89 = .ok (.aload_n 0, 1) := by decide +kernel
theorem d_M_spillOf_90 : decode c_M_spillOf 90 = .ok (.getfield 84, 3) := by decide +kernel
theorem d_M_spillOf_93 : decode c_M_spillOf 93 = .ok (.iload_n 1, 1) := by decide +kernel
theorem d_M_spillOf_94 : decode c_M_spillOf 94 = .ok (.iaload, 1) := by decide +kernel
theorem d_M_spillOf_95 : decode c_M_spillOf 95 = .ok (.ireturn, 1) := by decide +kernel
theorem d_M_water_0 : decode c_M_water 0 = .ok (.aload_n 0, 1) := by decide +kernel
theorem d_M_water_1 : decode c_M_water 1 = .ok (.aload_n 0, 1) := by decide +kernel
theorem d_M_water_2 : decode c_M_water 2 = .ok (.iload_n 1, 1) := by decide +kernel
theorem d_M_water_3 : decode c_M_water 3 = .ok (.invokevirtual 203, 3) := by decide +kernel
theorem d_M_water_6 : decode c_M_water 6 = .ok (.ifCond .ne 7, 3) := by decide +kernel
theorem d_M_water_9 : decode c_M_water 9 = .ok (.iconst 1, 1) := by decide +kernel
theorem d_M_water_10 : decode c_M_water 10 = .ok (.goto 17, 3) := by decide +kernel
theorem d_M_water_13 : decode c_M_water 13 = .ok (.iload_n 2, 1) := by decide +kernel
theorem d_M_water_14 : decode c_M_water 14 = .ok (.iconst 0, 1) := by decide +kernel
theorem d_M_water_15 : decode c_M_water 15 = .ok (.iconst 2, 1) := by decide +kernel
theorem d_M_water_16 : decode c_M_water 16 = .ok (.invokestatic 94, 3) := by decide +kernel
theorem d_M_water_19 : decode c_M_water 19 = .ok (.ifCond .ne 7, 3) := by decide +kernel
theorem d_M_water_22 : decode c_M_water 22 = .ok (.iconst 2, 1) := by decide +kernel
theorem d_M_water_23 : decode c_M_water 23 = .ok (.goto 4, 3) := by decide +kernel
theorem d_M_water_26 : decode c_M_water 26 = .ok (.iconst 0, 1) := by decide +kernel
theorem d_M_water_27 : decode c_M_water 27 = .ok (.putfield 87, 3) := by decide +kernel
theorem d_M_water_30 : decode c_M_water 30 = .ok (.aload_n 0, 1) := by decide +kernel
theorem d_M_water_31 : decode c_M_water 31 = .ok (.getfield 87, 3) := by decide +kernel
theorem d_M_water_34 : decode c_M_water 34 = .ok (.ifCond .le 5, 3) := by decide +kernel
theorem d_M_water_37 : decode c_M_water 37 = .ok (.iconst 0, 1) := by decide +kernel
theorem d_M_water_38 : decode c_M_water 38 = .ok (.ireturn, 1) := by decide +kernel
theorem d_M_water_39 : decode c_M_water 39 = .ok (.iload_n 2, 1) := by decide +kernel
theorem d_M_water_40 : decode c_M_water 40 = .ok (.lookupswitch 45 #[(0, 28), (1, 34)], 28) := by decide +kernel
theorem d_M_water_68 : decode c_M_water 68 = .ok (.aload_n 0, 1) := by decide +kernel
theorem d_M_water_69 : decode c_M_water 69 = .ok (.iload_n 1, 1) := by decide +kernel
theorem d_M_water_70 : decode c_M_water 70 = .ok (.invokevirtual 194, 3) := by decide +kernel
theorem d_M_water_73 : decode c_M_water 73 = .ok (.ireturn, 1) := by decide +kernel
theorem d_M_water_74 : decode c_M_water 74 = .ok (.aload_n 0, 1) := by decide +kernel
theorem d_M_water_75 : decode c_M_water 75 = .ok (.invokevirtual 162, 3) := by decide +kernel
theorem d_M_water_78 : decode c_M_water 78 = .ok (.aload_n 0, 1) := by decide +kernel
theorem d_M_water_79 : decode c_M_water 79 = .ok (.getfield 81, 3) := by decide +kernel
theorem d_M_water_82 : decode c_M_water 82 = .ok (.iload_n 1, 1) := by decide +kernel
theorem d_M_water_83 : decode c_M_water 83 = .ok (.iaload, 1) := by decide +kernel
theorem d_M_water_84 : decode c_M_water 84 = .ok (.ireturn, 1) := by decide +kernel
theorem d_M_water_85 : decode c_M_water 85 = .ok (.aload_n 0, 1) := by decide +kernel
theorem d_M_water_86 : decode c_M_water 86 = .ok (.iload_n 1, 1) := by decide +kernel
theorem d_M_water_87 : decode c_M_water 87 = .ok (.invokevirtual 206, 3) := by decide +kernel
theorem d_M_water_90 : decode c_M_water 90 = .ok (.ireturn, 1) := by decide +kernel
theorem d_M_bridges_0 : decode c_M_bridges 0 = .ok (.aload_n 0, 1) := by decide +kernel
theorem d_M_bridges_1 : decode c_M_bridges 1 = .ok (.iload_n 1, 1) := by decide +kernel
theorem d_M_bridges_2 : decode c_M_bridges 2 = .ok (.invokestatic 209, 3) := by decide +kernel
theorem d_M_bridges_5 : decode c_M_bridges 5 = .ok (.ifCond .ne 7, 3) := by decide +kernel
theorem d_M_bridges_8 : decode c_M_bridges 8 = .ok (.iconst 1, 1) := by decide +kernel
theorem d_M_bridges_9 : decode c_M_bridges 9 = .ok (.goto 30, 3) := by decide +kernel
theorem d_M_bridges_12 : decode c_M_bridges 12 = .ok (.iload_n 2, 1) := by decide +kernel
theorem d_M_bridges_13 : decode c_M_bridges 13 = .ok (.iconst 1, 1) := by decide +kernel
theorem d_M_bridges_14 : decode c_M_bridges 14 = .ok (.bipush 81, 2) := by decide +kernel
theorem d_M_bridges_16 : decode c_M_bridges 16 = .ok (.invokestatic 94, 3) := by decide +kernel
theorem d_M_bridges_19 : decode c_M_bridges 19 = .ok (.ifCond .ne 7, 3) := by decide +kernel
theorem d_M_bridges_22 : decode c_M_bridges 22 = .ok (.iconst 2, 1) := by decide +kernel
theorem d_M_bridges_23 : decode c_M_bridges 23 = .ok (.goto 16, 3) := by decide +kernel
theorem d_M_bridges_26 : decode c_M_bridges 26 = .ok (.aload_n 0, 1) := by decide +kernel
theorem d_M_bridges_27 : decode c_M_bridges 27 = .ok (.iload_n 1, 1) := by decide +kernel
theorem d_M_bridges_28 : decode c_M_bridges 28 = .ok (.invokevirtual 129, 3) := by decide +kernel
theorem d_M_bridges_31 : decode c_M_bridges 31 = .ok (.ifCond .ne 7, 3) := by decide +kernel
theorem d_M_bridges_34 : decode c_M_bridges 34 = .ok (.iconst 3, 1) := by decide +kernel
theorem d_M_bridges_35 : decode c_M_bridges 35 = .ok (.goto 4, 3) := by decide +kernel
theorem d_M_bridges_38 : decode c_M_bridges 38 = .ok (.iconst 0, 1) := by decide +kernel
theorem d_M_bridges_39 : decode c_M_bridges 39 = .ok (.putfield 87, 3) := by decide +kernel
theorem d_M_bridges_42 : decode c_M_bridges 42 = .ok (.aload_n 0, 1) := by decide +kernel
theorem d_M_bridges_43 : decode c_M_bridges 43 = .ok (.getfield 87, 3) := by decide +kernel
theorem d_M_bridges_46 : decode c_M_bridges 46 = .ok (.ifCond .le 5, 3) := by decide +kernel
theorem d_M_bridges_49 : decode c_M_bridges 49 = .ok (.iconst 0, 1) := by decide +kernel
theorem d_M_bridges_50 : decode c_M_bridges 50 = .ok (.ireturn, 1) := by decide +kernel
theorem d_M_bridges_51 : decode c_M_bridges 51 = .ok (.aload_n 0, 1) := by decide +kernel
theorem d_M_bridges_52 : decode c_M_bridges 52 = .ok (.invokevirtual 162, 3) := by decide +kernel
theorem d_M_bridges_55 : decode c_M_bridges 55 = .ok (.iconst 0, 1) := by decide +kernel
theorem d_M_bridges_56 : decode c_M_bridges 56 = .ok (.istore_n 3, 1) := by decide +kernel
theorem d_M_bridges_57 : decode c_M_bridges 57 = .ok (.iconst 0, 1) := by decide +kernel
theorem d_M_bridges_58 : decode c_M_bridges 58 = .ok (.istore 4, 2) := by decide +kernel
theorem d_M_bridges_60 : decode c_M_bridges 60 = .ok (.iload 4, 2) := by decide +kernel
theorem d_M_bridges_62 : decode c_M_bridges 62 = .ok (.aload_n 0, 1) := by decide +kernel
theorem d_M_bridges_63 : decode c_M_bridges 63 = .ok (.iload_n 1, 1) := by decide +kernel
theorem d_M_bridges_64 : decode c_M_bridges 64 = .ok (.invokevirtual 129, 3) := by decide +kernel
theorem d_M_bridges_67 : decode c_M_bridges 67 = .ok (.if_icmp .ge 86, 3) := by decide +kernel
theorem d_M_bridges_70 : decode c_M_bridges 70 = .ok (.iconst 1, 1) := by decide +kernel
theorem d_M_bridges_71 : decode c_M_bridges 71 = .ok (.istore 5, 2) := by decide +kernel
theorem d_M_bridges_73 : decode c_M_bridges 73 = .ok (.iconst 0, 1) := by decide +kernel
theorem d_M_bridges_74 : decode c_M_bridges 74 = .ok (.istore 6, 2) := by decide +kernel
theorem d_M_bridges_76 : decode c_M_bridges 76 = .ok (.iload 6, 2) := by decide +kernel
theorem d_M_bridges_78 : decode c_M_bridges 78 = .ok (.iload 4, 2) := by decide +kernel
theorem d_M_bridges_80 : decode c_M_bridges 80 = .ok (.if_icmp .ge 38, 3) := by decide +kernel
theorem d_M_bridges_83 : decode c_M_bridges 83 = .ok (.iload 5, 2) := by decide +kernel
theorem d_M_bridges_85 : decode c_M_bridges 85 = .ok (.ifCond .eq 24, 3) := by decide +kernel
theorem d_M_bridges_88 : decode c_M_bridges 88 = .ok (.aload_n 0, 1) := by decide +kernel
theorem d_M_bridges_89 : decode c_M_bridges 89 = .ok (.iload_n 1, 1) := by decide +kernel
theorem d_M_bridges_90 : decode c_M_bridges 90 = .ok (.iload 6, 2) := by decide +kernel
theorem d_M_bridges_92 : decode c_M_bridges 92 = .ok (.invokevirtual 212, 3) := by decide +kernel
theorem d_M_bridges_95 : decode c_M_bridges 95 = .ok (.aload_n 0, 1) := by decide +kernel
theorem d_M_bridges_96 : decode c_M_bridges 96 = .ok (.iload_n 1, 1) := by decide +kernel
theorem d_M_bridges_97 : decode c_M_bridges 97 = .ok (.iload 4, 2) := by decide +kernel
theorem d_M_bridges_99 : decode c_M_bridges 99 = .ok (.invokevirtual 212, 3) := by decide +kernel
theorem d_M_bridges_102 : decode c_M_bridges 102 = .ok (.if_icmp .eq 7, 3) := by decide +kernel
theorem d_M_bridges_105 : decode c_M_bridges 105 = .ok (.iconst 1, 1) := by decide +kernel
theorem d_M_bridges_106 : decode c_M_bridges 106 = .ok (.goto 4, 3) := by decide +kernel
theorem d_M_bridges_109 : decode c_M_bridges 109 = .ok (.iconst 0, 1) := by decide +kernel
theorem d_M_bridges_110 : decode c_M_bridges 110 = .ok (.istore 5, 2) := by decide +kernel
theorem d_M_bridges_112 : decode c_M_bridges 112 = .ok (.iinc 6 1, 3) := by decide +kernel
theorem d_M_bridges_115 : decode c_M_bridges 115 = .ok (.goto (-39), 3) := by decide +kernel
theorem d_M_bridges_118 : decode c_M_bridges 118 = .ok (.iload_n 3, 1) := by decide +kernel
theorem d_M_bridges_119 : decode c_M_bridges 119 = .ok (.iload 5, 2) := by decide +kernel
theorem d_M_bridges_121 : decode c_M_bridges 121 = .ok (.ifCond .eq 23, 3) := by decide +kernel
theorem d_M_bridges_124 : decode c_M_bridges 124 = .ok (.aload_n 0, 1) := by decide +kernel
theorem d_M_bridges_125 : decode c_M_bridges 125 = .ok (.getfield 81, 3) := by decide +kernel
theorem d_M_bridges_128 : decode c_M_bridges 128 = .ok (.aload_n 0, 1) := by decide +kernel
theorem d_M_bridges_129 : decode c_M_bridges 129 = .ok (.iload_n 1, 1) := by decide +kernel
theorem d_M_bridges_130 : decode c_M_bridges 130 = .ok (.iload 4, 2) := by decide +kernel
theorem d_M_bridges_132 : decode c_M_bridges 132 = .ok (.invokevirtual 212, 3) := by decide +kernel
theorem d_M_bridges_135 : decode c_M_bridges 135 = .ok (.iaload, 1) := by decide +kernel
theorem d_M_bridges_136 : decode c_M_bridges 136 = .ok (.iload_n 2, 1) := by decide +kernel
theorem d_M_bridges_137 : decode c_M_bridges 137 = .ok (.if_icmp .lt 7, 3) := by decide +kernel
theorem d_M_bridges_140 : decode c_M_bridges 140 = .ok (.iconst 1, 1) := by decide +kernel
theorem d_M_bridges_141 : decode c_M_bridges 141 = .ok (.goto 4, 3) := by decide +kernel
theorem d_M_bridges_144 : decode c_M_bridges 144 = .ok (.iconst 0, 1) := by decide +kernel
theorem d_M_bridges_145 : decode c_M_bridges 145 = .ok (.iadd, 1) := by decide +kernel
theorem d_M_bridges_146 : decode c_M_bridges 146 = .ok (.istore_n 3, 1) := by decide +kernel
theorem d_M_bridges_147 : decode c_M_bridges 147 = .ok (.iinc 4 1, 3) := by decide +kernel
theorem d_M_bridges_150 : decode c_M_bridges 150 = .ok (.goto (-90), 3) := by decide +kernel
theorem d_M_bridges_153 : decode c_M_bridges 153 = .ok (.iload_n 3, 1) := by decide +kernel
theorem d_M_bridges_154 : decode c_M_bridges 154 = .ok (.ireturn, 1) := by decide +kernel
theorem d_M_feed_0 : decode c_M_feed 0 = .ok (.aload_n 0, 1) := by decide +kernel
theorem d_M_feed_1 : decode c_M_feed 1 = .ok (.iconst 0, 1) := by decide +kernel
theorem d_M_feed_2 : decode c_M_feed 2 = .ok (.putfield 87, 3) := by decide +kernel
theorem d_M_feed_5 : decode c_M_feed 5 = .ok (.aload_n 0, 1) := by decide +kernel
theorem d_M_feed_6 : decode c_M_feed 6 = .ok (.getfield 215, 3) := by decide +kernel
theorem d_M_feed_9 : decode c_M_feed 9 = .ok (.bipush 20, 2) := by decide +kernel
theorem d_M_feed_11 : decode c_M_feed 11 = .ok (.iadd, 1) := by decide +kernel
theorem d_M_feed_12 : decode c_M_feed 12 = .ok (.sipush 400, 3) := by decide +kernel
theorem d_M_feed_15 : decode c_M_feed 15 = .ok (.if_icmp .le 5, 3) := by decide +kernel
theorem d_M_feed_18 : decode c_M_feed 18 = .ok (.iconst (-1), 1) := by decide +kernel
theorem d_M_feed_19 : decode c_M_feed 19 = .ok (.ireturn, 1) := by decide +kernel
theorem d_M_feed_20 : decode c_M_feed 20 = .ok (.iconst 0, 1) := by decide +kernel
theorem d_M_feed_21 : decode c_M_feed 21 = .ok (.istore 6, 2) := by decide +kernel
theorem d_M_feed_23 : decode c_M_feed 23 = .ok (.iload 6, 2) := by decide +kernel
theorem d_M_feed_25 : decode c_M_feed 25 = .ok (.bipush 20, 2) := by decide +kernel
theorem d_M_feed_27 : decode c_M_feed 27 = .ok (.if_icmp .ge 93, 3) := by decide +kernel
theorem d_M_feed_30 : decode c_M_feed 30 = .ok (.iload 6, 2) := by decide +kernel
theorem d_M_feed_32 : decode c_M_feed 32 = .ok (.iconst 4, 1) := by decide +kernel
theorem d_M_feed_33 : decode c_M_feed 33 = .ok (.if_icmp .ge 7, 3) := by decide +kernel
theorem d_M_feed_36 : decode c_M_feed 36 = .ok (.iload_n 1, 1) := by decide +kernel
theorem d_M_feed_37 : decode c_M_feed 37 = .ok (.goto 39, 3) := by decide +kernel
theorem d_M_feed_40 : decode c_M_feed 40 = .ok (.iload 6, 2) := by decide +kernel
theorem d_M_feed_42 : decode c_M_feed 42 = .ok (.bipush 8, 2) := by decide +kernel
theorem d_M_feed_44 : decode c_M_feed 44 = .ok (.if_icmp .ge 7, 3) := by decide +kernel
theorem d_M_feed_47 : decode c_M_feed 47 = .ok (.iload_n 2, 1) := by decide +kernel
theorem d_M_feed_48 : decode c_M_feed 48 = .ok (.goto 28, 3) := by decide +kernel
theorem d_M_feed_51 : decode c_M_feed 51 = .ok (.iload 6, 2) := by decide +kernel
theorem d_M_feed_53 : decode c_M_feed 53 = .ok (.bipush 12, 2) := by decide +kernel
theorem d_M_feed_55 : decode c_M_feed 55 = .ok (.if_icmp .ge 7, 3) := by decide +kernel
theorem d_M_feed_58 : decode c_M_feed 58 = .ok (.iload_n 3, 1) := by decide +kernel
theorem d_M_feed_59 : decode c_M_feed 59 = .ok (.goto 17, 3) := by decide +kernel
theorem d_M_feed_62 : decode c_M_feed 62 = .ok (.iload 6, 2) := by decide +kernel
theorem d_M_feed_64 : decode c_M_feed 64 = .ok (.bipush 16, 2) := by decide +kernel
theorem d_M_feed_66 : decode c_M_feed 66 = .ok (.if_icmp .ge 8, 3) := by decide +kernel
theorem d_M_feed_69 : decode c_M_feed 69 = .ok (.iload 4, 2) := by decide +kernel
theorem d_M_feed_71 : decode c_M_feed 71 = .ok (.goto 5, 3) := by decide +kernel
theorem d_M_feed_74 : decode c_M_feed 74 = .ok (.iload 5, 2) := by decide +kernel
theorem d_M_feed_76 : decode c_M_feed 76 = .ok (.istore 7, 2) := by decide +kernel
theorem d_M_feed_78 : decode c_M_feed 78 = .ok (.aload_n 0, 1) := by decide +kernel
theorem d_M_feed_79 : decode c_M_feed 79 = .ok (.getfield 31, 3) := by decide +kernel
theorem d_M_feed_82 : decode c_M_feed 82 = .ok (.aload_n 0, 1) := by decide +kernel
theorem d_M_feed_83 : decode c_M_feed 83 = .ok (.getfield 215, 3) := by decide +kernel
theorem d_M_feed_86 : decode c_M_feed 86 = .ok (.iload 7, 2) := by decide +kernel
theorem d_M_feed_88 : decode c_M_feed 88 = .ok (.bipush 24, 2) := by decide +kernel
theorem d_M_feed_90 : decode c_M_feed 90 = .ok (.bipush 8, 2) := by decide +kernel
theorem d_M_feed_92 : decode c_M_feed 92 = .ok (.iload 6, 2) := by decide +kernel
theorem d_M_feed_94 : decode c_M_feed 94 = .ok (.iconst 4, 1) := by decide +kernel
theorem d_M_feed_95 : decode c_M_feed 95 = .ok (.irem, 1) := by decide +kernel
theorem d_M_feed_96 : decode c_M_feed 96 = .ok (.imul, 1) := by decide +kernel
theorem d_M_feed_97 : decode c_M_feed 97 = .ok (.isub, 1) := by decide +kernel
theorem d_M_feed_98 : decode c_M_feed 98 = .ok (.iushr, 1) := by decide +kernel
theorem d_M_feed_99 : decode c_M_feed 99 = .ok (.sipush 255, 3) := by decide +kernel
theorem d_M_feed_102 : decode c_M_feed 102 = .ok (.iand, 1) := by decide +kernel
theorem d_M_feed_103 : decode c_M_feed 103 = .ok (.iastore, 1) := by decide +kernel
theorem d_M_feed_104 : decode c_M_feed 104 = .ok (.aload_n 0, 1) := by decide +kernel
theorem d_M_feed_105 : decode c_M_feed 105 = .ok (.dup, 1) := by decide +kernel
theorem d_M_feed_106 : decode c_M_feed 106 = .ok (.getfield 215, 3) := by decide +kernel
theorem d_M_feed_109 : decode c_M_feed 109 = .ok (.iconst 1, 1) := by decide +kernel
theorem d_M_feed_110 : decode c_M_feed 110 = .ok (.iadd, 1) := by decide +kernel
theorem d_M_feed_111 : decode c_M_feed 111 = .ok (.putfield 215, 3) := by decide +kernel
theorem d_M_feed_114 : decode c_M_feed 114 = .ok (.iinc 6 1, 3) := by decide +kernel
theorem d_M_feed_117 : decode c_M_feed 117 = .ok (.goto (-94), 3) := by decide +kernel
theorem d_M_feed_120 : decode c_M_feed 120 = .ok (.aload_n 0, 1) := by decide +kernel
theorem d_M_feed_121 : decode c_M_feed 121 = .ok (.getfield 215, 3) := by decide +kernel
theorem d_M_feed_124 : decode c_M_feed 124 = .ok (.ireturn, 1) := by decide +kernel
theorem d_M_end_0 : decode c_M_end 0 = .ok (.aload_n 0, 1) := by decide +kernel
theorem d_M_end_1 : decode c_M_end 1 = .ok (.iconst 0, 1) := by decide +kernel
theorem d_M_end_2 : decode c_M_end 2 = .ok (.putfield 87, 3) := by decide +kernel
theorem d_M_end_5 : decode c_M_end 5 = .ok (.iload_n 1, 1) := by decide +kernel
theorem d_M_end_6 : decode c_M_end 6 = .ok (.iconst 0, 1) := by decide +kernel
theorem d_M_end_7 : decode c_M_end 7 = .ok (.aload_n 0, 1) := by decide +kernel
theorem d_M_end_8 : decode c_M_end 8 = .ok (.getfield 215, 3) := by decide +kernel
theorem d_M_end_11 : decode c_M_end 11 = .ok (.invokestatic 94, 3) := by decide +kernel
theorem d_M_end_14 : decode c_M_end 14 = .ok (.ifCond .ne 5, 3) := by decide +kernel
theorem d_M_end_17 : decode c_M_end 17 = .ok (.iconst 0, 1) := by decide +kernel
theorem d_M_end_18 : decode c_M_end 18 = .ok (.ireturn, 1) := by decide +kernel
theorem d_M_end_19 : decode c_M_end 19 = .ok (.aload_n 0, 1) := by decide +kernel
theorem d_M_end_20 : decode c_M_end 20 = .ok (.iload_n 1, 1) := by decide +kernel
theorem d_M_end_21 : decode c_M_end 21 = .ok (.putfield 215, 3) := by decide +kernel
theorem d_M_end_24 : decode c_M_end 24 = .ok (.iconst 1, 1) := by decide +kernel
theorem d_M_end_25 : decode c_M_end 25 = .ok (.ireturn, 1) := by decide +kernel
theorem d_M_here_0 : decode c_M_here 0 = .ok (.aload_n 0, 1) := by decide +kernel
theorem d_M_here_1 : decode c_M_here 1 = .ok (.getfield 218, 3) := by decide +kernel
theorem d_M_here_4 : decode c_M_here 4 = .ok (.aload_n 0, 1) := by decide +kernel
theorem d_M_here_5 : decode c_M_here 5 = .ok (.getfield 221, 3) := by decide +kernel
theorem d_M_here_8 : decode c_M_here 8 = .ok (.if_icmp .ge 30, 3) := by decide +kernel
theorem d_M_here_11 : decode c_M_here 11 = .ok (.aload_n 0, 1) := by decide +kernel
theorem d_M_here_12 : decode c_M_here 12 = .ok (.getfield 31, 3) := by decide +kernel
theorem d_M_here_15 : decode c_M_here 15 = .ok (.aload_n 0, 1) := by decide +kernel
theorem d_M_here_16 : decode c_M_here 16 = .ok (.getfield 218, 3) := by decide +kernel
theorem d_M_here_19 : decode c_M_here 19 = .ok (.iaload, 1) := by decide +kernel
theorem d_M_here_20 : decode c_M_here 20 = .ok (.bipush 32, 2) := by decide +kernel
theorem d_M_here_22 : decode c_M_here 22 = .ok (.if_icmp .ne 16, 3) := by decide +kernel
theorem d_M_here_25 : decode c_M_here 25 = .ok (.aload_n 0, 1) := by decide +kernel
theorem d_M_here_26 : decode c_M_here 26 = .ok (.dup, 1) := by decide +kernel
theorem d_M_here_27 : decode c_M_here 27 = .ok (.getfield 218, 3) := by decide +kernel
theorem d_M_here_30 : decode c_M_here 30 = .ok (.iconst 1, 1) := by decide +kernel
theorem d_M_here_31 : decode c_M_here 31 = .ok (.iadd, 1) := by decide +kernel
theorem d_M_here_32 : decode c_M_here 32 = .ok (.putfield 218, 3) := by decide +kernel
theorem d_M_here_35 : decode c_M_here 35 = .ok (.goto (-35), 3) := by decide +kernel
theorem d_M_here_38 : decode c_M_here 38 = .ok (.aload_n 0, 1) := by decide +kernel
theorem d_M_here_39 : decode c_M_here 39 = .ok (.getfield 218, 3) := by decide +kernel
theorem d_M_here_42 : decode c_M_here 42 = .ok (.ireturn, 1) := by decide +kernel
theorem d_M_wrong_0 : decode c_M_wrong 0 = .ok (.aload_n 0, 1) := by decide +kernel
theorem d_M_wrong_1 : decode c_M_wrong 1 = .ok (.getfield 34, 3) := by decide +kernel
theorem d_M_wrong_4 : decode c_M_wrong 4 = .ok (.iconst (-1), 1) := by decide +kernel
theorem d_M_wrong_5 : decode c_M_wrong 5 = .ok (.if_icmp .ne 8, 3) := by decide +kernel
theorem d_M_wrong_8 : decode c_M_wrong 8 = .ok (.aload_n 0, 1) := by decide +kernel
theorem d_M_wrong_9 : decode c_M_wrong 9 = .ok (.iload_n 1, 1) := by decide +kernel
theorem d_M_wrong_10 : decode c_M_wrong 10 = .ok (.putfield 34, 3) := by decide +kernel
theorem d_M_wrong_13 : decode c_M_wrong 13 = .ok (.return_, 1) := by decide +kernel
theorem d_M_has_0 : decode c_M_has 0 = .ok (.aload_n 0, 1) := by decide +kernel
theorem d_M_has_1 : decode c_M_has 1 = .ok (.invokevirtual 224, 3) := by decide +kernel
theorem d_M_has_4 : decode c_M_has 4 = .ok (.istore_n 2, 1) := by decide +kernel
theorem d_M_has_5 : decode c_M_has 5 = .ok (.iload_n 2, 1) := by decide +kernel
theorem d_M_has_6 : decode c_M_has 6 = .ok (.aload_n 0, 1) := by decide +kernel
theorem d_M_has_7 : decode c_M_has 7 = .ok (.getfield 221, 3) := by decide +kernel
theorem d_M_has_10 : decode c_M_has 10 = .ok (.if_icmp .ge 25, 3) := by decide +kernel
theorem d_M_has_13 : decode c_M_has 13 = .ok (.aload_n 0, 1) := by decide +kernel
theorem d_M_has_14 : decode c_M_has 14 = .ok (.getfield 31, 3) := by decide +kernel
theorem d_M_has_17 : decode c_M_has 17 = .ok (.iload_n 2, 1) := by decide +kernel
theorem d_M_has_18 : decode c_M_has 18 = .ok (.iaload, 1) := by decide +kernel
theorem d_M_has_19 : decode c_M_has 19 = .ok (.bipush 97, 2) := by decide +kernel
theorem d_M_has_21 : decode c_M_has 21 = .ok (.bipush 122, 2) := by decide +kernel
theorem d_M_has_23 : decode c_M_has 23 = .ok (.invokestatic 94, 3) := by decide +kernel
theorem d_M_has_26 : decode c_M_has 26 = .ok (.ifCond .eq 9, 3) := by decide +kernel
theorem d_M_has_29 : decode c_M_has 29 = .ok (.iinc 2 1, 3) := by decide +kernel
theorem d_M_has_32 : decode c_M_has 32 = .ok (.goto (-27), 3) := by decide +kernel
theorem d_M_has_35 : decode c_M_has 35 = .ok (.aload_n 0, 1) := by decide +kernel
theorem d_M_has_36 : decode c_M_has 36 = .ok (.getfield 34, 3) := by decide +kernel
theorem d_M_has_39 : decode c_M_has 39 = .ok (.iconst (-1), 1) := by decide +kernel
theorem d_M_has_40 : decode c_M_has 40 = .ok (.if_icmp .ne 16, 3) := by decide +kernel
theorem d_M_has_43 : decode c_M_has 43 = .ok (.iload_n 2, 1) := by decide +kernel
theorem d_M_has_44 : decode c_M_has 44 = .ok (.aload_n 0, 1) := by decide +kernel
theorem d_M_has_45 : decode c_M_has 45 = .ok (.getfield 218, 3) := by decide +kernel
theorem d_M_has_48 : decode c_M_has 48 = .ok (.isub, 1) := by decide +kernel
theorem d_M_has_49 : decode c_M_has 49 = .ok (.aload_n 1, 1) := by decide +kernel
theorem d_M_has_50 : decode c_M_has 50 = .ok (.invokevirtual 227, 3) := by decide +kernel
theorem d_M_has_53 : decode c_M_has 53 = .ok (.if_icmp .eq 5, 3) := by decide +kernel
theorem d_M_has_56 : decode c_M_has 56 = .ok (.iconst 0, 1) := by decide +kernel
theorem d_M_has_57 : decode c_M_has 57 = .ok (.ireturn, 1) := by decide +kernel
theorem d_M_has_58 : decode c_M_has 58 = .ok (.iconst 0, 1) := by decide +kernel
theorem d_M_has_59 : decode c_M_has 59 = .ok (.istore_n 3, 1) := by decide +kernel
theorem d_M_has_60 : decode c_M_has 60 = .ok (.iload_n 3, 1) := by decide +kernel
theorem d_M_has_61 : decode c_M_has 61 = .ok (.aload_n 1, 1) := by decide +kernel
theorem d_M_has_62 : decode c_M_has 62 = .ok (.invokevirtual 227, 3) := by decide +kernel
theorem d_M_has_65 : decode c_M_has 65 = .ok (.if_icmp .ge 30, 3) := by decide +kernel
theorem d_M_has_68 : decode c_M_has 68 = .ok (.aload_n 0, 1) := by decide +kernel
theorem d_M_has_69 : decode c_M_has 69 = .ok (.getfield 31, 3) := by decide +kernel
theorem d_M_has_72 : decode c_M_has 72 = .ok (.aload_n 0, 1) := by decide +kernel
theorem d_M_has_73 : decode c_M_has 73 = .ok (.getfield 218, 3) := by decide +kernel
theorem d_M_has_76 : decode c_M_has 76 = .ok (.iload_n 3, 1) := by decide +kernel
theorem d_M_has_77 : decode c_M_has 77 = .ok (.iadd, 1) := by decide +kernel
theorem d_M_has_78 : decode c_M_has 78 = .ok (.iaload, 1) := by decide +kernel
theorem d_M_has_79 : decode c_M_has 79 = .ok (.aload_n 1, 1) := by decide +kernel
theorem d_M_has_80 : decode c_M_has 80 = .ok (.iload_n 3, 1) := by decide +kernel
theorem d_M_has_81 : decode c_M_has 81 = .ok (.invokevirtual 232, 3) := by decide +kernel
theorem d_M_has_84 : decode c_M_has 84 = .ok (.if_icmp .eq 5, 3) := by decide +kernel
theorem d_M_has_87 : decode c_M_has 87 = .ok (.iconst 0, 1) := by decide +kernel
theorem d_M_has_88 : decode c_M_has 88 = .ok (.ireturn, 1) := by decide +kernel
theorem d_M_has_89 : decode c_M_has 89 = .ok (.iinc 3 1, 3) := by decide +kernel
theorem d_M_has_92 : decode c_M_has 92 = .ok (.goto (-32), 3) := by decide +kernel
theorem d_M_has_95 : decode c_M_has 95 = .ok (.aload_n 0, 1) := by decide +kernel
theorem d_M_has_96 : decode c_M_has 96 = .ok (.iload_n 2, 1) := by decide +kernel
theorem d_M_has_97 : decode c_M_has 97 = .ok (.putfield 218, 3) := by decide +kernel
theorem d_M_has_100 : decode c_M_has 100 = .ok (.iconst 1, 1) := by decide +kernel
theorem d_M_has_101 : decode c_M_has 101 = .ok (.ireturn, 1) := by decide +kernel
theorem d_M_expects_0 : decode c_M_expects 0 = .ok (.aload_n 0, 1) := by decide +kernel
theorem d_M_expects_1 : decode c_M_expects 1 = .ok (.getfield 34, 3) := by decide +kernel
theorem d_M_expects_4 : decode c_M_expects 4 = .ok (.iconst (-1), 1) := by decide +kernel
theorem d_M_expects_5 : decode c_M_expects 5 = .ok (.if_icmp .ne 19, 3) := by decide +kernel
theorem d_M_expects_8 : decode c_M_expects 8 = .ok (.aload_n 0, 1) := by decide +kernel
theorem d_M_expects_9 : decode c_M_expects 9 = .ok (.aload_n 1, 1) := by decide +kernel
theorem d_M_expects_10 : decode c_M_expects 10 = .ok (.invokevirtual 236, 3) := by decide +kernel
theorem d_M_expects_13 : decode c_M_expects 13 = .ok (.ifCond .ne 11, 3) := by decide +kernel
theorem d_M_expects_16 : decode c_M_expects 16 = .ok (.aload_n 0, 1) := by decide +kernel
theorem d_M_expects_17 : decode c_M_expects 17 = .ok (.aload_n 0, 1) := by decide +kernel
theorem d_M_expects_18 : decode c_M_expects 18 = .ok (.getfield 218, 3) := by decide +kernel
theorem d_M_expects_21 : decode c_M_expects 21 = .ok (.invokevirtual 240, 3) := by decide +kernel
theorem d_M_expects_24 : decode c_M_expects 24 = .ok (.return_, 1) := by decide +kernel
theorem d_M_number_0 : decode c_M_number 0 = .ok (.aload_n 0, 1) := by decide +kernel
theorem d_M_number_1 : decode c_M_number 1 = .ok (.getfield 34, 3) := by decide +kernel
theorem d_M_number_4 : decode c_M_number 4 = .ok (.iconst (-1), 1) := by decide +kernel
theorem d_M_number_5 : decode c_M_number 5 = .ok (.if_icmp .eq 5, 3) := by decide +kernel
theorem d_M_number_8 : decode c_M_number 8 = .ok (.iconst 0, 1) := by decide +kernel
theorem d_M_number_9 : decode c_M_number 9 = .ok (.ireturn, 1) := by decide +kernel
theorem d_M_number_10 : decode c_M_number 10 = .ok (.aload_n 0, 1) := by decide +kernel
theorem d_M_number_11 : decode c_M_number 11 = .ok (.invokevirtual 224, 3) := by decide +kernel
theorem d_M_number_14 : decode c_M_number 14 = .ok (.istore_n 3, 1) := by decide +kernel
theorem d_M_number_15 : decode c_M_number 15 = .ok (.iconst 0, 1) := by decide +kernel
theorem d_M_number_16 : decode c_M_number 16 = .ok (.istore 4, 2) := by decide +kernel
theorem d_M_number_18 : decode c_M_number 18 = .ok (.aload_n 0, 1) := by decide +kernel
theorem d_M_number_19 : decode c_M_number 19 = .ok (.getfield 218, 3) := by decide +kernel
theorem d_M_number_22 : decode c_M_number 22 = .ok (.aload_n 0, 1) := by decide +kernel
theorem d_M_number_23 : decode c_M_number 23 = .ok (.getfield 221, 3) := by decide +kernel
theorem d_M_number_26 : decode c_M_number 26 = .ok (.if_icmp .ge 65, 3) := by decide +kernel
theorem d_M_number_29 : decode c_M_number 29 = .ok (.aload_n 0, 1) := by decide +kernel
theorem d_M_number_30 : decode c_M_number 30 = .ok (.getfield 31, 3) := by decide +kernel
theorem d_M_number_33 : decode c_M_number 33 = .ok (.aload_n 0, 1) := by decide +kernel
theorem d_M_number_34 : decode c_M_number 34 = .ok (.getfield 218, 3) := by decide +kernel
theorem d_M_number_37 : decode c_M_number 37 = .ok (.iaload, 1) := by decide +kernel
theorem d_M_number_38 : decode c_M_number 38 = .ok (.bipush 48, 2) := by decide +kernel
theorem d_M_number_40 : decode c_M_number 40 = .ok (.bipush 57, 2) := by decide +kernel
theorem d_M_number_42 : decode c_M_number 42 = .ok (.invokestatic 94, 3) := by decide +kernel
theorem d_M_number_45 : decode c_M_number 45 = .ok (.ifCond .eq 46, 3) := by decide +kernel
theorem d_M_number_48 : decode c_M_number 48 = .ok (.aload_n 0, 1) := by decide +kernel
theorem d_M_number_49 : decode c_M_number 49 = .ok (.getfield 218, 3) := by decide +kernel
theorem d_M_number_52 : decode c_M_number 52 = .ok (.iload_n 3, 1) := by decide +kernel
theorem d_M_number_53 : decode c_M_number 53 = .ok (.isub, 1) := by decide +kernel
theorem d_M_number_54 : decode c_M_number 54 = .ok (.iconst 2, 1) := by decide +kernel
theorem d_M_number_55 : decode c_M_number 55 = .ok (.if_icmp .gt 36, 3) := by decide +kernel
theorem d_M_number_58 : decode c_M_number 58 = .ok (.bipush 10, 2) := by decide +kernel
theorem d_M_number_60 : decode c_M_number 60 = .ok (.iload 4, 2) := by decide +kernel
theorem d_M_number_62 : decode c_M_number 62 = .ok (.imul, 1) := by decide +kernel
theorem d_M_number_63 : decode c_M_number 63 = .ok (.aload_n 0, 1) := by decide +kernel
theorem d_M_number_64 : decode c_M_number 64 = .ok (.getfield 31, 3) := by decide +kernel
theorem d_M_number_67 : decode c_M_number 67 = .ok (.aload_n 0, 1) := by decide +kernel
theorem d_M_number_68 : decode c_M_number 68 = .ok (.getfield 218, 3) := by decide +kernel
theorem d_M_number_71 : decode c_M_number 71 = .ok (.iaload, 1) := by decide +kernel
theorem d_M_number_72 : decode c_M_number 72 = .ok (.iadd, 1) := by decide +kernel
theorem d_M_number_73 : decode c_M_number 73 = .ok (.bipush 48, 2) := by decide +kernel
theorem d_M_number_75 : decode c_M_number 75 = .ok (.isub, 1) := by decide +kernel
theorem d_M_number_76 : decode c_M_number 76 = .ok (.istore 4, 2) := by decide +kernel
theorem d_M_number_78 : decode c_M_number 78 = .ok (.aload_n 0, 1) := by decide +kernel
theorem d_M_number_79 : decode c_M_number 79 = .ok (.dup, 1) := by decide +kernel
theorem d_M_number_80 : decode c_M_number 80 = .ok (.getfield 218, 3) := by decide +kernel
theorem d_M_number_83 : decode c_M_number 83 = .ok (.iconst 1, 1) := by decide +kernel
theorem d_M_number_84 : decode c_M_number 84 = .ok (.iadd, 1) := by decide +kernel
theorem d_M_number_85 : decode c_M_number 85 = .ok (.putfield 218, 3) := by decide +kernel
theorem d_M_number_88 : decode c_M_number 88 = .ok (.goto (-70), 3) := by decide +kernel
theorem d_M_number_91 : decode c_M_number 91 = .ok (.aload_n 0, 1) := by decide +kernel
theorem d_M_number_92 : decode c_M_number 92 = .ok (.getfield 218, 3) := by decide +kernel
theorem d_M_number_95 : decode c_M_number 95 = .ok (.iload_n 3, 1) := by decide +kernel
theorem d_M_number_96 : decode c_M_number 96 = .ok (.if_icmp .eq 25, 3) := by decide +kernel
theorem d_M_number_99 : decode c_M_number 99 = .ok (.aload_n 0, 1) := by decide +kernel
theorem d_M_number_100 : decode c_M_number 100 = .ok (.getfield 218, 3) := by decide +kernel
theorem d_M_number_103 : decode c_M_number 103 = .ok (.iload_n 3, 1) := by decide +kernel
theorem d_M_number_104 : decode c_M_number 104 = .ok (.isub, 1) := by decide +kernel
theorem d_M_number_105 : decode c_M_number 105 = .ok (.iconst 2, 1) := by decide +kernel
theorem d_M_number_106 : decode c_M_number 106 = .ok (.if_icmp .gt 15, 3) := by decide +kernel
theorem d_M_number_109 : decode c_M_number 109 = .ok (.iload 4, 2) := by decide +kernel
theorem d_M_number_111 : decode c_M_number 111 = .ok (.iload_n 1, 1) := by decide +kernel
theorem d_M_number_112 : decode c_M_number 112 = .ok (.if_icmp .lt 9, 3) := by decide +kernel
theorem d_M_number_115 : decode c_M_number 115 = .ok (.iload 4, 2) := by decide +kernel
theorem d_M_number_117 : decode c_M_number 117 = .ok (.iload_n 2, 1) := by decide +kernel
theorem d_M_number_118 : decode c_M_number 118 = .ok (.if_icmp .le 8, 3) := by decide +kernel
theorem d_M_number_121 : decode c_M_number 121 = .ok (.aload_n 0, 1) := by decide +kernel
theorem d_M_number_122 : decode c_M_number 122 = .ok (.iload_n 3, 1) := by decide +kernel
theorem d_M_number_123 : decode c_M_number 123 = .ok (.invokevirtual 240, 3) := by decide +kernel
theorem d_M_number_126 : decode c_M_number 126 = .ok (.iload 4, 2) := by decide +kernel
theorem d_M_number_128 : decode c_M_number 128 = .ok (.ireturn, 1) := by decide +kernel
theorem d_M_mustSign_0 : decode c_M_mustSign 0 = .ok (.aload_n 0, 1) := by decide +kernel
theorem d_M_mustSign_1 : decode c_M_mustSign 1 = .ok (.getfield 34, 3) := by decide +kernel
theorem d_M_mustSign_4 : decode c_M_mustSign 4 = .ok (.iconst (-1), 1) := by decide +kernel
theorem d_M_mustSign_5 : decode c_M_mustSign 5 = .ok (.if_icmp .eq 4, 3) := by decide +kernel
theorem d_M_mustSign_8 : decode c_M_mustSign 8 = .ok (.return_, 1) := by decide +kernel
theorem d_M_mustSign_9 : decode c_M_mustSign 9 = .ok (.aload_n 0, 1) := by decide +kernel
theorem d_M_mustSign_10 : decode c_M_mustSign 10 = .ok (.invokevirtual 224, 3) := by decide +kernel
theorem d_M_mustSign_13 : decode c_M_mustSign 13 = .ok (.aload_n 0, 1) := by decide +kernel
theorem d_M_mustSign_14 : decode c_M_mustSign 14 = .ok (.getfield 221, 3) := by decide +kernel
theorem d_M_mustSign_17 : decode c_M_mustSign 17 = .ok (.if_icmp .ge 30, 3) := by decide +kernel
theorem d_M_mustSign_20 : decode c_M_mustSign 20 = .ok (.aload_n 0, 1) := by decide +kernel
theorem d_M_mustSign_21 : decode c_M_mustSign 21 = .ok (.getfield 31, 3) := by decide +kernel
theorem d_M_mustSign_24 : decode c_M_mustSign 24 = .ok (.aload_n 0, 1) := by decide +kernel
theorem d_M_mustSign_25 : decode c_M_mustSign 25 = .ok (.getfield 218, 3) := by decide +kernel
theorem d_M_mustSign_28 : decode c_M_mustSign 28 = .ok (.iaload, 1) := by decide +kernel
theorem d_M_mustSign_29 : decode c_M_mustSign 29 = .ok (.bipush 59, 2) := by decide +kernel
theorem d_M_mustSign_31 : decode c_M_mustSign 31 = .ok (.if_icmp .ne 16, 3) := by decide +kernel
theorem d_M_mustSign_34 : decode c_M_mustSign 34 = .ok (.aload_n 0, 1) := by decide +kernel
theorem d_M_mustSign_35 : decode c_M_mustSign 35 = .ok (.dup, 1) := by decide +kernel
theorem d_M_mustSign_36 : decode c_M_mustSign 36 = .ok (.getfield 218, 3) := by decide +kernel
theorem d_M_mustSign_39 : decode c_M_mustSign 39 = .ok (.iconst 1, 1) := by decide +kernel
theorem d_M_mustSign_40 : decode c_M_mustSign 40 = .ok (.iadd, 1) := by decide +kernel
theorem d_M_mustSign_41 : decode c_M_mustSign 41 = .ok (.putfield 218, 3) := by decide +kernel
theorem d_M_mustSign_44 : decode c_M_mustSign 44 = .ok (.goto 11, 3) := by decide +kernel
theorem d_M_mustSign_47 : decode c_M_mustSign 47 = .ok (.aload_n 0, 1) := by decide +kernel
theorem d_M_mustSign_48 : decode c_M_mustSign 48 = .ok (.aload_n 0, 1) := by decide +kernel
theorem d_M_mustSign_49 : decode c_M_mustSign 49 = .ok (.getfield 218, 3) := by decide +kernel
theorem d_M_mustSign_52 : decode c_M_mustSign 52 = .ok (.invokevirtual 240, 3) := by decide +kernel
theorem d_M_mustSign_55 : decode c_M_mustSign 55 = .ok (.return_, 1) := by decide +kernel
theorem d_M_heights_0 : decode c_M_heights 0 = .ok (.iconst 0, 1) := by decide +kernel
theorem d_M_heights_1 : decode c_M_heights 1 = .ok (.istore_n 1, 1) := by decide +kernel
theorem d_M_heights_2 : decode c_M_heights 2 = .ok (.iload_n 1, 1) := by decide +kernel
theorem d_M_heights_3 : decode c_M_heights 3 = .ok (.aload_n 0, 1) := by decide +kernel
theorem d_M_heights_4 : decode c_M_heights 4 = .ok (.getfield 38, 3) := by decide +kernel
theorem d_M_heights_7 : decode c_M_heights 7 = .ok (.iconst 1, 1) := by decide +kernel
theorem d_M_heights_8 : decode c_M_heights 8 = .ok (.iaload, 1) := by decide +kernel
theorem d_M_heights_9 : decode c_M_heights 9 = .ok (.if_icmp .ge 80, 3) := by decide +kernel
theorem d_M_heights_12 : decode c_M_heights 12 = .ok (.aload_n 0, 1) := by decide +kernel
theorem d_M_heights_13 : decode c_M_heights 13 = .ok (.getfield 34, 3) := by decide +kernel
theorem d_M_heights_16 : decode c_M_heights 16 = .ok (.iconst (-1), 1) := by decide +kernel
theorem d_M_heights_17 : decode c_M_heights 17 = .ok (.if_icmp .ne 72, 3) := by decide +kernel
theorem d_M_heights_20 : decode c_M_heights 20 = .ok (.aload_n 0, 1) := by decide +kernel
theorem d_M_heights_21 : decode c_M_heights 21 = .ok (.invokevirtual 243, 3) := by decide +kernel
theorem d_M_heights_24 : decode c_M_heights 24 = .ok (.aload_n 0, 1) := by decide +kernel
theorem d_M_heights_25 : decode c_M_heights 25 = .ok (.ldc 246, 2) := by decide +kernel
theorem d_M_heights_27 : decode c_M_heights 27 = .ok (.invokevirtual 248, 3) := by decide +kernel
theorem d_M_heights_30 : decode c_M_heights 30 = .ok (.iconst 0, 1) := by decide +kernel
theorem d_M_heights_31 : decode c_M_heights 31 = .ok (.istore_n 2, 1) := by decide +kernel
theorem d_M_heights_32 : decode c_M_heights 32 = .ok (.iload_n 2, 1) := by decide +kernel
theorem d_M_heights_33 : decode c_M_heights 33 = .ok (.aload_n 0, 1) := by decide +kernel
theorem d_M_heights_34 : decode c_M_heights 34 = .ok (.getfield 38, 3) := by decide +kernel
theorem d_M_heights_37 : decode c_M_heights 37 = .ok (.iconst 0, 1) := by decide +kernel
theorem d_M_heights_38 : decode c_M_heights 38 = .ok (.iaload, 1) := by decide +kernel
theorem d_M_heights_39 : decode c_M_heights 39 = .ok (.if_icmp .ge 44, 3) := by decide +kernel
theorem d_M_heights_42 : decode c_M_heights 42 = .ok (.aload_n 0, 1) := by decide +kernel
theorem d_M_heights_43 : decode c_M_heights 43 = .ok (.iconst 0, 1) := by decide +kernel
theorem d_M_heights_44 : decode c_M_heights 44 = .ok (.bipush 99, 2) := by decide +kernel
theorem d_M_heights_46 : decode c_M_heights 46 = .ok (.invokevirtual 252, 3) := by decide +kernel
theorem d_M_heights_49 : decode c_M_heights 49 = .ok (.istore_n 3, 1) := by decide +kernel
theorem d_M_heights_50 : decode c_M_heights 50 = .ok (.aload_n 0, 1) := by decide +kernel
theorem d_M_heights_51 : decode c_M_heights 51 = .ok (.getfield 34, 3) := by decide +kernel
theorem d_M_heights_54 : decode c_M_heights 54 = .ok (.iconst (-1), 1) := by decide +kernel
theorem d_M_heights_55 : decode c_M_heights 55 = .ok (.if_icmp .ne 22, 3) := by decide +kernel
theorem d_M_heights_58 : decode c_M_heights 58 = .ok (.aload_n 0, 1) := by decide +kernel
theorem d_M_heights_59 : decode c_M_heights 59 = .ok (.getfield 38, 3) := by decide +kernel
theorem d_M_heights_62 : decode c_M_heights 62 = .ok (.bipush 13, 2) := by decide +kernel
theorem d_M_heights_64 : decode c_M_heights 64 = .ok (.iload_n 1, 1) := by decide +kernel
theorem d_M_heights_65 : decode c_M_heights 65 = .ok (.aload_n 0, 1) := by decide +kernel
theorem d_M_heights_66 : decode c_M_heights 66 = .ok (.getfield 38, 3) := by decide +kernel
theorem d_M_heights_69 : decode c_M_heights 69 = .ok (.iconst 0, 1) := by decide +kernel
theorem d_M_heights_70 : decode c_M_heights 70 = .ok (.iaload, 1) := by decide +kernel
theorem d_M_heights_71 : decode c_M_heights 71 = .ok (.imul, 1) := by decide +kernel
theorem d_M_heights_72 : decode c_M_heights 72 = .ok (.iadd, 1) := by decide +kernel
theorem d_M_heights_73 : decode c_M_heights 73 = .ok (.iload_n 2, 1) := by decide +kernel
theorem d_M_heights_74 : decode c_M_heights 74 = .ok (.iadd, 1) := by decide +kernel
theorem d_M_heights_75 : decode c_M_heights 75 = .ok (.iload_n 3, 1) := by decide +kernel
theorem d_M_heights_76 : decode c_M_heights 76 = .ok (.iastore, 1) := by decide +kernel
theorem d_M_heights_77 : decode c_M_heights 77 = .ok (.iinc 2 1, 3) := by decide +kernel
theorem d_M_heights_80 : decode c_M_heights 80 = .ok (.goto (-48), 3) := by decide +kernel
theorem d_M_heights_83 : decode c_M_heights 83 = .ok (.iinc 1 1, 3) := by decide +kernel
theorem d_M_heights_86 : decode c_M_heights 86 = .ok (.goto (-84), 3) := by decide +kernel
theorem d_M_heights_89 : decode c_M_heights 89 = .ok (.return_, 1) := by decide +kernel
theorem d_M_termHere_0 : decode c_M_termHere 0 = .ok (.bipush 11, 2) := by decide +kernel
theorem d_M_termHere_2 : decode c_M_termHere 2 = .ok (.anewarray 228, 3) := by decide +kernel
theorem d_M_termHere_5 : decode c_M_termHere 5 = .ok (.dup, 1) := by decide +kernel
theorem d_M_termHere_6 : decode c_M_termHere 6 = .ok (.iconst 0, 1) := by decide +kernel
theorem d_M_termHere_7 : decode c_M_termHere 7 = .ok (.ldc 255, 2) := by decide +kernel
theorem d_M_termHere_9 : decode c_M_termHere 9 = .ok (.aastore, 1) := by decide +kernel
theorem d_M_termHere_10 : decode c_M_termHere 10 = .ok (.dup, 1) := by decide +kernel
theorem d_M_termHere_11 : decode c_M_termHere 11 = .ok (.iconst 1, 1) := by decide +kernel
theorem d_M_termHere_12 : decode c_M_termHere 12 = .ok (.ldc_w 257, 3) := by decide +kernel
theorem d_M_termHere_15 : decode c_M_termHere 15 = .ok (.aastore, 1) := by decide +kernel
theorem d_M_termHere_16 : decode c_M_termHere 16 = .ok (.dup, 1) := by decide +kernel
theorem d_M_termHere_17 : decode c_M_termHere 17 = .ok (.iconst 2, 1) := by decide +kernel
theorem d_M_termHere_18 : decode c_M_termHere 18 = .ok (.ldc_w 259, 3) := by decide +kernel
theorem d_M_termHere_21 : decode c_M_termHere 21 = .ok (.aastore, 1) := by decide +kernel
theorem d_M_termHere_22 : decode c_M_termHere 22 = .ok (.dup, 1) := by decide +kernel
theorem d_M_termHere_23 : decode c_M_termHere 23 = .ok (.iconst 3, 1) := by decide +kernel
theorem d_M_termHere_24 : decode c_M_termHere 24 = .ok (.ldc_w 261, 3) := by decide +kernel
theorem d_M_termHere_27 : decode c_M_termHere 27 = .ok (.aastore, 1) := by decide +kernel
theorem d_M_termHere_28 : decode c_M_termHere 28 = .ok (.dup, 1) := by decide +kernel
theorem d_M_termHere_29 : decode c_M_termHere 29 = .ok (.iconst 4, 1) := by decide +kernel
theorem d_M_termHere_30 : decode c_M_termHere 30 = .ok (.ldc_w 263, 3) := by decide +kernel
theorem d_M_termHere_33 : decode c_M_termHere 33 = .ok (.aastore, 1) := by decide +kernel
theorem d_M_termHere_34 : decode c_M_termHere 34 = .ok (.dup, 1) := by decide +kernel
theorem d_M_termHere_35 : decode c_M_termHere 35 = .ok (.iconst 5, 1) := by decide +kernel
theorem d_M_termHere_36 : decode c_M_termHere 36 = .ok (.ldc_w 265, 3) := by decide +kernel
theorem d_M_termHere_39 : decode c_M_termHere 39 = .ok (.aastore, 1) := by decide +kernel
theorem d_M_termHere_40 : decode c_M_termHere 40 = .ok (.dup, 1) := by decide +kernel
theorem d_M_termHere_41 : decode c_M_termHere 41 = .ok (.bipush 6, 2) := by decide +kernel
theorem d_M_termHere_43 : decode c_M_termHere 43 = .ok (.ldc_w 267, 3) := by decide +kernel
theorem d_M_termHere_46 : decode c_M_termHere 46 = .ok (.aastore, 1) := by decide +kernel
theorem d_M_termHere_47 : decode c_M_termHere 47 = .ok (.dup, 1) := by decide +kernel
theorem d_M_termHere_48 : decode c_M_termHere 48 = .ok (.bipush 7, 2) := by decide +kernel
theorem d_M_termHere_50 : decode c_M_termHere 50 = .ok (.ldc_w 269, 3) := by decide +kernel
theorem d_M_termHere_53 : decode c_M_termHere 53 = .ok (.aastore, 1) := by decide +kernel
theorem d_M_termHere_54 : decode c_M_termHere 54 = .ok (.dup, 1) := by decide +kernel
theorem d_M_termHere_55 : decode c_M_termHere 55 = .ok (.bipush 8, 2) := by decide +kernel
theorem d_M_termHere_57 : decode c_M_termHere 57 = .ok (.ldc_w 271, 3) := by decide +kernel
theorem d_M_termHere_60 : decode c_M_termHere 60 = .ok (.aastore, 1) := by decide +kernel
theorem d_M_termHere_61 : decode c_M_termHere 61 = .ok (.dup, 1) := by decide +kernel
theorem d_M_termHere_62 : decode c_M_termHere 62 = .ok (.bipush 9, 2) := by decide +kernel
theorem d_M_termHere_64 : decode c_M_termHere 64 = .ok (.ldc_w 273, 3) := by decide +kernel
theorem d_M_termHere_67 : decode c_M_termHere 67 = .ok (.aastore, 1) := by decide +kernel
theorem d_M_termHere_68 : decode c_M_termHere 68 = .ok (.dup, 1) := by decide +kernel
theorem d_M_termHere_69 : decode c_M_termHere 69 = .ok (.bipush 10, 2) := by decide +kernel
theorem d_M_termHere_71 : decode c_M_termHere 71 = .ok (.ldc_w 275, 3) := by decide +kernel
theorem d_M_termHere_74 : decode c_M_termHere 74 = .ok (.aastore, 1) := by decide +kernel
theorem d_M_termHere_75 : decode c_M_termHere 75 = .ok (.astore_n 1, 1) := by decide +kernel
theorem d_M_termHere_76 : decode c_M_termHere 76 = .ok (.iconst 0, 1) := by decide +kernel
theorem d_M_termHere_77 : decode c_M_termHere 77 = .ok (.istore_n 2, 1) := by decide +kernel
theorem d_M_termHere_78 : decode c_M_termHere 78 = .ok (.iload_n 2, 1) := by decide +kernel
theorem d_M_termHere_79 : decode c_M_termHere 79 = .ok (.bipush 11, 2) := by decide +kernel
theorem d_M_termHere_81 : decode c_M_termHere 81 = .ok (.if_icmp .ge 21, 3) := by decide +kernel
theorem d_M_termHere_84 : decode c_M_termHere 84 = .ok (.aload_n 0, 1) := by decide +kernel
theorem d_M_termHere_85 : decode c_M_termHere 85 = .ok (.aload_n 1, 1) := by decide +kernel
theorem d_M_termHere_86 : decode c_M_termHere 86 = .ok (.iload_n 2, 1) := by decide +kernel
theorem d_M_termHere_87 : decode c_M_termHere 87 = .ok (.aaload, 1) := by decide +kernel
theorem d_M_termHere_88 : decode c_M_termHere 88 = .ok (.invokevirtual 236, 3) := by decide +kernel
theorem d_M_termHere_91 : decode c_M_termHere 91 = .ok (.ifCond .eq 5, 3) := by decide +kernel
theorem d_M_termHere_94 : decode c_M_termHere 94 = .ok (.iload_n 2, 1) := by decide +kernel
theorem d_M_termHere_95 : decode c_M_termHere 95 = .ok (.ireturn, 1) := by decide +kernel
theorem d_M_termHere_96 : decode c_M_termHere 96 = .ok (.iinc 2 1, 3) := by decide +kernel
theorem d_M_termHere_99 : decode c_M_termHere 99 = .ok (.goto (-21), 3) := by decide +kernel
theorem d_M_termHere_102 : decode c_M_termHere 102 = .ok (.iconst (-1), 1) := by decide +kernel
theorem d_M_termHere_103 : decode c_M_termHere 103 = .ok (.ireturn, 1) := by decide +kernel
theorem d_M_moreLine_0 : decode c_M_moreLine 0 = .ok (.aload_n 0, 1) := by decide +kernel
theorem d_M_moreLine_1 : decode c_M_moreLine 1 = .ok (.invokevirtual 224, 3) := by decide +kernel
theorem d_M_moreLine_4 : decode c_M_moreLine 4 = .ok (.istore_n 1, 1) := by decide +kernel
theorem d_M_moreLine_5 : decode c_M_moreLine 5 = .ok (.aload_n 0, 1) := by decide +kernel
theorem d_M_moreLine_6 : decode c_M_moreLine 6 = .ok (.ldc_w 277, 3) := by decide +kernel
theorem d_M_moreLine_9 : decode c_M_moreLine 9 = .ok (.invokevirtual 236, 3) := by decide +kernel
theorem d_M_moreLine_12 : decode c_M_moreLine 12 = .ok (.ifCond .eq 74, 3) := by decide +kernel
theorem d_M_moreLine_15 : decode c_M_moreLine 15 = .ok (.aload_n 0, 1) := by decide +kernel
theorem d_M_moreLine_16 : decode c_M_moreLine 16 = .ok (.invokevirtual 224, 3) := by decide +kernel
theorem d_M_moreLine_19 : decode c_M_moreLine 19 = .ok (.istore_n 2, 1) := by decide +kernel
theorem d_M_moreLine_20 : decode c_M_moreLine 20 = .ok (.aload_n 0, 1) := by decide +kernel
theorem d_M_moreLine_21 : decode c_M_moreLine 21 = .ok (.iconst 0, 1) := by decide +kernel
theorem d_M_moreLine_22 : decode c_M_moreLine 22 = .ok (.aload_n 0, 1) := by decide +kernel
theorem d_M_moreLine_23 : decode c_M_moreLine 23 = .ok (.getfield 38, 3) := by decide +kernel
theorem d_M_moreLine_26 : decode c_M_moreLine 26 = .ok (.iconst 0, 1) := by decide +kernel
theorem d_M_moreLine_27 : decode c_M_moreLine 27 = .ok (.iaload, 1) := by decide +kernel
theorem d_M_moreLine_28 : decode c_M_moreLine 28 = .ok (.aload_n 0, 1) := by decide +kernel
theorem d_M_moreLine_29 : decode c_M_moreLine 29 = .ok (.getfield 38, 3) := by decide +kernel
theorem d_M_moreLine_32 : decode c_M_moreLine 32 = .ok (.iconst 1, 1) := by decide +kernel
theorem d_M_moreLine_33 : decode c_M_moreLine 33 = .ok (.iaload, 1) := by decide +kernel
theorem d_M_moreLine_34 : decode c_M_moreLine 34 = .ok (.imul, 1) := by decide +kernel
theorem d_M_moreLine_35 : decode c_M_moreLine 35 = .ok (.iconst 1, 1) := by decide +kernel
theorem d_M_moreLine_36 : decode c_M_moreLine 36 = .ok (.isub, 1) := by decide +kernel
theorem d_M_moreLine_37 : decode c_M_moreLine 37 = .ok (.invokevirtual 252, 3) := by decide +kernel
theorem d_M_moreLine_40 : decode c_M_moreLine 40 = .ok (.istore_n 3, 1) := by decide +kernel
theorem d_M_moreLine_41 : decode c_M_moreLine 41 = .ok (.aload_n 0, 1) := by decide +kernel
theorem d_M_moreLine_42 : decode c_M_moreLine 42 = .ok (.getfield 34, 3) := by decide +kernel
theorem d_M_moreLine_45 : decode c_M_moreLine 45 = .ok (.iconst (-1), 1) := by decide +kernel
theorem d_M_moreLine_46 : decode c_M_moreLine 46 = .ok (.if_icmp .ne 21, 3) := by decide +kernel
theorem d_M_moreLine_49 : decode c_M_moreLine 49 = .ok (.aload_n 0, 1) := by decide +kernel
theorem d_M_moreLine_50 : decode c_M_moreLine 50 = .ok (.getfield 38, 3) := by decide +kernel
theorem d_M_moreLine_53 : decode c_M_moreLine 53 = .ok (.bipush 94, 2) := by decide +kernel
theorem d_M_moreLine_55 : decode c_M_moreLine 55 = .ok (.iload_n 3, 1) := by decide +kernel
theorem d_M_moreLine_56 : decode c_M_moreLine 56 = .ok (.iadd, 1) := by decide +kernel
theorem d_M_moreLine_57 : decode c_M_moreLine 57 = .ok (.iaload, 1) := by decide +kernel
theorem d_M_moreLine_58 : decode c_M_moreLine 58 = .ok (.iconst 1, 1) := by decide +kernel
theorem d_M_moreLine_59 : decode c_M_moreLine 59 = .ok (.if_icmp .ne 8, 3) := by decide +kernel
theorem d_M_moreLine_62 : decode c_M_moreLine 62 = .ok (.aload_n 0, 1) := by decide +kernel
theorem d_M_moreLine_63 : decode c_M_moreLine 63 = .ok (.iload_n 2, 1) := by decide +kernel
theorem d_M_moreLine_64 : decode c_M_moreLine 64 = .ok (.invokevirtual 240, 3) := by decide +kernel
theorem d_M_moreLine_67 : decode c_M_moreLine 67 = .ok (.aload_n 0, 1) := by decide +kernel
theorem d_M_moreLine_68 : decode c_M_moreLine 68 = .ok (.getfield 34, 3) := by decide +kernel
theorem d_M_moreLine_71 : decode c_M_moreLine 71 = .ok (.iconst (-1), 1) := by decide +kernel
theorem d_M_moreLine_72 : decode c_M_moreLine 72 = .ok (.if_icmp .ne 13, 3) := by decide +kernel
theorem d_M_moreLine_75 : decode c_M_moreLine 75 = .ok (.aload_n 0, 1) := by decide +kernel
theorem d_M_moreLine_76 : decode c_M_moreLine 76 = .ok (.getfield 38, 3) := by decide +kernel
theorem d_M_moreLine_79 : decode c_M_moreLine 79 = .ok (.bipush 94, 2) := by decide +kernel
theorem d_M_moreLine_81 : decode c_M_moreLine 81 = .ok (.iload_n 3, 1) := by decide +kernel
theorem d_M_moreLine_82 : decode c_M_moreLine 82 = .ok (.iadd, 1) := by decide +kernel
theorem d_M_moreLine_83 : decode c_M_moreLine 83 = .ok (.iconst 1, 1) := by decide +kernel
theorem d_M_moreLine_84 : decode c_M_moreLine 84 = .ok (.iastore, 1) := by decide +kernel
theorem d_M_moreLine_85 : decode c_M_moreLine 85 = .ok (.return_, 1) := by decide +kernel
theorem d_M_moreLine_86 : decode c_M_moreLine 86 = .ok (.aload_n 0, 1) := by decide +kernel
theorem d_M_moreLine_87 : decode c_M_moreLine 87 = .ok (.invokevirtual 279, 3) := by decide +kernel
theorem d_M_moreLine_90 : decode c_M_moreLine 90 = .ok (.istore_n 2, 1) := by decide +kernel
theorem d_M_moreLine_91 : decode c_M_moreLine 91 = .ok (.iload_n 2, 1) := by decide +kernel
theorem d_M_moreLine_92 : decode c_M_moreLine 92 = .ok (.iconst (-1), 1) := by decide +kernel
theorem d_M_moreLine_93 : decode c_M_moreLine 93 = .ok (.if_icmp .eq 15, 3) := by decide +kernel
theorem d_M_moreLine_96 : decode c_M_moreLine 96 = .ok (.aload_n 0, 1) := by decide +kernel
theorem d_M_moreLine_97 : decode c_M_moreLine 97 = .ok (.getfield 282, 3) := by decide +kernel
theorem d_M_moreLine_100 : decode c_M_moreLine 100 = .ok (.iload_n 2, 1) := by decide +kernel
theorem d_M_moreLine_101 : decode c_M_moreLine 101 = .ok (.ishr, 1) := by decide +kernel
theorem d_M_moreLine_102 : decode c_M_moreLine 102 = .ok (.iconst 1, 1) := by decide +kernel
theorem d_M_moreLine_103 : decode c_M_moreLine 103 = .ok (.iand, 1) := by decide +kernel
theorem d_M_moreLine_104 : decode c_M_moreLine 104 = .ok (.iconst 1, 1) := by decide +kernel
theorem d_M_moreLine_105 : decode c_M_moreLine 105 = .ok (.if_icmp .ne 9, 3) := by decide +kernel
theorem d_M_moreLine_108 : decode c_M_moreLine 108 = .ok (.aload_n 0, 1) := by decide +kernel
theorem d_M_moreLine_109 : decode c_M_moreLine 109 = .ok (.iload_n 1, 1) := by decide +kernel
theorem d_M_moreLine_110 : decode c_M_moreLine 110 = .ok (.invokevirtual 240, 3) := by decide +kernel
theorem d_M_moreLine_113 : decode c_M_moreLine 113 = .ok (.return_, 1) := by decide +kernel
theorem d_M_moreLine_114 : decode c_M_moreLine 114 = .ok (.aload_n 0, 1) := by decide +kernel
theorem d_M_moreLine_115 : decode c_M_moreLine 115 = .ok (.dup, 1) := by decide +kernel
theorem d_M_moreLine_116 : decode c_M_moreLine 116 = .ok (.getfield 282, 3) := by decide +kernel
theorem d_M_moreLine_119 : decode c_M_moreLine 119 = .ok (.iconst 1, 1) := by decide +kernel
theorem d_M_moreLine_120 : decode c_M_moreLine 120 = .ok (.iload_n 2, 1) := by decide +kernel
theorem d_M_moreLine_121 : decode c_M_moreLine 121 = .ok (.ishl, 1) := by decide +kernel
theorem d_M_moreLine_122 : decode c_M_moreLine 122 = .ok (.ior, 1) := by decide +kernel
theorem d_M_moreLine_123 : decode c_M_moreLine 123 = .ok (.putfield 282, 3) := by decide +kernel
theorem d_M_moreLine_126 : decode c_M_moreLine 126 = .ok (.aload_n 0, 1) := by decide +kernel
theorem d_M_moreLine_127 : decode c_M_moreLine 127 = .ok (.getfield 38, 3) := by decide +kernel
theorem d_M_moreLine_130 : decode c_M_moreLine 130 = .ok (.iconst 2, 1) := by decide +kernel
theorem d_M_moreLine_131 : decode c_M_moreLine 131 = .ok (.iload_n 2, 1) := by decide +kernel
theorem d_M_moreLine_132 : decode c_M_moreLine 132 = .ok (.iadd, 1) := by decide +kernel
theorem d_M_moreLine_133 : decode c_M_moreLine 133 = .ok (.aload_n 0, 1) := by decide +kernel
theorem d_M_moreLine_134 : decode c_M_moreLine 134 = .ok (.iload_n 2, 1) := by decide +kernel
theorem d_M_moreLine_135 : decode c_M_moreLine 135 = .ok (.ifCond .ne 7, 3) := by decide +kernel
theorem d_M_moreLine_138 : decode c_M_moreLine 138 = .ok (.iconst 1, 1) := by decide +kernel
theorem d_M_moreLine_139 : decode c_M_moreLine 139 = .ok (.goto 4, 3) := by decide +kernel
theorem d_M_moreLine_142 : decode c_M_moreLine 142 = .ok (.iconst 0, 1) := by decide +kernel
theorem d_M_moreLine_143 : decode c_M_moreLine 143 = .ok (.aload_n 0, 1) := by decide +kernel
theorem d_M_moreLine_144 : decode c_M_moreLine 144 = .ok (.getfield 22, 3) := by decide +kernel
theorem d_M_moreLine_147 : decode c_M_moreLine 147 = .ok (.iload_n 2, 1) := by decide +kernel
theorem d_M_moreLine_148 : decode c_M_moreLine 148 = .ok (.iaload, 1) := by decide +kernel
theorem d_M_moreLine_149 : decode c_M_moreLine 149 = .ok (.invokevirtual 252, 3) := by decide +kernel
theorem d_M_moreLine_152 : decode c_M_moreLine 152 = .ok (.iastore, 1) := by decide +kernel
theorem d_M_moreLine_153 : decode c_M_moreLine 153 = .ok (.return_, 1) := by decide +kernel
theorem d_M_land_0 : decode c_M_land 0 = .ok (.aload_n 0, 1) := by decide +kernel
theorem d_M_land_1 : decode c_M_land 1 = .ok (.iconst (-1), 1) := by decide +kernel
theorem d_M_land_2 : decode c_M_land 2 = .ok (.putfield 34, 3) := by decide +kernel
theorem d_M_land_5 : decode c_M_land 5 = .ok (.aload_n 0, 1) := by decide +kernel
theorem d_M_land_6 : decode c_M_land 6 = .ok (.aload_n 0, 1) := by decide +kernel
theorem d_M_land_7 : decode c_M_land 7 = .ok (.getfield 215, 3) := by decide +kernel
theorem d_M_land_10 : decode c_M_land 10 = .ok (.putfield 221, 3) := by decide +kernel
theorem d_M_land_13 : decode c_M_land 13 = .ok (.aload_n 0, 1) := by decide +kernel
theorem d_M_land_14 : decode c_M_land 14 = .ok (.iconst 0, 1) := by decide +kernel
theorem d_M_land_15 : decode c_M_land 15 = .ok (.putfield 215, 3) := by decide +kernel
theorem d_M_land_18 : decode c_M_land 18 = .ok (.aload_n 0, 1) := by decide +kernel
theorem d_M_land_19 : decode c_M_land 19 = .ok (.iconst 0, 1) := by decide +kernel
theorem d_M_land_20 : decode c_M_land 20 = .ok (.putfield 218, 3) := by decide +kernel
theorem d_M_land_23 : decode c_M_land 23 = .ok (.aload_n 0, 1) := by decide +kernel
theorem d_M_land_24 : decode c_M_land 24 = .ok (.iconst 0, 1) := by decide +kernel
theorem d_M_land_25 : decode c_M_land 25 = .ok (.putfield 282, 3) := by decide +kernel
theorem d_M_land_28 : decode c_M_land 28 = .ok (.iconst 0, 1) := by decide +kernel
theorem d_M_land_29 : decode c_M_land 29 = .ok (.istore_n 1, 1) := by decide +kernel
theorem d_M_land_30 : decode c_M_land 30 = .ok (.iload_n 1, 1) := by decide +kernel
theorem d_M_land_31 : decode c_M_land 31 = .ok (.sipush 499, 3) := by decide +kernel
theorem d_M_land_34 : decode c_M_land 34 = .ok (.if_icmp .ge 16, 3) := by decide +kernel
theorem d_M_land_37 : decode c_M_land 37 = .ok (.aload_n 0, 1) := by decide +kernel
theorem d_M_land_38 : decode c_M_land 38 = .ok (.getfield 38, 3) := by decide +kernel
theorem d_M_land_41 : decode c_M_land 41 = .ok (.iload_n 1, 1) := by decide +kernel
theorem d_M_land_42 : decode c_M_land 42 = .ok (.iconst 0, 1) := by decide +kernel
theorem d_M_land_43 : decode c_M_land 43 = .ok (.iastore, 1) := by decide +kernel
theorem d_M_land_44 : decode c_M_land 44 = .ok (.iinc 1 1, 3) := by decide +kernel
theorem d_M_land_47 : decode c_M_land 47 = .ok (.goto (-17), 3) := by decide +kernel
theorem d_M_land_50 : decode c_M_land 50 = .ok (.iconst 0, 1) := by decide +kernel
theorem d_M_land_51 : decode c_M_land 51 = .ok (.istore_n 1, 1) := by decide +kernel
theorem d_M_land_52 : decode c_M_land 52 = .ok (.iload_n 1, 1) := by decide +kernel
theorem d_M_land_53 : decode c_M_land 53 = .ok (.bipush 11, 2) := by decide +kernel
theorem d_M_land_55 : decode c_M_land 55 = .ok (.if_icmp .ge 23, 3) := by decide +kernel
theorem d_M_land_58 : decode c_M_land 58 = .ok (.aload_n 0, 1) := by decide +kernel
theorem d_M_land_59 : decode c_M_land 59 = .ok (.getfield 38, 3) := by decide +kernel
theorem d_M_land_62 : decode c_M_land 62 = .ok (.iconst 2, 1) := by decide +kernel
theorem d_M_land_63 : decode c_M_land 63 = .ok (.iload_n 1, 1) := by decide +kernel
theorem d_M_land_64 : decode c_M_land 64 = .ok (.iadd, 1) := by decide +kernel
theorem d_M_land_65 : decode c_M_land 65 = .ok (.aload_n 0, 1) := by decide +kernel
theorem d_M_land_66 : decode c_M_land 66 = .ok (.getfield 19, 3) := by decide +kernel
theorem d_M_land_69 : decode c_M_land 69 = .ok (.iload_n 1, 1) := by decide +kernel
theorem d_M_land_70 : decode c_M_land 70 = .ok (.iaload, 1) := by decide +kernel
theorem d_M_land_71 : decode c_M_land 71 = .ok (.iastore, 1) := by decide +kernel
theorem d_M_land_72 : decode c_M_land 72 = .ok (.iinc 1 1, 3) := by decide +kernel
theorem d_M_land_75 : decode c_M_land 75 = .ok (.goto (-23), 3) := by decide +kernel
theorem d_M_land_78 : decode c_M_land 78 = .ok (.aload_n 0, 1) := by decide +kernel
theorem d_M_land_79 : decode c_M_land 79 = .ok (.ldc_w 285, 3) := by decide +kernel
theorem d_M_land_82 : decode c_M_land 82 = .ok (.invokevirtual 248, 3) := by decide +kernel
theorem d_M_land_85 : decode c_M_land 85 = .ok (.aload_n 0, 1) := by decide +kernel
theorem d_M_land_86 : decode c_M_land 86 = .ok (.iconst 2, 1) := by decide +kernel
theorem d_M_land_87 : decode c_M_land 87 = .ok (.bipush 9, 2) := by decide +kernel
theorem d_M_land_89 : decode c_M_land 89 = .ok (.invokevirtual 252, 3) := by decide +kernel
theorem d_M_land_92 : decode c_M_land 92 = .ok (.istore_n 1, 1) := by decide +kernel
theorem d_M_land_93 : decode c_M_land 93 = .ok (.aload_n 0, 1) := by decide +kernel
theorem d_M_land_94 : decode c_M_land 94 = .ok (.iconst 2, 1) := by decide +kernel
theorem d_M_land_95 : decode c_M_land 95 = .ok (.bipush 9, 2) := by decide +kernel
theorem d_M_land_97 : decode c_M_land 97 = .ok (.invokevirtual 252, 3) := by decide +kernel
theorem d_M_land_100 : decode c_M_land 100 = .ok (.istore_n 2, 1) := by decide +kernel
theorem d_M_land_101 : decode c_M_land 101 = .ok (.aload_n 0, 1) := by decide +kernel
theorem d_M_land_102 : decode c_M_land 102 = .ok (.getfield 34, 3) := by decide +kernel
theorem d_M_land_105 : decode c_M_land 105 = .ok (.iconst (-1), 1) := by decide +kernel
theorem d_M_land_106 : decode c_M_land 106 = .ok (.if_icmp .ne 17, 3) := by decide +kernel
theorem d_M_land_109 : decode c_M_land 109 = .ok (.aload_n 0, 1) := by decide +kernel
theorem d_M_land_110 : decode c_M_land 110 = .ok (.getfield 38, 3) := by decide +kernel
theorem d_M_land_113 : decode c_M_land 113 = .ok (.iconst 0, 1) := by decide +kernel
theorem d_M_land_114 : decode c_M_land 114 = .ok (.iload_n 1, 1) := by decide +kernel
theorem d_M_land_115 : decode c_M_land 115 = .ok (.iastore, 1) := by decide +kernel
theorem d_M_land_116 : decode c_M_land 116 = .ok (.aload_n 0, 1) := by decide +kernel
theorem d_M_land_117 : decode c_M_land 117 = .ok (.getfield 38, 3) := by decide +kernel
theorem d_M_land_120 : decode c_M_land 120 = .ok (.iconst 1, 1) := by decide +kernel
theorem d_M_land_121 : decode c_M_land 121 = .ok (.iload_n 2, 1) := by decide +kernel
theorem d_M_land_122 : decode c_M_land 122 = .ok (.iastore, 1) := by decide +kernel
theorem d_M_land_123 : decode c_M_land 123 = .ok (.aload_n 0, 1) := by decide +kernel
theorem d_M_land_124 : decode c_M_land 124 = .ok (.invokevirtual 287, 3) := by decide +kernel
theorem d_M_land_127 : decode c_M_land 127 = .ok (.iconst 0, 1) := by decide +kernel
theorem d_M_land_128 : decode c_M_land 128 = .ok (.istore_n 3, 1) := by decide +kernel
theorem d_M_land_129 : decode c_M_land 129 = .ok (.aload_n 0, 1) := by decide +kernel
theorem d_M_land_130 : decode c_M_land 130 = .ok (.getfield 34, 3) := by decide +kernel
theorem d_M_land_133 : decode c_M_land 133 = .ok (.iconst (-1), 1) := by decide +kernel
theorem d_M_land_134 : decode c_M_land 134 = .ok (.if_icmp .ne 58, 3) := by decide +kernel
theorem d_M_land_137 : decode c_M_land 137 = .ok (.aload_n 0, 1) := by decide +kernel
theorem d_M_land_138 : decode c_M_land 138 = .ok (.invokevirtual 224, 3) := by decide +kernel
theorem d_M_land_141 : decode c_M_land 141 = .ok (.aload_n 0, 1) := by decide +kernel
theorem d_M_land_142 : decode c_M_land 142 = .ok (.getfield 221, 3) := by decide +kernel
theorem d_M_land_145 : decode c_M_land 145 = .ok (.if_icmp .ge 47, 3) := by decide +kernel
theorem d_M_land_148 : decode c_M_land 148 = .ok (.aload_n 0, 1) := by decide +kernel
theorem d_M_land_149 : decode c_M_land 149 = .ok (.invokevirtual 243, 3) := by decide +kernel
theorem d_M_land_152 : decode c_M_land 152 = .ok (.aload_n 0, 1) := by decide +kernel
theorem d_M_land_153 : decode c_M_land 153 = .ok (.getfield 34, 3) := by decide +kernel
theorem d_M_land_156 : decode c_M_land 156 = .ok (.iconst (-1), 1) := by decide +kernel
theorem d_M_land_157 : decode c_M_land 157 = .ok (.if_icmp .ne 17, 3) := by decide +kernel
theorem d_M_land_160 : decode c_M_land 160 = .ok (.iload_n 3, 1) := by decide +kernel
theorem d_M_land_161 : decode c_M_land 161 = .ok (.bipush 14, 2) := by decide +kernel
theorem d_M_land_163 : decode c_M_land 163 = .ok (.if_icmp .ne 11, 3) := by decide +kernel
theorem d_M_land_166 : decode c_M_land 166 = .ok (.aload_n 0, 1) := by decide +kernel
theorem d_M_land_167 : decode c_M_land 167 = .ok (.aload_n 0, 1) := by decide +kernel
theorem d_M_land_168 : decode c_M_land 168 = .ok (.invokevirtual 224, 3) := by decide +kernel
theorem d_M_land_171 : decode c_M_land 171 = .ok (.invokevirtual 240, 3) := by decide +kernel
theorem d_M_land_174 : decode c_M_land 174 = .ok (.aload_n 0, 1) := by decide +kernel
theorem d_M_land_175 : decode c_M_land 175 = .ok (.getfield 34, 3) := by decide +kernel
theorem d_M_land_178 : decode c_M_land 178 = .ok (.iconst (-1), 1) := by decide +kernel
theorem d_M_land_179 : decode c_M_land 179 = .ok (.if_icmp .ne 7, 3) := by decide +kernel
theorem d_M_land_182 : decode c_M_land 182 = .ok (.aload_n 0, 1) := by decide +kernel
theorem d_M_land_183 : decode c_M_land 183 = .ok (.invokevirtual 290, 3) := by decide +kernel
theorem d_M_land_186 : decode c_M_land 186 = .ok (.iinc 3 1, 3) := by decide +kernel
theorem d_M_land_189 : decode c_M_land 189 = .ok (.goto (-60), 3) := by decide +kernel
theorem d_M_land_192 : decode c_M_land 192 = .ok (.aload_n 0, 1) := by decide +kernel
theorem d_M_land_193 : decode c_M_land 193 = .ok (.aload_n 0, 1) := by decide +kernel
theorem d_M_land_194 : decode c_M_land 194 = .ok (.getfield 34, 3) := by decide +kernel
theorem d_M_land_197 : decode c_M_land 197 = .ok (.iconst (-1), 1) := by decide +kernel
theorem d_M_land_198 : decode c_M_land 198 = .ok (.if_icmp .ne 7, 3) := by decide +kernel
theorem d_M_land_201 : decode c_M_land 201 = .ok (.iconst 0, 1) := by decide +kernel
theorem d_M_land_202 : decode c_M_land 202 = .ok (.goto 4, 3) := by decide +kernel
theorem d_M_land_205 : decode c_M_land 205 = .ok (.iconst 1, 1) := by decide +kernel
theorem d_M_land_206 : decode c_M_land 206 = .ok (.putfield 87, 3) := by decide +kernel
theorem d_M_land_209 : decode c_M_land 209 = .ok (.aload_n 0, 1) := by decide +kernel
theorem d_M_land_210 : decode c_M_land 210 = .ok (.getfield 87, 3) := by decide +kernel
theorem d_M_land_213 : decode c_M_land 213 = .ok (.ifCond .le 5, 3) := by decide +kernel
theorem d_M_land_216 : decode c_M_land 216 = .ok (.iconst 0, 1) := by decide +kernel
theorem d_M_land_217 : decode c_M_land 217 = .ok (.ireturn, 1) := by decide +kernel
theorem d_M_land_218 : decode c_M_land 218 = .ok (.iconst 0, 1) := by decide +kernel
theorem d_M_land_219 : decode c_M_land 219 = .ok (.istore_n 3, 1) := by decide +kernel
theorem d_M_land_220 : decode c_M_land 220 = .ok (.iload_n 3, 1) := by decide +kernel
theorem d_M_land_221 : decode c_M_land 221 = .ok (.sipush 499, 3) := by decide +kernel
theorem d_M_land_224 : decode c_M_land 224 = .ok (.if_icmp .ge 21, 3) := by decide +kernel
theorem d_M_land_227 : decode c_M_land 227 = .ok (.aload_n 0, 1) := by decide +kernel
theorem d_M_land_228 : decode c_M_land 228 = .ok (.getfield 7, 3) := by decide +kernel
theorem d_M_land_231 : decode c_M_land 231 = .ok (.iload_n 3, 1) := by decide +kernel
theorem d_M_land_232 : decode c_M_land 232 = .ok (.aload_n 0, 1) := by decide +kernel
theorem d_M_land_233 : decode c_M_land 233 = .ok (.getfield 38, 3) := by decide +kernel
theorem d_M_land_236 : decode c_M_land 236 = .ok (.iload_n 3, 1) := by decide +kernel
theorem d_M_land_237 : decode c_M_land 237 = .ok (.iaload, 1) := by decide +kernel
theorem d_M_land_238 : decode c_M_land 238 = .ok (.iastore, 1) := by decide +kernel
theorem d_M_land_239 : decode c_M_land 239 = .ok (.iinc 3 1, 3) := by decide +kernel
theorem d_M_land_242 : decode c_M_land 242 = .ok (.goto (-22), 3) := by decide +kernel
theorem d_M_land_245 : decode c_M_land 245 = .ok (.aload_n 0, 1) := by decide +kernel
theorem d_M_land_246 : decode c_M_land 246 = .ok (.iconst 0, 1) := by decide +kernel
theorem d_M_land_247 : decode c_M_land 247 = .ok (.putfield 293, 3) := by decide +kernel
theorem d_M_land_250 : decode c_M_land 250 = .ok (.aload_n 0, 1) := by decide +kernel
theorem d_M_land_251 : decode c_M_land 251 = .ok (.invokevirtual 90, 3) := by decide +kernel
theorem d_M_land_254 : decode c_M_land 254 = .ok (.ireturn, 1) := by decide +kernel
theorem d_M_fault_0 : decode c_M_fault 0 = .ok (.aload_n 0, 1) := by decide +kernel
theorem d_M_fault_1 : decode c_M_fault 1 = .ok (.iconst 0, 1) := by decide +kernel
theorem d_M_fault_2 : decode c_M_fault 2 = .ok (.putfield 87, 3) := by decide +kernel
theorem d_M_fault_5 : decode c_M_fault 5 = .ok (.aload_n 0, 1) := by decide +kernel
theorem d_M_fault_6 : decode c_M_fault 6 = .ok (.getfield 34, 3) := by decide +kernel
theorem d_M_fault_9 : decode c_M_fault 9 = .ok (.ireturn, 1) := by decide +kernel
theorem d_M_place_0 : decode c_M_place 0 = .ok (.aload_n 0, 1) := by decide +kernel
theorem d_M_place_1 : decode c_M_place 1 = .ok (.aload_n 0, 1) := by decide +kernel
theorem d_M_place_2 : decode c_M_place 2 = .ok (.iload_n 1, 1) := by decide +kernel
theorem d_M_place_3 : decode c_M_place 3 = .ok (.invokevirtual 203, 3) := by decide +kernel
theorem d_M_place_6 : decode c_M_place 6 = .ok (.ifCond .ne 7, 3) := by decide +kernel
theorem d_M_place_9 : decode c_M_place 9 = .ok (.iconst 1, 1) := by decide +kernel
theorem d_M_place_10 : decode c_M_place 10 = .ok (.goto 17, 3) := by decide +kernel
theorem d_M_place_13 : decode c_M_place 13 = .ok (.iload_n 2, 1) := by decide +kernel
theorem d_M_place_14 : decode c_M_place 14 = .ok (.iconst 0, 1) := by decide +kernel
theorem d_M_place_15 : decode c_M_place 15 = .ok (.iconst 3, 1) := by decide +kernel
theorem d_M_place_16 : decode c_M_place 16 = .ok (.invokestatic 94, 3) := by decide +kernel
theorem d_M_place_19 : decode c_M_place 19 = .ok (.ifCond .ne 7, 3) := by decide +kernel
theorem d_M_place_22 : decode c_M_place 22 = .ok (.iconst 2, 1) := by decide +kernel
theorem d_M_place_23 : decode c_M_place 23 = .ok (.goto 4, 3) := by decide +kernel
theorem d_M_place_26 : decode c_M_place 26 = .ok (.iconst 0, 1) := by decide +kernel
theorem d_M_place_27 : decode c_M_place 27 = .ok (.putfield 87, 3) := by decide +kernel
theorem d_M_place_30 : decode c_M_place 30 = .ok (.aload_n 0, 1) := by decide +kernel
theorem d_M_place_31 : decode c_M_place 31 = .ok (.getfield 87, 3) := by decide +kernel
theorem d_M_place_34 : decode c_M_place 34 = .ok (.ifCond .le 5, 3) := by decide +kernel
theorem d_M_place_37 : decode c_M_place 37 = .ok (.iconst 0, 1) := by decide +kernel
theorem d_M_place_38 : decode c_M_place 38 = .ok (.ireturn, 1) := by decide +kernel
theorem d_M_place_39 : decode c_M_place 39 = .ok (.iload_n 2, 1) := by decide +kernel
theorem d_M_place_40 : decode c_M_place 40 = .ok (.tableswitch 62 0 2 #[28, 38, 48], 28) := by decide +kernel
theorem d_M_place_68 : decode c_M_place 68 = .ok (.aload_n 0, 1) := by decide +kernel
theorem d_M_place_69 : decode c_M_place 69 = .ok (.getfield 7, 3) := by decide +kernel
theorem d_M_place_72 : decode c_M_place 72 = .ok (.bipush 13, 2) := by decide +kernel
theorem d_M_place_74 : decode c_M_place 74 = .ok (.iload_n 1, 1) := by decide +kernel
theorem d_M_place_75 : decode c_M_place 75 = .ok (.iadd, 1) := by decide +kernel
theorem d_M_place_76 : decode c_M_place 76 = .ok (.iaload, 1) := by decide +kernel
theorem d_M_place_77 : decode c_M_place 77 = .ok (.ireturn, 1) := by decide +kernel
theorem d_M_place_78 : decode c_M_place 78 = .ok (.aload_n 0, 1) := by decide +kernel
theorem d_M_place_79 : decode c_M_place 79 = .ok (.getfield 7, 3) := by decide +kernel
theorem d_M_place_82 : decode c_M_place 82 = .ok (.bipush 94, 2) := by decide +kernel
theorem d_M_place_84 : decode c_M_place 84 = .ok (.iload_n 1, 1) := by decide +kernel
theorem d_M_place_85 : decode c_M_place 85 = .ok (.iadd, 1) := by decide +kernel
theorem d_M_place_86 : decode c_M_place 86 = .ok (.iaload, 1) := by decide +kernel
theorem d_M_place_87 : decode c_M_place 87 = .ok (.ireturn, 1) := by decide +kernel
theorem d_M_place_88 : decode c_M_place 88 = .ok (.aload_n 0, 1) := by decide +kernel
theorem d_M_place_89 : decode c_M_place 89 = .ok (.iload_n 1, 1) := by decide +kernel
theorem d_M_place_90 : decode c_M_place 90 = .ok (.invokevirtual 126, 3) := by decide +kernel
theorem d_M_place_93 : decode c_M_place 93 = .ok (.ifCond .eq 7, 3) := by decide +kernel
theorem d_M_place_96 : decode c_M_place 96 = .ok (.iconst 1, 1) := by decide +kernel
theorem d_M_place_97 : decode c_M_place 97 = .ok (.goto 4, 3) := by decide +kernel
theorem d_M_place_100 : decode c_M_place 100 = .ok (.iconst 0, 1) := by decide +kernel
theorem d_M_place_101 : decode c_M_place 101 = .ok (.ireturn, 1) := by decide +kernel
theorem d_M_place_102 : decode c_M_place 102 = .ok (.iconst 0, 1) := by decide +kernel
theorem d_M_place_103 : decode c_M_place 103 = .ok (.istore_n 3, 1) := by decide +kernel
theorem d_M_place_104 : decode c_M_place 104 = .ok (.iconst 0, 1) := by decide +kernel
theorem d_M_place_105 : decode c_M_place 105 = .ok (.istore 4, 2) := by decide +kernel
theorem d_M_place_107 : decode c_M_place 107 = .ok (.iload 4, 2) := by decide +kernel
theorem d_M_place_109 : decode c_M_place 109 = .ok (.bipush 8, 2) := by decide +kernel
theorem d_M_place_111 : decode c_M_place 111 = .ok (.if_icmp .ge 30, 3) := by decide +kernel
theorem d_M_place_114 : decode c_M_place 114 = .ok (.iload_n 3, 1) := by decide +kernel
theorem d_M_place_115 : decode c_M_place 115 = .ok (.aload_n 0, 1) := by decide +kernel
theorem d_M_place_116 : decode c_M_place 116 = .ok (.iload_n 1, 1) := by decide +kernel
theorem d_M_place_117 : decode c_M_place 117 = .ok (.iload 4, 2) := by decide +kernel
theorem d_M_place_119 : decode c_M_place 119 = .ok (.invokevirtual 149, 3) := by decide +kernel
theorem d_M_place_122 : decode c_M_place 122 = .ok (.ifCond .eq 10, 3) := by decide +kernel
theorem d_M_place_125 : decode c_M_place 125 = .ok (.iconst 1, 1) := by decide +kernel
theorem d_M_place_126 : decode c_M_place 126 = .ok (.iload 4, 2) := by decide +kernel
theorem d_M_place_128 : decode c_M_place 128 = .ok (.ishl, 1) := by decide +kernel
theorem d_M_place_129 : decode c_M_place 129 = .ok (.goto 4, 3) := by decide +kernel
theorem d_M_place_132 : decode c_M_place 132 = .ok (.iconst 0, 1) := by decide +kernel
theorem d_M_place_133 : decode c_M_place 133 = .ok (.ior, 1) := by decide +kernel
theorem d_M_place_134 : decode c_M_place 134 = .ok (.istore_n 3, 1) := by decide +kernel
theorem d_M_place_135 : decode c_M_place 135 = .ok (.iinc 4 1, 3) := by decide +kernel
theorem d_M_place_138 : decode c_M_place 138 = .ok (.goto (-31), 3) := by decide +kernel
theorem d_M_place_141 : decode c_M_place 141 = .ok (.iload_n 3, 1) := by decide +kernel
theorem d_M_place_142 : decode c_M_place 142 = .ok (.ireturn, 1) := by decide +kernel
theorem d_M_term_0 : decode c_M_term 0 = .ok (.aload_n 0, 1) := by decide +kernel
theorem d_M_term_1 : decode c_M_term 1 = .ok (.iload_n 1, 1) := by decide +kernel
theorem d_M_term_2 : decode c_M_term 2 = .ok (.iconst 0, 1) := by decide +kernel
theorem d_M_term_3 : decode c_M_term 3 = .ok (.bipush 10, 2) := by decide +kernel
theorem d_M_term_5 : decode c_M_term 5 = .ok (.invokestatic 94, 3) := by decide +kernel
theorem d_M_term_8 : decode c_M_term 8 = .ok (.ifCond .eq 7, 3) := by decide +kernel
theorem d_M_term_11 : decode c_M_term 11 = .ok (.iconst 0, 1) := by decide +kernel
theorem d_M_term_12 : decode c_M_term 12 = .ok (.goto 4, 3) := by decide +kernel
theorem d_M_term_15 : decode c_M_term 15 = .ok (.iconst 1, 1) := by decide +kernel
theorem d_M_term_16 : decode c_M_term 16 = .ok (.putfield 87, 3) := by decide +kernel
theorem d_M_term_19 : decode c_M_term 19 = .ok (.aload_n 0, 1) := by decide +kernel
theorem d_M_term_20 : decode c_M_term 20 = .ok (.getfield 87, 3) := by decide +kernel
theorem d_M_term_23 : decode c_M_term 23 = .ok (.ifCond .le 7, 3) := by decide +kernel
theorem d_M_term_26 : decode c_M_term 26 = .ok (.iconst 0, 1) := by decide +kernel
theorem d_M_term_27 : decode c_M_term 27 = .ok (.goto 11, 3) := by decide +kernel
theorem d_M_term_30 : decode c_M_term 30 = .ok (.aload_n 0, 1) := by decide +kernel
theorem d_M_term_31 : decode c_M_term 31 = .ok (.getfield 7, 3) := by decide +kernel
theorem d_M_term_34 : decode c_M_term 34 = .ok (.iconst 2, 1) := by decide +kernel
theorem d_M_term_35 : decode c_M_term 35 = .ok (.iload_n 1, 1) := by decide +kernel
theorem d_M_term_36 : decode c_M_term 36 = .ok (.iadd, 1) := by decide +kernel
theorem d_M_term_37 : decode c_M_term 37 = .ok (.iaload, 1) := by decide +kernel
theorem d_M_term_38 : decode c_M_term 38 = .ok (.ireturn, 1) := by decide +kernel
theorem d_M_remembers_0 : decode c_M_remembers 0 = .ok (.aload_n 0, 1) := by decide +kernel
theorem d_M_remembers_1 : decode c_M_remembers 1 = .ok (.getfield 293, 3) := by decide +kernel
theorem d_M_remembers_4 : decode c_M_remembers 4 = .ok (.bipush 8, 2) := by decide +kernel
theorem d_M_remembers_6 : decode c_M_remembers 6 = .ok (.if_icmp .ne 44, 3) := by decide +kernel
theorem d_M_remembers_9 : decode c_M_remembers 9 = .ok (.iconst 0, 1) := by decide +kernel
theorem d_M_remembers_10 : decode c_M_remembers 10 = .ok (.istore_n 1, 1) := by decide +kernel
theorem d_M_remembers_11 : decode c_M_remembers 11 = .ok (.iload_n 1, 1) := by decide +kernel
theorem d_M_remembers_12 : decode c_M_remembers 12 = .ok (.sipush 3493, 3) := by decide +kernel
theorem d_M_remembers_15 : decode c_M_remembers 15 = .ok (.if_icmp .ge 25, 3) := by decide +kernel
theorem d_M_remembers_18 : decode c_M_remembers 18 = .ok (.aload_n 0, 1) := by decide +kernel
theorem d_M_remembers_19 : decode c_M_remembers 19 = .ok (.getfield 13, 3) := by decide +kernel
theorem d_M_remembers_22 : decode c_M_remembers 22 = .ok (.iload_n 1, 1) := by decide +kernel
theorem d_M_remembers_23 : decode c_M_remembers 23 = .ok (.aload_n 0, 1) := by decide +kernel
theorem d_M_remembers_24 : decode c_M_remembers 24 = .ok (.getfield 13, 3) := by decide +kernel
theorem d_M_remembers_27 : decode c_M_remembers 27 = .ok (.iload_n 1, 1) := by decide +kernel
theorem d_M_remembers_28 : decode c_M_remembers 28 = .ok (.sipush 499, 3) := by decide +kernel
theorem d_M_remembers_31 : decode c_M_remembers 31 = .ok (.iadd, 1) := by decide +kernel
theorem d_M_remembers_32 : decode c_M_remembers 32 = .ok (.iaload, 1) := by decide +kernel
theorem d_M_remembers_33 : decode c_M_remembers 33 = .ok (.iastore, 1) := by decide +kernel
theorem d_M_remembers_34 : decode c_M_remembers 34 = .ok (.iinc 1 1, 3) := by decide +kernel
theorem d_M_remembers_37 : decode c_M_remembers 37 = .ok (.goto (-26), 3) := by decide +kernel
theorem d_M_remembers_40 : decode c_M_remembers 40 = .ok (.aload_n 0, 1) := by decide +kernel
theorem d_M_remembers_41 : decode c_M_remembers 41 = .ok (.dup, 1) := by decide +kernel
theorem d_M_remembers_42 : decode c_M_remembers 42 = .ok (.getfield 293, 3) := by decide +kernel
theorem d_M_remembers_45 : decode c_M_remembers 45 = .ok (.iconst 1, 1) := by decide +kernel
theorem d_M_remembers_46 : decode c_M_remembers 46 = .ok (.isub, 1) := by decide +kernel
theorem d_M_remembers_47 : decode c_M_remembers 47 = .ok (.putfield 293, 3) := by decide +kernel
theorem d_M_remembers_50 : decode c_M_remembers 50 = .ok (.iconst 0, 1) := by decide +kernel
theorem d_M_remembers_51 : decode c_M_remembers 51 = .ok (.istore_n 1, 1) := by decide +kernel
theorem d_M_remembers_52 : decode c_M_remembers 52 = .ok (.iload_n 1, 1) := by decide +kernel
theorem d_M_remembers_53 : decode c_M_remembers 53 = .ok (.sipush 499, 3) := by decide +kernel
theorem d_M_remembers_56 : decode c_M_remembers 56 = .ok (.if_icmp .ge 30, 3) := by decide +kernel
theorem d_M_remembers_59 : decode c_M_remembers 59 = .ok (.aload_n 0, 1) := by decide +kernel
theorem d_M_remembers_60 : decode c_M_remembers 60 = .ok (.getfield 13, 3) := by decide +kernel
theorem d_M_remembers_63 : decode c_M_remembers 63 = .ok (.sipush 499, 3) := by decide +kernel
theorem d_M_remembers_66 : decode c_M_remembers 66 = .ok (.aload_n 0, 1) := by decide +kernel
theorem d_M_remembers_67 : decode c_M_remembers 67 = .ok (.getfield 293, 3) := by decide +kernel
theorem d_M_remembers_70 : decode c_M_remembers 70 = .ok (.imul, 1) := by decide +kernel
theorem d_M_remembers_71 : decode c_M_remembers 71 = .ok (.iload_n 1, 1) := by decide +kernel
theorem d_M_remembers_72 : decode c_M_remembers 72 = .ok (.iadd, 1) := by decide +kernel
theorem d_M_remembers_73 : decode c_M_remembers 73 = .ok (.aload_n 0, 1) := by decide +kernel
theorem d_M_remembers_74 : decode c_M_remembers 74 = .ok (.getfield 7, 3) := by decide +kernel
theorem d_M_remembers_77 : decode c_M_remembers 77 = .ok (.iload_n 1, 1) := by decide +kernel
theorem d_M_remembers_78 : decode c_M_remembers 78 = .ok (.iaload, 1) := by decide +kernel
theorem d_M_remembers_79 : decode c_M_remembers 79 = .ok (.iastore, 1) := by decide +kernel
theorem d_M_remembers_80 : decode c_M_remembers 80 = .ok (.iinc 1 1, 3) := by decide +kernel
theorem d_M_remembers_83 : decode c_M_remembers 83 = .ok (.goto (-31), 3) := by decide +kernel
theorem d_M_remembers_86 : decode c_M_remembers 86 = .ok (.aload_n 0, 1) := by decide +kernel
theorem d_M_remembers_87 : decode c_M_remembers 87 = .ok (.dup, 1) := by decide +kernel
theorem d_M_remembers_88 : decode c_M_remembers 88 = .ok (.getfield 293, 3) := by decide +kernel
theorem d_M_remembers_91 : decode c_M_remembers 91 = .ok (.iconst 1, 1) := by decide +kernel
theorem d_M_remembers_92 : decode c_M_remembers 92 = .ok (.iadd, 1) := by decide +kernel
theorem d_M_remembers_93 : decode c_M_remembers 93 = .ok (.putfield 293, 3) := by decide +kernel
theorem d_M_remembers_96 : decode c_M_remembers 96 = .ok (.return_, 1) := by decide +kernel
theorem d_M_tune_0 : decode c_M_tune 0 = .ok (.aload_n 0, 1) := by decide +kernel
theorem d_M_tune_1 : decode c_M_tune 1 = .ok (.iload_n 1, 1) := by decide +kernel
theorem d_M_tune_2 : decode c_M_tune 2 = .ok (.iconst 0, 1) := by decide +kernel
theorem d_M_tune_3 : decode c_M_tune 3 = .ok (.bipush 10, 2) := by decide +kernel
theorem d_M_tune_5 : decode c_M_tune 5 = .ok (.invokestatic 94, 3) := by decide +kernel
theorem d_M_tune_8 : decode c_M_tune 8 = .ok (.ifCond .ne 7, 3) := by decide +kernel
theorem d_M_tune_11 : decode c_M_tune 11 = .ok (.iconst 1, 1) := by decide +kernel
theorem d_M_tune_12 : decode c_M_tune 12 = .ok (.goto 4, 3) := by decide +kernel
theorem d_M_tune_15 : decode c_M_tune 15 = .ok (.iconst 0, 1) := by decide +kernel
theorem d_M_tune_16 : decode c_M_tune 16 = .ok (.putfield 87, 3) := by decide +kernel
theorem d_M_tune_19 : decode c_M_tune 19 = .ok (.aload_n 0, 1) := by decide +kernel
theorem d_M_tune_20 : decode c_M_tune 20 = .ok (.getfield 87, 3) := by decide +kernel
theorem d_M_tune_23 : decode c_M_tune 23 = .ok (.ifCond .le 5, 3) := by decide +kernel
theorem d_M_tune_26 : decode c_M_tune 26 = .ok (.iconst 0, 1) := by decide +kernel
theorem d_M_tune_27 : decode c_M_tune 27 = .ok (.ireturn, 1) := by decide +kernel
theorem d_M_tune_28 : decode c_M_tune 28 = .ok (.aload_n 0, 1) := by decide +kernel
theorem d_M_tune_29 : decode c_M_tune 29 = .ok (.iload_n 2, 1) := by decide +kernel
theorem d_M_tune_30 : decode c_M_tune 30 = .ok (.iload_n 1, 1) := by decide +kernel
theorem d_M_tune_31 : decode c_M_tune 31 = .ok (.ifCond .ne 7, 3) := by decide +kernel
theorem d_M_tune_34 : decode c_M_tune 34 = .ok (.iconst 1, 1) := by decide +kernel
theorem d_M_tune_35 : decode c_M_tune 35 = .ok (.goto 4, 3) := by decide +kernel
theorem d_M_tune_38 : decode c_M_tune 38 = .ok (.iconst 0, 1) := by decide +kernel
theorem d_M_tune_39 : decode c_M_tune 39 = .ok (.aload_n 0, 1) := by decide +kernel
theorem d_M_tune_40 : decode c_M_tune 40 = .ok (.getfield 22, 3) := by decide +kernel
theorem d_M_tune_43 : decode c_M_tune 43 = .ok (.iload_n 1, 1) := by decide +kernel
theorem d_M_tune_44 : decode c_M_tune 44 = .ok (.iaload, 1) := by decide +kernel
theorem d_M_tune_45 : decode c_M_tune 45 = .ok (.invokestatic 94, 3) := by decide +kernel
theorem d_M_tune_48 : decode c_M_tune 48 = .ok (.ifCond .eq 7, 3) := by decide +kernel
theorem d_M_tune_51 : decode c_M_tune 51 = .ok (.iconst 0, 1) := by decide +kernel
theorem d_M_tune_52 : decode c_M_tune 52 = .ok (.goto 4, 3) := by decide +kernel
theorem d_M_tune_55 : decode c_M_tune 55 = .ok (.iconst 2, 1) := by decide +kernel
theorem d_M_tune_56 : decode c_M_tune 56 = .ok (.putfield 87, 3) := by decide +kernel
theorem d_M_tune_59 : decode c_M_tune 59 = .ok (.aload_n 0, 1) := by decide +kernel
theorem d_M_tune_60 : decode c_M_tune 60 = .ok (.getfield 87, 3) := by decide +kernel
theorem d_M_tune_63 : decode c_M_tune 63 = .ok (.ifCond .le 5, 3) := by decide +kernel
theorem d_M_tune_66 : decode c_M_tune 66 = .ok (.iconst 0, 1) := by decide +kernel
theorem d_M_tune_67 : decode c_M_tune 67 = .ok (.ireturn, 1) := by decide +kernel
theorem d_M_tune_68 : decode c_M_tune 68 = .ok (.aload_n 0, 1) := by decide +kernel
theorem d_M_tune_69 : decode c_M_tune 69 = .ok (.invokevirtual 296, 3) := by decide +kernel
theorem d_M_tune_72 : decode c_M_tune 72 = .ok (.aload_n 0, 1) := by decide +kernel
theorem d_M_tune_73 : decode c_M_tune 73 = .ok (.getfield 7, 3) := by decide +kernel
theorem d_M_tune_76 : decode c_M_tune 76 = .ok (.iconst 2, 1) := by decide +kernel
theorem d_M_tune_77 : decode c_M_tune 77 = .ok (.iload_n 1, 1) := by decide +kernel
theorem d_M_tune_78 : decode c_M_tune 78 = .ok (.iadd, 1) := by decide +kernel
theorem d_M_tune_79 : decode c_M_tune 79 = .ok (.iaload, 1) := by decide +kernel
theorem d_M_tune_80 : decode c_M_tune 80 = .ok (.istore_n 3, 1) := by decide +kernel
theorem d_M_tune_81 : decode c_M_tune 81 = .ok (.aload_n 0, 1) := by decide +kernel
theorem d_M_tune_82 : decode c_M_tune 82 = .ok (.getfield 7, 3) := by decide +kernel
theorem d_M_tune_85 : decode c_M_tune 85 = .ok (.iconst 2, 1) := by decide +kernel
theorem d_M_tune_86 : decode c_M_tune 86 = .ok (.iload_n 1, 1) := by decide +kernel
theorem d_M_tune_87 : decode c_M_tune 87 = .ok (.iadd, 1) := by decide +kernel
theorem d_M_tune_88 : decode c_M_tune 88 = .ok (.iload_n 2, 1) := by decide +kernel
theorem d_M_tune_89 : decode c_M_tune 89 = .ok (.iastore, 1) := by decide +kernel
theorem d_M_tune_90 : decode c_M_tune 90 = .ok (.iload_n 3, 1) := by decide +kernel
theorem d_M_tune_91 : decode c_M_tune 91 = .ok (.ireturn, 1) := by decide +kernel
theorem d_M_raise_0 : decode c_M_raise 0 = .ok (.aload_n 0, 1) := by decide +kernel
theorem d_M_raise_1 : decode c_M_raise 1 = .ok (.aload_n 0, 1) := by decide +kernel
theorem d_M_raise_2 : decode c_M_raise 2 = .ok (.iload_n 1, 1) := by decide +kernel
theorem d_M_raise_3 : decode c_M_raise 3 = .ok (.invokevirtual 203, 3) := by decide +kernel
theorem d_M_raise_6 : decode c_M_raise 6 = .ok (.ifCond .eq 7, 3) := by decide +kernel
theorem d_M_raise_9 : decode c_M_raise 9 = .ok (.iconst 0, 1) := by decide +kernel
theorem d_M_raise_10 : decode c_M_raise 10 = .ok (.goto 4, 3) := by decide +kernel
theorem d_M_raise_13 : decode c_M_raise 13 = .ok (.iconst 1, 1) := by decide +kernel
theorem d_M_raise_14 : decode c_M_raise 14 = .ok (.putfield 87, 3) := by decide +kernel
theorem d_M_raise_17 : decode c_M_raise 17 = .ok (.aload_n 0, 1) := by decide +kernel
theorem d_M_raise_18 : decode c_M_raise 18 = .ok (.getfield 87, 3) := by decide +kernel
theorem d_M_raise_21 : decode c_M_raise 21 = .ok (.ifCond .le 5, 3) := by decide +kernel
theorem d_M_raise_24 : decode c_M_raise 24 = .ok (.iconst 0, 1) := by decide +kernel
theorem d_M_raise_25 : decode c_M_raise 25 = .ok (.ireturn, 1) := by decide +kernel
theorem d_M_raise_26 : decode c_M_raise 26 = .ok (.aload_n 0, 1) := by decide +kernel
theorem d_M_raise_27 : decode c_M_raise 27 = .ok (.iload_n 2, 1) := by decide +kernel
theorem d_M_raise_28 : decode c_M_raise 28 = .ok (.bipush (-99), 2) := by decide +kernel
theorem d_M_raise_30 : decode c_M_raise 30 = .ok (.bipush 99, 2) := by decide +kernel
theorem d_M_raise_32 : decode c_M_raise 32 = .ok (.invokestatic 94, 3) := by decide +kernel
theorem d_M_raise_35 : decode c_M_raise 35 = .ok (.ifCond .eq 27, 3) := by decide +kernel
theorem d_M_raise_38 : decode c_M_raise 38 = .ok (.aload_n 0, 1) := by decide +kernel
theorem d_M_raise_39 : decode c_M_raise 39 = .ok (.getfield 7, 3) := by decide +kernel
theorem d_M_raise_42 : decode c_M_raise 42 = .ok (.bipush 13, 2) := by decide +kernel
theorem d_M_raise_44 : decode c_M_raise 44 = .ok (.iload_n 1, 1) := by decide +kernel
theorem d_M_raise_45 : decode c_M_raise 45 = .ok (.iadd, 1) := by decide +kernel
theorem d_M_raise_46 : decode c_M_raise 46 = .ok (.iaload, 1) := by decide +kernel
theorem d_M_raise_47 : decode c_M_raise 47 = .ok (.iload_n 2, 1) := by decide +kernel
theorem d_M_raise_48 : decode c_M_raise 48 = .ok (.iadd, 1) := by decide +kernel
theorem d_M_raise_49 : decode c_M_raise 49 = .ok (.iconst 0, 1) := by decide +kernel
theorem d_M_raise_50 : decode c_M_raise 50 = .ok (.bipush 99, 2) := by decide +kernel
theorem d_M_raise_52 : decode c_M_raise 52 = .ok (.invokestatic 94, 3) := by decide +kernel
theorem d_M_raise_55 : decode c_M_raise 55 = .ok (.ifCond .eq 7, 3) := by decide +kernel
theorem d_M_raise_58 : decode c_M_raise 58 = .ok (.iconst 0, 1) := by decide +kernel
theorem d_M_raise_59 : decode c_M_raise 59 = .ok (.goto 4, 3) := by decide +kernel
theorem d_M_raise_62 : decode c_M_raise 62 = .ok (.iconst 2, 1) := by decide +kernel
theorem d_M_raise_63 : decode c_M_raise 63 = .ok (.putfield 87, 3) := by decide +kernel
theorem d_M_raise_66 : decode c_M_raise 66 = .ok (.aload_n 0, 1) := by decide +kernel
theorem d_M_raise_67 : decode c_M_raise 67 = .ok (.getfield 87, 3) := by decide +kernel
theorem d_M_raise_70 : decode c_M_raise 70 = .ok (.ifCond .le 5, 3) := by decide +kernel
theorem d_M_raise_73 : decode c_M_raise 73 = .ok (.iconst 0, 1) := by decide +kernel
theorem d_M_raise_74 : decode c_M_raise 74 = .ok (.ireturn, 1) := by decide +kernel
theorem d_M_raise_75 : decode c_M_raise 75 = .ok (.aload_n 0, 1) := by decide +kernel
theorem d_M_raise_76 : decode c_M_raise 76 = .ok (.invokevirtual 296, 3) := by decide +kernel
theorem d_M_raise_79 : decode c_M_raise 79 = .ok (.aload_n 0, 1) := by decide +kernel
theorem d_M_raise_80 : decode c_M_raise 80 = .ok (.getfield 7, 3) := by decide +kernel
theorem d_M_raise_83 : decode c_M_raise 83 = .ok (.bipush 13, 2) := by decide +kernel
theorem d_M_raise_85 : decode c_M_raise 85 = .ok (.iload_n 1, 1) := by decide +kernel
theorem d_M_raise_86 : decode c_M_raise 86 = .ok (.iadd, 1) := by decide +kernel
theorem d_M_raise_87 : decode c_M_raise 87 = .ok (.dup2, 1) := by decide +kernel
theorem d_M_raise_88 : decode c_M_raise 88 = .ok (.iaload, 1) := by decide +kernel
theorem d_M_raise_89 : decode c_M_raise 89 = .ok (.iload_n 2, 1) := by decide +kernel
theorem d_M_raise_90 : decode c_M_raise 90 = .ok (.iadd, 1) := by decide +kernel
theorem d_M_raise_91 : decode c_M_raise 91 = .ok (.iastore, 1) := by decide +kernel
theorem d_M_raise_92 : decode c_M_raise 92 = .ok (.aload_n 0, 1) := by decide +kernel
theorem d_M_raise_93 : decode c_M_raise 93 = .ok (.getfield 7, 3) := by decide +kernel
theorem d_M_raise_96 : decode c_M_raise 96 = .ok (.bipush 13, 2) := by decide +kernel
theorem d_M_raise_98 : decode c_M_raise 98 = .ok (.iload_n 1, 1) := by decide +kernel
theorem d_M_raise_99 : decode c_M_raise 99 = .ok (.iadd, 1) := by decide +kernel
theorem d_M_raise_100 : decode c_M_raise 100 = .ok (.iaload, 1) := by decide +kernel
theorem d_M_raise_101 : decode c_M_raise 101 = .ok (.ireturn, 1) := by decide +kernel
theorem d_M_flood_0 : decode c_M_flood 0 = .ok (.aload_n 0, 1) := by decide +kernel
theorem d_M_flood_1 : decode c_M_flood 1 = .ok (.aload_n 0, 1) := by decide +kernel
theorem d_M_flood_2 : decode c_M_flood 2 = .ok (.iload_n 1, 1) := by decide +kernel
theorem d_M_flood_3 : decode c_M_flood 3 = .ok (.invokevirtual 203, 3) := by decide +kernel
theorem d_M_flood_6 : decode c_M_flood 6 = .ok (.ifCond .eq 7, 3) := by decide +kernel
theorem d_M_flood_9 : decode c_M_flood 9 = .ok (.iconst 0, 1) := by decide +kernel
theorem d_M_flood_10 : decode c_M_flood 10 = .ok (.goto 4, 3) := by decide +kernel
theorem d_M_flood_13 : decode c_M_flood 13 = .ok (.iconst 1, 1) := by decide +kernel
theorem d_M_flood_14 : decode c_M_flood 14 = .ok (.putfield 87, 3) := by decide +kernel
theorem d_M_flood_17 : decode c_M_flood 17 = .ok (.aload_n 0, 1) := by decide +kernel
theorem d_M_flood_18 : decode c_M_flood 18 = .ok (.getfield 87, 3) := by decide +kernel
theorem d_M_flood_21 : decode c_M_flood 21 = .ok (.ifCond .le 5, 3) := by decide +kernel
theorem d_M_flood_24 : decode c_M_flood 24 = .ok (.iconst 0, 1) := by decide +kernel
theorem d_M_flood_25 : decode c_M_flood 25 = .ok (.ireturn, 1) := by decide +kernel
theorem d_M_flood_26 : decode c_M_flood 26 = .ok (.aload_n 0, 1) := by decide +kernel
theorem d_M_flood_27 : decode c_M_flood 27 = .ok (.invokevirtual 296, 3) := by decide +kernel
theorem d_M_flood_30 : decode c_M_flood 30 = .ok (.aload_n 0, 1) := by decide +kernel
theorem d_M_flood_31 : decode c_M_flood 31 = .ok (.iload_n 1, 1) := by decide +kernel
theorem d_M_flood_32 : decode c_M_flood 32 = .ok (.invokevirtual 112, 3) := by decide +kernel
theorem d_M_flood_35 : decode c_M_flood 35 = .ok (.istore_n 3, 1) := by decide +kernel
theorem d_M_flood_36 : decode c_M_flood 36 = .ok (.aload_n 0, 1) := by decide +kernel
theorem d_M_flood_37 : decode c_M_flood 37 = .ok (.getfield 7, 3) := by decide +kernel
theorem d_M_flood_40 : decode c_M_flood 40 = .ok (.bipush 94, 2) := by decide +kernel
theorem d_M_flood_42 : decode c_M_flood 42 = .ok (.iload_n 1, 1) := by decide +kernel
theorem d_M_flood_43 : decode c_M_flood 43 = .ok (.iadd, 1) := by decide +kernel
theorem d_M_flood_44 : decode c_M_flood 44 = .ok (.iload_n 2, 1) := by decide +kernel
theorem d_M_flood_45 : decode c_M_flood 45 = .ok (.ifCond .eq 7, 3) := by decide +kernel
theorem d_M_flood_48 : decode c_M_flood 48 = .ok (.iconst 1, 1) := by decide +kernel
theorem d_M_flood_49 : decode c_M_flood 49 = .ok (.goto 4, 3) := by decide +kernel
theorem d_M_flood_52 : decode c_M_flood 52 = .ok (.iconst 0, 1) := by decide +kernel
theorem d_M_flood_53 : decode c_M_flood 53 = .ok (.iastore, 1) := by decide +kernel
theorem d_M_flood_54 : decode c_M_flood 54 = .ok (.iload_n 3, 1) := by decide +kernel
theorem d_M_flood_55 : decode c_M_flood 55 = .ok (.iload_n 2, 1) := by decide +kernel
theorem d_M_flood_56 : decode c_M_flood 56 = .ok (.if_icmp .eq 7, 3) := by decide +kernel
theorem d_M_flood_59 : decode c_M_flood 59 = .ok (.iconst 1, 1) := by decide +kernel
theorem d_M_flood_60 : decode c_M_flood 60 = .ok (.goto 4, 3) := by decide +kernel
theorem d_M_flood_63 : decode c_M_flood 63 = .ok (.iconst 0, 1) := by decide +kernel
theorem d_M_flood_64 : decode c_M_flood 64 = .ok (.ireturn, 1) := by decide +kernel
theorem d_M_isRoad_0 : decode c_M_isRoad 0 = .ok (.iload_n 0, 1) := by decide +kernel
theorem d_M_isRoad_1 : decode c_M_isRoad 1 = .ok (.iconst 0, 1) := by decide +kernel
theorem d_M_isRoad_2 : decode c_M_isRoad 2 = .ok (.iconst 3, 1) := by decide +kernel
theorem d_M_isRoad_3 : decode c_M_isRoad 3 = .ok (.invokestatic 94, 3) := by decide +kernel
theorem d_M_isRoad_6 : decode c_M_isRoad 6 = .ok (.ireturn, 1) := by decide +kernel
theorem d_M_many_0 : decode c_M_many 0 = .ok (.aload_n 0, 1) := by decide +kernel
theorem d_M_many_1 : decode c_M_many 1 = .ok (.getfield 7, 3) := by decide +kernel
theorem d_M_many_4 : decode c_M_many 4 = .ok (.sipush 175, 3) := by decide +kernel
theorem d_M_many_7 : decode c_M_many 7 = .ok (.bipush 81, 2) := by decide +kernel
theorem d_M_many_9 : decode c_M_many 9 = .ok (.iload_n 1, 1) := by decide +kernel
theorem d_M_many_10 : decode c_M_many 10 = .ok (.imul, 1) := by decide +kernel
theorem d_M_many_11 : decode c_M_many 11 = .ok (.iadd, 1) := by decide +kernel
theorem d_M_many_12 : decode c_M_many 12 = .ok (.iaload, 1) := by decide +kernel
theorem d_M_many_13 : decode c_M_many 13 = .ok (.ireturn, 1) := by decide +kernel
theorem d_M_placeAt_0 : decode c_M_placeAt 0 = .ok (.aload_n 0, 1) := by decide +kernel
theorem d_M_placeAt_1 : decode c_M_placeAt 1 = .ok (.getfield 7, 3) := by decide +kernel
theorem d_M_placeAt_4 : decode c_M_placeAt 4 = .ok (.sipush 175, 3) := by decide +kernel
theorem d_M_placeAt_7 : decode c_M_placeAt 7 = .ok (.bipush 81, 2) := by decide +kernel
theorem d_M_placeAt_9 : decode c_M_placeAt 9 = .ok (.iload_n 1, 1) := by decide +kernel
theorem d_M_placeAt_10 : decode c_M_placeAt 10 = .ok (.imul, 1) := by decide +kernel
theorem d_M_placeAt_11 : decode c_M_placeAt 11 = .ok (.iadd, 1) := by decide +kernel
theorem d_M_placeAt_12 : decode c_M_placeAt 12 = .ok (.iconst 1, 1) := by decide +kernel
theorem d_M_placeAt_13 : decode c_M_placeAt 13 = .ok (.iadd, 1) := by decide +kernel
theorem d_M_placeAt_14 : decode c_M_placeAt 14 = .ok (.iload_n 2, 1) := by decide +kernel
theorem d_M_placeAt_15 : decode c_M_placeAt 15 = .ok (.iadd, 1) := by decide +kernel
theorem d_M_placeAt_16 : decode c_M_placeAt 16 = .ok (.iaload, 1) := by decide +kernel
theorem d_M_placeAt_17 : decode c_M_placeAt 17 = .ok (.ireturn, 1) := by decide +kernel
theorem d_M_offsetAt_0 : decode c_M_offsetAt 0 = .ok (.aload_n 0, 1) := by decide +kernel
theorem d_M_offsetAt_1 : decode c_M_offsetAt 1 = .ok (.getfield 7, 3) := by decide +kernel
theorem d_M_offsetAt_4 : decode c_M_offsetAt 4 = .ok (.sipush 175, 3) := by decide +kernel
theorem d_M_offsetAt_7 : decode c_M_offsetAt 7 = .ok (.bipush 81, 2) := by decide +kernel
theorem d_M_offsetAt_9 : decode c_M_offsetAt 9 = .ok (.iload_n 1, 1) := by decide +kernel
theorem d_M_offsetAt_10 : decode c_M_offsetAt 10 = .ok (.imul, 1) := by decide +kernel
theorem d_M_offsetAt_11 : decode c_M_offsetAt 11 = .ok (.iadd, 1) := by decide +kernel
theorem d_M_offsetAt_12 : decode c_M_offsetAt 12 = .ok (.bipush 41, 2) := by decide +kernel
theorem d_M_offsetAt_14 : decode c_M_offsetAt 14 = .ok (.iadd, 1) := by decide +kernel
theorem d_M_offsetAt_15 : decode c_M_offsetAt 15 = .ok (.iload_n 2, 1) := by decide +kernel
theorem d_M_offsetAt_16 : decode c_M_offsetAt 16 = .ok (.iadd, 1) := by decide +kernel
theorem d_M_offsetAt_17 : decode c_M_offsetAt 17 = .ok (.iaload, 1) := by decide +kernel
theorem d_M_offsetAt_18 : decode c_M_offsetAt 18 = .ok (.ireturn, 1) := by decide +kernel
theorem d_M_two_0 : decode c_M_two 0 = .ok (.aload_n 0, 1) := by decide +kernel
theorem d_M_two_1 : decode c_M_two 1 = .ok (.iload_n 1, 1) := by decide +kernel
theorem d_M_two_2 : decode c_M_two 2 = .ok (.invokevirtual 203, 3) := by decide +kernel
theorem d_M_two_5 : decode c_M_two 5 = .ok (.ifCond .eq 11, 3) := by decide +kernel
theorem d_M_two_8 : decode c_M_two 8 = .ok (.aload_n 0, 1) := by decide +kernel
theorem d_M_two_9 : decode c_M_two 9 = .ok (.iload_n 2, 1) := by decide +kernel
theorem d_M_two_10 : decode c_M_two 10 = .ok (.invokevirtual 203, 3) := by decide +kernel
theorem d_M_two_13 : decode c_M_two 13 = .ok (.ifCond .ne 7, 3) := by decide +kernel
theorem d_M_two_16 : decode c_M_two 16 = .ok (.iconst 1, 1) := by decide +kernel
theorem d_M_two_17 : decode c_M_two 17 = .ok (.goto 13, 3) := by decide +kernel
theorem d_M_two_20 : decode c_M_two 20 = .ok (.iload_n 1, 1) := by decide +kernel
theorem d_M_two_21 : decode c_M_two 21 = .ok (.iload_n 2, 1) := by decide +kernel
theorem d_M_two_22 : decode c_M_two 22 = .ok (.if_icmp .ne 7, 3) := by decide +kernel
theorem d_M_two_25 : decode c_M_two 25 = .ok (.iconst 2, 1) := by decide +kernel
theorem d_M_two_26 : decode c_M_two 26 = .ok (.goto 4, 3) := by decide +kernel
theorem d_M_two_29 : decode c_M_two 29 = .ok (.iconst 0, 1) := by decide +kernel
theorem d_M_two_30 : decode c_M_two 30 = .ok (.ireturn, 1) := by decide +kernel
theorem d_M_build_0 : decode c_M_build 0 = .ok (.aload_n 0, 1) := by decide +kernel
theorem d_M_build_1 : decode c_M_build 1 = .ok (.iload_n 1, 1) := by decide +kernel
theorem d_M_build_2 : decode c_M_build 2 = .ok (.invokestatic 209, 3) := by decide +kernel
theorem d_M_build_5 : decode c_M_build 5 = .ok (.ifCond .ne 7, 3) := by decide +kernel
theorem d_M_build_8 : decode c_M_build 8 = .ok (.iconst 1, 1) := by decide +kernel
theorem d_M_build_9 : decode c_M_build 9 = .ok (.goto 9, 3) := by decide +kernel
theorem d_M_build_12 : decode c_M_build 12 = .ok (.aload_n 0, 1) := by decide +kernel
theorem d_M_build_13 : decode c_M_build 13 = .ok (.iload_n 2, 1) := by decide +kernel
theorem d_M_build_14 : decode c_M_build 14 = .ok (.iload_n 3, 1) := by decide +kernel
theorem d_M_build_15 : decode c_M_build 15 = .ok (.invokevirtual 299, 3) := by decide +kernel
theorem d_M_build_18 : decode c_M_build 18 = .ok (.putfield 87, 3) := by decide +kernel
theorem d_M_build_21 : decode c_M_build 21 = .ok (.aload_n 0, 1) := by decide +kernel
theorem d_M_build_22 : decode c_M_build 22 = .ok (.getfield 87, 3) := by decide +kernel
theorem d_M_build_25 : decode c_M_build 25 = .ok (.ifCond .le 5, 3) := by decide +kernel
theorem d_M_build_28 : decode c_M_build 28 = .ok (.iconst 0, 1) := by decide +kernel
theorem d_M_build_29 : decode c_M_build 29 = .ok (.ireturn, 1) := by decide +kernel
theorem d_M_build_30 : decode c_M_build 30 = .ok (.aload_n 0, 1) := by decide +kernel
theorem d_M_build_31 : decode c_M_build 31 = .ok (.aload_n 0, 1) := by decide +kernel
theorem d_M_build_32 : decode c_M_build 32 = .ok (.iload_n 2, 1) := by decide +kernel
theorem d_M_build_33 : decode c_M_build 33 = .ok (.iload_n 3, 1) := by decide +kernel
theorem d_M_build_34 : decode c_M_build 34 = .ok (.iconst 0, 1) := by decide +kernel
theorem d_M_build_35 : decode c_M_build 35 = .ok (.invokevirtual 302, 3) := by decide +kernel
theorem d_M_build_38 : decode c_M_build 38 = .ok (.ifCond .eq 16, 3) := by decide +kernel
theorem d_M_build_41 : decode c_M_build 41 = .ok (.aload_n 0, 1) := by decide +kernel
theorem d_M_build_42 : decode c_M_build 42 = .ok (.getfield 172, 3) := by decide +kernel
theorem d_M_build_45 : decode c_M_build 45 = .ok (.bipush 40, 2) := by decide +kernel
theorem d_M_build_47 : decode c_M_build 47 = .ok (.if_icmp .gt 7, 3) := by decide +kernel
theorem d_M_build_50 : decode c_M_build 50 = .ok (.iconst 0, 1) := by decide +kernel
theorem d_M_build_51 : decode c_M_build 51 = .ok (.goto 4, 3) := by decide +kernel
theorem d_M_build_54 : decode c_M_build 54 = .ok (.iconst 3, 1) := by decide +kernel
theorem d_M_build_55 : decode c_M_build 55 = .ok (.putfield 87, 3) := by decide +kernel
theorem d_M_build_58 : decode c_M_build 58 = .ok (.aload_n 0, 1) := by decide +kernel
theorem d_M_build_59 : decode c_M_build 59 = .ok (.getfield 87, 3) := by decide +kernel
theorem d_M_build_62 : decode c_M_build 62 = .ok (.ifCond .le 5, 3) := by decide +kernel
theorem d_M_build_65 : decode c_M_build 65 = .ok (.iconst 0, 1) := by decide +kernel
theorem d_M_build_66 : decode c_M_build 66 = .ok (.ireturn, 1) := by decide +kernel
theorem d_M_build_67 : decode c_M_build 67 = .ok (.aload_n 0, 1) := by decide +kernel
theorem d_M_build_68 : decode c_M_build 68 = .ok (.invokevirtual 296, 3) := by decide +kernel
theorem d_M_build_71 : decode c_M_build 71 = .ok (.sipush 175, 3) := by decide +kernel
theorem d_M_build_74 : decode c_M_build 74 = .ok (.bipush 81, 2) := by decide +kernel
theorem d_M_build_76 : decode c_M_build 76 = .ok (.iload_n 1, 1) := by decide +kernel
theorem d_M_build_77 : decode c_M_build 77 = .ok (.imul, 1) := by decide +kernel
theorem d_M_build_78 : decode c_M_build 78 = .ok (.iadd, 1) := by decide +kernel
theorem d_M_build_79 : decode c_M_build 79 = .ok (.istore 4, 2) := by decide +kernel
theorem d_M_build_81 : decode c_M_build 81 = .ok (.iconst 0, 1) := by decide +kernel
theorem d_M_build_82 : decode c_M_build 82 = .ok (.istore 5, 2) := by decide +kernel
theorem d_M_build_84 : decode c_M_build 84 = .ok (.iload 5, 2) := by decide +kernel
theorem d_M_build_86 : decode c_M_build 86 = .ok (.bipush 81, 2) := by decide +kernel
theorem d_M_build_88 : decode c_M_build 88 = .ok (.if_icmp .ge 20, 3) := by decide +kernel
theorem d_M_build_91 : decode c_M_build 91 = .ok (.aload_n 0, 1) := by decide +kernel
theorem d_M_build_92 : decode c_M_build 92 = .ok (.getfield 7, 3) := by decide +kernel
theorem d_M_build_95 : decode c_M_build 95 = .ok (.iload 4, 2) := by decide +kernel
theorem d_M_build_97 : decode c_M_build 97 = .ok (.iload 5, 2) := by decide +kernel
theorem d_M_build_99 : decode c_M_build 99 = .ok (.iadd, 1) := by decide +kernel
theorem d_M_build_100 : decode c_M_build 100 = .ok (.iconst 0, 1) := by decide +kernel
theorem d_M_build_101 : decode c_M_build 101 = .ok (.iastore, 1) := by decide +kernel
theorem d_M_build_102 : decode c_M_build 102 = .ok (.iinc 5 1, 3) := by decide +kernel
theorem d_M_build_105 : decode c_M_build 105 = .ok (.goto (-21), 3) := by decide +kernel
theorem d_M_build_108 : decode c_M_build 108 = .ok (.aload_n 0, 1) := by decide +kernel
theorem d_M_build_109 : decode c_M_build 109 = .ok (.getfield 7, 3) := by decide +kernel
theorem d_M_build_112 : decode c_M_build 112 = .ok (.iload 4, 2) := by decide +kernel
theorem d_M_build_114 : decode c_M_build 114 = .ok (.aload_n 0, 1) := by decide +kernel
theorem d_M_build_115 : decode c_M_build 115 = .ok (.getfield 172, 3) := by decide +kernel
theorem d_M_build_118 : decode c_M_build 118 = .ok (.iastore, 1) := by decide +kernel
theorem d_M_build_119 : decode c_M_build 119 = .ok (.iconst 0, 1) := by decide +kernel
theorem d_M_build_120 : decode c_M_build 120 = .ok (.istore 5, 2) := by decide +kernel
theorem d_M_build_122 : decode c_M_build 122 = .ok (.iload 5, 2) := by decide +kernel
theorem d_M_build_124 : decode c_M_build 124 = .ok (.aload_n 0, 1) := by decide +kernel
theorem d_M_build_125 : decode c_M_build 125 = .ok (.getfield 172, 3) := by decide +kernel
theorem d_M_build_128 : decode c_M_build 128 = .ok (.if_icmp .ge 28, 3) := by decide +kernel
theorem d_M_build_131 : decode c_M_build 131 = .ok (.aload_n 0, 1) := by decide +kernel
theorem d_M_build_132 : decode c_M_build 132 = .ok (.getfield 7, 3) := by decide +kernel
theorem d_M_build_135 : decode c_M_build 135 = .ok (.iload 4, 2) := by decide +kernel
theorem d_M_build_137 : decode c_M_build 137 = .ok (.iconst 1, 1) := by decide +kernel
theorem d_M_build_138 : decode c_M_build 138 = .ok (.iadd, 1) := by decide +kernel
theorem d_M_build_139 : decode c_M_build 139 = .ok (.iload 5, 2) := by decide +kernel
theorem d_M_build_141 : decode c_M_build 141 = .ok (.iadd, 1) := by decide +kernel
theorem d_M_build_142 : decode c_M_build 142 = .ok (.aload_n 0, 1) := by decide +kernel
theorem d_M_build_143 : decode c_M_build 143 = .ok (.getfield 50, 3) := by decide +kernel
theorem d_M_build_146 : decode c_M_build 146 = .ok (.iload 5, 2) := by decide +kernel
theorem d_M_build_148 : decode c_M_build 148 = .ok (.iaload, 1) := by decide +kernel
theorem d_M_build_149 : decode c_M_build 149 = .ok (.iastore, 1) := by decide +kernel
theorem d_M_build_150 : decode c_M_build 150 = .ok (.iinc 5 1, 3) := by decide +kernel
theorem d_M_build_153 : decode c_M_build 153 = .ok (.goto (-31), 3) := by decide +kernel
theorem d_M_build_156 : decode c_M_build 156 = .ok (.aload_n 0, 1) := by decide +kernel
theorem d_M_build_157 : decode c_M_build 157 = .ok (.iconst 0, 1) := by decide +kernel
theorem d_M_build_158 : decode c_M_build 158 = .ok (.invokevirtual 305, 3) := by decide +kernel
theorem d_M_build_161 : decode c_M_build 161 = .ok (.ireturn, 1) := by decide +kernel
theorem d_M_drop_0 : decode c_M_drop 0 = .ok (.aload_n 0, 1) := by decide +kernel
theorem d_M_drop_1 : decode c_M_drop 1 = .ok (.iload_n 1, 1) := by decide +kernel
theorem d_M_drop_2 : decode c_M_drop 2 = .ok (.invokestatic 209, 3) := by decide +kernel
theorem d_M_drop_5 : decode c_M_drop 5 = .ok (.ifCond .ne 7, 3) := by decide +kernel
theorem d_M_drop_8 : decode c_M_drop 8 = .ok (.iconst 1, 1) := by decide +kernel
theorem d_M_drop_9 : decode c_M_drop 9 = .ok (.goto 16, 3) := by decide +kernel
theorem d_M_drop_12 : decode c_M_drop 12 = .ok (.aload_n 0, 1) := by decide +kernel
theorem d_M_drop_13 : decode c_M_drop 13 = .ok (.iload_n 1, 1) := by decide +kernel
theorem d_M_drop_14 : decode c_M_drop 14 = .ok (.invokevirtual 129, 3) := by decide +kernel
theorem d_M_drop_17 : decode c_M_drop 17 = .ok (.ifCond .ne 7, 3) := by decide +kernel
theorem d_M_drop_20 : decode c_M_drop 20 = .ok (.iconst 2, 1) := by decide +kernel
theorem d_M_drop_21 : decode c_M_drop 21 = .ok (.goto 4, 3) := by decide +kernel
theorem d_M_drop_24 : decode c_M_drop 24 = .ok (.iconst 0, 1) := by decide +kernel
theorem d_M_drop_25 : decode c_M_drop 25 = .ok (.putfield 87, 3) := by decide +kernel
theorem d_M_drop_28 : decode c_M_drop 28 = .ok (.aload_n 0, 1) := by decide +kernel
theorem d_M_drop_29 : decode c_M_drop 29 = .ok (.getfield 87, 3) := by decide +kernel
theorem d_M_drop_32 : decode c_M_drop 32 = .ok (.ifCond .le 5, 3) := by decide +kernel
theorem d_M_drop_35 : decode c_M_drop 35 = .ok (.iconst 0, 1) := by decide +kernel
theorem d_M_drop_36 : decode c_M_drop 36 = .ok (.ireturn, 1) := by decide +kernel
theorem d_M_drop_37 : decode c_M_drop 37 = .ok (.aload_n 0, 1) := by decide +kernel
theorem d_M_drop_38 : decode c_M_drop 38 = .ok (.invokevirtual 296, 3) := by decide +kernel
theorem d_M_drop_41 : decode c_M_drop 41 = .ok (.aload_n 0, 1) := by decide +kernel
theorem d_M_drop_42 : decode c_M_drop 42 = .ok (.iload_n 1, 1) := by decide +kernel
theorem d_M_drop_43 : decode c_M_drop 43 = .ok (.invokevirtual 129, 3) := by decide +kernel
theorem d_M_drop_46 : decode c_M_drop 46 = .ok (.istore_n 2, 1) := by decide +kernel
theorem d_M_drop_47 : decode c_M_drop 47 = .ok (.iconst 0, 1) := by decide +kernel
theorem d_M_drop_48 : decode c_M_drop 48 = .ok (.istore_n 3, 1) := by decide +kernel
theorem d_M_drop_49 : decode c_M_drop 49 = .ok (.iload_n 3, 1) := by decide +kernel
theorem d_M_drop_50 : decode c_M_drop 50 = .ok (.bipush 81, 2) := by decide +kernel
theorem d_M_drop_52 : decode c_M_drop 52 = .ok (.if_icmp .ge 25, 3) := by decide +kernel
theorem d_M_drop_55 : decode c_M_drop 55 = .ok (.aload_n 0, 1) := by decide +kernel
theorem d_M_drop_56 : decode c_M_drop 56 = .ok (.getfield 7, 3) := by decide +kernel
theorem d_M_drop_59 : decode c_M_drop 59 = .ok (.sipush 175, 3) := by decide +kernel
theorem d_M_drop_62 : decode c_M_drop 62 = .ok (.bipush 81, 2) := by decide +kernel
theorem d_M_drop_64 : decode c_M_drop 64 = .ok (.iload_n 1, 1) := by decide +kernel
theorem d_M_drop_65 : decode c_M_drop 65 = .ok (.imul, 1) := by decide +kernel
theorem d_M_drop_66 : decode c_M_drop 66 = .ok (.iadd, 1) := by decide +kernel
theorem d_M_drop_67 : decode c_M_drop 67 = .ok (.iload_n 3, 1) := by decide +kernel
theorem d_M_drop_68 : decode c_M_drop 68 = .ok (.iadd, 1) := by decide +kernel
theorem d_M_drop_69 : decode c_M_drop 69 = .ok (.iconst 0, 1) := by decide +kernel
theorem d_M_drop_70 : decode c_M_drop 70 = .ok (.iastore, 1) := by decide +kernel
theorem d_M_drop_71 : decode c_M_drop 71 = .ok (.iinc 3 1, 3) := by decide +kernel
theorem d_M_drop_74 : decode c_M_drop 74 = .ok (.goto (-25), 3) := by decide +kernel
theorem d_M_drop_77 : decode c_M_drop 77 = .ok (.iload_n 2, 1) := by decide +kernel
theorem d_M_drop_78 : decode c_M_drop 78 = .ok (.ireturn, 1) := by decide +kernel
theorem d_M_undo_0 : decode c_M_undo 0 = .ok (.aload_n 0, 1) := by decide +kernel
theorem d_M_undo_1 : decode c_M_undo 1 = .ok (.aload_n 0, 1) := by decide +kernel
theorem d_M_undo_2 : decode c_M_undo 2 = .ok (.getfield 293, 3) := by decide +kernel
theorem d_M_undo_5 : decode c_M_undo 5 = .ok (.ifCond .ne 7, 3) := by decide +kernel
theorem d_M_undo_8 : decode c_M_undo 8 = .ok (.iconst 1, 1) := by decide +kernel
theorem d_M_undo_9 : decode c_M_undo 9 = .ok (.goto 4, 3) := by decide +kernel
theorem d_M_undo_12 : decode c_M_undo 12 = .ok (.iconst 0, 1) := by decide +kernel
theorem d_M_undo_13 : decode c_M_undo 13 = .ok (.putfield 87, 3) := by decide +kernel
theorem d_M_undo_16 : decode c_M_undo 16 = .ok (.aload_n 0, 1) := by decide +kernel
theorem d_M_undo_17 : decode c_M_undo 17 = .ok (.getfield 87, 3) := by decide +kernel
theorem d_M_undo_20 : decode c_M_undo 20 = .ok (.ifCond .le 5, 3) := by decide +kernel
theorem d_M_undo_23 : decode c_M_undo 23 = .ok (.iconst 0, 1) := by decide +kernel
theorem d_M_undo_24 : decode c_M_undo 24 = .ok (.ireturn, 1) := by decide +kernel
theorem d_M_undo_25 : decode c_M_undo 25 = .ok (.aload_n 0, 1) := by decide +kernel
theorem d_M_undo_26 : decode c_M_undo 26 = .ok (.dup, 1) := by decide +kernel
theorem d_M_undo_27 : decode c_M_undo 27 = .ok (.getfield 293, 3) := by decide +kernel
theorem d_M_undo_30 : decode c_M_undo 30 = .ok (.iconst 1, 1) := by decide +kernel
theorem d_M_undo_31 : decode c_M_undo 31 = .ok (.isub, 1) := by decide +kernel
theorem d_M_undo_32 : decode c_M_undo 32 = .ok (.putfield 293, 3) := by decide +kernel
theorem d_M_undo_35 : decode c_M_undo 35 = .ok (.iconst 0, 1) := by decide +kernel
theorem d_M_undo_36 : decode c_M_undo 36 = .ok (.istore_n 1, 1) := by decide +kernel
theorem d_M_undo_37 : decode c_M_undo 37 = .ok (.iload_n 1, 1) := by decide +kernel
theorem d_M_undo_38 : decode c_M_undo 38 = .ok (.sipush 499, 3) := by decide +kernel
theorem d_M_undo_41 : decode c_M_undo 41 = .ok (.if_icmp .ge 30, 3) := by decide +kernel
theorem d_M_undo_44 : decode c_M_undo 44 = .ok (.aload_n 0, 1) := by decide +kernel
theorem d_M_undo_45 : decode c_M_undo 45 = .ok (.getfield 7, 3) := by decide +kernel
theorem d_M_undo_48 : decode c_M_undo 48 = .ok (.iload_n 1, 1) := by decide +kernel
theorem d_M_undo_49 : decode c_M_undo 49 = .ok (.aload_n 0, 1) := by decide +kernel
theorem d_M_undo_50 : decode c_M_undo 50 = .ok (.getfield 13, 3) := by decide +kernel
theorem d_M_undo_53 : decode c_M_undo 53 = .ok (.sipush 499, 3) := by decide +kernel
theorem d_M_undo_56 : decode c_M_undo 56 = .ok (.aload_n 0, 1) := by decide +kernel
theorem d_M_undo_57 : decode c_M_undo 57 = .ok (.getfield 293, 3) := by decide +kernel
theorem d_M_undo_60 : decode c_M_undo 60 = .ok (.imul, 1) := by decide +kernel
theorem d_M_undo_61 : decode c_M_undo 61 = .ok (.iload_n 1, 1) := by decide +kernel
theorem d_M_undo_62 : decode c_M_undo 62 = .ok (.iadd, 1) := by decide +kernel
theorem d_M_undo_63 : decode c_M_undo 63 = .ok (.iaload, 1) := by decide +kernel
theorem d_M_undo_64 : decode c_M_undo 64 = .ok (.iastore, 1) := by decide +kernel
theorem d_M_undo_65 : decode c_M_undo 65 = .ok (.iinc 1 1, 3) := by decide +kernel
theorem d_M_undo_68 : decode c_M_undo 68 = .ok (.goto (-31), 3) := by decide +kernel
theorem d_M_undo_71 : decode c_M_undo 71 = .ok (.aload_n 0, 1) := by decide +kernel
theorem d_M_undo_72 : decode c_M_undo 72 = .ok (.getfield 293, 3) := by decide +kernel
theorem d_M_undo_75 : decode c_M_undo 75 = .ok (.ireturn, 1) := by decide +kernel
theorem d_M_earthOf_0 : decode c_M_earthOf 0 = .ok (.iload_n 1, 1) := by decide +kernel
theorem d_M_earthOf_1 : decode c_M_earthOf 1 = .ok (.ifCond .ge 16, 3) := by decide +kernel
theorem d_M_earthOf_4 : decode c_M_earthOf 4 = .ok (.iload_n 1, 1) := by decide +kernel
theorem d_M_earthOf_5 : decode c_M_earthOf 5 = .ok (.ineg, 1) := by decide +kernel
theorem d_M_earthOf_6 : decode c_M_earthOf 6 = .ok (.aload_n 0, 1) := by decide +kernel
theorem d_M_earthOf_7 : decode c_M_earthOf 7 = .ok (.getfield 7, 3) := by decide +kernel
theorem d_M_earthOf_10 : decode c_M_earthOf 10 = .ok (.bipush 10, 2) := by decide +kernel
theorem d_M_earthOf_12 : decode c_M_earthOf 12 = .ok (.iaload, 1) := by decide +kernel
theorem d_M_earthOf_13 : decode c_M_earthOf 13 = .ok (.imul, 1) := by decide +kernel
theorem d_M_earthOf_14 : decode c_M_earthOf 14 = .ok (.goto 12, 3) := by decide +kernel
theorem d_M_earthOf_17 : decode c_M_earthOf 17 = .ok (.iload_n 1, 1) := by decide +kernel
theorem d_M_earthOf_18 : decode c_M_earthOf 18 = .ok (.aload_n 0, 1) := by decide +kernel
theorem d_M_earthOf_19 : decode c_M_earthOf 19 = .ok (.getfield 7, 3) := by decide +kernel
theorem d_M_earthOf_22 : decode c_M_earthOf 22 = .ok (.bipush 11, 2) := by decide +kernel
theorem d_M_earthOf_24 : decode c_M_earthOf 24 = .ok (.iaload, 1) := by decide +kernel
theorem d_M_earthOf_25 : decode c_M_earthOf 25 = .ok (.imul, 1) := by decide +kernel
theorem d_M_earthOf_26 : decode c_M_earthOf 26 = .ok (.ireturn, 1) := by decide +kernel
theorem d_M_stepHeading_0 : decode c_M_stepHeading 0 = .ok (.aload_n 0, 1) := by decide +kernel
theorem d_M_stepHeading_1 : decode c_M_stepHeading 1 = .ok (.aload_n 0, 1) := by decide +kernel
theorem d_M_stepHeading_2 : decode c_M_stepHeading 2 = .ok (.iload_n 1, 1) := by decide +kernel
theorem d_M_stepHeading_3 : decode c_M_stepHeading 3 = .ok (.iload_n 2, 1) := by decide +kernel
theorem d_M_stepHeading_4 : decode c_M_stepHeading 4 = .ok (.invokevirtual 212, 3) := by decide +kernel
theorem d_M_stepHeading_7 : decode c_M_stepHeading 7 = .ok (.aload_n 0, 1) := by decide +kernel
theorem d_M_stepHeading_8 : decode c_M_stepHeading 8 = .ok (.iload_n 1, 1) := by decide +kernel
theorem d_M_stepHeading_9 : decode c_M_stepHeading 9 = .ok (.iload_n 2, 1) := by decide +kernel
theorem d_M_stepHeading_10 : decode c_M_stepHeading 10 = .ok (.iconst 1, 1) := by decide +kernel
theorem d_M_stepHeading_11 : decode c_M_stepHeading 11 = .ok (.iadd, 1) := by decide +kernel
theorem d_M_stepHeading_12 : decode c_M_stepHeading 12 = .ok (.invokevirtual 212, 3) := by decide +kernel
theorem d_M_stepHeading_15 : decode c_M_stepHeading 15 = .ok (.invokevirtual 178, 3) := by decide +kernel
theorem d_M_stepHeading_18 : decode c_M_stepHeading 18 = .ok (.ireturn, 1) := by decide +kernel
theorem d_M_isRuled_0 : decode c_M_isRuled 0 = .ok (.aload_n 0, 1) := by decide +kernel
theorem d_M_isRuled_1 : decode c_M_isRuled 1 = .ok (.getfield 7, 3) := by decide +kernel
theorem d_M_isRuled_4 : decode c_M_isRuled 4 = .ok (.bipush 13, 2) := by decide +kernel
theorem d_M_isRuled_6 : decode c_M_isRuled 6 = .ok (.aload_n 0, 1) := by decide +kernel
theorem d_M_isRuled_7 : decode c_M_isRuled 7 = .ok (.iload_n 1, 1) := by decide +kernel
theorem d_M_isRuled_8 : decode c_M_isRuled 8 = .ok (.iload_n 2, 1) := by decide +kernel
theorem d_M_isRuled_9 : decode c_M_isRuled 9 = .ok (.invokevirtual 212, 3) := by decide +kernel
theorem d_M_isRuled_12 : decode c_M_isRuled 12 = .ok (.iadd, 1) := by decide +kernel
theorem d_M_isRuled_13 : decode c_M_isRuled 13 = .ok (.iaload, 1) := by decide +kernel
theorem d_M_isRuled_14 : decode c_M_isRuled 14 = .ok (.iload_n 3, 1) := by decide +kernel
theorem d_M_isRuled_15 : decode c_M_isRuled 15 = .ok (.iadd, 1) := by decide +kernel
theorem d_M_isRuled_16 : decode c_M_isRuled 16 = .ok (.aload_n 0, 1) := by decide +kernel
theorem d_M_isRuled_17 : decode c_M_isRuled 17 = .ok (.getfield 7, 3) := by decide +kernel
theorem d_M_isRuled_20 : decode c_M_isRuled 20 = .ok (.bipush 13, 2) := by decide +kernel
theorem d_M_isRuled_22 : decode c_M_isRuled 22 = .ok (.aload_n 0, 1) := by decide +kernel
theorem d_M_isRuled_23 : decode c_M_isRuled 23 = .ok (.iload_n 1, 1) := by decide +kernel
theorem d_M_isRuled_24 : decode c_M_isRuled 24 = .ok (.iload_n 2, 1) := by decide +kernel
theorem d_M_isRuled_25 : decode c_M_isRuled 25 = .ok (.iconst 1, 1) := by decide +kernel
theorem d_M_isRuled_26 : decode c_M_isRuled 26 = .ok (.iadd, 1) := by decide +kernel
theorem d_M_isRuled_27 : decode c_M_isRuled 27 = .ok (.invokevirtual 212, 3) := by decide +kernel
theorem d_M_isRuled_30 : decode c_M_isRuled 30 = .ok (.iadd, 1) := by decide +kernel
theorem d_M_isRuled_31 : decode c_M_isRuled 31 = .ok (.iaload, 1) := by decide +kernel
theorem d_M_isRuled_32 : decode c_M_isRuled 32 = .ok (.iload 4, 2) := by decide +kernel
theorem d_M_isRuled_34 : decode c_M_isRuled 34 = .ok (.iadd, 1) := by decide +kernel
theorem d_M_isRuled_35 : decode c_M_isRuled 35 = .ok (.invokestatic 98, 3) := by decide +kernel
theorem d_M_isRuled_38 : decode c_M_isRuled 38 = .ok (.istore 6, 2) := by decide +kernel
theorem d_M_isRuled_40 : decode c_M_isRuled 40 = .ok (.bipush 100, 2) := by decide +kernel
theorem d_M_isRuled_42 : decode c_M_isRuled 42 = .ok (.iload 6, 2) := by decide +kernel
theorem d_M_isRuled_44 : decode c_M_isRuled 44 = .ok (.imul, 1) := by decide +kernel
theorem d_M_isRuled_45 : decode c_M_isRuled 45 = .ok (.iload 5, 2) := by decide +kernel
theorem d_M_isRuled_47 : decode c_M_isRuled 47 = .ok (.aload_n 0, 1) := by decide +kernel
theorem d_M_isRuled_48 : decode c_M_isRuled 48 = .ok (.iload_n 1, 1) := by decide +kernel
theorem d_M_isRuled_49 : decode c_M_isRuled 49 = .ok (.iload_n 2, 1) := by decide +kernel
theorem d_M_isRuled_50 : decode c_M_isRuled 50 = .ok (.invokevirtual 308, 3) := by decide +kernel
theorem d_M_isRuled_53 : decode c_M_isRuled 53 = .ok (.invokestatic 108, 3) := by decide +kernel
theorem d_M_isRuled_56 : decode c_M_isRuled 56 = .ok (.imul, 1) := by decide +kernel
theorem d_M_isRuled_57 : decode c_M_isRuled 57 = .ok (.if_icmp .gt 7, 3) := by decide +kernel
theorem d_M_isRuled_60 : decode c_M_isRuled 60 = .ok (.iconst 1, 1) := by decide +kernel
theorem d_M_isRuled_61 : decode c_M_isRuled 61 = .ok (.goto 4, 3) := by decide +kernel
theorem d_M_isRuled_64 : decode c_M_isRuled 64 = .ok (.iconst 0, 1) := by decide +kernel
theorem d_M_isRuled_65 : decode c_M_isRuled 65 = .ok (.ireturn, 1) := by decide +kernel
theorem d_M_cell_0 : decode c_M_cell 0 = .ok (.iload_n 0, 1) := by decide +kernel
theorem d_M_cell_1 : decode c_M_cell 1 = .ok (.bipush 7, 2) := by decide +kernel
theorem d_M_cell_3 : decode c_M_cell 3 = .ok (.imul, 1) := by decide +kernel
theorem d_M_cell_4 : decode c_M_cell 4 = .ok (.iload_n 1, 1) := by decide +kernel
theorem d_M_cell_5 : decode c_M_cell 5 = .ok (.iadd, 1) := by decide +kernel
theorem d_M_cell_6 : decode c_M_cell 6 = .ok (.iconst 3, 1) := by decide +kernel
theorem d_M_cell_7 : decode c_M_cell 7 = .ok (.iadd, 1) := by decide +kernel
theorem d_M_cell_8 : decode c_M_cell 8 = .ok (.sipush 246, 3) := by decide +kernel
theorem d_M_cell_11 : decode c_M_cell 11 = .ok (.imul, 1) := by decide +kernel
theorem d_M_cell_12 : decode c_M_cell 12 = .ok (.iload_n 2, 1) := by decide +kernel
theorem d_M_cell_13 : decode c_M_cell 13 = .ok (.iadd, 1) := by decide +kernel
theorem d_M_cell_14 : decode c_M_cell 14 = .ok (.bipush 123, 2) := by decide +kernel
theorem d_M_cell_16 : decode c_M_cell 16 = .ok (.iadd, 1) := by decide +kernel
theorem d_M_cell_17 : decode c_M_cell 17 = .ok (.ireturn, 1) := by decide +kernel
theorem d_M_laysEarth_0 : decode c_M_laysEarth 0 = .ok (.aload_n 0, 1) := by decide +kernel
theorem d_M_laysEarth_1 : decode c_M_laysEarth 1 = .ok (.getfield 7, 3) := by decide +kernel
theorem d_M_laysEarth_4 : decode c_M_laysEarth 4 = .ok (.bipush 9, 2) := by decide +kernel
theorem d_M_laysEarth_6 : decode c_M_laysEarth 6 = .ok (.iaload, 1) := by decide +kernel
theorem d_M_laysEarth_7 : decode c_M_laysEarth 7 = .ok (.istore_n 3, 1) := by decide +kernel
theorem d_M_laysEarth_8 : decode c_M_laysEarth 8 = .ok (.aload_n 0, 1) := by decide +kernel
theorem d_M_laysEarth_9 : decode c_M_laysEarth 9 = .ok (.iload_n 1, 1) := by decide +kernel
theorem d_M_laysEarth_10 : decode c_M_laysEarth 10 = .ok (.invokevirtual 129, 3) := by decide +kernel
theorem d_M_laysEarth_13 : decode c_M_laysEarth 13 = .ok (.iconst 1, 1) := by decide +kernel
theorem d_M_laysEarth_14 : decode c_M_laysEarth 14 = .ok (.isub, 1) := by decide +kernel
theorem d_M_laysEarth_15 : decode c_M_laysEarth 15 = .ok (.istore 4, 2) := by decide +kernel
theorem d_M_laysEarth_17 : decode c_M_laysEarth 17 = .ok (.iload 4, 2) := by decide +kernel
theorem d_M_laysEarth_19 : decode c_M_laysEarth 19 = .ok (.istore 5, 2) := by decide +kernel
theorem d_M_laysEarth_21 : decode c_M_laysEarth 21 = .ok (.iload 5, 2) := by decide +kernel
theorem d_M_laysEarth_23 : decode c_M_laysEarth 23 = .ok (.ifCond .lt 190, 3) := by decide +kernel
theorem d_M_laysEarth_26 : decode c_M_laysEarth 26 = .ok (.iload_n 3, 1) := by decide +kernel
theorem d_M_laysEarth_27 : decode c_M_laysEarth 27 = .ok (.ineg, 1) := by decide +kernel
theorem d_M_laysEarth_28 : decode c_M_laysEarth 28 = .ok (.istore 6, 2) := by decide +kernel
theorem d_M_laysEarth_30 : decode c_M_laysEarth 30 = .ok (.iload 6, 2) := by decide +kernel
theorem d_M_laysEarth_32 : decode c_M_laysEarth 32 = .ok (.iload_n 3, 1) := by decide +kernel
theorem d_M_laysEarth_33 : decode c_M_laysEarth 33 = .ok (.if_icmp .gt 174, 3) := by decide +kernel
theorem d_M_laysEarth_36 : decode c_M_laysEarth 36 = .ok (.bipush (-3), 2) := by decide +kernel
theorem d_M_laysEarth_38 : decode c_M_laysEarth 38 = .ok (.iload 5, 2) := by decide +kernel
theorem d_M_laysEarth_40 : decode c_M_laysEarth 40 = .ok (.imul, 1) := by decide +kernel
theorem d_M_laysEarth_41 : decode c_M_laysEarth 41 = .ok (.iconst 3, 1) := by decide +kernel
theorem d_M_laysEarth_42 : decode c_M_laysEarth 42 = .ok (.isub, 1) := by decide +kernel
theorem d_M_laysEarth_43 : decode c_M_laysEarth 43 = .ok (.istore 7, 2) := by decide +kernel
theorem d_M_laysEarth_45 : decode c_M_laysEarth 45 = .ok (.iload 7, 2) := by decide +kernel
theorem d_M_laysEarth_47 : decode c_M_laysEarth 47 = .ok (.iconst 3, 1) := by decide +kernel
theorem d_M_laysEarth_48 : decode c_M_laysEarth 48 = .ok (.iload 5, 2) := by decide +kernel
theorem d_M_laysEarth_50 : decode c_M_laysEarth 50 = .ok (.imul, 1) := by decide +kernel
theorem d_M_laysEarth_51 : decode c_M_laysEarth 51 = .ok (.iconst 3, 1) := by decide +kernel
theorem d_M_laysEarth_52 : decode c_M_laysEarth 52 = .ok (.iadd, 1) := by decide +kernel
theorem d_M_laysEarth_53 : decode c_M_laysEarth 53 = .ok (.if_icmp .gt 148, 3) := by decide +kernel
theorem d_M_laysEarth_56 : decode c_M_laysEarth 56 = .ok (.iload 5, 2) := by decide +kernel
theorem d_M_laysEarth_58 : decode c_M_laysEarth 58 = .ok (.iload 4, 2) := by decide +kernel
theorem d_M_laysEarth_60 : decode c_M_laysEarth 60 = .ok (.if_icmp .ne 30, 3) := by decide +kernel
theorem d_M_laysEarth_63 : decode c_M_laysEarth 63 = .ok (.iload 7, 2) := by decide +kernel
theorem d_M_laysEarth_65 : decode c_M_laysEarth 65 = .ok (.aload_n 0, 1) := by decide +kernel
theorem d_M_laysEarth_66 : decode c_M_laysEarth 66 = .ok (.getfield 7, 3) := by decide +kernel
theorem d_M_laysEarth_69 : decode c_M_laysEarth 69 = .ok (.bipush 12, 2) := by decide +kernel
theorem d_M_laysEarth_71 : decode c_M_laysEarth 71 = .ok (.iaload, 1) := by decide +kernel
theorem d_M_laysEarth_72 : decode c_M_laysEarth 72 = .ok (.ineg, 1) := by decide +kernel
theorem d_M_laysEarth_73 : decode c_M_laysEarth 73 = .ok (.aload_n 0, 1) := by decide +kernel
theorem d_M_laysEarth_74 : decode c_M_laysEarth 74 = .ok (.getfield 7, 3) := by decide +kernel
theorem d_M_laysEarth_77 : decode c_M_laysEarth 77 = .ok (.bipush 12, 2) := by decide +kernel
theorem d_M_laysEarth_79 : decode c_M_laysEarth 79 = .ok (.iaload, 1) := by decide +kernel
theorem d_M_laysEarth_80 : decode c_M_laysEarth 80 = .ok (.invokestatic 94, 3) := by decide +kernel
theorem d_M_laysEarth_83 : decode c_M_laysEarth 83 = .ok (.ifCond .eq 7, 3) := by decide +kernel
theorem d_M_laysEarth_86 : decode c_M_laysEarth 86 = .ok (.iconst 0, 1) := by decide +kernel
theorem d_M_laysEarth_87 : decode c_M_laysEarth 87 = .ok (.goto 5, 3) := by decide +kernel
theorem d_M_laysEarth_90 : decode c_M_laysEarth 90 = .ok (.ldc 155, 2) := by decide +kernel
theorem d_M_laysEarth_92 : decode c_M_laysEarth 92 = .ok (.istore 8, 2) := by decide +kernel
theorem d_M_laysEarth_94 : decode c_M_laysEarth 94 = .ok (.iload_n 3, 1) := by decide +kernel
theorem d_M_laysEarth_95 : decode c_M_laysEarth 95 = .ok (.ineg, 1) := by decide +kernel
theorem d_M_laysEarth_96 : decode c_M_laysEarth 96 = .ok (.istore 9, 2) := by decide +kernel
theorem d_M_laysEarth_98 : decode c_M_laysEarth 98 = .ok (.iload 9, 2) := by decide +kernel
theorem d_M_laysEarth_100 : decode c_M_laysEarth 100 = .ok (.iload_n 3, 1) := by decide +kernel
theorem d_M_laysEarth_101 : decode c_M_laysEarth 101 = .ok (.if_icmp .gt 78, 3) := by decide +kernel
theorem d_M_laysEarth_104 : decode c_M_laysEarth 104 = .ok (.iload 5, 2) := by decide +kernel
theorem d_M_laysEarth_106 : decode c_M_laysEarth 106 = .ok (.iload 4, 2) := by decide +kernel
theorem d_M_laysEarth_108 : decode c_M_laysEarth 108 = .ok (.if_icmp .ge 71, 3) := by decide +kernel
theorem d_M_laysEarth_111 : decode c_M_laysEarth 111 = .ok (.aload_n 0, 1) := by decide +kernel
theorem d_M_laysEarth_112 : decode c_M_laysEarth 112 = .ok (.iload_n 1, 1) := by decide +kernel
theorem d_M_laysEarth_113 : decode c_M_laysEarth 113 = .ok (.iload 5, 2) := by decide +kernel
theorem d_M_laysEarth_115 : decode c_M_laysEarth 115 = .ok (.iload 6, 2) := by decide +kernel
theorem d_M_laysEarth_117 : decode c_M_laysEarth 117 = .ok (.iload 9, 2) := by decide +kernel
theorem d_M_laysEarth_119 : decode c_M_laysEarth 119 = .ok (.iload_n 2, 1) := by decide +kernel
theorem d_M_laysEarth_120 : decode c_M_laysEarth 120 = .ok (.invokevirtual 311, 3) := by decide +kernel
theorem d_M_laysEarth_123 : decode c_M_laysEarth 123 = .ok (.ifCond .ne 6, 3) := by decide +kernel
theorem d_M_laysEarth_126 : decode c_M_laysEarth 126 = .ok (.goto 47, 3) := by decide +kernel
theorem d_M_laysEarth_129 : decode c_M_laysEarth 129 = .ok (.aload_n 0, 1) := by decide +kernel
theorem d_M_laysEarth_130 : decode c_M_laysEarth 130 = .ok (.getfield 54, 3) := by decide +kernel
theorem d_M_laysEarth_133 : decode c_M_laysEarth 133 = .ok (.iload 5, 2) := by decide +kernel
theorem d_M_laysEarth_135 : decode c_M_laysEarth 135 = .ok (.iconst 1, 1) := by decide +kernel
theorem d_M_laysEarth_136 : decode c_M_laysEarth 136 = .ok (.iadd, 1) := by decide +kernel
theorem d_M_laysEarth_137 : decode c_M_laysEarth 137 = .ok (.iload 9, 2) := by decide +kernel
theorem d_M_laysEarth_139 : decode c_M_laysEarth 139 = .ok (.iload 7, 2) := by decide +kernel
theorem d_M_laysEarth_141 : decode c_M_laysEarth 141 = .ok (.iload 9, 2) := by decide +kernel
theorem d_M_laysEarth_143 : decode c_M_laysEarth 143 = .ok (.iadd, 1) := by decide +kernel
theorem d_M_laysEarth_144 : decode c_M_laysEarth 144 = .ok (.invokestatic 315, 3) := by decide +kernel
theorem d_M_laysEarth_147 : decode c_M_laysEarth 147 = .ok (.iaload, 1) := by decide +kernel
theorem d_M_laysEarth_148 : decode c_M_laysEarth 148 = .ok (.istore 10, 2) := by decide +kernel
theorem d_M_laysEarth_150 : decode c_M_laysEarth 150 = .ok (.iload 10, 2) := by decide +kernel
theorem d_M_laysEarth_152 : decode c_M_laysEarth 152 = .ok (.ldc 155, 2) := by decide +kernel
theorem d_M_laysEarth_154 : decode c_M_laysEarth 154 = .ok (.if_icmp .ge 19, 3) := by decide +kernel
theorem d_M_laysEarth_157 : decode c_M_laysEarth 157 = .ok (.iload 8, 2) := by decide +kernel
theorem d_M_laysEarth_159 : decode c_M_laysEarth 159 = .ok (.iload 10, 2) := by decide +kernel
theorem d_M_laysEarth_161 : decode c_M_laysEarth 161 = .ok (.aload_n 0, 1) := by decide +kernel
theorem d_M_laysEarth_162 : decode c_M_laysEarth 162 = .ok (.iload 9, 2) := by decide +kernel
theorem d_M_laysEarth_164 : decode c_M_laysEarth 164 = .ok (.invokevirtual 318, 3) := by decide +kernel
theorem d_M_laysEarth_167 : decode c_M_laysEarth 167 = .ok (.iadd, 1) := by decide +kernel
theorem d_M_laysEarth_168 : decode c_M_laysEarth 168 = .ok (.invokestatic 184, 3) := by decide +kernel
theorem d_M_laysEarth_171 : decode c_M_laysEarth 171 = .ok (.istore 8, 2) := by decide +kernel
theorem d_M_laysEarth_173 : decode c_M_laysEarth 173 = .ok (.iinc 9 1, 3) := by decide +kernel
theorem d_M_laysEarth_176 : decode c_M_laysEarth 176 = .ok (.goto (-78), 3) := by decide +kernel
theorem d_M_laysEarth_179 : decode c_M_laysEarth 179 = .ok (.aload_n 0, 1) := by decide +kernel
theorem d_M_laysEarth_180 : decode c_M_laysEarth 180 = .ok (.getfield 54, 3) := by decide +kernel
theorem d_M_laysEarth_183 : decode c_M_laysEarth 183 = .ok (.iload 5, 2) := by decide +kernel
theorem d_M_laysEarth_185 : decode c_M_laysEarth 185 = .ok (.iload 6, 2) := by decide +kernel
theorem d_M_laysEarth_187 : decode c_M_laysEarth 187 = .ok (.iload 7, 2) := by decide +kernel
theorem d_M_laysEarth_189 : decode c_M_laysEarth 189 = .ok (.invokestatic 315, 3) := by decide +kernel
theorem d_M_laysEarth_192 : decode c_M_laysEarth 192 = .ok (.iload 8, 2) := by decide +kernel
theorem d_M_laysEarth_194 : decode c_M_laysEarth 194 = .ok (.iastore, 1) := by decide +kernel
theorem d_M_laysEarth_195 : decode c_M_laysEarth 195 = .ok (.iinc 7 1, 3) := by decide +kernel
theorem d_M_laysEarth_198 : decode c_M_laysEarth 198 = .ok (.goto (-153), 3) := by decide +kernel
theorem d_M_laysEarth_201 : decode c_M_laysEarth 201 = .ok (.iinc 6 1, 3) := by decide +kernel
theorem d_M_laysEarth_204 : decode c_M_laysEarth 204 = .ok (.goto (-174), 3) := by decide +kernel
theorem d_M_laysEarth_207 : decode c_M_laysEarth 207 = .ok (.iinc 5 (-1), 3) := by decide +kernel
theorem d_M_laysEarth_210 : decode c_M_laysEarth 210 = .ok (.goto (-189), 3) := by decide +kernel
theorem d_M_laysEarth_213 : decode c_M_laysEarth 213 = .ok (.return_, 1) := by decide +kernel
theorem d_M_grading_0 : decode c_M_grading 0 = .ok (.aload_n 0, 1) := by decide +kernel
theorem d_M_grading_1 : decode c_M_grading 1 = .ok (.iload_n 1, 1) := by decide +kernel
theorem d_M_grading_2 : decode c_M_grading 2 = .ok (.iload_n 2, 1) := by decide +kernel
theorem d_M_grading_3 : decode c_M_grading 3 = .ok (.invokevirtual 321, 3) := by decide +kernel
theorem d_M_grading_6 : decode c_M_grading 6 = .ok (.ldc 155, 2) := by decide +kernel
theorem d_M_grading_8 : decode c_M_grading 8 = .ok (.istore_n 3, 1) := by decide +kernel
theorem d_M_grading_9 : decode c_M_grading 9 = .ok (.aload_n 0, 1) := by decide +kernel
theorem d_M_grading_10 : decode c_M_grading 10 = .ok (.getfield 7, 3) := by decide +kernel
theorem d_M_grading_13 : decode c_M_grading 13 = .ok (.bipush 9, 2) := by decide +kernel
theorem d_M_grading_15 : decode c_M_grading 15 = .ok (.iaload, 1) := by decide +kernel
theorem d_M_grading_16 : decode c_M_grading 16 = .ok (.ineg, 1) := by decide +kernel
theorem d_M_grading_17 : decode c_M_grading 17 = .ok (.istore 4, 2) := by decide +kernel
theorem d_M_grading_19 : decode c_M_grading 19 = .ok (.iload 4, 2) := by decide +kernel
theorem d_M_grading_21 : decode c_M_grading 21 = .ok (.aload_n 0, 1) := by decide +kernel
theorem d_M_grading_22 : decode c_M_grading 22 = .ok (.getfield 7, 3) := by decide +kernel
theorem d_M_grading_25 : decode c_M_grading 25 = .ok (.bipush 9, 2) := by decide +kernel
theorem d_M_grading_27 : decode c_M_grading 27 = .ok (.iaload, 1) := by decide +kernel
theorem d_M_grading_28 : decode c_M_grading 28 = .ok (.if_icmp .gt 45, 3) := by decide +kernel
theorem d_M_grading_31 : decode c_M_grading 31 = .ok (.aload_n 0, 1) := by decide +kernel
theorem d_M_grading_32 : decode c_M_grading 32 = .ok (.getfield 54, 3) := by decide +kernel
theorem d_M_grading_35 : decode c_M_grading 35 = .ok (.iconst 0, 1) := by decide +kernel
theorem d_M_grading_36 : decode c_M_grading 36 = .ok (.iload 4, 2) := by decide +kernel
theorem d_M_grading_38 : decode c_M_grading 38 = .ok (.iload 4, 2) := by decide +kernel
theorem d_M_grading_40 : decode c_M_grading 40 = .ok (.invokestatic 315, 3) := by decide +kernel
theorem d_M_grading_43 : decode c_M_grading 43 = .ok (.iaload, 1) := by decide +kernel
theorem d_M_grading_44 : decode c_M_grading 44 = .ok (.istore 5, 2) := by decide +kernel
theorem d_M_grading_46 : decode c_M_grading 46 = .ok (.iload 5, 2) := by decide +kernel
theorem d_M_grading_48 : decode c_M_grading 48 = .ok (.ldc 155, 2) := by decide +kernel
theorem d_M_grading_50 : decode c_M_grading 50 = .ok (.if_icmp .ge 17, 3) := by decide +kernel
theorem d_M_grading_53 : decode c_M_grading 53 = .ok (.iload_n 3, 1) := by decide +kernel
theorem d_M_grading_54 : decode c_M_grading 54 = .ok (.iload 5, 2) := by decide +kernel
theorem d_M_grading_56 : decode c_M_grading 56 = .ok (.aload_n 0, 1) := by decide +kernel
theorem d_M_grading_57 : decode c_M_grading 57 = .ok (.iload 4, 2) := by decide +kernel
theorem d_M_grading_59 : decode c_M_grading 59 = .ok (.invokevirtual 318, 3) := by decide +kernel
theorem d_M_grading_62 : decode c_M_grading 62 = .ok (.iadd, 1) := by decide +kernel
theorem d_M_grading_63 : decode c_M_grading 63 = .ok (.invokestatic 184, 3) := by decide +kernel
theorem d_M_grading_66 : decode c_M_grading 66 = .ok (.istore_n 3, 1) := by decide +kernel
theorem d_M_grading_67 : decode c_M_grading 67 = .ok (.iinc 4 1, 3) := by decide +kernel
theorem d_M_grading_70 : decode c_M_grading 70 = .ok (.goto (-51), 3) := by decide +kernel
theorem d_M_grading_73 : decode c_M_grading 73 = .ok (.iload_n 3, 1) := by decide +kernel
theorem d_M_grading_74 : decode c_M_grading 74 = .ok (.ireturn, 1) := by decide +kernel
theorem d_M_chooses_0 : decode c_M_chooses 0 = .ok (.iload_n 3, 1) := by decide +kernel
theorem d_M_chooses_1 : decode c_M_chooses 1 = .ok (.istore 4, 2) := by decide +kernel
theorem d_M_chooses_3 : decode c_M_chooses 3 = .ok (.iconst 0, 1) := by decide +kernel
theorem d_M_chooses_4 : decode c_M_chooses 4 = .ok (.istore 5, 2) := by decide +kernel
theorem d_M_chooses_6 : decode c_M_chooses 6 = .ok (.iconst 0, 1) := by decide +kernel
theorem d_M_chooses_7 : decode c_M_chooses 7 = .ok (.istore 6, 2) := by decide +kernel
theorem d_M_chooses_9 : decode c_M_chooses 9 = .ok (.iload 6, 2) := by decide +kernel
theorem d_M_chooses_11 : decode c_M_chooses 11 = .ok (.aload_n 0, 1) := by decide +kernel
theorem d_M_chooses_12 : decode c_M_chooses 12 = .ok (.iload_n 1, 1) := by decide +kernel
theorem d_M_chooses_13 : decode c_M_chooses 13 = .ok (.invokevirtual 129, 3) := by decide +kernel
theorem d_M_chooses_16 : decode c_M_chooses 16 = .ok (.if_icmp .ge 110, 3) := by decide +kernel
theorem d_M_chooses_19 : decode c_M_chooses 19 = .ok (.aload_n 0, 1) := by decide +kernel
theorem d_M_chooses_20 : decode c_M_chooses 20 = .ok (.getfield 7, 3) := by decide +kernel
theorem d_M_chooses_23 : decode c_M_chooses 23 = .ok (.bipush 9, 2) := by decide +kernel
theorem d_M_chooses_25 : decode c_M_chooses 25 = .ok (.iaload, 1) := by decide +kernel
theorem d_M_chooses_26 : decode c_M_chooses 26 = .ok (.ineg, 1) := by decide +kernel
theorem d_M_chooses_27 : decode c_M_chooses 27 = .ok (.istore 7, 2) := by decide +kernel
theorem d_M_chooses_29 : decode c_M_chooses 29 = .ok (.iload 6, 2) := by decide +kernel
theorem d_M_chooses_31 : decode c_M_chooses 31 = .ok (.ifCond .le 27, 3) := by decide +kernel
theorem d_M_chooses_34 : decode c_M_chooses 34 = .ok (.aload_n 0, 1) := by decide +kernel
theorem d_M_chooses_35 : decode c_M_chooses 35 = .ok (.iload_n 1, 1) := by decide +kernel
theorem d_M_chooses_36 : decode c_M_chooses 36 = .ok (.iload 6, 2) := by decide +kernel
theorem d_M_chooses_38 : decode c_M_chooses 38 = .ok (.iconst 1, 1) := by decide +kernel
theorem d_M_chooses_39 : decode c_M_chooses 39 = .ok (.isub, 1) := by decide +kernel
theorem d_M_chooses_40 : decode c_M_chooses 40 = .ok (.aload_n 0, 1) := by decide +kernel
theorem d_M_chooses_41 : decode c_M_chooses 41 = .ok (.getfield 57, 3) := by decide +kernel
theorem d_M_chooses_44 : decode c_M_chooses 44 = .ok (.iload 6, 2) := by decide +kernel
theorem d_M_chooses_46 : decode c_M_chooses 46 = .ok (.iconst 1, 1) := by decide +kernel
theorem d_M_chooses_47 : decode c_M_chooses 47 = .ok (.isub, 1) := by decide +kernel
theorem d_M_chooses_48 : decode c_M_chooses 48 = .ok (.iaload, 1) := by decide +kernel
theorem d_M_chooses_49 : decode c_M_chooses 49 = .ok (.iload 7, 2) := by decide +kernel
theorem d_M_chooses_51 : decode c_M_chooses 51 = .ok (.iload_n 2, 1) := by decide +kernel
theorem d_M_chooses_52 : decode c_M_chooses 52 = .ok (.invokevirtual 311, 3) := by decide +kernel
theorem d_M_chooses_55 : decode c_M_chooses 55 = .ok (.ifCond .eq 32, 3) := by decide +kernel
theorem d_M_chooses_58 : decode c_M_chooses 58 = .ok (.aload_n 0, 1) := by decide +kernel
theorem d_M_chooses_59 : decode c_M_chooses 59 = .ok (.getfield 54, 3) := by decide +kernel
theorem d_M_chooses_62 : decode c_M_chooses 62 = .ok (.iload 6, 2) := by decide +kernel
theorem d_M_chooses_64 : decode c_M_chooses 64 = .ok (.iload 7, 2) := by decide +kernel
theorem d_M_chooses_66 : decode c_M_chooses 66 = .ok (.iload 5, 2) := by decide +kernel
theorem d_M_chooses_68 : decode c_M_chooses 68 = .ok (.iload 7, 2) := by decide +kernel
theorem d_M_chooses_70 : decode c_M_chooses 70 = .ok (.iadd, 1) := by decide +kernel
theorem d_M_chooses_71 : decode c_M_chooses 71 = .ok (.invokestatic 315, 3) := by decide +kernel
theorem d_M_chooses_74 : decode c_M_chooses 74 = .ok (.iaload, 1) := by decide +kernel
theorem d_M_chooses_75 : decode c_M_chooses 75 = .ok (.aload_n 0, 1) := by decide +kernel
theorem d_M_chooses_76 : decode c_M_chooses 76 = .ok (.iload 7, 2) := by decide +kernel
theorem d_M_chooses_78 : decode c_M_chooses 78 = .ok (.invokevirtual 318, 3) := by decide +kernel
theorem d_M_chooses_81 : decode c_M_chooses 81 = .ok (.iadd, 1) := by decide +kernel
theorem d_M_chooses_82 : decode c_M_chooses 82 = .ok (.iload 4, 2) := by decide +kernel
theorem d_M_chooses_84 : decode c_M_chooses 84 = .ok (.if_icmp .eq 9, 3) := by decide +kernel
theorem d_M_chooses_87 : decode c_M_chooses 87 = .ok (.iinc 7 1, 3) := by decide +kernel
theorem d_M_chooses_90 : decode c_M_chooses 90 = .ok (.goto (-61), 3) := by decide +kernel
theorem d_M_chooses_93 : decode c_M_chooses 93 = .ok (.aload_n 0, 1) := by decide +kernel
theorem d_M_chooses_94 : decode c_M_chooses 94 = .ok (.getfield 57, 3) := by decide +kernel
theorem d_M_chooses_97 : decode c_M_chooses 97 = .ok (.iload 6, 2) := by decide +kernel
theorem d_M_chooses_99 : decode c_M_chooses 99 = .ok (.iload 7, 2) := by decide +kernel
theorem d_M_chooses_101 : decode c_M_chooses 101 = .ok (.iastore, 1) := by decide +kernel
theorem d_M_chooses_102 : decode c_M_chooses 102 = .ok (.iload 5, 2) := by decide +kernel
theorem d_M_chooses_104 : decode c_M_chooses 104 = .ok (.iload 7, 2) := by decide +kernel
theorem d_M_chooses_106 : decode c_M_chooses 106 = .ok (.iadd, 1) := by decide +kernel
theorem d_M_chooses_107 : decode c_M_chooses 107 = .ok (.istore 5, 2) := by decide +kernel
theorem d_M_chooses_109 : decode c_M_chooses 109 = .ok (.iload 4, 2) := by decide +kernel
theorem d_M_chooses_111 : decode c_M_chooses 111 = .ok (.aload_n 0, 1) := by decide +kernel
theorem d_M_chooses_112 : decode c_M_chooses 112 = .ok (.iload 7, 2) := by decide +kernel
theorem d_M_chooses_114 : decode c_M_chooses 114 = .ok (.invokevirtual 318, 3) := by decide +kernel
theorem d_M_chooses_117 : decode c_M_chooses 117 = .ok (.isub, 1) := by decide +kernel
theorem d_M_chooses_118 : decode c_M_chooses 118 = .ok (.istore 4, 2) := by decide +kernel
theorem d_M_chooses_120 : decode c_M_chooses 120 = .ok (.iinc 6 1, 3) := by decide +kernel
theorem d_M_chooses_123 : decode c_M_chooses 123 = .ok (.goto (-114), 3) := by decide +kernel
theorem d_M_chooses_126 : decode c_M_chooses 126 = .ok (.return_, 1) := by decide +kernel
theorem d_M_level_0 : decode c_M_level 0 = .ok (.aload_n 0, 1) := by decide +kernel
theorem d_M_level_1 : decode c_M_level 1 = .ok (.iload_n 1, 1) := by decide +kernel
theorem d_M_level_2 : decode c_M_level 2 = .ok (.invokestatic 209, 3) := by decide +kernel
theorem d_M_level_5 : decode c_M_level 5 = .ok (.ifCond .ne 7, 3) := by decide +kernel
theorem d_M_level_8 : decode c_M_level 8 = .ok (.iconst 1, 1) := by decide +kernel
theorem d_M_level_9 : decode c_M_level 9 = .ok (.goto 30, 3) := by decide +kernel
theorem d_M_level_12 : decode c_M_level 12 = .ok (.iload_n 2, 1) := by decide +kernel
theorem d_M_level_13 : decode c_M_level 13 = .ok (.iconst 0, 1) := by decide +kernel
theorem d_M_level_14 : decode c_M_level 14 = .ok (.bipush 99, 2) := by decide +kernel
theorem d_M_level_16 : decode c_M_level 16 = .ok (.invokestatic 94, 3) := by decide +kernel
theorem d_M_level_19 : decode c_M_level 19 = .ok (.ifCond .ne 7, 3) := by decide +kernel
theorem d_M_level_22 : decode c_M_level 22 = .ok (.iconst 2, 1) := by decide +kernel
theorem d_M_level_23 : decode c_M_level 23 = .ok (.goto 16, 3) := by decide +kernel
theorem d_M_level_26 : decode c_M_level 26 = .ok (.aload_n 0, 1) := by decide +kernel
theorem d_M_level_27 : decode c_M_level 27 = .ok (.iload_n 1, 1) := by decide +kernel
theorem d_M_level_28 : decode c_M_level 28 = .ok (.invokevirtual 129, 3) := by decide +kernel
theorem d_M_level_31 : decode c_M_level 31 = .ok (.ifCond .ne 7, 3) := by decide +kernel
theorem d_M_level_34 : decode c_M_level 34 = .ok (.iconst 3, 1) := by decide +kernel
theorem d_M_level_35 : decode c_M_level 35 = .ok (.goto 4, 3) := by decide +kernel
theorem d_M_level_38 : decode c_M_level 38 = .ok (.iconst 0, 1) := by decide +kernel
theorem d_M_level_39 : decode c_M_level 39 = .ok (.putfield 87, 3) := by decide +kernel
theorem d_M_level_42 : decode c_M_level 42 = .ok (.aload_n 0, 1) := by decide +kernel
theorem d_M_level_43 : decode c_M_level 43 = .ok (.getfield 87, 3) := by decide +kernel
theorem d_M_level_46 : decode c_M_level 46 = .ok (.ifCond .le 5, 3) := by decide +kernel
theorem d_M_level_49 : decode c_M_level 49 = .ok (.iconst 0, 1) := by decide +kernel
theorem d_M_level_50 : decode c_M_level 50 = .ok (.ireturn, 1) := by decide +kernel
theorem d_M_level_51 : decode c_M_level 51 = .ok (.aload_n 0, 1) := by decide +kernel
theorem d_M_level_52 : decode c_M_level 52 = .ok (.iload_n 1, 1) := by decide +kernel
theorem d_M_level_53 : decode c_M_level 53 = .ok (.iload_n 2, 1) := by decide +kernel
theorem d_M_level_54 : decode c_M_level 54 = .ok (.invokevirtual 324, 3) := by decide +kernel
theorem d_M_level_57 : decode c_M_level 57 = .ok (.istore_n 3, 1) := by decide +kernel
theorem d_M_level_58 : decode c_M_level 58 = .ok (.aload_n 0, 1) := by decide +kernel
theorem d_M_level_59 : decode c_M_level 59 = .ok (.iload_n 3, 1) := by decide +kernel
theorem d_M_level_60 : decode c_M_level 60 = .ok (.ldc 155, 2) := by decide +kernel
theorem d_M_level_62 : decode c_M_level 62 = .ok (.if_icmp .ne 7, 3) := by decide +kernel
theorem d_M_level_65 : decode c_M_level 65 = .ok (.iconst 3, 1) := by decide +kernel
theorem d_M_level_66 : decode c_M_level 66 = .ok (.goto 4, 3) := by decide +kernel
theorem d_M_level_69 : decode c_M_level 69 = .ok (.iconst 0, 1) := by decide +kernel
theorem d_M_level_70 : decode c_M_level 70 = .ok (.putfield 87, 3) := by decide +kernel
theorem d_M_level_73 : decode c_M_level 73 = .ok (.aload_n 0, 1) := by decide +kernel
theorem d_M_level_74 : decode c_M_level 74 = .ok (.getfield 87, 3) := by decide +kernel
theorem d_M_level_77 : decode c_M_level 77 = .ok (.ifCond .le 5, 3) := by decide +kernel
theorem d_M_level_80 : decode c_M_level 80 = .ok (.iconst 0, 1) := by decide +kernel
theorem d_M_level_81 : decode c_M_level 81 = .ok (.ireturn, 1) := by decide +kernel
theorem d_M_level_82 : decode c_M_level 82 = .ok (.aload_n 0, 1) := by decide +kernel
theorem d_M_level_83 : decode c_M_level 83 = .ok (.invokevirtual 296, 3) := by decide +kernel
theorem d_M_level_86 : decode c_M_level 86 = .ok (.aload_n 0, 1) := by decide +kernel
theorem d_M_level_87 : decode c_M_level 87 = .ok (.iload_n 1, 1) := by decide +kernel
theorem d_M_level_88 : decode c_M_level 88 = .ok (.iload_n 2, 1) := by decide +kernel
theorem d_M_level_89 : decode c_M_level 89 = .ok (.iload_n 3, 1) := by decide +kernel
theorem d_M_level_90 : decode c_M_level 90 = .ok (.invokevirtual 327, 3) := by decide +kernel
theorem d_M_level_93 : decode c_M_level 93 = .ok (.iconst 0, 1) := by decide +kernel
theorem d_M_level_94 : decode c_M_level 94 = .ok (.istore 4, 2) := by decide +kernel
theorem d_M_level_96 : decode c_M_level 96 = .ok (.iload 4, 2) := by decide +kernel
theorem d_M_level_98 : decode c_M_level 98 = .ok (.aload_n 0, 1) := by decide +kernel
theorem d_M_level_99 : decode c_M_level 99 = .ok (.iload_n 1, 1) := by decide +kernel
theorem d_M_level_100 : decode c_M_level 100 = .ok (.invokevirtual 129, 3) := by decide +kernel
theorem d_M_level_103 : decode c_M_level 103 = .ok (.if_icmp .ge 35, 3) := by decide +kernel
theorem d_M_level_106 : decode c_M_level 106 = .ok (.aload_n 0, 1) := by decide +kernel
theorem d_M_level_107 : decode c_M_level 107 = .ok (.getfield 7, 3) := by decide +kernel
theorem d_M_level_110 : decode c_M_level 110 = .ok (.sipush 175, 3) := by decide +kernel
theorem d_M_level_113 : decode c_M_level 113 = .ok (.bipush 81, 2) := by decide +kernel
theorem d_M_level_115 : decode c_M_level 115 = .ok (.iload_n 1, 1) := by decide +kernel
theorem d_M_level_116 : decode c_M_level 116 = .ok (.imul, 1) := by decide +kernel
theorem d_M_level_117 : decode c_M_level 117 = .ok (.iadd, 1) := by decide +kernel
theorem d_M_level_118 : decode c_M_level 118 = .ok (.bipush 41, 2) := by decide +kernel
theorem d_M_level_120 : decode c_M_level 120 = .ok (.iadd, 1) := by decide +kernel
theorem d_M_level_121 : decode c_M_level 121 = .ok (.iload 4, 2) := by decide +kernel
theorem d_M_level_123 : decode c_M_level 123 = .ok (.iadd, 1) := by decide +kernel
theorem d_M_level_124 : decode c_M_level 124 = .ok (.aload_n 0, 1) := by decide +kernel
theorem d_M_level_125 : decode c_M_level 125 = .ok (.getfield 57, 3) := by decide +kernel
theorem d_M_level_128 : decode c_M_level 128 = .ok (.iload 4, 2) := by decide +kernel
theorem d_M_level_130 : decode c_M_level 130 = .ok (.iaload, 1) := by decide +kernel
theorem d_M_level_131 : decode c_M_level 131 = .ok (.iastore, 1) := by decide +kernel
theorem d_M_level_132 : decode c_M_level 132 = .ok (.iinc 4 1, 3) := by decide +kernel
theorem d_M_level_135 : decode c_M_level 135 = .ok (.goto (-39), 3) := by decide +kernel
theorem d_M_level_138 : decode c_M_level 138 = .ok (.iload_n 3, 1) := by decide +kernel
theorem d_M_level_139 : decode c_M_level 139 = .ok (.ireturn, 1) := by decide +kernel
theorem d_M_earth_0 : decode c_M_earth 0 = .ok (.aload_n 0, 1) := by decide +kernel
theorem d_M_earth_1 : decode c_M_earth 1 = .ok (.iload_n 1, 1) := by decide +kernel
theorem d_M_earth_2 : decode c_M_earth 2 = .ok (.invokestatic 209, 3) := by decide +kernel
theorem d_M_earth_5 : decode c_M_earth 5 = .ok (.ifCond .ne 7, 3) := by decide +kernel
theorem d_M_earth_8 : decode c_M_earth 8 = .ok (.iconst 1, 1) := by decide +kernel
theorem d_M_earth_9 : decode c_M_earth 9 = .ok (.goto 30, 3) := by decide +kernel
theorem d_M_earth_12 : decode c_M_earth 12 = .ok (.iload_n 2, 1) := by decide +kernel
theorem d_M_earth_13 : decode c_M_earth 13 = .ok (.iconst 0, 1) := by decide +kernel
theorem d_M_earth_14 : decode c_M_earth 14 = .ok (.bipush 99, 2) := by decide +kernel
theorem d_M_earth_16 : decode c_M_earth 16 = .ok (.invokestatic 94, 3) := by decide +kernel
theorem d_M_earth_19 : decode c_M_earth 19 = .ok (.ifCond .ne 7, 3) := by decide +kernel
theorem d_M_earth_22 : decode c_M_earth 22 = .ok (.iconst 2, 1) := by decide +kernel
theorem d_M_earth_23 : decode c_M_earth 23 = .ok (.goto 16, 3) := by decide +kernel
theorem d_M_earth_26 : decode c_M_earth 26 = .ok (.aload_n 0, 1) := by decide +kernel
theorem d_M_earth_27 : decode c_M_earth 27 = .ok (.iload_n 1, 1) := by decide +kernel
theorem d_M_earth_28 : decode c_M_earth 28 = .ok (.invokevirtual 129, 3) := by decide +kernel
theorem d_M_earth_31 : decode c_M_earth 31 = .ok (.ifCond .ne 7, 3) := by decide +kernel
theorem d_M_earth_34 : decode c_M_earth 34 = .ok (.iconst 3, 1) := by decide +kernel
theorem d_M_earth_35 : decode c_M_earth 35 = .ok (.goto 4, 3) := by decide +kernel
theorem d_M_earth_38 : decode c_M_earth 38 = .ok (.iconst 0, 1) := by decide +kernel
theorem d_M_earth_39 : decode c_M_earth 39 = .ok (.putfield 87, 3) := by decide +kernel
theorem d_M_earth_42 : decode c_M_earth 42 = .ok (.aload_n 0, 1) := by decide +kernel
theorem d_M_earth_43 : decode c_M_earth 43 = .ok (.getfield 87, 3) := by decide +kernel
theorem d_M_earth_46 : decode c_M_earth 46 = .ok (.ifCond .le 5, 3) := by decide +kernel
theorem d_M_earth_49 : decode c_M_earth 49 = .ok (.iconst 0, 1) := by decide +kernel
theorem d_M_earth_50 : decode c_M_earth 50 = .ok (.ireturn, 1) := by decide +kernel
theorem d_M_earth_51 : decode c_M_earth 51 = .ok (.aload_n 0, 1) := by decide +kernel
theorem d_M_earth_52 : decode c_M_earth 52 = .ok (.iload_n 1, 1) := by decide +kernel
theorem d_M_earth_53 : decode c_M_earth 53 = .ok (.iload_n 2, 1) := by decide +kernel
theorem d_M_earth_54 : decode c_M_earth 54 = .ok (.invokevirtual 324, 3) := by decide +kernel
theorem d_M_earth_57 : decode c_M_earth 57 = .ok (.istore_n 3, 1) := by decide +kernel
theorem d_M_earth_58 : decode c_M_earth 58 = .ok (.iload_n 3, 1) := by decide +kernel
theorem d_M_earth_59 : decode c_M_earth 59 = .ok (.ldc 155, 2) := by decide +kernel
theorem d_M_earth_61 : decode c_M_earth 61 = .ok (.if_icmp .ne 5, 3) := by decide +kernel
theorem d_M_earth_64 : decode c_M_earth 64 = .ok (.iconst (-1), 1) := by decide +kernel
theorem d_M_earth_65 : decode c_M_earth 65 = .ok (.ireturn, 1) := by decide +kernel
theorem d_M_earth_66 : decode c_M_earth 66 = .ok (.iload_n 3, 1) := by decide +kernel
theorem d_M_earth_67 : decode c_M_earth 67 = .ok (.ireturn, 1) := by decide +kernel
theorem d_M_ruling_0 : decode c_M_ruling 0 = .ok (.iconst 0, 1) := by decide +kernel
theorem d_M_ruling_1 : decode c_M_ruling 1 = .ok (.istore_n 2, 1) := by decide +kernel
theorem d_M_ruling_2 : decode c_M_ruling 2 = .ok (.bipush 100, 2) := by decide +kernel
theorem d_M_ruling_4 : decode c_M_ruling 4 = .ok (.istore_n 3, 1) := by decide +kernel
theorem d_M_ruling_5 : decode c_M_ruling 5 = .ok (.iload_n 2, 1) := by decide +kernel
theorem d_M_ruling_6 : decode c_M_ruling 6 = .ok (.iload_n 3, 1) := by decide +kernel
theorem d_M_ruling_7 : decode c_M_ruling 7 = .ok (.if_icmp .ge 36, 3) := by decide +kernel
theorem d_M_ruling_10 : decode c_M_ruling 10 = .ok (.iload_n 2, 1) := by decide +kernel
theorem d_M_ruling_11 : decode c_M_ruling 11 = .ok (.iload_n 3, 1) := by decide +kernel
theorem d_M_ruling_12 : decode c_M_ruling 12 = .ok (.iadd, 1) := by decide +kernel
theorem d_M_ruling_13 : decode c_M_ruling 13 = .ok (.iconst 2, 1) := by decide +kernel
theorem d_M_ruling_14 : decode c_M_ruling 14 = .ok (.idiv, 1) := by decide +kernel
theorem d_M_ruling_15 : decode c_M_ruling 15 = .ok (.istore 4, 2) := by decide +kernel
theorem d_M_ruling_17 : decode c_M_ruling 17 = .ok (.aload_n 0, 1) := by decide +kernel
theorem d_M_ruling_18 : decode c_M_ruling 18 = .ok (.iload_n 1, 1) := by decide +kernel
theorem d_M_ruling_19 : decode c_M_ruling 19 = .ok (.iload 4, 2) := by decide +kernel
theorem d_M_ruling_21 : decode c_M_ruling 21 = .ok (.invokevirtual 324, 3) := by decide +kernel
theorem d_M_ruling_24 : decode c_M_ruling 24 = .ok (.ldc 155, 2) := by decide +kernel
theorem d_M_ruling_26 : decode c_M_ruling 26 = .ok (.if_icmp .ge 9, 3) := by decide +kernel
theorem d_M_ruling_29 : decode c_M_ruling 29 = .ok (.iload 4, 2) := by decide +kernel
theorem d_M_ruling_31 : decode c_M_ruling 31 = .ok (.istore_n 3, 1) := by decide +kernel
theorem d_M_ruling_32 : decode c_M_ruling 32 = .ok (.goto 8, 3) := by decide +kernel
theorem d_M_ruling_35 : decode c_M_ruling 35 = .ok (.iload 4, 2) := by decide +kernel
theorem d_M_ruling_37 : decode c_M_ruling 37 = .ok (.iconst 1, 1) := by decide +kernel
theorem d_M_ruling_38 : decode c_M_ruling 38 = .ok (.iadd, 1) := by decide +kernel
theorem d_M_ruling_39 : decode c_M_ruling 39 = .ok (.istore_n 2, 1) := by decide +kernel
theorem d_M_ruling_40 : decode c_M_ruling 40 = .ok (.goto (-35), 3) := by decide +kernel
theorem d_M_ruling_43 : decode c_M_ruling 43 = .ok (.iload_n 2, 1) := by decide +kernel
theorem d_M_ruling_44 : decode c_M_ruling 44 = .ok (.bipush 99, 2) := by decide +kernel
theorem d_M_ruling_46 : decode c_M_ruling 46 = .ok (.if_icmp .le 7, 3) := by decide +kernel
theorem d_M_ruling_49 : decode c_M_ruling 49 = .ok (.iconst (-1), 1) := by decide +kernel
theorem d_M_ruling_50 : decode c_M_ruling 50 = .ok (.goto 4, 3) := by decide +kernel
theorem d_M_ruling_53 : decode c_M_ruling 53 = .ok (.iload_n 2, 1) := by decide +kernel
theorem d_M_ruling_54 : decode c_M_ruling 54 = .ok (.ireturn, 1) := by decide +kernel
theorem d_M_best_0 : decode c_M_best 0 = .ok (.aload_n 0, 1) := by decide +kernel
theorem d_M_best_1 : decode c_M_best 1 = .ok (.aload_n 0, 1) := by decide +kernel
theorem d_M_best_2 : decode c_M_best 2 = .ok (.iload_n 1, 1) := by decide +kernel
theorem d_M_best_3 : decode c_M_best 3 = .ok (.invokevirtual 203, 3) := by decide +kernel
theorem d_M_best_6 : decode c_M_best 6 = .ok (.ifCond .eq 11, 3) := by decide +kernel
theorem d_M_best_9 : decode c_M_best 9 = .ok (.aload_n 0, 1) := by decide +kernel
theorem d_M_best_10 : decode c_M_best 10 = .ok (.iload_n 2, 1) := by decide +kernel
theorem d_M_best_11 : decode c_M_best 11 = .ok (.invokevirtual 203, 3) := by decide +kernel
theorem d_M_best_14 : decode c_M_best 14 = .ok (.ifCond .ne 7, 3) := by decide +kernel
theorem d_M_best_17 : decode c_M_best 17 = .ok (.iconst 1, 1) := by decide +kernel
theorem d_M_best_18 : decode c_M_best 18 = .ok (.goto 26, 3) := by decide +kernel
theorem d_M_best_21 : decode c_M_best 21 = .ok (.iload_n 3, 1) := by decide +kernel
theorem d_M_best_22 : decode c_M_best 22 = .ok (.iconst 0, 1) := by decide +kernel
theorem d_M_best_23 : decode c_M_best 23 = .ok (.iconst 5, 1) := by decide +kernel
theorem d_M_best_24 : decode c_M_best 24 = .ok (.invokestatic 94, 3) := by decide +kernel
theorem d_M_best_27 : decode c_M_best 27 = .ok (.ifCond .ne 7, 3) := by decide +kernel
theorem d_M_best_30 : decode c_M_best 30 = .ok (.iconst 2, 1) := by decide +kernel
theorem d_M_best_31 : decode c_M_best 31 = .ok (.goto 13, 3) := by decide +kernel
theorem d_M_best_34 : decode c_M_best 34 = .ok (.iload_n 1, 1) := by decide +kernel
theorem d_M_best_35 : decode c_M_best 35 = .ok (.iload_n 2, 1) := by decide +kernel
theorem d_M_best_36 : decode c_M_best 36 = .ok (.if_icmp .ne 7, 3) := by decide +kernel
theorem d_M_best_39 : decode c_M_best 39 = .ok (.iconst 3, 1) := by decide +kernel
theorem d_M_best_40 : decode c_M_best 40 = .ok (.goto 4, 3) := by decide +kernel
theorem d_M_best_43 : decode c_M_best 43 = .ok (.iconst 0, 1) := by decide +kernel
theorem d_M_best_44 : decode c_M_best 44 = .ok (.putfield 87, 3) := by decide +kernel
theorem d_M_best_47 : decode c_M_best 47 = .ok (.aload_n 0, 1) := by decide +kernel
theorem d_M_best_48 : decode c_M_best 48 = .ok (.getfield 87, 3) := by decide +kernel
theorem d_M_best_51 : decode c_M_best 51 = .ok (.ifCond .le 5, 3) := by decide +kernel
theorem d_M_best_54 : decode c_M_best 54 = .ok (.iconst 0, 1) := by decide +kernel
theorem d_M_best_55 : decode c_M_best 55 = .ok (.ireturn, 1) := by decide +kernel
theorem d_M_best_56 : decode c_M_best 56 = .ok (.aload_n 0, 1) := by decide +kernel
theorem d_M_best_57 : decode c_M_best 57 = .ok (.iload_n 1, 1) := by decide +kernel
theorem d_M_best_58 : decode c_M_best 58 = .ok (.iload_n 2, 1) := by decide +kernel
theorem d_M_best_59 : decode c_M_best 59 = .ok (.iload_n 3, 1) := by decide +kernel
theorem d_M_best_60 : decode c_M_best 60 = .ok (.invokevirtual 302, 3) := by decide +kernel
theorem d_M_best_63 : decode c_M_best 63 = .ok (.ifCond .eq 11, 3) := by decide +kernel
theorem d_M_best_66 : decode c_M_best 66 = .ok (.aload_n 0, 1) := by decide +kernel
theorem d_M_best_67 : decode c_M_best 67 = .ok (.iload_n 3, 1) := by decide +kernel
theorem d_M_best_68 : decode c_M_best 68 = .ok (.invokevirtual 305, 3) := by decide +kernel
theorem d_M_best_71 : decode c_M_best 71 = .ok (.goto 4, 3) := by decide +kernel
theorem d_M_best_74 : decode c_M_best 74 = .ok (.iconst (-1), 1) := by decide +kernel
theorem d_M_best_75 : decode c_M_best 75 = .ok (.ireturn, 1) := by decide +kernel
theorem d_M_along_0 : decode c_M_along 0 = .ok (.aload_n 0, 1) := by decide +kernel
theorem d_M_along_1 : decode c_M_along 1 = .ok (.aload_n 0, 1) := by decide +kernel
theorem d_M_along_2 : decode c_M_along 2 = .ok (.iload_n 1, 1) := by decide +kernel
theorem d_M_along_3 : decode c_M_along 3 = .ok (.invokevirtual 203, 3) := by decide +kernel
theorem d_M_along_6 : decode c_M_along 6 = .ok (.ifCond .eq 11, 3) := by decide +kernel
theorem d_M_along_9 : decode c_M_along 9 = .ok (.aload_n 0, 1) := by decide +kernel
theorem d_M_along_10 : decode c_M_along 10 = .ok (.iload_n 2, 1) := by decide +kernel
theorem d_M_along_11 : decode c_M_along 11 = .ok (.invokevirtual 203, 3) := by decide +kernel
theorem d_M_along_14 : decode c_M_along 14 = .ok (.ifCond .ne 7, 3) := by decide +kernel
theorem d_M_along_17 : decode c_M_along 17 = .ok (.iconst 1, 1) := by decide +kernel
theorem d_M_along_18 : decode c_M_along 18 = .ok (.goto 26, 3) := by decide +kernel
theorem d_M_along_21 : decode c_M_along 21 = .ok (.iload_n 3, 1) := by decide +kernel
theorem d_M_along_22 : decode c_M_along 22 = .ok (.iconst 0, 1) := by decide +kernel
theorem d_M_along_23 : decode c_M_along 23 = .ok (.iconst 5, 1) := by decide +kernel
theorem d_M_along_24 : decode c_M_along 24 = .ok (.invokestatic 94, 3) := by decide +kernel
theorem d_M_along_27 : decode c_M_along 27 = .ok (.ifCond .ne 7, 3) := by decide +kernel
theorem d_M_along_30 : decode c_M_along 30 = .ok (.iconst 2, 1) := by decide +kernel
theorem d_M_along_31 : decode c_M_along 31 = .ok (.goto 13, 3) := by decide +kernel
theorem d_M_along_34 : decode c_M_along 34 = .ok (.iload_n 1, 1) := by decide +kernel
theorem d_M_along_35 : decode c_M_along 35 = .ok (.iload_n 2, 1) := by decide +kernel
theorem d_M_along_36 : decode c_M_along 36 = .ok (.if_icmp .ne 7, 3) := by decide +kernel
theorem d_M_along_39 : decode c_M_along 39 = .ok (.iconst 3, 1) := by decide +kernel
theorem d_M_along_40 : decode c_M_along 40 = .ok (.goto 4, 3) := by decide +kernel
theorem d_M_along_43 : decode c_M_along 43 = .ok (.iconst 0, 1) := by decide +kernel
theorem d_M_along_44 : decode c_M_along 44 = .ok (.putfield 87, 3) := by decide +kernel
theorem d_M_along_47 : decode c_M_along 47 = .ok (.aload_n 0, 1) := by decide +kernel
theorem d_M_along_48 : decode c_M_along 48 = .ok (.getfield 87, 3) := by decide +kernel
theorem d_M_along_51 : decode c_M_along 51 = .ok (.ifCond .le 5, 3) := by decide +kernel
theorem d_M_along_54 : decode c_M_along 54 = .ok (.iconst 0, 1) := by decide +kernel
theorem d_M_along_55 : decode c_M_along 55 = .ok (.ireturn, 1) := by decide +kernel
theorem d_M_along_56 : decode c_M_along 56 = .ok (.aload_n 0, 1) := by decide +kernel
theorem d_M_along_57 : decode c_M_along 57 = .ok (.iload_n 1, 1) := by decide +kernel
theorem d_M_along_58 : decode c_M_along 58 = .ok (.iload_n 2, 1) := by decide +kernel
theorem d_M_along_59 : decode c_M_along 59 = .ok (.iload_n 3, 1) := by decide +kernel
theorem d_M_along_60 : decode c_M_along 60 = .ok (.invokevirtual 302, 3) := by decide +kernel
theorem d_M_along_63 : decode c_M_along 63 = .ok (.ifCond .eq 28, 3) := by decide +kernel
theorem d_M_along_66 : decode c_M_along 66 = .ok (.iload 4, 2) := by decide +kernel
theorem d_M_along_68 : decode c_M_along 68 = .ok (.iconst 0, 1) := by decide +kernel
theorem d_M_along_69 : decode c_M_along 69 = .ok (.aload_n 0, 1) := by decide +kernel
theorem d_M_along_70 : decode c_M_along 70 = .ok (.getfield 172, 3) := by decide +kernel
theorem d_M_along_73 : decode c_M_along 73 = .ok (.iconst 1, 1) := by decide +kernel
theorem d_M_along_74 : decode c_M_along 74 = .ok (.isub, 1) := by decide +kernel
theorem d_M_along_75 : decode c_M_along 75 = .ok (.invokestatic 94, 3) := by decide +kernel
theorem d_M_along_78 : decode c_M_along 78 = .ok (.ifCond .eq 13, 3) := by decide +kernel
theorem d_M_along_81 : decode c_M_along 81 = .ok (.aload_n 0, 1) := by decide +kernel
theorem d_M_along_82 : decode c_M_along 82 = .ok (.getfield 50, 3) := by decide +kernel
theorem d_M_along_85 : decode c_M_along 85 = .ok (.iload 4, 2) := by decide +kernel
theorem d_M_along_87 : decode c_M_along 87 = .ok (.iaload, 1) := by decide +kernel
theorem d_M_along_88 : decode c_M_along 88 = .ok (.goto 4, 3) := by decide +kernel
theorem d_M_along_91 : decode c_M_along 91 = .ok (.iconst (-1), 1) := by decide +kernel
theorem d_M_along_92 : decode c_M_along 92 = .ok (.ireturn, 1) := by decide +kernel
theorem d_M_reach_0 : decode c_M_reach 0 = .ok (.aload_n 0, 1) := by decide +kernel
theorem d_M_reach_1 : decode c_M_reach 1 = .ok (.aload_n 0, 1) := by decide +kernel
theorem d_M_reach_2 : decode c_M_reach 2 = .ok (.iload_n 1, 1) := by decide +kernel
theorem d_M_reach_3 : decode c_M_reach 3 = .ok (.invokevirtual 203, 3) := by decide +kernel
theorem d_M_reach_6 : decode c_M_reach 6 = .ok (.ifCond .eq 7, 3) := by decide +kernel
theorem d_M_reach_9 : decode c_M_reach 9 = .ok (.iconst 0, 1) := by decide +kernel
theorem d_M_reach_10 : decode c_M_reach 10 = .ok (.goto 4, 3) := by decide +kernel
theorem d_M_reach_13 : decode c_M_reach 13 = .ok (.iconst 1, 1) := by decide +kernel
theorem d_M_reach_14 : decode c_M_reach 14 = .ok (.putfield 87, 3) := by decide +kernel
theorem d_M_reach_17 : decode c_M_reach 17 = .ok (.aload_n 0, 1) := by decide +kernel
theorem d_M_reach_18 : decode c_M_reach 18 = .ok (.getfield 87, 3) := by decide +kernel
theorem d_M_reach_21 : decode c_M_reach 21 = .ok (.ifCond .le 5, 3) := by decide +kernel
theorem d_M_reach_24 : decode c_M_reach 24 = .ok (.iconst 0, 1) := by decide +kernel
theorem d_M_reach_25 : decode c_M_reach 25 = .ok (.ireturn, 1) := by decide +kernel
theorem d_M_reach_26 : decode c_M_reach 26 = .ok (.aload_n 0, 1) := by decide +kernel
theorem d_M_reach_27 : decode c_M_reach 27 = .ok (.iload_n 1, 1) := by decide +kernel
theorem d_M_reach_28 : decode c_M_reach 28 = .ok (.invokevirtual 187, 3) := by decide +kernel
theorem d_M_reach_31 : decode c_M_reach 31 = .ok (.iconst 0, 1) := by decide +kernel
theorem d_M_reach_32 : decode c_M_reach 32 = .ok (.istore_n 2, 1) := by decide +kernel
theorem d_M_reach_33 : decode c_M_reach 33 = .ok (.iconst 0, 1) := by decide +kernel
theorem d_M_reach_34 : decode c_M_reach 34 = .ok (.istore_n 3, 1) := by decide +kernel
theorem d_M_reach_35 : decode c_M_reach 35 = .ok (.iload_n 3, 1) := by decide +kernel
theorem d_M_reach_36 : decode c_M_reach 36 = .ok (.aload_n 0, 1) := by decide +kernel
theorem d_M_reach_37 : decode c_M_reach 37 = .ok (.invokevirtual 90, 3) := by decide +kernel
theorem d_M_reach_40 : decode c_M_reach 40 = .ok (.if_icmp .ge 32, 3) := by decide +kernel
theorem d_M_reach_43 : decode c_M_reach 43 = .ok (.iload_n 2, 1) := by decide +kernel
theorem d_M_reach_44 : decode c_M_reach 44 = .ok (.iload_n 3, 1) := by decide +kernel
theorem d_M_reach_45 : decode c_M_reach 45 = .ok (.iload_n 1, 1) := by decide +kernel
theorem d_M_reach_46 : decode c_M_reach 46 = .ok (.if_icmp .eq 17, 3) := by decide +kernel
theorem d_M_reach_49 : decode c_M_reach 49 = .ok (.aload_n 0, 1) := by decide +kernel
theorem d_M_reach_50 : decode c_M_reach 50 = .ok (.iload_n 3, 1) := by decide +kernel
theorem d_M_reach_51 : decode c_M_reach 51 = .ok (.invokevirtual 191, 3) := by decide +kernel
theorem d_M_reach_54 : decode c_M_reach 54 = .ok (.ldc 155, 2) := by decide +kernel
theorem d_M_reach_56 : decode c_M_reach 56 = .ok (.if_icmp .ge 7, 3) := by decide +kernel
theorem d_M_reach_59 : decode c_M_reach 59 = .ok (.iconst 1, 1) := by decide +kernel
theorem d_M_reach_60 : decode c_M_reach 60 = .ok (.goto 4, 3) := by decide +kernel
theorem d_M_reach_63 : decode c_M_reach 63 = .ok (.iconst 0, 1) := by decide +kernel
theorem d_M_reach_64 : decode c_M_reach 64 = .ok (.iadd, 1) := by decide +kernel
theorem d_M_reach_65 : decode c_M_reach 65 = .ok (.istore_n 2, 1) := by decide +kernel
theorem d_M_reach_66 : decode c_M_reach 66 = .ok (.iinc 3 1, 3) := by decide +kernel
theorem d_M_reach_69 : decode c_M_reach 69 = .ok (.goto (-34), 3) := by decide +kernel
theorem d_M_reach_72 : decode c_M_reach 72 = .ok (.iload_n 2, 1) := by decide +kernel
theorem d_M_reach_73 : decode c_M_reach 73 = .ok (.ireturn, 1) := by decide +kernel
theorem d_M_grade_0 : decode c_M_grade 0 = .ok (.aload_n 0, 1) := by decide +kernel
theorem d_M_grade_1 : decode c_M_grade 1 = .ok (.aload_n 0, 1) := by decide +kernel
theorem d_M_grade_2 : decode c_M_grade 2 = .ok (.iload_n 1, 1) := by decide +kernel
theorem d_M_grade_3 : decode c_M_grade 3 = .ok (.iload_n 2, 1) := by decide +kernel
theorem d_M_grade_4 : decode c_M_grade 4 = .ok (.invokevirtual 299, 3) := by decide +kernel
theorem d_M_grade_7 : decode c_M_grade 7 = .ok (.putfield 87, 3) := by decide +kernel
theorem d_M_grade_10 : decode c_M_grade 10 = .ok (.aload_n 0, 1) := by decide +kernel
theorem d_M_grade_11 : decode c_M_grade 11 = .ok (.getfield 87, 3) := by decide +kernel
theorem d_M_grade_14 : decode c_M_grade 14 = .ok (.ifCond .le 5, 3) := by decide +kernel
theorem d_M_grade_17 : decode c_M_grade 17 = .ok (.iconst 0, 1) := by decide +kernel
theorem d_M_grade_18 : decode c_M_grade 18 = .ok (.ireturn, 1) := by decide +kernel
theorem d_M_grade_19 : decode c_M_grade 19 = .ok (.aload_n 0, 1) := by decide +kernel
theorem d_M_grade_20 : decode c_M_grade 20 = .ok (.getfield 7, 3) := by decide +kernel
theorem d_M_grade_23 : decode c_M_grade 23 = .ok (.iconst 2, 1) := by decide +kernel
theorem d_M_grade_24 : decode c_M_grade 24 = .ok (.iaload, 1) := by decide +kernel
theorem d_M_grade_25 : decode c_M_grade 25 = .ok (.istore_n 3, 1) := by decide +kernel
theorem d_M_grade_26 : decode c_M_grade 26 = .ok (.iconst 1, 1) := by decide +kernel
theorem d_M_grade_27 : decode c_M_grade 27 = .ok (.istore 4, 2) := by decide +kernel
theorem d_M_grade_29 : decode c_M_grade 29 = .ok (.iload 4, 2) := by decide +kernel
theorem d_M_grade_31 : decode c_M_grade 31 = .ok (.bipush 99, 2) := by decide +kernel
theorem d_M_grade_33 : decode c_M_grade 33 = .ok (.if_icmp .gt 29, 3) := by decide +kernel
theorem d_M_grade_36 : decode c_M_grade 36 = .ok (.aload_n 0, 1) := by decide +kernel
theorem d_M_grade_37 : decode c_M_grade 37 = .ok (.getfield 7, 3) := by decide +kernel
theorem d_M_grade_40 : decode c_M_grade 40 = .ok (.iconst 2, 1) := by decide +kernel
theorem d_M_grade_41 : decode c_M_grade 41 = .ok (.iload 4, 2) := by decide +kernel
theorem d_M_grade_43 : decode c_M_grade 43 = .ok (.iastore, 1) := by decide +kernel
theorem d_M_grade_44 : decode c_M_grade 44 = .ok (.aload_n 0, 1) := by decide +kernel
theorem d_M_grade_45 : decode c_M_grade 45 = .ok (.iload_n 1, 1) := by decide +kernel
theorem d_M_grade_46 : decode c_M_grade 46 = .ok (.iload_n 2, 1) := by decide +kernel
theorem d_M_grade_47 : decode c_M_grade 47 = .ok (.invokevirtual 331, 3) := by decide +kernel
theorem d_M_grade_50 : decode c_M_grade 50 = .ok (.ifCond .eq 6, 3) := by decide +kernel
theorem d_M_grade_53 : decode c_M_grade 53 = .ok (.goto 9, 3) := by decide +kernel
theorem d_M_grade_56 : decode c_M_grade 56 = .ok (.iinc 4 1, 3) := by decide +kernel
theorem d_M_grade_59 : decode c_M_grade 59 = .ok (.goto (-30), 3) := by decide +kernel
theorem d_M_grade_62 : decode c_M_grade 62 = .ok (.aload_n 0, 1) := by decide +kernel
theorem d_M_grade_63 : decode c_M_grade 63 = .ok (.getfield 7, 3) := by decide +kernel
theorem d_M_grade_66 : decode c_M_grade 66 = .ok (.iconst 2, 1) := by decide +kernel
theorem d_M_grade_67 : decode c_M_grade 67 = .ok (.iload_n 3, 1) := by decide +kernel
theorem d_M_grade_68 : decode c_M_grade 68 = .ok (.iastore, 1) := by decide +kernel
theorem d_M_grade_69 : decode c_M_grade 69 = .ok (.iload 4, 2) := by decide +kernel
theorem d_M_grade_71 : decode c_M_grade 71 = .ok (.bipush 99, 2) := by decide +kernel
theorem d_M_grade_73 : decode c_M_grade 73 = .ok (.if_icmp .le 7, 3) := by decide +kernel
theorem d_M_grade_76 : decode c_M_grade 76 = .ok (.iconst (-1), 1) := by decide +kernel
theorem d_M_grade_77 : decode c_M_grade 77 = .ok (.goto 5, 3) := by decide +kernel
theorem d_M_grade_80 : decode c_M_grade 80 = .ok (.iload 4, 2) := by decide +kernel
theorem d_M_grade_82 : decode c_M_grade 82 = .ok (.ireturn, 1) := by decide +kernel
theorem d_M_gate_0 : decode c_M_gate 0 = .ok (.aload_n 0, 1) := by decide +kernel
theorem d_M_gate_1 : decode c_M_gate 1 = .ok (.aload_n 0, 1) := by decide +kernel
theorem d_M_gate_2 : decode c_M_gate 2 = .ok (.iload_n 1, 1) := by decide +kernel
theorem d_M_gate_3 : decode c_M_gate 3 = .ok (.iload_n 2, 1) := by decide +kernel
theorem d_M_gate_4 : decode c_M_gate 4 = .ok (.invokevirtual 299, 3) := by decide +kernel
theorem d_M_gate_7 : decode c_M_gate 7 = .ok (.putfield 87, 3) := by decide +kernel
theorem d_M_gate_10 : decode c_M_gate 10 = .ok (.aload_n 0, 1) := by decide +kernel
theorem d_M_gate_11 : decode c_M_gate 11 = .ok (.getfield 87, 3) := by decide +kernel
theorem d_M_gate_14 : decode c_M_gate 14 = .ok (.ifCond .le 5, 3) := by decide +kernel
theorem d_M_gate_17 : decode c_M_gate 17 = .ok (.iconst 0, 1) := by decide +kernel
theorem d_M_gate_18 : decode c_M_gate 18 = .ok (.ireturn, 1) := by decide +kernel
theorem d_M_gate_19 : decode c_M_gate 19 = .ok (.aload_n 0, 1) := by decide +kernel
theorem d_M_gate_20 : decode c_M_gate 20 = .ok (.iload_n 1, 1) := by decide +kernel
theorem d_M_gate_21 : decode c_M_gate 21 = .ok (.iload_n 2, 1) := by decide +kernel
theorem d_M_gate_22 : decode c_M_gate 22 = .ok (.invokevirtual 331, 3) := by decide +kernel
theorem d_M_gate_25 : decode c_M_gate 25 = .ok (.ifCond .ne 5, 3) := by decide +kernel
theorem d_M_gate_28 : decode c_M_gate 28 = .ok (.iconst (-1), 1) := by decide +kernel
theorem d_M_gate_29 : decode c_M_gate 29 = .ok (.ireturn, 1) := by decide +kernel
theorem d_M_gate_30 : decode c_M_gate 30 = .ok (.iconst (-1), 1) := by decide +kernel
theorem d_M_gate_31 : decode c_M_gate 31 = .ok (.istore_n 3, 1) := by decide +kernel
theorem d_M_gate_32 : decode c_M_gate 32 = .ok (.iconst 0, 1) := by decide +kernel
theorem d_M_gate_33 : decode c_M_gate 33 = .ok (.istore 4, 2) := by decide +kernel
theorem d_M_gate_35 : decode c_M_gate 35 = .ok (.iload 4, 2) := by decide +kernel
theorem d_M_gate_37 : decode c_M_gate 37 = .ok (.aload_n 0, 1) := by decide +kernel
theorem d_M_gate_38 : decode c_M_gate 38 = .ok (.invokevirtual 90, 3) := by decide +kernel
theorem d_M_gate_41 : decode c_M_gate 41 = .ok (.if_icmp .ge 72, 3) := by decide +kernel
theorem d_M_gate_44 : decode c_M_gate 44 = .ok (.iload_n 3, 1) := by decide +kernel
theorem d_M_gate_45 : decode c_M_gate 45 = .ok (.iconst (-1), 1) := by decide +kernel
theorem d_M_gate_46 : decode c_M_gate 46 = .ok (.if_icmp .ne 67, 3) := by decide +kernel
theorem d_M_gate_49 : decode c_M_gate 49 = .ok (.iload 4, 2) := by decide +kernel
theorem d_M_gate_51 : decode c_M_gate 51 = .ok (.iload_n 1, 1) := by decide +kernel
theorem d_M_gate_52 : decode c_M_gate 52 = .ok (.if_icmp .eq 55, 3) := by decide +kernel
theorem d_M_gate_55 : decode c_M_gate 55 = .ok (.iload 4, 2) := by decide +kernel
theorem d_M_gate_57 : decode c_M_gate 57 = .ok (.iload_n 2, 1) := by decide +kernel
theorem d_M_gate_58 : decode c_M_gate 58 = .ok (.if_icmp .eq 49, 3) := by decide +kernel
theorem d_M_gate_61 : decode c_M_gate 61 = .ok (.aload_n 0, 1) := by decide +kernel
theorem d_M_gate_62 : decode c_M_gate 62 = .ok (.iload 4, 2) := by decide +kernel
theorem d_M_gate_64 : decode c_M_gate 64 = .ok (.invokevirtual 112, 3) := by decide +kernel
theorem d_M_gate_67 : decode c_M_gate 67 = .ok (.ifCond .eq 6, 3) := by decide +kernel
theorem d_M_gate_70 : decode c_M_gate 70 = .ok (.goto 37, 3) := by decide +kernel
theorem d_M_gate_73 : decode c_M_gate 73 = .ok (.aload_n 0, 1) := by decide +kernel
theorem d_M_gate_74 : decode c_M_gate 74 = .ok (.getfield 7, 3) := by decide +kernel
theorem d_M_gate_77 : decode c_M_gate 77 = .ok (.bipush 94, 2) := by decide +kernel
theorem d_M_gate_79 : decode c_M_gate 79 = .ok (.iload 4, 2) := by decide +kernel
theorem d_M_gate_81 : decode c_M_gate 81 = .ok (.iadd, 1) := by decide +kernel
theorem d_M_gate_82 : decode c_M_gate 82 = .ok (.iconst 1, 1) := by decide +kernel
theorem d_M_gate_83 : decode c_M_gate 83 = .ok (.iastore, 1) := by decide +kernel
theorem d_M_gate_84 : decode c_M_gate 84 = .ok (.aload_n 0, 1) := by decide +kernel
theorem d_M_gate_85 : decode c_M_gate 85 = .ok (.iload_n 1, 1) := by decide +kernel
theorem d_M_gate_86 : decode c_M_gate 86 = .ok (.iload_n 2, 1) := by decide +kernel
theorem d_M_gate_87 : decode c_M_gate 87 = .ok (.invokevirtual 331, 3) := by decide +kernel
theorem d_M_gate_90 : decode c_M_gate 90 = .ok (.ifCond .ne 6, 3) := by decide +kernel
theorem d_M_gate_93 : decode c_M_gate 93 = .ok (.iload 4, 2) := by decide +kernel
theorem d_M_gate_95 : decode c_M_gate 95 = .ok (.istore_n 3, 1) := by decide +kernel
theorem d_M_gate_96 : decode c_M_gate 96 = .ok (.aload_n 0, 1) := by decide +kernel
theorem d_M_gate_97 : decode c_M_gate 97 = .ok (.getfield 7, 3) := by decide +kernel
theorem d_M_gate_100 : decode c_M_gate 100 = .ok (.bipush 94, 2) := by decide +kernel
theorem d_M_gate_102 : decode c_M_gate 102 = .ok (.iload 4, 2) := by decide +kernel
theorem d_M_gate_104 : decode c_M_gate 104 = .ok (.iadd, 1) := by decide +kernel
theorem d_M_gate_105 : decode c_M_gate 105 = .ok (.iconst 0, 1) := by decide +kernel
theorem d_M_gate_106 : decode c_M_gate 106 = .ok (.iastore, 1) := by decide +kernel
theorem d_M_gate_107 : decode c_M_gate 107 = .ok (.iinc 4 1, 3) := by decide +kernel
theorem d_M_gate_110 : decode c_M_gate 110 = .ok (.goto (-75), 3) := by decide +kernel
theorem d_M_gate_113 : decode c_M_gate 113 = .ok (.iload_n 3, 1) := by decide +kernel
theorem d_M_gate_114 : decode c_M_gate 114 = .ok (.ireturn, 1) := by decide +kernel
theorem d_M_isBorne_0 : decode c_M_isBorne 0 = .ok (.iload_n 3, 1) := by decide +kernel
theorem d_M_isBorne_1 : decode c_M_isBorne 1 = .ok (.aload_n 0, 1) := by decide +kernel
theorem d_M_isBorne_2 : decode c_M_isBorne 2 = .ok (.getfield 47, 3) := by decide +kernel
theorem d_M_isBorne_5 : decode c_M_isBorne 5 = .ok (.iconst 4, 1) := by decide +kernel
theorem d_M_isBorne_6 : decode c_M_isBorne 6 = .ok (.iload_n 1, 1) := by decide +kernel
theorem d_M_isBorne_7 : decode c_M_isBorne 7 = .ok (.imul, 1) := by decide +kernel
theorem d_M_isBorne_8 : decode c_M_isBorne 8 = .ok (.iload_n 2, 1) := by decide +kernel
theorem d_M_isBorne_9 : decode c_M_isBorne 9 = .ok (.iadd, 1) := by decide +kernel
theorem d_M_isBorne_10 : decode c_M_isBorne 10 = .ok (.iaload, 1) := by decide +kernel
theorem d_M_isBorne_11 : decode c_M_isBorne 11 = .ok (.if_icmp .lt 5, 3) := by decide +kernel
theorem d_M_isBorne_14 : decode c_M_isBorne 14 = .ok (.iconst 0, 1) := by decide +kernel
theorem d_M_isBorne_15 : decode c_M_isBorne 15 = .ok (.ireturn, 1) := by decide +kernel
theorem d_M_isBorne_16 : decode c_M_isBorne 16 = .ok (.aload_n 0, 1) := by decide +kernel
theorem d_M_isBorne_17 : decode c_M_isBorne 17 = .ok (.getfield 47, 3) := by decide +kernel
theorem d_M_isBorne_20 : decode c_M_isBorne 20 = .ok (.iconst 4, 1) := by decide +kernel
theorem d_M_isBorne_21 : decode c_M_isBorne 21 = .ok (.iload_n 1, 1) := by decide +kernel
theorem d_M_isBorne_22 : decode c_M_isBorne 22 = .ok (.imul, 1) := by decide +kernel
theorem d_M_isBorne_23 : decode c_M_isBorne 23 = .ok (.iload_n 2, 1) := by decide +kernel
theorem d_M_isBorne_24 : decode c_M_isBorne 24 = .ok (.iadd, 1) := by decide +kernel
theorem d_M_isBorne_25 : decode c_M_isBorne 25 = .ok (.iload_n 3, 1) := by decide +kernel
theorem d_M_isBorne_26 : decode c_M_isBorne 26 = .ok (.iastore, 1) := by decide +kernel
theorem d_M_isBorne_27 : decode c_M_isBorne 27 = .ok (.iconst 1, 1) := by decide +kernel
theorem d_M_isBorne_28 : decode c_M_isBorne 28 = .ok (.ireturn, 1) := by decide +kernel
theorem d_M_bores_0 : decode c_M_bores 0 = .ok (.iconst 0, 1) := by decide +kernel
theorem d_M_bores_1 : decode c_M_bores 1 = .ok (.istore 6, 2) := by decide +kernel
theorem d_M_bores_3 : decode c_M_bores 3 = .ok (.iconst 0, 1) := by decide +kernel
theorem d_M_bores_4 : decode c_M_bores 4 = .ok (.istore 7, 2) := by decide +kernel
theorem d_M_bores_6 : decode c_M_bores 6 = .ok (.iload 7, 2) := by decide +kernel
theorem d_M_bores_8 : decode c_M_bores 8 = .ok (.bipush 8, 2) := by decide +kernel
theorem d_M_bores_10 : decode c_M_bores 10 = .ok (.if_icmp .ge 151, 3) := by decide +kernel
theorem d_M_bores_13 : decode c_M_bores 13 = .ok (.aload_n 0, 1) := by decide +kernel
theorem d_M_bores_14 : decode c_M_bores 14 = .ok (.iload_n 1, 1) := by decide +kernel
theorem d_M_bores_15 : decode c_M_bores 15 = .ok (.iload 7, 2) := by decide +kernel
theorem d_M_bores_17 : decode c_M_bores 17 = .ok (.invokevirtual 116, 3) := by decide +kernel
theorem d_M_bores_20 : decode c_M_bores 20 = .ok (.ifCond .eq 135, 3) := by decide +kernel
theorem d_M_bores_23 : decode c_M_bores 23 = .ok (.iload_n 2, 1) := by decide +kernel
theorem d_M_bores_24 : decode c_M_bores 24 = .ok (.iconst (-1), 1) := by decide +kernel
theorem d_M_bores_25 : decode c_M_bores 25 = .ok (.if_icmp .eq 17, 3) := by decide +kernel
theorem d_M_bores_28 : decode c_M_bores 28 = .ok (.aload_n 0, 1) := by decide +kernel
theorem d_M_bores_29 : decode c_M_bores 29 = .ok (.iload_n 1, 1) := by decide +kernel
theorem d_M_bores_30 : decode c_M_bores 30 = .ok (.iload_n 2, 1) := by decide +kernel
theorem d_M_bores_31 : decode c_M_bores 31 = .ok (.iload 7, 2) := by decide +kernel
theorem d_M_bores_33 : decode c_M_bores 33 = .ok (.invokevirtual 152, 3) := by decide +kernel
theorem d_M_bores_36 : decode c_M_bores 36 = .ok (.ifCond .ne 6, 3) := by decide +kernel
theorem d_M_bores_39 : decode c_M_bores 39 = .ok (.goto 116, 3) := by decide +kernel
theorem d_M_bores_42 : decode c_M_bores 42 = .ok (.iload_n 3, 1) := by decide +kernel
theorem d_M_bores_43 : decode c_M_bores 43 = .ok (.aload_n 0, 1) := by decide +kernel
theorem d_M_bores_44 : decode c_M_bores 44 = .ok (.iload_n 1, 1) := by decide +kernel
theorem d_M_bores_45 : decode c_M_bores 45 = .ok (.iload 7, 2) := by decide +kernel
theorem d_M_bores_47 : decode c_M_bores 47 = .ok (.invokevirtual 120, 3) := by decide +kernel
theorem d_M_bores_50 : decode c_M_bores 50 = .ok (.ifCond .eq 7, 3) := by decide +kernel
theorem d_M_bores_53 : decode c_M_bores 53 = .ok (.iconst 1, 1) := by decide +kernel
theorem d_M_bores_54 : decode c_M_bores 54 = .ok (.goto 4, 3) := by decide +kernel
theorem d_M_bores_57 : decode c_M_bores 57 = .ok (.iconst 0, 1) := by decide +kernel
theorem d_M_bores_58 : decode c_M_bores 58 = .ok (.iadd, 1) := by decide +kernel
theorem d_M_bores_59 : decode c_M_bores 59 = .ok (.istore 8, 2) := by decide +kernel
theorem d_M_bores_61 : decode c_M_bores 61 = .ok (.iload 8, 2) := by decide +kernel
theorem d_M_bores_63 : decode c_M_bores 63 = .ok (.iload 5, 2) := by decide +kernel
theorem d_M_bores_65 : decode c_M_bores 65 = .ok (.if_icmp .le 6, 3) := by decide +kernel
theorem d_M_bores_68 : decode c_M_bores 68 = .ok (.goto 87, 3) := by decide +kernel
theorem d_M_bores_71 : decode c_M_bores 71 = .ok (.iload 4, 2) := by decide +kernel
theorem d_M_bores_73 : decode c_M_bores 73 = .ok (.aload_n 0, 1) := by decide +kernel
theorem d_M_bores_74 : decode c_M_bores 74 = .ok (.iload_n 1, 1) := by decide +kernel
theorem d_M_bores_75 : decode c_M_bores 75 = .ok (.iload 7, 2) := by decide +kernel
theorem d_M_bores_77 : decode c_M_bores 77 = .ok (.iconst 0, 1) := by decide +kernel
theorem d_M_bores_78 : decode c_M_bores 78 = .ok (.invokevirtual 139, 3) := by decide +kernel
theorem d_M_bores_81 : decode c_M_bores 81 = .ok (.iadd, 1) := by decide +kernel
theorem d_M_bores_82 : decode c_M_bores 82 = .ok (.iload_n 2, 1) := by decide +kernel
theorem d_M_bores_83 : decode c_M_bores 83 = .ok (.iconst (-1), 1) := by decide +kernel
theorem d_M_bores_84 : decode c_M_bores 84 = .ok (.if_icmp .ne 7, 3) := by decide +kernel
theorem d_M_bores_87 : decode c_M_bores 87 = .ok (.iconst 0, 1) := by decide +kernel
theorem d_M_bores_88 : decode c_M_bores 88 = .ok (.goto 10, 3) := by decide +kernel
theorem d_M_bores_91 : decode c_M_bores 91 = .ok (.aload_n 0, 1) := by decide +kernel
theorem d_M_bores_92 : decode c_M_bores 92 = .ok (.iload_n 2, 1) := by decide +kernel
theorem d_M_bores_93 : decode c_M_bores 93 = .ok (.iload 7, 2) := by decide +kernel
theorem d_M_bores_95 : decode c_M_bores 95 = .ok (.invokevirtual 146, 3) := by decide +kernel
theorem d_M_bores_98 : decode c_M_bores 98 = .ok (.iadd, 1) := by decide +kernel
theorem d_M_bores_99 : decode c_M_bores 99 = .ok (.iload 8, 2) := by decide +kernel
theorem d_M_bores_101 : decode c_M_bores 101 = .ok (.iload_n 3, 1) := by decide +kernel
theorem d_M_bores_102 : decode c_M_bores 102 = .ok (.if_icmp .le 13, 3) := by decide +kernel
theorem d_M_bores_105 : decode c_M_bores 105 = .ok (.aload_n 0, 1) := by decide +kernel
theorem d_M_bores_106 : decode c_M_bores 106 = .ok (.getfield 7, 3) := by decide +kernel
theorem d_M_bores_109 : decode c_M_bores 109 = .ok (.bipush 8, 2) := by decide +kernel
theorem d_M_bores_111 : decode c_M_bores 111 = .ok (.iaload, 1) := by decide +kernel
theorem d_M_bores_112 : decode c_M_bores 112 = .ok (.goto 4, 3) := by decide +kernel
theorem d_M_bores_115 : decode c_M_bores 115 = .ok (.iconst 0, 1) := by decide +kernel
theorem d_M_bores_116 : decode c_M_bores 116 = .ok (.iadd, 1) := by decide +kernel
theorem d_M_bores_117 : decode c_M_bores 117 = .ok (.istore 9, 2) := by decide +kernel
theorem d_M_bores_119 : decode c_M_bores 119 = .ok (.aload_n 0, 1) := by decide +kernel
theorem d_M_bores_120 : decode c_M_bores 120 = .ok (.bipush 8, 2) := by decide +kernel
theorem d_M_bores_122 : decode c_M_bores 122 = .ok (.aload_n 0, 1) := by decide +kernel
theorem d_M_bores_123 : decode c_M_bores 123 = .ok (.iload_n 1, 1) := by decide +kernel
theorem d_M_bores_124 : decode c_M_bores 124 = .ok (.iload 7, 2) := by decide +kernel
theorem d_M_bores_126 : decode c_M_bores 126 = .ok (.invokevirtual 102, 3) := by decide +kernel
theorem d_M_bores_129 : decode c_M_bores 129 = .ok (.imul, 1) := by decide +kernel
theorem d_M_bores_130 : decode c_M_bores 130 = .ok (.iload 7, 2) := by decide +kernel
theorem d_M_bores_132 : decode c_M_bores 132 = .ok (.iadd, 1) := by decide +kernel
theorem d_M_bores_133 : decode c_M_bores 133 = .ok (.iload 8, 2) := by decide +kernel
theorem d_M_bores_135 : decode c_M_bores 135 = .ok (.iload 9, 2) := by decide +kernel
theorem d_M_bores_137 : decode c_M_bores 137 = .ok (.invokevirtual 334, 3) := by decide +kernel
theorem d_M_bores_140 : decode c_M_bores 140 = .ok (.ifCond .ne 8, 3) := by decide +kernel
theorem d_M_bores_143 : decode c_M_bores 143 = .ok (.iload 6, 2) := by decide +kernel
theorem d_M_bores_145 : decode c_M_bores 145 = .ok (.ifCond .eq 7, 3) := by decide +kernel
theorem d_M_bores_148 : decode c_M_bores 148 = .ok (.iconst 1, 1) := by decide +kernel
theorem d_M_bores_149 : decode c_M_bores 149 = .ok (.goto 4, 3) := by decide +kernel
theorem d_M_bores_152 : decode c_M_bores 152 = .ok (.iconst 0, 1) := by decide +kernel
theorem d_M_bores_153 : decode c_M_bores 153 = .ok (.istore 6, 2) := by decide +kernel
theorem d_M_bores_155 : decode c_M_bores 155 = .ok (.iinc 7 1, 3) := by decide +kernel
theorem d_M_bores_158 : decode c_M_bores 158 = .ok (.goto (-152), 3) := by decide +kernel
theorem d_M_bores_161 : decode c_M_bores 161 = .ok (.iload 6, 2) := by decide +kernel
theorem d_M_bores_163 : decode c_M_bores 163 = .ok (.ireturn, 1) := by decide +kernel
theorem d_M_bored_0 : decode c_M_bored 0 = .ok (.aload_n 0, 1) := by decide +kernel
theorem d_M_bored_1 : decode c_M_bored 1 = .ok (.aload_n 0, 1) := by decide +kernel
theorem d_M_bored_2 : decode c_M_bored 2 = .ok (.iload_n 1, 1) := by decide +kernel
theorem d_M_bored_3 : decode c_M_bored 3 = .ok (.iload_n 2, 1) := by decide +kernel
theorem d_M_bored_4 : decode c_M_bored 4 = .ok (.invokevirtual 299, 3) := by decide +kernel
theorem d_M_bored_7 : decode c_M_bored 7 = .ok (.putfield 87, 3) := by decide +kernel
theorem d_M_bored_10 : decode c_M_bored 10 = .ok (.aload_n 0, 1) := by decide +kernel
theorem d_M_bored_11 : decode c_M_bored 11 = .ok (.getfield 87, 3) := by decide +kernel
theorem d_M_bored_14 : decode c_M_bored 14 = .ok (.ifCond .ne 17, 3) := by decide +kernel
theorem d_M_bored_17 : decode c_M_bored 17 = .ok (.iload_n 3, 1) := by decide +kernel
theorem d_M_bored_18 : decode c_M_bored 18 = .ok (.iconst 0, 1) := by decide +kernel
theorem d_M_bored_19 : decode c_M_bored 19 = .ok (.iconst 3, 1) := by decide +kernel
theorem d_M_bored_20 : decode c_M_bored 20 = .ok (.invokestatic 94, 3) := by decide +kernel
theorem d_M_bored_23 : decode c_M_bored 23 = .ok (.ifCond .ne 8, 3) := by decide +kernel
theorem d_M_bored_26 : decode c_M_bored 26 = .ok (.aload_n 0, 1) := by decide +kernel
theorem d_M_bored_27 : decode c_M_bored 27 = .ok (.iconst 2, 1) := by decide +kernel
theorem d_M_bored_28 : decode c_M_bored 28 = .ok (.putfield 87, 3) := by decide +kernel
theorem d_M_bored_31 : decode c_M_bored 31 = .ok (.aload_n 0, 1) := by decide +kernel
theorem d_M_bored_32 : decode c_M_bored 32 = .ok (.getfield 87, 3) := by decide +kernel
theorem d_M_bored_35 : decode c_M_bored 35 = .ok (.ifCond .le 5, 3) := by decide +kernel
theorem d_M_bored_38 : decode c_M_bored 38 = .ok (.iconst 0, 1) := by decide +kernel
theorem d_M_bored_39 : decode c_M_bored 39 = .ok (.ireturn, 1) := by decide +kernel
theorem d_M_bored_40 : decode c_M_bored 40 = .ok (.iconst 0, 1) := by decide +kernel
theorem d_M_bored_41 : decode c_M_bored 41 = .ok (.istore 4, 2) := by decide +kernel
theorem d_M_bored_43 : decode c_M_bored 43 = .ok (.iload 4, 2) := by decide +kernel
theorem d_M_bored_45 : decode c_M_bored 45 = .ok (.sipush 2592, 3) := by decide +kernel
theorem d_M_bored_48 : decode c_M_bored 48 = .ok (.if_icmp .ge 18, 3) := by decide +kernel
theorem d_M_bored_51 : decode c_M_bored 51 = .ok (.aload_n 0, 1) := by decide +kernel
theorem d_M_bored_52 : decode c_M_bored 52 = .ok (.getfield 47, 3) := by decide +kernel
theorem d_M_bored_55 : decode c_M_bored 55 = .ok (.iload 4, 2) := by decide +kernel
theorem d_M_bored_57 : decode c_M_bored 57 = .ok (.ldc 155, 2) := by decide +kernel
theorem d_M_bored_59 : decode c_M_bored 59 = .ok (.iastore, 1) := by decide +kernel
theorem d_M_bored_60 : decode c_M_bored 60 = .ok (.iinc 4 1, 3) := by decide +kernel
theorem d_M_bored_63 : decode c_M_bored 63 = .ok (.goto (-20), 3) := by decide +kernel
theorem d_M_bored_66 : decode c_M_bored 66 = .ok (.aload_n 0, 1) := by decide +kernel
theorem d_M_bored_67 : decode c_M_bored 67 = .ok (.iload_n 1, 1) := by decide +kernel
theorem d_M_bored_68 : decode c_M_bored 68 = .ok (.iconst (-1), 1) := by decide +kernel
theorem d_M_bored_69 : decode c_M_bored 69 = .ok (.iconst 0, 1) := by decide +kernel
theorem d_M_bored_70 : decode c_M_bored 70 = .ok (.iconst 0, 1) := by decide +kernel
theorem d_M_bored_71 : decode c_M_bored 71 = .ok (.iload_n 3, 1) := by decide +kernel
theorem d_M_bored_72 : decode c_M_bored 72 = .ok (.invokevirtual 337, 3) := by decide +kernel
theorem d_M_bored_75 : decode c_M_bored 75 = .ok (.istore 4, 2) := by decide +kernel
theorem d_M_bored_77 : decode c_M_bored 77 = .ok (.iload 4, 2) := by decide +kernel
theorem d_M_bored_79 : decode c_M_bored 79 = .ok (.ifCond .eq 85, 3) := by decide +kernel
theorem d_M_bored_82 : decode c_M_bored 82 = .ok (.iconst 0, 1) := by decide +kernel
theorem d_M_bored_83 : decode c_M_bored 83 = .ok (.istore 4, 2) := by decide +kernel
theorem d_M_bored_85 : decode c_M_bored 85 = .ok (.iconst 0, 1) := by decide +kernel
theorem d_M_bored_86 : decode c_M_bored 86 = .ok (.istore 5, 2) := by decide +kernel
theorem d_M_bored_88 : decode c_M_bored 88 = .ok (.iload 5, 2) := by decide +kernel
theorem d_M_bored_90 : decode c_M_bored 90 = .ok (.bipush 32, 2) := by decide +kernel
theorem d_M_bored_92 : decode c_M_bored 92 = .ok (.aload_n 0, 1) := by decide +kernel
theorem d_M_bored_93 : decode c_M_bored 93 = .ok (.invokevirtual 90, 3) := by decide +kernel
theorem d_M_bored_96 : decode c_M_bored 96 = .ok (.imul, 1) := by decide +kernel
theorem d_M_bored_97 : decode c_M_bored 97 = .ok (.if_icmp .ge 64, 3) := by decide +kernel
theorem d_M_bored_100 : decode c_M_bored 100 = .ok (.aload_n 0, 1) := by decide +kernel
theorem d_M_bored_101 : decode c_M_bored 101 = .ok (.getfield 47, 3) := by decide +kernel
theorem d_M_bored_104 : decode c_M_bored 104 = .ok (.iload 5, 2) := by decide +kernel
theorem d_M_bored_106 : decode c_M_bored 106 = .ok (.iaload, 1) := by decide +kernel
theorem d_M_bored_107 : decode c_M_bored 107 = .ok (.ldc 155, 2) := by decide +kernel
theorem d_M_bored_109 : decode c_M_bored 109 = .ok (.if_icmp .ge 46, 3) := by decide +kernel
theorem d_M_bored_112 : decode c_M_bored 112 = .ok (.aload_n 0, 1) := by decide +kernel
theorem d_M_bored_113 : decode c_M_bored 113 = .ok (.iload 5, 2) := by decide +kernel
theorem d_M_bored_115 : decode c_M_bored 115 = .ok (.bipush 32, 2) := by decide +kernel
theorem d_M_bored_117 : decode c_M_bored 117 = .ok (.idiv, 1) := by decide +kernel
theorem d_M_bored_118 : decode c_M_bored 118 = .ok (.iload 5, 2) := by decide +kernel
theorem d_M_bored_120 : decode c_M_bored 120 = .ok (.iconst 4, 1) := by decide +kernel
theorem d_M_bored_121 : decode c_M_bored 121 = .ok (.idiv, 1) := by decide +kernel
theorem d_M_bored_122 : decode c_M_bored 122 = .ok (.bipush 8, 2) := by decide +kernel
theorem d_M_bored_124 : decode c_M_bored 124 = .ok (.irem, 1) := by decide +kernel
theorem d_M_bored_125 : decode c_M_bored 125 = .ok (.iload 5, 2) := by decide +kernel
theorem d_M_bored_127 : decode c_M_bored 127 = .ok (.iconst 4, 1) := by decide +kernel
theorem d_M_bored_128 : decode c_M_bored 128 = .ok (.irem, 1) := by decide +kernel
theorem d_M_bored_129 : decode c_M_bored 129 = .ok (.aload_n 0, 1) := by decide +kernel
theorem d_M_bored_130 : decode c_M_bored 130 = .ok (.getfield 47, 3) := by decide +kernel
theorem d_M_bored_133 : decode c_M_bored 133 = .ok (.iload 5, 2) := by decide +kernel
theorem d_M_bored_135 : decode c_M_bored 135 = .ok (.iaload, 1) := by decide +kernel
theorem d_M_bored_136 : decode c_M_bored 136 = .ok (.iload_n 3, 1) := by decide +kernel
theorem d_M_bored_137 : decode c_M_bored 137 = .ok (.invokevirtual 337, 3) := by decide +kernel
theorem d_M_bored_140 : decode c_M_bored 140 = .ok (.ifCond .ne 8, 3) := by decide +kernel
theorem d_M_bored_143 : decode c_M_bored 143 = .ok (.iload 4, 2) := by decide +kernel
theorem d_M_bored_145 : decode c_M_bored 145 = .ok (.ifCond .eq 7, 3) := by decide +kernel
theorem d_M_bored_148 : decode c_M_bored 148 = .ok (.iconst 1, 1) := by decide +kernel
theorem d_M_bored_149 : decode c_M_bored 149 = .ok (.goto 4, 3) := by decide +kernel
theorem d_M_bored_152 : decode c_M_bored 152 = .ok (.iconst 0, 1) := by decide +kernel
theorem d_M_bored_153 : decode c_M_bored 153 = .ok (.istore 4, 2) := by decide +kernel
theorem d_M_bored_155 : decode c_M_bored 155 = .ok (.iinc 5 1, 3) := by decide +kernel
theorem d_M_bored_158 : decode c_M_bored 158 = .ok (.goto (-70), 3) := by decide +kernel
theorem d_M_bored_161 : decode c_M_bored 161 = .ok (.goto (-84), 3) := by decide +kernel
theorem d_M_bored_164 : decode c_M_bored 164 = .ok (.ldc 155, 2) := by decide +kernel
theorem d_M_bored_166 : decode c_M_bored 166 = .ok (.istore 5, 2) := by decide +kernel
theorem d_M_bored_168 : decode c_M_bored 168 = .ok (.bipush 32, 2) := by decide +kernel
theorem d_M_bored_170 : decode c_M_bored 170 = .ok (.iload_n 2, 1) := by decide +kernel
theorem d_M_bored_171 : decode c_M_bored 171 = .ok (.imul, 1) := by decide +kernel
theorem d_M_bored_172 : decode c_M_bored 172 = .ok (.istore 6, 2) := by decide +kernel
theorem d_M_bored_174 : decode c_M_bored 174 = .ok (.iload 6, 2) := by decide +kernel
theorem d_M_bored_176 : decode c_M_bored 176 = .ok (.bipush 32, 2) := by decide +kernel
theorem d_M_bored_178 : decode c_M_bored 178 = .ok (.iload_n 2, 1) := by decide +kernel
theorem d_M_bored_179 : decode c_M_bored 179 = .ok (.imul, 1) := by decide +kernel
theorem d_M_bored_180 : decode c_M_bored 180 = .ok (.bipush 32, 2) := by decide +kernel
theorem d_M_bored_182 : decode c_M_bored 182 = .ok (.iadd, 1) := by decide +kernel
theorem d_M_bored_183 : decode c_M_bored 183 = .ok (.if_icmp .ge 23, 3) := by decide +kernel
theorem d_M_bored_186 : decode c_M_bored 186 = .ok (.iload 5, 2) := by decide +kernel
theorem d_M_bored_188 : decode c_M_bored 188 = .ok (.aload_n 0, 1) := by decide +kernel
theorem d_M_bored_189 : decode c_M_bored 189 = .ok (.getfield 47, 3) := by decide +kernel
theorem d_M_bored_192 : decode c_M_bored 192 = .ok (.iload 6, 2) := by decide +kernel
theorem d_M_bored_194 : decode c_M_bored 194 = .ok (.iaload, 1) := by decide +kernel
theorem d_M_bored_195 : decode c_M_bored 195 = .ok (.invokestatic 184, 3) := by decide +kernel
theorem d_M_bored_198 : decode c_M_bored 198 = .ok (.istore 5, 2) := by decide +kernel
theorem d_M_bored_200 : decode c_M_bored 200 = .ok (.iinc 6 1, 3) := by decide +kernel
theorem d_M_bored_203 : decode c_M_bored 203 = .ok (.goto (-29), 3) := by decide +kernel
theorem d_M_bored_206 : decode c_M_bored 206 = .ok (.iload 5, 2) := by decide +kernel
theorem d_M_bored_208 : decode c_M_bored 208 = .ok (.ldc 155, 2) := by decide +kernel
theorem d_M_bored_210 : decode c_M_bored 210 = .ok (.if_icmp .ne 7, 3) := by decide +kernel
theorem d_M_bored_213 : decode c_M_bored 213 = .ok (.iconst (-1), 1) := by decide +kernel
theorem d_M_bored_214 : decode c_M_bored 214 = .ok (.goto 5, 3) := by decide +kernel
theorem d_M_bored_217 : decode c_M_bored 217 = .ok (.iload 5, 2) := by decide +kernel
theorem d_M_bored_219 : decode c_M_bored 219 = .ok (.ireturn, 1) := by decide +kernel
theorem d_M_addsFrom_0 : decode c_M_addsFrom 0 = .ok (.aload_n 0, 1) := by decide +kernel
theorem d_M_addsFrom_1 : decode c_M_addsFrom 1 = .ok (.iload_n 1, 1) := by decide +kernel
theorem d_M_addsFrom_2 : decode c_M_addsFrom 2 = .ok (.invokevirtual 187, 3) := by decide +kernel
theorem d_M_addsFrom_5 : decode c_M_addsFrom 5 = .ok (.iconst 0, 1) := by decide +kernel
theorem d_M_addsFrom_6 : decode c_M_addsFrom 6 = .ok (.istore_n 2, 1) := by decide +kernel
theorem d_M_addsFrom_7 : decode c_M_addsFrom 7 = .ok (.iload_n 2, 1) := by decide +kernel
theorem d_M_addsFrom_8 : decode c_M_addsFrom 8 = .ok (.aload_n 0, 1) := by decide +kernel
theorem d_M_addsFrom_9 : decode c_M_addsFrom 9 = .ok (.invokevirtual 90, 3) := by decide +kernel
theorem d_M_addsFrom_12 : decode c_M_addsFrom 12 = .ok (.if_icmp .ge 60, 3) := by decide +kernel
theorem d_M_addsFrom_15 : decode c_M_addsFrom 15 = .ok (.iload_n 2, 1) := by decide +kernel
theorem d_M_addsFrom_16 : decode c_M_addsFrom 16 = .ok (.iload_n 1, 1) := by decide +kernel
theorem d_M_addsFrom_17 : decode c_M_addsFrom 17 = .ok (.if_icmp .ne 7, 3) := by decide +kernel
theorem d_M_addsFrom_20 : decode c_M_addsFrom 20 = .ok (.iconst 0, 1) := by decide +kernel
theorem d_M_addsFrom_21 : decode c_M_addsFrom 21 = .ok (.goto 8, 3) := by decide +kernel
theorem d_M_addsFrom_24 : decode c_M_addsFrom 24 = .ok (.aload_n 0, 1) := by decide +kernel
theorem d_M_addsFrom_25 : decode c_M_addsFrom 25 = .ok (.iload_n 2, 1) := by decide +kernel
theorem d_M_addsFrom_26 : decode c_M_addsFrom 26 = .ok (.invokevirtual 191, 3) := by decide +kernel
theorem d_M_addsFrom_29 : decode c_M_addsFrom 29 = .ok (.istore_n 3, 1) := by decide +kernel
theorem d_M_addsFrom_30 : decode c_M_addsFrom 30 = .ok (.aload_n 0, 1) := by decide +kernel
theorem d_M_addsFrom_31 : decode c_M_addsFrom 31 = .ok (.getfield 66, 3) := by decide +kernel
theorem d_M_addsFrom_34 : decode c_M_addsFrom 34 = .ok (.iload_n 2, 1) := by decide +kernel
theorem d_M_addsFrom_35 : decode c_M_addsFrom 35 = .ok (.iload_n 3, 1) := by decide +kernel
theorem d_M_addsFrom_36 : decode c_M_addsFrom 36 = .ok (.ldc 155, 2) := by decide +kernel
theorem d_M_addsFrom_38 : decode c_M_addsFrom 38 = .ok (.if_icmp .eq 14, 3) := by decide +kernel
theorem d_M_addsFrom_41 : decode c_M_addsFrom 41 = .ok (.aload_n 0, 1) := by decide +kernel
theorem d_M_addsFrom_42 : decode c_M_addsFrom 42 = .ok (.getfield 66, 3) := by decide +kernel
theorem d_M_addsFrom_45 : decode c_M_addsFrom 45 = .ok (.iload_n 2, 1) := by decide +kernel
theorem d_M_addsFrom_46 : decode c_M_addsFrom 46 = .ok (.iaload, 1) := by decide +kernel
theorem d_M_addsFrom_47 : decode c_M_addsFrom 47 = .ok (.ldc 155, 2) := by decide +kernel
theorem d_M_addsFrom_49 : decode c_M_addsFrom 49 = .ok (.if_icmp .ne 8, 3) := by decide +kernel
theorem d_M_addsFrom_52 : decode c_M_addsFrom 52 = .ok (.ldc 155, 2) := by decide +kernel
theorem d_M_addsFrom_54 : decode c_M_addsFrom 54 = .ok (.goto 11, 3) := by decide +kernel
theorem d_M_addsFrom_57 : decode c_M_addsFrom 57 = .ok (.aload_n 0, 1) := by decide +kernel
theorem d_M_addsFrom_58 : decode c_M_addsFrom 58 = .ok (.getfield 66, 3) := by decide +kernel
theorem d_M_addsFrom_61 : decode c_M_addsFrom 61 = .ok (.iload_n 2, 1) := by decide +kernel
theorem d_M_addsFrom_62 : decode c_M_addsFrom 62 = .ok (.iaload, 1) := by decide +kernel
theorem d_M_addsFrom_63 : decode c_M_addsFrom 63 = .ok (.iload_n 3, 1) := by decide +kernel
theorem d_M_addsFrom_64 : decode c_M_addsFrom 64 = .ok (.iadd, 1) := by decide +kernel
theorem d_M_addsFrom_65 : decode c_M_addsFrom 65 = .ok (.iastore, 1) := by decide +kernel
theorem d_M_addsFrom_66 : decode c_M_addsFrom 66 = .ok (.iinc 2 1, 3) := by decide +kernel
theorem d_M_addsFrom_69 : decode c_M_addsFrom 69 = .ok (.goto (-62), 3) := by decide +kernel
theorem d_M_addsFrom_72 : decode c_M_addsFrom 72 = .ok (.return_, 1) := by decide +kernel
theorem d_M_meet_0 : decode c_M_meet 0 = .ok (.aload_n 0, 1) := by decide +kernel
theorem d_M_meet_1 : decode c_M_meet 1 = .ok (.aload_n 0, 1) := by decide +kernel
theorem d_M_meet_2 : decode c_M_meet 2 = .ok (.iload_n 1, 1) := by decide +kernel
theorem d_M_meet_3 : decode c_M_meet 3 = .ok (.invokevirtual 203, 3) := by decide +kernel
theorem d_M_meet_6 : decode c_M_meet 6 = .ok (.ifCond .eq 19, 3) := by decide +kernel
theorem d_M_meet_9 : decode c_M_meet 9 = .ok (.aload_n 0, 1) := by decide +kernel
theorem d_M_meet_10 : decode c_M_meet 10 = .ok (.iload_n 2, 1) := by decide +kernel
theorem d_M_meet_11 : decode c_M_meet 11 = .ok (.invokevirtual 203, 3) := by decide +kernel
theorem d_M_meet_14 : decode c_M_meet 14 = .ok (.ifCond .eq 11, 3) := by decide +kernel
theorem d_M_meet_17 : decode c_M_meet 17 = .ok (.aload_n 0, 1) := by decide +kernel
theorem d_M_meet_18 : decode c_M_meet 18 = .ok (.iload_n 3, 1) := by decide +kernel
theorem d_M_meet_19 : decode c_M_meet 19 = .ok (.invokevirtual 203, 3) := by decide +kernel
theorem d_M_meet_22 : decode c_M_meet 22 = .ok (.ifCond .ne 7, 3) := by decide +kernel
theorem d_M_meet_25 : decode c_M_meet 25 = .ok (.iconst 1, 1) := by decide +kernel
theorem d_M_meet_26 : decode c_M_meet 26 = .ok (.goto 37, 3) := by decide +kernel
theorem d_M_meet_29 : decode c_M_meet 29 = .ok (.iload 4, 2) := by decide +kernel
theorem d_M_meet_31 : decode c_M_meet 31 = .ok (.iconst 0, 1) := by decide +kernel
theorem d_M_meet_32 : decode c_M_meet 32 = .ok (.iconst 1, 1) := by decide +kernel
theorem d_M_meet_33 : decode c_M_meet 33 = .ok (.invokestatic 94, 3) := by decide +kernel
theorem d_M_meet_36 : decode c_M_meet 36 = .ok (.ifCond .ne 7, 3) := by decide +kernel
theorem d_M_meet_39 : decode c_M_meet 39 = .ok (.iconst 2, 1) := by decide +kernel
theorem d_M_meet_40 : decode c_M_meet 40 = .ok (.goto 23, 3) := by decide +kernel
theorem d_M_meet_43 : decode c_M_meet 43 = .ok (.iload_n 1, 1) := by decide +kernel
theorem d_M_meet_44 : decode c_M_meet 44 = .ok (.iload_n 2, 1) := by decide +kernel
theorem d_M_meet_45 : decode c_M_meet 45 = .ok (.if_icmp .eq 13, 3) := by decide +kernel
theorem d_M_meet_48 : decode c_M_meet 48 = .ok (.iload_n 2, 1) := by decide +kernel
theorem d_M_meet_49 : decode c_M_meet 49 = .ok (.iload_n 3, 1) := by decide +kernel
theorem d_M_meet_50 : decode c_M_meet 50 = .ok (.if_icmp .eq 8, 3) := by decide +kernel
theorem d_M_meet_53 : decode c_M_meet 53 = .ok (.iload_n 1, 1) := by decide +kernel
theorem d_M_meet_54 : decode c_M_meet 54 = .ok (.iload_n 3, 1) := by decide +kernel
theorem d_M_meet_55 : decode c_M_meet 55 = .ok (.if_icmp .ne 7, 3) := by decide +kernel
theorem d_M_meet_58 : decode c_M_meet 58 = .ok (.iconst 3, 1) := by decide +kernel
theorem d_M_meet_59 : decode c_M_meet 59 = .ok (.goto 4, 3) := by decide +kernel
theorem d_M_meet_62 : decode c_M_meet 62 = .ok (.iconst 0, 1) := by decide +kernel
theorem d_M_meet_63 : decode c_M_meet 63 = .ok (.putfield 87, 3) := by decide +kernel
theorem d_M_meet_66 : decode c_M_meet 66 = .ok (.aload_n 0, 1) := by decide +kernel
theorem d_M_meet_67 : decode c_M_meet 67 = .ok (.getfield 87, 3) := by decide +kernel
theorem d_M_meet_70 : decode c_M_meet 70 = .ok (.ifCond .le 5, 3) := by decide +kernel
theorem d_M_meet_73 : decode c_M_meet 73 = .ok (.iconst 0, 1) := by decide +kernel
theorem d_M_meet_74 : decode c_M_meet 74 = .ok (.ireturn, 1) := by decide +kernel
theorem d_M_meet_75 : decode c_M_meet 75 = .ok (.iconst 0, 1) := by decide +kernel
theorem d_M_meet_76 : decode c_M_meet 76 = .ok (.istore 5, 2) := by decide +kernel
theorem d_M_meet_78 : decode c_M_meet 78 = .ok (.iload 5, 2) := by decide +kernel
theorem d_M_meet_80 : decode c_M_meet 80 = .ok (.bipush 81, 2) := by decide +kernel
theorem d_M_meet_82 : decode c_M_meet 82 = .ok (.if_icmp .ge 17, 3) := by decide +kernel
theorem d_M_meet_85 : decode c_M_meet 85 = .ok (.aload_n 0, 1) := by decide +kernel
theorem d_M_meet_86 : decode c_M_meet 86 = .ok (.getfield 66, 3) := by decide +kernel
theorem d_M_meet_89 : decode c_M_meet 89 = .ok (.iload 5, 2) := by decide +kernel
theorem d_M_meet_91 : decode c_M_meet 91 = .ok (.iconst 0, 1) := by decide +kernel
theorem d_M_meet_92 : decode c_M_meet 92 = .ok (.iastore, 1) := by decide +kernel
theorem d_M_meet_93 : decode c_M_meet 93 = .ok (.iinc 5 1, 3) := by decide +kernel
theorem d_M_meet_96 : decode c_M_meet 96 = .ok (.goto (-18), 3) := by decide +kernel
theorem d_M_meet_99 : decode c_M_meet 99 = .ok (.aload_n 0, 1) := by decide +kernel
theorem d_M_meet_100 : decode c_M_meet 100 = .ok (.iload_n 1, 1) := by decide +kernel
theorem d_M_meet_101 : decode c_M_meet 101 = .ok (.invokevirtual 340, 3) := by decide +kernel
theorem d_M_meet_104 : decode c_M_meet 104 = .ok (.aload_n 0, 1) := by decide +kernel
theorem d_M_meet_105 : decode c_M_meet 105 = .ok (.iload_n 2, 1) := by decide +kernel
theorem d_M_meet_106 : decode c_M_meet 106 = .ok (.invokevirtual 340, 3) := by decide +kernel
theorem d_M_meet_109 : decode c_M_meet 109 = .ok (.aload_n 0, 1) := by decide +kernel
theorem d_M_meet_110 : decode c_M_meet 110 = .ok (.iload_n 3, 1) := by decide +kernel
theorem d_M_meet_111 : decode c_M_meet 111 = .ok (.invokevirtual 340, 3) := by decide +kernel
theorem d_M_meet_114 : decode c_M_meet 114 = .ok (.iconst 0, 1) := by decide +kernel
theorem d_M_meet_115 : decode c_M_meet 115 = .ok (.istore 5, 2) := by decide +kernel
theorem d_M_meet_117 : decode c_M_meet 117 = .ok (.iconst 1, 1) := by decide +kernel
theorem d_M_meet_118 : decode c_M_meet 118 = .ok (.istore 6, 2) := by decide +kernel
theorem d_M_meet_120 : decode c_M_meet 120 = .ok (.iload 6, 2) := by decide +kernel
theorem d_M_meet_122 : decode c_M_meet 122 = .ok (.aload_n 0, 1) := by decide +kernel
theorem d_M_meet_123 : decode c_M_meet 123 = .ok (.invokevirtual 90, 3) := by decide +kernel
theorem d_M_meet_126 : decode c_M_meet 126 = .ok (.if_icmp .ge 30, 3) := by decide +kernel
theorem d_M_meet_129 : decode c_M_meet 129 = .ok (.aload_n 0, 1) := by decide +kernel
theorem d_M_meet_130 : decode c_M_meet 130 = .ok (.getfield 66, 3) := by decide +kernel
theorem d_M_meet_133 : decode c_M_meet 133 = .ok (.iload 6, 2) := by decide +kernel
theorem d_M_meet_135 : decode c_M_meet 135 = .ok (.iaload, 1) := by decide +kernel
theorem d_M_meet_136 : decode c_M_meet 136 = .ok (.aload_n 0, 1) := by decide +kernel
theorem d_M_meet_137 : decode c_M_meet 137 = .ok (.getfield 66, 3) := by decide +kernel
theorem d_M_meet_140 : decode c_M_meet 140 = .ok (.iload 5, 2) := by decide +kernel
theorem d_M_meet_142 : decode c_M_meet 142 = .ok (.iaload, 1) := by decide +kernel
theorem d_M_meet_143 : decode c_M_meet 143 = .ok (.if_icmp .ge 7, 3) := by decide +kernel
theorem d_M_meet_146 : decode c_M_meet 146 = .ok (.iload 6, 2) := by decide +kernel
theorem d_M_meet_148 : decode c_M_meet 148 = .ok (.istore 5, 2) := by decide +kernel
theorem d_M_meet_150 : decode c_M_meet 150 = .ok (.iinc 6 1, 3) := by decide +kernel
theorem d_M_meet_153 : decode c_M_meet 153 = .ok (.goto (-33), 3) := by decide +kernel
theorem d_M_meet_156 : decode c_M_meet 156 = .ok (.aload_n 0, 1) := by decide +kernel
theorem d_M_meet_157 : decode c_M_meet 157 = .ok (.getfield 66, 3) := by decide +kernel
theorem d_M_meet_160 : decode c_M_meet 160 = .ok (.iload 5, 2) := by decide +kernel
theorem d_M_meet_162 : decode c_M_meet 162 = .ok (.iaload, 1) := by decide +kernel
theorem d_M_meet_163 : decode c_M_meet 163 = .ok (.ldc 155, 2) := by decide +kernel
theorem d_M_meet_165 : decode c_M_meet 165 = .ok (.if_icmp .ne 5, 3) := by decide +kernel
theorem d_M_meet_168 : decode c_M_meet 168 = .ok (.iconst (-1), 1) := by decide +kernel
theorem d_M_meet_169 : decode c_M_meet 169 = .ok (.ireturn, 1) := by decide +kernel
theorem d_M_meet_170 : decode c_M_meet 170 = .ok (.iload 4, 2) := by decide +kernel
theorem d_M_meet_172 : decode c_M_meet 172 = .ok (.ifCond .ne 6, 3) := by decide +kernel
theorem d_M_meet_175 : decode c_M_meet 175 = .ok (.iload 5, 2) := by decide +kernel
theorem d_M_meet_177 : decode c_M_meet 177 = .ok (.ireturn, 1) := by decide +kernel
theorem d_M_meet_178 : decode c_M_meet 178 = .ok (.aload_n 0, 1) := by decide +kernel
theorem d_M_meet_179 : decode c_M_meet 179 = .ok (.getfield 66, 3) := by decide +kernel
theorem d_M_meet_182 : decode c_M_meet 182 = .ok (.iload 5, 2) := by decide +kernel
theorem d_M_meet_184 : decode c_M_meet 184 = .ok (.iaload, 1) := by decide +kernel
theorem d_M_meet_185 : decode c_M_meet 185 = .ok (.ireturn, 1) := by decide +kernel
theorem d_M_goesRound_0 : decode c_M_goesRound 0 = .ok (.iload_n 2, 1) := by decide +kernel
theorem d_M_goesRound_1 : decode c_M_goesRound 1 = .ok (.iconst 1, 1) := by decide +kernel
theorem d_M_goesRound_2 : decode c_M_goesRound 2 = .ok (.aload_n 0, 1) := by decide +kernel
theorem d_M_goesRound_3 : decode c_M_goesRound 3 = .ok (.getfield 343, 3) := by decide +kernel
theorem d_M_goesRound_6 : decode c_M_goesRound 6 = .ok (.ishl, 1) := by decide +kernel
theorem d_M_goesRound_7 : decode c_M_goesRound 7 = .ok (.iconst 1, 1) := by decide +kernel
theorem d_M_goesRound_8 : decode c_M_goesRound 8 = .ok (.isub, 1) := by decide +kernel
theorem d_M_goesRound_9 : decode c_M_goesRound 9 = .ok (.if_icmp .ne 37, 3) := by decide +kernel
theorem d_M_goesRound_12 : decode c_M_goesRound 12 = .ok (.aload_n 0, 1) := by decide +kernel
theorem d_M_goesRound_13 : decode c_M_goesRound 13 = .ok (.getfield 63, 3) := by decide +kernel
theorem d_M_goesRound_16 : decode c_M_goesRound 16 = .ok (.bipush 6, 2) := by decide +kernel
theorem d_M_goesRound_18 : decode c_M_goesRound 18 = .ok (.iload_n 1, 1) := by decide +kernel
theorem d_M_goesRound_19 : decode c_M_goesRound 19 = .ok (.imul, 1) := by decide +kernel
theorem d_M_goesRound_20 : decode c_M_goesRound 20 = .ok (.iaload, 1) := by decide +kernel
theorem d_M_goesRound_21 : decode c_M_goesRound 21 = .ok (.istore 4, 2) := by decide +kernel
theorem d_M_goesRound_23 : decode c_M_goesRound 23 = .ok (.iload 4, 2) := by decide +kernel
theorem d_M_goesRound_25 : decode c_M_goesRound 25 = .ok (.ldc 155, 2) := by decide +kernel
theorem d_M_goesRound_27 : decode c_M_goesRound 27 = .ok (.if_icmp .ge 18, 3) := by decide +kernel
theorem d_M_goesRound_30 : decode c_M_goesRound 30 = .ok (.aload_n 0, 1) := by decide +kernel
theorem d_M_goesRound_31 : decode c_M_goesRound 31 = .ok (.aload_n 0, 1) := by decide +kernel
theorem d_M_goesRound_32 : decode c_M_goesRound 32 = .ok (.getfield 346, 3) := by decide +kernel
theorem d_M_goesRound_35 : decode c_M_goesRound 35 = .ok (.iload_n 3, 1) := by decide +kernel
theorem d_M_goesRound_36 : decode c_M_goesRound 36 = .ok (.iload 4, 2) := by decide +kernel
theorem d_M_goesRound_38 : decode c_M_goesRound 38 = .ok (.iadd, 1) := by decide +kernel
theorem d_M_goesRound_39 : decode c_M_goesRound 39 = .ok (.invokestatic 184, 3) := by decide +kernel
theorem d_M_goesRound_42 : decode c_M_goesRound 42 = .ok (.putfield 346, 3) := by decide +kernel
theorem d_M_goesRound_45 : decode c_M_goesRound 45 = .ok (.return_, 1) := by decide +kernel
theorem d_M_goesRound_46 : decode c_M_goesRound 46 = .ok (.iconst 1, 1) := by decide +kernel
theorem d_M_goesRound_47 : decode c_M_goesRound 47 = .ok (.istore 4, 2) := by decide +kernel
theorem d_M_goesRound_49 : decode c_M_goesRound 49 = .ok (.iload 4, 2) := by decide +kernel
theorem d_M_goesRound_51 : decode c_M_goesRound 51 = .ok (.aload_n 0, 1) := by decide +kernel
theorem d_M_goesRound_52 : decode c_M_goesRound 52 = .ok (.getfield 343, 3) := by decide +kernel
theorem d_M_goesRound_55 : decode c_M_goesRound 55 = .ok (.if_icmp .ge 55, 3) := by decide +kernel
theorem d_M_goesRound_58 : decode c_M_goesRound 58 = .ok (.aload_n 0, 1) := by decide +kernel
theorem d_M_goesRound_59 : decode c_M_goesRound 59 = .ok (.getfield 63, 3) := by decide +kernel
theorem d_M_goesRound_62 : decode c_M_goesRound 62 = .ok (.bipush 6, 2) := by decide +kernel
theorem d_M_goesRound_64 : decode c_M_goesRound 64 = .ok (.iload_n 1, 1) := by decide +kernel
theorem d_M_goesRound_65 : decode c_M_goesRound 65 = .ok (.imul, 1) := by decide +kernel
theorem d_M_goesRound_66 : decode c_M_goesRound 66 = .ok (.iload 4, 2) := by decide +kernel
theorem d_M_goesRound_68 : decode c_M_goesRound 68 = .ok (.iadd, 1) := by decide +kernel
theorem d_M_goesRound_69 : decode c_M_goesRound 69 = .ok (.iaload, 1) := by decide +kernel
theorem d_M_goesRound_70 : decode c_M_goesRound 70 = .ok (.istore 5, 2) := by decide +kernel
theorem d_M_goesRound_72 : decode c_M_goesRound 72 = .ok (.iload_n 2, 1) := by decide +kernel
theorem d_M_goesRound_73 : decode c_M_goesRound 73 = .ok (.iload 4, 2) := by decide +kernel
theorem d_M_goesRound_75 : decode c_M_goesRound 75 = .ok (.ishr, 1) := by decide +kernel
theorem d_M_goesRound_76 : decode c_M_goesRound 76 = .ok (.iconst 1, 1) := by decide +kernel
theorem d_M_goesRound_77 : decode c_M_goesRound 77 = .ok (.iand, 1) := by decide +kernel
theorem d_M_goesRound_78 : decode c_M_goesRound 78 = .ok (.ifCond .ne 26, 3) := by decide +kernel
theorem d_M_goesRound_81 : decode c_M_goesRound 81 = .ok (.iload 5, 2) := by decide +kernel
theorem d_M_goesRound_83 : decode c_M_goesRound 83 = .ok (.ldc 155, 2) := by decide +kernel
theorem d_M_goesRound_85 : decode c_M_goesRound 85 = .ok (.if_icmp .ge 19, 3) := by decide +kernel
theorem d_M_goesRound_88 : decode c_M_goesRound 88 = .ok (.aload_n 0, 1) := by decide +kernel
theorem d_M_goesRound_89 : decode c_M_goesRound 89 = .ok (.iload 4, 2) := by decide +kernel
theorem d_M_goesRound_91 : decode c_M_goesRound 91 = .ok (.iload_n 2, 1) := by decide +kernel
theorem d_M_goesRound_92 : decode c_M_goesRound 92 = .ok (.iconst 1, 1) := by decide +kernel
theorem d_M_goesRound_93 : decode c_M_goesRound 93 = .ok (.iload 4, 2) := by decide +kernel
theorem d_M_goesRound_95 : decode c_M_goesRound 95 = .ok (.ishl, 1) := by decide +kernel
theorem d_M_goesRound_96 : decode c_M_goesRound 96 = .ok (.ior, 1) := by decide +kernel
theorem d_M_goesRound_97 : decode c_M_goesRound 97 = .ok (.iload_n 3, 1) := by decide +kernel
theorem d_M_goesRound_98 : decode c_M_goesRound 98 = .ok (.iload 5, 2) := by decide +kernel
theorem d_M_goesRound_100 : decode c_M_goesRound 100 = .ok (.iadd, 1) := by decide +kernel
theorem d_M_goesRound_101 : decode c_M_goesRound 101 = .ok (.invokevirtual 349, 3) := by decide +kernel
theorem d_M_goesRound_104 : decode c_M_goesRound 104 = .ok (.iinc 4 1, 3) := by decide +kernel
theorem d_M_goesRound_107 : decode c_M_goesRound 107 = .ok (.goto (-58), 3) := by decide +kernel
theorem d_M_goesRound_110 : decode c_M_goesRound 110 = .ok (.return_, 1) := by decide +kernel
theorem d_M_areStops_0 : decode c_M_areStops 0 = .ok (.aload_n 0, 1) := by decide +kernel
theorem d_M_areStops_1 : decode c_M_areStops 1 = .ok (.aload_n 0, 1) := by decide +kernel
theorem d_M_areStops_2 : decode c_M_areStops 2 = .ok (.getfield 215, 3) := by decide +kernel
theorem d_M_areStops_5 : decode c_M_areStops 5 = .ok (.putfield 343, 3) := by decide +kernel
theorem d_M_areStops_8 : decode c_M_areStops 8 = .ok (.aload_n 0, 1) := by decide +kernel
theorem d_M_areStops_9 : decode c_M_areStops 9 = .ok (.iconst 0, 1) := by decide +kernel
theorem d_M_areStops_10 : decode c_M_areStops 10 = .ok (.putfield 215, 3) := by decide +kernel
theorem d_M_areStops_13 : decode c_M_areStops 13 = .ok (.aload_n 0, 1) := by decide +kernel
theorem d_M_areStops_14 : decode c_M_areStops 14 = .ok (.getfield 343, 3) := by decide +kernel
theorem d_M_areStops_17 : decode c_M_areStops 17 = .ok (.iconst 2, 1) := by decide +kernel
theorem d_M_areStops_18 : decode c_M_areStops 18 = .ok (.bipush 6, 2) := by decide +kernel
theorem d_M_areStops_20 : decode c_M_areStops 20 = .ok (.invokestatic 94, 3) := by decide +kernel
theorem d_M_areStops_23 : decode c_M_areStops 23 = .ok (.ifCond .ne 5, 3) := by decide +kernel
theorem d_M_areStops_26 : decode c_M_areStops 26 = .ok (.iconst 0, 1) := by decide +kernel
theorem d_M_areStops_27 : decode c_M_areStops 27 = .ok (.ireturn, 1) := by decide +kernel
theorem d_M_areStops_28 : decode c_M_areStops 28 = .ok (.iconst 0, 1) := by decide +kernel
theorem d_M_areStops_29 : decode c_M_areStops 29 = .ok (.istore_n 1, 1) := by decide +kernel
theorem d_M_areStops_30 : decode c_M_areStops 30 = .ok (.iload_n 1, 1) := by decide +kernel
theorem d_M_areStops_31 : decode c_M_areStops 31 = .ok (.aload_n 0, 1) := by decide +kernel
theorem d_M_areStops_32 : decode c_M_areStops 32 = .ok (.getfield 343, 3) := by decide +kernel
theorem d_M_areStops_35 : decode c_M_areStops 35 = .ok (.if_icmp .ge 66, 3) := by decide +kernel
theorem d_M_areStops_38 : decode c_M_areStops 38 = .ok (.aload_n 0, 1) := by decide +kernel
theorem d_M_areStops_39 : decode c_M_areStops 39 = .ok (.getfield 60, 3) := by decide +kernel
theorem d_M_areStops_42 : decode c_M_areStops 42 = .ok (.iload_n 1, 1) := by decide +kernel
theorem d_M_areStops_43 : decode c_M_areStops 43 = .ok (.aload_n 0, 1) := by decide +kernel
theorem d_M_areStops_44 : decode c_M_areStops 44 = .ok (.getfield 31, 3) := by decide +kernel
theorem d_M_areStops_47 : decode c_M_areStops 47 = .ok (.iload_n 1, 1) := by decide +kernel
theorem d_M_areStops_48 : decode c_M_areStops 48 = .ok (.iaload, 1) := by decide +kernel
theorem d_M_areStops_49 : decode c_M_areStops 49 = .ok (.iastore, 1) := by decide +kernel
theorem d_M_areStops_50 : decode c_M_areStops 50 = .ok (.aload_n 0, 1) := by decide +kernel
theorem d_M_areStops_51 : decode c_M_areStops 51 = .ok (.aload_n 0, 1) := by decide +kernel
theorem d_M_areStops_52 : decode c_M_areStops 52 = .ok (.getfield 60, 3) := by decide +kernel
theorem d_M_areStops_55 : decode c_M_areStops 55 = .ok (.iload_n 1, 1) := by decide +kernel
theorem d_M_areStops_56 : decode c_M_areStops 56 = .ok (.iaload, 1) := by decide +kernel
theorem d_M_areStops_57 : decode c_M_areStops 57 = .ok (.invokevirtual 203, 3) := by decide +kernel
theorem d_M_areStops_60 : decode c_M_areStops 60 = .ok (.ifCond .ne 5, 3) := by decide +kernel
theorem d_M_areStops_63 : decode c_M_areStops 63 = .ok (.iconst 0, 1) := by decide +kernel
theorem d_M_areStops_64 : decode c_M_areStops 64 = .ok (.ireturn, 1) := by decide +kernel
theorem d_M_areStops_65 : decode c_M_areStops 65 = .ok (.iconst 0, 1) := by decide +kernel
theorem d_M_areStops_66 : decode c_M_areStops 66 = .ok (.istore_n 2, 1) := by decide +kernel
theorem d_M_areStops_67 : decode c_M_areStops 67 = .ok (.iload_n 2, 1) := by decide +kernel
theorem d_M_areStops_68 : decode c_M_areStops 68 = .ok (.iload_n 1, 1) := by decide +kernel
theorem d_M_areStops_69 : decode c_M_areStops 69 = .ok (.if_icmp .ge 26, 3) := by decide +kernel
theorem d_M_areStops_72 : decode c_M_areStops 72 = .ok (.aload_n 0, 1) := by decide +kernel
theorem d_M_areStops_73 : decode c_M_areStops 73 = .ok (.getfield 60, 3) := by decide +kernel
theorem d_M_areStops_76 : decode c_M_areStops 76 = .ok (.iload_n 2, 1) := by decide +kernel
theorem d_M_areStops_77 : decode c_M_areStops 77 = .ok (.iaload, 1) := by decide +kernel
theorem d_M_areStops_78 : decode c_M_areStops 78 = .ok (.aload_n 0, 1) := by decide +kernel
theorem d_M_areStops_79 : decode c_M_areStops 79 = .ok (.getfield 60, 3) := by decide +kernel
theorem d_M_areStops_82 : decode c_M_areStops 82 = .ok (.iload_n 1, 1) := by decide +kernel
theorem d_M_areStops_83 : decode c_M_areStops 83 = .ok (.iaload, 1) := by decide +kernel
theorem d_M_areStops_84 : decode c_M_areStops 84 = .ok (.if_icmp .ne 5, 3) := by decide +kernel
theorem d_M_areStops_87 : decode c_M_areStops 87 = .ok (.iconst 0, 1) := by decide +kernel
theorem d_M_areStops_88 : decode c_M_areStops 88 = .ok (.ireturn, 1) := by decide +kernel
theorem d_M_areStops_89 : decode c_M_areStops 89 = .ok (.iinc 2 1, 3) := by decide +kernel
theorem d_M_areStops_92 : decode c_M_areStops 92 = .ok (.goto (-25), 3) := by decide +kernel
theorem d_M_areStops_95 : decode c_M_areStops 95 = .ok (.iinc 1 1, 3) := by decide +kernel
theorem d_M_areStops_98 : decode c_M_areStops 98 = .ok (.goto (-68), 3) := by decide +kernel
theorem d_M_areStops_101 : decode c_M_areStops 101 = .ok (.iconst 1, 1) := by decide +kernel
theorem d_M_areStops_102 : decode c_M_areStops 102 = .ok (.ireturn, 1) := by decide +kernel
theorem d_M_round_0 : decode c_M_round 0 = .ok (.aload_n 0, 1) := by decide +kernel
theorem d_M_round_1 : decode c_M_round 1 = .ok (.aload_n 0, 1) := by decide +kernel
theorem d_M_round_2 : decode c_M_round 2 = .ok (.invokevirtual 352, 3) := by decide +kernel
theorem d_M_round_5 : decode c_M_round 5 = .ok (.ifCond .eq 7, 3) := by decide +kernel
theorem d_M_round_8 : decode c_M_round 8 = .ok (.iconst 0, 1) := by decide +kernel
theorem d_M_round_9 : decode c_M_round 9 = .ok (.goto 4, 3) := by decide +kernel
theorem d_M_round_12 : decode c_M_round 12 = .ok (.iconst 1, 1) := by decide +kernel
theorem d_M_round_13 : decode c_M_round 13 = .ok (.putfield 87, 3) := by decide +kernel
theorem d_M_round_16 : decode c_M_round 16 = .ok (.aload_n 0, 1) := by decide +kernel
theorem d_M_round_17 : decode c_M_round 17 = .ok (.getfield 87, 3) := by decide +kernel
theorem d_M_round_20 : decode c_M_round 20 = .ok (.ifCond .le 5, 3) := by decide +kernel
theorem d_M_round_23 : decode c_M_round 23 = .ok (.iconst 0, 1) := by decide +kernel
theorem d_M_round_24 : decode c_M_round 24 = .ok (.ireturn, 1) := by decide +kernel
theorem d_M_round_25 : decode c_M_round 25 = .ok (.iconst 0, 1) := by decide +kernel
theorem d_M_round_26 : decode c_M_round 26 = .ok (.istore_n 1, 1) := by decide +kernel
theorem d_M_round_27 : decode c_M_round 27 = .ok (.iload_n 1, 1) := by decide +kernel
theorem d_M_round_28 : decode c_M_round 28 = .ok (.aload_n 0, 1) := by decide +kernel
theorem d_M_round_29 : decode c_M_round 29 = .ok (.getfield 343, 3) := by decide +kernel
theorem d_M_round_32 : decode c_M_round 32 = .ok (.if_icmp .ge 56, 3) := by decide +kernel
theorem d_M_round_35 : decode c_M_round 35 = .ok (.aload_n 0, 1) := by decide +kernel
theorem d_M_round_36 : decode c_M_round 36 = .ok (.aload_n 0, 1) := by decide +kernel
theorem d_M_round_37 : decode c_M_round 37 = .ok (.getfield 60, 3) := by decide +kernel
theorem d_M_round_40 : decode c_M_round 40 = .ok (.iload_n 1, 1) := by decide +kernel
theorem d_M_round_41 : decode c_M_round 41 = .ok (.iaload, 1) := by decide +kernel
theorem d_M_round_42 : decode c_M_round 42 = .ok (.invokevirtual 187, 3) := by decide +kernel
theorem d_M_round_45 : decode c_M_round 45 = .ok (.iconst 0, 1) := by decide +kernel
theorem d_M_round_46 : decode c_M_round 46 = .ok (.istore_n 2, 1) := by decide +kernel
theorem d_M_round_47 : decode c_M_round 47 = .ok (.iload_n 2, 1) := by decide +kernel
theorem d_M_round_48 : decode c_M_round 48 = .ok (.aload_n 0, 1) := by decide +kernel
theorem d_M_round_49 : decode c_M_round 49 = .ok (.getfield 343, 3) := by decide +kernel
theorem d_M_round_52 : decode c_M_round 52 = .ok (.if_icmp .ge 30, 3) := by decide +kernel
theorem d_M_round_55 : decode c_M_round 55 = .ok (.aload_n 0, 1) := by decide +kernel
theorem d_M_round_56 : decode c_M_round 56 = .ok (.getfield 63, 3) := by decide +kernel
theorem d_M_round_59 : decode c_M_round 59 = .ok (.bipush 6, 2) := by decide +kernel
theorem d_M_round_61 : decode c_M_round 61 = .ok (.iload_n 1, 1) := by decide +kernel
theorem d_M_round_62 : decode c_M_round 62 = .ok (.imul, 1) := by decide +kernel
theorem d_M_round_63 : decode c_M_round 63 = .ok (.iload_n 2, 1) := by decide +kernel
theorem d_M_round_64 : decode c_M_round 64 = .ok (.iadd, 1) := by decide +kernel
theorem d_M_round_65 : decode c_M_round 65 = .ok (.aload_n 0, 1) := by decide +kernel
theorem d_M_round_66 : decode c_M_round 66 = .ok (.aload_n 0, 1) := by decide +kernel
theorem d_M_round_67 : decode c_M_round 67 = .ok (.getfield 60, 3) := by decide +kernel
theorem d_M_round_70 : decode c_M_round 70 = .ok (.iload_n 2, 1) := by decide +kernel
theorem d_M_round_71 : decode c_M_round 71 = .ok (.iaload, 1) := by decide +kernel
theorem d_M_round_72 : decode c_M_round 72 = .ok (.invokevirtual 191, 3) := by decide +kernel
theorem d_M_round_75 : decode c_M_round 75 = .ok (.iastore, 1) := by decide +kernel
theorem d_M_round_76 : decode c_M_round 76 = .ok (.iinc 2 1, 3) := by decide +kernel
theorem d_M_round_79 : decode c_M_round 79 = .ok (.goto (-32), 3) := by decide +kernel
theorem d_M_round_82 : decode c_M_round 82 = .ok (.iinc 1 1, 3) := by decide +kernel
theorem d_M_round_85 : decode c_M_round 85 = .ok (.goto (-58), 3) := by decide +kernel
theorem d_M_round_88 : decode c_M_round 88 = .ok (.aload_n 0, 1) := by decide +kernel
theorem d_M_round_89 : decode c_M_round 89 = .ok (.ldc 155, 2) := by decide +kernel
theorem d_M_round_91 : decode c_M_round 91 = .ok (.putfield 346, 3) := by decide +kernel
theorem d_M_round_94 : decode c_M_round 94 = .ok (.aload_n 0, 1) := by decide +kernel
theorem d_M_round_95 : decode c_M_round 95 = .ok (.iconst 0, 1) := by decide +kernel
theorem d_M_round_96 : decode c_M_round 96 = .ok (.iconst 1, 1) := by decide +kernel
theorem d_M_round_97 : decode c_M_round 97 = .ok (.iconst 0, 1) := by decide +kernel
theorem d_M_round_98 : decode c_M_round 98 = .ok (.invokevirtual 349, 3) := by decide +kernel
theorem d_M_round_101 : decode c_M_round 101 = .ok (.aload_n 0, 1) := by decide +kernel
theorem d_M_round_102 : decode c_M_round 102 = .ok (.getfield 346, 3) := by decide +kernel
theorem d_M_round_105 : decode c_M_round 105 = .ok (.ldc 155, 2) := by decide +kernel
theorem d_M_round_107 : decode c_M_round 107 = .ok (.if_icmp .ne 7, 3) := by decide +kernel
theorem d_M_round_110 : decode c_M_round 110 = .ok (.iconst (-1), 1) := by decide +kernel
theorem d_M_round_111 : decode c_M_round 111 = .ok (.goto 7, 3) := by decide +kernel
theorem d_M_round_114 : decode c_M_round 114 = .ok (.aload_n 0, 1) := by decide +kernel
theorem d_M_round_115 : decode c_M_round 115 = .ok (.getfield 346, 3) := by decide +kernel
theorem d_M_round_118 : decode c_M_round 118 = .ok (.ireturn, 1) := by decide +kernel
theorem d_M_laysPath_0 : decode c_M_laysPath 0 = .ok (.aload_n 0, 1) := by decide +kernel
theorem d_M_laysPath_1 : decode c_M_laysPath 1 = .ok (.aload_n 0, 1) := by decide +kernel
theorem d_M_laysPath_2 : decode c_M_laysPath 2 = .ok (.iload_n 1, 1) := by decide +kernel
theorem d_M_laysPath_3 : decode c_M_laysPath 3 = .ok (.invokevirtual 129, 3) := by decide +kernel
theorem d_M_laysPath_6 : decode c_M_laysPath 6 = .ok (.putfield 172, 3) := by decide +kernel
theorem d_M_laysPath_9 : decode c_M_laysPath 9 = .ok (.iconst 0, 1) := by decide +kernel
theorem d_M_laysPath_10 : decode c_M_laysPath 10 = .ok (.istore_n 2, 1) := by decide +kernel
theorem d_M_laysPath_11 : decode c_M_laysPath 11 = .ok (.iload_n 2, 1) := by decide +kernel
theorem d_M_laysPath_12 : decode c_M_laysPath 12 = .ok (.aload_n 0, 1) := by decide +kernel
theorem d_M_laysPath_13 : decode c_M_laysPath 13 = .ok (.getfield 172, 3) := by decide +kernel
theorem d_M_laysPath_16 : decode c_M_laysPath 16 = .ok (.if_icmp .ge 21, 3) := by decide +kernel
theorem d_M_laysPath_19 : decode c_M_laysPath 19 = .ok (.aload_n 0, 1) := by decide +kernel
theorem d_M_laysPath_20 : decode c_M_laysPath 20 = .ok (.getfield 50, 3) := by decide +kernel
theorem d_M_laysPath_23 : decode c_M_laysPath 23 = .ok (.iload_n 2, 1) := by decide +kernel
theorem d_M_laysPath_24 : decode c_M_laysPath 24 = .ok (.aload_n 0, 1) := by decide +kernel
theorem d_M_laysPath_25 : decode c_M_laysPath 25 = .ok (.iload_n 1, 1) := by decide +kernel
theorem d_M_laysPath_26 : decode c_M_laysPath 26 = .ok (.iload_n 2, 1) := by decide +kernel
theorem d_M_laysPath_27 : decode c_M_laysPath 27 = .ok (.invokevirtual 212, 3) := by decide +kernel
theorem d_M_laysPath_30 : decode c_M_laysPath 30 = .ok (.iastore, 1) := by decide +kernel
theorem d_M_laysPath_31 : decode c_M_laysPath 31 = .ok (.iinc 2 1, 3) := by decide +kernel
theorem d_M_laysPath_34 : decode c_M_laysPath 34 = .ok (.goto (-23), 3) := by decide +kernel
theorem d_M_laysPath_37 : decode c_M_laysPath 37 = .ok (.return_, 1) := by decide +kernel
theorem d_M_hairpins_0 : decode c_M_hairpins 0 = .ok (.iconst 0, 1) := by decide +kernel
theorem d_M_hairpins_1 : decode c_M_hairpins 1 = .ok (.istore_n 2, 1) := by decide +kernel
theorem d_M_hairpins_2 : decode c_M_hairpins 2 = .ok (.iconst 1, 1) := by decide +kernel
theorem d_M_hairpins_3 : decode c_M_hairpins 3 = .ok (.istore_n 3, 1) := by decide +kernel
theorem d_M_hairpins_4 : decode c_M_hairpins 4 = .ok (.iload_n 3, 1) := by decide +kernel
theorem d_M_hairpins_5 : decode c_M_hairpins 5 = .ok (.aload_n 0, 1) := by decide +kernel
theorem d_M_hairpins_6 : decode c_M_hairpins 6 = .ok (.iload_n 1, 1) := by decide +kernel
theorem d_M_hairpins_7 : decode c_M_hairpins 7 = .ok (.invokevirtual 129, 3) := by decide +kernel
theorem d_M_hairpins_10 : decode c_M_hairpins 10 = .ok (.iconst 1, 1) := by decide +kernel
theorem d_M_hairpins_11 : decode c_M_hairpins 11 = .ok (.isub, 1) := by decide +kernel
theorem d_M_hairpins_12 : decode c_M_hairpins 12 = .ok (.if_icmp .ge 43, 3) := by decide +kernel
theorem d_M_hairpins_15 : decode c_M_hairpins 15 = .ok (.iload_n 2, 1) := by decide +kernel
theorem d_M_hairpins_16 : decode c_M_hairpins 16 = .ok (.aload_n 0, 1) := by decide +kernel
theorem d_M_hairpins_17 : decode c_M_hairpins 17 = .ok (.iload_n 1, 1) := by decide +kernel
theorem d_M_hairpins_18 : decode c_M_hairpins 18 = .ok (.iload_n 3, 1) := by decide +kernel
theorem d_M_hairpins_19 : decode c_M_hairpins 19 = .ok (.iconst 1, 1) := by decide +kernel
theorem d_M_hairpins_20 : decode c_M_hairpins 20 = .ok (.isub, 1) := by decide +kernel
theorem d_M_hairpins_21 : decode c_M_hairpins 21 = .ok (.invokevirtual 308, 3) := by decide +kernel
theorem d_M_hairpins_24 : decode c_M_hairpins 24 = .ok (.aload_n 0, 1) := by decide +kernel
theorem d_M_hairpins_25 : decode c_M_hairpins 25 = .ok (.iload_n 1, 1) := by decide +kernel
theorem d_M_hairpins_26 : decode c_M_hairpins 26 = .ok (.iload_n 3, 1) := by decide +kernel
theorem d_M_hairpins_27 : decode c_M_hairpins 27 = .ok (.invokevirtual 308, 3) := by decide +kernel
theorem d_M_hairpins_30 : decode c_M_hairpins 30 = .ok (.invokestatic 123, 3) := by decide +kernel
theorem d_M_hairpins_33 : decode c_M_hairpins 33 = .ok (.aload_n 0, 1) := by decide +kernel
theorem d_M_hairpins_34 : decode c_M_hairpins 34 = .ok (.getfield 7, 3) := by decide +kernel
theorem d_M_hairpins_37 : decode c_M_hairpins 37 = .ok (.iconst 3, 1) := by decide +kernel
theorem d_M_hairpins_38 : decode c_M_hairpins 38 = .ok (.iaload, 1) := by decide +kernel
theorem d_M_hairpins_39 : decode c_M_hairpins 39 = .ok (.if_icmp .le 7, 3) := by decide +kernel
theorem d_M_hairpins_42 : decode c_M_hairpins 42 = .ok (.iconst 1, 1) := by decide +kernel
theorem d_M_hairpins_43 : decode c_M_hairpins 43 = .ok (.goto 4, 3) := by decide +kernel
theorem d_M_hairpins_46 : decode c_M_hairpins 46 = .ok (.iconst 0, 1) := by decide +kernel
theorem d_M_hairpins_47 : decode c_M_hairpins 47 = .ok (.iadd, 1) := by decide +kernel
theorem d_M_hairpins_48 : decode c_M_hairpins 48 = .ok (.istore_n 2, 1) := by decide +kernel
theorem d_M_hairpins_49 : decode c_M_hairpins 49 = .ok (.iinc 3 1, 3) := by decide +kernel
theorem d_M_hairpins_52 : decode c_M_hairpins 52 = .ok (.goto (-48), 3) := by decide +kernel
theorem d_M_hairpins_55 : decode c_M_hairpins 55 = .ok (.iload_n 2, 1) := by decide +kernel
theorem d_M_hairpins_56 : decode c_M_hairpins 56 = .ok (.ireturn, 1) := by decide +kernel
theorem d_M_brokenStep_0 : decode c_M_brokenStep 0 = .ok (.iconst 0, 1) := by decide +kernel
theorem d_M_brokenStep_1 : decode c_M_brokenStep 1 = .ok (.istore_n 2, 1) := by decide +kernel
theorem d_M_brokenStep_2 : decode c_M_brokenStep 2 = .ok (.iload_n 2, 1) := by decide +kernel
theorem d_M_brokenStep_3 : decode c_M_brokenStep 3 = .ok (.aload_n 0, 1) := by decide +kernel
theorem d_M_brokenStep_4 : decode c_M_brokenStep 4 = .ok (.iload_n 1, 1) := by decide +kernel
theorem d_M_brokenStep_5 : decode c_M_brokenStep 5 = .ok (.invokevirtual 129, 3) := by decide +kernel
theorem d_M_brokenStep_8 : decode c_M_brokenStep 8 = .ok (.iconst 1, 1) := by decide +kernel
theorem d_M_brokenStep_9 : decode c_M_brokenStep 9 = .ok (.isub, 1) := by decide +kernel
theorem d_M_brokenStep_10 : decode c_M_brokenStep 10 = .ok (.if_icmp .ge 30, 3) := by decide +kernel
theorem d_M_brokenStep_13 : decode c_M_brokenStep 13 = .ok (.aload_n 0, 1) := by decide +kernel
theorem d_M_brokenStep_14 : decode c_M_brokenStep 14 = .ok (.aload_n 0, 1) := by decide +kernel
theorem d_M_brokenStep_15 : decode c_M_brokenStep 15 = .ok (.iload_n 1, 1) := by decide +kernel
theorem d_M_brokenStep_16 : decode c_M_brokenStep 16 = .ok (.iload_n 2, 1) := by decide +kernel
theorem d_M_brokenStep_17 : decode c_M_brokenStep 17 = .ok (.invokevirtual 212, 3) := by decide +kernel
theorem d_M_brokenStep_20 : decode c_M_brokenStep 20 = .ok (.aload_n 0, 1) := by decide +kernel
theorem d_M_brokenStep_21 : decode c_M_brokenStep 21 = .ok (.iload_n 1, 1) := by decide +kernel
theorem d_M_brokenStep_22 : decode c_M_brokenStep 22 = .ok (.iload_n 2, 1) := by decide +kernel
theorem d_M_brokenStep_23 : decode c_M_brokenStep 23 = .ok (.invokevirtual 308, 3) := by decide +kernel
theorem d_M_brokenStep_26 : decode c_M_brokenStep 26 = .ok (.invokevirtual 149, 3) := by decide +kernel
theorem d_M_brokenStep_29 : decode c_M_brokenStep 29 = .ok (.ifCond .ne 5, 3) := by decide +kernel
theorem d_M_brokenStep_32 : decode c_M_brokenStep 32 = .ok (.iload_n 2, 1) := by decide +kernel
theorem d_M_brokenStep_33 : decode c_M_brokenStep 33 = .ok (.ireturn, 1) := by decide +kernel
theorem d_M_brokenStep_34 : decode c_M_brokenStep 34 = .ok (.iinc 2 1, 3) := by decide +kernel
theorem d_M_brokenStep_37 : decode c_M_brokenStep 37 = .ok (.goto (-35), 3) := by decide +kernel
theorem d_M_brokenStep_40 : decode c_M_brokenStep 40 = .ok (.iconst (-1), 1) := by decide +kernel
theorem d_M_brokenStep_41 : decode c_M_brokenStep 41 = .ok (.ireturn, 1) := by decide +kernel
theorem d_M_brokenBend_0 : decode c_M_brokenBend 0 = .ok (.iconst 1, 1) := by decide +kernel
theorem d_M_brokenBend_1 : decode c_M_brokenBend 1 = .ok (.istore_n 2, 1) := by decide +kernel
theorem d_M_brokenBend_2 : decode c_M_brokenBend 2 = .ok (.iload_n 2, 1) := by decide +kernel
theorem d_M_brokenBend_3 : decode c_M_brokenBend 3 = .ok (.aload_n 0, 1) := by decide +kernel
theorem d_M_brokenBend_4 : decode c_M_brokenBend 4 = .ok (.iload_n 1, 1) := by decide +kernel
theorem d_M_brokenBend_5 : decode c_M_brokenBend 5 = .ok (.invokevirtual 129, 3) := by decide +kernel
theorem d_M_brokenBend_8 : decode c_M_brokenBend 8 = .ok (.iconst 1, 1) := by decide +kernel
theorem d_M_brokenBend_9 : decode c_M_brokenBend 9 = .ok (.isub, 1) := by decide +kernel
theorem d_M_brokenBend_10 : decode c_M_brokenBend 10 = .ok (.if_icmp .ge 38, 3) := by decide +kernel
theorem d_M_brokenBend_13 : decode c_M_brokenBend 13 = .ok (.aload_n 0, 1) := by decide +kernel
theorem d_M_brokenBend_14 : decode c_M_brokenBend 14 = .ok (.aload_n 0, 1) := by decide +kernel
theorem d_M_brokenBend_15 : decode c_M_brokenBend 15 = .ok (.iload_n 1, 1) := by decide +kernel
theorem d_M_brokenBend_16 : decode c_M_brokenBend 16 = .ok (.iload_n 2, 1) := by decide +kernel
theorem d_M_brokenBend_17 : decode c_M_brokenBend 17 = .ok (.invokevirtual 212, 3) := by decide +kernel
theorem d_M_brokenBend_20 : decode c_M_brokenBend 20 = .ok (.aload_n 0, 1) := by decide +kernel
theorem d_M_brokenBend_21 : decode c_M_brokenBend 21 = .ok (.iload_n 1, 1) := by decide +kernel
theorem d_M_brokenBend_22 : decode c_M_brokenBend 22 = .ok (.iload_n 2, 1) := by decide +kernel
theorem d_M_brokenBend_23 : decode c_M_brokenBend 23 = .ok (.iconst 1, 1) := by decide +kernel
theorem d_M_brokenBend_24 : decode c_M_brokenBend 24 = .ok (.isub, 1) := by decide +kernel
theorem d_M_brokenBend_25 : decode c_M_brokenBend 25 = .ok (.invokevirtual 308, 3) := by decide +kernel
theorem d_M_brokenBend_28 : decode c_M_brokenBend 28 = .ok (.aload_n 0, 1) := by decide +kernel
theorem d_M_brokenBend_29 : decode c_M_brokenBend 29 = .ok (.iload_n 1, 1) := by decide +kernel
theorem d_M_brokenBend_30 : decode c_M_brokenBend 30 = .ok (.iload_n 2, 1) := by decide +kernel
theorem d_M_brokenBend_31 : decode c_M_brokenBend 31 = .ok (.invokevirtual 308, 3) := by decide +kernel
theorem d_M_brokenBend_34 : decode c_M_brokenBend 34 = .ok (.invokevirtual 152, 3) := by decide +kernel
theorem d_M_brokenBend_37 : decode c_M_brokenBend 37 = .ok (.ifCond .ne 5, 3) := by decide +kernel
theorem d_M_brokenBend_40 : decode c_M_brokenBend 40 = .ok (.iload_n 2, 1) := by decide +kernel
theorem d_M_brokenBend_41 : decode c_M_brokenBend 41 = .ok (.ireturn, 1) := by decide +kernel
theorem d_M_brokenBend_42 : decode c_M_brokenBend 42 = .ok (.iinc 2 1, 3) := by decide +kernel
theorem d_M_brokenBend_45 : decode c_M_brokenBend 45 = .ok (.goto (-43), 3) := by decide +kernel
theorem d_M_brokenBend_48 : decode c_M_brokenBend 48 = .ok (.iconst (-1), 1) := by decide +kernel
theorem d_M_brokenBend_49 : decode c_M_brokenBend 49 = .ok (.ireturn, 1) := by decide +kernel
theorem d_M_levels_0 : decode c_M_levels 0 = .ok (.aload_n 0, 1) := by decide +kernel
theorem d_M_levels_1 : decode c_M_levels 1 = .ok (.iload_n 1, 1) := by decide +kernel
theorem d_M_levels_2 : decode c_M_levels 2 = .ok (.iload_n 2, 1) := by decide +kernel
theorem d_M_levels_3 : decode c_M_levels 3 = .ok (.invokevirtual 356, 3) := by decide +kernel
theorem d_M_levels_6 : decode c_M_levels 6 = .ok (.aload_n 0, 1) := by decide +kernel
theorem d_M_levels_7 : decode c_M_levels 7 = .ok (.iload_n 1, 1) := by decide +kernel
theorem d_M_levels_8 : decode c_M_levels 8 = .ok (.iload_n 2, 1) := by decide +kernel
theorem d_M_levels_9 : decode c_M_levels 9 = .ok (.iconst 1, 1) := by decide +kernel
theorem d_M_levels_10 : decode c_M_levels 10 = .ok (.iadd, 1) := by decide +kernel
theorem d_M_levels_11 : decode c_M_levels 11 = .ok (.invokevirtual 356, 3) := by decide +kernel
theorem d_M_levels_14 : decode c_M_levels 14 = .ok (.invokestatic 98, 3) := by decide +kernel
theorem d_M_levels_17 : decode c_M_levels 17 = .ok (.ireturn, 1) := by decide +kernel
theorem d_M_steepest_0 : decode c_M_steepest 0 = .ok (.iconst 0, 1) := by decide +kernel
theorem d_M_steepest_1 : decode c_M_steepest 1 = .ok (.istore_n 2, 1) := by decide +kernel
theorem d_M_steepest_2 : decode c_M_steepest 2 = .ok (.iconst 1, 1) := by decide +kernel
theorem d_M_steepest_3 : decode c_M_steepest 3 = .ok (.istore_n 3, 1) := by decide +kernel
theorem d_M_steepest_4 : decode c_M_steepest 4 = .ok (.iload_n 3, 1) := by decide +kernel
theorem d_M_steepest_5 : decode c_M_steepest 5 = .ok (.aload_n 0, 1) := by decide +kernel
theorem d_M_steepest_6 : decode c_M_steepest 6 = .ok (.iload_n 1, 1) := by decide +kernel
theorem d_M_steepest_7 : decode c_M_steepest 7 = .ok (.invokevirtual 129, 3) := by decide +kernel
theorem d_M_steepest_10 : decode c_M_steepest 10 = .ok (.iconst 1, 1) := by decide +kernel
theorem d_M_steepest_11 : decode c_M_steepest 11 = .ok (.isub, 1) := by decide +kernel
theorem d_M_steepest_12 : decode c_M_steepest 12 = .ok (.if_icmp .ge 46, 3) := by decide +kernel
theorem d_M_steepest_15 : decode c_M_steepest 15 = .ok (.aload_n 0, 1) := by decide +kernel
theorem d_M_steepest_16 : decode c_M_steepest 16 = .ok (.iload_n 1, 1) := by decide +kernel
theorem d_M_steepest_17 : decode c_M_steepest 17 = .ok (.iload_n 3, 1) := by decide +kernel
theorem d_M_steepest_18 : decode c_M_steepest 18 = .ok (.invokevirtual 359, 3) := by decide +kernel
theorem d_M_steepest_21 : decode c_M_steepest 21 = .ok (.aload_n 0, 1) := by decide +kernel
theorem d_M_steepest_22 : decode c_M_steepest 22 = .ok (.iload_n 1, 1) := by decide +kernel
theorem d_M_steepest_23 : decode c_M_steepest 23 = .ok (.iload_n 2, 1) := by decide +kernel
theorem d_M_steepest_24 : decode c_M_steepest 24 = .ok (.invokevirtual 308, 3) := by decide +kernel
theorem d_M_steepest_27 : decode c_M_steepest 27 = .ok (.invokestatic 108, 3) := by decide +kernel
theorem d_M_steepest_30 : decode c_M_steepest 30 = .ok (.imul, 1) := by decide +kernel
theorem d_M_steepest_31 : decode c_M_steepest 31 = .ok (.aload_n 0, 1) := by decide +kernel
theorem d_M_steepest_32 : decode c_M_steepest 32 = .ok (.iload_n 1, 1) := by decide +kernel
theorem d_M_steepest_33 : decode c_M_steepest 33 = .ok (.iload_n 2, 1) := by decide +kernel
theorem d_M_steepest_34 : decode c_M_steepest 34 = .ok (.invokevirtual 359, 3) := by decide +kernel
theorem d_M_steepest_37 : decode c_M_steepest 37 = .ok (.aload_n 0, 1) := by decide +kernel
theorem d_M_steepest_38 : decode c_M_steepest 38 = .ok (.iload_n 1, 1) := by decide +kernel
theorem d_M_steepest_39 : decode c_M_steepest 39 = .ok (.iload_n 3, 1) := by decide +kernel
theorem d_M_steepest_40 : decode c_M_steepest 40 = .ok (.invokevirtual 308, 3) := by decide +kernel
theorem d_M_steepest_43 : decode c_M_steepest 43 = .ok (.invokestatic 108, 3) := by decide +kernel
theorem d_M_steepest_46 : decode c_M_steepest 46 = .ok (.imul, 1) := by decide +kernel
theorem d_M_steepest_47 : decode c_M_steepest 47 = .ok (.if_icmp .le 5, 3) := by decide +kernel
theorem d_M_steepest_50 : decode c_M_steepest 50 = .ok (.iload_n 3, 1) := by decide +kernel
theorem d_M_steepest_51 : decode c_M_steepest 51 = .ok (.istore_n 2, 1) := by decide +kernel
theorem d_M_steepest_52 : decode c_M_steepest 52 = .ok (.iinc 3 1, 3) := by decide +kernel
theorem d_M_steepest_55 : decode c_M_steepest 55 = .ok (.goto (-51), 3) := by decide +kernel
theorem d_M_steepest_58 : decode c_M_steepest 58 = .ok (.iload_n 2, 1) := by decide +kernel
theorem d_M_steepest_59 : decode c_M_steepest 59 = .ok (.ireturn, 1) := by decide +kernel
theorem d_M_earthNow_0 : decode c_M_earthNow 0 = .ok (.iconst 0, 1) := by decide +kernel
theorem d_M_earthNow_1 : decode c_M_earthNow 1 = .ok (.istore_n 2, 1) := by decide +kernel
theorem d_M_earthNow_2 : decode c_M_earthNow 2 = .ok (.iconst 0, 1) := by decide +kernel
theorem d_M_earthNow_3 : decode c_M_earthNow 3 = .ok (.istore_n 3, 1) := by decide +kernel
theorem d_M_earthNow_4 : decode c_M_earthNow 4 = .ok (.iload_n 3, 1) := by decide +kernel
theorem d_M_earthNow_5 : decode c_M_earthNow 5 = .ok (.aload_n 0, 1) := by decide +kernel
theorem d_M_earthNow_6 : decode c_M_earthNow 6 = .ok (.iload_n 1, 1) := by decide +kernel
theorem d_M_earthNow_7 : decode c_M_earthNow 7 = .ok (.invokevirtual 129, 3) := by decide +kernel
theorem d_M_earthNow_10 : decode c_M_earthNow 10 = .ok (.if_icmp .ge 22, 3) := by decide +kernel
theorem d_M_earthNow_13 : decode c_M_earthNow 13 = .ok (.iload_n 2, 1) := by decide +kernel
theorem d_M_earthNow_14 : decode c_M_earthNow 14 = .ok (.aload_n 0, 1) := by decide +kernel
theorem d_M_earthNow_15 : decode c_M_earthNow 15 = .ok (.aload_n 0, 1) := by decide +kernel
theorem d_M_earthNow_16 : decode c_M_earthNow 16 = .ok (.iload_n 1, 1) := by decide +kernel
theorem d_M_earthNow_17 : decode c_M_earthNow 17 = .ok (.iload_n 3, 1) := by decide +kernel
theorem d_M_earthNow_18 : decode c_M_earthNow 18 = .ok (.invokevirtual 362, 3) := by decide +kernel
theorem d_M_earthNow_21 : decode c_M_earthNow 21 = .ok (.invokevirtual 318, 3) := by decide +kernel
theorem d_M_earthNow_24 : decode c_M_earthNow 24 = .ok (.iadd, 1) := by decide +kernel
theorem d_M_earthNow_25 : decode c_M_earthNow 25 = .ok (.istore_n 2, 1) := by decide +kernel
theorem d_M_earthNow_26 : decode c_M_earthNow 26 = .ok (.iinc 3 1, 3) := by decide +kernel
theorem d_M_earthNow_29 : decode c_M_earthNow 29 = .ok (.goto (-25), 3) := by decide +kernel
theorem d_M_earthNow_32 : decode c_M_earthNow 32 = .ok (.iload_n 2, 1) := by decide +kernel
theorem d_M_earthNow_33 : decode c_M_earthNow 33 = .ok (.ireturn, 1) := by decide +kernel
theorem d_M_offsets_0 : decode c_M_offsets 0 = .ok (.iconst 0, 1) := by decide +kernel
theorem d_M_offsets_1 : decode c_M_offsets 1 = .ok (.istore_n 2, 1) := by decide +kernel
theorem d_M_offsets_2 : decode c_M_offsets 2 = .ok (.iconst 0, 1) := by decide +kernel
theorem d_M_offsets_3 : decode c_M_offsets 3 = .ok (.istore_n 3, 1) := by decide +kernel
theorem d_M_offsets_4 : decode c_M_offsets 4 = .ok (.iload_n 3, 1) := by decide +kernel
theorem d_M_offsets_5 : decode c_M_offsets 5 = .ok (.aload_n 0, 1) := by decide +kernel
theorem d_M_offsets_6 : decode c_M_offsets 6 = .ok (.iload_n 1, 1) := by decide +kernel
theorem d_M_offsets_7 : decode c_M_offsets 7 = .ok (.invokevirtual 129, 3) := by decide +kernel
theorem d_M_offsets_10 : decode c_M_offsets 10 = .ok (.if_icmp .ge 18, 3) := by decide +kernel
theorem d_M_offsets_13 : decode c_M_offsets 13 = .ok (.iload_n 2, 1) := by decide +kernel
theorem d_M_offsets_14 : decode c_M_offsets 14 = .ok (.aload_n 0, 1) := by decide +kernel
theorem d_M_offsets_15 : decode c_M_offsets 15 = .ok (.iload_n 1, 1) := by decide +kernel
theorem d_M_offsets_16 : decode c_M_offsets 16 = .ok (.iload_n 3, 1) := by decide +kernel
theorem d_M_offsets_17 : decode c_M_offsets 17 = .ok (.invokevirtual 362, 3) := by decide +kernel
theorem d_M_offsets_20 : decode c_M_offsets 20 = .ok (.iadd, 1) := by decide +kernel
theorem d_M_offsets_21 : decode c_M_offsets 21 = .ok (.istore_n 2, 1) := by decide +kernel
theorem d_M_offsets_22 : decode c_M_offsets 22 = .ok (.iinc 3 1, 3) := by decide +kernel
theorem d_M_offsets_25 : decode c_M_offsets 25 = .ok (.goto (-21), 3) := by decide +kernel
theorem d_M_offsets_28 : decode c_M_offsets 28 = .ok (.iload_n 2, 1) := by decide +kernel
theorem d_M_offsets_29 : decode c_M_offsets 29 = .ok (.ireturn, 1) := by decide +kernel
theorem d_M_levelAt_0 : decode c_M_levelAt 0 = .ok (.aload_n 0, 1) := by decide +kernel
theorem d_M_levelAt_1 : decode c_M_levelAt 1 = .ok (.getfield 7, 3) := by decide +kernel
theorem d_M_levelAt_4 : decode c_M_levelAt 4 = .ok (.bipush 13, 2) := by decide +kernel
theorem d_M_levelAt_6 : decode c_M_levelAt 6 = .ok (.aload_n 0, 1) := by decide +kernel
theorem d_M_levelAt_7 : decode c_M_levelAt 7 = .ok (.iload_n 1, 1) := by decide +kernel
theorem d_M_levelAt_8 : decode c_M_levelAt 8 = .ok (.iload_n 2, 1) := by decide +kernel
theorem d_M_levelAt_9 : decode c_M_levelAt 9 = .ok (.invokevirtual 212, 3) := by decide +kernel
theorem d_M_levelAt_12 : decode c_M_levelAt 12 = .ok (.iadd, 1) := by decide +kernel
theorem d_M_levelAt_13 : decode c_M_levelAt 13 = .ok (.iaload, 1) := by decide +kernel
theorem d_M_levelAt_14 : decode c_M_levelAt 14 = .ok (.aload_n 0, 1) := by decide +kernel
theorem d_M_levelAt_15 : decode c_M_levelAt 15 = .ok (.iload_n 1, 1) := by decide +kernel
theorem d_M_levelAt_16 : decode c_M_levelAt 16 = .ok (.iload_n 2, 1) := by decide +kernel
theorem d_M_levelAt_17 : decode c_M_levelAt 17 = .ok (.invokevirtual 362, 3) := by decide +kernel
theorem d_M_levelAt_20 : decode c_M_levelAt 20 = .ok (.iadd, 1) := by decide +kernel
theorem d_M_levelAt_21 : decode c_M_levelAt 21 = .ok (.ireturn, 1) := by decide +kernel
theorem d_M_highest_0 : decode c_M_highest 0 = .ok (.aload_n 0, 1) := by decide +kernel
theorem d_M_highest_1 : decode c_M_highest 1 = .ok (.iload_n 1, 1) := by decide +kernel
theorem d_M_highest_2 : decode c_M_highest 2 = .ok (.iconst 0, 1) := by decide +kernel
theorem d_M_highest_3 : decode c_M_highest 3 = .ok (.invokevirtual 356, 3) := by decide +kernel
theorem d_M_highest_6 : decode c_M_highest 6 = .ok (.istore_n 3, 1) := by decide +kernel
theorem d_M_highest_7 : decode c_M_highest 7 = .ok (.iconst 1, 1) := by decide +kernel
theorem d_M_highest_8 : decode c_M_highest 8 = .ok (.istore 4, 2) := by decide +kernel
theorem d_M_highest_10 : decode c_M_highest 10 = .ok (.iload 4, 2) := by decide +kernel
theorem d_M_highest_12 : decode c_M_highest 12 = .ok (.aload_n 0, 1) := by decide +kernel
theorem d_M_highest_13 : decode c_M_highest 13 = .ok (.iload_n 1, 1) := by decide +kernel
theorem d_M_highest_14 : decode c_M_highest 14 = .ok (.invokevirtual 129, 3) := by decide +kernel
theorem d_M_highest_17 : decode c_M_highest 17 = .ok (.if_icmp .ge 40, 3) := by decide +kernel
theorem d_M_highest_20 : decode c_M_highest 20 = .ok (.aload_n 0, 1) := by decide +kernel
theorem d_M_highest_21 : decode c_M_highest 21 = .ok (.iload_n 1, 1) := by decide +kernel
theorem d_M_highest_22 : decode c_M_highest 22 = .ok (.iload 4, 2) := by decide +kernel
theorem d_M_highest_24 : decode c_M_highest 24 = .ok (.invokevirtual 356, 3) := by decide +kernel
theorem d_M_highest_27 : decode c_M_highest 27 = .ok (.istore 5, 2) := by decide +kernel
theorem d_M_highest_29 : decode c_M_highest 29 = .ok (.iload_n 2, 1) := by decide +kernel
theorem d_M_highest_30 : decode c_M_highest 30 = .ok (.ifCond .eq 12, 3) := by decide +kernel
theorem d_M_highest_33 : decode c_M_highest 33 = .ok (.iload 5, 2) := by decide +kernel
theorem d_M_highest_35 : decode c_M_highest 35 = .ok (.iload_n 3, 1) := by decide +kernel
theorem d_M_highest_36 : decode c_M_highest 36 = .ok (.if_icmp .le 15, 3) := by decide +kernel
theorem d_M_highest_39 : decode c_M_highest 39 = .ok (.goto 9, 3) := by decide +kernel
theorem d_M_highest_42 : decode c_M_highest 42 = .ok (.iload 5, 2) := by decide +kernel
theorem d_M_highest_44 : decode c_M_highest 44 = .ok (.iload_n 3, 1) := by decide +kernel
theorem d_M_highest_45 : decode c_M_highest 45 = .ok (.if_icmp .ge 6, 3) := by decide +kernel
theorem d_M_highest_48 : decode c_M_highest 48 = .ok (.iload 5, 2) := by decide +kernel
theorem d_M_highest_50 : decode c_M_highest 50 = .ok (.istore_n 3, 1) := by decide +kernel
theorem d_M_highest_51 : decode c_M_highest 51 = .ok (.iinc 4 1, 3) := by decide +kernel
theorem d_M_highest_54 : decode c_M_highest 54 = .ok (.goto (-44), 3) := by decide +kernel
theorem d_M_highest_57 : decode c_M_highest 57 = .ok (.iload_n 3, 1) := by decide +kernel
theorem d_M_highest_58 : decode c_M_highest 58 = .ok (.ireturn, 1) := by decide +kernel
theorem d_M_straight_0 : decode c_M_straight 0 = .ok (.iconst 0, 1) := by decide +kernel
theorem d_M_straight_1 : decode c_M_straight 1 = .ok (.istore_n 2, 1) := by decide +kernel
theorem d_M_straight_2 : decode c_M_straight 2 = .ok (.iconst 0, 1) := by decide +kernel
theorem d_M_straight_3 : decode c_M_straight 3 = .ok (.istore_n 3, 1) := by decide +kernel
theorem d_M_straight_4 : decode c_M_straight 4 = .ok (.iconst 0, 1) := by decide +kernel
theorem d_M_straight_5 : decode c_M_straight 5 = .ok (.istore 4, 2) := by decide +kernel
theorem d_M_straight_7 : decode c_M_straight 7 = .ok (.iload 4, 2) := by decide +kernel
theorem d_M_straight_9 : decode c_M_straight 9 = .ok (.aload_n 0, 1) := by decide +kernel
theorem d_M_straight_10 : decode c_M_straight 10 = .ok (.iload_n 1, 1) := by decide +kernel
theorem d_M_straight_11 : decode c_M_straight 11 = .ok (.invokevirtual 129, 3) := by decide +kernel
theorem d_M_straight_14 : decode c_M_straight 14 = .ok (.iconst 1, 1) := by decide +kernel
theorem d_M_straight_15 : decode c_M_straight 15 = .ok (.isub, 1) := by decide +kernel
theorem d_M_straight_16 : decode c_M_straight 16 = .ok (.if_icmp .ge 48, 3) := by decide +kernel
theorem d_M_straight_19 : decode c_M_straight 19 = .ok (.iload 4, 2) := by decide +kernel
theorem d_M_straight_21 : decode c_M_straight 21 = .ok (.ifCond .le 28, 3) := by decide +kernel
theorem d_M_straight_24 : decode c_M_straight 24 = .ok (.aload_n 0, 1) := by decide +kernel
theorem d_M_straight_25 : decode c_M_straight 25 = .ok (.iload_n 1, 1) := by decide +kernel
theorem d_M_straight_26 : decode c_M_straight 26 = .ok (.iload 4, 2) := by decide +kernel
theorem d_M_straight_28 : decode c_M_straight 28 = .ok (.invokevirtual 308, 3) := by decide +kernel
theorem d_M_straight_31 : decode c_M_straight 31 = .ok (.aload_n 0, 1) := by decide +kernel
theorem d_M_straight_32 : decode c_M_straight 32 = .ok (.iload_n 1, 1) := by decide +kernel
theorem d_M_straight_33 : decode c_M_straight 33 = .ok (.iload 4, 2) := by decide +kernel
theorem d_M_straight_35 : decode c_M_straight 35 = .ok (.iconst 1, 1) := by decide +kernel
theorem d_M_straight_36 : decode c_M_straight 36 = .ok (.isub, 1) := by decide +kernel
theorem d_M_straight_37 : decode c_M_straight 37 = .ok (.invokevirtual 308, 3) := by decide +kernel
theorem d_M_straight_40 : decode c_M_straight 40 = .ok (.if_icmp .ne 9, 3) := by decide +kernel
theorem d_M_straight_43 : decode c_M_straight 43 = .ok (.iload_n 3, 1) := by decide +kernel
theorem d_M_straight_44 : decode c_M_straight 44 = .ok (.iconst 1, 1) := by decide +kernel
theorem d_M_straight_45 : decode c_M_straight 45 = .ok (.iadd, 1) := by decide +kernel
theorem d_M_straight_46 : decode c_M_straight 46 = .ok (.goto 4, 3) := by decide +kernel
theorem d_M_straight_49 : decode c_M_straight 49 = .ok (.iconst 1, 1) := by decide +kernel
theorem d_M_straight_50 : decode c_M_straight 50 = .ok (.istore_n 3, 1) := by decide +kernel
theorem d_M_straight_51 : decode c_M_straight 51 = .ok (.iload_n 3, 1) := by decide +kernel
theorem d_M_straight_52 : decode c_M_straight 52 = .ok (.iload_n 2, 1) := by decide +kernel
theorem d_M_straight_53 : decode c_M_straight 53 = .ok (.if_icmp .le 5, 3) := by decide +kernel
theorem d_M_straight_56 : decode c_M_straight 56 = .ok (.iload_n 3, 1) := by decide +kernel
theorem d_M_straight_57 : decode c_M_straight 57 = .ok (.istore_n 2, 1) := by decide +kernel
theorem d_M_straight_58 : decode c_M_straight 58 = .ok (.iinc 4 1, 3) := by decide +kernel
theorem d_M_straight_61 : decode c_M_straight 61 = .ok (.goto (-54), 3) := by decide +kernel
theorem d_M_straight_64 : decode c_M_straight 64 = .ok (.iload_n 2, 1) := by decide +kernel
theorem d_M_straight_65 : decode c_M_straight 65 = .ok (.ireturn, 1) := by decide +kernel
theorem d_M_descent_0 : decode c_M_descent 0 = .ok (.iconst 0, 1) := by decide +kernel
theorem d_M_descent_1 : decode c_M_descent 1 = .ok (.istore_n 2, 1) := by decide +kernel
theorem d_M_descent_2 : decode c_M_descent 2 = .ok (.iconst 0, 1) := by decide +kernel
theorem d_M_descent_3 : decode c_M_descent 3 = .ok (.istore_n 3, 1) := by decide +kernel
theorem d_M_descent_4 : decode c_M_descent 4 = .ok (.iload_n 3, 1) := by decide +kernel
theorem d_M_descent_5 : decode c_M_descent 5 = .ok (.aload_n 0, 1) := by decide +kernel
theorem d_M_descent_6 : decode c_M_descent 6 = .ok (.iload_n 1, 1) := by decide +kernel
theorem d_M_descent_7 : decode c_M_descent 7 = .ok (.invokevirtual 129, 3) := by decide +kernel
theorem d_M_descent_10 : decode c_M_descent 10 = .ok (.iconst 1, 1) := by decide +kernel
theorem d_M_descent_11 : decode c_M_descent 11 = .ok (.isub, 1) := by decide +kernel
theorem d_M_descent_12 : decode c_M_descent 12 = .ok (.if_icmp .ge 30, 3) := by decide +kernel
theorem d_M_descent_15 : decode c_M_descent 15 = .ok (.iload_n 2, 1) := by decide +kernel
theorem d_M_descent_16 : decode c_M_descent 16 = .ok (.aload_n 0, 1) := by decide +kernel
theorem d_M_descent_17 : decode c_M_descent 17 = .ok (.aload_n 0, 1) := by decide +kernel
theorem d_M_descent_18 : decode c_M_descent 18 = .ok (.iload_n 1, 1) := by decide +kernel
theorem d_M_descent_19 : decode c_M_descent 19 = .ok (.iload_n 3, 1) := by decide +kernel
theorem d_M_descent_20 : decode c_M_descent 20 = .ok (.iconst 1, 1) := by decide +kernel
theorem d_M_descent_21 : decode c_M_descent 21 = .ok (.iadd, 1) := by decide +kernel
theorem d_M_descent_22 : decode c_M_descent 22 = .ok (.invokevirtual 212, 3) := by decide +kernel
theorem d_M_descent_25 : decode c_M_descent 25 = .ok (.aload_n 0, 1) := by decide +kernel
theorem d_M_descent_26 : decode c_M_descent 26 = .ok (.iload_n 1, 1) := by decide +kernel
theorem d_M_descent_27 : decode c_M_descent 27 = .ok (.iload_n 3, 1) := by decide +kernel
theorem d_M_descent_28 : decode c_M_descent 28 = .ok (.invokevirtual 212, 3) := by decide +kernel
theorem d_M_descent_31 : decode c_M_descent 31 = .ok (.invokevirtual 136, 3) := by decide +kernel
theorem d_M_descent_34 : decode c_M_descent 34 = .ok (.iadd, 1) := by decide +kernel
theorem d_M_descent_35 : decode c_M_descent 35 = .ok (.istore_n 2, 1) := by decide +kernel
theorem d_M_descent_36 : decode c_M_descent 36 = .ok (.iinc 3 1, 3) := by decide +kernel
theorem d_M_descent_39 : decode c_M_descent 39 = .ok (.goto (-35), 3) := by decide +kernel
theorem d_M_descent_42 : decode c_M_descent 42 = .ok (.iload_n 2, 1) := by decide +kernel
theorem d_M_descent_43 : decode c_M_descent 43 = .ok (.ireturn, 1) := by decide +kernel
theorem d_M_road_0 : decode c_M_road 0 = .ok (.aload_n 0, 1) := by decide +kernel
theorem d_M_road_1 : decode c_M_road 1 = .ok (.iload_n 1, 1) := by decide +kernel
theorem d_M_road_2 : decode c_M_road 2 = .ok (.invokestatic 209, 3) := by decide +kernel
theorem d_M_road_5 : decode c_M_road 5 = .ok (.ifCond .ne 7, 3) := by decide +kernel
theorem d_M_road_8 : decode c_M_road 8 = .ok (.iconst 1, 1) := by decide +kernel
theorem d_M_road_9 : decode c_M_road 9 = .ok (.goto 30, 3) := by decide +kernel
theorem d_M_road_12 : decode c_M_road 12 = .ok (.iload_n 2, 1) := by decide +kernel
theorem d_M_road_13 : decode c_M_road 13 = .ok (.iconst 0, 1) := by decide +kernel
theorem d_M_road_14 : decode c_M_road 14 = .ok (.bipush 14, 2) := by decide +kernel
theorem d_M_road_16 : decode c_M_road 16 = .ok (.invokestatic 94, 3) := by decide +kernel
theorem d_M_road_19 : decode c_M_road 19 = .ok (.ifCond .ne 7, 3) := by decide +kernel
theorem d_M_road_22 : decode c_M_road 22 = .ok (.iconst 2, 1) := by decide +kernel
theorem d_M_road_23 : decode c_M_road 23 = .ok (.goto 16, 3) := by decide +kernel
theorem d_M_road_26 : decode c_M_road 26 = .ok (.aload_n 0, 1) := by decide +kernel
theorem d_M_road_27 : decode c_M_road 27 = .ok (.iload_n 1, 1) := by decide +kernel
theorem d_M_road_28 : decode c_M_road 28 = .ok (.invokevirtual 129, 3) := by decide +kernel
theorem d_M_road_31 : decode c_M_road 31 = .ok (.ifCond .ne 7, 3) := by decide +kernel
theorem d_M_road_34 : decode c_M_road 34 = .ok (.iconst 3, 1) := by decide +kernel
theorem d_M_road_35 : decode c_M_road 35 = .ok (.goto 4, 3) := by decide +kernel
theorem d_M_road_38 : decode c_M_road 38 = .ok (.iconst 0, 1) := by decide +kernel
theorem d_M_road_39 : decode c_M_road 39 = .ok (.putfield 87, 3) := by decide +kernel
theorem d_M_road_42 : decode c_M_road 42 = .ok (.aload_n 0, 1) := by decide +kernel
theorem d_M_road_43 : decode c_M_road 43 = .ok (.getfield 87, 3) := by decide +kernel
theorem d_M_road_46 : decode c_M_road 46 = .ok (.ifCond .le 5, 3) := by decide +kernel
theorem d_M_road_49 : decode c_M_road 49 = .ok (.iconst 0, 1) := by decide +kernel
theorem d_M_road_50 : decode c_M_road 50 = .ok (.ireturn, 1) := by decide +kernel
theorem d_M_road_51 : decode c_M_road 51 = .ok (.aload_n 0, 1) := by decide +kernel
theorem d_M_road_52 : decode c_M_road 52 = .ok (.iload_n 1, 1) := by decide +kernel
theorem d_M_road_53 : decode c_M_road 53 = .ok (.invokevirtual 365, 3) := by decide +kernel
theorem d_M_road_56 : decode c_M_road 56 = .ok (.iload_n 2, 1) := by decide +kernel
theorem d_M_road_57 : decode c_M_road 57 = .ok (.tableswitch 157 0 13 #[71, 77, 83, 89, 95, 101, 107, 113, 119, 125, 131, 137, 144, 151], 71) := by decide +kernel
theorem d_M_road_128 : decode c_M_road 128 = .ok (.aload_n 0, 1) := by decide +kernel
theorem d_M_road_129 : decode c_M_road 129 = .ok (.iload_n 1, 1) := by decide +kernel
theorem d_M_road_130 : decode c_M_road 130 = .ok (.invokevirtual 129, 3) := by decide +kernel
theorem d_M_road_133 : decode c_M_road 133 = .ok (.ireturn, 1) := by decide +kernel
theorem d_M_road_134 : decode c_M_road 134 = .ok (.aload_n 0, 1) := by decide +kernel
theorem d_M_road_135 : decode c_M_road 135 = .ok (.iconst 1, 1) := by decide +kernel
theorem d_M_road_136 : decode c_M_road 136 = .ok (.invokevirtual 305, 3) := by decide +kernel
theorem d_M_road_139 : decode c_M_road 139 = .ok (.ireturn, 1) := by decide +kernel
theorem d_M_road_140 : decode c_M_road 140 = .ok (.aload_n 0, 1) := by decide +kernel
theorem d_M_road_141 : decode c_M_road 141 = .ok (.iconst 2, 1) := by decide +kernel
theorem d_M_road_142 : decode c_M_road 142 = .ok (.invokevirtual 305, 3) := by decide +kernel
theorem d_M_road_145 : decode c_M_road 145 = .ok (.ireturn, 1) := by decide +kernel
theorem d_M_road_146 : decode c_M_road 146 = .ok (.aload_n 0, 1) := by decide +kernel
theorem d_M_road_147 : decode c_M_road 147 = .ok (.iconst 0, 1) := by decide +kernel
theorem d_M_road_148 : decode c_M_road 148 = .ok (.invokevirtual 305, 3) := by decide +kernel
theorem d_M_road_151 : decode c_M_road 151 = .ok (.ireturn, 1) := by decide +kernel
theorem d_M_road_152 : decode c_M_road 152 = .ok (.aload_n 0, 1) := by decide +kernel
theorem d_M_road_153 : decode c_M_road 153 = .ok (.iload_n 1, 1) := by decide +kernel
theorem d_M_road_154 : decode c_M_road 154 = .ok (.invokevirtual 368, 3) := by decide +kernel
theorem d_M_road_157 : decode c_M_road 157 = .ok (.ireturn, 1) := by decide +kernel
theorem d_M_road_158 : decode c_M_road 158 = .ok (.aload_n 0, 1) := by decide +kernel
theorem d_M_road_159 : decode c_M_road 159 = .ok (.iload_n 1, 1) := by decide +kernel
theorem d_M_road_160 : decode c_M_road 160 = .ok (.invokevirtual 371, 3) := by decide +kernel
theorem d_M_road_163 : decode c_M_road 163 = .ok (.ireturn, 1) := by decide +kernel
theorem d_M_road_164 : decode c_M_road 164 = .ok (.aload_n 0, 1) := by decide +kernel
theorem d_M_road_165 : decode c_M_road 165 = .ok (.iload_n 1, 1) := by decide +kernel
theorem d_M_road_166 : decode c_M_road 166 = .ok (.invokevirtual 374, 3) := by decide +kernel
theorem d_M_road_169 : decode c_M_road 169 = .ok (.ireturn, 1) := by decide +kernel
theorem d_M_road_170 : decode c_M_road 170 = .ok (.aload_n 0, 1) := by decide +kernel
theorem d_M_road_171 : decode c_M_road 171 = .ok (.iload_n 1, 1) := by decide +kernel
theorem d_M_road_172 : decode c_M_road 172 = .ok (.invokevirtual 377, 3) := by decide +kernel
theorem d_M_road_175 : decode c_M_road 175 = .ok (.ireturn, 1) := by decide +kernel
theorem d_M_road_176 : decode c_M_road 176 = .ok (.aload_n 0, 1) := by decide +kernel
theorem d_M_road_177 : decode c_M_road 177 = .ok (.iload_n 1, 1) := by decide +kernel
theorem d_M_road_178 : decode c_M_road 178 = .ok (.invokevirtual 380, 3) := by decide +kernel
theorem d_M_road_181 : decode c_M_road 181 = .ok (.ireturn, 1) := by decide +kernel
theorem d_M_road_182 : decode c_M_road 182 = .ok (.aload_n 0, 1) := by decide +kernel
theorem d_M_road_183 : decode c_M_road 183 = .ok (.iload_n 1, 1) := by decide +kernel
theorem d_M_road_184 : decode c_M_road 184 = .ok (.invokevirtual 383, 3) := by decide +kernel
theorem d_M_road_187 : decode c_M_road 187 = .ok (.ireturn, 1) := by decide +kernel
theorem d_M_road_188 : decode c_M_road 188 = .ok (.aload_n 0, 1) := by decide +kernel
theorem d_M_road_189 : decode c_M_road 189 = .ok (.iload_n 1, 1) := by decide +kernel
theorem d_M_road_190 : decode c_M_road 190 = .ok (.invokevirtual 386, 3) := by decide +kernel
theorem d_M_road_193 : decode c_M_road 193 = .ok (.ireturn, 1) := by decide +kernel
theorem d_M_road_194 : decode c_M_road 194 = .ok (.aload_n 0, 1) := by decide +kernel
theorem d_M_road_195 : decode c_M_road 195 = .ok (.iload_n 1, 1) := by decide +kernel
theorem d_M_road_196 : decode c_M_road 196 = .ok (.iconst 1, 1) := by decide +kernel
theorem d_M_road_197 : decode c_M_road 197 = .ok (.invokevirtual 389, 3) := by decide +kernel
theorem d_M_road_200 : decode c_M_road 200 = .ok (.ireturn, 1) := by decide +kernel
theorem d_M_road_201 : decode c_M_road 201 = .ok (.aload_n 0, 1) := by decide +kernel
theorem d_M_road_202 : decode c_M_road 202 = .ok (.iload_n 1, 1) := by decide +kernel
theorem d_M_road_203 : decode c_M_road 203 = .ok (.iconst 0, 1) := by decide +kernel
theorem d_M_road_204 : decode c_M_road 204 = .ok (.invokevirtual 389, 3) := by decide +kernel
theorem d_M_road_207 : decode c_M_road 207 = .ok (.ireturn, 1) := by decide +kernel
theorem d_M_road_208 : decode c_M_road 208 = .ok (.aload_n 0, 1) := by decide +kernel
theorem d_M_road_209 : decode c_M_road 209 = .ok (.iload_n 1, 1) := by decide +kernel
theorem d_M_road_210 : decode c_M_road 210 = .ok (.invokevirtual 393, 3) := by decide +kernel
theorem d_M_road_213 : decode c_M_road 213 = .ok (.ireturn, 1) := by decide +kernel
theorem d_M_road_214 : decode c_M_road 214 = .ok (.aload_n 0, 1) := by decide +kernel
theorem d_M_road_215 : decode c_M_road 215 = .ok (.iload_n 1, 1) := by decide +kernel
theorem d_M_road_216 : decode c_M_road 216 = .ok (.invokevirtual 396, 3) := by decide +kernel
theorem d_M_road_219 : decode c_M_road 219 = .ok (.ireturn, 1) := by decide +kernel
theorem d_M_at_0 : decode c_M_at 0 = .ok (.aload_n 0, 1) := by decide +kernel
theorem d_M_at_1 : decode c_M_at 1 = .ok (.iload_n 1, 1) := by decide +kernel
theorem d_M_at_2 : decode c_M_at 2 = .ok (.invokestatic 209, 3) := by decide +kernel
theorem d_M_at_5 : decode c_M_at 5 = .ok (.ifCond .ne 7, 3) := by decide +kernel
theorem d_M_at_8 : decode c_M_at 8 = .ok (.iconst 1, 1) := by decide +kernel
theorem d_M_at_9 : decode c_M_at 9 = .ok (.goto 16, 3) := by decide +kernel
theorem d_M_at_12 : decode c_M_at 12 = .ok (.aload_n 0, 1) := by decide +kernel
theorem d_M_at_13 : decode c_M_at 13 = .ok (.iload_n 1, 1) := by decide +kernel
theorem d_M_at_14 : decode c_M_at 14 = .ok (.invokevirtual 129, 3) := by decide +kernel
theorem d_M_at_17 : decode c_M_at 17 = .ok (.ifCond .ne 7, 3) := by decide +kernel
theorem d_M_at_20 : decode c_M_at 20 = .ok (.iconst 2, 1) := by decide +kernel
theorem d_M_at_21 : decode c_M_at 21 = .ok (.goto 4, 3) := by decide +kernel
theorem d_M_at_24 : decode c_M_at 24 = .ok (.iconst 0, 1) := by decide +kernel
theorem d_M_at_25 : decode c_M_at 25 = .ok (.putfield 87, 3) := by decide +kernel
theorem d_M_at_28 : decode c_M_at 28 = .ok (.aload_n 0, 1) := by decide +kernel
theorem d_M_at_29 : decode c_M_at 29 = .ok (.getfield 87, 3) := by decide +kernel
theorem d_M_at_32 : decode c_M_at 32 = .ok (.ifCond .le 5, 3) := by decide +kernel
theorem d_M_at_35 : decode c_M_at 35 = .ok (.iconst 0, 1) := by decide +kernel
theorem d_M_at_36 : decode c_M_at 36 = .ok (.ireturn, 1) := by decide +kernel
theorem d_M_at_37 : decode c_M_at 37 = .ok (.iload_n 2, 1) := by decide +kernel
theorem d_M_at_38 : decode c_M_at 38 = .ok (.iconst 0, 1) := by decide +kernel
theorem d_M_at_39 : decode c_M_at 39 = .ok (.aload_n 0, 1) := by decide +kernel
theorem d_M_at_40 : decode c_M_at 40 = .ok (.iload_n 1, 1) := by decide +kernel
theorem d_M_at_41 : decode c_M_at 41 = .ok (.invokevirtual 129, 3) := by decide +kernel
theorem d_M_at_44 : decode c_M_at 44 = .ok (.iconst 1, 1) := by decide +kernel
theorem d_M_at_45 : decode c_M_at 45 = .ok (.isub, 1) := by decide +kernel
theorem d_M_at_46 : decode c_M_at 46 = .ok (.invokestatic 94, 3) := by decide +kernel
theorem d_M_at_49 : decode c_M_at 49 = .ok (.istore 4, 2) := by decide +kernel
theorem d_M_at_51 : decode c_M_at 51 = .ok (.iload_n 3, 1) := by decide +kernel
theorem d_M_at_52 : decode c_M_at 52 = .ok (.ifCond .eq 20, 3) := by decide +kernel
theorem d_M_at_55 : decode c_M_at 55 = .ok (.iload 4, 2) := by decide +kernel
theorem d_M_at_57 : decode c_M_at 57 = .ok (.ifCond .eq 12, 3) := by decide +kernel
theorem d_M_at_60 : decode c_M_at 60 = .ok (.aload_n 0, 1) := by decide +kernel
theorem d_M_at_61 : decode c_M_at 61 = .ok (.iload_n 1, 1) := by decide +kernel
theorem d_M_at_62 : decode c_M_at 62 = .ok (.iload_n 2, 1) := by decide +kernel
theorem d_M_at_63 : decode c_M_at 63 = .ok (.invokevirtual 362, 3) := by decide +kernel
theorem d_M_at_66 : decode c_M_at 66 = .ok (.goto 5, 3) := by decide +kernel
theorem d_M_at_69 : decode c_M_at 69 = .ok (.bipush 100, 2) := by decide +kernel
theorem d_M_at_71 : decode c_M_at 71 = .ok (.ireturn, 1) := by decide +kernel
theorem d_M_at_72 : decode c_M_at 72 = .ok (.iload 4, 2) := by decide +kernel
theorem d_M_at_74 : decode c_M_at 74 = .ok (.ifCond .eq 12, 3) := by decide +kernel
theorem d_M_at_77 : decode c_M_at 77 = .ok (.aload_n 0, 1) := by decide +kernel
theorem d_M_at_78 : decode c_M_at 78 = .ok (.iload_n 1, 1) := by decide +kernel
theorem d_M_at_79 : decode c_M_at 79 = .ok (.iload_n 2, 1) := by decide +kernel
theorem d_M_at_80 : decode c_M_at 80 = .ok (.invokevirtual 212, 3) := by decide +kernel
theorem d_M_at_83 : decode c_M_at 83 = .ok (.goto 4, 3) := by decide +kernel
theorem d_M_at_86 : decode c_M_at 86 = .ok (.iconst (-1), 1) := by decide +kernel
theorem d_M_at_87 : decode c_M_at 87 = .ok (.ireturn, 1) := by decide +kernel
theorem d_M_hasStep_0 : decode c_M_hasStep 0 = .ok (.iconst 0, 1) := by decide +kernel
theorem d_M_hasStep_1 : decode c_M_hasStep 1 = .ok (.istore 5, 2) := by decide +kernel
theorem d_M_hasStep_3 : decode c_M_hasStep 3 = .ok (.iload 5, 2) := by decide +kernel
theorem d_M_hasStep_5 : decode c_M_hasStep 5 = .ok (.iload_n 2, 1) := by decide +kernel
theorem d_M_hasStep_6 : decode c_M_hasStep 6 = .ok (.if_icmp .ge 57, 3) := by decide +kernel
theorem d_M_hasStep_9 : decode c_M_hasStep 9 = .ok (.aload_n 0, 1) := by decide +kernel
theorem d_M_hasStep_10 : decode c_M_hasStep 10 = .ok (.iload_n 1, 1) := by decide +kernel
theorem d_M_hasStep_11 : decode c_M_hasStep 11 = .ok (.iload 5, 2) := by decide +kernel
theorem d_M_hasStep_13 : decode c_M_hasStep 13 = .ok (.invokevirtual 212, 3) := by decide +kernel
theorem d_M_hasStep_16 : decode c_M_hasStep 16 = .ok (.istore 6, 2) := by decide +kernel
theorem d_M_hasStep_18 : decode c_M_hasStep 18 = .ok (.aload_n 0, 1) := by decide +kernel
theorem d_M_hasStep_19 : decode c_M_hasStep 19 = .ok (.iload_n 1, 1) := by decide +kernel
theorem d_M_hasStep_20 : decode c_M_hasStep 20 = .ok (.iload 5, 2) := by decide +kernel
theorem d_M_hasStep_22 : decode c_M_hasStep 22 = .ok (.iconst 1, 1) := by decide +kernel
theorem d_M_hasStep_23 : decode c_M_hasStep 23 = .ok (.iadd, 1) := by decide +kernel
theorem d_M_hasStep_24 : decode c_M_hasStep 24 = .ok (.invokevirtual 212, 3) := by decide +kernel
theorem d_M_hasStep_27 : decode c_M_hasStep 27 = .ok (.istore 7, 2) := by decide +kernel
theorem d_M_hasStep_29 : decode c_M_hasStep 29 = .ok (.iload 6, 2) := by decide +kernel
theorem d_M_hasStep_31 : decode c_M_hasStep 31 = .ok (.iload_n 3, 1) := by decide +kernel
theorem d_M_hasStep_32 : decode c_M_hasStep 32 = .ok (.if_icmp .ne 10, 3) := by decide +kernel
theorem d_M_hasStep_35 : decode c_M_hasStep 35 = .ok (.iload 7, 2) := by decide +kernel
theorem d_M_hasStep_37 : decode c_M_hasStep 37 = .ok (.iload 4, 2) := by decide +kernel
theorem d_M_hasStep_39 : decode c_M_hasStep 39 = .ok (.if_icmp .eq 16, 3) := by decide +kernel
theorem d_M_hasStep_42 : decode c_M_hasStep 42 = .ok (.iload 6, 2) := by decide +kernel
theorem d_M_hasStep_44 : decode c_M_hasStep 44 = .ok (.iload 4, 2) := by decide +kernel
theorem d_M_hasStep_46 : decode c_M_hasStep 46 = .ok (.if_icmp .ne 11, 3) := by decide +kernel
theorem d_M_hasStep_49 : decode c_M_hasStep 49 = .ok (.iload 7, 2) := by decide +kernel
theorem d_M_hasStep_51 : decode c_M_hasStep 51 = .ok (.iload_n 3, 1) := by decide +kernel
theorem d_M_hasStep_52 : decode c_M_hasStep 52 = .ok (.if_icmp .ne 5, 3) := by decide +kernel
theorem d_M_hasStep_55 : decode c_M_hasStep 55 = .ok (.iconst 1, 1) := by decide +kernel
theorem d_M_hasStep_56 : decode c_M_hasStep 56 = .ok (.ireturn, 1) := by decide +kernel
theorem d_M_hasStep_57 : decode c_M_hasStep 57 = .ok (.iinc 5 1, 3) := by decide +kernel
theorem d_M_hasStep_60 : decode c_M_hasStep 60 = .ok (.goto (-57), 3) := by decide +kernel
theorem d_M_hasStep_63 : decode c_M_hasStep 63 = .ok (.iconst 0, 1) := by decide +kernel
theorem d_M_hasStep_64 : decode c_M_hasStep 64 = .ok (.ireturn, 1) := by decide +kernel
theorem d_M_common_0 : decode c_M_common 0 = .ok (.aload_n 0, 1) := by decide +kernel
theorem d_M_common_1 : decode c_M_common 1 = .ok (.iload_n 1, 1) := by decide +kernel
theorem d_M_common_2 : decode c_M_common 2 = .ok (.invokestatic 209, 3) := by decide +kernel
theorem d_M_common_5 : decode c_M_common 5 = .ok (.ifCond .eq 10, 3) := by decide +kernel
theorem d_M_common_8 : decode c_M_common 8 = .ok (.iload_n 2, 1) := by decide +kernel
theorem d_M_common_9 : decode c_M_common 9 = .ok (.invokestatic 209, 3) := by decide +kernel
theorem d_M_common_12 : decode c_M_common 12 = .ok (.ifCond .ne 7, 3) := by decide +kernel
theorem d_M_common_15 : decode c_M_common 15 = .ok (.iconst 1, 1) := by decide +kernel
theorem d_M_common_16 : decode c_M_common 16 = .ok (.goto 33, 3) := by decide +kernel
theorem d_M_common_19 : decode c_M_common 19 = .ok (.iload_n 1, 1) := by decide +kernel
theorem d_M_common_20 : decode c_M_common 20 = .ok (.iload_n 2, 1) := by decide +kernel
theorem d_M_common_21 : decode c_M_common 21 = .ok (.if_icmp .ne 7, 3) := by decide +kernel
theorem d_M_common_24 : decode c_M_common 24 = .ok (.iconst 2, 1) := by decide +kernel
theorem d_M_common_25 : decode c_M_common 25 = .ok (.goto 24, 3) := by decide +kernel
theorem d_M_common_28 : decode c_M_common 28 = .ok (.aload_n 0, 1) := by decide +kernel
theorem d_M_common_29 : decode c_M_common 29 = .ok (.iload_n 1, 1) := by decide +kernel
theorem d_M_common_30 : decode c_M_common 30 = .ok (.invokevirtual 129, 3) := by decide +kernel
theorem d_M_common_33 : decode c_M_common 33 = .ok (.ifCond .eq 11, 3) := by decide +kernel
theorem d_M_common_36 : decode c_M_common 36 = .ok (.aload_n 0, 1) := by decide +kernel
theorem d_M_common_37 : decode c_M_common 37 = .ok (.iload_n 2, 1) := by decide +kernel
theorem d_M_common_38 : decode c_M_common 38 = .ok (.invokevirtual 129, 3) := by decide +kernel
theorem d_M_common_41 : decode c_M_common 41 = .ok (.ifCond .ne 7, 3) := by decide +kernel
theorem d_M_common_44 : decode c_M_common 44 = .ok (.iconst 3, 1) := by decide +kernel
theorem d_M_common_45 : decode c_M_common 45 = .ok (.goto 4, 3) := by decide +kernel
theorem d_M_common_48 : decode c_M_common 48 = .ok (.iconst 0, 1) := by decide +kernel
theorem d_M_common_49 : decode c_M_common 49 = .ok (.putfield 87, 3) := by decide +kernel
theorem d_M_common_52 : decode c_M_common 52 = .ok (.aload_n 0, 1) := by decide +kernel
theorem d_M_common_53 : decode c_M_common 53 = .ok (.getfield 87, 3) := by decide +kernel
theorem d_M_common_56 : decode c_M_common 56 = .ok (.ifCond .le 5, 3) := by decide +kernel
theorem d_M_common_59 : decode c_M_common 59 = .ok (.iconst 0, 1) := by decide +kernel
theorem d_M_common_60 : decode c_M_common 60 = .ok (.ireturn, 1) := by decide +kernel
theorem d_M_common_61 : decode c_M_common 61 = .ok (.iconst 0, 1) := by decide +kernel
theorem d_M_common_62 : decode c_M_common 62 = .ok (.istore_n 3, 1) := by decide +kernel
theorem d_M_common_63 : decode c_M_common 63 = .ok (.iconst 0, 1) := by decide +kernel
theorem d_M_common_64 : decode c_M_common 64 = .ok (.istore 4, 2) := by decide +kernel
theorem d_M_common_66 : decode c_M_common 66 = .ok (.iload 4, 2) := by decide +kernel
theorem d_M_common_68 : decode c_M_common 68 = .ok (.aload_n 0, 1) := by decide +kernel
theorem d_M_common_69 : decode c_M_common 69 = .ok (.iload_n 1, 1) := by decide +kernel
theorem d_M_common_70 : decode c_M_common 70 = .ok (.invokevirtual 129, 3) := by decide +kernel
theorem d_M_common_73 : decode c_M_common 73 = .ok (.iconst 1, 1) := by decide +kernel
theorem d_M_common_74 : decode c_M_common 74 = .ok (.isub, 1) := by decide +kernel
theorem d_M_common_75 : decode c_M_common 75 = .ok (.if_icmp .ge 70, 3) := by decide +kernel
theorem d_M_common_78 : decode c_M_common 78 = .ok (.aload_n 0, 1) := by decide +kernel
theorem d_M_common_79 : decode c_M_common 79 = .ok (.iload_n 1, 1) := by decide +kernel
theorem d_M_common_80 : decode c_M_common 80 = .ok (.iload 4, 2) := by decide +kernel
theorem d_M_common_82 : decode c_M_common 82 = .ok (.invokevirtual 212, 3) := by decide +kernel
theorem d_M_common_85 : decode c_M_common 85 = .ok (.istore 5, 2) := by decide +kernel
theorem d_M_common_87 : decode c_M_common 87 = .ok (.aload_n 0, 1) := by decide +kernel
theorem d_M_common_88 : decode c_M_common 88 = .ok (.iload_n 1, 1) := by decide +kernel
theorem d_M_common_89 : decode c_M_common 89 = .ok (.iload 4, 2) := by decide +kernel
theorem d_M_common_91 : decode c_M_common 91 = .ok (.iconst 1, 1) := by decide +kernel
theorem d_M_common_92 : decode c_M_common 92 = .ok (.iadd, 1) := by decide +kernel
theorem d_M_common_93 : decode c_M_common 93 = .ok (.invokevirtual 212, 3) := by decide +kernel
theorem d_M_common_96 : decode c_M_common 96 = .ok (.istore 6, 2) := by decide +kernel
theorem d_M_common_98 : decode c_M_common 98 = .ok (.iload_n 3, 1) := by decide +kernel
theorem d_M_common_99 : decode c_M_common 99 = .ok (.aload_n 0, 1) := by decide +kernel
theorem d_M_common_100 : decode c_M_common 100 = .ok (.iload_n 1, 1) := by decide +kernel
theorem d_M_common_101 : decode c_M_common 101 = .ok (.iload 4, 2) := by decide +kernel
theorem d_M_common_103 : decode c_M_common 103 = .ok (.iload 5, 2) := by decide +kernel
theorem d_M_common_105 : decode c_M_common 105 = .ok (.iload 6, 2) := by decide +kernel
theorem d_M_common_107 : decode c_M_common 107 = .ok (.invokevirtual 132, 3) := by decide +kernel
theorem d_M_common_110 : decode c_M_common 110 = .ok (.ifCond .ne 26, 3) := by decide +kernel
theorem d_M_common_113 : decode c_M_common 113 = .ok (.aload_n 0, 1) := by decide +kernel
theorem d_M_common_114 : decode c_M_common 114 = .ok (.iload_n 2, 1) := by decide +kernel
theorem d_M_common_115 : decode c_M_common 115 = .ok (.aload_n 0, 1) := by decide +kernel
theorem d_M_common_116 : decode c_M_common 116 = .ok (.iload_n 2, 1) := by decide +kernel
theorem d_M_common_117 : decode c_M_common 117 = .ok (.invokevirtual 129, 3) := by decide +kernel
theorem d_M_common_120 : decode c_M_common 120 = .ok (.iconst 1, 1) := by decide +kernel
theorem d_M_common_121 : decode c_M_common 121 = .ok (.isub, 1) := by decide +kernel
theorem d_M_common_122 : decode c_M_common 122 = .ok (.iload 5, 2) := by decide +kernel
theorem d_M_common_124 : decode c_M_common 124 = .ok (.iload 6, 2) := by decide +kernel
theorem d_M_common_126 : decode c_M_common 126 = .ok (.invokevirtual 132, 3) := by decide +kernel
theorem d_M_common_129 : decode c_M_common 129 = .ok (.ifCond .eq 7, 3) := by decide +kernel
theorem d_M_common_132 : decode c_M_common 132 = .ok (.iconst 1, 1) := by decide +kernel
theorem d_M_common_133 : decode c_M_common 133 = .ok (.goto 4, 3) := by decide +kernel
theorem d_M_common_136 : decode c_M_common 136 = .ok (.iconst 0, 1) := by decide +kernel
theorem d_M_common_137 : decode c_M_common 137 = .ok (.iadd, 1) := by decide +kernel
theorem d_M_common_138 : decode c_M_common 138 = .ok (.istore_n 3, 1) := by decide +kernel
theorem d_M_common_139 : decode c_M_common 139 = .ok (.iinc 4 1, 3) := by decide +kernel
theorem d_M_common_142 : decode c_M_common 142 = .ok (.goto (-76), 3) := by decide +kernel
theorem d_M_common_145 : decode c_M_common 145 = .ok (.iload_n 3, 1) := by decide +kernel
theorem d_M_common_146 : decode c_M_common 146 = .ok (.ireturn, 1) := by decide +kernel
theorem d_M_joins_0 : decode c_M_joins 0 = .ok (.aload_n 0, 1) := by decide +kernel
theorem d_M_joins_1 : decode c_M_joins 1 = .ok (.aload_n 0, 1) := by decide +kernel
theorem d_M_joins_2 : decode c_M_joins 2 = .ok (.iload_n 1, 1) := by decide +kernel
theorem d_M_joins_3 : decode c_M_joins 3 = .ok (.invokevirtual 203, 3) := by decide +kernel
theorem d_M_joins_6 : decode c_M_joins 6 = .ok (.ifCond .eq 10, 3) := by decide +kernel
theorem d_M_joins_9 : decode c_M_joins 9 = .ok (.iload_n 2, 1) := by decide +kernel
theorem d_M_joins_10 : decode c_M_joins 10 = .ok (.invokestatic 209, 3) := by decide +kernel
theorem d_M_joins_13 : decode c_M_joins 13 = .ok (.ifCond .ne 7, 3) := by decide +kernel
theorem d_M_joins_16 : decode c_M_joins 16 = .ok (.iconst 1, 1) := by decide +kernel
theorem d_M_joins_17 : decode c_M_joins 17 = .ok (.goto 29, 3) := by decide +kernel
theorem d_M_joins_20 : decode c_M_joins 20 = .ok (.iload_n 3, 1) := by decide +kernel
theorem d_M_joins_21 : decode c_M_joins 21 = .ok (.iconst 0, 1) := by decide +kernel
theorem d_M_joins_22 : decode c_M_joins 22 = .ok (.iconst 1, 1) := by decide +kernel
theorem d_M_joins_23 : decode c_M_joins 23 = .ok (.invokestatic 94, 3) := by decide +kernel
theorem d_M_joins_26 : decode c_M_joins 26 = .ok (.ifCond .ne 7, 3) := by decide +kernel
theorem d_M_joins_29 : decode c_M_joins 29 = .ok (.iconst 2, 1) := by decide +kernel
theorem d_M_joins_30 : decode c_M_joins 30 = .ok (.goto 16, 3) := by decide +kernel
theorem d_M_joins_33 : decode c_M_joins 33 = .ok (.aload_n 0, 1) := by decide +kernel
theorem d_M_joins_34 : decode c_M_joins 34 = .ok (.iload_n 2, 1) := by decide +kernel
theorem d_M_joins_35 : decode c_M_joins 35 = .ok (.invokevirtual 129, 3) := by decide +kernel
theorem d_M_joins_38 : decode c_M_joins 38 = .ok (.ifCond .ne 7, 3) := by decide +kernel
theorem d_M_joins_41 : decode c_M_joins 41 = .ok (.iconst 3, 1) := by decide +kernel
theorem d_M_joins_42 : decode c_M_joins 42 = .ok (.goto 4, 3) := by decide +kernel
theorem d_M_joins_45 : decode c_M_joins 45 = .ok (.iconst 0, 1) := by decide +kernel
theorem d_M_joins_46 : decode c_M_joins 46 = .ok (.putfield 87, 3) := by decide +kernel
theorem d_M_joins_49 : decode c_M_joins 49 = .ok (.aload_n 0, 1) := by decide +kernel
theorem d_M_joins_50 : decode c_M_joins 50 = .ok (.getfield 87, 3) := by decide +kernel
theorem d_M_joins_53 : decode c_M_joins 53 = .ok (.ifCond .le 5, 3) := by decide +kernel
theorem d_M_joins_56 : decode c_M_joins 56 = .ok (.iconst 0, 1) := by decide +kernel
theorem d_M_joins_57 : decode c_M_joins 57 = .ok (.ireturn, 1) := by decide +kernel
theorem d_M_joins_58 : decode c_M_joins 58 = .ok (.aload_n 0, 1) := by decide +kernel
theorem d_M_joins_59 : decode c_M_joins 59 = .ok (.iload_n 1, 1) := by decide +kernel
theorem d_M_joins_60 : decode c_M_joins 60 = .ok (.invokevirtual 187, 3) := by decide +kernel
theorem d_M_joins_63 : decode c_M_joins 63 = .ok (.ldc 155, 2) := by decide +kernel
theorem d_M_joins_65 : decode c_M_joins 65 = .ok (.istore 4, 2) := by decide +kernel
theorem d_M_joins_67 : decode c_M_joins 67 = .ok (.iconst (-1), 1) := by decide +kernel
theorem d_M_joins_68 : decode c_M_joins 68 = .ok (.istore 5, 2) := by decide +kernel
theorem d_M_joins_70 : decode c_M_joins 70 = .ok (.iconst 0, 1) := by decide +kernel
theorem d_M_joins_71 : decode c_M_joins 71 = .ok (.istore 6, 2) := by decide +kernel
theorem d_M_joins_73 : decode c_M_joins 73 = .ok (.iload 6, 2) := by decide +kernel
theorem d_M_joins_75 : decode c_M_joins 75 = .ok (.aload_n 0, 1) := by decide +kernel
theorem d_M_joins_76 : decode c_M_joins 76 = .ok (.iload_n 2, 1) := by decide +kernel
theorem d_M_joins_77 : decode c_M_joins 77 = .ok (.invokevirtual 129, 3) := by decide +kernel
theorem d_M_joins_80 : decode c_M_joins 80 = .ok (.if_icmp .ge 54, 3) := by decide +kernel
theorem d_M_joins_83 : decode c_M_joins 83 = .ok (.aload_n 0, 1) := by decide +kernel
theorem d_M_joins_84 : decode c_M_joins 84 = .ok (.iload_n 2, 1) := by decide +kernel
theorem d_M_joins_85 : decode c_M_joins 85 = .ok (.iload 6, 2) := by decide +kernel
theorem d_M_joins_87 : decode c_M_joins 87 = .ok (.invokevirtual 212, 3) := by decide +kernel
theorem d_M_joins_90 : decode c_M_joins 90 = .ok (.istore 7, 2) := by decide +kernel
theorem d_M_joins_92 : decode c_M_joins 92 = .ok (.iload 7, 2) := by decide +kernel
theorem d_M_joins_94 : decode c_M_joins 94 = .ok (.iload_n 1, 1) := by decide +kernel
theorem d_M_joins_95 : decode c_M_joins 95 = .ok (.if_icmp .ne 7, 3) := by decide +kernel
theorem d_M_joins_98 : decode c_M_joins 98 = .ok (.iconst 0, 1) := by decide +kernel
theorem d_M_joins_99 : decode c_M_joins 99 = .ok (.goto 9, 3) := by decide +kernel
theorem d_M_joins_102 : decode c_M_joins 102 = .ok (.aload_n 0, 1) := by decide +kernel
theorem d_M_joins_103 : decode c_M_joins 103 = .ok (.iload 7, 2) := by decide +kernel
theorem d_M_joins_105 : decode c_M_joins 105 = .ok (.invokevirtual 191, 3) := by decide +kernel
theorem d_M_joins_108 : decode c_M_joins 108 = .ok (.istore 8, 2) := by decide +kernel
theorem d_M_joins_110 : decode c_M_joins 110 = .ok (.iload 8, 2) := by decide +kernel
theorem d_M_joins_112 : decode c_M_joins 112 = .ok (.iload 4, 2) := by decide +kernel
theorem d_M_joins_114 : decode c_M_joins 114 = .ok (.if_icmp .lt 6, 3) := by decide +kernel
theorem d_M_joins_117 : decode c_M_joins 117 = .ok (.goto 11, 3) := by decide +kernel
theorem d_M_joins_120 : decode c_M_joins 120 = .ok (.iload 8, 2) := by decide +kernel
theorem d_M_joins_122 : decode c_M_joins 122 = .ok (.istore 4, 2) := by decide +kernel
theorem d_M_joins_124 : decode c_M_joins 124 = .ok (.iload 7, 2) := by decide +kernel
theorem d_M_joins_126 : decode c_M_joins 126 = .ok (.istore 5, 2) := by decide +kernel
theorem d_M_joins_128 : decode c_M_joins 128 = .ok (.iinc 6 1, 3) := by decide +kernel
theorem d_M_joins_131 : decode c_M_joins 131 = .ok (.goto (-58), 3) := by decide +kernel
theorem d_M_joins_134 : decode c_M_joins 134 = .ok (.iload 5, 2) := by decide +kernel
theorem d_M_joins_136 : decode c_M_joins 136 = .ok (.iconst (-1), 1) := by decide +kernel
theorem d_M_joins_137 : decode c_M_joins 137 = .ok (.if_icmp .ne 5, 3) := by decide +kernel
theorem d_M_joins_140 : decode c_M_joins 140 = .ok (.iconst (-1), 1) := by decide +kernel
theorem d_M_joins_141 : decode c_M_joins 141 = .ok (.ireturn, 1) := by decide +kernel
theorem d_M_joins_142 : decode c_M_joins 142 = .ok (.iload_n 3, 1) := by decide +kernel
theorem d_M_joins_143 : decode c_M_joins 143 = .ok (.ifCond .ne 8, 3) := by decide +kernel
theorem d_M_joins_146 : decode c_M_joins 146 = .ok (.iload 5, 2) := by decide +kernel
theorem d_M_joins_148 : decode c_M_joins 148 = .ok (.goto 5, 3) := by decide +kernel
theorem d_M_joins_151 : decode c_M_joins 151 = .ok (.iload 4, 2) := by decide +kernel
theorem d_M_joins_153 : decode c_M_joins 153 = .ok (.ireturn, 1) := by decide +kernel
theorem d_M_spare_0 : decode c_M_spare 0 = .ok (.aload_n 0, 1) := by decide +kernel
theorem d_M_spare_1 : decode c_M_spare 1 = .ok (.aload_n 0, 1) := by decide +kernel
theorem d_M_spare_2 : decode c_M_spare 2 = .ok (.iload_n 1, 1) := by decide +kernel
theorem d_M_spare_3 : decode c_M_spare 3 = .ok (.invokevirtual 203, 3) := by decide +kernel
theorem d_M_spare_6 : decode c_M_spare 6 = .ok (.ifCond .eq 11, 3) := by decide +kernel
theorem d_M_spare_9 : decode c_M_spare 9 = .ok (.aload_n 0, 1) := by decide +kernel
theorem d_M_spare_10 : decode c_M_spare 10 = .ok (.iload_n 2, 1) := by decide +kernel
theorem d_M_spare_11 : decode c_M_spare 11 = .ok (.invokevirtual 203, 3) := by decide +kernel
theorem d_M_spare_14 : decode c_M_spare 14 = .ok (.ifCond .ne 7, 3) := by decide +kernel
theorem d_M_spare_17 : decode c_M_spare 17 = .ok (.iconst 1, 1) := by decide +kernel
theorem d_M_spare_18 : decode c_M_spare 18 = .ok (.goto 26, 3) := by decide +kernel
theorem d_M_spare_21 : decode c_M_spare 21 = .ok (.iload_n 3, 1) := by decide +kernel
theorem d_M_spare_22 : decode c_M_spare 22 = .ok (.iconst 0, 1) := by decide +kernel
theorem d_M_spare_23 : decode c_M_spare 23 = .ok (.iconst 1, 1) := by decide +kernel
theorem d_M_spare_24 : decode c_M_spare 24 = .ok (.invokestatic 94, 3) := by decide +kernel
theorem d_M_spare_27 : decode c_M_spare 27 = .ok (.ifCond .ne 7, 3) := by decide +kernel
theorem d_M_spare_30 : decode c_M_spare 30 = .ok (.iconst 2, 1) := by decide +kernel
theorem d_M_spare_31 : decode c_M_spare 31 = .ok (.goto 13, 3) := by decide +kernel
theorem d_M_spare_34 : decode c_M_spare 34 = .ok (.iload_n 1, 1) := by decide +kernel
theorem d_M_spare_35 : decode c_M_spare 35 = .ok (.iload_n 2, 1) := by decide +kernel
theorem d_M_spare_36 : decode c_M_spare 36 = .ok (.if_icmp .ne 7, 3) := by decide +kernel
theorem d_M_spare_39 : decode c_M_spare 39 = .ok (.iconst 3, 1) := by decide +kernel
theorem d_M_spare_40 : decode c_M_spare 40 = .ok (.goto 4, 3) := by decide +kernel
theorem d_M_spare_43 : decode c_M_spare 43 = .ok (.iconst 0, 1) := by decide +kernel
theorem d_M_spare_44 : decode c_M_spare 44 = .ok (.putfield 87, 3) := by decide +kernel
theorem d_M_spare_47 : decode c_M_spare 47 = .ok (.aload_n 0, 1) := by decide +kernel
theorem d_M_spare_48 : decode c_M_spare 48 = .ok (.getfield 87, 3) := by decide +kernel
theorem d_M_spare_51 : decode c_M_spare 51 = .ok (.ifCond .le 5, 3) := by decide +kernel
theorem d_M_spare_54 : decode c_M_spare 54 = .ok (.iconst 0, 1) := by decide +kernel
theorem d_M_spare_55 : decode c_M_spare 55 = .ok (.ireturn, 1) := by decide +kernel
theorem d_M_spare_56 : decode c_M_spare 56 = .ok (.aload_n 0, 1) := by decide +kernel
theorem d_M_spare_57 : decode c_M_spare 57 = .ok (.iload_n 1, 1) := by decide +kernel
theorem d_M_spare_58 : decode c_M_spare 58 = .ok (.iload_n 2, 1) := by decide +kernel
theorem d_M_spare_59 : decode c_M_spare 59 = .ok (.iconst 0, 1) := by decide +kernel
theorem d_M_spare_60 : decode c_M_spare 60 = .ok (.invokevirtual 302, 3) := by decide +kernel
theorem d_M_spare_63 : decode c_M_spare 63 = .ok (.ifCond .ne 5, 3) := by decide +kernel
theorem d_M_spare_66 : decode c_M_spare 66 = .ok (.iconst (-1), 1) := by decide +kernel
theorem d_M_spare_67 : decode c_M_spare 67 = .ok (.ireturn, 1) := by decide +kernel
theorem d_M_spare_68 : decode c_M_spare 68 = .ok (.aload_n 0, 1) := by decide +kernel
theorem d_M_spare_69 : decode c_M_spare 69 = .ok (.getfield 172, 3) := by decide +kernel
theorem d_M_spare_72 : decode c_M_spare 72 = .ok (.istore 4, 2) := by decide +kernel
theorem d_M_spare_74 : decode c_M_spare 74 = .ok (.iconst 0, 1) := by decide +kernel
theorem d_M_spare_75 : decode c_M_spare 75 = .ok (.istore 5, 2) := by decide +kernel
theorem d_M_spare_77 : decode c_M_spare 77 = .ok (.iload 5, 2) := by decide +kernel
theorem d_M_spare_79 : decode c_M_spare 79 = .ok (.iload 4, 2) := by decide +kernel
theorem d_M_spare_81 : decode c_M_spare 81 = .ok (.if_icmp .ge 23, 3) := by decide +kernel
theorem d_M_spare_84 : decode c_M_spare 84 = .ok (.aload_n 0, 1) := by decide +kernel
theorem d_M_spare_85 : decode c_M_spare 85 = .ok (.getfield 75, 3) := by decide +kernel
theorem d_M_spare_88 : decode c_M_spare 88 = .ok (.iload 5, 2) := by decide +kernel
theorem d_M_spare_90 : decode c_M_spare 90 = .ok (.aload_n 0, 1) := by decide +kernel
theorem d_M_spare_91 : decode c_M_spare 91 = .ok (.getfield 50, 3) := by decide +kernel
theorem d_M_spare_94 : decode c_M_spare 94 = .ok (.iload 5, 2) := by decide +kernel
theorem d_M_spare_96 : decode c_M_spare 96 = .ok (.iaload, 1) := by decide +kernel
theorem d_M_spare_97 : decode c_M_spare 97 = .ok (.iastore, 1) := by decide +kernel
theorem d_M_spare_98 : decode c_M_spare 98 = .ok (.iinc 5 1, 3) := by decide +kernel
theorem d_M_spare_101 : decode c_M_spare 101 = .ok (.goto (-24), 3) := by decide +kernel
theorem d_M_spare_104 : decode c_M_spare 104 = .ok (.iconst (-1), 1) := by decide +kernel
theorem d_M_spare_105 : decode c_M_spare 105 = .ok (.istore 5, 2) := by decide +kernel
theorem d_M_spare_107 : decode c_M_spare 107 = .ok (.iconst (-1), 1) := by decide +kernel
theorem d_M_spare_108 : decode c_M_spare 108 = .ok (.istore 6, 2) := by decide +kernel
theorem d_M_spare_110 : decode c_M_spare 110 = .ok (.iconst 0, 1) := by decide +kernel
theorem d_M_spare_111 : decode c_M_spare 111 = .ok (.istore 7, 2) := by decide +kernel
theorem d_M_spare_113 : decode c_M_spare 113 = .ok (.iload 7, 2) := by decide +kernel
theorem d_M_spare_115 : decode c_M_spare 115 = .ok (.iload 4, 2) := by decide +kernel
theorem d_M_spare_117 : decode c_M_spare 117 = .ok (.iconst 1, 1) := by decide +kernel
theorem d_M_spare_118 : decode c_M_spare 118 = .ok (.isub, 1) := by decide +kernel
theorem d_M_spare_119 : decode c_M_spare 119 = .ok (.if_icmp .ge 63, 3) := by decide +kernel
theorem d_M_spare_122 : decode c_M_spare 122 = .ok (.aload_n 0, 1) := by decide +kernel
theorem d_M_spare_123 : decode c_M_spare 123 = .ok (.aload_n 0, 1) := by decide +kernel
theorem d_M_spare_124 : decode c_M_spare 124 = .ok (.getfield 75, 3) := by decide +kernel
theorem d_M_spare_127 : decode c_M_spare 127 = .ok (.iload 7, 2) := by decide +kernel
theorem d_M_spare_129 : decode c_M_spare 129 = .ok (.iaload, 1) := by decide +kernel
theorem d_M_spare_130 : decode c_M_spare 130 = .ok (.putfield 69, 3) := by decide +kernel
theorem d_M_spare_133 : decode c_M_spare 133 = .ok (.aload_n 0, 1) := by decide +kernel
theorem d_M_spare_134 : decode c_M_spare 134 = .ok (.aload_n 0, 1) := by decide +kernel
theorem d_M_spare_135 : decode c_M_spare 135 = .ok (.getfield 75, 3) := by decide +kernel
theorem d_M_spare_138 : decode c_M_spare 138 = .ok (.iload 7, 2) := by decide +kernel
theorem d_M_spare_140 : decode c_M_spare 140 = .ok (.iconst 1, 1) := by decide +kernel
theorem d_M_spare_141 : decode c_M_spare 141 = .ok (.iadd, 1) := by decide +kernel
theorem d_M_spare_142 : decode c_M_spare 142 = .ok (.iaload, 1) := by decide +kernel
theorem d_M_spare_143 : decode c_M_spare 143 = .ok (.putfield 72, 3) := by decide +kernel
theorem d_M_spare_146 : decode c_M_spare 146 = .ok (.aload_n 0, 1) := by decide +kernel
theorem d_M_spare_147 : decode c_M_spare 147 = .ok (.iload_n 1, 1) := by decide +kernel
theorem d_M_spare_148 : decode c_M_spare 148 = .ok (.invokevirtual 187, 3) := by decide +kernel
theorem d_M_spare_151 : decode c_M_spare 151 = .ok (.aload_n 0, 1) := by decide +kernel
theorem d_M_spare_152 : decode c_M_spare 152 = .ok (.iload_n 2, 1) := by decide +kernel
theorem d_M_spare_153 : decode c_M_spare 153 = .ok (.invokevirtual 191, 3) := by decide +kernel
theorem d_M_spare_156 : decode c_M_spare 156 = .ok (.istore 8, 2) := by decide +kernel
theorem d_M_spare_158 : decode c_M_spare 158 = .ok (.iload 8, 2) := by decide +kernel
theorem d_M_spare_160 : decode c_M_spare 160 = .ok (.iload 6, 2) := by decide +kernel
theorem d_M_spare_162 : decode c_M_spare 162 = .ok (.if_icmp .gt 6, 3) := by decide +kernel
theorem d_M_spare_165 : decode c_M_spare 165 = .ok (.goto 11, 3) := by decide +kernel
theorem d_M_spare_168 : decode c_M_spare 168 = .ok (.iload 7, 2) := by decide +kernel
theorem d_M_spare_170 : decode c_M_spare 170 = .ok (.istore 5, 2) := by decide +kernel
theorem d_M_spare_172 : decode c_M_spare 172 = .ok (.iload 8, 2) := by decide +kernel
theorem d_M_spare_174 : decode c_M_spare 174 = .ok (.istore 6, 2) := by decide +kernel
theorem d_M_spare_176 : decode c_M_spare 176 = .ok (.iinc 7 1, 3) := by decide +kernel
theorem d_M_spare_179 : decode c_M_spare 179 = .ok (.goto (-66), 3) := by decide +kernel
theorem d_M_spare_182 : decode c_M_spare 182 = .ok (.aload_n 0, 1) := by decide +kernel
theorem d_M_spare_183 : decode c_M_spare 183 = .ok (.iconst (-1), 1) := by decide +kernel
theorem d_M_spare_184 : decode c_M_spare 184 = .ok (.putfield 69, 3) := by decide +kernel
theorem d_M_spare_187 : decode c_M_spare 187 = .ok (.aload_n 0, 1) := by decide +kernel
theorem d_M_spare_188 : decode c_M_spare 188 = .ok (.iconst (-1), 1) := by decide +kernel
theorem d_M_spare_189 : decode c_M_spare 189 = .ok (.putfield 72, 3) := by decide +kernel
theorem d_M_spare_192 : decode c_M_spare 192 = .ok (.iload_n 3, 1) := by decide +kernel
theorem d_M_spare_193 : decode c_M_spare 193 = .ok (.ifCond .ne 6, 3) := by decide +kernel
theorem d_M_spare_196 : decode c_M_spare 196 = .ok (.iload 5, 2) := by decide +kernel
theorem d_M_spare_198 : decode c_M_spare 198 = .ok (.ireturn, 1) := by decide +kernel
theorem d_M_spare_199 : decode c_M_spare 199 = .ok (.iload 6, 2) := by decide +kernel
theorem d_M_spare_201 : decode c_M_spare 201 = .ok (.ldc 155, 2) := by decide +kernel
theorem d_M_spare_203 : decode c_M_spare 203 = .ok (.if_icmp .ne 7, 3) := by decide +kernel
theorem d_M_spare_206 : decode c_M_spare 206 = .ok (.iconst (-1), 1) := by decide +kernel
theorem d_M_spare_207 : decode c_M_spare 207 = .ok (.goto 5, 3) := by decide +kernel
theorem d_M_spare_210 : decode c_M_spare 210 = .ok (.iload 6, 2) := by decide +kernel
theorem d_M_spare_212 : decode c_M_spare 212 = .ok (.ireturn, 1) := by decide +kernel
theorem d_M_stagesFrom_0 : decode c_M_stagesFrom 0 = .ok (.aload_n 0, 1) := by decide +kernel
theorem d_M_stagesFrom_1 : decode c_M_stagesFrom 1 = .ok (.iload_n 1, 1) := by decide +kernel
theorem d_M_stagesFrom_2 : decode c_M_stagesFrom 2 = .ok (.invokevirtual 129, 3) := by decide +kernel
theorem d_M_stagesFrom_5 : decode c_M_stagesFrom 5 = .ok (.iconst 1, 1) := by decide +kernel
theorem d_M_stagesFrom_6 : decode c_M_stagesFrom 6 = .ok (.isub, 1) := by decide +kernel
theorem d_M_stagesFrom_7 : decode c_M_stagesFrom 7 = .ok (.istore 4, 2) := by decide +kernel
theorem d_M_stagesFrom_9 : decode c_M_stagesFrom 9 = .ok (.iload_n 3, 1) := by decide +kernel
theorem d_M_stagesFrom_10 : decode c_M_stagesFrom 10 = .ok (.ifCond .ne 16, 3) := by decide +kernel
theorem d_M_stagesFrom_13 : decode c_M_stagesFrom 13 = .ok (.iload_n 2, 1) := by decide +kernel
theorem d_M_stagesFrom_14 : decode c_M_stagesFrom 14 = .ok (.iload 4, 2) := by decide +kernel
theorem d_M_stagesFrom_16 : decode c_M_stagesFrom 16 = .ok (.if_icmp .ne 7, 3) := by decide +kernel
theorem d_M_stagesFrom_19 : decode c_M_stagesFrom 19 = .ok (.iconst 0, 1) := by decide +kernel
theorem d_M_stagesFrom_20 : decode c_M_stagesFrom 20 = .ok (.goto 5, 3) := by decide +kernel
theorem d_M_stagesFrom_23 : decode c_M_stagesFrom 23 = .ok (.ldc 155, 2) := by decide +kernel
theorem d_M_stagesFrom_25 : decode c_M_stagesFrom 25 = .ok (.ireturn, 1) := by decide +kernel
theorem d_M_stagesFrom_26 : decode c_M_stagesFrom 26 = .ok (.bipush 7, 2) := by decide +kernel
theorem d_M_stagesFrom_28 : decode c_M_stagesFrom 28 = .ok (.iload_n 2, 1) := by decide +kernel
theorem d_M_stagesFrom_29 : decode c_M_stagesFrom 29 = .ok (.imul, 1) := by decide +kernel
theorem d_M_stagesFrom_30 : decode c_M_stagesFrom 30 = .ok (.iload_n 3, 1) := by decide +kernel
theorem d_M_stagesFrom_31 : decode c_M_stagesFrom 31 = .ok (.iadd, 1) := by decide +kernel
theorem d_M_stagesFrom_32 : decode c_M_stagesFrom 32 = .ok (.istore 5, 2) := by decide +kernel
theorem d_M_stagesFrom_34 : decode c_M_stagesFrom 34 = .ok (.aload_n 0, 1) := by decide +kernel
theorem d_M_stagesFrom_35 : decode c_M_stagesFrom 35 = .ok (.getfield 78, 3) := by decide +kernel
theorem d_M_stagesFrom_38 : decode c_M_stagesFrom 38 = .ok (.iload 5, 2) := by decide +kernel
theorem d_M_stagesFrom_40 : decode c_M_stagesFrom 40 = .ok (.iaload, 1) := by decide +kernel
theorem d_M_stagesFrom_41 : decode c_M_stagesFrom 41 = .ok (.iconst (-1), 1) := by decide +kernel
theorem d_M_stagesFrom_42 : decode c_M_stagesFrom 42 = .ok (.if_icmp .eq 11, 3) := by decide +kernel
theorem d_M_stagesFrom_45 : decode c_M_stagesFrom 45 = .ok (.aload_n 0, 1) := by decide +kernel
theorem d_M_stagesFrom_46 : decode c_M_stagesFrom 46 = .ok (.getfield 78, 3) := by decide +kernel
theorem d_M_stagesFrom_49 : decode c_M_stagesFrom 49 = .ok (.iload 5, 2) := by decide +kernel
theorem d_M_stagesFrom_51 : decode c_M_stagesFrom 51 = .ok (.iaload, 1) := by decide +kernel
theorem d_M_stagesFrom_52 : decode c_M_stagesFrom 52 = .ok (.ireturn, 1) := by decide +kernel
theorem d_M_stagesFrom_53 : decode c_M_stagesFrom 53 = .ok (.ldc 155, 2) := by decide +kernel
theorem d_M_stagesFrom_55 : decode c_M_stagesFrom 55 = .ok (.istore 6, 2) := by decide +kernel
theorem d_M_stagesFrom_57 : decode c_M_stagesFrom 57 = .ok (.iconst 0, 1) := by decide +kernel
theorem d_M_stagesFrom_58 : decode c_M_stagesFrom 58 = .ok (.istore 7, 2) := by decide +kernel
theorem d_M_stagesFrom_60 : decode c_M_stagesFrom 60 = .ok (.iload_n 2, 1) := by decide +kernel
theorem d_M_stagesFrom_61 : decode c_M_stagesFrom 61 = .ok (.istore 8, 2) := by decide +kernel
theorem d_M_stagesFrom_63 : decode c_M_stagesFrom 63 = .ok (.iload 8, 2) := by decide +kernel
theorem d_M_stagesFrom_65 : decode c_M_stagesFrom 65 = .ok (.iload 4, 2) := by decide +kernel
theorem d_M_stagesFrom_67 : decode c_M_stagesFrom 67 = .ok (.if_icmp .ge 59, 3) := by decide +kernel
theorem d_M_stagesFrom_70 : decode c_M_stagesFrom 70 = .ok (.iload 7, 2) := by decide +kernel
theorem d_M_stagesFrom_72 : decode c_M_stagesFrom 72 = .ok (.aload_n 0, 1) := by decide +kernel
theorem d_M_stagesFrom_73 : decode c_M_stagesFrom 73 = .ok (.iload_n 1, 1) := by decide +kernel
theorem d_M_stagesFrom_74 : decode c_M_stagesFrom 74 = .ok (.iload 8, 2) := by decide +kernel
theorem d_M_stagesFrom_76 : decode c_M_stagesFrom 76 = .ok (.invokevirtual 308, 3) := by decide +kernel
theorem d_M_stagesFrom_79 : decode c_M_stagesFrom 79 = .ok (.invokestatic 108, 3) := by decide +kernel
theorem d_M_stagesFrom_82 : decode c_M_stagesFrom 82 = .ok (.iadd, 1) := by decide +kernel
theorem d_M_stagesFrom_83 : decode c_M_stagesFrom 83 = .ok (.istore 7, 2) := by decide +kernel
theorem d_M_stagesFrom_85 : decode c_M_stagesFrom 85 = .ok (.aload_n 0, 1) := by decide +kernel
theorem d_M_stagesFrom_86 : decode c_M_stagesFrom 86 = .ok (.iload_n 1, 1) := by decide +kernel
theorem d_M_stagesFrom_87 : decode c_M_stagesFrom 87 = .ok (.iload 8, 2) := by decide +kernel
theorem d_M_stagesFrom_89 : decode c_M_stagesFrom 89 = .ok (.iconst 1, 1) := by decide +kernel
theorem d_M_stagesFrom_90 : decode c_M_stagesFrom 90 = .ok (.iadd, 1) := by decide +kernel
theorem d_M_stagesFrom_91 : decode c_M_stagesFrom 91 = .ok (.iload_n 3, 1) := by decide +kernel
theorem d_M_stagesFrom_92 : decode c_M_stagesFrom 92 = .ok (.iconst 1, 1) := by decide +kernel
theorem d_M_stagesFrom_93 : decode c_M_stagesFrom 93 = .ok (.isub, 1) := by decide +kernel
theorem d_M_stagesFrom_94 : decode c_M_stagesFrom 94 = .ok (.invokevirtual 399, 3) := by decide +kernel
theorem d_M_stagesFrom_97 : decode c_M_stagesFrom 97 = .ok (.istore 9, 2) := by decide +kernel
theorem d_M_stagesFrom_99 : decode c_M_stagesFrom 99 = .ok (.iload 6, 2) := by decide +kernel
theorem d_M_stagesFrom_101 : decode c_M_stagesFrom 101 = .ok (.iload 9, 2) := by decide +kernel
theorem d_M_stagesFrom_103 : decode c_M_stagesFrom 103 = .ok (.iload 7, 2) := by decide +kernel
theorem d_M_stagesFrom_105 : decode c_M_stagesFrom 105 = .ok (.if_icmp .le 8, 3) := by decide +kernel
theorem d_M_stagesFrom_108 : decode c_M_stagesFrom 108 = .ok (.iload 9, 2) := by decide +kernel
theorem d_M_stagesFrom_110 : decode c_M_stagesFrom 110 = .ok (.goto 5, 3) := by decide +kernel
theorem d_M_stagesFrom_113 : decode c_M_stagesFrom 113 = .ok (.iload 7, 2) := by decide +kernel
theorem d_M_stagesFrom_115 : decode c_M_stagesFrom 115 = .ok (.invokestatic 184, 3) := by decide +kernel
theorem d_M_stagesFrom_118 : decode c_M_stagesFrom 118 = .ok (.istore 6, 2) := by decide +kernel
theorem d_M_stagesFrom_120 : decode c_M_stagesFrom 120 = .ok (.iinc 8 1, 3) := by decide +kernel
theorem d_M_stagesFrom_123 : decode c_M_stagesFrom 123 = .ok (.goto (-60), 3) := by decide +kernel
theorem d_M_stagesFrom_126 : decode c_M_stagesFrom 126 = .ok (.aload_n 0, 1) := by decide +kernel
theorem d_M_stagesFrom_127 : decode c_M_stagesFrom 127 = .ok (.getfield 78, 3) := by decide +kernel
theorem d_M_stagesFrom_130 : decode c_M_stagesFrom 130 = .ok (.iload 5, 2) := by decide +kernel
theorem d_M_stagesFrom_132 : decode c_M_stagesFrom 132 = .ok (.iload 6, 2) := by decide +kernel
theorem d_M_stagesFrom_134 : decode c_M_stagesFrom 134 = .ok (.iastore, 1) := by decide +kernel
theorem d_M_stagesFrom_135 : decode c_M_stagesFrom 135 = .ok (.iload 6, 2) := by decide +kernel
theorem d_M_stagesFrom_137 : decode c_M_stagesFrom 137 = .ok (.ireturn, 1) := by decide +kernel
theorem d_M_stages_0 : decode c_M_stages 0 = .ok (.aload_n 0, 1) := by decide +kernel
theorem d_M_stages_1 : decode c_M_stages 1 = .ok (.iload_n 1, 1) := by decide +kernel
theorem d_M_stages_2 : decode c_M_stages 2 = .ok (.invokestatic 209, 3) := by decide +kernel
theorem d_M_stages_5 : decode c_M_stages 5 = .ok (.ifCond .ne 7, 3) := by decide +kernel
theorem d_M_stages_8 : decode c_M_stages 8 = .ok (.iconst 1, 1) := by decide +kernel
theorem d_M_stages_9 : decode c_M_stages 9 = .ok (.goto 30, 3) := by decide +kernel
theorem d_M_stages_12 : decode c_M_stages 12 = .ok (.iload_n 2, 1) := by decide +kernel
theorem d_M_stages_13 : decode c_M_stages 13 = .ok (.iconst 1, 1) := by decide +kernel
theorem d_M_stages_14 : decode c_M_stages 14 = .ok (.bipush 6, 2) := by decide +kernel
theorem d_M_stages_16 : decode c_M_stages 16 = .ok (.invokestatic 94, 3) := by decide +kernel
theorem d_M_stages_19 : decode c_M_stages 19 = .ok (.ifCond .ne 7, 3) := by decide +kernel
theorem d_M_stages_22 : decode c_M_stages 22 = .ok (.iconst 2, 1) := by decide +kernel
theorem d_M_stages_23 : decode c_M_stages 23 = .ok (.goto 16, 3) := by decide +kernel
theorem d_M_stages_26 : decode c_M_stages 26 = .ok (.aload_n 0, 1) := by decide +kernel
theorem d_M_stages_27 : decode c_M_stages 27 = .ok (.iload_n 1, 1) := by decide +kernel
theorem d_M_stages_28 : decode c_M_stages 28 = .ok (.invokevirtual 129, 3) := by decide +kernel
theorem d_M_stages_31 : decode c_M_stages 31 = .ok (.ifCond .ne 7, 3) := by decide +kernel
theorem d_M_stages_34 : decode c_M_stages 34 = .ok (.iconst 3, 1) := by decide +kernel
theorem d_M_stages_35 : decode c_M_stages 35 = .ok (.goto 4, 3) := by decide +kernel
theorem d_M_stages_38 : decode c_M_stages 38 = .ok (.iconst 0, 1) := by decide +kernel
theorem d_M_stages_39 : decode c_M_stages 39 = .ok (.putfield 87, 3) := by decide +kernel
theorem d_M_stages_42 : decode c_M_stages 42 = .ok (.aload_n 0, 1) := by decide +kernel
theorem d_M_stages_43 : decode c_M_stages 43 = .ok (.getfield 87, 3) := by decide +kernel
theorem d_M_stages_46 : decode c_M_stages 46 = .ok (.ifCond .le 5, 3) := by decide +kernel
theorem d_M_stages_49 : decode c_M_stages 49 = .ok (.iconst 0, 1) := by decide +kernel
theorem d_M_stages_50 : decode c_M_stages 50 = .ok (.ireturn, 1) := by decide +kernel
theorem d_M_stages_51 : decode c_M_stages 51 = .ok (.iconst 0, 1) := by decide +kernel
theorem d_M_stages_52 : decode c_M_stages 52 = .ok (.istore_n 3, 1) := by decide +kernel
theorem d_M_stages_53 : decode c_M_stages 53 = .ok (.iload_n 3, 1) := by decide +kernel
theorem d_M_stages_54 : decode c_M_stages 54 = .ok (.sipush 280, 3) := by decide +kernel
theorem d_M_stages_57 : decode c_M_stages 57 = .ok (.if_icmp .ge 16, 3) := by decide +kernel
theorem d_M_stages_60 : decode c_M_stages 60 = .ok (.aload_n 0, 1) := by decide +kernel
theorem d_M_stages_61 : decode c_M_stages 61 = .ok (.getfield 78, 3) := by decide +kernel
theorem d_M_stages_64 : decode c_M_stages 64 = .ok (.iload_n 3, 1) := by decide +kernel
theorem d_M_stages_65 : decode c_M_stages 65 = .ok (.iconst (-1), 1) := by decide +kernel
theorem d_M_stages_66 : decode c_M_stages 66 = .ok (.iastore, 1) := by decide +kernel
theorem d_M_stages_67 : decode c_M_stages 67 = .ok (.iinc 3 1, 3) := by decide +kernel
theorem d_M_stages_70 : decode c_M_stages 70 = .ok (.goto (-17), 3) := by decide +kernel
theorem d_M_stages_73 : decode c_M_stages 73 = .ok (.aload_n 0, 1) := by decide +kernel
theorem d_M_stages_74 : decode c_M_stages 74 = .ok (.iload_n 1, 1) := by decide +kernel
theorem d_M_stages_75 : decode c_M_stages 75 = .ok (.iconst 0, 1) := by decide +kernel
theorem d_M_stages_76 : decode c_M_stages 76 = .ok (.iload_n 2, 1) := by decide +kernel
theorem d_M_stages_77 : decode c_M_stages 77 = .ok (.invokevirtual 399, 3) := by decide +kernel
theorem d_M_stages_80 : decode c_M_stages 80 = .ok (.istore_n 3, 1) := by decide +kernel
theorem d_M_stages_81 : decode c_M_stages 81 = .ok (.iload_n 3, 1) := by decide +kernel
theorem d_M_stages_82 : decode c_M_stages 82 = .ok (.ldc 155, 2) := by decide +kernel
theorem d_M_stages_84 : decode c_M_stages 84 = .ok (.if_icmp .ne 5, 3) := by decide +kernel
theorem d_M_stages_87 : decode c_M_stages 87 = .ok (.iconst (-1), 1) := by decide +kernel
theorem d_M_stages_88 : decode c_M_stages 88 = .ok (.ireturn, 1) := by decide +kernel
theorem d_M_stages_89 : decode c_M_stages 89 = .ok (.iload_n 3, 1) := by decide +kernel
theorem d_M_stages_90 : decode c_M_stages 90 = .ok (.ireturn, 1) := by decide +kernel
theorem d_M_image_0 : decode c_M_image 0 = .ok (.aload_n 0, 1) := by decide +kernel
theorem d_M_image_1 : decode c_M_image 1 = .ok (.iconst 0, 1) := by decide +kernel
theorem d_M_image_2 : decode c_M_image 2 = .ok (.putfield 87, 3) := by decide +kernel
theorem d_M_image_5 : decode c_M_image 5 = .ok (.iconst 0, 1) := by decide +kernel
theorem d_M_image_6 : decode c_M_image 6 = .ok (.istore_n 1, 1) := by decide +kernel
theorem d_M_image_7 : decode c_M_image 7 = .ok (.iload_n 1, 1) := by decide +kernel
theorem d_M_image_8 : decode c_M_image 8 = .ok (.sipush 499, 3) := by decide +kernel
theorem d_M_image_11 : decode c_M_image 11 = .ok (.if_icmp .ge 21, 3) := by decide +kernel
theorem d_M_image_14 : decode c_M_image 14 = .ok (.aload_n 0, 1) := by decide +kernel
theorem d_M_image_15 : decode c_M_image 15 = .ok (.getfield 16, 3) := by decide +kernel
theorem d_M_image_18 : decode c_M_image 18 = .ok (.iload_n 1, 1) := by decide +kernel
theorem d_M_image_19 : decode c_M_image 19 = .ok (.aload_n 0, 1) := by decide +kernel
theorem d_M_image_20 : decode c_M_image 20 = .ok (.getfield 7, 3) := by decide +kernel
theorem d_M_image_23 : decode c_M_image 23 = .ok (.iload_n 1, 1) := by decide +kernel
theorem d_M_image_24 : decode c_M_image 24 = .ok (.iaload, 1) := by decide +kernel
theorem d_M_image_25 : decode c_M_image 25 = .ok (.iastore, 1) := by decide +kernel
theorem d_M_image_26 : decode c_M_image 26 = .ok (.iinc 1 1, 3) := by decide +kernel
theorem d_M_image_29 : decode c_M_image 29 = .ok (.goto (-22), 3) := by decide +kernel
theorem d_M_image_32 : decode c_M_image 32 = .ok (.aload_n 0, 1) := by decide +kernel
theorem d_M_image_33 : decode c_M_image 33 = .ok (.iconst 1, 1) := by decide +kernel
theorem d_M_image_34 : decode c_M_image 34 = .ok (.putfield 402, 3) := by decide +kernel
theorem d_M_image_37 : decode c_M_image 37 = .ok (.return_, 1) := by decide +kernel
theorem d_M_back_0 : decode c_M_back 0 = .ok (.aload_n 0, 1) := by decide +kernel
theorem d_M_back_1 : decode c_M_back 1 = .ok (.iconst 0, 1) := by decide +kernel
theorem d_M_back_2 : decode c_M_back 2 = .ok (.putfield 87, 3) := by decide +kernel
theorem d_M_back_5 : decode c_M_back 5 = .ok (.aload_n 0, 1) := by decide +kernel
theorem d_M_back_6 : decode c_M_back 6 = .ok (.getfield 402, 3) := by decide +kernel
theorem d_M_back_9 : decode c_M_back 9 = .ok (.ifCond .ne 5, 3) := by decide +kernel
theorem d_M_back_12 : decode c_M_back 12 = .ok (.iconst 0, 1) := by decide +kernel
theorem d_M_back_13 : decode c_M_back 13 = .ok (.ireturn, 1) := by decide +kernel
theorem d_M_back_14 : decode c_M_back 14 = .ok (.iconst 0, 1) := by decide +kernel
theorem d_M_back_15 : decode c_M_back 15 = .ok (.istore_n 1, 1) := by decide +kernel
theorem d_M_back_16 : decode c_M_back 16 = .ok (.iload_n 1, 1) := by decide +kernel
theorem d_M_back_17 : decode c_M_back 17 = .ok (.sipush 499, 3) := by decide +kernel
theorem d_M_back_20 : decode c_M_back 20 = .ok (.if_icmp .ge 21, 3) := by decide +kernel
theorem d_M_back_23 : decode c_M_back 23 = .ok (.aload_n 0, 1) := by decide +kernel
theorem d_M_back_24 : decode c_M_back 24 = .ok (.getfield 7, 3) := by decide +kernel
theorem d_M_back_27 : decode c_M_back 27 = .ok (.iload_n 1, 1) := by decide +kernel
theorem d_M_back_28 : decode c_M_back 28 = .ok (.aload_n 0, 1) := by decide +kernel
theorem d_M_back_29 : decode c_M_back 29 = .ok (.getfield 16, 3) := by decide +kernel
theorem d_M_back_32 : decode c_M_back 32 = .ok (.iload_n 1, 1) := by decide +kernel
theorem d_M_back_33 : decode c_M_back 33 = .ok (.iaload, 1) := by decide +kernel
theorem d_M_back_34 : decode c_M_back 34 = .ok (.iastore, 1) := by decide +kernel
theorem d_M_back_35 : decode c_M_back 35 = .ok (.iinc 1 1, 3) := by decide +kernel
theorem d_M_back_38 : decode c_M_back 38 = .ok (.goto (-22), 3) := by decide +kernel
theorem d_M_back_41 : decode c_M_back 41 = .ok (.aload_n 0, 1) := by decide +kernel
theorem d_M_back_42 : decode c_M_back 42 = .ok (.iconst 0, 1) := by decide +kernel
theorem d_M_back_43 : decode c_M_back 43 = .ok (.putfield 293, 3) := by decide +kernel
theorem d_M_back_46 : decode c_M_back 46 = .ok (.iconst 1, 1) := by decide +kernel
theorem d_M_back_47 : decode c_M_back 47 = .ok (.ireturn, 1) := by decide +kernel
theorem d_M_count_0 : decode c_M_count 0 = .ok (.aload_n 0, 1) := by decide +kernel
theorem d_M_count_1 : decode c_M_count 1 = .ok (.iconst 0, 1) := by decide +kernel
theorem d_M_count_2 : decode c_M_count 2 = .ok (.putfield 87, 3) := by decide +kernel
theorem d_M_count_5 : decode c_M_count 5 = .ok (.iconst 0, 1) := by decide +kernel
theorem d_M_count_6 : decode c_M_count 6 = .ok (.istore_n 2, 1) := by decide +kernel
theorem d_M_count_7 : decode c_M_count 7 = .ok (.iload_n 1, 1) := by decide +kernel
theorem d_M_count_8 : decode c_M_count 8 = .ok (.tableswitch 157 0 5 #[40, 47, 54, 84, 117, 122], 40) := by decide +kernel
theorem d_M_count_48 : decode c_M_count 48 = .ok (.aload_n 0, 1) := by decide +kernel
theorem d_M_count_49 : decode c_M_count 49 = .ok (.getfield 7, 3) := by decide +kernel
theorem d_M_count_52 : decode c_M_count 52 = .ok (.iconst 0, 1) := by decide +kernel
theorem d_M_count_53 : decode c_M_count 53 = .ok (.iaload, 1) := by decide +kernel
theorem d_M_count_54 : decode c_M_count 54 = .ok (.ireturn, 1) := by decide +kernel
theorem d_M_count_55 : decode c_M_count 55 = .ok (.aload_n 0, 1) := by decide +kernel
theorem d_M_count_56 : decode c_M_count 56 = .ok (.getfield 7, 3) := by decide +kernel
theorem d_M_count_59 : decode c_M_count 59 = .ok (.iconst 1, 1) := by decide +kernel
theorem d_M_count_60 : decode c_M_count 60 = .ok (.iaload, 1) := by decide +kernel
theorem d_M_count_61 : decode c_M_count 61 = .ok (.ireturn, 1) := by decide +kernel
theorem d_M_count_62 : decode c_M_count 62 = .ok (.iconst 0, 1) := by decide +kernel
theorem d_M_count_63 : decode c_M_count 63 = .ok (.istore_n 3, 1) := by decide +kernel
theorem d_M_count_64 : decode c_M_count 64 = .ok (.iload_n 3, 1) := by decide +kernel
theorem d_M_count_65 : decode c_M_count 65 = .ok (.aload_n 0, 1) := by decide +kernel
theorem d_M_count_66 : decode c_M_count 66 = .ok (.invokevirtual 90, 3) := by decide +kernel
theorem d_M_count_69 : decode c_M_count 69 = .ok (.if_icmp .ge 21, 3) := by decide +kernel
theorem d_M_count_72 : decode c_M_count 72 = .ok (.iload_n 2, 1) := by decide +kernel
theorem d_M_count_73 : decode c_M_count 73 = .ok (.aload_n 0, 1) := by decide +kernel
theorem d_M_count_74 : decode c_M_count 74 = .ok (.getfield 7, 3) := by decide +kernel
theorem d_M_count_77 : decode c_M_count 77 = .ok (.bipush 94, 2) := by decide +kernel
theorem d_M_count_79 : decode c_M_count 79 = .ok (.iload_n 3, 1) := by decide +kernel
theorem d_M_count_80 : decode c_M_count 80 = .ok (.iadd, 1) := by decide +kernel
theorem d_M_count_81 : decode c_M_count 81 = .ok (.iaload, 1) := by decide +kernel
theorem d_M_count_82 : decode c_M_count 82 = .ok (.iadd, 1) := by decide +kernel
theorem d_M_count_83 : decode c_M_count 83 = .ok (.istore_n 2, 1) := by decide +kernel
theorem d_M_count_84 : decode c_M_count 84 = .ok (.iinc 3 1, 3) := by decide +kernel
theorem d_M_count_87 : decode c_M_count 87 = .ok (.goto (-23), 3) := by decide +kernel
theorem d_M_count_90 : decode c_M_count 90 = .ok (.iload_n 2, 1) := by decide +kernel
theorem d_M_count_91 : decode c_M_count 91 = .ok (.ireturn, 1) := by decide +kernel
theorem d_M_count_92 : decode c_M_count 92 = .ok (.iconst 0, 1) := by decide +kernel
theorem d_M_count_93 : decode c_M_count 93 = .ok (.istore_n 3, 1) := by decide +kernel
theorem d_M_count_94 : decode c_M_count 94 = .ok (.iload_n 3, 1) := by decide +kernel
theorem d_M_count_95 : decode c_M_count 95 = .ok (.iconst 4, 1) := by decide +kernel
theorem d_M_count_96 : decode c_M_count 96 = .ok (.if_icmp .ge 27, 3) := by decide +kernel
theorem d_M_count_99 : decode c_M_count 99 = .ok (.iload_n 2, 1) := by decide +kernel
theorem d_M_count_100 : decode c_M_count 100 = .ok (.aload_n 0, 1) := by decide +kernel
theorem d_M_count_101 : decode c_M_count 101 = .ok (.iload_n 3, 1) := by decide +kernel
theorem d_M_count_102 : decode c_M_count 102 = .ok (.invokevirtual 129, 3) := by decide +kernel
theorem d_M_count_105 : decode c_M_count 105 = .ok (.ifCond .le 9, 3) := by decide +kernel
theorem d_M_count_108 : decode c_M_count 108 = .ok (.iconst 1, 1) := by decide +kernel
theorem d_M_count_109 : decode c_M_count 109 = .ok (.iload_n 3, 1) := by decide +kernel
theorem d_M_count_110 : decode c_M_count 110 = .ok (.ishl, 1) := by decide +kernel
theorem d_M_count_111 : decode c_M_count 111 = .ok (.goto 4, 3) := by decide +kernel
theorem d_M_count_114 : decode c_M_count 114 = .ok (.iconst 0, 1) := by decide +kernel
theorem d_M_count_115 : decode c_M_count 115 = .ok (.ior, 1) := by decide +kernel
theorem d_M_count_116 : decode c_M_count 116 = .ok (.istore_n 2, 1) := by decide +kernel
theorem d_M_count_117 : decode c_M_count 117 = .ok (.iinc 3 1, 3) := by decide +kernel
theorem d_M_count_120 : decode c_M_count 120 = .ok (.goto (-26), 3) := by decide +kernel
theorem d_M_count_123 : decode c_M_count 123 = .ok (.iload_n 2, 1) := by decide +kernel
theorem d_M_count_124 : decode c_M_count 124 = .ok (.ireturn, 1) := by decide +kernel
theorem d_M_count_125 : decode c_M_count 125 = .ok (.aload_n 0, 1) := by decide +kernel
theorem d_M_count_126 : decode c_M_count 126 = .ok (.getfield 293, 3) := by decide +kernel
theorem d_M_count_129 : decode c_M_count 129 = .ok (.ireturn, 1) := by decide +kernel
theorem d_M_count_130 : decode c_M_count 130 = .ok (.iconst 0, 1) := by decide +kernel
theorem d_M_count_131 : decode c_M_count 131 = .ok (.istore_n 3, 1) := by decide +kernel
theorem d_M_count_132 : decode c_M_count 132 = .ok (.iload_n 3, 1) := by decide +kernel
theorem d_M_count_133 : decode c_M_count 133 = .ok (.aload_n 0, 1) := by decide +kernel
theorem d_M_count_134 : decode c_M_count 134 = .ok (.invokevirtual 90, 3) := by decide +kernel
theorem d_M_count_137 : decode c_M_count 137 = .ok (.if_icmp .ge 26, 3) := by decide +kernel
theorem d_M_count_140 : decode c_M_count 140 = .ok (.iload_n 2, 1) := by decide +kernel
theorem d_M_count_141 : decode c_M_count 141 = .ok (.aload_n 0, 1) := by decide +kernel
theorem d_M_count_142 : decode c_M_count 142 = .ok (.iload_n 3, 1) := by decide +kernel
theorem d_M_count_143 : decode c_M_count 143 = .ok (.invokevirtual 194, 3) := by decide +kernel
theorem d_M_count_146 : decode c_M_count 146 = .ok (.iconst (-1), 1) := by decide +kernel
theorem d_M_count_147 : decode c_M_count 147 = .ok (.if_icmp .ne 7, 3) := by decide +kernel
theorem d_M_count_150 : decode c_M_count 150 = .ok (.iconst 1, 1) := by decide +kernel
theorem d_M_count_151 : decode c_M_count 151 = .ok (.goto 4, 3) := by decide +kernel
theorem d_M_count_154 : decode c_M_count 154 = .ok (.iconst 0, 1) := by decide +kernel
theorem d_M_count_155 : decode c_M_count 155 = .ok (.iadd, 1) := by decide +kernel
theorem d_M_count_156 : decode c_M_count 156 = .ok (.istore_n 2, 1) := by decide +kernel
theorem d_M_count_157 : decode c_M_count 157 = .ok (.iinc 3 1, 3) := by decide +kernel
theorem d_M_count_160 : decode c_M_count 160 = .ok (.goto (-28), 3) := by decide +kernel
theorem d_M_count_163 : decode c_M_count 163 = .ok (.iload_n 2, 1) := by decide +kernel
theorem d_M_count_164 : decode c_M_count 164 = .ok (.ireturn, 1) := by decide +kernel
theorem d_M_count_165 : decode c_M_count 165 = .ok (.iconst (-1), 1) := by decide +kernel
theorem d_M_count_166 : decode c_M_count 166 = .ok (.ireturn, 1) := by decide +kernel

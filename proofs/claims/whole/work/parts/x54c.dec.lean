theorem dX11_init_0 : decode cX11_init 0 = .ok (.aload_n 0, 1) := by decide +kernel
theorem dX11_init_1 : decode cX11_init 1 = .ok (.invokespecial 1, 3) := by decide +kernel
theorem dX11_init_4 : decode cX11_init 4 = .ok (.aload_n 0, 1) := by decide +kernel
theorem dX11_init_5 : decode cX11_init 5 = .ok (.sipush 700, 3) := by decide +kernel
theorem dX11_init_8 : decode cX11_init 8 = .ok (.newarray .int, 2) := by decide +kernel
theorem dX11_init_10 : decode cX11_init 10 = .ok (.putfield 7, 3) := by decide +kernel
theorem dX11_init_13 : decode cX11_init 13 = .ok (.aload_n 0, 1) := by decide +kernel
theorem dX11_init_14 : decode cX11_init 14 = .ok (.bipush 100, 2) := by decide +kernel
theorem dX11_init_16 : decode cX11_init 16 = .ok (.newarray .int, 2) := by decide +kernel
theorem dX11_init_18 : decode cX11_init 18 = .ok (.dup, 1) := by decide +kernel
theorem dX11_init_19 : decode cX11_init 19 = .ok (.iconst 0, 1) := by decide +kernel
theorem dX11_init_20 : decode cX11_init 20 = .ok (.bipush 107, 2) := by decide +kernel
theorem dX11_init_22 : decode cX11_init 22 = .ok (.iastore, 1) := by decide +kernel
theorem dX11_init_23 : decode cX11_init 23 = .ok (.dup, 1) := by decide +kernel
theorem dX11_init_24 : decode cX11_init 24 = .ok (.iconst 1, 1) := by decide +kernel
theorem dX11_init_25 : decode cX11_init 25 = .ok (.bipush 105, 2) := by decide +kernel
theorem dX11_init_27 : decode cX11_init 27 = .ok (.iastore, 1) := by decide +kernel
theorem dX11_init_28 : decode cX11_init 28 = .ok (.dup, 1) := by decide +kernel
theorem dX11_init_29 : decode cX11_init 29 = .ok (.iconst 2, 1) := by decide +kernel
theorem dX11_init_30 : decode cX11_init 30 = .ok (.bipush 110, 2) := by decide +kernel
theorem dX11_init_32 : decode cX11_init 32 = .ok (.iastore, 1) := by decide +kernel
theorem dX11_init_33 : decode cX11_init 33 = .ok (.dup, 1) := by decide +kernel
theorem dX11_init_34 : decode cX11_init 34 = .ok (.iconst 3, 1) := by decide +kernel
theorem dX11_init_35 : decode cX11_init 35 = .ok (.bipush 100, 2) := by decide +kernel
theorem dX11_init_37 : decode cX11_init 37 = .ok (.iastore, 1) := by decide +kernel
theorem dX11_init_38 : decode cX11_init 38 = .ok (.dup, 1) := by decide +kernel
theorem dX11_init_39 : decode cX11_init 39 = .ok (.iconst 4, 1) := by decide +kernel
theorem dX11_init_40 : decode cX11_init 40 = .ok (.bipush 32, 2) := by decide +kernel
theorem dX11_init_42 : decode cX11_init 42 = .ok (.iastore, 1) := by decide +kernel
theorem dX11_init_43 : decode cX11_init 43 = .ok (.dup, 1) := by decide +kernel
theorem dX11_init_44 : decode cX11_init 44 = .ok (.iconst 5, 1) := by decide +kernel
theorem dX11_init_45 : decode cX11_init 45 = .ok (.bipush 104, 2) := by decide +kernel
theorem dX11_init_47 : decode cX11_init 47 = .ok (.iastore, 1) := by decide +kernel
theorem dX11_init_48 : decode cX11_init 48 = .ok (.dup, 1) := by decide +kernel
theorem dX11_init_49 : decode cX11_init 49 = .ok (.bipush 6, 2) := by decide +kernel
theorem dX11_init_51 : decode cX11_init 51 = .ok (.bipush 111, 2) := by decide +kernel
theorem dX11_init_53 : decode cX11_init 53 = .ok (.iastore, 1) := by decide +kernel
theorem dX11_init_54 : decode cX11_init 54 = .ok (.dup, 1) := by decide +kernel
theorem dX11_init_55 : decode cX11_init 55 = .ok (.bipush 7, 2) := by decide +kernel
theorem dX11_init_57 : decode cX11_init 57 = .ok (.bipush 117, 2) := by decide +kernel
theorem dX11_init_59 : decode cX11_init 59 = .ok (.iastore, 1) := by decide +kernel
theorem dX11_init_60 : decode cX11_init 60 = .ok (.dup, 1) := by decide +kernel
theorem dX11_init_61 : decode cX11_init 61 = .ok (.bipush 8, 2) := by decide +kernel
theorem dX11_init_63 : decode cX11_init 63 = .ok (.bipush 115, 2) := by decide +kernel
theorem dX11_init_65 : decode cX11_init 65 = .ok (.iastore, 1) := by decide +kernel
theorem dX11_init_66 : decode cX11_init 66 = .ok (.dup, 1) := by decide +kernel
theorem dX11_init_67 : decode cX11_init 67 = .ok (.bipush 9, 2) := by decide +kernel
theorem dX11_init_69 : decode cX11_init 69 = .ok (.bipush 101, 2) := by decide +kernel
theorem dX11_init_71 : decode cX11_init 71 = .ok (.iastore, 1) := by decide +kernel
theorem dX11_init_72 : decode cX11_init 72 = .ok (.dup, 1) := by decide +kernel
theorem dX11_init_73 : decode cX11_init 73 = .ok (.bipush 10, 2) := by decide +kernel
theorem dX11_init_75 : decode cX11_init 75 = .ok (.bipush 32, 2) := by decide +kernel
theorem dX11_init_77 : decode cX11_init 77 = .ok (.iastore, 1) := by decide +kernel
theorem dX11_init_78 : decode cX11_init 78 = .ok (.dup, 1) := by decide +kernel
theorem dX11_init_79 : decode cX11_init 79 = .ok (.bipush 11, 2) := by decide +kernel
theorem dX11_init_81 : decode cX11_init 81 = .ok (.bipush 100, 2) := by decide +kernel
theorem dX11_init_83 : decode cX11_init 83 = .ok (.iastore, 1) := by decide +kernel
theorem dX11_init_84 : decode cX11_init 84 = .ok (.dup, 1) := by decide +kernel
theorem dX11_init_85 : decode cX11_init 85 = .ok (.bipush 12, 2) := by decide +kernel
theorem dX11_init_87 : decode cX11_init 87 = .ok (.bipush 97, 2) := by decide +kernel
theorem dX11_init_89 : decode cX11_init 89 = .ok (.iastore, 1) := by decide +kernel
theorem dX11_init_90 : decode cX11_init 90 = .ok (.dup, 1) := by decide +kernel
theorem dX11_init_91 : decode cX11_init 91 = .ok (.bipush 13, 2) := by decide +kernel
theorem dX11_init_93 : decode cX11_init 93 = .ok (.bipush 121, 2) := by decide +kernel
theorem dX11_init_95 : decode cX11_init 95 = .ok (.iastore, 1) := by decide +kernel
theorem dX11_init_96 : decode cX11_init 96 = .ok (.dup, 1) := by decide +kernel
theorem dX11_init_97 : decode cX11_init 97 = .ok (.bipush 14, 2) := by decide +kernel
theorem dX11_init_99 : decode cX11_init 99 = .ok (.bipush 32, 2) := by decide +kernel
theorem dX11_init_101 : decode cX11_init 101 = .ok (.iastore, 1) := by decide +kernel
theorem dX11_init_102 : decode cX11_init 102 = .ok (.dup, 1) := by decide +kernel
theorem dX11_init_103 : decode cX11_init 103 = .ok (.bipush 15, 2) := by decide +kernel
theorem dX11_init_105 : decode cX11_init 105 = .ok (.bipush 119, 2) := by decide +kernel
theorem dX11_init_107 : decode cX11_init 107 = .ok (.iastore, 1) := by decide +kernel
theorem dX11_init_108 : decode cX11_init 108 = .ok (.dup, 1) := by decide +kernel
theorem dX11_init_109 : decode cX11_init 109 = .ok (.bipush 16, 2) := by decide +kernel
theorem dX11_init_111 : decode cX11_init 111 = .ok (.bipush 111, 2) := by decide +kernel
theorem dX11_init_113 : decode cX11_init 113 = .ok (.iastore, 1) := by decide +kernel
theorem dX11_init_114 : decode cX11_init 114 = .ok (.dup, 1) := by decide +kernel
theorem dX11_init_115 : decode cX11_init 115 = .ok (.bipush 17, 2) := by decide +kernel
theorem dX11_init_117 : decode cX11_init 117 = .ok (.bipush 114, 2) := by decide +kernel
theorem dX11_init_119 : decode cX11_init 119 = .ok (.iastore, 1) := by decide +kernel
theorem dX11_init_120 : decode cX11_init 120 = .ok (.dup, 1) := by decide +kernel
theorem dX11_init_121 : decode cX11_init 121 = .ok (.bipush 18, 2) := by decide +kernel
theorem dX11_init_123 : decode cX11_init 123 = .ok (.bipush 107, 2) := by decide +kernel
theorem dX11_init_125 : decode cX11_init 125 = .ok (.iastore, 1) := by decide +kernel
theorem dX11_init_126 : decode cX11_init 126 = .ok (.dup, 1) := by decide +kernel
theorem dX11_init_127 : decode cX11_init 127 = .ok (.bipush 19, 2) := by decide +kernel
theorem dX11_init_129 : decode cX11_init 129 = .ok (.bipush 32, 2) := by decide +kernel
theorem dX11_init_131 : decode cX11_init 131 = .ok (.iastore, 1) := by decide +kernel
theorem dX11_init_132 : decode cX11_init 132 = .ok (.dup, 1) := by decide +kernel
theorem dX11_init_133 : decode cX11_init 133 = .ok (.bipush 20, 2) := by decide +kernel
theorem dX11_init_135 : decode cX11_init 135 = .ok (.bipush 116, 2) := by decide +kernel
theorem dX11_init_137 : decode cX11_init 137 = .ok (.iastore, 1) := by decide +kernel
theorem dX11_init_138 : decode cX11_init 138 = .ok (.dup, 1) := by decide +kernel
theorem dX11_init_139 : decode cX11_init 139 = .ok (.bipush 21, 2) := by decide +kernel
theorem dX11_init_141 : decode cX11_init 141 = .ok (.bipush 101, 2) := by decide +kernel
theorem dX11_init_143 : decode cX11_init 143 = .ok (.iastore, 1) := by decide +kernel
theorem dX11_init_144 : decode cX11_init 144 = .ok (.dup, 1) := by decide +kernel
theorem dX11_init_145 : decode cX11_init 145 = .ok (.bipush 22, 2) := by decide +kernel
theorem dX11_init_147 : decode cX11_init 147 = .ok (.bipush 114, 2) := by decide +kernel
theorem dX11_init_149 : decode cX11_init 149 = .ok (.iastore, 1) := by decide +kernel
theorem dX11_init_150 : decode cX11_init 150 = .ok (.dup, 1) := by decide +kernel
theorem dX11_init_151 : decode cX11_init 151 = .ok (.bipush 23, 2) := by decide +kernel
theorem dX11_init_153 : decode cX11_init 153 = .ok (.bipush 109, 2) := by decide +kernel
theorem dX11_init_155 : decode cX11_init 155 = .ok (.iastore, 1) := by decide +kernel
theorem dX11_init_156 : decode cX11_init 156 = .ok (.dup, 1) := by decide +kernel
theorem dX11_init_157 : decode cX11_init 157 = .ok (.bipush 24, 2) := by decide +kernel
theorem dX11_init_159 : decode cX11_init 159 = .ok (.bipush 32, 2) := by decide +kernel
theorem dX11_init_161 : decode cX11_init 161 = .ok (.iastore, 1) := by decide +kernel
theorem dX11_init_162 : decode cX11_init 162 = .ok (.dup, 1) := by decide +kernel
theorem dX11_init_163 : decode cX11_init 163 = .ok (.bipush 25, 2) := by decide +kernel
theorem dX11_init_165 : decode cX11_init 165 = .ok (.bipush 115, 2) := by decide +kernel
theorem dX11_init_167 : decode cX11_init 167 = .ok (.iastore, 1) := by decide +kernel
theorem dX11_init_168 : decode cX11_init 168 = .ok (.dup, 1) := by decide +kernel
theorem dX11_init_169 : decode cX11_init 169 = .ok (.bipush 26, 2) := by decide +kernel
theorem dX11_init_171 : decode cX11_init 171 = .ok (.bipush 101, 2) := by decide +kernel
theorem dX11_init_173 : decode cX11_init 173 = .ok (.iastore, 1) := by decide +kernel
theorem dX11_init_174 : decode cX11_init 174 = .ok (.dup, 1) := by decide +kernel
theorem dX11_init_175 : decode cX11_init 175 = .ok (.bipush 27, 2) := by decide +kernel
theorem dX11_init_177 : decode cX11_init 177 = .ok (.bipush 101, 2) := by decide +kernel
theorem dX11_init_179 : decode cX11_init 179 = .ok (.iastore, 1) := by decide +kernel
theorem dX11_init_180 : decode cX11_init 180 = .ok (.dup, 1) := by decide +kernel
theorem dX11_init_181 : decode cX11_init 181 = .ok (.bipush 28, 2) := by decide +kernel
theorem dX11_init_183 : decode cX11_init 183 = .ok (.bipush 100, 2) := by decide +kernel
theorem dX11_init_185 : decode cX11_init 185 = .ok (.iastore, 1) := by decide +kernel
theorem dX11_init_186 : decode cX11_init 186 = .ok (.dup, 1) := by decide +kernel
theorem dX11_init_187 : decode cX11_init 187 = .ok (.bipush 29, 2) := by decide +kernel
theorem dX11_init_189 : decode cX11_init 189 = .ok (.bipush 32, 2) := by decide +kernel
theorem dX11_init_191 : decode cX11_init 191 = .ok (.iastore, 1) := by decide +kernel
theorem dX11_init_192 : decode cX11_init 192 = .ok (.dup, 1) := by decide +kernel
theorem dX11_init_193 : decode cX11_init 193 = .ok (.bipush 30, 2) := by decide +kernel
theorem dX11_init_195 : decode cX11_init 195 = .ok (.bipush 108, 2) := by decide +kernel
theorem dX11_init_197 : decode cX11_init 197 = .ok (.iastore, 1) := by decide +kernel
theorem dX11_init_198 : decode cX11_init 198 = .ok (.dup, 1) := by decide +kernel
theorem dX11_init_199 : decode cX11_init 199 = .ok (.bipush 31, 2) := by decide +kernel
theorem dX11_init_201 : decode cX11_init 201 = .ok (.bipush 97, 2) := by decide +kernel
theorem dX11_init_203 : decode cX11_init 203 = .ok (.iastore, 1) := by decide +kernel
theorem dX11_init_204 : decode cX11_init 204 = .ok (.dup, 1) := by decide +kernel
theorem dX11_init_205 : decode cX11_init 205 = .ok (.bipush 32, 2) := by decide +kernel
theorem dX11_init_207 : decode cX11_init 207 = .ok (.bipush 119, 2) := by decide +kernel
theorem dX11_init_209 : decode cX11_init 209 = .ok (.iastore, 1) := by decide +kernel
theorem dX11_init_210 : decode cX11_init 210 = .ok (.dup, 1) := by decide +kernel
theorem dX11_init_211 : decode cX11_init 211 = .ok (.bipush 33, 2) := by decide +kernel
theorem dX11_init_213 : decode cX11_init 213 = .ok (.bipush 32, 2) := by decide +kernel
theorem dX11_init_215 : decode cX11_init 215 = .ok (.iastore, 1) := by decide +kernel
theorem dX11_init_216 : decode cX11_init 216 = .ok (.dup, 1) := by decide +kernel
theorem dX11_init_217 : decode cX11_init 217 = .ok (.bipush 34, 2) := by decide +kernel
theorem dX11_init_219 : decode cX11_init 219 = .ok (.bipush 108, 2) := by decide +kernel
theorem dX11_init_221 : decode cX11_init 221 = .ok (.iastore, 1) := by decide +kernel
theorem dX11_init_222 : decode cX11_init 222 = .ok (.dup, 1) := by decide +kernel
theorem dX11_init_223 : decode cX11_init 223 = .ok (.bipush 35, 2) := by decide +kernel
theorem dX11_init_225 : decode cX11_init 225 = .ok (.bipush 111, 2) := by decide +kernel
theorem dX11_init_227 : decode cX11_init 227 = .ok (.iastore, 1) := by decide +kernel
theorem dX11_init_228 : decode cX11_init 228 = .ok (.dup, 1) := by decide +kernel
theorem dX11_init_229 : decode cX11_init 229 = .ok (.bipush 36, 2) := by decide +kernel
theorem dX11_init_231 : decode cX11_init 231 = .ok (.bipush 111, 2) := by decide +kernel
theorem dX11_init_233 : decode cX11_init 233 = .ok (.iastore, 1) := by decide +kernel
theorem dX11_init_234 : decode cX11_init 234 = .ok (.dup, 1) := by decide +kernel
theorem dX11_init_235 : decode cX11_init 235 = .ok (.bipush 37, 2) := by decide +kernel
theorem dX11_init_237 : decode cX11_init 237 = .ok (.bipush 107, 2) := by decide +kernel
theorem dX11_init_239 : decode cX11_init 239 = .ok (.iastore, 1) := by decide +kernel
theorem dX11_init_240 : decode cX11_init 240 = .ok (.dup, 1) := by decide +kernel
theorem dX11_init_241 : decode cX11_init 241 = .ok (.bipush 38, 2) := by decide +kernel
theorem dX11_init_243 : decode cX11_init 243 = .ok (.bipush 32, 2) := by decide +kernel
theorem dX11_init_245 : decode cX11_init 245 = .ok (.iastore, 1) := by decide +kernel
theorem dX11_init_246 : decode cX11_init 246 = .ok (.dup, 1) := by decide +kernel
theorem dX11_init_247 : decode cX11_init 247 = .ok (.bipush 39, 2) := by decide +kernel
theorem dX11_init_249 : decode cX11_init 249 = .ok (.bipush 117, 2) := by decide +kernel
theorem dX11_init_251 : decode cX11_init 251 = .ok (.iastore, 1) := by decide +kernel
theorem dX11_init_252 : decode cX11_init 252 = .ok (.dup, 1) := by decide +kernel
theorem dX11_init_253 : decode cX11_init 253 = .ok (.bipush 40, 2) := by decide +kernel
theorem dX11_init_255 : decode cX11_init 255 = .ok (.bipush 115, 2) := by decide +kernel
theorem dX11_init_257 : decode cX11_init 257 = .ok (.iastore, 1) := by decide +kernel
theorem dX11_init_258 : decode cX11_init 258 = .ok (.dup, 1) := by decide +kernel
theorem dX11_init_259 : decode cX11_init 259 = .ok (.bipush 41, 2) := by decide +kernel
theorem dX11_init_261 : decode cX11_init 261 = .ok (.bipush 101, 2) := by decide +kernel
theorem dX11_init_263 : decode cX11_init 263 = .ok (.iastore, 1) := by decide +kernel
theorem dX11_init_264 : decode cX11_init 264 = .ok (.dup, 1) := by decide +kernel
theorem dX11_init_265 : decode cX11_init 265 = .ok (.bipush 42, 2) := by decide +kernel
theorem dX11_init_267 : decode cX11_init 267 = .ok (.bipush 32, 2) := by decide +kernel
theorem dX11_init_269 : decode cX11_init 269 = .ok (.iastore, 1) := by decide +kernel
theorem dX11_init_270 : decode cX11_init 270 = .ok (.dup, 1) := by decide +kernel
theorem dX11_init_271 : decode cX11_init 271 = .ok (.bipush 43, 2) := by decide +kernel
theorem dX11_init_273 : decode cX11_init 273 = .ok (.bipush 112, 2) := by decide +kernel
theorem dX11_init_275 : decode cX11_init 275 = .ok (.iastore, 1) := by decide +kernel
theorem dX11_init_276 : decode cX11_init 276 = .ok (.dup, 1) := by decide +kernel
theorem dX11_init_277 : decode cX11_init 277 = .ok (.bipush 44, 2) := by decide +kernel
theorem dX11_init_279 : decode cX11_init 279 = .ok (.bipush 114, 2) := by decide +kernel
theorem dX11_init_281 : decode cX11_init 281 = .ok (.iastore, 1) := by decide +kernel
theorem dX11_init_282 : decode cX11_init 282 = .ok (.dup, 1) := by decide +kernel
theorem dX11_init_283 : decode cX11_init 283 = .ok (.bipush 45, 2) := by decide +kernel
theorem dX11_init_285 : decode cX11_init 285 = .ok (.bipush 105, 2) := by decide +kernel
theorem dX11_init_287 : decode cX11_init 287 = .ok (.iastore, 1) := by decide +kernel
theorem dX11_init_288 : decode cX11_init 288 = .ok (.dup, 1) := by decide +kernel
theorem dX11_init_289 : decode cX11_init 289 = .ok (.bipush 46, 2) := by decide +kernel
theorem dX11_init_291 : decode cX11_init 291 = .ok (.bipush 99, 2) := by decide +kernel
theorem dX11_init_293 : decode cX11_init 293 = .ok (.iastore, 1) := by decide +kernel
theorem dX11_init_294 : decode cX11_init 294 = .ok (.dup, 1) := by decide +kernel
theorem dX11_init_295 : decode cX11_init 295 = .ok (.bipush 47, 2) := by decide +kernel
theorem dX11_init_297 : decode cX11_init 297 = .ok (.bipush 101, 2) := by decide +kernel
theorem dX11_init_299 : decode cX11_init 299 = .ok (.iastore, 1) := by decide +kernel
theorem dX11_init_300 : decode cX11_init 300 = .ok (.dup, 1) := by decide +kernel
theorem dX11_init_301 : decode cX11_init 301 = .ok (.bipush 48, 2) := by decide +kernel
theorem dX11_init_303 : decode cX11_init 303 = .ok (.bipush 32, 2) := by decide +kernel
theorem dX11_init_305 : decode cX11_init 305 = .ok (.iastore, 1) := by decide +kernel
theorem dX11_init_306 : decode cX11_init 306 = .ok (.dup, 1) := by decide +kernel
theorem dX11_init_307 : decode cX11_init 307 = .ok (.bipush 49, 2) := by decide +kernel
theorem dX11_init_309 : decode cX11_init 309 = .ok (.bipush 97, 2) := by decide +kernel
theorem dX11_init_311 : decode cX11_init 311 = .ok (.iastore, 1) := by decide +kernel
theorem dX11_init_312 : decode cX11_init 312 = .ok (.dup, 1) := by decide +kernel
theorem dX11_init_313 : decode cX11_init 313 = .ok (.bipush 50, 2) := by decide +kernel
theorem dX11_init_315 : decode cX11_init 315 = .ok (.bipush 110, 2) := by decide +kernel
theorem dX11_init_317 : decode cX11_init 317 = .ok (.iastore, 1) := by decide +kernel
theorem dX11_init_318 : decode cX11_init 318 = .ok (.dup, 1) := by decide +kernel
theorem dX11_init_319 : decode cX11_init 319 = .ok (.bipush 51, 2) := by decide +kernel
theorem dX11_init_321 : decode cX11_init 321 = .ok (.bipush 100, 2) := by decide +kernel
theorem dX11_init_323 : decode cX11_init 323 = .ok (.iastore, 1) := by decide +kernel
theorem dX11_init_324 : decode cX11_init 324 = .ok (.dup, 1) := by decide +kernel
theorem dX11_init_325 : decode cX11_init 325 = .ok (.bipush 52, 2) := by decide +kernel
theorem dX11_init_327 : decode cX11_init 327 = .ok (.bipush 32, 2) := by decide +kernel
theorem dX11_init_329 : decode cX11_init 329 = .ok (.iastore, 1) := by decide +kernel
theorem dX11_init_330 : decode cX11_init 330 = .ok (.dup, 1) := by decide +kernel
theorem dX11_init_331 : decode cX11_init 331 = .ok (.bipush 53, 2) := by decide +kernel
theorem dX11_init_333 : decode cX11_init 333 = .ok (.bipush 111, 2) := by decide +kernel
theorem dX11_init_335 : decode cX11_init 335 = .ok (.iastore, 1) := by decide +kernel
theorem dX11_init_336 : decode cX11_init 336 = .ok (.dup, 1) := by decide +kernel
theorem dX11_init_337 : decode cX11_init 337 = .ok (.bipush 54, 2) := by decide +kernel
theorem dX11_init_339 : decode cX11_init 339 = .ok (.bipush 114, 2) := by decide +kernel
theorem dX11_init_341 : decode cX11_init 341 = .ok (.iastore, 1) := by decide +kernel
theorem dX11_init_342 : decode cX11_init 342 = .ok (.dup, 1) := by decide +kernel
theorem dX11_init_343 : decode cX11_init 343 = .ok (.bipush 55, 2) := by decide +kernel
theorem dX11_init_345 : decode cX11_init 345 = .ok (.bipush 32, 2) := by decide +kernel
theorem dX11_init_347 : decode cX11_init 347 = .ok (.iastore, 1) := by decide +kernel
theorem dX11_init_348 : decode cX11_init 348 = .ok (.dup, 1) := by decide +kernel
theorem dX11_init_349 : decode cX11_init 349 = .ok (.bipush 56, 2) := by decide +kernel
theorem dX11_init_351 : decode cX11_init 351 = .ok (.bipush 110, 2) := by decide +kernel
theorem dX11_init_353 : decode cX11_init 353 = .ok (.iastore, 1) := by decide +kernel
theorem dX11_init_354 : decode cX11_init 354 = .ok (.dup, 1) := by decide +kernel
theorem dX11_init_355 : decode cX11_init 355 = .ok (.bipush 57, 2) := by decide +kernel
theorem dX11_init_357 : decode cX11_init 357 = .ok (.bipush 111, 2) := by decide +kernel
theorem dX11_init_359 : decode cX11_init 359 = .ok (.iastore, 1) := by decide +kernel
theorem dX11_init_360 : decode cX11_init 360 = .ok (.dup, 1) := by decide +kernel
theorem dX11_init_361 : decode cX11_init 361 = .ok (.bipush 58, 2) := by decide +kernel
theorem dX11_init_363 : decode cX11_init 363 = .ok (.bipush 116, 2) := by decide +kernel
theorem dX11_init_365 : decode cX11_init 365 = .ok (.iastore, 1) := by decide +kernel
theorem dX11_init_366 : decode cX11_init 366 = .ok (.dup, 1) := by decide +kernel
theorem dX11_init_367 : decode cX11_init 367 = .ok (.bipush 59, 2) := by decide +kernel
theorem dX11_init_369 : decode cX11_init 369 = .ok (.bipush 32, 2) := by decide +kernel
theorem dX11_init_371 : decode cX11_init 371 = .ok (.iastore, 1) := by decide +kernel
theorem dX11_init_372 : decode cX11_init 372 = .ok (.dup, 1) := by decide +kernel
theorem dX11_init_373 : decode cX11_init 373 = .ok (.bipush 60, 2) := by decide +kernel
theorem dX11_init_375 : decode cX11_init 375 = .ok (.bipush 119, 2) := by decide +kernel
theorem dX11_init_377 : decode cX11_init 377 = .ok (.iastore, 1) := by decide +kernel
theorem dX11_init_378 : decode cX11_init 378 = .ok (.dup, 1) := by decide +kernel
theorem dX11_init_379 : decode cX11_init 379 = .ok (.bipush 61, 2) := by decide +kernel
theorem dX11_init_381 : decode cX11_init 381 = .ok (.bipush 111, 2) := by decide +kernel
theorem dX11_init_383 : decode cX11_init 383 = .ok (.iastore, 1) := by decide +kernel
theorem dX11_init_384 : decode cX11_init 384 = .ok (.dup, 1) := by decide +kernel
theorem dX11_init_385 : decode cX11_init 385 = .ok (.bipush 62, 2) := by decide +kernel
theorem dX11_init_387 : decode cX11_init 387 = .ok (.bipush 114, 2) := by decide +kernel
theorem dX11_init_389 : decode cX11_init 389 = .ok (.iastore, 1) := by decide +kernel
theorem dX11_init_390 : decode cX11_init 390 = .ok (.dup, 1) := by decide +kernel
theorem dX11_init_391 : decode cX11_init 391 = .ok (.bipush 63, 2) := by decide +kernel
theorem dX11_init_393 : decode cX11_init 393 = .ok (.bipush 116, 2) := by decide +kernel
theorem dX11_init_395 : decode cX11_init 395 = .ok (.iastore, 1) := by decide +kernel
theorem dX11_init_396 : decode cX11_init 396 = .ok (.dup, 1) := by decide +kernel
theorem dX11_init_397 : decode cX11_init 397 = .ok (.bipush 64, 2) := by decide +kernel
theorem dX11_init_399 : decode cX11_init 399 = .ok (.bipush 104, 2) := by decide +kernel
theorem dX11_init_401 : decode cX11_init 401 = .ok (.iastore, 1) := by decide +kernel
theorem dX11_init_402 : decode cX11_init 402 = .ok (.dup, 1) := by decide +kernel
theorem dX11_init_403 : decode cX11_init 403 = .ok (.bipush 65, 2) := by decide +kernel
theorem dX11_init_405 : decode cX11_init 405 = .ok (.bipush 32, 2) := by decide +kernel
theorem dX11_init_407 : decode cX11_init 407 = .ok (.iastore, 1) := by decide +kernel
theorem dX11_init_408 : decode cX11_init 408 = .ok (.dup, 1) := by decide +kernel
theorem dX11_init_409 : decode cX11_init 409 = .ok (.bipush 66, 2) := by decide +kernel
theorem dX11_init_411 : decode cX11_init 411 = .ok (.bipush 101, 2) := by decide +kernel
theorem dX11_init_413 : decode cX11_init 413 = .ok (.iastore, 1) := by decide +kernel
theorem dX11_init_414 : decode cX11_init 414 = .ok (.dup, 1) := by decide +kernel
theorem dX11_init_415 : decode cX11_init 415 = .ok (.bipush 67, 2) := by decide +kernel
theorem dX11_init_417 : decode cX11_init 417 = .ok (.bipush 97, 2) := by decide +kernel
theorem dX11_init_419 : decode cX11_init 419 = .ok (.iastore, 1) := by decide +kernel
theorem dX11_init_420 : decode cX11_init 420 = .ok (.dup, 1) := by decide +kernel
theorem dX11_init_421 : decode cX11_init 421 = .ok (.bipush 68, 2) := by decide +kernel
theorem dX11_init_423 : decode cX11_init 423 = .ok (.bipush 103, 2) := by decide +kernel
theorem dX11_init_425 : decode cX11_init 425 = .ok (.iastore, 1) := by decide +kernel
theorem dX11_init_426 : decode cX11_init 426 = .ok (.dup, 1) := by decide +kernel
theorem dX11_init_427 : decode cX11_init 427 = .ok (.bipush 69, 2) := by decide +kernel
theorem dX11_init_429 : decode cX11_init 429 = .ok (.bipush 101, 2) := by decide +kernel
theorem dX11_init_431 : decode cX11_init 431 = .ok (.iastore, 1) := by decide +kernel
theorem dX11_init_432 : decode cX11_init 432 = .ok (.dup, 1) := by decide +kernel
theorem dX11_init_433 : decode cX11_init 433 = .ok (.bipush 70, 2) := by decide +kernel
theorem dX11_init_435 : decode cX11_init 435 = .ok (.bipush 114, 2) := by decide +kernel
theorem dX11_init_437 : decode cX11_init 437 = .ok (.iastore, 1) := by decide +kernel
theorem dX11_init_438 : decode cX11_init 438 = .ok (.dup, 1) := by decide +kernel
theorem dX11_init_439 : decode cX11_init 439 = .ok (.bipush 71, 2) := by decide +kernel
theorem dX11_init_441 : decode cX11_init 441 = .ok (.bipush 32, 2) := by decide +kernel
theorem dX11_init_443 : decode cX11_init 443 = .ok (.iastore, 1) := by decide +kernel
theorem dX11_init_444 : decode cX11_init 444 = .ok (.dup, 1) := by decide +kernel
theorem dX11_init_445 : decode cX11_init 445 = .ok (.bipush 72, 2) := by decide +kernel
theorem dX11_init_447 : decode cX11_init 447 = .ok (.bipush 112, 2) := by decide +kernel
theorem dX11_init_449 : decode cX11_init 449 = .ok (.iastore, 1) := by decide +kernel
theorem dX11_init_450 : decode cX11_init 450 = .ok (.dup, 1) := by decide +kernel
theorem dX11_init_451 : decode cX11_init 451 = .ok (.bipush 73, 2) := by decide +kernel
theorem dX11_init_453 : decode cX11_init 453 = .ok (.bipush 117, 2) := by decide +kernel
theorem dX11_init_455 : decode cX11_init 455 = .ok (.iastore, 1) := by decide +kernel
theorem dX11_init_456 : decode cX11_init 456 = .ok (.dup, 1) := by decide +kernel
theorem dX11_init_457 : decode cX11_init 457 = .ok (.bipush 74, 2) := by decide +kernel
theorem dX11_init_459 : decode cX11_init 459 = .ok (.bipush 114, 2) := by decide +kernel
theorem dX11_init_461 : decode cX11_init 461 = .ok (.iastore, 1) := by decide +kernel
theorem dX11_init_462 : decode cX11_init 462 = .ok (.dup, 1) := by decide +kernel
theorem dX11_init_463 : decode cX11_init 463 = .ok (.bipush 75, 2) := by decide +kernel
theorem dX11_init_465 : decode cX11_init 465 = .ok (.bipush 115, 2) := by decide +kernel
theorem dX11_init_467 : decode cX11_init 467 = .ok (.iastore, 1) := by decide +kernel
theorem dX11_init_468 : decode cX11_init 468 = .ok (.dup, 1) := by decide +kernel
theorem dX11_init_469 : decode cX11_init 469 = .ok (.bipush 76, 2) := by decide +kernel
theorem dX11_init_471 : decode cX11_init 471 = .ok (.bipush 101, 2) := by decide +kernel
theorem dX11_init_473 : decode cX11_init 473 = .ok (.iastore, 1) := by decide +kernel
theorem dX11_init_474 : decode cX11_init 474 = .ok (.dup, 1) := by decide +kernel
theorem dX11_init_475 : decode cX11_init 475 = .ok (.bipush 77, 2) := by decide +kernel
theorem dX11_init_477 : decode cX11_init 477 = .ok (.bipush 32, 2) := by decide +kernel
theorem dX11_init_479 : decode cX11_init 479 = .ok (.iastore, 1) := by decide +kernel
theorem dX11_init_480 : decode cX11_init 480 = .ok (.dup, 1) := by decide +kernel
theorem dX11_init_481 : decode cX11_init 481 = .ok (.bipush 78, 2) := by decide +kernel
theorem dX11_init_483 : decode cX11_init 483 = .ok (.bipush 98, 2) := by decide +kernel
theorem dX11_init_485 : decode cX11_init 485 = .ok (.iastore, 1) := by decide +kernel
theorem dX11_init_486 : decode cX11_init 486 = .ok (.dup, 1) := by decide +kernel
theorem dX11_init_487 : decode cX11_init 487 = .ok (.bipush 79, 2) := by decide +kernel
theorem dX11_init_489 : decode cX11_init 489 = .ok (.bipush 105, 2) := by decide +kernel
theorem dX11_init_491 : decode cX11_init 491 = .ok (.iastore, 1) := by decide +kernel
theorem dX11_init_492 : decode cX11_init 492 = .ok (.dup, 1) := by decide +kernel
theorem dX11_init_493 : decode cX11_init 493 = .ok (.bipush 80, 2) := by decide +kernel
theorem dX11_init_495 : decode cX11_init 495 = .ok (.bipush 108, 2) := by decide +kernel
theorem dX11_init_497 : decode cX11_init 497 = .ok (.iastore, 1) := by decide +kernel
theorem dX11_init_498 : decode cX11_init 498 = .ok (.dup, 1) := by decide +kernel
theorem dX11_init_499 : decode cX11_init 499 = .ok (.bipush 81, 2) := by decide +kernel
theorem dX11_init_501 : decode cX11_init 501 = .ok (.bipush 108, 2) := by decide +kernel
theorem dX11_init_503 : decode cX11_init 503 = .ok (.iastore, 1) := by decide +kernel
theorem dX11_init_504 : decode cX11_init 504 = .ok (.dup, 1) := by decide +kernel
theorem dX11_init_505 : decode cX11_init 505 = .ok (.bipush 82, 2) := by decide +kernel
theorem dX11_init_507 : decode cX11_init 507 = .ok (.bipush 32, 2) := by decide +kernel
theorem dX11_init_509 : decode cX11_init 509 = .ok (.iastore, 1) := by decide +kernel
theorem dX11_init_510 : decode cX11_init 510 = .ok (.dup, 1) := by decide +kernel
theorem dX11_init_511 : decode cX11_init 511 = .ok (.bipush 83, 2) := by decide +kernel
theorem dX11_init_513 : decode cX11_init 513 = .ok (.bipush 117, 2) := by decide +kernel
theorem dX11_init_515 : decode cX11_init 515 = .ok (.iastore, 1) := by decide +kernel
theorem dX11_init_516 : decode cX11_init 516 = .ok (.dup, 1) := by decide +kernel
theorem dX11_init_517 : decode cX11_init 517 = .ok (.bipush 84, 2) := by decide +kernel
theorem dX11_init_519 : decode cX11_init 519 = .ok (.bipush 115, 2) := by decide +kernel
theorem dX11_init_521 : decode cX11_init 521 = .ok (.iastore, 1) := by decide +kernel
theorem dX11_init_522 : decode cX11_init 522 = .ok (.dup, 1) := by decide +kernel
theorem dX11_init_523 : decode cX11_init 523 = .ok (.bipush 85, 2) := by decide +kernel
theorem dX11_init_525 : decode cX11_init 525 = .ok (.bipush 101, 2) := by decide +kernel
theorem dX11_init_527 : decode cX11_init 527 = .ok (.iastore, 1) := by decide +kernel
theorem dX11_init_528 : decode cX11_init 528 = .ok (.dup, 1) := by decide +kernel
theorem dX11_init_529 : decode cX11_init 529 = .ok (.bipush 86, 2) := by decide +kernel
theorem dX11_init_531 : decode cX11_init 531 = .ok (.bipush 100, 2) := by decide +kernel
theorem dX11_init_533 : decode cX11_init 533 = .ok (.iastore, 1) := by decide +kernel
theorem dX11_init_534 : decode cX11_init 534 = .ok (.dup, 1) := by decide +kernel
theorem dX11_init_535 : decode cX11_init 535 = .ok (.bipush 87, 2) := by decide +kernel
theorem dX11_init_537 : decode cX11_init 537 = .ok (.bipush 32, 2) := by decide +kernel
theorem dX11_init_539 : decode cX11_init 539 = .ok (.iastore, 1) := by decide +kernel
theorem dX11_init_540 : decode cX11_init 540 = .ok (.dup, 1) := by decide +kernel
theorem dX11_init_541 : decode cX11_init 541 = .ok (.bipush 88, 2) := by decide +kernel
theorem dX11_init_543 : decode cX11_init 543 = .ok (.bipush 119, 2) := by decide +kernel
theorem dX11_init_545 : decode cX11_init 545 = .ok (.iastore, 1) := by decide +kernel
theorem dX11_init_546 : decode cX11_init 546 = .ok (.dup, 1) := by decide +kernel
theorem dX11_init_547 : decode cX11_init 547 = .ok (.bipush 89, 2) := by decide +kernel
theorem dX11_init_549 : decode cX11_init 549 = .ok (.bipush 101, 2) := by decide +kernel
theorem dX11_init_551 : decode cX11_init 551 = .ok (.iastore, 1) := by decide +kernel
theorem dX11_init_552 : decode cX11_init 552 = .ok (.dup, 1) := by decide +kernel
theorem dX11_init_553 : decode cX11_init 553 = .ok (.bipush 90, 2) := by decide +kernel
theorem dX11_init_555 : decode cX11_init 555 = .ok (.bipush 105, 2) := by decide +kernel
theorem dX11_init_557 : decode cX11_init 557 = .ok (.iastore, 1) := by decide +kernel
theorem dX11_init_558 : decode cX11_init 558 = .ok (.dup, 1) := by decide +kernel
theorem dX11_init_559 : decode cX11_init 559 = .ok (.bipush 91, 2) := by decide +kernel
theorem dX11_init_561 : decode cX11_init 561 = .ok (.bipush 103, 2) := by decide +kernel
theorem dX11_init_563 : decode cX11_init 563 = .ok (.iastore, 1) := by decide +kernel
theorem dX11_init_564 : decode cX11_init 564 = .ok (.dup, 1) := by decide +kernel
theorem dX11_init_565 : decode cX11_init 565 = .ok (.bipush 92, 2) := by decide +kernel
theorem dX11_init_567 : decode cX11_init 567 = .ok (.bipush 104, 2) := by decide +kernel
theorem dX11_init_569 : decode cX11_init 569 = .ok (.iastore, 1) := by decide +kernel
theorem dX11_init_570 : decode cX11_init 570 = .ok (.dup, 1) := by decide +kernel
theorem dX11_init_571 : decode cX11_init 571 = .ok (.bipush 93, 2) := by decide +kernel
theorem dX11_init_573 : decode cX11_init 573 = .ok (.bipush 116, 2) := by decide +kernel
theorem dX11_init_575 : decode cX11_init 575 = .ok (.iastore, 1) := by decide +kernel
theorem dX11_init_576 : decode cX11_init 576 = .ok (.dup, 1) := by decide +kernel
theorem dX11_init_577 : decode cX11_init 577 = .ok (.bipush 94, 2) := by decide +kernel
theorem dX11_init_579 : decode cX11_init 579 = .ok (.bipush 32, 2) := by decide +kernel
theorem dX11_init_581 : decode cX11_init 581 = .ok (.iastore, 1) := by decide +kernel
theorem dX11_init_582 : decode cX11_init 582 = .ok (.dup, 1) := by decide +kernel
theorem dX11_init_583 : decode cX11_init 583 = .ok (.bipush 95, 2) := by decide +kernel
theorem dX11_init_585 : decode cX11_init 585 = .ok (.bipush 100, 2) := by decide +kernel
theorem dX11_init_587 : decode cX11_init 587 = .ok (.iastore, 1) := by decide +kernel
theorem dX11_init_588 : decode cX11_init 588 = .ok (.dup, 1) := by decide +kernel
theorem dX11_init_589 : decode cX11_init 589 = .ok (.bipush 96, 2) := by decide +kernel
theorem dX11_init_591 : decode cX11_init 591 = .ok (.bipush 97, 2) := by decide +kernel
theorem dX11_init_593 : decode cX11_init 593 = .ok (.iastore, 1) := by decide +kernel
theorem dX11_init_594 : decode cX11_init 594 = .ok (.dup, 1) := by decide +kernel
theorem dX11_init_595 : decode cX11_init 595 = .ok (.bipush 97, 2) := by decide +kernel
theorem dX11_init_597 : decode cX11_init 597 = .ok (.bipush 116, 2) := by decide +kernel
theorem dX11_init_599 : decode cX11_init 599 = .ok (.iastore, 1) := by decide +kernel
theorem dX11_init_600 : decode cX11_init 600 = .ok (.dup, 1) := by decide +kernel
theorem dX11_init_601 : decode cX11_init 601 = .ok (.bipush 98, 2) := by decide +kernel
theorem dX11_init_603 : decode cX11_init 603 = .ok (.bipush 101, 2) := by decide +kernel
theorem dX11_init_605 : decode cX11_init 605 = .ok (.iastore, 1) := by decide +kernel
theorem dX11_init_606 : decode cX11_init 606 = .ok (.dup, 1) := by decide +kernel
theorem dX11_init_607 : decode cX11_init 607 = .ok (.bipush 99, 2) := by decide +kernel
theorem dX11_init_609 : decode cX11_init 609 = .ok (.bipush 32, 2) := by decide +kernel
theorem dX11_init_611 : decode cX11_init 611 = .ok (.iastore, 1) := by decide +kernel
theorem dX11_init_612 : decode cX11_init 612 = .ok (.putfield 13, 3) := by decide +kernel
theorem dX11_init_615 : decode cX11_init 615 = .ok (.aload_n 0, 1) := by decide +kernel
theorem dX11_init_616 : decode cX11_init 616 = .ok (.iconst (-1), 1) := by decide +kernel
theorem dX11_init_617 : decode cX11_init 617 = .ok (.putfield 16, 3) := by decide +kernel
theorem dX11_init_620 : decode cX11_init 620 = .ok (.aload_n 0, 1) := by decide +kernel
theorem dX11_init_621 : decode cX11_init 621 = .ok (.iconst 2, 1) := by decide +kernel
theorem dX11_init_622 : decode cX11_init 622 = .ok (.newarray .boolean, 2) := by decide +kernel
theorem dX11_init_624 : decode cX11_init 624 = .ok (.putfield 20, 3) := by decide +kernel
theorem dX11_init_627 : decode cX11_init 627 = .ok (.aload_n 0, 1) := by decide +kernel
theorem dX11_init_628 : decode cX11_init 628 = .ok (.iconst 4, 1) := by decide +kernel
theorem dX11_init_629 : decode cX11_init 629 = .ok (.newarray .int, 2) := by decide +kernel
theorem dX11_init_631 : decode cX11_init 631 = .ok (.putfield 24, 3) := by decide +kernel
theorem dX11_init_634 : decode cX11_init 634 = .ok (.aload_n 0, 1) := by decide +kernel
theorem dX11_init_635 : decode cX11_init 635 = .ok (.bipush 12, 2) := by decide +kernel
theorem dX11_init_637 : decode cX11_init 637 = .ok (.newarray .int, 2) := by decide +kernel
theorem dX11_init_639 : decode cX11_init 639 = .ok (.putfield 27, 3) := by decide +kernel
theorem dX11_init_642 : decode cX11_init 642 = .ok (.aload_n 0, 1) := by decide +kernel
theorem dX11_init_643 : decode cX11_init 643 = .ok (.bipush 12, 2) := by decide +kernel
theorem dX11_init_645 : decode cX11_init 645 = .ok (.newarray .int, 2) := by decide +kernel
theorem dX11_init_647 : decode cX11_init 647 = .ok (.putfield 30, 3) := by decide +kernel
theorem dX11_init_650 : decode cX11_init 650 = .ok (.aload_n 0, 1) := by decide +kernel
theorem dX11_init_651 : decode cX11_init 651 = .ok (.bipush 12, 2) := by decide +kernel
theorem dX11_init_653 : decode cX11_init 653 = .ok (.newarray .int, 2) := by decide +kernel
theorem dX11_init_655 : decode cX11_init 655 = .ok (.putfield 33, 3) := by decide +kernel
theorem dX11_init_658 : decode cX11_init 658 = .ok (.aload_n 0, 1) := by decide +kernel
theorem dX11_init_659 : decode cX11_init 659 = .ok (.bipush 12, 2) := by decide +kernel
theorem dX11_init_661 : decode cX11_init 661 = .ok (.newarray .int, 2) := by decide +kernel
theorem dX11_init_663 : decode cX11_init 663 = .ok (.putfield 36, 3) := by decide +kernel
theorem dX11_init_666 : decode cX11_init 666 = .ok (.aload_n 0, 1) := by decide +kernel
theorem dX11_init_667 : decode cX11_init 667 = .ok (.bipush 12, 2) := by decide +kernel
theorem dX11_init_669 : decode cX11_init 669 = .ok (.newarray .int, 2) := by decide +kernel
theorem dX11_init_671 : decode cX11_init 671 = .ok (.putfield 39, 3) := by decide +kernel
theorem dX11_init_674 : decode cX11_init 674 = .ok (.aload_n 0, 1) := by decide +kernel
theorem dX11_init_675 : decode cX11_init 675 = .ok (.bipush 12, 2) := by decide +kernel
theorem dX11_init_677 : decode cX11_init 677 = .ok (.newarray .int, 2) := by decide +kernel
theorem dX11_init_679 : decode cX11_init 679 = .ok (.putfield 42, 3) := by decide +kernel
theorem dX11_init_682 : decode cX11_init 682 = .ok (.aload_n 0, 1) := by decide +kernel
theorem dX11_init_683 : decode cX11_init 683 = .ok (.bipush 12, 2) := by decide +kernel
theorem dX11_init_685 : decode cX11_init 685 = .ok (.newarray .int, 2) := by decide +kernel
theorem dX11_init_687 : decode cX11_init 687 = .ok (.putfield 45, 3) := by decide +kernel
theorem dX11_init_690 : decode cX11_init 690 = .ok (.aload_n 0, 1) := by decide +kernel
theorem dX11_init_691 : decode cX11_init 691 = .ok (.bipush 40, 2) := by decide +kernel
theorem dX11_init_693 : decode cX11_init 693 = .ok (.newarray .int, 2) := by decide +kernel
theorem dX11_init_695 : decode cX11_init 695 = .ok (.putfield 48, 3) := by decide +kernel
theorem dX11_init_698 : decode cX11_init 698 = .ok (.aload_n 0, 1) := by decide +kernel
theorem dX11_init_699 : decode cX11_init 699 = .ok (.bipush 40, 2) := by decide +kernel
theorem dX11_init_701 : decode cX11_init 701 = .ok (.newarray .int, 2) := by decide +kernel
theorem dX11_init_703 : decode cX11_init 703 = .ok (.putfield 51, 3) := by decide +kernel
theorem dX11_init_706 : decode cX11_init 706 = .ok (.aload_n 0, 1) := by decide +kernel
theorem dX11_init_707 : decode cX11_init 707 = .ok (.bipush 12, 2) := by decide +kernel
theorem dX11_init_709 : decode cX11_init 709 = .ok (.newarray .int, 2) := by decide +kernel
theorem dX11_init_711 : decode cX11_init 711 = .ok (.putfield 54, 3) := by decide +kernel
theorem dX11_init_714 : decode cX11_init 714 = .ok (.aload_n 0, 1) := by decide +kernel
theorem dX11_init_715 : decode cX11_init 715 = .ok (.bipush 12, 2) := by decide +kernel
theorem dX11_init_717 : decode cX11_init 717 = .ok (.newarray .int, 2) := by decide +kernel
theorem dX11_init_719 : decode cX11_init 719 = .ok (.putfield 57, 3) := by decide +kernel
theorem dX11_init_722 : decode cX11_init 722 = .ok (.aload_n 0, 1) := by decide +kernel
theorem dX11_init_723 : decode cX11_init 723 = .ok (.bipush 6, 2) := by decide +kernel
theorem dX11_init_725 : decode cX11_init 725 = .ok (.newarray .boolean, 2) := by decide +kernel
theorem dX11_init_727 : decode cX11_init 727 = .ok (.putfield 60, 3) := by decide +kernel
theorem dX11_init_730 : decode cX11_init 730 = .ok (.aload_n 0, 1) := by decide +kernel
theorem dX11_init_731 : decode cX11_init 731 = .ok (.bipush 6, 2) := by decide +kernel
theorem dX11_init_733 : decode cX11_init 733 = .ok (.newarray .int, 2) := by decide +kernel
theorem dX11_init_735 : decode cX11_init 735 = .ok (.putfield 63, 3) := by decide +kernel
theorem dX11_init_738 : decode cX11_init 738 = .ok (.aload_n 0, 1) := by decide +kernel
theorem dX11_init_739 : decode cX11_init 739 = .ok (.bipush 6, 2) := by decide +kernel
theorem dX11_init_741 : decode cX11_init 741 = .ok (.newarray .int, 2) := by decide +kernel
theorem dX11_init_743 : decode cX11_init 743 = .ok (.putfield 66, 3) := by decide +kernel
theorem dX11_init_746 : decode cX11_init 746 = .ok (.aload_n 0, 1) := by decide +kernel
theorem dX11_init_747 : decode cX11_init 747 = .ok (.sipush 128, 3) := by decide +kernel
theorem dX11_init_750 : decode cX11_init 750 = .ok (.newarray .int, 2) := by decide +kernel
theorem dX11_init_752 : decode cX11_init 752 = .ok (.putfield 69, 3) := by decide +kernel
theorem dX11_init_755 : decode cX11_init 755 = .ok (.aload_n 0, 1) := by decide +kernel
theorem dX11_init_756 : decode cX11_init 756 = .ok (.sipush 128, 3) := by decide +kernel
theorem dX11_init_759 : decode cX11_init 759 = .ok (.newarray .int, 2) := by decide +kernel
theorem dX11_init_761 : decode cX11_init 761 = .ok (.putfield 72, 3) := by decide +kernel
theorem dX11_init_764 : decode cX11_init 764 = .ok (.aload_n 0, 1) := by decide +kernel
theorem dX11_init_765 : decode cX11_init 765 = .ok (.sipush 128, 3) := by decide +kernel
theorem dX11_init_768 : decode cX11_init 768 = .ok (.newarray .int, 2) := by decide +kernel
theorem dX11_init_770 : decode cX11_init 770 = .ok (.putfield 75, 3) := by decide +kernel
theorem dX11_init_773 : decode cX11_init 773 = .ok (.aload_n 0, 1) := by decide +kernel
theorem dX11_init_774 : decode cX11_init 774 = .ok (.bipush 96, 2) := by decide +kernel
theorem dX11_init_776 : decode cX11_init 776 = .ok (.newarray .int, 2) := by decide +kernel
theorem dX11_init_778 : decode cX11_init 778 = .ok (.putfield 78, 3) := by decide +kernel
theorem dX11_init_781 : decode cX11_init 781 = .ok (.aload_n 0, 1) := by decide +kernel
theorem dX11_init_782 : decode cX11_init 782 = .ok (.bipush 96, 2) := by decide +kernel
theorem dX11_init_784 : decode cX11_init 784 = .ok (.newarray .int, 2) := by decide +kernel
theorem dX11_init_786 : decode cX11_init 786 = .ok (.putfield 81, 3) := by decide +kernel
theorem dX11_init_789 : decode cX11_init 789 = .ok (.aload_n 0, 1) := by decide +kernel
theorem dX11_init_790 : decode cX11_init 790 = .ok (.bipush 7, 2) := by decide +kernel
theorem dX11_init_792 : decode cX11_init 792 = .ok (.newarray .long, 2) := by decide +kernel
theorem dX11_init_794 : decode cX11_init 794 = .ok (.putfield 84, 3) := by decide +kernel
theorem dX11_init_797 : decode cX11_init 797 = .ok (.aload_n 0, 1) := by decide +kernel
theorem dX11_init_798 : decode cX11_init 798 = .ok (.bipush 64, 2) := by decide +kernel
theorem dX11_init_800 : decode cX11_init 800 = .ok (.newarray .long, 2) := by decide +kernel
theorem dX11_init_802 : decode cX11_init 802 = .ok (.putfield 88, 3) := by decide +kernel
theorem dX11_init_805 : decode cX11_init 805 = .ok (.aload_n 0, 1) := by decide +kernel
theorem dX11_init_806 : decode cX11_init 806 = .ok (.bipush 12, 2) := by decide +kernel
theorem dX11_init_808 : decode cX11_init 808 = .ok (.newarray .int, 2) := by decide +kernel
theorem dX11_init_810 : decode cX11_init 810 = .ok (.putfield 91, 3) := by decide +kernel
theorem dX11_init_813 : decode cX11_init 813 = .ok (.aload_n 0, 1) := by decide +kernel
theorem dX11_init_814 : decode cX11_init 814 = .ok (.bipush 12, 2) := by decide +kernel
theorem dX11_init_816 : decode cX11_init 816 = .ok (.newarray .int, 2) := by decide +kernel
theorem dX11_init_818 : decode cX11_init 818 = .ok (.putfield 94, 3) := by decide +kernel
theorem dX11_init_821 : decode cX11_init 821 = .ok (.aload_n 0, 1) := by decide +kernel
theorem dX11_init_822 : decode cX11_init 822 = .ok (.bipush 12, 2) := by decide +kernel
theorem dX11_init_824 : decode cX11_init 824 = .ok (.newarray .int, 2) := by decide +kernel
theorem dX11_init_826 : decode cX11_init 826 = .ok (.putfield 97, 3) := by decide +kernel
theorem dX11_init_829 : decode cX11_init 829 = .ok (.aload_n 0, 1) := by decide +kernel
theorem dX11_init_830 : decode cX11_init 830 = .ok (.bipush 12, 2) := by decide +kernel
theorem dX11_init_832 : decode cX11_init 832 = .ok (.newarray .int, 2) := by decide +kernel
theorem dX11_init_834 : decode cX11_init 834 = .ok (.putfield 100, 3) := by decide +kernel
theorem dX11_init_837 : decode cX11_init 837 = .ok (.aload_n 0, 1) := by decide +kernel
theorem dX11_init_838 : decode cX11_init 838 = .ok (.bipush 12, 2) := by decide +kernel
theorem dX11_init_840 : decode cX11_init 840 = .ok (.newarray .int, 2) := by decide +kernel
theorem dX11_init_842 : decode cX11_init 842 = .ok (.putfield 103, 3) := by decide +kernel
theorem dX11_init_845 : decode cX11_init 845 = .ok (.aload_n 0, 1) := by decide +kernel
theorem dX11_init_846 : decode cX11_init 846 = .ok (.iconst 2, 1) := by decide +kernel
theorem dX11_init_847 : decode cX11_init 847 = .ok (.newarray .int, 2) := by decide +kernel
theorem dX11_init_849 : decode cX11_init 849 = .ok (.putfield 106, 3) := by decide +kernel
theorem dX11_init_852 : decode cX11_init 852 = .ok (.aload_n 0, 1) := by decide +kernel
theorem dX11_init_853 : decode cX11_init 853 = .ok (.iconst 2, 1) := by decide +kernel
theorem dX11_init_854 : decode cX11_init 854 = .ok (.newarray .int, 2) := by decide +kernel
theorem dX11_init_856 : decode cX11_init 856 = .ok (.putfield 109, 3) := by decide +kernel
theorem dX11_init_859 : decode cX11_init 859 = .ok (.aload_n 0, 1) := by decide +kernel
theorem dX11_init_860 : decode cX11_init 860 = .ok (.iconst 2, 1) := by decide +kernel
theorem dX11_init_861 : decode cX11_init 861 = .ok (.newarray .int, 2) := by decide +kernel
theorem dX11_init_863 : decode cX11_init 863 = .ok (.putfield 112, 3) := by decide +kernel
theorem dX11_init_866 : decode cX11_init 866 = .ok (.aload_n 0, 1) := by decide +kernel
theorem dX11_init_867 : decode cX11_init 867 = .ok (.iconst 2, 1) := by decide +kernel
theorem dX11_init_868 : decode cX11_init 868 = .ok (.newarray .int, 2) := by decide +kernel
theorem dX11_init_870 : decode cX11_init 870 = .ok (.putfield 115, 3) := by decide +kernel
theorem dX11_init_873 : decode cX11_init 873 = .ok (.aload_n 0, 1) := by decide +kernel
theorem dX11_init_874 : decode cX11_init 874 = .ok (.iconst 2, 1) := by decide +kernel
theorem dX11_init_875 : decode cX11_init 875 = .ok (.newarray .int, 2) := by decide +kernel
theorem dX11_init_877 : decode cX11_init 877 = .ok (.putfield 118, 3) := by decide +kernel
theorem dX11_init_880 : decode cX11_init 880 = .ok (.aload_n 0, 1) := by decide +kernel
theorem dX11_init_881 : decode cX11_init 881 = .ok (.sipush 1792, 3) := by decide +kernel
theorem dX11_init_884 : decode cX11_init 884 = .ok (.newarray .int, 2) := by decide +kernel
theorem dX11_init_886 : decode cX11_init 886 = .ok (.putfield 121, 3) := by decide +kernel
theorem dX11_init_889 : decode cX11_init 889 = .ok (.aload_n 0, 1) := by decide +kernel
theorem dX11_init_890 : decode cX11_init 890 = .ok (.sipush 1792, 3) := by decide +kernel
theorem dX11_init_893 : decode cX11_init 893 = .ok (.newarray .int, 2) := by decide +kernel
theorem dX11_init_895 : decode cX11_init 895 = .ok (.putfield 124, 3) := by decide +kernel
theorem dX11_init_898 : decode cX11_init 898 = .ok (.aload_n 0, 1) := by decide +kernel
theorem dX11_init_899 : decode cX11_init 899 = .ok (.iconst (-1), 1) := by decide +kernel
theorem dX11_init_900 : decode cX11_init 900 = .ok (.putfield 127, 3) := by decide +kernel
theorem dX11_init_903 : decode cX11_init 903 = .ok (.aload_n 0, 1) := by decide +kernel
theorem dX11_init_904 : decode cX11_init 904 = .ok (.bipush 96, 2) := by decide +kernel
theorem dX11_init_906 : decode cX11_init 906 = .ok (.newarray .int, 2) := by decide +kernel
theorem dX11_init_908 : decode cX11_init 908 = .ok (.putfield 130, 3) := by decide +kernel
theorem dX11_init_911 : decode cX11_init 911 = .ok (.aload_n 0, 1) := by decide +kernel
theorem dX11_init_912 : decode cX11_init 912 = .ok (.bipush 24, 2) := by decide +kernel
theorem dX11_init_914 : decode cX11_init 914 = .ok (.newarray .boolean, 2) := by decide +kernel
theorem dX11_init_916 : decode cX11_init 916 = .ok (.putfield 133, 3) := by decide +kernel
theorem dX11_init_919 : decode cX11_init 919 = .ok (.aload_n 0, 1) := by decide +kernel
theorem dX11_init_920 : decode cX11_init 920 = .ok (.sipush 160, 3) := by decide +kernel
theorem dX11_init_923 : decode cX11_init 923 = .ok (.newarray .int, 2) := by decide +kernel
theorem dX11_init_925 : decode cX11_init 925 = .ok (.putfield 136, 3) := by decide +kernel
theorem dX11_init_928 : decode cX11_init 928 = .ok (.aload_n 0, 1) := by decide +kernel
theorem dX11_init_929 : decode cX11_init 929 = .ok (.bipush 8, 2) := by decide +kernel
theorem dX11_init_931 : decode cX11_init 931 = .ok (.newarray .int, 2) := by decide +kernel
theorem dX11_init_933 : decode cX11_init 933 = .ok (.putfield 139, 3) := by decide +kernel
theorem dX11_init_936 : decode cX11_init 936 = .ok (.aload_n 0, 1) := by decide +kernel
theorem dX11_init_937 : decode cX11_init 937 = .ok (.bipush 27, 2) := by decide +kernel
theorem dX11_init_939 : decode cX11_init 939 = .ok (.newarray .int, 2) := by decide +kernel
theorem dX11_init_941 : decode cX11_init 941 = .ok (.putfield 142, 3) := by decide +kernel
theorem dX11_init_944 : decode cX11_init 944 = .ok (.aload_n 0, 1) := by decide +kernel
theorem dX11_init_945 : decode cX11_init 945 = .ok (.invokevirtual 145, 3) := by decide +kernel
theorem dX11_init_948 : decode cX11_init 948 = .ok (.aload_n 0, 1) := by decide +kernel
theorem dX11_init_949 : decode cX11_init 949 = .ok (.invokevirtual 148, 3) := by decide +kernel
theorem dX11_init_952 : decode cX11_init 952 = .ok (.return_, 1) := by decide +kernel
theorem dX11_thrown_0 : decode cX11_thrown 0 = .ok (.aload_n 0, 1) := by decide +kernel
theorem dX11_thrown_1 : decode cX11_thrown 1 = .ok (.getfield 151, 3) := by decide +kernel
theorem dX11_thrown_4 : decode cX11_thrown 4 = .ok (.ireturn, 1) := by decide +kernel
theorem dX11_feed_0 : decode cX11_feed 0 = .ok (.aload_n 0, 1) := by decide +kernel
theorem dX11_feed_1 : decode cX11_feed 1 = .ok (.iconst 0, 1) := by decide +kernel
theorem dX11_feed_2 : decode cX11_feed 2 = .ok (.putfield 151, 3) := by decide +kernel
theorem dX11_feed_5 : decode cX11_feed 5 = .ok (.aload_n 0, 1) := by decide +kernel
theorem dX11_feed_6 : decode cX11_feed 6 = .ok (.getfield 154, 3) := by decide +kernel
theorem dX11_feed_9 : decode cX11_feed 9 = .ok (.bipush 20, 2) := by decide +kernel
theorem dX11_feed_11 : decode cX11_feed 11 = .ok (.iadd, 1) := by decide +kernel
theorem dX11_feed_12 : decode cX11_feed 12 = .ok (.sipush 700, 3) := by decide +kernel
theorem dX11_feed_15 : decode cX11_feed 15 = .ok (.if_icmp .le 5, 3) := by decide +kernel
theorem dX11_feed_18 : decode cX11_feed 18 = .ok (.iconst (-1), 1) := by decide +kernel
theorem dX11_feed_19 : decode cX11_feed 19 = .ok (.ireturn, 1) := by decide +kernel
theorem dX11_feed_20 : decode cX11_feed 20 = .ok (.iconst 0, 1) := by decide +kernel
theorem dX11_feed_21 : decode cX11_feed 21 = .ok (.istore 6, 2) := by decide +kernel
theorem dX11_feed_23 : decode cX11_feed 23 = .ok (.iload 6, 2) := by decide +kernel
theorem dX11_feed_25 : decode cX11_feed 25 = .ok (.bipush 20, 2) := by decide +kernel
theorem dX11_feed_27 : decode cX11_feed 27 = .ok (.if_icmp .ge 86, 3) := by decide +kernel
theorem dX11_feed_30 : decode cX11_feed 30 = .ok (.iload 6, 2) := by decide +kernel
theorem dX11_feed_32 : decode cX11_feed 32 = .ok (.iconst 4, 1) := by decide +kernel
theorem dX11_feed_33 : decode cX11_feed 33 = .ok (.if_icmp .ge 7, 3) := by decide +kernel
theorem dX11_feed_36 : decode cX11_feed 36 = .ok (.iload_n 1, 1) := by decide +kernel
theorem dX11_feed_37 : decode cX11_feed 37 = .ok (.goto 39, 3) := by decide +kernel
theorem dX11_feed_40 : decode cX11_feed 40 = .ok (.iload 6, 2) := by decide +kernel
theorem dX11_feed_42 : decode cX11_feed 42 = .ok (.bipush 8, 2) := by decide +kernel
theorem dX11_feed_44 : decode cX11_feed 44 = .ok (.if_icmp .ge 7, 3) := by decide +kernel
theorem dX11_feed_47 : decode cX11_feed 47 = .ok (.iload_n 2, 1) := by decide +kernel
theorem dX11_feed_48 : decode cX11_feed 48 = .ok (.goto 28, 3) := by decide +kernel
theorem dX11_feed_51 : decode cX11_feed 51 = .ok (.iload 6, 2) := by decide +kernel
theorem dX11_feed_53 : decode cX11_feed 53 = .ok (.bipush 12, 2) := by decide +kernel
theorem dX11_feed_55 : decode cX11_feed 55 = .ok (.if_icmp .ge 7, 3) := by decide +kernel
theorem dX11_feed_58 : decode cX11_feed 58 = .ok (.iload_n 3, 1) := by decide +kernel
theorem dX11_feed_59 : decode cX11_feed 59 = .ok (.goto 17, 3) := by decide +kernel
theorem dX11_feed_62 : decode cX11_feed 62 = .ok (.iload 6, 2) := by decide +kernel
theorem dX11_feed_64 : decode cX11_feed 64 = .ok (.bipush 16, 2) := by decide +kernel
theorem dX11_feed_66 : decode cX11_feed 66 = .ok (.if_icmp .ge 8, 3) := by decide +kernel
theorem dX11_feed_69 : decode cX11_feed 69 = .ok (.iload 4, 2) := by decide +kernel
theorem dX11_feed_71 : decode cX11_feed 71 = .ok (.goto 5, 3) := by decide +kernel
theorem dX11_feed_74 : decode cX11_feed 74 = .ok (.iload 5, 2) := by decide +kernel
theorem dX11_feed_76 : decode cX11_feed 76 = .ok (.istore 7, 2) := by decide +kernel
theorem dX11_feed_78 : decode cX11_feed 78 = .ok (.aload_n 0, 1) := by decide +kernel
theorem dX11_feed_79 : decode cX11_feed 79 = .ok (.getfield 7, 3) := by decide +kernel
theorem dX11_feed_82 : decode cX11_feed 82 = .ok (.aload_n 0, 1) := by decide +kernel
theorem dX11_feed_83 : decode cX11_feed 83 = .ok (.getfield 154, 3) := by decide +kernel
theorem dX11_feed_86 : decode cX11_feed 86 = .ok (.iload 6, 2) := by decide +kernel
theorem dX11_feed_88 : decode cX11_feed 88 = .ok (.iadd, 1) := by decide +kernel
theorem dX11_feed_89 : decode cX11_feed 89 = .ok (.iload 7, 2) := by decide +kernel
theorem dX11_feed_91 : decode cX11_feed 91 = .ok (.bipush 24, 2) := by decide +kernel
theorem dX11_feed_93 : decode cX11_feed 93 = .ok (.bipush 8, 2) := by decide +kernel
theorem dX11_feed_95 : decode cX11_feed 95 = .ok (.iload 6, 2) := by decide +kernel
theorem dX11_feed_97 : decode cX11_feed 97 = .ok (.iconst 4, 1) := by decide +kernel
theorem dX11_feed_98 : decode cX11_feed 98 = .ok (.irem, 1) := by decide +kernel
theorem dX11_feed_99 : decode cX11_feed 99 = .ok (.imul, 1) := by decide +kernel
theorem dX11_feed_100 : decode cX11_feed 100 = .ok (.isub, 1) := by decide +kernel
theorem dX11_feed_101 : decode cX11_feed 101 = .ok (.ishr, 1) := by decide +kernel
theorem dX11_feed_102 : decode cX11_feed 102 = .ok (.sipush 255, 3) := by decide +kernel
theorem dX11_feed_105 : decode cX11_feed 105 = .ok (.iand, 1) := by decide +kernel
theorem dX11_feed_106 : decode cX11_feed 106 = .ok (.iastore, 1) := by decide +kernel
theorem dX11_feed_107 : decode cX11_feed 107 = .ok (.iinc 6 1, 3) := by decide +kernel
theorem dX11_feed_110 : decode cX11_feed 110 = .ok (.goto (-87), 3) := by decide +kernel
theorem dX11_feed_113 : decode cX11_feed 113 = .ok (.aload_n 0, 1) := by decide +kernel
theorem dX11_feed_114 : decode cX11_feed 114 = .ok (.dup, 1) := by decide +kernel
theorem dX11_feed_115 : decode cX11_feed 115 = .ok (.getfield 154, 3) := by decide +kernel
theorem dX11_feed_118 : decode cX11_feed 118 = .ok (.bipush 20, 2) := by decide +kernel
theorem dX11_feed_120 : decode cX11_feed 120 = .ok (.iadd, 1) := by decide +kernel
theorem dX11_feed_121 : decode cX11_feed 121 = .ok (.putfield 154, 3) := by decide +kernel
theorem dX11_feed_124 : decode cX11_feed 124 = .ok (.aload_n 0, 1) := by decide +kernel
theorem dX11_feed_125 : decode cX11_feed 125 = .ok (.getfield 154, 3) := by decide +kernel
theorem dX11_feed_128 : decode cX11_feed 128 = .ok (.ireturn, 1) := by decide +kernel
theorem dX11_isIn_0 : decode cX11_isIn 0 = .ok (.iload_n 0, 1) := by decide +kernel
theorem dX11_isIn_1 : decode cX11_isIn 1 = .ok (.iload_n 1, 1) := by decide +kernel
theorem dX11_isIn_2 : decode cX11_isIn 2 = .ok (.if_icmp .lt 12, 3) := by decide +kernel
theorem dX11_isIn_5 : decode cX11_isIn 5 = .ok (.iload_n 0, 1) := by decide +kernel
theorem dX11_isIn_6 : decode cX11_isIn 6 = .ok (.iload_n 2, 1) := by decide +kernel
theorem dX11_isIn_7 : decode cX11_isIn 7 = .ok (.if_icmp .gt 7, 3) := by decide +kernel
theorem dX11_isIn_10 : decode cX11_isIn 10 = .ok (.iconst 1, 1) := by decide +kernel
theorem dX11_isIn_11 : decode cX11_isIn 11 = .ok (.goto 4, 3) := by decide +kernel
theorem dX11_isIn_14 : decode cX11_isIn 14 = .ok (.iconst 0, 1) := by decide +kernel
theorem dX11_isIn_15 : decode cX11_isIn 15 = .ok (.ireturn, 1) := by decide +kernel
theorem dX11_isOf_0 : decode cX11_isOf 0 = .ok (.iload_n 0, 1) := by decide +kernel
theorem dX11_isOf_1 : decode cX11_isOf 1 = .ok (.iload_n 1, 1) := by decide +kernel
theorem dX11_isOf_2 : decode cX11_isOf 2 = .ok (.ishr, 1) := by decide +kernel
theorem dX11_isOf_3 : decode cX11_isOf 3 = .ok (.iconst 1, 1) := by decide +kernel
theorem dX11_isOf_4 : decode cX11_isOf 4 = .ok (.iand, 1) := by decide +kernel
theorem dX11_isOf_5 : decode cX11_isOf 5 = .ok (.iconst 1, 1) := by decide +kernel
theorem dX11_isOf_6 : decode cX11_isOf 6 = .ok (.if_icmp .ne 7, 3) := by decide +kernel
theorem dX11_isOf_9 : decode cX11_isOf 9 = .ok (.iconst 1, 1) := by decide +kernel
theorem dX11_isOf_10 : decode cX11_isOf 10 = .ok (.goto 4, 3) := by decide +kernel
theorem dX11_isOf_13 : decode cX11_isOf 13 = .ok (.iconst 0, 1) := by decide +kernel
theorem dX11_isOf_14 : decode cX11_isOf 14 = .ok (.ireturn, 1) := by decide +kernel
theorem dX11_wrong_0 : decode cX11_wrong 0 = .ok (.aload_n 0, 1) := by decide +kernel
theorem dX11_wrong_1 : decode cX11_wrong 1 = .ok (.iload_n 1, 1) := by decide +kernel
theorem dX11_wrong_2 : decode cX11_wrong 2 = .ok (.putfield 157, 3) := by decide +kernel
theorem dX11_wrong_5 : decode cX11_wrong 5 = .ok (.aload_n 0, 1) := by decide +kernel
theorem dX11_wrong_6 : decode cX11_wrong 6 = .ok (.aload_n 0, 1) := by decide +kernel
theorem dX11_wrong_7 : decode cX11_wrong 7 = .ok (.getfield 160, 3) := by decide +kernel
theorem dX11_wrong_10 : decode cX11_wrong 10 = .ok (.putfield 16, 3) := by decide +kernel
theorem dX11_wrong_13 : decode cX11_wrong 13 = .ok (.iconst 0, 1) := by decide +kernel
theorem dX11_wrong_14 : decode cX11_wrong 14 = .ok (.ireturn, 1) := by decide +kernel
theorem dX11_wordAt_0 : decode cX11_wordAt 0 = .ok (.iconst 0, 1) := by decide +kernel
theorem dX11_wordAt_1 : decode cX11_wordAt 1 = .ok (.istore_n 3, 1) := by decide +kernel
theorem dX11_wordAt_2 : decode cX11_wordAt 2 = .ok (.iconst 0, 1) := by decide +kernel
theorem dX11_wordAt_3 : decode cX11_wordAt 3 = .ok (.istore 4, 2) := by decide +kernel
theorem dX11_wordAt_5 : decode cX11_wordAt 5 = .ok (.iload 4, 2) := by decide +kernel
theorem dX11_wordAt_7 : decode cX11_wordAt 7 = .ok (.aload_n 0, 1) := by decide +kernel
theorem dX11_wordAt_8 : decode cX11_wordAt 8 = .ok (.getfield 13, 3) := by decide +kernel
theorem dX11_wordAt_11 : decode cX11_wordAt 11 = .ok (.arraylength, 1) := by decide +kernel
theorem dX11_wordAt_12 : decode cX11_wordAt 12 = .ok (.if_icmp .ge 114, 3) := by decide +kernel
theorem dX11_wordAt_15 : decode cX11_wordAt 15 = .ok (.iconst 0, 1) := by decide +kernel
theorem dX11_wordAt_16 : decode cX11_wordAt 16 = .ok (.istore 5, 2) := by decide +kernel
theorem dX11_wordAt_18 : decode cX11_wordAt 18 = .ok (.aload_n 0, 1) := by decide +kernel
theorem dX11_wordAt_19 : decode cX11_wordAt 19 = .ok (.getfield 13, 3) := by decide +kernel
theorem dX11_wordAt_22 : decode cX11_wordAt 22 = .ok (.iload 4, 2) := by decide +kernel
theorem dX11_wordAt_24 : decode cX11_wordAt 24 = .ok (.iload 5, 2) := by decide +kernel
theorem dX11_wordAt_26 : decode cX11_wordAt 26 = .ok (.iadd, 1) := by decide +kernel
theorem dX11_wordAt_27 : decode cX11_wordAt 27 = .ok (.iaload, 1) := by decide +kernel
theorem dX11_wordAt_28 : decode cX11_wordAt 28 = .ok (.bipush 32, 2) := by decide +kernel
theorem dX11_wordAt_30 : decode cX11_wordAt 30 = .ok (.if_icmp .eq 9, 3) := by decide +kernel
theorem dX11_wordAt_33 : decode cX11_wordAt 33 = .ok (.iinc 5 1, 3) := by decide +kernel
theorem dX11_wordAt_36 : decode cX11_wordAt 36 = .ok (.goto (-18), 3) := by decide +kernel
theorem dX11_wordAt_39 : decode cX11_wordAt 39 = .ok (.iload 5, 2) := by decide +kernel
theorem dX11_wordAt_41 : decode cX11_wordAt 41 = .ok (.iload_n 2, 1) := by decide +kernel
theorem dX11_wordAt_42 : decode cX11_wordAt 42 = .ok (.iload_n 1, 1) := by decide +kernel
theorem dX11_wordAt_43 : decode cX11_wordAt 43 = .ok (.isub, 1) := by decide +kernel
theorem dX11_wordAt_44 : decode cX11_wordAt 44 = .ok (.if_icmp .ne 7, 3) := by decide +kernel
theorem dX11_wordAt_47 : decode cX11_wordAt 47 = .ok (.iconst 1, 1) := by decide +kernel
theorem dX11_wordAt_48 : decode cX11_wordAt 48 = .ok (.goto 4, 3) := by decide +kernel
theorem dX11_wordAt_51 : decode cX11_wordAt 51 = .ok (.iconst 0, 1) := by decide +kernel
theorem dX11_wordAt_52 : decode cX11_wordAt 52 = .ok (.istore 6, 2) := by decide +kernel
theorem dX11_wordAt_54 : decode cX11_wordAt 54 = .ok (.iconst 0, 1) := by decide +kernel
theorem dX11_wordAt_55 : decode cX11_wordAt 55 = .ok (.istore 7, 2) := by decide +kernel
theorem dX11_wordAt_57 : decode cX11_wordAt 57 = .ok (.iload 7, 2) := by decide +kernel
theorem dX11_wordAt_59 : decode cX11_wordAt 59 = .ok (.iload 5, 2) := by decide +kernel
theorem dX11_wordAt_61 : decode cX11_wordAt 61 = .ok (.if_icmp .ge 43, 3) := by decide +kernel
theorem dX11_wordAt_64 : decode cX11_wordAt 64 = .ok (.iload 6, 2) := by decide +kernel
theorem dX11_wordAt_66 : decode cX11_wordAt 66 = .ok (.ifCond .eq 38, 3) := by decide +kernel
theorem dX11_wordAt_69 : decode cX11_wordAt 69 = .ok (.aload_n 0, 1) := by decide +kernel
theorem dX11_wordAt_70 : decode cX11_wordAt 70 = .ok (.getfield 13, 3) := by decide +kernel
theorem dX11_wordAt_73 : decode cX11_wordAt 73 = .ok (.iload 4, 2) := by decide +kernel
theorem dX11_wordAt_75 : decode cX11_wordAt 75 = .ok (.iload 7, 2) := by decide +kernel
theorem dX11_wordAt_77 : decode cX11_wordAt 77 = .ok (.iadd, 1) := by decide +kernel
theorem dX11_wordAt_78 : decode cX11_wordAt 78 = .ok (.iaload, 1) := by decide +kernel
theorem dX11_wordAt_79 : decode cX11_wordAt 79 = .ok (.aload_n 0, 1) := by decide +kernel
theorem dX11_wordAt_80 : decode cX11_wordAt 80 = .ok (.getfield 7, 3) := by decide +kernel
theorem dX11_wordAt_83 : decode cX11_wordAt 83 = .ok (.iload_n 1, 1) := by decide +kernel
theorem dX11_wordAt_84 : decode cX11_wordAt 84 = .ok (.iload 7, 2) := by decide +kernel
theorem dX11_wordAt_86 : decode cX11_wordAt 86 = .ok (.iadd, 1) := by decide +kernel
theorem dX11_wordAt_87 : decode cX11_wordAt 87 = .ok (.iaload, 1) := by decide +kernel
theorem dX11_wordAt_88 : decode cX11_wordAt 88 = .ok (.if_icmp .ne 7, 3) := by decide +kernel
theorem dX11_wordAt_91 : decode cX11_wordAt 91 = .ok (.iconst 1, 1) := by decide +kernel
theorem dX11_wordAt_92 : decode cX11_wordAt 92 = .ok (.goto 4, 3) := by decide +kernel
theorem dX11_wordAt_95 : decode cX11_wordAt 95 = .ok (.iconst 0, 1) := by decide +kernel
theorem dX11_wordAt_96 : decode cX11_wordAt 96 = .ok (.istore 6, 2) := by decide +kernel
theorem dX11_wordAt_98 : decode cX11_wordAt 98 = .ok (.iinc 7 1, 3) := by decide +kernel
theorem dX11_wordAt_101 : decode cX11_wordAt 101 = .ok (.goto (-44), 3) := by decide +kernel
theorem dX11_wordAt_104 : decode cX11_wordAt 104 = .ok (.iload 6, 2) := by decide +kernel
theorem dX11_wordAt_106 : decode cX11_wordAt 106 = .ok (.ifCond .eq 5, 3) := by decide +kernel
theorem dX11_wordAt_109 : decode cX11_wordAt 109 = .ok (.iload_n 3, 1) := by decide +kernel
theorem dX11_wordAt_110 : decode cX11_wordAt 110 = .ok (.ireturn, 1) := by decide +kernel
theorem dX11_wordAt_111 : decode cX11_wordAt 111 = .ok (.iload 4, 2) := by decide +kernel
theorem dX11_wordAt_113 : decode cX11_wordAt 113 = .ok (.iload 5, 2) := by decide +kernel
theorem dX11_wordAt_115 : decode cX11_wordAt 115 = .ok (.iconst 1, 1) := by decide +kernel
theorem dX11_wordAt_116 : decode cX11_wordAt 116 = .ok (.iadd, 1) := by decide +kernel
theorem dX11_wordAt_117 : decode cX11_wordAt 117 = .ok (.iadd, 1) := by decide +kernel
theorem dX11_wordAt_118 : decode cX11_wordAt 118 = .ok (.istore 4, 2) := by decide +kernel
theorem dX11_wordAt_120 : decode cX11_wordAt 120 = .ok (.iinc 3 1, 3) := by decide +kernel
theorem dX11_wordAt_123 : decode cX11_wordAt 123 = .ok (.goto (-118), 3) := by decide +kernel
theorem dX11_wordAt_126 : decode cX11_wordAt 126 = .ok (.iconst (-1), 1) := by decide +kernel
theorem dX11_wordAt_127 : decode cX11_wordAt 127 = .ok (.ireturn, 1) := by decide +kernel
theorem dX11_isSmall_0 : decode cX11_isSmall 0 = .ok (.iload_n 1, 1) := by decide +kernel
theorem dX11_isSmall_1 : decode cX11_isSmall 1 = .ok (.aload_n 0, 1) := by decide +kernel
theorem dX11_isSmall_2 : decode cX11_isSmall 2 = .ok (.getfield 163, 3) := by decide +kernel
theorem dX11_isSmall_5 : decode cX11_isSmall 5 = .ok (.if_icmp .ge 29, 3) := by decide +kernel
theorem dX11_isSmall_8 : decode cX11_isSmall 8 = .ok (.aload_n 0, 1) := by decide +kernel
theorem dX11_isSmall_9 : decode cX11_isSmall 9 = .ok (.getfield 7, 3) := by decide +kernel
theorem dX11_isSmall_12 : decode cX11_isSmall 12 = .ok (.iload_n 1, 1) := by decide +kernel
theorem dX11_isSmall_13 : decode cX11_isSmall 13 = .ok (.iaload, 1) := by decide +kernel
theorem dX11_isSmall_14 : decode cX11_isSmall 14 = .ok (.bipush 97, 2) := by decide +kernel
theorem dX11_isSmall_16 : decode cX11_isSmall 16 = .ok (.if_icmp .lt 18, 3) := by decide +kernel
theorem dX11_isSmall_19 : decode cX11_isSmall 19 = .ok (.aload_n 0, 1) := by decide +kernel
theorem dX11_isSmall_20 : decode cX11_isSmall 20 = .ok (.getfield 7, 3) := by decide +kernel
theorem dX11_isSmall_23 : decode cX11_isSmall 23 = .ok (.iload_n 1, 1) := by decide +kernel
theorem dX11_isSmall_24 : decode cX11_isSmall 24 = .ok (.iaload, 1) := by decide +kernel
theorem dX11_isSmall_25 : decode cX11_isSmall 25 = .ok (.bipush 122, 2) := by decide +kernel
theorem dX11_isSmall_27 : decode cX11_isSmall 27 = .ok (.if_icmp .gt 7, 3) := by decide +kernel
theorem dX11_isSmall_30 : decode cX11_isSmall 30 = .ok (.iconst 1, 1) := by decide +kernel
theorem dX11_isSmall_31 : decode cX11_isSmall 31 = .ok (.goto 4, 3) := by decide +kernel
theorem dX11_isSmall_34 : decode cX11_isSmall 34 = .ok (.iconst 0, 1) := by decide +kernel
theorem dX11_isSmall_35 : decode cX11_isSmall 35 = .ok (.ireturn, 1) := by decide +kernel
theorem dX11_isDigit_0 : decode cX11_isDigit 0 = .ok (.iload_n 1, 1) := by decide +kernel
theorem dX11_isDigit_1 : decode cX11_isDigit 1 = .ok (.aload_n 0, 1) := by decide +kernel
theorem dX11_isDigit_2 : decode cX11_isDigit 2 = .ok (.getfield 163, 3) := by decide +kernel
theorem dX11_isDigit_5 : decode cX11_isDigit 5 = .ok (.if_icmp .ge 29, 3) := by decide +kernel
theorem dX11_isDigit_8 : decode cX11_isDigit 8 = .ok (.aload_n 0, 1) := by decide +kernel
theorem dX11_isDigit_9 : decode cX11_isDigit 9 = .ok (.getfield 7, 3) := by decide +kernel
theorem dX11_isDigit_12 : decode cX11_isDigit 12 = .ok (.iload_n 1, 1) := by decide +kernel
theorem dX11_isDigit_13 : decode cX11_isDigit 13 = .ok (.iaload, 1) := by decide +kernel
theorem dX11_isDigit_14 : decode cX11_isDigit 14 = .ok (.bipush 48, 2) := by decide +kernel
theorem dX11_isDigit_16 : decode cX11_isDigit 16 = .ok (.if_icmp .lt 18, 3) := by decide +kernel
theorem dX11_isDigit_19 : decode cX11_isDigit 19 = .ok (.aload_n 0, 1) := by decide +kernel
theorem dX11_isDigit_20 : decode cX11_isDigit 20 = .ok (.getfield 7, 3) := by decide +kernel
theorem dX11_isDigit_23 : decode cX11_isDigit 23 = .ok (.iload_n 1, 1) := by decide +kernel
theorem dX11_isDigit_24 : decode cX11_isDigit 24 = .ok (.iaload, 1) := by decide +kernel
theorem dX11_isDigit_25 : decode cX11_isDigit 25 = .ok (.bipush 57, 2) := by decide +kernel
theorem dX11_isDigit_27 : decode cX11_isDigit 27 = .ok (.if_icmp .gt 7, 3) := by decide +kernel
theorem dX11_isDigit_30 : decode cX11_isDigit 30 = .ok (.iconst 1, 1) := by decide +kernel
theorem dX11_isDigit_31 : decode cX11_isDigit 31 = .ok (.goto 4, 3) := by decide +kernel
theorem dX11_isDigit_34 : decode cX11_isDigit 34 = .ok (.iconst 0, 1) := by decide +kernel
theorem dX11_isDigit_35 : decode cX11_isDigit 35 = .ok (.ireturn, 1) := by decide +kernel
theorem dX11_token_0 : decode cX11_token 0 = .ok (.aload_n 0, 1) := by decide +kernel
theorem dX11_token_1 : decode cX11_token 1 = .ok (.getfield 166, 3) := by decide +kernel
theorem dX11_token_4 : decode cX11_token 4 = .ok (.aload_n 0, 1) := by decide +kernel
theorem dX11_token_5 : decode cX11_token 5 = .ok (.getfield 163, 3) := by decide +kernel
theorem dX11_token_8 : decode cX11_token 8 = .ok (.if_icmp .ge 44, 3) := by decide +kernel
theorem dX11_token_11 : decode cX11_token 11 = .ok (.aload_n 0, 1) := by decide +kernel
theorem dX11_token_12 : decode cX11_token 12 = .ok (.getfield 7, 3) := by decide +kernel
theorem dX11_token_15 : decode cX11_token 15 = .ok (.aload_n 0, 1) := by decide +kernel
theorem dX11_token_16 : decode cX11_token 16 = .ok (.getfield 166, 3) := by decide +kernel
theorem dX11_token_19 : decode cX11_token 19 = .ok (.iaload, 1) := by decide +kernel
theorem dX11_token_20 : decode cX11_token 20 = .ok (.bipush 10, 2) := by decide +kernel
theorem dX11_token_22 : decode cX11_token 22 = .ok (.if_icmp .eq 17, 3) := by decide +kernel
theorem dX11_token_25 : decode cX11_token 25 = .ok (.aload_n 0, 1) := by decide +kernel
theorem dX11_token_26 : decode cX11_token 26 = .ok (.getfield 7, 3) := by decide +kernel
theorem dX11_token_29 : decode cX11_token 29 = .ok (.aload_n 0, 1) := by decide +kernel
theorem dX11_token_30 : decode cX11_token 30 = .ok (.getfield 166, 3) := by decide +kernel
theorem dX11_token_33 : decode cX11_token 33 = .ok (.iaload, 1) := by decide +kernel
theorem dX11_token_34 : decode cX11_token 34 = .ok (.bipush 32, 2) := by decide +kernel
theorem dX11_token_36 : decode cX11_token 36 = .ok (.if_icmp .ne 16, 3) := by decide +kernel
theorem dX11_token_39 : decode cX11_token 39 = .ok (.aload_n 0, 1) := by decide +kernel
theorem dX11_token_40 : decode cX11_token 40 = .ok (.dup, 1) := by decide +kernel
theorem dX11_token_41 : decode cX11_token 41 = .ok (.getfield 166, 3) := by decide +kernel
theorem dX11_token_44 : decode cX11_token 44 = .ok (.iconst 1, 1) := by decide +kernel
theorem dX11_token_45 : decode cX11_token 45 = .ok (.iadd, 1) := by decide +kernel
theorem dX11_token_46 : decode cX11_token 46 = .ok (.putfield 166, 3) := by decide +kernel
theorem dX11_token_49 : decode cX11_token 49 = .ok (.goto (-49), 3) := by decide +kernel
theorem dX11_token_52 : decode cX11_token 52 = .ok (.aload_n 0, 1) := by decide +kernel
theorem dX11_token_53 : decode cX11_token 53 = .ok (.aload_n 0, 1) := by decide +kernel
theorem dX11_token_54 : decode cX11_token 54 = .ok (.getfield 166, 3) := by decide +kernel
theorem dX11_token_57 : decode cX11_token 57 = .ok (.putfield 160, 3) := by decide +kernel
theorem dX11_token_60 : decode cX11_token 60 = .ok (.aload_n 0, 1) := by decide +kernel
theorem dX11_token_61 : decode cX11_token 61 = .ok (.getfield 166, 3) := by decide +kernel
theorem dX11_token_64 : decode cX11_token 64 = .ok (.aload_n 0, 1) := by decide +kernel
theorem dX11_token_65 : decode cX11_token 65 = .ok (.getfield 163, 3) := by decide +kernel
theorem dX11_token_68 : decode cX11_token 68 = .ok (.if_icmp .ne 11, 3) := by decide +kernel
theorem dX11_token_71 : decode cX11_token 71 = .ok (.aload_n 0, 1) := by decide +kernel
theorem dX11_token_72 : decode cX11_token 72 = .ok (.iconst 0, 1) := by decide +kernel
theorem dX11_token_73 : decode cX11_token 73 = .ok (.putfield 169, 3) := by decide +kernel
theorem dX11_token_76 : decode cX11_token 76 = .ok (.goto 205, 3) := by decide +kernel
theorem dX11_token_79 : decode cX11_token 79 = .ok (.aload_n 0, 1) := by decide +kernel
theorem dX11_token_80 : decode cX11_token 80 = .ok (.aload_n 0, 1) := by decide +kernel
theorem dX11_token_81 : decode cX11_token 81 = .ok (.getfield 166, 3) := by decide +kernel
theorem dX11_token_84 : decode cX11_token 84 = .ok (.invokevirtual 172, 3) := by decide +kernel
theorem dX11_token_87 : decode cX11_token 87 = .ok (.ifCond .eq 105, 3) := by decide +kernel
theorem dX11_token_90 : decode cX11_token 90 = .ok (.aload_n 0, 1) := by decide +kernel
theorem dX11_token_91 : decode cX11_token 91 = .ok (.aload_n 0, 1) := by decide +kernel
theorem dX11_token_92 : decode cX11_token 92 = .ok (.getfield 166, 3) := by decide +kernel
theorem dX11_token_95 : decode cX11_token 95 = .ok (.invokevirtual 172, 3) := by decide +kernel
theorem dX11_token_98 : decode cX11_token 98 = .ok (.ifCond .eq 16, 3) := by decide +kernel
theorem dX11_token_101 : decode cX11_token 101 = .ok (.aload_n 0, 1) := by decide +kernel
theorem dX11_token_102 : decode cX11_token 102 = .ok (.dup, 1) := by decide +kernel
theorem dX11_token_103 : decode cX11_token 103 = .ok (.getfield 166, 3) := by decide +kernel
theorem dX11_token_106 : decode cX11_token 106 = .ok (.iconst 1, 1) := by decide +kernel
theorem dX11_token_107 : decode cX11_token 107 = .ok (.iadd, 1) := by decide +kernel
theorem dX11_token_108 : decode cX11_token 108 = .ok (.putfield 166, 3) := by decide +kernel
theorem dX11_token_111 : decode cX11_token 111 = .ok (.goto (-21), 3) := by decide +kernel
theorem dX11_token_114 : decode cX11_token 114 = .ok (.aload_n 0, 1) := by decide +kernel
theorem dX11_token_115 : decode cX11_token 115 = .ok (.aload_n 0, 1) := by decide +kernel
theorem dX11_token_116 : decode cX11_token 116 = .ok (.aload_n 0, 1) := by decide +kernel
theorem dX11_token_117 : decode cX11_token 117 = .ok (.getfield 160, 3) := by decide +kernel
theorem dX11_token_120 : decode cX11_token 120 = .ok (.aload_n 0, 1) := by decide +kernel
theorem dX11_token_121 : decode cX11_token 121 = .ok (.getfield 166, 3) := by decide +kernel
theorem dX11_token_124 : decode cX11_token 124 = .ok (.invokevirtual 176, 3) := by decide +kernel
theorem dX11_token_127 : decode cX11_token 127 = .ok (.putfield 180, 3) := by decide +kernel
theorem dX11_token_130 : decode cX11_token 130 = .ok (.aload_n 0, 1) := by decide +kernel
theorem dX11_token_131 : decode cX11_token 131 = .ok (.aload_n 0, 1) := by decide +kernel
theorem dX11_token_132 : decode cX11_token 132 = .ok (.getfield 180, 3) := by decide +kernel
theorem dX11_token_135 : decode cX11_token 135 = .ok (.ifCond .lt 7, 3) := by decide +kernel
theorem dX11_token_138 : decode cX11_token 138 = .ok (.iconst 1, 1) := by decide +kernel
theorem dX11_token_139 : decode cX11_token 139 = .ok (.goto 23, 3) := by decide +kernel
theorem dX11_token_142 : decode cX11_token 142 = .ok (.aload_n 0, 1) := by decide +kernel
theorem dX11_token_143 : decode cX11_token 143 = .ok (.getfield 166, 3) := by decide +kernel
theorem dX11_token_146 : decode cX11_token 146 = .ok (.aload_n 0, 1) := by decide +kernel
theorem dX11_token_147 : decode cX11_token 147 = .ok (.getfield 160, 3) := by decide +kernel
theorem dX11_token_150 : decode cX11_token 150 = .ok (.isub, 1) := by decide +kernel
theorem dX11_token_151 : decode cX11_token 151 = .ok (.bipush 6, 2) := by decide +kernel
theorem dX11_token_153 : decode cX11_token 153 = .ok (.if_icmp .le 8, 3) := by decide +kernel
theorem dX11_token_156 : decode cX11_token 156 = .ok (.bipush 6, 2) := by decide +kernel
theorem dX11_token_158 : decode cX11_token 158 = .ok (.goto 4, 3) := by decide +kernel
theorem dX11_token_161 : decode cX11_token 161 = .ok (.iconst 2, 1) := by decide +kernel
theorem dX11_token_162 : decode cX11_token 162 = .ok (.putfield 169, 3) := by decide +kernel
theorem dX11_token_165 : decode cX11_token 165 = .ok (.aload_n 0, 1) := by decide +kernel
theorem dX11_token_166 : decode cX11_token 166 = .ok (.getfield 169, 3) := by decide +kernel
theorem dX11_token_169 : decode cX11_token 169 = .ok (.iconst 2, 1) := by decide +kernel
theorem dX11_token_170 : decode cX11_token 170 = .ok (.if_icmp .ne 111, 3) := by decide +kernel
theorem dX11_token_173 : decode cX11_token 173 = .ok (.aload_n 0, 1) := by decide +kernel
theorem dX11_token_174 : decode cX11_token 174 = .ok (.aload_n 0, 1) := by decide +kernel
theorem dX11_token_175 : decode cX11_token 175 = .ok (.aload_n 0, 1) := by decide +kernel
theorem dX11_token_176 : decode cX11_token 176 = .ok (.getfield 160, 3) := by decide +kernel
theorem dX11_token_179 : decode cX11_token 179 = .ok (.aload_n 0, 1) := by decide +kernel
theorem dX11_token_180 : decode cX11_token 180 = .ok (.getfield 166, 3) := by decide +kernel
theorem dX11_token_183 : decode cX11_token 183 = .ok (.invokevirtual 183, 3) := by decide +kernel
theorem dX11_token_186 : decode cX11_token 186 = .ok (.putfield 180, 3) := by decide +kernel
theorem dX11_token_189 : decode cX11_token 189 = .ok (.goto 92, 3) := by decide +kernel
theorem dX11_token_192 : decode cX11_token 192 = .ok (.aload_n 0, 1) := by decide +kernel
theorem dX11_token_193 : decode cX11_token 193 = .ok (.aload_n 0, 1) := by decide +kernel
theorem dX11_token_194 : decode cX11_token 194 = .ok (.getfield 166, 3) := by decide +kernel
theorem dX11_token_197 : decode cX11_token 197 = .ok (.invokevirtual 186, 3) := by decide +kernel
theorem dX11_token_200 : decode cX11_token 200 = .ok (.ifCond .eq 77, 3) := by decide +kernel
theorem dX11_token_203 : decode cX11_token 203 = .ok (.aload_n 0, 1) := by decide +kernel
theorem dX11_token_204 : decode cX11_token 204 = .ok (.iconst 3, 1) := by decide +kernel
theorem dX11_token_205 : decode cX11_token 205 = .ok (.putfield 169, 3) := by decide +kernel
theorem dX11_token_208 : decode cX11_token 208 = .ok (.aload_n 0, 1) := by decide +kernel
theorem dX11_token_209 : decode cX11_token 209 = .ok (.iconst 0, 1) := by decide +kernel
theorem dX11_token_210 : decode cX11_token 210 = .ok (.putfield 180, 3) := by decide +kernel
theorem dX11_token_213 : decode cX11_token 213 = .ok (.aload_n 0, 1) := by decide +kernel
theorem dX11_token_214 : decode cX11_token 214 = .ok (.aload_n 0, 1) := by decide +kernel
theorem dX11_token_215 : decode cX11_token 215 = .ok (.getfield 166, 3) := by decide +kernel
theorem dX11_token_218 : decode cX11_token 218 = .ok (.invokevirtual 186, 3) := by decide +kernel
theorem dX11_token_221 : decode cX11_token 221 = .ok (.ifCond .eq 60, 3) := by decide +kernel
theorem dX11_token_224 : decode cX11_token 224 = .ok (.aload_n 0, 1) := by decide +kernel
theorem dX11_token_225 : decode cX11_token 225 = .ok (.aload_n 0, 1) := by decide +kernel
theorem dX11_token_226 : decode cX11_token 226 = .ok (.getfield 180, 3) := by decide +kernel
theorem dX11_token_229 : decode cX11_token 229 = .ok (.ldc 189, 2) := by decide +kernel
theorem dX11_token_231 : decode cX11_token 231 = .ok (.if_icmp .le 10, 3) := by decide +kernel
theorem dX11_token_234 : decode cX11_token 234 = .ok (.aload_n 0, 1) := by decide +kernel
theorem dX11_token_235 : decode cX11_token 235 = .ok (.getfield 180, 3) := by decide +kernel
theorem dX11_token_238 : decode cX11_token 238 = .ok (.goto 23, 3) := by decide +kernel
theorem dX11_token_241 : decode cX11_token 241 = .ok (.bipush 10, 2) := by decide +kernel
theorem dX11_token_243 : decode cX11_token 243 = .ok (.aload_n 0, 1) := by decide +kernel
theorem dX11_token_244 : decode cX11_token 244 = .ok (.getfield 180, 3) := by decide +kernel
theorem dX11_token_247 : decode cX11_token 247 = .ok (.imul, 1) := by decide +kernel
theorem dX11_token_248 : decode cX11_token 248 = .ok (.aload_n 0, 1) := by decide +kernel
theorem dX11_token_249 : decode cX11_token 249 = .ok (.getfield 7, 3) := by decide +kernel
theorem dX11_token_252 : decode cX11_token 252 = .ok (.aload_n 0, 1) := by decide +kernel
theorem dX11_token_253 : decode cX11_token 253 = .ok (.getfield 166, 3) := by decide +kernel
theorem dX11_token_256 : decode cX11_token 256 = .ok (.iaload, 1) := by decide +kernel
theorem dX11_token_257 : decode cX11_token 257 = .ok (.iadd, 1) := by decide +kernel
theorem dX11_token_258 : decode cX11_token 258 = .ok (.bipush 48, 2) := by decide +kernel
theorem dX11_token_260 : decode cX11_token 260 = .ok (.isub, 1) := by decide +kernel
theorem dX11_token_261 : decode cX11_token 261 = .ok (.putfield 180, 3) := by decide +kernel
theorem dX11_token_264 : decode cX11_token 264 = .ok (.aload_n 0, 1) := by decide +kernel
theorem dX11_token_265 : decode cX11_token 265 = .ok (.dup, 1) := by decide +kernel
theorem dX11_token_266 : decode cX11_token 266 = .ok (.getfield 166, 3) := by decide +kernel
theorem dX11_token_269 : decode cX11_token 269 = .ok (.iconst 1, 1) := by decide +kernel
theorem dX11_token_270 : decode cX11_token 270 = .ok (.iadd, 1) := by decide +kernel
theorem dX11_token_271 : decode cX11_token 271 = .ok (.putfield 166, 3) := by decide +kernel
theorem dX11_token_274 : decode cX11_token 274 = .ok (.goto (-61), 3) := by decide +kernel
theorem dX11_token_277 : decode cX11_token 277 = .ok (.aload_n 0, 1) := by decide +kernel
theorem dX11_token_278 : decode cX11_token 278 = .ok (.invokevirtual 190, 3) := by decide +kernel
theorem dX11_token_281 : decode cX11_token 281 = .ok (.return_, 1) := by decide +kernel
theorem dX11_signToken_0 : decode cX11_signToken 0 = .ok (.aload_n 0, 1) := by decide +kernel
theorem dX11_signToken_1 : decode cX11_signToken 1 = .ok (.aload_n 0, 1) := by decide +kernel
theorem dX11_signToken_2 : decode cX11_signToken 2 = .ok (.getfield 7, 3) := by decide +kernel
theorem dX11_signToken_5 : decode cX11_signToken 5 = .ok (.aload_n 0, 1) := by decide +kernel
theorem dX11_signToken_6 : decode cX11_signToken 6 = .ok (.getfield 166, 3) := by decide +kernel
theorem dX11_signToken_9 : decode cX11_signToken 9 = .ok (.iaload, 1) := by decide +kernel
theorem dX11_signToken_10 : decode cX11_signToken 10 = .ok (.putfield 180, 3) := by decide +kernel
theorem dX11_signToken_13 : decode cX11_signToken 13 = .ok (.aload_n 0, 1) := by decide +kernel
theorem dX11_signToken_14 : decode cX11_signToken 14 = .ok (.dup, 1) := by decide +kernel
theorem dX11_signToken_15 : decode cX11_signToken 15 = .ok (.getfield 166, 3) := by decide +kernel
theorem dX11_signToken_18 : decode cX11_signToken 18 = .ok (.iconst 1, 1) := by decide +kernel
theorem dX11_signToken_19 : decode cX11_signToken 19 = .ok (.iadd, 1) := by decide +kernel
theorem dX11_signToken_20 : decode cX11_signToken 20 = .ok (.putfield 166, 3) := by decide +kernel
theorem dX11_signToken_23 : decode cX11_signToken 23 = .ok (.aload_n 0, 1) := by decide +kernel
theorem dX11_signToken_24 : decode cX11_signToken 24 = .ok (.getfield 180, 3) := by decide +kernel
theorem dX11_signToken_27 : decode cX11_signToken 27 = .ok (.bipush 60, 2) := by decide +kernel
theorem dX11_signToken_29 : decode cX11_signToken 29 = .ok (.if_icmp .eq 21, 3) := by decide +kernel
theorem dX11_signToken_32 : decode cX11_signToken 32 = .ok (.aload_n 0, 1) := by decide +kernel
theorem dX11_signToken_33 : decode cX11_signToken 33 = .ok (.getfield 180, 3) := by decide +kernel
theorem dX11_signToken_36 : decode cX11_signToken 36 = .ok (.bipush 62, 2) := by decide +kernel
theorem dX11_signToken_38 : decode cX11_signToken 38 = .ok (.if_icmp .eq 12, 3) := by decide +kernel
theorem dX11_signToken_41 : decode cX11_signToken 41 = .ok (.aload_n 0, 1) := by decide +kernel
theorem dX11_signToken_42 : decode cX11_signToken 42 = .ok (.getfield 180, 3) := by decide +kernel
theorem dX11_signToken_45 : decode cX11_signToken 45 = .ok (.bipush 61, 2) := by decide +kernel
theorem dX11_signToken_47 : decode cX11_signToken 47 = .ok (.if_icmp .ne 151, 3) := by decide +kernel
theorem dX11_signToken_50 : decode cX11_signToken 50 = .ok (.aload_n 0, 1) := by decide +kernel
theorem dX11_signToken_51 : decode cX11_signToken 51 = .ok (.getfield 166, 3) := by decide +kernel
theorem dX11_signToken_54 : decode cX11_signToken 54 = .ok (.aload_n 0, 1) := by decide +kernel
theorem dX11_signToken_55 : decode cX11_signToken 55 = .ok (.getfield 163, 3) := by decide +kernel
theorem dX11_signToken_58 : decode cX11_signToken 58 = .ok (.if_icmp .ge 15, 3) := by decide +kernel
theorem dX11_signToken_61 : decode cX11_signToken 61 = .ok (.aload_n 0, 1) := by decide +kernel
theorem dX11_signToken_62 : decode cX11_signToken 62 = .ok (.getfield 7, 3) := by decide +kernel
theorem dX11_signToken_65 : decode cX11_signToken 65 = .ok (.aload_n 0, 1) := by decide +kernel
theorem dX11_signToken_66 : decode cX11_signToken 66 = .ok (.getfield 166, 3) := by decide +kernel
theorem dX11_signToken_69 : decode cX11_signToken 69 = .ok (.iaload, 1) := by decide +kernel
theorem dX11_signToken_70 : decode cX11_signToken 70 = .ok (.goto 4, 3) := by decide +kernel
theorem dX11_signToken_73 : decode cX11_signToken 73 = .ok (.iconst 0, 1) := by decide +kernel
theorem dX11_signToken_74 : decode cX11_signToken 74 = .ok (.istore_n 1, 1) := by decide +kernel
theorem dX11_signToken_75 : decode cX11_signToken 75 = .ok (.aload_n 0, 1) := by decide +kernel
theorem dX11_signToken_76 : decode cX11_signToken 76 = .ok (.getfield 180, 3) := by decide +kernel
theorem dX11_signToken_79 : decode cX11_signToken 79 = .ok (.bipush 61, 2) := by decide +kernel
theorem dX11_signToken_81 : decode cX11_signToken 81 = .ok (.if_icmp .eq 13, 3) := by decide +kernel
theorem dX11_signToken_84 : decode cX11_signToken 84 = .ok (.iload_n 1, 1) := by decide +kernel
theorem dX11_signToken_85 : decode cX11_signToken 85 = .ok (.bipush 61, 2) := by decide +kernel
theorem dX11_signToken_87 : decode cX11_signToken 87 = .ok (.if_icmp .ne 7, 3) := by decide +kernel
theorem dX11_signToken_90 : decode cX11_signToken 90 = .ok (.iconst 1, 1) := by decide +kernel
theorem dX11_signToken_91 : decode cX11_signToken 91 = .ok (.goto 4, 3) := by decide +kernel
theorem dX11_signToken_94 : decode cX11_signToken 94 = .ok (.iconst 0, 1) := by decide +kernel
theorem dX11_signToken_95 : decode cX11_signToken 95 = .ok (.istore_n 2, 1) := by decide +kernel
theorem dX11_signToken_96 : decode cX11_signToken 96 = .ok (.aload_n 0, 1) := by decide +kernel
theorem dX11_signToken_97 : decode cX11_signToken 97 = .ok (.getfield 180, 3) := by decide +kernel
theorem dX11_signToken_100 : decode cX11_signToken 100 = .ok (.bipush 60, 2) := by decide +kernel
theorem dX11_signToken_102 : decode cX11_signToken 102 = .ok (.if_icmp .ne 13, 3) := by decide +kernel
theorem dX11_signToken_105 : decode cX11_signToken 105 = .ok (.iload_n 1, 1) := by decide +kernel
theorem dX11_signToken_106 : decode cX11_signToken 106 = .ok (.bipush 62, 2) := by decide +kernel
theorem dX11_signToken_108 : decode cX11_signToken 108 = .ok (.if_icmp .ne 7, 3) := by decide +kernel
theorem dX11_signToken_111 : decode cX11_signToken 111 = .ok (.iconst 1, 1) := by decide +kernel
theorem dX11_signToken_112 : decode cX11_signToken 112 = .ok (.goto 4, 3) := by decide +kernel
theorem dX11_signToken_115 : decode cX11_signToken 115 = .ok (.iconst 0, 1) := by decide +kernel
theorem dX11_signToken_116 : decode cX11_signToken 116 = .ok (.istore_n 3, 1) := by decide +kernel
theorem dX11_signToken_117 : decode cX11_signToken 117 = .ok (.iload_n 2, 1) := by decide +kernel
theorem dX11_signToken_118 : decode cX11_signToken 118 = .ok (.ifCond .ne 7, 3) := by decide +kernel
theorem dX11_signToken_121 : decode cX11_signToken 121 = .ok (.iload_n 3, 1) := by decide +kernel
theorem dX11_signToken_122 : decode cX11_signToken 122 = .ok (.ifCond .eq 13, 3) := by decide +kernel
theorem dX11_signToken_125 : decode cX11_signToken 125 = .ok (.aload_n 0, 1) := by decide +kernel
theorem dX11_signToken_126 : decode cX11_signToken 126 = .ok (.dup, 1) := by decide +kernel
theorem dX11_signToken_127 : decode cX11_signToken 127 = .ok (.getfield 166, 3) := by decide +kernel
theorem dX11_signToken_130 : decode cX11_signToken 130 = .ok (.iconst 1, 1) := by decide +kernel
theorem dX11_signToken_131 : decode cX11_signToken 131 = .ok (.iadd, 1) := by decide +kernel
theorem dX11_signToken_132 : decode cX11_signToken 132 = .ok (.putfield 166, 3) := by decide +kernel
theorem dX11_signToken_135 : decode cX11_signToken 135 = .ok (.aload_n 0, 1) := by decide +kernel
theorem dX11_signToken_136 : decode cX11_signToken 136 = .ok (.iconst 5, 1) := by decide +kernel
theorem dX11_signToken_137 : decode cX11_signToken 137 = .ok (.putfield 169, 3) := by decide +kernel
theorem dX11_signToken_140 : decode cX11_signToken 140 = .ok (.aload_n 0, 1) := by decide +kernel
theorem dX11_signToken_141 : decode cX11_signToken 141 = .ok (.aload_n 0, 1) := by decide +kernel
theorem dX11_signToken_142 : decode cX11_signToken 142 = .ok (.getfield 180, 3) := by decide +kernel
theorem dX11_signToken_145 : decode cX11_signToken 145 = .ok (.bipush 61, 2) := by decide +kernel
theorem dX11_signToken_147 : decode cX11_signToken 147 = .ok (.if_icmp .ne 7, 3) := by decide +kernel
theorem dX11_signToken_150 : decode cX11_signToken 150 = .ok (.iconst 2, 1) := by decide +kernel
theorem dX11_signToken_151 : decode cX11_signToken 151 = .ok (.goto 41, 3) := by decide +kernel
theorem dX11_signToken_154 : decode cX11_signToken 154 = .ok (.aload_n 0, 1) := by decide +kernel
theorem dX11_signToken_155 : decode cX11_signToken 155 = .ok (.getfield 180, 3) := by decide +kernel
theorem dX11_signToken_158 : decode cX11_signToken 158 = .ok (.bipush 60, 2) := by decide +kernel
theorem dX11_signToken_160 : decode cX11_signToken 160 = .ok (.if_icmp .ne 23, 3) := by decide +kernel
theorem dX11_signToken_163 : decode cX11_signToken 163 = .ok (.iload_n 2, 1) := by decide +kernel
theorem dX11_signToken_164 : decode cX11_signToken 164 = .ok (.ifCond .eq 7, 3) := by decide +kernel
theorem dX11_signToken_167 : decode cX11_signToken 167 = .ok (.iconst 1, 1) := by decide +kernel
theorem dX11_signToken_168 : decode cX11_signToken 168 = .ok (.goto 24, 3) := by decide +kernel
theorem dX11_signToken_171 : decode cX11_signToken 171 = .ok (.iload_n 3, 1) := by decide +kernel
theorem dX11_signToken_172 : decode cX11_signToken 172 = .ok (.ifCond .eq 7, 3) := by decide +kernel
theorem dX11_signToken_175 : decode cX11_signToken 175 = .ok (.iconst 3, 1) := by decide +kernel
theorem dX11_signToken_176 : decode cX11_signToken 176 = .ok (.goto 16, 3) := by decide +kernel
theorem dX11_signToken_179 : decode cX11_signToken 179 = .ok (.iconst 0, 1) := by decide +kernel
theorem dX11_signToken_180 : decode cX11_signToken 180 = .ok (.goto 12, 3) := by decide +kernel
theorem dX11_signToken_183 : decode cX11_signToken 183 = .ok (.iload_n 2, 1) := by decide +kernel
theorem dX11_signToken_184 : decode cX11_signToken 184 = .ok (.ifCond .eq 7, 3) := by decide +kernel
theorem dX11_signToken_187 : decode cX11_signToken 187 = .ok (.iconst 4, 1) := by decide +kernel
theorem dX11_signToken_188 : decode cX11_signToken 188 = .ok (.goto 4, 3) := by decide +kernel
theorem dX11_signToken_191 : decode cX11_signToken 191 = .ok (.iconst 5, 1) := by decide +kernel
theorem dX11_signToken_192 : decode cX11_signToken 192 = .ok (.putfield 180, 3) := by decide +kernel
theorem dX11_signToken_195 : decode cX11_signToken 195 = .ok (.goto 95, 3) := by decide +kernel
theorem dX11_signToken_198 : decode cX11_signToken 198 = .ok (.aload_n 0, 1) := by decide +kernel
theorem dX11_signToken_199 : decode cX11_signToken 199 = .ok (.getfield 180, 3) := by decide +kernel
theorem dX11_signToken_202 : decode cX11_signToken 202 = .ok (.bipush 59, 2) := by decide +kernel
theorem dX11_signToken_204 : decode cX11_signToken 204 = .ok (.if_icmp .eq 66, 3) := by decide +kernel
theorem dX11_signToken_207 : decode cX11_signToken 207 = .ok (.aload_n 0, 1) := by decide +kernel
theorem dX11_signToken_208 : decode cX11_signToken 208 = .ok (.getfield 180, 3) := by decide +kernel
theorem dX11_signToken_211 : decode cX11_signToken 211 = .ok (.bipush 40, 2) := by decide +kernel
theorem dX11_signToken_213 : decode cX11_signToken 213 = .ok (.if_icmp .eq 57, 3) := by decide +kernel
theorem dX11_signToken_216 : decode cX11_signToken 216 = .ok (.aload_n 0, 1) := by decide +kernel
theorem dX11_signToken_217 : decode cX11_signToken 217 = .ok (.getfield 180, 3) := by decide +kernel
theorem dX11_signToken_220 : decode cX11_signToken 220 = .ok (.bipush 41, 2) := by decide +kernel
theorem dX11_signToken_222 : decode cX11_signToken 222 = .ok (.if_icmp .eq 48, 3) := by decide +kernel
theorem dX11_signToken_225 : decode cX11_signToken 225 = .ok (.aload_n 0, 1) := by decide +kernel
theorem dX11_signToken_226 : decode cX11_signToken 226 = .ok (.getfield 180, 3) := by decide +kernel
theorem dX11_signToken_229 : decode cX11_signToken 229 = .ok (.bipush 43, 2) := by decide +kernel
theorem dX11_signToken_231 : decode cX11_signToken 231 = .ok (.if_icmp .eq 39, 3) := by decide +kernel
theorem dX11_signToken_234 : decode cX11_signToken 234 = .ok (.aload_n 0, 1) := by decide +kernel
theorem dX11_signToken_235 : decode cX11_signToken 235 = .ok (.getfield 180, 3) := by decide +kernel
theorem dX11_signToken_238 : decode cX11_signToken 238 = .ok (.bipush 45, 2) := by decide +kernel
theorem dX11_signToken_240 : decode cX11_signToken 240 = .ok (.if_icmp .eq 30, 3) := by decide +kernel
theorem dX11_signToken_243 : decode cX11_signToken 243 = .ok (.aload_n 0, 1) := by decide +kernel
theorem dX11_signToken_244 : decode cX11_signToken 244 = .ok (.getfield 180, 3) := by decide +kernel
theorem dX11_signToken_247 : decode cX11_signToken 247 = .ok (.bipush 42, 2) := by decide +kernel
theorem dX11_signToken_249 : decode cX11_signToken 249 = .ok (.if_icmp .eq 21, 3) := by decide +kernel
theorem dX11_signToken_252 : decode cX11_signToken 252 = .ok (.aload_n 0, 1) := by decide +kernel
theorem dX11_signToken_253 : decode cX11_signToken 253 = .ok (.getfield 180, 3) := by decide +kernel
theorem dX11_signToken_256 : decode cX11_signToken 256 = .ok (.bipush 47, 2) := by decide +kernel
theorem dX11_signToken_258 : decode cX11_signToken 258 = .ok (.if_icmp .eq 12, 3) := by decide +kernel
theorem dX11_signToken_261 : decode cX11_signToken 261 = .ok (.aload_n 0, 1) := by decide +kernel
theorem dX11_signToken_262 : decode cX11_signToken 262 = .ok (.getfield 180, 3) := by decide +kernel
theorem dX11_signToken_265 : decode cX11_signToken 265 = .ok (.bipush 37, 2) := by decide +kernel
theorem dX11_signToken_267 : decode cX11_signToken 267 = .ok (.if_icmp .ne 7, 3) := by decide +kernel
theorem dX11_signToken_270 : decode cX11_signToken 270 = .ok (.iconst 1, 1) := by decide +kernel
theorem dX11_signToken_271 : decode cX11_signToken 271 = .ok (.goto 4, 3) := by decide +kernel
theorem dX11_signToken_274 : decode cX11_signToken 274 = .ok (.iconst 0, 1) := by decide +kernel
theorem dX11_signToken_275 : decode cX11_signToken 275 = .ok (.istore_n 1, 1) := by decide +kernel
theorem dX11_signToken_276 : decode cX11_signToken 276 = .ok (.aload_n 0, 1) := by decide +kernel
theorem dX11_signToken_277 : decode cX11_signToken 277 = .ok (.iload_n 1, 1) := by decide +kernel
theorem dX11_signToken_278 : decode cX11_signToken 278 = .ok (.ifCond .eq 7, 3) := by decide +kernel
theorem dX11_signToken_281 : decode cX11_signToken 281 = .ok (.iconst 4, 1) := by decide +kernel
theorem dX11_signToken_282 : decode cX11_signToken 282 = .ok (.goto 5, 3) := by decide +kernel
theorem dX11_signToken_285 : decode cX11_signToken 285 = .ok (.bipush 6, 2) := by decide +kernel
theorem dX11_signToken_287 : decode cX11_signToken 287 = .ok (.putfield 169, 3) := by decide +kernel
theorem dX11_signToken_290 : decode cX11_signToken 290 = .ok (.return_, 1) := by decide +kernel
theorem dX11_packed_0 : decode cX11_packed 0 = .ok (.iconst 0, 1) := by decide +kernel
theorem dX11_packed_1 : decode cX11_packed 1 = .ok (.istore_n 3, 1) := by decide +kernel
theorem dX11_packed_2 : decode cX11_packed 2 = .ok (.iload_n 1, 1) := by decide +kernel
theorem dX11_packed_3 : decode cX11_packed 3 = .ok (.istore 4, 2) := by decide +kernel
theorem dX11_packed_5 : decode cX11_packed 5 = .ok (.iload 4, 2) := by decide +kernel
theorem dX11_packed_7 : decode cX11_packed 7 = .ok (.iload_n 1, 1) := by decide +kernel
theorem dX11_packed_8 : decode cX11_packed 8 = .ok (.bipush 6, 2) := by decide +kernel
theorem dX11_packed_10 : decode cX11_packed 10 = .ok (.iadd, 1) := by decide +kernel
theorem dX11_packed_11 : decode cX11_packed 11 = .ok (.if_icmp .ge 34, 3) := by decide +kernel
theorem dX11_packed_14 : decode cX11_packed 14 = .ok (.iload_n 3, 1) := by decide +kernel
theorem dX11_packed_15 : decode cX11_packed 15 = .ok (.iconst 5, 1) := by decide +kernel
theorem dX11_packed_16 : decode cX11_packed 16 = .ok (.ishl, 1) := by decide +kernel
theorem dX11_packed_17 : decode cX11_packed 17 = .ok (.iload 4, 2) := by decide +kernel
theorem dX11_packed_19 : decode cX11_packed 19 = .ok (.iload_n 2, 1) := by decide +kernel
theorem dX11_packed_20 : decode cX11_packed 20 = .ok (.if_icmp .ge 16, 3) := by decide +kernel
theorem dX11_packed_23 : decode cX11_packed 23 = .ok (.aload_n 0, 1) := by decide +kernel
theorem dX11_packed_24 : decode cX11_packed 24 = .ok (.getfield 7, 3) := by decide +kernel
theorem dX11_packed_27 : decode cX11_packed 27 = .ok (.iload 4, 2) := by decide +kernel
theorem dX11_packed_29 : decode cX11_packed 29 = .ok (.iaload, 1) := by decide +kernel
theorem dX11_packed_30 : decode cX11_packed 30 = .ok (.bipush 96, 2) := by decide +kernel
theorem dX11_packed_32 : decode cX11_packed 32 = .ok (.isub, 1) := by decide +kernel
theorem dX11_packed_33 : decode cX11_packed 33 = .ok (.goto 4, 3) := by decide +kernel
theorem dX11_packed_36 : decode cX11_packed 36 = .ok (.iconst 0, 1) := by decide +kernel
theorem dX11_packed_37 : decode cX11_packed 37 = .ok (.ior, 1) := by decide +kernel
theorem dX11_packed_38 : decode cX11_packed 38 = .ok (.istore_n 3, 1) := by decide +kernel
theorem dX11_packed_39 : decode cX11_packed 39 = .ok (.iinc 4 1, 3) := by decide +kernel
theorem dX11_packed_42 : decode cX11_packed 42 = .ok (.goto (-37), 3) := by decide +kernel
theorem dX11_packed_45 : decode cX11_packed 45 = .ok (.iload_n 3, 1) := by decide +kernel
theorem dX11_packed_46 : decode cX11_packed 46 = .ok (.ireturn, 1) := by decide +kernel
theorem dX11_isKey_0 : decode cX11_isKey 0 = .ok (.aload_n 0, 1) := by decide +kernel
theorem dX11_isKey_1 : decode cX11_isKey 1 = .ok (.getfield 169, 3) := by decide +kernel
theorem dX11_isKey_4 : decode cX11_isKey 4 = .ok (.iconst 1, 1) := by decide +kernel
theorem dX11_isKey_5 : decode cX11_isKey 5 = .ok (.if_icmp .ne 15, 3) := by decide +kernel
theorem dX11_isKey_8 : decode cX11_isKey 8 = .ok (.aload_n 0, 1) := by decide +kernel
theorem dX11_isKey_9 : decode cX11_isKey 9 = .ok (.getfield 180, 3) := by decide +kernel
theorem dX11_isKey_12 : decode cX11_isKey 12 = .ok (.iload_n 1, 1) := by decide +kernel
theorem dX11_isKey_13 : decode cX11_isKey 13 = .ok (.if_icmp .ne 7, 3) := by decide +kernel
theorem dX11_isKey_16 : decode cX11_isKey 16 = .ok (.iconst 1, 1) := by decide +kernel
theorem dX11_isKey_17 : decode cX11_isKey 17 = .ok (.goto 4, 3) := by decide +kernel
theorem dX11_isKey_20 : decode cX11_isKey 20 = .ok (.iconst 0, 1) := by decide +kernel
theorem dX11_isKey_21 : decode cX11_isKey 21 = .ok (.ireturn, 1) := by decide +kernel
theorem dX11_isSign_0 : decode cX11_isSign 0 = .ok (.aload_n 0, 1) := by decide +kernel
theorem dX11_isSign_1 : decode cX11_isSign 1 = .ok (.getfield 169, 3) := by decide +kernel
theorem dX11_isSign_4 : decode cX11_isSign 4 = .ok (.iconst 4, 1) := by decide +kernel
theorem dX11_isSign_5 : decode cX11_isSign 5 = .ok (.if_icmp .ne 15, 3) := by decide +kernel
theorem dX11_isSign_8 : decode cX11_isSign 8 = .ok (.aload_n 0, 1) := by decide +kernel
theorem dX11_isSign_9 : decode cX11_isSign 9 = .ok (.getfield 180, 3) := by decide +kernel
theorem dX11_isSign_12 : decode cX11_isSign 12 = .ok (.iload_n 1, 1) := by decide +kernel
theorem dX11_isSign_13 : decode cX11_isSign 13 = .ok (.if_icmp .ne 7, 3) := by decide +kernel
theorem dX11_isSign_16 : decode cX11_isSign 16 = .ok (.iconst 1, 1) := by decide +kernel
theorem dX11_isSign_17 : decode cX11_isSign 17 = .ok (.goto 4, 3) := by decide +kernel
theorem dX11_isSign_20 : decode cX11_isSign 20 = .ok (.iconst 0, 1) := by decide +kernel
theorem dX11_isSign_21 : decode cX11_isSign 21 = .ok (.ireturn, 1) := by decide +kernel
theorem dX11_number_0 : decode cX11_number 0 = .ok (.aload_n 0, 1) := by decide +kernel
theorem dX11_number_1 : decode cX11_number 1 = .ok (.getfield 169, 3) := by decide +kernel
theorem dX11_number_4 : decode cX11_number 4 = .ok (.iconst 3, 1) := by decide +kernel
theorem dX11_number_5 : decode cX11_number 5 = .ok (.if_icmp .eq 9, 3) := by decide +kernel
theorem dX11_number_8 : decode cX11_number 8 = .ok (.aload_n 0, 1) := by decide +kernel
theorem dX11_number_9 : decode cX11_number 9 = .ok (.iconst 1, 1) := by decide +kernel
theorem dX11_number_10 : decode cX11_number 10 = .ok (.invokevirtual 193, 3) := by decide +kernel
theorem dX11_number_13 : decode cX11_number 13 = .ok (.ireturn, 1) := by decide +kernel
theorem dX11_number_14 : decode cX11_number 14 = .ok (.aload_n 0, 1) := by decide +kernel
theorem dX11_number_15 : decode cX11_number 15 = .ok (.getfield 180, 3) := by decide +kernel
theorem dX11_number_18 : decode cX11_number 18 = .ok (.iload_n 1, 1) := by decide +kernel
theorem dX11_number_19 : decode cX11_number 19 = .ok (.iload_n 2, 1) := by decide +kernel
theorem dX11_number_20 : decode cX11_number 20 = .ok (.invokestatic 196, 3) := by decide +kernel
theorem dX11_number_23 : decode cX11_number 23 = .ok (.ifCond .ne 9, 3) := by decide +kernel
theorem dX11_number_26 : decode cX11_number 26 = .ok (.aload_n 0, 1) := by decide +kernel
theorem dX11_number_27 : decode cX11_number 27 = .ok (.iconst 2, 1) := by decide +kernel
theorem dX11_number_28 : decode cX11_number 28 = .ok (.invokevirtual 193, 3) := by decide +kernel
theorem dX11_number_31 : decode cX11_number 31 = .ok (.ireturn, 1) := by decide +kernel
theorem dX11_number_32 : decode cX11_number 32 = .ok (.aload_n 0, 1) := by decide +kernel
theorem dX11_number_33 : decode cX11_number 33 = .ok (.aload_n 0, 1) := by decide +kernel
theorem dX11_number_34 : decode cX11_number 34 = .ok (.getfield 180, 3) := by decide +kernel
theorem dX11_number_37 : decode cX11_number 37 = .ok (.putfield 200, 3) := by decide +kernel
theorem dX11_number_40 : decode cX11_number 40 = .ok (.aload_n 0, 1) := by decide +kernel
theorem dX11_number_41 : decode cX11_number 41 = .ok (.invokevirtual 203, 3) := by decide +kernel
theorem dX11_number_44 : decode cX11_number 44 = .ok (.iconst 1, 1) := by decide +kernel
theorem dX11_number_45 : decode cX11_number 45 = .ok (.ireturn, 1) := by decide +kernel
theorem dX11_plain_0 : decode cX11_plain 0 = .ok (.aload_n 0, 1) := by decide +kernel
theorem dX11_plain_1 : decode cX11_plain 1 = .ok (.iconst 0, 1) := by decide +kernel
theorem dX11_plain_2 : decode cX11_plain 2 = .ok (.putfield 213, 3) := by decide +kernel
theorem dX11_plain_5 : decode cX11_plain 5 = .ok (.aload_n 0, 1) := by decide +kernel
theorem dX11_plain_6 : decode cX11_plain 6 = .ok (.iconst 0, 1) := by decide +kernel
theorem dX11_plain_7 : decode cX11_plain 7 = .ok (.putfield 216, 3) := by decide +kernel
theorem dX11_plain_10 : decode cX11_plain 10 = .ok (.aload_n 0, 1) := by decide +kernel
theorem dX11_plain_11 : decode cX11_plain 11 = .ok (.iconst 0, 1) := by decide +kernel
theorem dX11_plain_12 : decode cX11_plain 12 = .ok (.putfield 219, 3) := by decide +kernel
theorem dX11_plain_15 : decode cX11_plain 15 = .ok (.aload_n 0, 1) := by decide +kernel
theorem dX11_plain_16 : decode cX11_plain 16 = .ok (.iconst 0, 1) := by decide +kernel
theorem dX11_plain_17 : decode cX11_plain 17 = .ok (.putfield 222, 3) := by decide +kernel
theorem dX11_plain_20 : decode cX11_plain 20 = .ok (.aload_n 0, 1) := by decide +kernel
theorem dX11_plain_21 : decode cX11_plain 21 = .ok (.iconst 0, 1) := by decide +kernel
theorem dX11_plain_22 : decode cX11_plain 22 = .ok (.putfield 225, 3) := by decide +kernel
theorem dX11_plain_25 : decode cX11_plain 25 = .ok (.aload_n 0, 1) := by decide +kernel
theorem dX11_plain_26 : decode cX11_plain 26 = .ok (.iconst 0, 1) := by decide +kernel
theorem dX11_plain_27 : decode cX11_plain 27 = .ok (.putfield 228, 3) := by decide +kernel
theorem dX11_plain_30 : decode cX11_plain 30 = .ok (.aload_n 0, 1) := by decide +kernel
theorem dX11_plain_31 : decode cX11_plain 31 = .ok (.getfield 20, 3) := by decide +kernel
theorem dX11_plain_34 : decode cX11_plain 34 = .ok (.iconst 0, 1) := by decide +kernel
theorem dX11_plain_35 : decode cX11_plain 35 = .ok (.iconst 0, 1) := by decide +kernel
theorem dX11_plain_36 : decode cX11_plain 36 = .ok (.bastore, 1) := by decide +kernel
theorem dX11_plain_37 : decode cX11_plain 37 = .ok (.aload_n 0, 1) := by decide +kernel
theorem dX11_plain_38 : decode cX11_plain 38 = .ok (.getfield 20, 3) := by decide +kernel
theorem dX11_plain_41 : decode cX11_plain 41 = .ok (.iconst 1, 1) := by decide +kernel
theorem dX11_plain_42 : decode cX11_plain 42 = .ok (.iconst 0, 1) := by decide +kernel
theorem dX11_plain_43 : decode cX11_plain 43 = .ok (.bastore, 1) := by decide +kernel
theorem dX11_plain_44 : decode cX11_plain 44 = .ok (.aload_n 0, 1) := by decide +kernel
theorem dX11_plain_45 : decode cX11_plain 45 = .ok (.getfield 24, 3) := by decide +kernel
theorem dX11_plain_48 : decode cX11_plain 48 = .ok (.iconst 2, 1) := by decide +kernel
theorem dX11_plain_49 : decode cX11_plain 49 = .ok (.bipush 30, 2) := by decide +kernel
theorem dX11_plain_51 : decode cX11_plain 51 = .ok (.iastore, 1) := by decide +kernel
theorem dX11_plain_52 : decode cX11_plain 52 = .ok (.aload_n 0, 1) := by decide +kernel
theorem dX11_plain_53 : decode cX11_plain 53 = .ok (.getfield 24, 3) := by decide +kernel
theorem dX11_plain_56 : decode cX11_plain 56 = .ok (.iconst 3, 1) := by decide +kernel
theorem dX11_plain_57 : decode cX11_plain 57 = .ok (.iconst 0, 1) := by decide +kernel
theorem dX11_plain_58 : decode cX11_plain 58 = .ok (.iastore, 1) := by decide +kernel
theorem dX11_plain_59 : decode cX11_plain 59 = .ok (.iconst 3, 1) := by decide +kernel
theorem dX11_plain_60 : decode cX11_plain 60 = .ok (.istore_n 1, 1) := by decide +kernel
theorem dX11_plain_61 : decode cX11_plain 61 = .ok (.iload_n 1, 1) := by decide +kernel
theorem dX11_plain_62 : decode cX11_plain 62 = .ok (.bipush 6, 2) := by decide +kernel
theorem dX11_plain_64 : decode cX11_plain 64 = .ok (.if_icmp .ge 16, 3) := by decide +kernel
theorem dX11_plain_67 : decode cX11_plain 67 = .ok (.aload_n 0, 1) := by decide +kernel
theorem dX11_plain_68 : decode cX11_plain 68 = .ok (.getfield 60, 3) := by decide +kernel
theorem dX11_plain_71 : decode cX11_plain 71 = .ok (.iload_n 1, 1) := by decide +kernel
theorem dX11_plain_72 : decode cX11_plain 72 = .ok (.iconst 0, 1) := by decide +kernel
theorem dX11_plain_73 : decode cX11_plain 73 = .ok (.bastore, 1) := by decide +kernel
theorem dX11_plain_74 : decode cX11_plain 74 = .ok (.iinc 1 1, 3) := by decide +kernel
theorem dX11_plain_77 : decode cX11_plain 77 = .ok (.goto (-16), 3) := by decide +kernel
theorem dX11_plain_80 : decode cX11_plain 80 = .ok (.return_, 1) := by decide +kernel
theorem dX11_copies_0 : decode cX11_copies 0 = .ok (.iconst 0, 1) := by decide +kernel
theorem dX11_copies_1 : decode cX11_copies 1 = .ok (.istore_n 2, 1) := by decide +kernel
theorem dX11_copies_2 : decode cX11_copies 2 = .ok (.iload_n 2, 1) := by decide +kernel
theorem dX11_copies_3 : decode cX11_copies 3 = .ok (.iload_n 1, 1) := by decide +kernel
theorem dX11_copies_4 : decode cX11_copies 4 = .ok (.if_icmp .ge 17, 3) := by decide +kernel
theorem dX11_copies_7 : decode cX11_copies 7 = .ok (.aload_n 0, 1) := by decide +kernel
theorem dX11_copies_8 : decode cX11_copies 8 = .ok (.iload_n 2, 1) := by decide +kernel
theorem dX11_copies_9 : decode cX11_copies 9 = .ok (.aload_n 0, 1) := by decide +kernel
theorem dX11_copies_10 : decode cX11_copies 10 = .ok (.iload_n 1, 1) := by decide +kernel
theorem dX11_copies_11 : decode cX11_copies 11 = .ok (.iload_n 2, 1) := by decide +kernel
theorem dX11_copies_12 : decode cX11_copies 12 = .ok (.iadd, 1) := by decide +kernel
theorem dX11_copies_13 : decode cX11_copies 13 = .ok (.iaload, 1) := by decide +kernel
theorem dX11_copies_14 : decode cX11_copies 14 = .ok (.iastore, 1) := by decide +kernel
theorem dX11_copies_15 : decode cX11_copies 15 = .ok (.iinc 2 1, 3) := by decide +kernel
theorem dX11_copies_18 : decode cX11_copies 18 = .ok (.goto (-16), 3) := by decide +kernel
theorem dX11_copies_21 : decode cX11_copies 21 = .ok (.return_, 1) := by decide +kernel
theorem dX11_keepText_0 : decode cX11_keepText 0 = .ok (.aload_n 0, 1) := by decide +kernel
theorem dX11_keepText_1 : decode cX11_keepText 1 = .ok (.aload_n 0, 1) := by decide +kernel
theorem dX11_keepText_2 : decode cX11_keepText 2 = .ok (.getfield 213, 3) := by decide +kernel
theorem dX11_keepText_5 : decode cX11_keepText 5 = .ok (.putfield 231, 3) := by decide +kernel
theorem dX11_keepText_8 : decode cX11_keepText 8 = .ok (.aload_n 0, 1) := by decide +kernel
theorem dX11_keepText_9 : decode cX11_keepText 9 = .ok (.aload_n 0, 1) := by decide +kernel
theorem dX11_keepText_10 : decode cX11_keepText 10 = .ok (.getfield 216, 3) := by decide +kernel
theorem dX11_keepText_13 : decode cX11_keepText 13 = .ok (.putfield 234, 3) := by decide +kernel
theorem dX11_keepText_16 : decode cX11_keepText 16 = .ok (.aload_n 0, 1) := by decide +kernel
theorem dX11_keepText_17 : decode cX11_keepText 17 = .ok (.aload_n 0, 1) := by decide +kernel
theorem dX11_keepText_18 : decode cX11_keepText 18 = .ok (.getfield 219, 3) := by decide +kernel
theorem dX11_keepText_21 : decode cX11_keepText 21 = .ok (.putfield 237, 3) := by decide +kernel
theorem dX11_keepText_24 : decode cX11_keepText 24 = .ok (.aload_n 0, 1) := by decide +kernel
theorem dX11_keepText_25 : decode cX11_keepText 25 = .ok (.aload_n 0, 1) := by decide +kernel
theorem dX11_keepText_26 : decode cX11_keepText 26 = .ok (.getfield 222, 3) := by decide +kernel
theorem dX11_keepText_29 : decode cX11_keepText 29 = .ok (.putfield 240, 3) := by decide +kernel
theorem dX11_keepText_32 : decode cX11_keepText 32 = .ok (.aload_n 0, 1) := by decide +kernel
theorem dX11_keepText_33 : decode cX11_keepText 33 = .ok (.aload_n 0, 1) := by decide +kernel
theorem dX11_keepText_34 : decode cX11_keepText 34 = .ok (.getfield 225, 3) := by decide +kernel
theorem dX11_keepText_37 : decode cX11_keepText 37 = .ok (.putfield 243, 3) := by decide +kernel
theorem dX11_keepText_40 : decode cX11_keepText 40 = .ok (.aload_n 0, 1) := by decide +kernel
theorem dX11_keepText_41 : decode cX11_keepText 41 = .ok (.getfield 24, 3) := by decide +kernel
theorem dX11_keepText_44 : decode cX11_keepText 44 = .ok (.iconst 2, 1) := by decide +kernel
theorem dX11_keepText_45 : decode cX11_keepText 45 = .ok (.invokestatic 246, 3) := by decide +kernel
theorem dX11_keepText_48 : decode cX11_keepText 48 = .ok (.aload_n 0, 1) := by decide +kernel
theorem dX11_keepText_49 : decode cX11_keepText 49 = .ok (.getfield 27, 3) := by decide +kernel
theorem dX11_keepText_52 : decode cX11_keepText 52 = .ok (.bipush 6, 2) := by decide +kernel
theorem dX11_keepText_54 : decode cX11_keepText 54 = .ok (.invokestatic 246, 3) := by decide +kernel
theorem dX11_keepText_57 : decode cX11_keepText 57 = .ok (.aload_n 0, 1) := by decide +kernel
theorem dX11_keepText_58 : decode cX11_keepText 58 = .ok (.getfield 30, 3) := by decide +kernel
theorem dX11_keepText_61 : decode cX11_keepText 61 = .ok (.bipush 6, 2) := by decide +kernel
theorem dX11_keepText_63 : decode cX11_keepText 63 = .ok (.invokestatic 246, 3) := by decide +kernel
theorem dX11_keepText_66 : decode cX11_keepText 66 = .ok (.aload_n 0, 1) := by decide +kernel
theorem dX11_keepText_67 : decode cX11_keepText 67 = .ok (.getfield 33, 3) := by decide +kernel
theorem dX11_keepText_70 : decode cX11_keepText 70 = .ok (.bipush 6, 2) := by decide +kernel
theorem dX11_keepText_72 : decode cX11_keepText 72 = .ok (.invokestatic 246, 3) := by decide +kernel
theorem dX11_keepText_75 : decode cX11_keepText 75 = .ok (.aload_n 0, 1) := by decide +kernel
theorem dX11_keepText_76 : decode cX11_keepText 76 = .ok (.getfield 36, 3) := by decide +kernel
theorem dX11_keepText_79 : decode cX11_keepText 79 = .ok (.bipush 6, 2) := by decide +kernel
theorem dX11_keepText_81 : decode cX11_keepText 81 = .ok (.invokestatic 246, 3) := by decide +kernel
theorem dX11_keepText_84 : decode cX11_keepText 84 = .ok (.aload_n 0, 1) := by decide +kernel
theorem dX11_keepText_85 : decode cX11_keepText 85 = .ok (.getfield 39, 3) := by decide +kernel
theorem dX11_keepText_88 : decode cX11_keepText 88 = .ok (.bipush 6, 2) := by decide +kernel
theorem dX11_keepText_90 : decode cX11_keepText 90 = .ok (.invokestatic 246, 3) := by decide +kernel
theorem dX11_keepText_93 : decode cX11_keepText 93 = .ok (.aload_n 0, 1) := by decide +kernel
theorem dX11_keepText_94 : decode cX11_keepText 94 = .ok (.getfield 42, 3) := by decide +kernel
theorem dX11_keepText_97 : decode cX11_keepText 97 = .ok (.bipush 6, 2) := by decide +kernel
theorem dX11_keepText_99 : decode cX11_keepText 99 = .ok (.invokestatic 246, 3) := by decide +kernel
theorem dX11_keepText_102 : decode cX11_keepText 102 = .ok (.aload_n 0, 1) := by decide +kernel
theorem dX11_keepText_103 : decode cX11_keepText 103 = .ok (.getfield 45, 3) := by decide +kernel
theorem dX11_keepText_106 : decode cX11_keepText 106 = .ok (.bipush 6, 2) := by decide +kernel
theorem dX11_keepText_108 : decode cX11_keepText 108 = .ok (.invokestatic 246, 3) := by decide +kernel
theorem dX11_keepText_111 : decode cX11_keepText 111 = .ok (.aload_n 0, 1) := by decide +kernel
theorem dX11_keepText_112 : decode cX11_keepText 112 = .ok (.getfield 48, 3) := by decide +kernel
theorem dX11_keepText_115 : decode cX11_keepText 115 = .ok (.bipush 20, 2) := by decide +kernel
theorem dX11_keepText_117 : decode cX11_keepText 117 = .ok (.invokestatic 246, 3) := by decide +kernel
theorem dX11_keepText_120 : decode cX11_keepText 120 = .ok (.aload_n 0, 1) := by decide +kernel
theorem dX11_keepText_121 : decode cX11_keepText 121 = .ok (.getfield 51, 3) := by decide +kernel
theorem dX11_keepText_124 : decode cX11_keepText 124 = .ok (.bipush 20, 2) := by decide +kernel
theorem dX11_keepText_126 : decode cX11_keepText 126 = .ok (.invokestatic 246, 3) := by decide +kernel
theorem dX11_keepText_129 : decode cX11_keepText 129 = .ok (.aload_n 0, 1) := by decide +kernel
theorem dX11_keepText_130 : decode cX11_keepText 130 = .ok (.getfield 54, 3) := by decide +kernel
theorem dX11_keepText_133 : decode cX11_keepText 133 = .ok (.bipush 6, 2) := by decide +kernel
theorem dX11_keepText_135 : decode cX11_keepText 135 = .ok (.invokestatic 246, 3) := by decide +kernel
theorem dX11_keepText_138 : decode cX11_keepText 138 = .ok (.aload_n 0, 1) := by decide +kernel
theorem dX11_keepText_139 : decode cX11_keepText 139 = .ok (.getfield 57, 3) := by decide +kernel
theorem dX11_keepText_142 : decode cX11_keepText 142 = .ok (.bipush 6, 2) := by decide +kernel
theorem dX11_keepText_144 : decode cX11_keepText 144 = .ok (.invokestatic 246, 3) := by decide +kernel
theorem dX11_keepText_147 : decode cX11_keepText 147 = .ok (.iconst 0, 1) := by decide +kernel
theorem dX11_keepText_148 : decode cX11_keepText 148 = .ok (.istore_n 1, 1) := by decide +kernel
theorem dX11_keepText_149 : decode cX11_keepText 149 = .ok (.iload_n 1, 1) := by decide +kernel
theorem dX11_keepText_150 : decode cX11_keepText 150 = .ok (.iconst 3, 1) := by decide +kernel
theorem dX11_keepText_151 : decode cX11_keepText 151 = .ok (.if_icmp .ge 23, 3) := by decide +kernel
theorem dX11_keepText_154 : decode cX11_keepText 154 = .ok (.aload_n 0, 1) := by decide +kernel
theorem dX11_keepText_155 : decode cX11_keepText 155 = .ok (.getfield 60, 3) := by decide +kernel
theorem dX11_keepText_158 : decode cX11_keepText 158 = .ok (.iload_n 1, 1) := by decide +kernel
theorem dX11_keepText_159 : decode cX11_keepText 159 = .ok (.aload_n 0, 1) := by decide +kernel
theorem dX11_keepText_160 : decode cX11_keepText 160 = .ok (.getfield 60, 3) := by decide +kernel
theorem dX11_keepText_163 : decode cX11_keepText 163 = .ok (.iconst 3, 1) := by decide +kernel
theorem dX11_keepText_164 : decode cX11_keepText 164 = .ok (.iload_n 1, 1) := by decide +kernel
theorem dX11_keepText_165 : decode cX11_keepText 165 = .ok (.iadd, 1) := by decide +kernel
theorem dX11_keepText_166 : decode cX11_keepText 166 = .ok (.baload, 1) := by decide +kernel
theorem dX11_keepText_167 : decode cX11_keepText 167 = .ok (.bastore, 1) := by decide +kernel
theorem dX11_keepText_168 : decode cX11_keepText 168 = .ok (.iinc 1 1, 3) := by decide +kernel
theorem dX11_keepText_171 : decode cX11_keepText 171 = .ok (.goto (-22), 3) := by decide +kernel
theorem dX11_keepText_174 : decode cX11_keepText 174 = .ok (.aload_n 0, 1) := by decide +kernel
theorem dX11_keepText_175 : decode cX11_keepText 175 = .ok (.getfield 63, 3) := by decide +kernel
theorem dX11_keepText_178 : decode cX11_keepText 178 = .ok (.iconst 3, 1) := by decide +kernel
theorem dX11_keepText_179 : decode cX11_keepText 179 = .ok (.invokestatic 246, 3) := by decide +kernel
theorem dX11_keepText_182 : decode cX11_keepText 182 = .ok (.aload_n 0, 1) := by decide +kernel
theorem dX11_keepText_183 : decode cX11_keepText 183 = .ok (.getfield 66, 3) := by decide +kernel
theorem dX11_keepText_186 : decode cX11_keepText 186 = .ok (.iconst 3, 1) := by decide +kernel
theorem dX11_keepText_187 : decode cX11_keepText 187 = .ok (.invokestatic 246, 3) := by decide +kernel
theorem dX11_keepText_190 : decode cX11_keepText 190 = .ok (.aload_n 0, 1) := by decide +kernel
theorem dX11_keepText_191 : decode cX11_keepText 191 = .ok (.getfield 69, 3) := by decide +kernel
theorem dX11_keepText_194 : decode cX11_keepText 194 = .ok (.bipush 64, 2) := by decide +kernel
theorem dX11_keepText_196 : decode cX11_keepText 196 = .ok (.invokestatic 246, 3) := by decide +kernel
theorem dX11_keepText_199 : decode cX11_keepText 199 = .ok (.aload_n 0, 1) := by decide +kernel
theorem dX11_keepText_200 : decode cX11_keepText 200 = .ok (.getfield 72, 3) := by decide +kernel
theorem dX11_keepText_203 : decode cX11_keepText 203 = .ok (.bipush 64, 2) := by decide +kernel
theorem dX11_keepText_205 : decode cX11_keepText 205 = .ok (.invokestatic 246, 3) := by decide +kernel
theorem dX11_keepText_208 : decode cX11_keepText 208 = .ok (.aload_n 0, 1) := by decide +kernel
theorem dX11_keepText_209 : decode cX11_keepText 209 = .ok (.getfield 75, 3) := by decide +kernel
theorem dX11_keepText_212 : decode cX11_keepText 212 = .ok (.bipush 64, 2) := by decide +kernel
theorem dX11_keepText_214 : decode cX11_keepText 214 = .ok (.invokestatic 246, 3) := by decide +kernel
theorem dX11_keepText_217 : decode cX11_keepText 217 = .ok (.aload_n 0, 1) := by decide +kernel
theorem dX11_keepText_218 : decode cX11_keepText 218 = .ok (.invokevirtual 250, 3) := by decide +kernel
theorem dX11_keepText_221 : decode cX11_keepText 221 = .ok (.return_, 1) := by decide +kernel
theorem dX11_find_0 : decode cX11_find 0 = .ok (.iconst 0, 1) := by decide +kernel
theorem dX11_find_1 : decode cX11_find 1 = .ok (.istore 4, 2) := by decide +kernel
theorem dX11_find_3 : decode cX11_find 3 = .ok (.iload 4, 2) := by decide +kernel
theorem dX11_find_5 : decode cX11_find 5 = .ok (.iload_n 2, 1) := by decide +kernel
theorem dX11_find_6 : decode cX11_find 6 = .ok (.if_icmp .ge 22, 3) := by decide +kernel
theorem dX11_find_9 : decode cX11_find 9 = .ok (.aload_n 0, 1) := by decide +kernel
theorem dX11_find_10 : decode cX11_find 10 = .ok (.iload_n 1, 1) := by decide +kernel
theorem dX11_find_11 : decode cX11_find 11 = .ok (.iload 4, 2) := by decide +kernel
theorem dX11_find_13 : decode cX11_find 13 = .ok (.iadd, 1) := by decide +kernel
theorem dX11_find_14 : decode cX11_find 14 = .ok (.iaload, 1) := by decide +kernel
theorem dX11_find_15 : decode cX11_find 15 = .ok (.iload_n 3, 1) := by decide +kernel
theorem dX11_find_16 : decode cX11_find 16 = .ok (.if_icmp .ne 6, 3) := by decide +kernel
theorem dX11_find_19 : decode cX11_find 19 = .ok (.iload 4, 2) := by decide +kernel
theorem dX11_find_21 : decode cX11_find 21 = .ok (.ireturn, 1) := by decide +kernel
theorem dX11_find_22 : decode cX11_find 22 = .ok (.iinc 4 1, 3) := by decide +kernel
theorem dX11_find_25 : decode cX11_find 25 = .ok (.goto (-22), 3) := by decide +kernel
theorem dX11_find_28 : decode cX11_find 28 = .ok (.iconst (-1), 1) := by decide +kernel
theorem dX11_find_29 : decode cX11_find 29 = .ok (.ireturn, 1) := by decide +kernel
theorem dX11_newName_0 : decode cX11_newName 0 = .ok (.aload_n 0, 1) := by decide +kernel
theorem dX11_newName_1 : decode cX11_newName 1 = .ok (.getfield 169, 3) := by decide +kernel
theorem dX11_newName_4 : decode cX11_newName 4 = .ok (.iconst 2, 1) := by decide +kernel
theorem dX11_newName_5 : decode cX11_newName 5 = .ok (.if_icmp .eq 9, 3) := by decide +kernel
theorem dX11_newName_8 : decode cX11_newName 8 = .ok (.aload_n 0, 1) := by decide +kernel
theorem dX11_newName_9 : decode cX11_newName 9 = .ok (.iconst 1, 1) := by decide +kernel
theorem dX11_newName_10 : decode cX11_newName 10 = .ok (.invokevirtual 193, 3) := by decide +kernel
theorem dX11_newName_13 : decode cX11_newName 13 = .ok (.ireturn, 1) := by decide +kernel
theorem dX11_newName_14 : decode cX11_newName 14 = .ok (.aload_n 1, 1) := by decide +kernel
theorem dX11_newName_15 : decode cX11_newName 15 = .ok (.iload_n 2, 1) := by decide +kernel
theorem dX11_newName_16 : decode cX11_newName 16 = .ok (.iload_n 3, 1) := by decide +kernel
theorem dX11_newName_17 : decode cX11_newName 17 = .ok (.aload_n 0, 1) := by decide +kernel
theorem dX11_newName_18 : decode cX11_newName 18 = .ok (.getfield 180, 3) := by decide +kernel
theorem dX11_newName_21 : decode cX11_newName 21 = .ok (.invokestatic 253, 3) := by decide +kernel
theorem dX11_newName_24 : decode cX11_newName 24 = .ok (.ifCond .lt 9, 3) := by decide +kernel
theorem dX11_newName_27 : decode cX11_newName 27 = .ok (.aload_n 0, 1) := by decide +kernel
theorem dX11_newName_28 : decode cX11_newName 28 = .ok (.iconst 3, 1) := by decide +kernel
theorem dX11_newName_29 : decode cX11_newName 29 = .ok (.invokevirtual 193, 3) := by decide +kernel
theorem dX11_newName_32 : decode cX11_newName 32 = .ok (.ireturn, 1) := by decide +kernel
theorem dX11_newName_33 : decode cX11_newName 33 = .ok (.aload_n 1, 1) := by decide +kernel
theorem dX11_newName_34 : decode cX11_newName 34 = .ok (.iload_n 2, 1) := by decide +kernel
theorem dX11_newName_35 : decode cX11_newName 35 = .ok (.iload_n 3, 1) := by decide +kernel
theorem dX11_newName_36 : decode cX11_newName 36 = .ok (.iadd, 1) := by decide +kernel
theorem dX11_newName_37 : decode cX11_newName 37 = .ok (.aload_n 0, 1) := by decide +kernel
theorem dX11_newName_38 : decode cX11_newName 38 = .ok (.getfield 180, 3) := by decide +kernel
theorem dX11_newName_41 : decode cX11_newName 41 = .ok (.iastore, 1) := by decide +kernel
theorem dX11_newName_42 : decode cX11_newName 42 = .ok (.aload_n 0, 1) := by decide +kernel
theorem dX11_newName_43 : decode cX11_newName 43 = .ok (.invokevirtual 203, 3) := by decide +kernel
theorem dX11_newName_46 : decode cX11_newName 46 = .ok (.iconst 1, 1) := by decide +kernel
theorem dX11_newName_47 : decode cX11_newName 47 = .ok (.ireturn, 1) := by decide +kernel
theorem dX11_thereIn_0 : decode cX11_thereIn 0 = .ok (.aload_n 0, 1) := by decide +kernel
theorem dX11_thereIn_1 : decode cX11_thereIn 1 = .ok (.getfield 169, 3) := by decide +kernel
theorem dX11_thereIn_4 : decode cX11_thereIn 4 = .ok (.iconst 2, 1) := by decide +kernel
theorem dX11_thereIn_5 : decode cX11_thereIn 5 = .ok (.if_icmp .eq 9, 3) := by decide +kernel
theorem dX11_thereIn_8 : decode cX11_thereIn 8 = .ok (.aload_n 0, 1) := by decide +kernel
theorem dX11_thereIn_9 : decode cX11_thereIn 9 = .ok (.iconst 1, 1) := by decide +kernel
theorem dX11_thereIn_10 : decode cX11_thereIn 10 = .ok (.invokevirtual 193, 3) := by decide +kernel
theorem dX11_thereIn_13 : decode cX11_thereIn 13 = .ok (.ireturn, 1) := by decide +kernel
theorem dX11_thereIn_14 : decode cX11_thereIn 14 = .ok (.aload_n 1, 1) := by decide +kernel
theorem dX11_thereIn_15 : decode cX11_thereIn 15 = .ok (.iload_n 2, 1) := by decide +kernel
theorem dX11_thereIn_16 : decode cX11_thereIn 16 = .ok (.iload_n 3, 1) := by decide +kernel
theorem dX11_thereIn_17 : decode cX11_thereIn 17 = .ok (.aload_n 0, 1) := by decide +kernel
theorem dX11_thereIn_18 : decode cX11_thereIn 18 = .ok (.getfield 180, 3) := by decide +kernel
theorem dX11_thereIn_21 : decode cX11_thereIn 21 = .ok (.invokestatic 253, 3) := by decide +kernel
theorem dX11_thereIn_24 : decode cX11_thereIn 24 = .ok (.istore 4, 2) := by decide +kernel
theorem dX11_thereIn_26 : decode cX11_thereIn 26 = .ok (.iload 4, 2) := by decide +kernel
theorem dX11_thereIn_28 : decode cX11_thereIn 28 = .ok (.ifCond .ge 9, 3) := by decide +kernel
theorem dX11_thereIn_31 : decode cX11_thereIn 31 = .ok (.aload_n 0, 1) := by decide +kernel
theorem dX11_thereIn_32 : decode cX11_thereIn 32 = .ok (.iconst 4, 1) := by decide +kernel
theorem dX11_thereIn_33 : decode cX11_thereIn 33 = .ok (.invokevirtual 193, 3) := by decide +kernel
theorem dX11_thereIn_36 : decode cX11_thereIn 36 = .ok (.ireturn, 1) := by decide +kernel
theorem dX11_thereIn_37 : decode cX11_thereIn 37 = .ok (.aload_n 0, 1) := by decide +kernel
theorem dX11_thereIn_38 : decode cX11_thereIn 38 = .ok (.invokevirtual 203, 3) := by decide +kernel
theorem dX11_thereIn_41 : decode cX11_thereIn 41 = .ok (.aload_n 0, 1) := by decide +kernel
theorem dX11_thereIn_42 : decode cX11_thereIn 42 = .ok (.iload 4, 2) := by decide +kernel
theorem dX11_thereIn_44 : decode cX11_thereIn 44 = .ok (.putfield 200, 3) := by decide +kernel
theorem dX11_thereIn_47 : decode cX11_thereIn 47 = .ok (.iconst 1, 1) := by decide +kernel
theorem dX11_thereIn_48 : decode cX11_thereIn 48 = .ok (.ireturn, 1) := by decide +kernel
theorem dX11_kindLine_0 : decode cX11_kindLine 0 = .ok (.aload_n 0, 1) := by decide +kernel
theorem dX11_kindLine_1 : decode cX11_kindLine 1 = .ok (.getfield 213, 3) := by decide +kernel
theorem dX11_kindLine_4 : decode cX11_kindLine 4 = .ok (.bipush 6, 2) := by decide +kernel
theorem dX11_kindLine_6 : decode cX11_kindLine 6 = .ok (.if_icmp .ne 9, 3) := by decide +kernel
theorem dX11_kindLine_9 : decode cX11_kindLine 9 = .ok (.aload_n 0, 1) := by decide +kernel
theorem dX11_kindLine_10 : decode cX11_kindLine 10 = .ok (.iconst 2, 1) := by decide +kernel
theorem dX11_kindLine_11 : decode cX11_kindLine 11 = .ok (.invokevirtual 193, 3) := by decide +kernel
theorem dX11_kindLine_14 : decode cX11_kindLine 14 = .ok (.ireturn, 1) := by decide +kernel
theorem dX11_kindLine_15 : decode cX11_kindLine 15 = .ok (.aload_n 0, 1) := by decide +kernel
theorem dX11_kindLine_16 : decode cX11_kindLine 16 = .ok (.invokevirtual 203, 3) := by decide +kernel
theorem dX11_kindLine_19 : decode cX11_kindLine 19 = .ok (.aload_n 0, 1) := by decide +kernel
theorem dX11_kindLine_20 : decode cX11_kindLine 20 = .ok (.aload_n 0, 1) := by decide +kernel
theorem dX11_kindLine_21 : decode cX11_kindLine 21 = .ok (.getfield 27, 3) := by decide +kernel
theorem dX11_kindLine_24 : decode cX11_kindLine 24 = .ok (.bipush 6, 2) := by decide +kernel
theorem dX11_kindLine_26 : decode cX11_kindLine 26 = .ok (.aload_n 0, 1) := by decide +kernel
theorem dX11_kindLine_27 : decode cX11_kindLine 27 = .ok (.getfield 213, 3) := by decide +kernel
theorem dX11_kindLine_30 : decode cX11_kindLine 30 = .ok (.invokevirtual 257, 3) := by decide +kernel
theorem dX11_kindLine_33 : decode cX11_kindLine 33 = .ok (.ifCond .ne 5, 3) := by decide +kernel
theorem dX11_kindLine_36 : decode cX11_kindLine 36 = .ok (.iconst 0, 1) := by decide +kernel
theorem dX11_kindLine_37 : decode cX11_kindLine 37 = .ok (.ireturn, 1) := by decide +kernel
theorem dX11_kindLine_38 : decode cX11_kindLine 38 = .ok (.bipush 6, 2) := by decide +kernel
theorem dX11_kindLine_40 : decode cX11_kindLine 40 = .ok (.aload_n 0, 1) := by decide +kernel
theorem dX11_kindLine_41 : decode cX11_kindLine 41 = .ok (.getfield 213, 3) := by decide +kernel
theorem dX11_kindLine_44 : decode cX11_kindLine 44 = .ok (.iadd, 1) := by decide +kernel
theorem dX11_kindLine_45 : decode cX11_kindLine 45 = .ok (.istore_n 1, 1) := by decide +kernel
theorem dX11_kindLine_46 : decode cX11_kindLine 46 = .ok (.aload_n 0, 1) := by decide +kernel
theorem dX11_kindLine_47 : decode cX11_kindLine 47 = .ok (.iconst 0, 1) := by decide +kernel
theorem dX11_kindLine_48 : decode cX11_kindLine 48 = .ok (.bipush 99, 2) := by decide +kernel
theorem dX11_kindLine_50 : decode cX11_kindLine 50 = .ok (.invokevirtual 209, 3) := by decide +kernel
theorem dX11_kindLine_53 : decode cX11_kindLine 53 = .ok (.ifCond .ne 5, 3) := by decide +kernel
theorem dX11_kindLine_56 : decode cX11_kindLine 56 = .ok (.iconst 0, 1) := by decide +kernel
theorem dX11_kindLine_57 : decode cX11_kindLine 57 = .ok (.ireturn, 1) := by decide +kernel
theorem dX11_kindLine_58 : decode cX11_kindLine 58 = .ok (.aload_n 0, 1) := by decide +kernel
theorem dX11_kindLine_59 : decode cX11_kindLine 59 = .ok (.getfield 30, 3) := by decide +kernel
theorem dX11_kindLine_62 : decode cX11_kindLine 62 = .ok (.iload_n 1, 1) := by decide +kernel
theorem dX11_kindLine_63 : decode cX11_kindLine 63 = .ok (.aload_n 0, 1) := by decide +kernel
theorem dX11_kindLine_64 : decode cX11_kindLine 64 = .ok (.getfield 200, 3) := by decide +kernel
theorem dX11_kindLine_67 : decode cX11_kindLine 67 = .ok (.iastore, 1) := by decide +kernel
theorem dX11_kindLine_68 : decode cX11_kindLine 68 = .ok (.aload_n 0, 1) := by decide +kernel
theorem dX11_kindLine_69 : decode cX11_kindLine 69 = .ok (.iconst 0, 1) := by decide +kernel
theorem dX11_kindLine_70 : decode cX11_kindLine 70 = .ok (.bipush 99, 2) := by decide +kernel
theorem dX11_kindLine_72 : decode cX11_kindLine 72 = .ok (.invokevirtual 209, 3) := by decide +kernel
theorem dX11_kindLine_75 : decode cX11_kindLine 75 = .ok (.ifCond .ne 5, 3) := by decide +kernel
theorem dX11_kindLine_78 : decode cX11_kindLine 78 = .ok (.iconst 0, 1) := by decide +kernel
theorem dX11_kindLine_79 : decode cX11_kindLine 79 = .ok (.ireturn, 1) := by decide +kernel
theorem dX11_kindLine_80 : decode cX11_kindLine 80 = .ok (.aload_n 0, 1) := by decide +kernel
theorem dX11_kindLine_81 : decode cX11_kindLine 81 = .ok (.getfield 33, 3) := by decide +kernel
theorem dX11_kindLine_84 : decode cX11_kindLine 84 = .ok (.iload_n 1, 1) := by decide +kernel
theorem dX11_kindLine_85 : decode cX11_kindLine 85 = .ok (.aload_n 0, 1) := by decide +kernel
theorem dX11_kindLine_86 : decode cX11_kindLine 86 = .ok (.getfield 200, 3) := by decide +kernel
theorem dX11_kindLine_89 : decode cX11_kindLine 89 = .ok (.iastore, 1) := by decide +kernel
theorem dX11_kindLine_90 : decode cX11_kindLine 90 = .ok (.aload_n 0, 1) := by decide +kernel
theorem dX11_kindLine_91 : decode cX11_kindLine 91 = .ok (.dup, 1) := by decide +kernel
theorem dX11_kindLine_92 : decode cX11_kindLine 92 = .ok (.getfield 213, 3) := by decide +kernel
theorem dX11_kindLine_95 : decode cX11_kindLine 95 = .ok (.iconst 1, 1) := by decide +kernel
theorem dX11_kindLine_96 : decode cX11_kindLine 96 = .ok (.iadd, 1) := by decide +kernel
theorem dX11_kindLine_97 : decode cX11_kindLine 97 = .ok (.putfield 213, 3) := by decide +kernel
theorem dX11_kindLine_100 : decode cX11_kindLine 100 = .ok (.iconst 1, 1) := by decide +kernel
theorem dX11_kindLine_101 : decode cX11_kindLine 101 = .ok (.ireturn, 1) := by decide +kernel
theorem dX11_houseLine_0 : decode cX11_houseLine 0 = .ok (.aload_n 0, 1) := by decide +kernel
theorem dX11_houseLine_1 : decode cX11_houseLine 1 = .ok (.getfield 216, 3) := by decide +kernel
theorem dX11_houseLine_4 : decode cX11_houseLine 4 = .ok (.bipush 6, 2) := by decide +kernel
theorem dX11_houseLine_6 : decode cX11_houseLine 6 = .ok (.if_icmp .ne 9, 3) := by decide +kernel
theorem dX11_houseLine_9 : decode cX11_houseLine 9 = .ok (.aload_n 0, 1) := by decide +kernel
theorem dX11_houseLine_10 : decode cX11_houseLine 10 = .ok (.iconst 2, 1) := by decide +kernel
theorem dX11_houseLine_11 : decode cX11_houseLine 11 = .ok (.invokevirtual 193, 3) := by decide +kernel
theorem dX11_houseLine_14 : decode cX11_houseLine 14 = .ok (.ireturn, 1) := by decide +kernel
theorem dX11_houseLine_15 : decode cX11_houseLine 15 = .ok (.aload_n 0, 1) := by decide +kernel
theorem dX11_houseLine_16 : decode cX11_houseLine 16 = .ok (.invokevirtual 203, 3) := by decide +kernel
theorem dX11_houseLine_19 : decode cX11_houseLine 19 = .ok (.aload_n 0, 1) := by decide +kernel
theorem dX11_houseLine_20 : decode cX11_houseLine 20 = .ok (.aload_n 0, 1) := by decide +kernel
theorem dX11_houseLine_21 : decode cX11_houseLine 21 = .ok (.getfield 36, 3) := by decide +kernel
theorem dX11_houseLine_24 : decode cX11_houseLine 24 = .ok (.bipush 6, 2) := by decide +kernel
theorem dX11_houseLine_26 : decode cX11_houseLine 26 = .ok (.aload_n 0, 1) := by decide +kernel
theorem dX11_houseLine_27 : decode cX11_houseLine 27 = .ok (.getfield 216, 3) := by decide +kernel
theorem dX11_houseLine_30 : decode cX11_houseLine 30 = .ok (.invokevirtual 257, 3) := by decide +kernel
theorem dX11_houseLine_33 : decode cX11_houseLine 33 = .ok (.ifCond .ne 5, 3) := by decide +kernel
theorem dX11_houseLine_36 : decode cX11_houseLine 36 = .ok (.iconst 0, 1) := by decide +kernel
theorem dX11_houseLine_37 : decode cX11_houseLine 37 = .ok (.ireturn, 1) := by decide +kernel
theorem dX11_houseLine_38 : decode cX11_houseLine 38 = .ok (.bipush 6, 2) := by decide +kernel
theorem dX11_houseLine_40 : decode cX11_houseLine 40 = .ok (.aload_n 0, 1) := by decide +kernel
theorem dX11_houseLine_41 : decode cX11_houseLine 41 = .ok (.getfield 216, 3) := by decide +kernel
theorem dX11_houseLine_44 : decode cX11_houseLine 44 = .ok (.iadd, 1) := by decide +kernel
theorem dX11_houseLine_45 : decode cX11_houseLine 45 = .ok (.istore_n 1, 1) := by decide +kernel
theorem dX11_houseLine_46 : decode cX11_houseLine 46 = .ok (.aload_n 0, 1) := by decide +kernel
theorem dX11_houseLine_47 : decode cX11_houseLine 47 = .ok (.iconst 0, 1) := by decide +kernel
theorem dX11_houseLine_48 : decode cX11_houseLine 48 = .ok (.sipush 999, 3) := by decide +kernel
theorem dX11_houseLine_51 : decode cX11_houseLine 51 = .ok (.invokevirtual 209, 3) := by decide +kernel
theorem dX11_houseLine_54 : decode cX11_houseLine 54 = .ok (.ifCond .ne 5, 3) := by decide +kernel
theorem dX11_houseLine_57 : decode cX11_houseLine 57 = .ok (.iconst 0, 1) := by decide +kernel
theorem dX11_houseLine_58 : decode cX11_houseLine 58 = .ok (.ireturn, 1) := by decide +kernel
theorem dX11_houseLine_59 : decode cX11_houseLine 59 = .ok (.aload_n 0, 1) := by decide +kernel
theorem dX11_houseLine_60 : decode cX11_houseLine 60 = .ok (.getfield 39, 3) := by decide +kernel
theorem dX11_houseLine_63 : decode cX11_houseLine 63 = .ok (.iload_n 1, 1) := by decide +kernel
theorem dX11_houseLine_64 : decode cX11_houseLine 64 = .ok (.aload_n 0, 1) := by decide +kernel
theorem dX11_houseLine_65 : decode cX11_houseLine 65 = .ok (.getfield 200, 3) := by decide +kernel
theorem dX11_houseLine_68 : decode cX11_houseLine 68 = .ok (.iastore, 1) := by decide +kernel
theorem dX11_houseLine_69 : decode cX11_houseLine 69 = .ok (.aload_n 0, 1) := by decide +kernel
theorem dX11_houseLine_70 : decode cX11_houseLine 70 = .ok (.iconst 0, 1) := by decide +kernel
theorem dX11_houseLine_71 : decode cX11_houseLine 71 = .ok (.bipush 9, 2) := by decide +kernel
theorem dX11_houseLine_73 : decode cX11_houseLine 73 = .ok (.invokevirtual 209, 3) := by decide +kernel
theorem dX11_houseLine_76 : decode cX11_houseLine 76 = .ok (.ifCond .ne 5, 3) := by decide +kernel
theorem dX11_houseLine_79 : decode cX11_houseLine 79 = .ok (.iconst 0, 1) := by decide +kernel
theorem dX11_houseLine_80 : decode cX11_houseLine 80 = .ok (.ireturn, 1) := by decide +kernel
theorem dX11_houseLine_81 : decode cX11_houseLine 81 = .ok (.aload_n 0, 1) := by decide +kernel
theorem dX11_houseLine_82 : decode cX11_houseLine 82 = .ok (.getfield 42, 3) := by decide +kernel
theorem dX11_houseLine_85 : decode cX11_houseLine 85 = .ok (.iload_n 1, 1) := by decide +kernel
theorem dX11_houseLine_86 : decode cX11_houseLine 86 = .ok (.aload_n 0, 1) := by decide +kernel
theorem dX11_houseLine_87 : decode cX11_houseLine 87 = .ok (.getfield 200, 3) := by decide +kernel
theorem dX11_houseLine_90 : decode cX11_houseLine 90 = .ok (.iastore, 1) := by decide +kernel
theorem dX11_houseLine_91 : decode cX11_houseLine 91 = .ok (.aload_n 0, 1) := by decide +kernel
theorem dX11_houseLine_92 : decode cX11_houseLine 92 = .ok (.iconst 0, 1) := by decide +kernel
theorem dX11_houseLine_93 : decode cX11_houseLine 93 = .ok (.bipush 99, 2) := by decide +kernel
theorem dX11_houseLine_95 : decode cX11_houseLine 95 = .ok (.invokevirtual 209, 3) := by decide +kernel
theorem dX11_houseLine_98 : decode cX11_houseLine 98 = .ok (.ifCond .ne 5, 3) := by decide +kernel
theorem dX11_houseLine_101 : decode cX11_houseLine 101 = .ok (.iconst 0, 1) := by decide +kernel
theorem dX11_houseLine_102 : decode cX11_houseLine 102 = .ok (.ireturn, 1) := by decide +kernel
theorem dX11_houseLine_103 : decode cX11_houseLine 103 = .ok (.aload_n 0, 1) := by decide +kernel
theorem dX11_houseLine_104 : decode cX11_houseLine 104 = .ok (.getfield 45, 3) := by decide +kernel
theorem dX11_houseLine_107 : decode cX11_houseLine 107 = .ok (.iload_n 1, 1) := by decide +kernel
theorem dX11_houseLine_108 : decode cX11_houseLine 108 = .ok (.aload_n 0, 1) := by decide +kernel
theorem dX11_houseLine_109 : decode cX11_houseLine 109 = .ok (.getfield 200, 3) := by decide +kernel
theorem dX11_houseLine_112 : decode cX11_houseLine 112 = .ok (.iastore, 1) := by decide +kernel
theorem dX11_houseLine_113 : decode cX11_houseLine 113 = .ok (.aload_n 0, 1) := by decide +kernel
theorem dX11_houseLine_114 : decode cX11_houseLine 114 = .ok (.dup, 1) := by decide +kernel
theorem dX11_houseLine_115 : decode cX11_houseLine 115 = .ok (.getfield 216, 3) := by decide +kernel
theorem dX11_houseLine_118 : decode cX11_houseLine 118 = .ok (.iconst 1, 1) := by decide +kernel
theorem dX11_houseLine_119 : decode cX11_houseLine 119 = .ok (.iadd, 1) := by decide +kernel
theorem dX11_houseLine_120 : decode cX11_houseLine 120 = .ok (.putfield 216, 3) := by decide +kernel
theorem dX11_houseLine_123 : decode cX11_houseLine 123 = .ok (.iconst 1, 1) := by decide +kernel
theorem dX11_houseLine_124 : decode cX11_houseLine 124 = .ok (.ireturn, 1) := by decide +kernel
theorem dX11_dayLine_0 : decode cX11_dayLine 0 = .ok (.aload_n 0, 1) := by decide +kernel
theorem dX11_dayLine_1 : decode cX11_dayLine 1 = .ok (.getfield 219, 3) := by decide +kernel
theorem dX11_dayLine_4 : decode cX11_dayLine 4 = .ok (.bipush 20, 2) := by decide +kernel
theorem dX11_dayLine_6 : decode cX11_dayLine 6 = .ok (.if_icmp .ne 9, 3) := by decide +kernel
theorem dX11_dayLine_9 : decode cX11_dayLine 9 = .ok (.aload_n 0, 1) := by decide +kernel
theorem dX11_dayLine_10 : decode cX11_dayLine 10 = .ok (.iconst 2, 1) := by decide +kernel
theorem dX11_dayLine_11 : decode cX11_dayLine 11 = .ok (.invokevirtual 193, 3) := by decide +kernel
theorem dX11_dayLine_14 : decode cX11_dayLine 14 = .ok (.ireturn, 1) := by decide +kernel
theorem dX11_dayLine_15 : decode cX11_dayLine 15 = .ok (.aload_n 0, 1) := by decide +kernel
theorem dX11_dayLine_16 : decode cX11_dayLine 16 = .ok (.invokevirtual 203, 3) := by decide +kernel
theorem dX11_dayLine_19 : decode cX11_dayLine 19 = .ok (.aload_n 0, 1) := by decide +kernel
theorem dX11_dayLine_20 : decode cX11_dayLine 20 = .ok (.getfield 160, 3) := by decide +kernel
theorem dX11_dayLine_23 : decode cX11_dayLine 23 = .ok (.istore_n 1, 1) := by decide +kernel
theorem dX11_dayLine_24 : decode cX11_dayLine 24 = .ok (.aload_n 0, 1) := by decide +kernel
theorem dX11_dayLine_25 : decode cX11_dayLine 25 = .ok (.iconst 0, 1) := by decide +kernel
theorem dX11_dayLine_26 : decode cX11_dayLine 26 = .ok (.bipush 99, 2) := by decide +kernel
theorem dX11_dayLine_28 : decode cX11_dayLine 28 = .ok (.invokevirtual 209, 3) := by decide +kernel
theorem dX11_dayLine_31 : decode cX11_dayLine 31 = .ok (.ifCond .ne 5, 3) := by decide +kernel
theorem dX11_dayLine_34 : decode cX11_dayLine 34 = .ok (.iconst 0, 1) := by decide +kernel
theorem dX11_dayLine_35 : decode cX11_dayLine 35 = .ok (.ireturn, 1) := by decide +kernel
theorem dX11_dayLine_36 : decode cX11_dayLine 36 = .ok (.bipush 20, 2) := by decide +kernel
theorem dX11_dayLine_38 : decode cX11_dayLine 38 = .ok (.aload_n 0, 1) := by decide +kernel
theorem dX11_dayLine_39 : decode cX11_dayLine 39 = .ok (.getfield 219, 3) := by decide +kernel
theorem dX11_dayLine_42 : decode cX11_dayLine 42 = .ok (.iadd, 1) := by decide +kernel
theorem dX11_dayLine_43 : decode cX11_dayLine 43 = .ok (.istore_n 2, 1) := by decide +kernel
theorem dX11_dayLine_44 : decode cX11_dayLine 44 = .ok (.aload_n 0, 1) := by decide +kernel
theorem dX11_dayLine_45 : decode cX11_dayLine 45 = .ok (.getfield 48, 3) := by decide +kernel
theorem dX11_dayLine_48 : decode cX11_dayLine 48 = .ok (.iload_n 2, 1) := by decide +kernel
theorem dX11_dayLine_49 : decode cX11_dayLine 49 = .ok (.aload_n 0, 1) := by decide +kernel
theorem dX11_dayLine_50 : decode cX11_dayLine 50 = .ok (.getfield 200, 3) := by decide +kernel
theorem dX11_dayLine_53 : decode cX11_dayLine 53 = .ok (.iastore, 1) := by decide +kernel
theorem dX11_dayLine_54 : decode cX11_dayLine 54 = .ok (.aload_n 0, 1) := by decide +kernel
theorem dX11_dayLine_55 : decode cX11_dayLine 55 = .ok (.getfield 48, 3) := by decide +kernel
theorem dX11_dayLine_58 : decode cX11_dayLine 58 = .ok (.bipush 20, 2) := by decide +kernel
theorem dX11_dayLine_60 : decode cX11_dayLine 60 = .ok (.aload_n 0, 1) := by decide +kernel
theorem dX11_dayLine_61 : decode cX11_dayLine 61 = .ok (.getfield 219, 3) := by decide +kernel
theorem dX11_dayLine_64 : decode cX11_dayLine 64 = .ok (.aload_n 0, 1) := by decide +kernel
theorem dX11_dayLine_65 : decode cX11_dayLine 65 = .ok (.getfield 200, 3) := by decide +kernel
theorem dX11_dayLine_68 : decode cX11_dayLine 68 = .ok (.invokestatic 253, 3) := by decide +kernel
theorem dX11_dayLine_71 : decode cX11_dayLine 71 = .ok (.ifCond .lt 14, 3) := by decide +kernel
theorem dX11_dayLine_74 : decode cX11_dayLine 74 = .ok (.aload_n 0, 1) := by decide +kernel
theorem dX11_dayLine_75 : decode cX11_dayLine 75 = .ok (.iload_n 1, 1) := by decide +kernel
theorem dX11_dayLine_76 : decode cX11_dayLine 76 = .ok (.putfield 160, 3) := by decide +kernel
theorem dX11_dayLine_79 : decode cX11_dayLine 79 = .ok (.aload_n 0, 1) := by decide +kernel
theorem dX11_dayLine_80 : decode cX11_dayLine 80 = .ok (.iconst 3, 1) := by decide +kernel
theorem dX11_dayLine_81 : decode cX11_dayLine 81 = .ok (.invokevirtual 193, 3) := by decide +kernel
theorem dX11_dayLine_84 : decode cX11_dayLine 84 = .ok (.ireturn, 1) := by decide +kernel
theorem dX11_dayLine_85 : decode cX11_dayLine 85 = .ok (.aload_n 0, 1) := by decide +kernel
theorem dX11_dayLine_86 : decode cX11_dayLine 86 = .ok (.aload_n 0, 1) := by decide +kernel
theorem dX11_dayLine_87 : decode cX11_dayLine 87 = .ok (.getfield 27, 3) := by decide +kernel
theorem dX11_dayLine_90 : decode cX11_dayLine 90 = .ok (.bipush 6, 2) := by decide +kernel
theorem dX11_dayLine_92 : decode cX11_dayLine 92 = .ok (.aload_n 0, 1) := by decide +kernel
theorem dX11_dayLine_93 : decode cX11_dayLine 93 = .ok (.getfield 213, 3) := by decide +kernel
theorem dX11_dayLine_96 : decode cX11_dayLine 96 = .ok (.invokevirtual 261, 3) := by decide +kernel
theorem dX11_dayLine_99 : decode cX11_dayLine 99 = .ok (.ifCond .ne 5, 3) := by decide +kernel
theorem dX11_dayLine_102 : decode cX11_dayLine 102 = .ok (.iconst 0, 1) := by decide +kernel
theorem dX11_dayLine_103 : decode cX11_dayLine 103 = .ok (.ireturn, 1) := by decide +kernel
theorem dX11_dayLine_104 : decode cX11_dayLine 104 = .ok (.aload_n 0, 1) := by decide +kernel
theorem dX11_dayLine_105 : decode cX11_dayLine 105 = .ok (.getfield 51, 3) := by decide +kernel
theorem dX11_dayLine_108 : decode cX11_dayLine 108 = .ok (.iload_n 2, 1) := by decide +kernel
theorem dX11_dayLine_109 : decode cX11_dayLine 109 = .ok (.aload_n 0, 1) := by decide +kernel
theorem dX11_dayLine_110 : decode cX11_dayLine 110 = .ok (.getfield 200, 3) := by decide +kernel
theorem dX11_dayLine_113 : decode cX11_dayLine 113 = .ok (.iastore, 1) := by decide +kernel
theorem dX11_dayLine_114 : decode cX11_dayLine 114 = .ok (.aload_n 0, 1) := by decide +kernel
theorem dX11_dayLine_115 : decode cX11_dayLine 115 = .ok (.dup, 1) := by decide +kernel
theorem dX11_dayLine_116 : decode cX11_dayLine 116 = .ok (.getfield 219, 3) := by decide +kernel
theorem dX11_dayLine_119 : decode cX11_dayLine 119 = .ok (.iconst 1, 1) := by decide +kernel
theorem dX11_dayLine_120 : decode cX11_dayLine 120 = .ok (.iadd, 1) := by decide +kernel
theorem dX11_dayLine_121 : decode cX11_dayLine 121 = .ok (.putfield 219, 3) := by decide +kernel
theorem dX11_dayLine_124 : decode cX11_dayLine 124 = .ok (.iconst 1, 1) := by decide +kernel
theorem dX11_dayLine_125 : decode cX11_dayLine 125 = .ok (.ireturn, 1) := by decide +kernel
theorem dX11_workLine_0 : decode cX11_workLine 0 = .ok (.aload_n 0, 1) := by decide +kernel
theorem dX11_workLine_1 : decode cX11_workLine 1 = .ok (.getfield 222, 3) := by decide +kernel
theorem dX11_workLine_4 : decode cX11_workLine 4 = .ok (.bipush 6, 2) := by decide +kernel
theorem dX11_workLine_6 : decode cX11_workLine 6 = .ok (.if_icmp .ne 9, 3) := by decide +kernel
theorem dX11_workLine_9 : decode cX11_workLine 9 = .ok (.aload_n 0, 1) := by decide +kernel
theorem dX11_workLine_10 : decode cX11_workLine 10 = .ok (.iconst 2, 1) := by decide +kernel
theorem dX11_workLine_11 : decode cX11_workLine 11 = .ok (.invokevirtual 193, 3) := by decide +kernel
theorem dX11_workLine_14 : decode cX11_workLine 14 = .ok (.ireturn, 1) := by decide +kernel
theorem dX11_workLine_15 : decode cX11_workLine 15 = .ok (.aload_n 0, 1) := by decide +kernel
theorem dX11_workLine_16 : decode cX11_workLine 16 = .ok (.invokevirtual 203, 3) := by decide +kernel
theorem dX11_workLine_19 : decode cX11_workLine 19 = .ok (.bipush 6, 2) := by decide +kernel
theorem dX11_workLine_21 : decode cX11_workLine 21 = .ok (.aload_n 0, 1) := by decide +kernel
theorem dX11_workLine_22 : decode cX11_workLine 22 = .ok (.getfield 222, 3) := by decide +kernel
theorem dX11_workLine_25 : decode cX11_workLine 25 = .ok (.iadd, 1) := by decide +kernel
theorem dX11_workLine_26 : decode cX11_workLine 26 = .ok (.istore_n 1, 1) := by decide +kernel
theorem dX11_workLine_27 : decode cX11_workLine 27 = .ok (.aload_n 0, 1) := by decide +kernel
theorem dX11_workLine_28 : decode cX11_workLine 28 = .ok (.aload_n 0, 1) := by decide +kernel
theorem dX11_workLine_29 : decode cX11_workLine 29 = .ok (.getfield 36, 3) := by decide +kernel
theorem dX11_workLine_32 : decode cX11_workLine 32 = .ok (.bipush 6, 2) := by decide +kernel
theorem dX11_workLine_34 : decode cX11_workLine 34 = .ok (.aload_n 0, 1) := by decide +kernel
theorem dX11_workLine_35 : decode cX11_workLine 35 = .ok (.getfield 216, 3) := by decide +kernel
theorem dX11_workLine_38 : decode cX11_workLine 38 = .ok (.invokevirtual 261, 3) := by decide +kernel
theorem dX11_workLine_41 : decode cX11_workLine 41 = .ok (.ifCond .ne 5, 3) := by decide +kernel
theorem dX11_workLine_44 : decode cX11_workLine 44 = .ok (.iconst 0, 1) := by decide +kernel
theorem dX11_workLine_45 : decode cX11_workLine 45 = .ok (.ireturn, 1) := by decide +kernel
theorem dX11_workLine_46 : decode cX11_workLine 46 = .ok (.aload_n 0, 1) := by decide +kernel
theorem dX11_workLine_47 : decode cX11_workLine 47 = .ok (.getfield 54, 3) := by decide +kernel
theorem dX11_workLine_50 : decode cX11_workLine 50 = .ok (.iload_n 1, 1) := by decide +kernel
theorem dX11_workLine_51 : decode cX11_workLine 51 = .ok (.aload_n 0, 1) := by decide +kernel
theorem dX11_workLine_52 : decode cX11_workLine 52 = .ok (.getfield 200, 3) := by decide +kernel
theorem dX11_workLine_55 : decode cX11_workLine 55 = .ok (.iastore, 1) := by decide +kernel
theorem dX11_workLine_56 : decode cX11_workLine 56 = .ok (.aload_n 0, 1) := by decide +kernel
theorem dX11_workLine_57 : decode cX11_workLine 57 = .ok (.aload_n 0, 1) := by decide +kernel
theorem dX11_workLine_58 : decode cX11_workLine 58 = .ok (.getfield 27, 3) := by decide +kernel
theorem dX11_workLine_61 : decode cX11_workLine 61 = .ok (.bipush 6, 2) := by decide +kernel
theorem dX11_workLine_63 : decode cX11_workLine 63 = .ok (.aload_n 0, 1) := by decide +kernel
theorem dX11_workLine_64 : decode cX11_workLine 64 = .ok (.getfield 213, 3) := by decide +kernel
theorem dX11_workLine_67 : decode cX11_workLine 67 = .ok (.invokevirtual 261, 3) := by decide +kernel
theorem dX11_workLine_70 : decode cX11_workLine 70 = .ok (.ifCond .ne 5, 3) := by decide +kernel
theorem dX11_workLine_73 : decode cX11_workLine 73 = .ok (.iconst 0, 1) := by decide +kernel
theorem dX11_workLine_74 : decode cX11_workLine 74 = .ok (.ireturn, 1) := by decide +kernel
theorem dX11_workLine_75 : decode cX11_workLine 75 = .ok (.aload_n 0, 1) := by decide +kernel
theorem dX11_workLine_76 : decode cX11_workLine 76 = .ok (.getfield 57, 3) := by decide +kernel
theorem dX11_workLine_79 : decode cX11_workLine 79 = .ok (.iload_n 1, 1) := by decide +kernel
theorem dX11_workLine_80 : decode cX11_workLine 80 = .ok (.aload_n 0, 1) := by decide +kernel
theorem dX11_workLine_81 : decode cX11_workLine 81 = .ok (.getfield 200, 3) := by decide +kernel
theorem dX11_workLine_84 : decode cX11_workLine 84 = .ok (.iastore, 1) := by decide +kernel
theorem dX11_workLine_85 : decode cX11_workLine 85 = .ok (.aload_n 0, 1) := by decide +kernel
theorem dX11_workLine_86 : decode cX11_workLine 86 = .ok (.dup, 1) := by decide +kernel
theorem dX11_workLine_87 : decode cX11_workLine 87 = .ok (.getfield 222, 3) := by decide +kernel
theorem dX11_workLine_90 : decode cX11_workLine 90 = .ok (.iconst 1, 1) := by decide +kernel
theorem dX11_workLine_91 : decode cX11_workLine 91 = .ok (.iadd, 1) := by decide +kernel
theorem dX11_workLine_92 : decode cX11_workLine 92 = .ok (.putfield 222, 3) := by decide +kernel
theorem dX11_workLine_95 : decode cX11_workLine 95 = .ok (.iconst 1, 1) := by decide +kernel
theorem dX11_workLine_96 : decode cX11_workLine 96 = .ok (.ireturn, 1) := by decide +kernel
theorem dX11_onceLine_0 : decode cX11_onceLine 0 = .ok (.aload_n 0, 1) := by decide +kernel
theorem dX11_onceLine_1 : decode cX11_onceLine 1 = .ok (.getfield 20, 3) := by decide +kernel
theorem dX11_onceLine_4 : decode cX11_onceLine 4 = .ok (.iload_n 1, 1) := by decide +kernel
theorem dX11_onceLine_5 : decode cX11_onceLine 5 = .ok (.baload, 1) := by decide +kernel
theorem dX11_onceLine_6 : decode cX11_onceLine 6 = .ok (.ifCond .eq 9, 3) := by decide +kernel
theorem dX11_onceLine_9 : decode cX11_onceLine 9 = .ok (.aload_n 0, 1) := by decide +kernel
theorem dX11_onceLine_10 : decode cX11_onceLine 10 = .ok (.iconst 3, 1) := by decide +kernel
theorem dX11_onceLine_11 : decode cX11_onceLine 11 = .ok (.invokevirtual 193, 3) := by decide +kernel
theorem dX11_onceLine_14 : decode cX11_onceLine 14 = .ok (.ireturn, 1) := by decide +kernel
theorem dX11_onceLine_15 : decode cX11_onceLine 15 = .ok (.aload_n 0, 1) := by decide +kernel
theorem dX11_onceLine_16 : decode cX11_onceLine 16 = .ok (.getfield 20, 3) := by decide +kernel
theorem dX11_onceLine_19 : decode cX11_onceLine 19 = .ok (.iload_n 1, 1) := by decide +kernel
theorem dX11_onceLine_20 : decode cX11_onceLine 20 = .ok (.iconst 1, 1) := by decide +kernel
theorem dX11_onceLine_21 : decode cX11_onceLine 21 = .ok (.bastore, 1) := by decide +kernel
theorem dX11_onceLine_22 : decode cX11_onceLine 22 = .ok (.aload_n 0, 1) := by decide +kernel
theorem dX11_onceLine_23 : decode cX11_onceLine 23 = .ok (.invokevirtual 203, 3) := by decide +kernel
theorem dX11_onceLine_26 : decode cX11_onceLine 26 = .ok (.aload_n 0, 1) := by decide +kernel
theorem dX11_onceLine_27 : decode cX11_onceLine 27 = .ok (.iload_n 2, 1) := by decide +kernel
theorem dX11_onceLine_28 : decode cX11_onceLine 28 = .ok (.iload_n 3, 1) := by decide +kernel
theorem dX11_onceLine_29 : decode cX11_onceLine 29 = .ok (.invokevirtual 209, 3) := by decide +kernel
theorem dX11_onceLine_32 : decode cX11_onceLine 32 = .ok (.ifCond .ne 5, 3) := by decide +kernel
theorem dX11_onceLine_35 : decode cX11_onceLine 35 = .ok (.iconst 0, 1) := by decide +kernel
theorem dX11_onceLine_36 : decode cX11_onceLine 36 = .ok (.ireturn, 1) := by decide +kernel
theorem dX11_onceLine_37 : decode cX11_onceLine 37 = .ok (.aload_n 0, 1) := by decide +kernel
theorem dX11_onceLine_38 : decode cX11_onceLine 38 = .ok (.getfield 24, 3) := by decide +kernel
theorem dX11_onceLine_41 : decode cX11_onceLine 41 = .ok (.iconst 2, 1) := by decide +kernel
theorem dX11_onceLine_42 : decode cX11_onceLine 42 = .ok (.iload_n 1, 1) := by decide +kernel
theorem dX11_onceLine_43 : decode cX11_onceLine 43 = .ok (.iadd, 1) := by decide +kernel
theorem dX11_onceLine_44 : decode cX11_onceLine 44 = .ok (.aload_n 0, 1) := by decide +kernel
theorem dX11_onceLine_45 : decode cX11_onceLine 45 = .ok (.getfield 200, 3) := by decide +kernel
theorem dX11_onceLine_48 : decode cX11_onceLine 48 = .ok (.iastore, 1) := by decide +kernel
theorem dX11_onceLine_49 : decode cX11_onceLine 49 = .ok (.iconst 1, 1) := by decide +kernel
theorem dX11_onceLine_50 : decode cX11_onceLine 50 = .ok (.ireturn, 1) := by decide +kernel
theorem dX11_lineRead_0 : decode cX11_lineRead 0 = .ok (.aload_n 0, 1) := by decide +kernel
theorem dX11_lineRead_1 : decode cX11_lineRead 1 = .ok (.getfield 169, 3) := by decide +kernel
theorem dX11_lineRead_4 : decode cX11_lineRead 4 = .ok (.iconst 1, 1) := by decide +kernel
theorem dX11_lineRead_5 : decode cX11_lineRead 5 = .ok (.if_icmp .ne 12, 3) := by decide +kernel
theorem dX11_lineRead_8 : decode cX11_lineRead 8 = .ok (.aload_n 0, 1) := by decide +kernel
theorem dX11_lineRead_9 : decode cX11_lineRead 9 = .ok (.getfield 180, 3) := by decide +kernel
theorem dX11_lineRead_12 : decode cX11_lineRead 12 = .ok (.bipush 6, 2) := by decide +kernel
theorem dX11_lineRead_14 : decode cX11_lineRead 14 = .ok (.if_icmp .le 9, 3) := by decide +kernel
theorem dX11_lineRead_17 : decode cX11_lineRead 17 = .ok (.aload_n 0, 1) := by decide +kernel
theorem dX11_lineRead_18 : decode cX11_lineRead 18 = .ok (.iconst 1, 1) := by decide +kernel
theorem dX11_lineRead_19 : decode cX11_lineRead 19 = .ok (.invokevirtual 193, 3) := by decide +kernel
theorem dX11_lineRead_22 : decode cX11_lineRead 22 = .ok (.ireturn, 1) := by decide +kernel
theorem dX11_lineRead_23 : decode cX11_lineRead 23 = .ok (.aload_n 0, 1) := by decide +kernel
theorem dX11_lineRead_24 : decode cX11_lineRead 24 = .ok (.getfield 180, 3) := by decide +kernel
theorem dX11_lineRead_27 : decode cX11_lineRead 27 = .ok (.tableswitch 93 0 5 #[37, 45, 53, 61, 69, 81], 37) := by decide +kernel
theorem dX11_lineRead_64 : decode cX11_lineRead 64 = .ok (.aload_n 0, 1) := by decide +kernel
theorem dX11_lineRead_65 : decode cX11_lineRead 65 = .ok (.invokevirtual 264, 3) := by decide +kernel
theorem dX11_lineRead_68 : decode cX11_lineRead 68 = .ok (.istore_n 1, 1) := by decide +kernel
theorem dX11_lineRead_69 : decode cX11_lineRead 69 = .ok (.goto 148, 3) := by decide +kernel
theorem dX11_lineRead_72 : decode cX11_lineRead 72 = .ok (.aload_n 0, 1) := by decide +kernel
theorem dX11_lineRead_73 : decode cX11_lineRead 73 = .ok (.invokevirtual 268, 3) := by decide +kernel
theorem dX11_lineRead_76 : decode cX11_lineRead 76 = .ok (.istore_n 1, 1) := by decide +kernel
theorem dX11_lineRead_77 : decode cX11_lineRead 77 = .ok (.goto 140, 3) := by decide +kernel
theorem dX11_lineRead_80 : decode cX11_lineRead 80 = .ok (.aload_n 0, 1) := by decide +kernel
theorem dX11_lineRead_81 : decode cX11_lineRead 81 = .ok (.invokevirtual 271, 3) := by decide +kernel
theorem dX11_lineRead_84 : decode cX11_lineRead 84 = .ok (.istore_n 1, 1) := by decide +kernel
theorem dX11_lineRead_85 : decode cX11_lineRead 85 = .ok (.goto 132, 3) := by decide +kernel
theorem dX11_lineRead_88 : decode cX11_lineRead 88 = .ok (.aload_n 0, 1) := by decide +kernel
theorem dX11_lineRead_89 : decode cX11_lineRead 89 = .ok (.invokevirtual 274, 3) := by decide +kernel
theorem dX11_lineRead_92 : decode cX11_lineRead 92 = .ok (.istore_n 1, 1) := by decide +kernel
theorem dX11_lineRead_93 : decode cX11_lineRead 93 = .ok (.goto 124, 3) := by decide +kernel
theorem dX11_lineRead_96 : decode cX11_lineRead 96 = .ok (.aload_n 0, 1) := by decide +kernel
theorem dX11_lineRead_97 : decode cX11_lineRead 97 = .ok (.iconst 0, 1) := by decide +kernel
theorem dX11_lineRead_98 : decode cX11_lineRead 98 = .ok (.iconst 1, 1) := by decide +kernel
theorem dX11_lineRead_99 : decode cX11_lineRead 99 = .ok (.bipush 99, 2) := by decide +kernel
theorem dX11_lineRead_101 : decode cX11_lineRead 101 = .ok (.invokevirtual 277, 3) := by decide +kernel
theorem dX11_lineRead_104 : decode cX11_lineRead 104 = .ok (.istore_n 1, 1) := by decide +kernel
theorem dX11_lineRead_105 : decode cX11_lineRead 105 = .ok (.goto 112, 3) := by decide +kernel
theorem dX11_lineRead_108 : decode cX11_lineRead 108 = .ok (.aload_n 0, 1) := by decide +kernel
theorem dX11_lineRead_109 : decode cX11_lineRead 109 = .ok (.iconst 1, 1) := by decide +kernel
theorem dX11_lineRead_110 : decode cX11_lineRead 110 = .ok (.iconst 0, 1) := by decide +kernel
theorem dX11_lineRead_111 : decode cX11_lineRead 111 = .ok (.ldc 189, 2) := by decide +kernel
theorem dX11_lineRead_113 : decode cX11_lineRead 113 = .ok (.invokevirtual 277, 3) := by decide +kernel
theorem dX11_lineRead_116 : decode cX11_lineRead 116 = .ok (.istore_n 1, 1) := by decide +kernel
theorem dX11_lineRead_117 : decode cX11_lineRead 117 = .ok (.goto 100, 3) := by decide +kernel
theorem dX11_lineRead_120 : decode cX11_lineRead 120 = .ok (.aload_n 0, 1) := by decide +kernel
theorem dX11_lineRead_121 : decode cX11_lineRead 121 = .ok (.invokevirtual 203, 3) := by decide +kernel
theorem dX11_lineRead_124 : decode cX11_lineRead 124 = .ok (.aload_n 0, 1) := by decide +kernel
theorem dX11_lineRead_125 : decode cX11_lineRead 125 = .ok (.getfield 169, 3) := by decide +kernel
theorem dX11_lineRead_128 : decode cX11_lineRead 128 = .ok (.iconst 1, 1) := by decide +kernel
theorem dX11_lineRead_129 : decode cX11_lineRead 129 = .ok (.if_icmp .ne 21, 3) := by decide +kernel
theorem dX11_lineRead_132 : decode cX11_lineRead 132 = .ok (.aload_n 0, 1) := by decide +kernel
theorem dX11_lineRead_133 : decode cX11_lineRead 133 = .ok (.getfield 180, 3) := by decide +kernel
theorem dX11_lineRead_136 : decode cX11_lineRead 136 = .ok (.bipush 7, 2) := by decide +kernel
theorem dX11_lineRead_138 : decode cX11_lineRead 138 = .ok (.if_icmp .lt 12, 3) := by decide +kernel
theorem dX11_lineRead_141 : decode cX11_lineRead 141 = .ok (.aload_n 0, 1) := by decide +kernel
theorem dX11_lineRead_142 : decode cX11_lineRead 142 = .ok (.getfield 180, 3) := by decide +kernel
theorem dX11_lineRead_145 : decode cX11_lineRead 145 = .ok (.bipush 9, 2) := by decide +kernel
theorem dX11_lineRead_147 : decode cX11_lineRead 147 = .ok (.if_icmp .le 9, 3) := by decide +kernel
theorem dX11_lineRead_150 : decode cX11_lineRead 150 = .ok (.aload_n 0, 1) := by decide +kernel
theorem dX11_lineRead_151 : decode cX11_lineRead 151 = .ok (.iconst 1, 1) := by decide +kernel
theorem dX11_lineRead_152 : decode cX11_lineRead 152 = .ok (.invokevirtual 193, 3) := by decide +kernel
theorem dX11_lineRead_155 : decode cX11_lineRead 155 = .ok (.ireturn, 1) := by decide +kernel
theorem dX11_lineRead_156 : decode cX11_lineRead 156 = .ok (.iconst 3, 1) := by decide +kernel
theorem dX11_lineRead_157 : decode cX11_lineRead 157 = .ok (.aload_n 0, 1) := by decide +kernel
theorem dX11_lineRead_158 : decode cX11_lineRead 158 = .ok (.getfield 180, 3) := by decide +kernel
theorem dX11_lineRead_161 : decode cX11_lineRead 161 = .ok (.iadd, 1) := by decide +kernel
theorem dX11_lineRead_162 : decode cX11_lineRead 162 = .ok (.bipush 7, 2) := by decide +kernel
theorem dX11_lineRead_164 : decode cX11_lineRead 164 = .ok (.isub, 1) := by decide +kernel
theorem dX11_lineRead_165 : decode cX11_lineRead 165 = .ok (.istore_n 2, 1) := by decide +kernel
theorem dX11_lineRead_166 : decode cX11_lineRead 166 = .ok (.aload_n 0, 1) := by decide +kernel
theorem dX11_lineRead_167 : decode cX11_lineRead 167 = .ok (.getfield 60, 3) := by decide +kernel
theorem dX11_lineRead_170 : decode cX11_lineRead 170 = .ok (.iload_n 2, 1) := by decide +kernel
theorem dX11_lineRead_171 : decode cX11_lineRead 171 = .ok (.baload, 1) := by decide +kernel
theorem dX11_lineRead_172 : decode cX11_lineRead 172 = .ok (.ifCond .eq 9, 3) := by decide +kernel
theorem dX11_lineRead_175 : decode cX11_lineRead 175 = .ok (.aload_n 0, 1) := by decide +kernel
theorem dX11_lineRead_176 : decode cX11_lineRead 176 = .ok (.iconst 3, 1) := by decide +kernel
theorem dX11_lineRead_177 : decode cX11_lineRead 177 = .ok (.invokevirtual 193, 3) := by decide +kernel
theorem dX11_lineRead_180 : decode cX11_lineRead 180 = .ok (.ireturn, 1) := by decide +kernel
theorem dX11_lineRead_181 : decode cX11_lineRead 181 = .ok (.aload_n 0, 1) := by decide +kernel
theorem dX11_lineRead_182 : decode cX11_lineRead 182 = .ok (.getfield 60, 3) := by decide +kernel
theorem dX11_lineRead_185 : decode cX11_lineRead 185 = .ok (.iload_n 2, 1) := by decide +kernel
theorem dX11_lineRead_186 : decode cX11_lineRead 186 = .ok (.iconst 1, 1) := by decide +kernel
theorem dX11_lineRead_187 : decode cX11_lineRead 187 = .ok (.bastore, 1) := by decide +kernel
theorem dX11_lineRead_188 : decode cX11_lineRead 188 = .ok (.aload_n 0, 1) := by decide +kernel
theorem dX11_lineRead_189 : decode cX11_lineRead 189 = .ok (.invokevirtual 203, 3) := by decide +kernel
theorem dX11_lineRead_192 : decode cX11_lineRead 192 = .ok (.aload_n 0, 1) := by decide +kernel
theorem dX11_lineRead_193 : decode cX11_lineRead 193 = .ok (.getfield 63, 3) := by decide +kernel
theorem dX11_lineRead_196 : decode cX11_lineRead 196 = .ok (.iload_n 2, 1) := by decide +kernel
theorem dX11_lineRead_197 : decode cX11_lineRead 197 = .ok (.aload_n 0, 1) := by decide +kernel
theorem dX11_lineRead_198 : decode cX11_lineRead 198 = .ok (.getfield 225, 3) := by decide +kernel
theorem dX11_lineRead_201 : decode cX11_lineRead 201 = .ok (.iastore, 1) := by decide +kernel
theorem dX11_lineRead_202 : decode cX11_lineRead 202 = .ok (.aload_n 0, 1) := by decide +kernel
theorem dX11_lineRead_203 : decode cX11_lineRead 203 = .ok (.invokevirtual 280, 3) := by decide +kernel
theorem dX11_lineRead_206 : decode cX11_lineRead 206 = .ok (.istore_n 1, 1) := by decide +kernel
theorem dX11_lineRead_207 : decode cX11_lineRead 207 = .ok (.aload_n 0, 1) := by decide +kernel
theorem dX11_lineRead_208 : decode cX11_lineRead 208 = .ok (.getfield 66, 3) := by decide +kernel
theorem dX11_lineRead_211 : decode cX11_lineRead 211 = .ok (.iload_n 2, 1) := by decide +kernel
theorem dX11_lineRead_212 : decode cX11_lineRead 212 = .ok (.aload_n 0, 1) := by decide +kernel
theorem dX11_lineRead_213 : decode cX11_lineRead 213 = .ok (.getfield 225, 3) := by decide +kernel
theorem dX11_lineRead_216 : decode cX11_lineRead 216 = .ok (.iastore, 1) := by decide +kernel
theorem dX11_lineRead_217 : decode cX11_lineRead 217 = .ok (.iload_n 1, 1) := by decide +kernel
theorem dX11_lineRead_218 : decode cX11_lineRead 218 = .ok (.ifCond .ne 5, 3) := by decide +kernel
theorem dX11_lineRead_221 : decode cX11_lineRead 221 = .ok (.iconst 0, 1) := by decide +kernel
theorem dX11_lineRead_222 : decode cX11_lineRead 222 = .ok (.ireturn, 1) := by decide +kernel
theorem dX11_lineRead_223 : decode cX11_lineRead 223 = .ok (.aload_n 0, 1) := by decide +kernel
theorem dX11_lineRead_224 : decode cX11_lineRead 224 = .ok (.bipush 59, 2) := by decide +kernel
theorem dX11_lineRead_226 : decode cX11_lineRead 226 = .ok (.invokevirtual 206, 3) := by decide +kernel
theorem dX11_lineRead_229 : decode cX11_lineRead 229 = .ok (.ifCond .ne 9, 3) := by decide +kernel
theorem dX11_lineRead_232 : decode cX11_lineRead 232 = .ok (.aload_n 0, 1) := by decide +kernel
theorem dX11_lineRead_233 : decode cX11_lineRead 233 = .ok (.iconst 1, 1) := by decide +kernel
theorem dX11_lineRead_234 : decode cX11_lineRead 234 = .ok (.invokevirtual 193, 3) := by decide +kernel
theorem dX11_lineRead_237 : decode cX11_lineRead 237 = .ok (.ireturn, 1) := by decide +kernel
theorem dX11_lineRead_238 : decode cX11_lineRead 238 = .ok (.aload_n 0, 1) := by decide +kernel
theorem dX11_lineRead_239 : decode cX11_lineRead 239 = .ok (.invokevirtual 203, 3) := by decide +kernel
theorem dX11_lineRead_242 : decode cX11_lineRead 242 = .ok (.iconst 1, 1) := by decide +kernel
theorem dX11_lineRead_243 : decode cX11_lineRead 243 = .ok (.ireturn, 1) := by decide +kernel
theorem dX11_text_0 : decode cX11_text 0 = .ok (.aload_n 0, 1) := by decide +kernel
theorem dX11_text_1 : decode cX11_text 1 = .ok (.iconst 0, 1) := by decide +kernel
theorem dX11_text_2 : decode cX11_text 2 = .ok (.putfield 151, 3) := by decide +kernel
theorem dX11_text_5 : decode cX11_text 5 = .ok (.iload_n 1, 1) := by decide +kernel
theorem dX11_text_6 : decode cX11_text 6 = .ok (.ifCond .lt 11, 3) := by decide +kernel
theorem dX11_text_9 : decode cX11_text 9 = .ok (.iload_n 1, 1) := by decide +kernel
theorem dX11_text_10 : decode cX11_text 10 = .ok (.aload_n 0, 1) := by decide +kernel
theorem dX11_text_11 : decode cX11_text 11 = .ok (.getfield 154, 3) := by decide +kernel
theorem dX11_text_14 : decode cX11_text 14 = .ok (.if_icmp .le 6, 3) := by decide +kernel
theorem dX11_text_17 : decode cX11_text 17 = .ok (.bipush (-2), 2) := by decide +kernel
theorem dX11_text_19 : decode cX11_text 19 = .ok (.ireturn, 1) := by decide +kernel
theorem dX11_text_20 : decode cX11_text 20 = .ok (.aload_n 0, 1) := by decide +kernel
theorem dX11_text_21 : decode cX11_text 21 = .ok (.iload_n 1, 1) := by decide +kernel
theorem dX11_text_22 : decode cX11_text 22 = .ok (.putfield 163, 3) := by decide +kernel
theorem dX11_text_25 : decode cX11_text 25 = .ok (.aload_n 0, 1) := by decide +kernel
theorem dX11_text_26 : decode cX11_text 26 = .ok (.iconst 0, 1) := by decide +kernel
theorem dX11_text_27 : decode cX11_text 27 = .ok (.putfield 154, 3) := by decide +kernel
theorem dX11_text_30 : decode cX11_text 30 = .ok (.aload_n 0, 1) := by decide +kernel
theorem dX11_text_31 : decode cX11_text 31 = .ok (.iconst 0, 1) := by decide +kernel
theorem dX11_text_32 : decode cX11_text 32 = .ok (.putfield 157, 3) := by decide +kernel
theorem dX11_text_35 : decode cX11_text 35 = .ok (.aload_n 0, 1) := by decide +kernel
theorem dX11_text_36 : decode cX11_text 36 = .ok (.iconst (-1), 1) := by decide +kernel
theorem dX11_text_37 : decode cX11_text 37 = .ok (.putfield 16, 3) := by decide +kernel
theorem dX11_text_40 : decode cX11_text 40 = .ok (.aload_n 0, 1) := by decide +kernel
theorem dX11_text_41 : decode cX11_text 41 = .ok (.iconst 0, 1) := by decide +kernel
theorem dX11_text_42 : decode cX11_text 42 = .ok (.putfield 166, 3) := by decide +kernel
theorem dX11_text_45 : decode cX11_text 45 = .ok (.aload_n 0, 1) := by decide +kernel
theorem dX11_text_46 : decode cX11_text 46 = .ok (.invokevirtual 145, 3) := by decide +kernel
theorem dX11_text_49 : decode cX11_text 49 = .ok (.aload_n 0, 1) := by decide +kernel
theorem dX11_text_50 : decode cX11_text 50 = .ok (.invokevirtual 203, 3) := by decide +kernel
theorem dX11_text_53 : decode cX11_text 53 = .ok (.iconst 0, 1) := by decide +kernel
theorem dX11_text_54 : decode cX11_text 54 = .ok (.istore_n 2, 1) := by decide +kernel
theorem dX11_text_55 : decode cX11_text 55 = .ok (.aload_n 0, 1) := by decide +kernel
theorem dX11_text_56 : decode cX11_text 56 = .ok (.getfield 169, 3) := by decide +kernel
theorem dX11_text_59 : decode cX11_text 59 = .ok (.ifCond .eq 18, 3) := by decide +kernel
theorem dX11_text_62 : decode cX11_text 62 = .ok (.aload_n 0, 1) := by decide +kernel
theorem dX11_text_63 : decode cX11_text 63 = .ok (.invokevirtual 283, 3) := by decide +kernel
theorem dX11_text_66 : decode cX11_text 66 = .ok (.ifCond .ne 5, 3) := by decide +kernel
theorem dX11_text_69 : decode cX11_text 69 = .ok (.iconst (-1), 1) := by decide +kernel
theorem dX11_text_70 : decode cX11_text 70 = .ok (.ireturn, 1) := by decide +kernel
theorem dX11_text_71 : decode cX11_text 71 = .ok (.iinc 2 1, 3) := by decide +kernel
theorem dX11_text_74 : decode cX11_text 74 = .ok (.goto (-19), 3) := by decide +kernel
theorem dX11_text_77 : decode cX11_text 77 = .ok (.aload_n 0, 1) := by decide +kernel
theorem dX11_text_78 : decode cX11_text 78 = .ok (.invokevirtual 148, 3) := by decide +kernel
theorem dX11_text_81 : decode cX11_text 81 = .ok (.iload_n 2, 1) := by decide +kernel
theorem dX11_text_82 : decode cX11_text 82 = .ok (.ireturn, 1) := by decide +kernel
theorem dX11_fault_0 : decode cX11_fault 0 = .ok (.aload_n 0, 1) := by decide +kernel
theorem dX11_fault_1 : decode cX11_fault 1 = .ok (.iconst 0, 1) := by decide +kernel
theorem dX11_fault_2 : decode cX11_fault 2 = .ok (.putfield 151, 3) := by decide +kernel
theorem dX11_fault_5 : decode cX11_fault 5 = .ok (.iload_n 1, 1) := by decide +kernel
theorem dX11_fault_6 : decode cX11_fault 6 = .ok (.ifCond .ne 10, 3) := by decide +kernel
theorem dX11_fault_9 : decode cX11_fault 9 = .ok (.aload_n 0, 1) := by decide +kernel
theorem dX11_fault_10 : decode cX11_fault 10 = .ok (.getfield 157, 3) := by decide +kernel
theorem dX11_fault_13 : decode cX11_fault 13 = .ok (.goto 16, 3) := by decide +kernel
theorem dX11_fault_16 : decode cX11_fault 16 = .ok (.iload_n 1, 1) := by decide +kernel
theorem dX11_fault_17 : decode cX11_fault 17 = .ok (.iconst 1, 1) := by decide +kernel
theorem dX11_fault_18 : decode cX11_fault 18 = .ok (.if_icmp .ne 10, 3) := by decide +kernel
theorem dX11_fault_21 : decode cX11_fault 21 = .ok (.aload_n 0, 1) := by decide +kernel
theorem dX11_fault_22 : decode cX11_fault 22 = .ok (.getfield 16, 3) := by decide +kernel
theorem dX11_fault_25 : decode cX11_fault 25 = .ok (.goto 4, 3) := by decide +kernel
theorem dX11_fault_28 : decode cX11_fault 28 = .ok (.iconst (-1), 1) := by decide +kernel
theorem dX11_fault_29 : decode cX11_fault 29 = .ok (.ireturn, 1) := by decide +kernel
theorem dX11_named_0 : decode cX11_named 0 = .ok (.aload_n 0, 1) := by decide +kernel
theorem dX11_named_1 : decode cX11_named 1 = .ok (.iconst 0, 1) := by decide +kernel
theorem dX11_named_2 : decode cX11_named 2 = .ok (.putfield 151, 3) := by decide +kernel
theorem dX11_named_5 : decode cX11_named 5 = .ok (.iload_n 1, 1) := by decide +kernel
theorem dX11_named_6 : decode cX11_named 6 = .ok (.ifCond .ne 19, 3) := by decide +kernel
theorem dX11_named_9 : decode cX11_named 9 = .ok (.aload_n 0, 1) := by decide +kernel
theorem dX11_named_10 : decode cX11_named 10 = .ok (.getfield 27, 3) := by decide +kernel
theorem dX11_named_13 : decode cX11_named 13 = .ok (.iconst 0, 1) := by decide +kernel
theorem dX11_named_14 : decode cX11_named 14 = .ok (.aload_n 0, 1) := by decide +kernel
theorem dX11_named_15 : decode cX11_named 15 = .ok (.getfield 231, 3) := by decide +kernel
theorem dX11_named_18 : decode cX11_named 18 = .ok (.iload_n 2, 1) := by decide +kernel
theorem dX11_named_19 : decode cX11_named 19 = .ok (.invokestatic 253, 3) := by decide +kernel
theorem dX11_named_22 : decode cX11_named 22 = .ok (.goto 25, 3) := by decide +kernel
theorem dX11_named_25 : decode cX11_named 25 = .ok (.iload_n 1, 1) := by decide +kernel
theorem dX11_named_26 : decode cX11_named 26 = .ok (.iconst 1, 1) := by decide +kernel
theorem dX11_named_27 : decode cX11_named 27 = .ok (.if_icmp .ne 19, 3) := by decide +kernel
theorem dX11_named_30 : decode cX11_named 30 = .ok (.aload_n 0, 1) := by decide +kernel
theorem dX11_named_31 : decode cX11_named 31 = .ok (.getfield 36, 3) := by decide +kernel
theorem dX11_named_34 : decode cX11_named 34 = .ok (.iconst 0, 1) := by decide +kernel
theorem dX11_named_35 : decode cX11_named 35 = .ok (.aload_n 0, 1) := by decide +kernel
theorem dX11_named_36 : decode cX11_named 36 = .ok (.getfield 234, 3) := by decide +kernel
theorem dX11_named_39 : decode cX11_named 39 = .ok (.iload_n 2, 1) := by decide +kernel
theorem dX11_named_40 : decode cX11_named 40 = .ok (.invokestatic 253, 3) := by decide +kernel
theorem dX11_named_43 : decode cX11_named 43 = .ok (.goto 4, 3) := by decide +kernel
theorem dX11_named_46 : decode cX11_named 46 = .ok (.iconst (-1), 1) := by decide +kernel
theorem dX11_named_47 : decode cX11_named 47 = .ok (.ireturn, 1) := by decide +kernel
theorem dX11_standing_0 : decode cX11_standing 0 = .ok (.iload_n 0, 1) := by decide +kernel
theorem dX11_standing_1 : decode cX11_standing 1 = .ok (.bipush 13, 2) := by decide +kernel
theorem dX11_standing_3 : decode cX11_standing 3 = .ok (.if_icmp .lt 8, 3) := by decide +kernel
theorem dX11_standing_6 : decode cX11_standing 6 = .ok (.bipush 6, 2) := by decide +kernel
theorem dX11_standing_8 : decode cX11_standing 8 = .ok (.goto 50, 3) := by decide +kernel
theorem dX11_standing_11 : decode cX11_standing 11 = .ok (.iload_n 0, 1) := by decide +kernel
theorem dX11_standing_12 : decode cX11_standing 12 = .ok (.bipush 11, 2) := by decide +kernel
theorem dX11_standing_14 : decode cX11_standing 14 = .ok (.if_icmp .lt 7, 3) := by decide +kernel
theorem dX11_standing_17 : decode cX11_standing 17 = .ok (.iconst 5, 1) := by decide +kernel
theorem dX11_standing_18 : decode cX11_standing 18 = .ok (.goto 40, 3) := by decide +kernel
theorem dX11_standing_21 : decode cX11_standing 21 = .ok (.iload_n 0, 1) := by decide +kernel
theorem dX11_standing_22 : decode cX11_standing 22 = .ok (.iconst 5, 1) := by decide +kernel
theorem dX11_standing_23 : decode cX11_standing 23 = .ok (.if_icmp .lt 7, 3) := by decide +kernel
theorem dX11_standing_26 : decode cX11_standing 26 = .ok (.iconst 4, 1) := by decide +kernel
theorem dX11_standing_27 : decode cX11_standing 27 = .ok (.goto 31, 3) := by decide +kernel
theorem dX11_standing_30 : decode cX11_standing 30 = .ok (.iload_n 0, 1) := by decide +kernel
theorem dX11_standing_31 : decode cX11_standing 31 = .ok (.iconst 2, 1) := by decide +kernel
theorem dX11_standing_32 : decode cX11_standing 32 = .ok (.if_icmp .ne 7, 3) := by decide +kernel
theorem dX11_standing_35 : decode cX11_standing 35 = .ok (.iconst 3, 1) := by decide +kernel
theorem dX11_standing_36 : decode cX11_standing 36 = .ok (.goto 22, 3) := by decide +kernel
theorem dX11_standing_39 : decode cX11_standing 39 = .ok (.iload_n 0, 1) := by decide +kernel
theorem dX11_standing_40 : decode cX11_standing 40 = .ok (.iconst 3, 1) := by decide +kernel
theorem dX11_standing_41 : decode cX11_standing 41 = .ok (.if_icmp .ne 7, 3) := by decide +kernel
theorem dX11_standing_44 : decode cX11_standing 44 = .ok (.iconst 2, 1) := by decide +kernel
theorem dX11_standing_45 : decode cX11_standing 45 = .ok (.goto 13, 3) := by decide +kernel
theorem dX11_standing_48 : decode cX11_standing 48 = .ok (.iload_n 0, 1) := by decide +kernel
theorem dX11_standing_49 : decode cX11_standing 49 = .ok (.iconst 4, 1) := by decide +kernel
theorem dX11_standing_50 : decode cX11_standing 50 = .ok (.if_icmp .ne 7, 3) := by decide +kernel
theorem dX11_standing_53 : decode cX11_standing 53 = .ok (.iconst 1, 1) := by decide +kernel
theorem dX11_standing_54 : decode cX11_standing 54 = .ok (.goto 4, 3) := by decide +kernel
theorem dX11_standing_57 : decode cX11_standing 57 = .ok (.iconst 0, 1) := by decide +kernel
theorem dX11_standing_58 : decode cX11_standing 58 = .ok (.ireturn, 1) := by decide +kernel
theorem dX11_grown_0 : decode cX11_grown 0 = .ok (.aload_n 0, 1) := by decide +kernel
theorem dX11_grown_1 : decode cX11_grown 1 = .ok (.getfield 69, 3) := by decide +kernel
theorem dX11_grown_4 : decode cX11_grown 4 = .ok (.bipush 64, 2) := by decide +kernel
theorem dX11_grown_6 : decode cX11_grown 6 = .ok (.aload_n 0, 1) := by decide +kernel
theorem dX11_grown_7 : decode cX11_grown 7 = .ok (.getfield 225, 3) := by decide +kernel
theorem dX11_grown_10 : decode cX11_grown 10 = .ok (.iadd, 1) := by decide +kernel
theorem dX11_grown_11 : decode cX11_grown 11 = .ok (.iload_n 1, 1) := by decide +kernel
theorem dX11_grown_12 : decode cX11_grown 12 = .ok (.iastore, 1) := by decide +kernel
theorem dX11_grown_13 : decode cX11_grown 13 = .ok (.aload_n 0, 1) := by decide +kernel
theorem dX11_grown_14 : decode cX11_grown 14 = .ok (.getfield 72, 3) := by decide +kernel
theorem dX11_grown_17 : decode cX11_grown 17 = .ok (.bipush 64, 2) := by decide +kernel
theorem dX11_grown_19 : decode cX11_grown 19 = .ok (.aload_n 0, 1) := by decide +kernel
theorem dX11_grown_20 : decode cX11_grown 20 = .ok (.getfield 225, 3) := by decide +kernel
theorem dX11_grown_23 : decode cX11_grown 23 = .ok (.iadd, 1) := by decide +kernel
theorem dX11_grown_24 : decode cX11_grown 24 = .ok (.iload_n 2, 1) := by decide +kernel
theorem dX11_grown_25 : decode cX11_grown 25 = .ok (.iastore, 1) := by decide +kernel
theorem dX11_grown_26 : decode cX11_grown 26 = .ok (.aload_n 0, 1) := by decide +kernel
theorem dX11_grown_27 : decode cX11_grown 27 = .ok (.getfield 75, 3) := by decide +kernel
theorem dX11_grown_30 : decode cX11_grown 30 = .ok (.bipush 64, 2) := by decide +kernel
theorem dX11_grown_32 : decode cX11_grown 32 = .ok (.aload_n 0, 1) := by decide +kernel
theorem dX11_grown_33 : decode cX11_grown 33 = .ok (.getfield 225, 3) := by decide +kernel
theorem dX11_grown_36 : decode cX11_grown 36 = .ok (.iadd, 1) := by decide +kernel
theorem dX11_grown_37 : decode cX11_grown 37 = .ok (.iload_n 3, 1) := by decide +kernel
theorem dX11_grown_38 : decode cX11_grown 38 = .ok (.iastore, 1) := by decide +kernel
theorem dX11_grown_39 : decode cX11_grown 39 = .ok (.aload_n 0, 1) := by decide +kernel
theorem dX11_grown_40 : decode cX11_grown 40 = .ok (.getfield 81, 3) := by decide +kernel
theorem dX11_grown_43 : decode cX11_grown 43 = .ok (.aload_n 0, 1) := by decide +kernel
theorem dX11_grown_44 : decode cX11_grown 44 = .ok (.getfield 286, 3) := by decide +kernel
theorem dX11_grown_47 : decode cX11_grown 47 = .ok (.aload_n 0, 1) := by decide +kernel
theorem dX11_grown_48 : decode cX11_grown 48 = .ok (.getfield 225, 3) := by decide +kernel
theorem dX11_grown_51 : decode cX11_grown 51 = .ok (.iastore, 1) := by decide +kernel
theorem dX11_grown_52 : decode cX11_grown 52 = .ok (.aload_n 0, 1) := by decide +kernel
theorem dX11_grown_53 : decode cX11_grown 53 = .ok (.dup, 1) := by decide +kernel
theorem dX11_grown_54 : decode cX11_grown 54 = .ok (.getfield 286, 3) := by decide +kernel
theorem dX11_grown_57 : decode cX11_grown 57 = .ok (.iconst 1, 1) := by decide +kernel
theorem dX11_grown_58 : decode cX11_grown 58 = .ok (.iadd, 1) := by decide +kernel
theorem dX11_grown_59 : decode cX11_grown 59 = .ok (.putfield 286, 3) := by decide +kernel
theorem dX11_grown_62 : decode cX11_grown 62 = .ok (.aload_n 0, 1) := by decide +kernel
theorem dX11_grown_63 : decode cX11_grown 63 = .ok (.dup, 1) := by decide +kernel
theorem dX11_grown_64 : decode cX11_grown 64 = .ok (.getfield 225, 3) := by decide +kernel
theorem dX11_grown_67 : decode cX11_grown 67 = .ok (.iconst 1, 1) := by decide +kernel
theorem dX11_grown_68 : decode cX11_grown 68 = .ok (.iadd, 1) := by decide +kernel
theorem dX11_grown_69 : decode cX11_grown 69 = .ok (.putfield 225, 3) := by decide +kernel
theorem dX11_grown_72 : decode cX11_grown 72 = .ok (.return_, 1) := by decide +kernel
theorem dX11_dropHeld_0 : decode cX11_dropHeld 0 = .ok (.aload_n 0, 1) := by decide +kernel
theorem dX11_dropHeld_1 : decode cX11_dropHeld 1 = .ok (.dup, 1) := by decide +kernel
theorem dX11_dropHeld_2 : decode cX11_dropHeld 2 = .ok (.getfield 286, 3) := by decide +kernel
theorem dX11_dropHeld_5 : decode cX11_dropHeld 5 = .ok (.iconst 1, 1) := by decide +kernel
theorem dX11_dropHeld_6 : decode cX11_dropHeld 6 = .ok (.isub, 1) := by decide +kernel
theorem dX11_dropHeld_7 : decode cX11_dropHeld 7 = .ok (.putfield 286, 3) := by decide +kernel
theorem dX11_dropHeld_10 : decode cX11_dropHeld 10 = .ok (.aload_n 0, 1) := by decide +kernel
theorem dX11_dropHeld_11 : decode cX11_dropHeld 11 = .ok (.getfield 81, 3) := by decide +kernel
theorem dX11_dropHeld_14 : decode cX11_dropHeld 14 = .ok (.aload_n 0, 1) := by decide +kernel
theorem dX11_dropHeld_15 : decode cX11_dropHeld 15 = .ok (.getfield 286, 3) := by decide +kernel
theorem dX11_dropHeld_18 : decode cX11_dropHeld 18 = .ok (.iaload, 1) := by decide +kernel
theorem dX11_dropHeld_19 : decode cX11_dropHeld 19 = .ok (.ireturn, 1) := by decide +kernel
theorem dX11_bind_0 : decode cX11_bind 0 = .ok (.aload_n 0, 1) := by decide +kernel
theorem dX11_bind_1 : decode cX11_bind 1 = .ok (.getfield 289, 3) := by decide +kernel
theorem dX11_bind_4 : decode cX11_bind 4 = .ok (.ifCond .le 72, 3) := by decide +kernel
theorem dX11_bind_7 : decode cX11_bind 7 = .ok (.aload_n 0, 1) := by decide +kernel
theorem dX11_bind_8 : decode cX11_bind 8 = .ok (.getfield 78, 3) := by decide +kernel
theorem dX11_bind_11 : decode cX11_bind 11 = .ok (.aload_n 0, 1) := by decide +kernel
theorem dX11_bind_12 : decode cX11_bind 12 = .ok (.getfield 289, 3) := by decide +kernel
theorem dX11_bind_15 : decode cX11_bind 15 = .ok (.iconst 1, 1) := by decide +kernel
theorem dX11_bind_16 : decode cX11_bind 16 = .ok (.isub, 1) := by decide +kernel
theorem dX11_bind_17 : decode cX11_bind 17 = .ok (.iaload, 1) := by decide +kernel
theorem dX11_bind_18 : decode cX11_bind 18 = .ok (.invokestatic 292, 3) := by decide +kernel
theorem dX11_bind_21 : decode cX11_bind 21 = .ok (.iload_n 1, 1) := by decide +kernel
theorem dX11_bind_22 : decode cX11_bind 22 = .ok (.if_icmp .lt 54, 3) := by decide +kernel
theorem dX11_bind_25 : decode cX11_bind 25 = .ok (.aload_n 0, 1) := by decide +kernel
theorem dX11_bind_26 : decode cX11_bind 26 = .ok (.dup, 1) := by decide +kernel
theorem dX11_bind_27 : decode cX11_bind 27 = .ok (.getfield 289, 3) := by decide +kernel
theorem dX11_bind_30 : decode cX11_bind 30 = .ok (.iconst 1, 1) := by decide +kernel
theorem dX11_bind_31 : decode cX11_bind 31 = .ok (.isub, 1) := by decide +kernel
theorem dX11_bind_32 : decode cX11_bind 32 = .ok (.putfield 289, 3) := by decide +kernel
theorem dX11_bind_35 : decode cX11_bind 35 = .ok (.aload_n 0, 1) := by decide +kernel
theorem dX11_bind_36 : decode cX11_bind 36 = .ok (.getfield 78, 3) := by decide +kernel
theorem dX11_bind_39 : decode cX11_bind 39 = .ok (.aload_n 0, 1) := by decide +kernel
theorem dX11_bind_40 : decode cX11_bind 40 = .ok (.getfield 289, 3) := by decide +kernel
theorem dX11_bind_43 : decode cX11_bind 43 = .ok (.iaload, 1) := by decide +kernel
theorem dX11_bind_44 : decode cX11_bind 44 = .ok (.istore_n 2, 1) := by decide +kernel
theorem dX11_bind_45 : decode cX11_bind 45 = .ok (.iload_n 2, 1) := by decide +kernel
theorem dX11_bind_46 : decode cX11_bind 46 = .ok (.iconst 2, 1) := by decide +kernel
theorem dX11_bind_47 : decode cX11_bind 47 = .ok (.if_icmp .ne 7, 3) := by decide +kernel
theorem dX11_bind_50 : decode cX11_bind 50 = .ok (.iconst (-1), 1) := by decide +kernel
theorem dX11_bind_51 : decode cX11_bind 51 = .ok (.goto 7, 3) := by decide +kernel
theorem dX11_bind_54 : decode cX11_bind 54 = .ok (.aload_n 0, 1) := by decide +kernel
theorem dX11_bind_55 : decode cX11_bind 55 = .ok (.invokevirtual 296, 3) := by decide +kernel
theorem dX11_bind_58 : decode cX11_bind 58 = .ok (.istore_n 3, 1) := by decide +kernel
theorem dX11_bind_59 : decode cX11_bind 59 = .ok (.aload_n 0, 1) := by decide +kernel
theorem dX11_bind_60 : decode cX11_bind 60 = .ok (.invokevirtual 296, 3) := by decide +kernel
theorem dX11_bind_63 : decode cX11_bind 63 = .ok (.istore 4, 2) := by decide +kernel
theorem dX11_bind_65 : decode cX11_bind 65 = .ok (.aload_n 0, 1) := by decide +kernel
theorem dX11_bind_66 : decode cX11_bind 66 = .ok (.iload_n 2, 1) := by decide +kernel
theorem dX11_bind_67 : decode cX11_bind 67 = .ok (.iload 4, 2) := by decide +kernel
theorem dX11_bind_69 : decode cX11_bind 69 = .ok (.iload_n 3, 1) := by decide +kernel
theorem dX11_bind_70 : decode cX11_bind 70 = .ok (.invokevirtual 300, 3) := by decide +kernel
theorem dX11_bind_73 : decode cX11_bind 73 = .ok (.goto (-73), 3) := by decide +kernel
theorem dX11_bind_76 : decode cX11_bind 76 = .ok (.return_, 1) := by decide +kernel
theorem dX11_isCounted_0 : decode cX11_isCounted 0 = .ok (.aload_n 0, 1) := by decide +kernel
theorem dX11_isCounted_1 : decode cX11_isCounted 1 = .ok (.getfield 228, 3) := by decide +kernel
theorem dX11_isCounted_4 : decode cX11_isCounted 4 = .ok (.bipush 64, 2) := by decide +kernel
theorem dX11_isCounted_6 : decode cX11_isCounted 6 = .ok (.if_icmp .ne 9, 3) := by decide +kernel
theorem dX11_isCounted_9 : decode cX11_isCounted 9 = .ok (.aload_n 0, 1) := by decide +kernel
theorem dX11_isCounted_10 : decode cX11_isCounted 10 = .ok (.iconst 2, 1) := by decide +kernel
theorem dX11_isCounted_11 : decode cX11_isCounted 11 = .ok (.invokevirtual 193, 3) := by decide +kernel
theorem dX11_isCounted_14 : decode cX11_isCounted 14 = .ok (.ireturn, 1) := by decide +kernel
theorem dX11_isCounted_15 : decode cX11_isCounted 15 = .ok (.aload_n 0, 1) := by decide +kernel
theorem dX11_isCounted_16 : decode cX11_isCounted 16 = .ok (.dup, 1) := by decide +kernel
theorem dX11_isCounted_17 : decode cX11_isCounted 17 = .ok (.getfield 228, 3) := by decide +kernel
theorem dX11_isCounted_20 : decode cX11_isCounted 20 = .ok (.iconst 1, 1) := by decide +kernel
theorem dX11_isCounted_21 : decode cX11_isCounted 21 = .ok (.iadd, 1) := by decide +kernel
theorem dX11_isCounted_22 : decode cX11_isCounted 22 = .ok (.putfield 228, 3) := by decide +kernel
theorem dX11_isCounted_25 : decode cX11_isCounted 25 = .ok (.iconst 1, 1) := by decide +kernel
theorem dX11_isCounted_26 : decode cX11_isCounted 26 = .ok (.ireturn, 1) := by decide +kernel
theorem dX11_waitsFor_0 : decode cX11_waitsFor 0 = .ok (.aload_n 0, 1) := by decide +kernel
theorem dX11_waitsFor_1 : decode cX11_waitsFor 1 = .ok (.getfield 78, 3) := by decide +kernel
theorem dX11_waitsFor_4 : decode cX11_waitsFor 4 = .ok (.aload_n 0, 1) := by decide +kernel
theorem dX11_waitsFor_5 : decode cX11_waitsFor 5 = .ok (.getfield 289, 3) := by decide +kernel
theorem dX11_waitsFor_8 : decode cX11_waitsFor 8 = .ok (.iload_n 1, 1) := by decide +kernel
theorem dX11_waitsFor_9 : decode cX11_waitsFor 9 = .ok (.iastore, 1) := by decide +kernel
theorem dX11_waitsFor_10 : decode cX11_waitsFor 10 = .ok (.aload_n 0, 1) := by decide +kernel
theorem dX11_waitsFor_11 : decode cX11_waitsFor 11 = .ok (.dup, 1) := by decide +kernel
theorem dX11_waitsFor_12 : decode cX11_waitsFor 12 = .ok (.getfield 289, 3) := by decide +kernel
theorem dX11_waitsFor_15 : decode cX11_waitsFor 15 = .ok (.iconst 1, 1) := by decide +kernel
theorem dX11_waitsFor_16 : decode cX11_waitsFor 16 = .ok (.iadd, 1) := by decide +kernel
theorem dX11_waitsFor_17 : decode cX11_waitsFor 17 = .ok (.putfield 289, 3) := by decide +kernel
theorem dX11_waitsFor_20 : decode cX11_waitsFor 20 = .ok (.return_, 1) := by decide +kernel
theorem dX11_nameMet_0 : decode cX11_nameMet 0 = .ok (.aload_n 0, 1) := by decide +kernel
theorem dX11_nameMet_1 : decode cX11_nameMet 1 = .ok (.getfield 169, 3) := by decide +kernel
theorem dX11_nameMet_4 : decode cX11_nameMet 4 = .ok (.iconst 1, 1) := by decide +kernel
theorem dX11_nameMet_5 : decode cX11_nameMet 5 = .ok (.if_icmp .ne 22, 3) := by decide +kernel
theorem dX11_nameMet_8 : decode cX11_nameMet 8 = .ok (.aload_n 0, 1) := by decide +kernel
theorem dX11_nameMet_9 : decode cX11_nameMet 9 = .ok (.getfield 180, 3) := by decide +kernel
theorem dX11_nameMet_12 : decode cX11_nameMet 12 = .ok (.bipush 13, 2) := by decide +kernel
theorem dX11_nameMet_14 : decode cX11_nameMet 14 = .ok (.if_icmp .lt 13, 3) := by decide +kernel
theorem dX11_nameMet_17 : decode cX11_nameMet 17 = .ok (.aload_n 0, 1) := by decide +kernel
theorem dX11_nameMet_18 : decode cX11_nameMet 18 = .ok (.getfield 180, 3) := by decide +kernel
theorem dX11_nameMet_21 : decode cX11_nameMet 21 = .ok (.bipush 13, 2) := by decide +kernel
theorem dX11_nameMet_23 : decode cX11_nameMet 23 = .ok (.isub, 1) := by decide +kernel
theorem dX11_nameMet_24 : decode cX11_nameMet 24 = .ok (.goto 4, 3) := by decide +kernel
theorem dX11_nameMet_27 : decode cX11_nameMet 27 = .ok (.iconst (-1), 1) := by decide +kernel
theorem dX11_nameMet_28 : decode cX11_nameMet 28 = .ok (.ireturn, 1) := by decide +kernel
theorem dX11_leafRead_0 : decode cX11_leafRead 0 = .ok (.aload_n 0, 1) := by decide +kernel
theorem dX11_leafRead_1 : decode cX11_leafRead 1 = .ok (.bipush 40, 2) := by decide +kernel
theorem dX11_leafRead_3 : decode cX11_leafRead 3 = .ok (.invokevirtual 206, 3) := by decide +kernel
theorem dX11_leafRead_6 : decode cX11_leafRead 6 = .ok (.ifCond .eq 44, 3) := by decide +kernel
theorem dX11_leafRead_9 : decode cX11_leafRead 9 = .ok (.aload_n 0, 1) := by decide +kernel
theorem dX11_leafRead_10 : decode cX11_leafRead 10 = .ok (.getfield 304, 3) := by decide +kernel
theorem dX11_leafRead_13 : decode cX11_leafRead 13 = .ok (.bipush 8, 2) := by decide +kernel
theorem dX11_leafRead_15 : decode cX11_leafRead 15 = .ok (.if_icmp .ne 9, 3) := by decide +kernel
theorem dX11_leafRead_18 : decode cX11_leafRead 18 = .ok (.aload_n 0, 1) := by decide +kernel
theorem dX11_leafRead_19 : decode cX11_leafRead 19 = .ok (.iconst 2, 1) := by decide +kernel
theorem dX11_leafRead_20 : decode cX11_leafRead 20 = .ok (.invokevirtual 193, 3) := by decide +kernel
theorem dX11_leafRead_23 : decode cX11_leafRead 23 = .ok (.ireturn, 1) := by decide +kernel
theorem dX11_leafRead_24 : decode cX11_leafRead 24 = .ok (.aload_n 0, 1) := by decide +kernel
theorem dX11_leafRead_25 : decode cX11_leafRead 25 = .ok (.dup, 1) := by decide +kernel
theorem dX11_leafRead_26 : decode cX11_leafRead 26 = .ok (.getfield 304, 3) := by decide +kernel
theorem dX11_leafRead_29 : decode cX11_leafRead 29 = .ok (.iconst 1, 1) := by decide +kernel
theorem dX11_leafRead_30 : decode cX11_leafRead 30 = .ok (.iadd, 1) := by decide +kernel
theorem dX11_leafRead_31 : decode cX11_leafRead 31 = .ok (.putfield 304, 3) := by decide +kernel
theorem dX11_leafRead_34 : decode cX11_leafRead 34 = .ok (.aload_n 0, 1) := by decide +kernel
theorem dX11_leafRead_35 : decode cX11_leafRead 35 = .ok (.iconst 0, 1) := by decide +kernel
theorem dX11_leafRead_36 : decode cX11_leafRead 36 = .ok (.invokevirtual 307, 3) := by decide +kernel
theorem dX11_leafRead_39 : decode cX11_leafRead 39 = .ok (.aload_n 0, 1) := by decide +kernel
theorem dX11_leafRead_40 : decode cX11_leafRead 40 = .ok (.iconst 1, 1) := by decide +kernel
theorem dX11_leafRead_41 : decode cX11_leafRead 41 = .ok (.putfield 311, 3) := by decide +kernel
theorem dX11_leafRead_44 : decode cX11_leafRead 44 = .ok (.aload_n 0, 1) := by decide +kernel
theorem dX11_leafRead_45 : decode cX11_leafRead 45 = .ok (.invokevirtual 203, 3) := by decide +kernel
theorem dX11_leafRead_48 : decode cX11_leafRead 48 = .ok (.iconst 1, 1) := by decide +kernel
theorem dX11_leafRead_49 : decode cX11_leafRead 49 = .ok (.ireturn, 1) := by decide +kernel
theorem dX11_leafRead_50 : decode cX11_leafRead 50 = .ok (.aload_n 0, 1) := by decide +kernel
theorem dX11_leafRead_51 : decode cX11_leafRead 51 = .ok (.bipush 12, 2) := by decide +kernel
theorem dX11_leafRead_53 : decode cX11_leafRead 53 = .ok (.invokevirtual 315, 3) := by decide +kernel
theorem dX11_leafRead_56 : decode cX11_leafRead 56 = .ok (.ifCond .eq 30, 3) := by decide +kernel
theorem dX11_leafRead_59 : decode cX11_leafRead 59 = .ok (.aload_n 0, 1) := by decide +kernel
theorem dX11_leafRead_60 : decode cX11_leafRead 60 = .ok (.getfield 311, 3) := by decide +kernel
theorem dX11_leafRead_63 : decode cX11_leafRead 63 = .ok (.ifCond .eq 23, 3) := by decide +kernel
theorem dX11_leafRead_66 : decode cX11_leafRead 66 = .ok (.aload_n 0, 1) := by decide +kernel
theorem dX11_leafRead_67 : decode cX11_leafRead 67 = .ok (.invokevirtual 318, 3) := by decide +kernel
theorem dX11_leafRead_70 : decode cX11_leafRead 70 = .ok (.ifCond .ne 5, 3) := by decide +kernel
theorem dX11_leafRead_73 : decode cX11_leafRead 73 = .ok (.iconst 0, 1) := by decide +kernel
theorem dX11_leafRead_74 : decode cX11_leafRead 74 = .ok (.ireturn, 1) := by decide +kernel
theorem dX11_leafRead_75 : decode cX11_leafRead 75 = .ok (.aload_n 0, 1) := by decide +kernel
theorem dX11_leafRead_76 : decode cX11_leafRead 76 = .ok (.iconst 2, 1) := by decide +kernel
theorem dX11_leafRead_77 : decode cX11_leafRead 77 = .ok (.invokevirtual 307, 3) := by decide +kernel
theorem dX11_leafRead_80 : decode cX11_leafRead 80 = .ok (.aload_n 0, 1) := by decide +kernel
theorem dX11_leafRead_81 : decode cX11_leafRead 81 = .ok (.invokevirtual 203, 3) := by decide +kernel
theorem dX11_leafRead_84 : decode cX11_leafRead 84 = .ok (.iconst 1, 1) := by decide +kernel
theorem dX11_leafRead_85 : decode cX11_leafRead 85 = .ok (.ireturn, 1) := by decide +kernel
theorem dX11_leafRead_86 : decode cX11_leafRead 86 = .ok (.aload_n 0, 1) := by decide +kernel
theorem dX11_leafRead_87 : decode cX11_leafRead 87 = .ok (.invokevirtual 321, 3) := by decide +kernel
theorem dX11_leafRead_90 : decode cX11_leafRead 90 = .ok (.istore_n 1, 1) := by decide +kernel
theorem dX11_leafRead_91 : decode cX11_leafRead 91 = .ok (.iload_n 1, 1) := by decide +kernel
theorem dX11_leafRead_92 : decode cX11_leafRead 92 = .ok (.ifCond .ge 17, 3) := by decide +kernel
theorem dX11_leafRead_95 : decode cX11_leafRead 95 = .ok (.aload_n 0, 1) := by decide +kernel
theorem dX11_leafRead_96 : decode cX11_leafRead 96 = .ok (.getfield 169, 3) := by decide +kernel
theorem dX11_leafRead_99 : decode cX11_leafRead 99 = .ok (.iconst 3, 1) := by decide +kernel
theorem dX11_leafRead_100 : decode cX11_leafRead 100 = .ok (.if_icmp .eq 9, 3) := by decide +kernel
theorem dX11_leafRead_103 : decode cX11_leafRead 103 = .ok (.aload_n 0, 1) := by decide +kernel
theorem dX11_leafRead_104 : decode cX11_leafRead 104 = .ok (.iconst 1, 1) := by decide +kernel
theorem dX11_leafRead_105 : decode cX11_leafRead 105 = .ok (.invokevirtual 193, 3) := by decide +kernel
theorem dX11_leafRead_108 : decode cX11_leafRead 108 = .ok (.ireturn, 1) := by decide +kernel
theorem dX11_leafRead_109 : decode cX11_leafRead 109 = .ok (.iload_n 1, 1) := by decide +kernel
theorem dX11_leafRead_110 : decode cX11_leafRead 110 = .ok (.ifCond .ge 19, 3) := by decide +kernel
theorem dX11_leafRead_113 : decode cX11_leafRead 113 = .ok (.aload_n 0, 1) := by decide +kernel
theorem dX11_leafRead_114 : decode cX11_leafRead 114 = .ok (.getfield 180, 3) := by decide +kernel
theorem dX11_leafRead_117 : decode cX11_leafRead 117 = .ok (.sipush 9999, 3) := by decide +kernel
theorem dX11_leafRead_120 : decode cX11_leafRead 120 = .ok (.if_icmp .le 9, 3) := by decide +kernel
theorem dX11_leafRead_123 : decode cX11_leafRead 123 = .ok (.aload_n 0, 1) := by decide +kernel
theorem dX11_leafRead_124 : decode cX11_leafRead 124 = .ok (.iconst 2, 1) := by decide +kernel
theorem dX11_leafRead_125 : decode cX11_leafRead 125 = .ok (.invokevirtual 193, 3) := by decide +kernel
theorem dX11_leafRead_128 : decode cX11_leafRead 128 = .ok (.ireturn, 1) := by decide +kernel
theorem dX11_leafRead_129 : decode cX11_leafRead 129 = .ok (.aload_n 0, 1) := by decide +kernel
theorem dX11_leafRead_130 : decode cX11_leafRead 130 = .ok (.invokevirtual 318, 3) := by decide +kernel
theorem dX11_leafRead_133 : decode cX11_leafRead 133 = .ok (.ifCond .ne 5, 3) := by decide +kernel
theorem dX11_leafRead_136 : decode cX11_leafRead 136 = .ok (.iconst 0, 1) := by decide +kernel
theorem dX11_leafRead_137 : decode cX11_leafRead 137 = .ok (.ireturn, 1) := by decide +kernel
theorem dX11_leafRead_138 : decode cX11_leafRead 138 = .ok (.aload_n 0, 1) := by decide +kernel
theorem dX11_leafRead_139 : decode cX11_leafRead 139 = .ok (.iload_n 1, 1) := by decide +kernel
theorem dX11_leafRead_140 : decode cX11_leafRead 140 = .ok (.ifCond .lt 7, 3) := by decide +kernel
theorem dX11_leafRead_143 : decode cX11_leafRead 143 = .ok (.iconst 1, 1) := by decide +kernel
theorem dX11_leafRead_144 : decode cX11_leafRead 144 = .ok (.goto 4, 3) := by decide +kernel
theorem dX11_leafRead_147 : decode cX11_leafRead 147 = .ok (.iconst 0, 1) := by decide +kernel
theorem dX11_leafRead_148 : decode cX11_leafRead 148 = .ok (.iload_n 1, 1) := by decide +kernel
theorem dX11_leafRead_149 : decode cX11_leafRead 149 = .ok (.ifCond .lt 7, 3) := by decide +kernel
theorem dX11_leafRead_152 : decode cX11_leafRead 152 = .ok (.iload_n 1, 1) := by decide +kernel
theorem dX11_leafRead_153 : decode cX11_leafRead 153 = .ok (.goto 7, 3) := by decide +kernel
theorem dX11_leafRead_156 : decode cX11_leafRead 156 = .ok (.aload_n 0, 1) := by decide +kernel
theorem dX11_leafRead_157 : decode cX11_leafRead 157 = .ok (.getfield 180, 3) := by decide +kernel
theorem dX11_leafRead_160 : decode cX11_leafRead 160 = .ok (.iconst 0, 1) := by decide +kernel
theorem dX11_leafRead_161 : decode cX11_leafRead 161 = .ok (.invokevirtual 300, 3) := by decide +kernel
theorem dX11_leafRead_164 : decode cX11_leafRead 164 = .ok (.aload_n 0, 1) := by decide +kernel
theorem dX11_leafRead_165 : decode cX11_leafRead 165 = .ok (.iconst 0, 1) := by decide +kernel
theorem dX11_leafRead_166 : decode cX11_leafRead 166 = .ok (.putfield 324, 3) := by decide +kernel
theorem dX11_leafRead_169 : decode cX11_leafRead 169 = .ok (.aload_n 0, 1) := by decide +kernel
theorem dX11_leafRead_170 : decode cX11_leafRead 170 = .ok (.invokevirtual 203, 3) := by decide +kernel
theorem dX11_leafRead_173 : decode cX11_leafRead 173 = .ok (.iconst 1, 1) := by decide +kernel
theorem dX11_leafRead_174 : decode cX11_leafRead 174 = .ok (.ireturn, 1) := by decide +kernel
theorem dX11_signs_0 : decode cX11_signs 0 = .ok (.aload_n 0, 1) := by decide +kernel
theorem dX11_signs_1 : decode cX11_signs 1 = .ok (.bipush 41, 2) := by decide +kernel
theorem dX11_signs_3 : decode cX11_signs 3 = .ok (.invokevirtual 206, 3) := by decide +kernel
theorem dX11_signs_6 : decode cX11_signs 6 = .ok (.ifCond .eq 41, 3) := by decide +kernel
theorem dX11_signs_9 : decode cX11_signs 9 = .ok (.aload_n 0, 1) := by decide +kernel
theorem dX11_signs_10 : decode cX11_signs 10 = .ok (.getfield 304, 3) := by decide +kernel
theorem dX11_signs_13 : decode cX11_signs 13 = .ok (.ifCond .le 34, 3) := by decide +kernel
theorem dX11_signs_16 : decode cX11_signs 16 = .ok (.aload_n 0, 1) := by decide +kernel
theorem dX11_signs_17 : decode cX11_signs 17 = .ok (.iconst 1, 1) := by decide +kernel
theorem dX11_signs_18 : decode cX11_signs 18 = .ok (.invokevirtual 327, 3) := by decide +kernel
theorem dX11_signs_21 : decode cX11_signs 21 = .ok (.aload_n 0, 1) := by decide +kernel
theorem dX11_signs_22 : decode cX11_signs 22 = .ok (.dup, 1) := by decide +kernel
theorem dX11_signs_23 : decode cX11_signs 23 = .ok (.getfield 289, 3) := by decide +kernel
theorem dX11_signs_26 : decode cX11_signs 26 = .ok (.iconst 1, 1) := by decide +kernel
theorem dX11_signs_27 : decode cX11_signs 27 = .ok (.isub, 1) := by decide +kernel
theorem dX11_signs_28 : decode cX11_signs 28 = .ok (.putfield 289, 3) := by decide +kernel
theorem dX11_signs_31 : decode cX11_signs 31 = .ok (.aload_n 0, 1) := by decide +kernel
theorem dX11_signs_32 : decode cX11_signs 32 = .ok (.dup, 1) := by decide +kernel
theorem dX11_signs_33 : decode cX11_signs 33 = .ok (.getfield 304, 3) := by decide +kernel
theorem dX11_signs_36 : decode cX11_signs 36 = .ok (.iconst 1, 1) := by decide +kernel
theorem dX11_signs_37 : decode cX11_signs 37 = .ok (.isub, 1) := by decide +kernel
theorem dX11_signs_38 : decode cX11_signs 38 = .ok (.putfield 304, 3) := by decide +kernel
theorem dX11_signs_41 : decode cX11_signs 41 = .ok (.aload_n 0, 1) := by decide +kernel
theorem dX11_signs_42 : decode cX11_signs 42 = .ok (.invokevirtual 203, 3) := by decide +kernel
theorem dX11_signs_45 : decode cX11_signs 45 = .ok (.iconst 1, 1) := by decide +kernel
theorem dX11_signs_46 : decode cX11_signs 46 = .ok (.ireturn, 1) := by decide +kernel
theorem dX11_signs_47 : decode cX11_signs 47 = .ok (.aload_n 0, 1) := by decide +kernel
theorem dX11_signs_48 : decode cX11_signs 48 = .ok (.bipush 10, 2) := by decide +kernel
theorem dX11_signs_50 : decode cX11_signs 50 = .ok (.invokevirtual 315, 3) := by decide +kernel
theorem dX11_signs_53 : decode cX11_signs 53 = .ok (.ifCond .eq 7, 3) := by decide +kernel
theorem dX11_signs_56 : decode cX11_signs 56 = .ok (.iconst 3, 1) := by decide +kernel
theorem dX11_signs_57 : decode cX11_signs 57 = .ok (.goto 90, 3) := by decide +kernel
theorem dX11_signs_60 : decode cX11_signs 60 = .ok (.aload_n 0, 1) := by decide +kernel
theorem dX11_signs_61 : decode cX11_signs 61 = .ok (.bipush 11, 2) := by decide +kernel
theorem dX11_signs_63 : decode cX11_signs 63 = .ok (.invokevirtual 315, 3) := by decide +kernel
theorem dX11_signs_66 : decode cX11_signs 66 = .ok (.ifCond .eq 7, 3) := by decide +kernel
theorem dX11_signs_69 : decode cX11_signs 69 = .ok (.iconst 4, 1) := by decide +kernel
theorem dX11_signs_70 : decode cX11_signs 70 = .ok (.goto 77, 3) := by decide +kernel
theorem dX11_signs_73 : decode cX11_signs 73 = .ok (.aload_n 0, 1) := by decide +kernel
theorem dX11_signs_74 : decode cX11_signs 74 = .ok (.getfield 169, 3) := by decide +kernel
theorem dX11_signs_77 : decode cX11_signs 77 = .ok (.iconst 5, 1) := by decide +kernel
theorem dX11_signs_78 : decode cX11_signs 78 = .ok (.if_icmp .ne 12, 3) := by decide +kernel
theorem dX11_signs_81 : decode cX11_signs 81 = .ok (.iconst 5, 1) := by decide +kernel
theorem dX11_signs_82 : decode cX11_signs 82 = .ok (.aload_n 0, 1) := by decide +kernel
theorem dX11_signs_83 : decode cX11_signs 83 = .ok (.getfield 180, 3) := by decide +kernel
theorem dX11_signs_86 : decode cX11_signs 86 = .ok (.iadd, 1) := by decide +kernel
theorem dX11_signs_87 : decode cX11_signs 87 = .ok (.goto 60, 3) := by decide +kernel
theorem dX11_signs_90 : decode cX11_signs 90 = .ok (.aload_n 0, 1) := by decide +kernel
theorem dX11_signs_91 : decode cX11_signs 91 = .ok (.bipush 43, 2) := by decide +kernel
theorem dX11_signs_93 : decode cX11_signs 93 = .ok (.invokevirtual 206, 3) := by decide +kernel
theorem dX11_signs_96 : decode cX11_signs 96 = .ok (.ifCond .eq 8, 3) := by decide +kernel
theorem dX11_signs_99 : decode cX11_signs 99 = .ok (.bipush 11, 2) := by decide +kernel
theorem dX11_signs_101 : decode cX11_signs 101 = .ok (.goto 46, 3) := by decide +kernel
theorem dX11_signs_104 : decode cX11_signs 104 = .ok (.aload_n 0, 1) := by decide +kernel
theorem dX11_signs_105 : decode cX11_signs 105 = .ok (.bipush 45, 2) := by decide +kernel
theorem dX11_signs_107 : decode cX11_signs 107 = .ok (.invokevirtual 206, 3) := by decide +kernel
theorem dX11_signs_110 : decode cX11_signs 110 = .ok (.ifCond .eq 8, 3) := by decide +kernel
theorem dX11_signs_113 : decode cX11_signs 113 = .ok (.bipush 12, 2) := by decide +kernel
theorem dX11_signs_115 : decode cX11_signs 115 = .ok (.goto 32, 3) := by decide +kernel
theorem dX11_signs_118 : decode cX11_signs 118 = .ok (.aload_n 0, 1) := by decide +kernel
theorem dX11_signs_119 : decode cX11_signs 119 = .ok (.bipush 42, 2) := by decide +kernel
theorem dX11_signs_121 : decode cX11_signs 121 = .ok (.invokevirtual 206, 3) := by decide +kernel
theorem dX11_signs_124 : decode cX11_signs 124 = .ok (.ifCond .eq 8, 3) := by decide +kernel
theorem dX11_signs_127 : decode cX11_signs 127 = .ok (.bipush 13, 2) := by decide +kernel
theorem dX11_signs_129 : decode cX11_signs 129 = .ok (.goto 18, 3) := by decide +kernel
theorem dX11_signs_132 : decode cX11_signs 132 = .ok (.aload_n 0, 1) := by decide +kernel
theorem dX11_signs_133 : decode cX11_signs 133 = .ok (.bipush 47, 2) := by decide +kernel
theorem dX11_signs_135 : decode cX11_signs 135 = .ok (.invokevirtual 206, 3) := by decide +kernel
theorem dX11_signs_138 : decode cX11_signs 138 = .ok (.ifCond .eq 8, 3) := by decide +kernel
theorem dX11_signs_141 : decode cX11_signs 141 = .ok (.bipush 14, 2) := by decide +kernel
theorem dX11_signs_143 : decode cX11_signs 143 = .ok (.goto 4, 3) := by decide +kernel
theorem dX11_signs_146 : decode cX11_signs 146 = .ok (.iconst 0, 1) := by decide +kernel
theorem dX11_signs_147 : decode cX11_signs 147 = .ok (.istore_n 1, 1) := by decide +kernel
theorem dX11_signs_148 : decode cX11_signs 148 = .ok (.iload_n 1, 1) := by decide +kernel
theorem dX11_signs_149 : decode cX11_signs 149 = .ok (.ifCond .ne 9, 3) := by decide +kernel
theorem dX11_signs_152 : decode cX11_signs 152 = .ok (.aload_n 0, 1) := by decide +kernel
theorem dX11_signs_153 : decode cX11_signs 153 = .ok (.iconst 1, 1) := by decide +kernel
theorem dX11_signs_154 : decode cX11_signs 154 = .ok (.invokevirtual 193, 3) := by decide +kernel
theorem dX11_signs_157 : decode cX11_signs 157 = .ok (.ireturn, 1) := by decide +kernel
theorem dX11_signs_158 : decode cX11_signs 158 = .ok (.aload_n 0, 1) := by decide +kernel
theorem dX11_signs_159 : decode cX11_signs 159 = .ok (.iload_n 1, 1) := by decide +kernel
theorem dX11_signs_160 : decode cX11_signs 160 = .ok (.invokestatic 292, 3) := by decide +kernel
theorem dX11_signs_163 : decode cX11_signs 163 = .ok (.iconst 4, 1) := by decide +kernel
theorem dX11_signs_164 : decode cX11_signs 164 = .ok (.if_icmp .ne 7, 3) := by decide +kernel
theorem dX11_signs_167 : decode cX11_signs 167 = .ok (.iconst 5, 1) := by decide +kernel
theorem dX11_signs_168 : decode cX11_signs 168 = .ok (.goto 7, 3) := by decide +kernel
theorem dX11_signs_171 : decode cX11_signs 171 = .ok (.iload_n 1, 1) := by decide +kernel
theorem dX11_signs_172 : decode cX11_signs 172 = .ok (.invokestatic 292, 3) := by decide +kernel
theorem dX11_signs_175 : decode cX11_signs 175 = .ok (.invokevirtual 327, 3) := by decide +kernel
theorem dX11_signs_178 : decode cX11_signs 178 = .ok (.iload_n 1, 1) := by decide +kernel
theorem dX11_signs_179 : decode cX11_signs 179 = .ok (.invokestatic 292, 3) := by decide +kernel
theorem dX11_signs_182 : decode cX11_signs 182 = .ok (.iconst 4, 1) := by decide +kernel
theorem dX11_signs_183 : decode cX11_signs 183 = .ok (.if_icmp .ne 34, 3) := by decide +kernel
theorem dX11_signs_186 : decode cX11_signs 186 = .ok (.aload_n 0, 1) := by decide +kernel
theorem dX11_signs_187 : decode cX11_signs 187 = .ok (.getfield 289, 3) := by decide +kernel
theorem dX11_signs_190 : decode cX11_signs 190 = .ok (.ifCond .le 27, 3) := by decide +kernel
theorem dX11_signs_193 : decode cX11_signs 193 = .ok (.aload_n 0, 1) := by decide +kernel
theorem dX11_signs_194 : decode cX11_signs 194 = .ok (.getfield 78, 3) := by decide +kernel
theorem dX11_signs_197 : decode cX11_signs 197 = .ok (.aload_n 0, 1) := by decide +kernel
theorem dX11_signs_198 : decode cX11_signs 198 = .ok (.getfield 289, 3) := by decide +kernel
theorem dX11_signs_201 : decode cX11_signs 201 = .ok (.iconst 1, 1) := by decide +kernel
theorem dX11_signs_202 : decode cX11_signs 202 = .ok (.isub, 1) := by decide +kernel
theorem dX11_signs_203 : decode cX11_signs 203 = .ok (.iaload, 1) := by decide +kernel
theorem dX11_signs_204 : decode cX11_signs 204 = .ok (.invokestatic 292, 3) := by decide +kernel
theorem dX11_signs_207 : decode cX11_signs 207 = .ok (.iconst 4, 1) := by decide +kernel
theorem dX11_signs_208 : decode cX11_signs 208 = .ok (.if_icmp .ne 9, 3) := by decide +kernel
theorem dX11_signs_211 : decode cX11_signs 211 = .ok (.aload_n 0, 1) := by decide +kernel
theorem dX11_signs_212 : decode cX11_signs 212 = .ok (.iconst 1, 1) := by decide +kernel
theorem dX11_signs_213 : decode cX11_signs 213 = .ok (.invokevirtual 193, 3) := by decide +kernel
theorem dX11_signs_216 : decode cX11_signs 216 = .ok (.ireturn, 1) := by decide +kernel
theorem dX11_signs_217 : decode cX11_signs 217 = .ok (.aload_n 0, 1) := by decide +kernel
theorem dX11_signs_218 : decode cX11_signs 218 = .ok (.invokevirtual 318, 3) := by decide +kernel
theorem dX11_signs_221 : decode cX11_signs 221 = .ok (.ifCond .ne 5, 3) := by decide +kernel
theorem dX11_signs_224 : decode cX11_signs 224 = .ok (.iconst 0, 1) := by decide +kernel
theorem dX11_signs_225 : decode cX11_signs 225 = .ok (.ireturn, 1) := by decide +kernel
theorem dX11_signs_226 : decode cX11_signs 226 = .ok (.aload_n 0, 1) := by decide +kernel
theorem dX11_signs_227 : decode cX11_signs 227 = .ok (.iload_n 1, 1) := by decide +kernel
theorem dX11_signs_228 : decode cX11_signs 228 = .ok (.invokevirtual 307, 3) := by decide +kernel
theorem dX11_signs_231 : decode cX11_signs 231 = .ok (.aload_n 0, 1) := by decide +kernel
theorem dX11_signs_232 : decode cX11_signs 232 = .ok (.iconst 1, 1) := by decide +kernel
theorem dX11_signs_233 : decode cX11_signs 233 = .ok (.putfield 324, 3) := by decide +kernel
theorem dX11_signs_236 : decode cX11_signs 236 = .ok (.aload_n 0, 1) := by decide +kernel
theorem dX11_signs_237 : decode cX11_signs 237 = .ok (.iload_n 1, 1) := by decide +kernel
theorem dX11_signs_238 : decode cX11_signs 238 = .ok (.invokestatic 292, 3) := by decide +kernel
theorem dX11_signs_241 : decode cX11_signs 241 = .ok (.iconst 3, 1) := by decide +kernel
theorem dX11_signs_242 : decode cX11_signs 242 = .ok (.if_icmp .ge 7, 3) := by decide +kernel
theorem dX11_signs_245 : decode cX11_signs 245 = .ok (.iconst 1, 1) := by decide +kernel
theorem dX11_signs_246 : decode cX11_signs 246 = .ok (.goto 4, 3) := by decide +kernel
theorem dX11_signs_249 : decode cX11_signs 249 = .ok (.iconst 0, 1) := by decide +kernel
theorem dX11_signs_250 : decode cX11_signs 250 = .ok (.putfield 311, 3) := by decide +kernel
theorem dX11_signs_253 : decode cX11_signs 253 = .ok (.aload_n 0, 1) := by decide +kernel
theorem dX11_signs_254 : decode cX11_signs 254 = .ok (.invokevirtual 203, 3) := by decide +kernel
theorem dX11_signs_257 : decode cX11_signs 257 = .ok (.iconst 1, 1) := by decide +kernel
theorem dX11_signs_258 : decode cX11_signs 258 = .ok (.ireturn, 1) := by decide +kernel
theorem dX11_sumRead_0 : decode cX11_sumRead 0 = .ok (.aload_n 0, 1) := by decide +kernel
theorem dX11_sumRead_1 : decode cX11_sumRead 1 = .ok (.iconst 0, 1) := by decide +kernel
theorem dX11_sumRead_2 : decode cX11_sumRead 2 = .ok (.putfield 289, 3) := by decide +kernel
theorem dX11_sumRead_5 : decode cX11_sumRead 5 = .ok (.aload_n 0, 1) := by decide +kernel
theorem dX11_sumRead_6 : decode cX11_sumRead 6 = .ok (.iconst 0, 1) := by decide +kernel
theorem dX11_sumRead_7 : decode cX11_sumRead 7 = .ok (.putfield 286, 3) := by decide +kernel
theorem dX11_sumRead_10 : decode cX11_sumRead 10 = .ok (.aload_n 0, 1) := by decide +kernel
theorem dX11_sumRead_11 : decode cX11_sumRead 11 = .ok (.iconst 0, 1) := by decide +kernel
theorem dX11_sumRead_12 : decode cX11_sumRead 12 = .ok (.putfield 304, 3) := by decide +kernel
theorem dX11_sumRead_15 : decode cX11_sumRead 15 = .ok (.aload_n 0, 1) := by decide +kernel
theorem dX11_sumRead_16 : decode cX11_sumRead 16 = .ok (.iconst 1, 1) := by decide +kernel
theorem dX11_sumRead_17 : decode cX11_sumRead 17 = .ok (.putfield 324, 3) := by decide +kernel
theorem dX11_sumRead_20 : decode cX11_sumRead 20 = .ok (.aload_n 0, 1) := by decide +kernel
theorem dX11_sumRead_21 : decode cX11_sumRead 21 = .ok (.iconst 1, 1) := by decide +kernel
theorem dX11_sumRead_22 : decode cX11_sumRead 22 = .ok (.putfield 311, 3) := by decide +kernel
theorem dX11_sumRead_25 : decode cX11_sumRead 25 = .ok (.aload_n 0, 1) := by decide +kernel
theorem dX11_sumRead_26 : decode cX11_sumRead 26 = .ok (.bipush 59, 2) := by decide +kernel
theorem dX11_sumRead_28 : decode cX11_sumRead 28 = .ok (.invokevirtual 206, 3) := by decide +kernel
theorem dX11_sumRead_31 : decode cX11_sumRead 31 = .ok (.ifCond .eq 17, 3) := by decide +kernel
theorem dX11_sumRead_34 : decode cX11_sumRead 34 = .ok (.aload_n 0, 1) := by decide +kernel
theorem dX11_sumRead_35 : decode cX11_sumRead 35 = .ok (.getfield 324, 3) := by decide +kernel
theorem dX11_sumRead_38 : decode cX11_sumRead 38 = .ok (.ifCond .ne 10, 3) := by decide +kernel
theorem dX11_sumRead_41 : decode cX11_sumRead 41 = .ok (.aload_n 0, 1) := by decide +kernel
theorem dX11_sumRead_42 : decode cX11_sumRead 42 = .ok (.getfield 304, 3) := by decide +kernel
theorem dX11_sumRead_45 : decode cX11_sumRead 45 = .ok (.ifCond .le 29, 3) := by decide +kernel
theorem dX11_sumRead_48 : decode cX11_sumRead 48 = .ok (.aload_n 0, 1) := by decide +kernel
theorem dX11_sumRead_49 : decode cX11_sumRead 49 = .ok (.getfield 324, 3) := by decide +kernel
theorem dX11_sumRead_52 : decode cX11_sumRead 52 = .ok (.ifCond .eq 13, 3) := by decide +kernel
theorem dX11_sumRead_55 : decode cX11_sumRead 55 = .ok (.aload_n 0, 1) := by decide +kernel
theorem dX11_sumRead_56 : decode cX11_sumRead 56 = .ok (.invokevirtual 330, 3) := by decide +kernel
theorem dX11_sumRead_59 : decode cX11_sumRead 59 = .ok (.ifCond .eq 13, 3) := by decide +kernel
theorem dX11_sumRead_62 : decode cX11_sumRead 62 = .ok (.goto (-37), 3) := by decide +kernel
theorem dX11_sumRead_65 : decode cX11_sumRead 65 = .ok (.aload_n 0, 1) := by decide +kernel
theorem dX11_sumRead_66 : decode cX11_sumRead 66 = .ok (.invokevirtual 333, 3) := by decide +kernel
theorem dX11_sumRead_69 : decode cX11_sumRead 69 = .ok (.ifCond .ne (-44), 3) := by decide +kernel
theorem dX11_sumRead_72 : decode cX11_sumRead 72 = .ok (.iconst 0, 1) := by decide +kernel
theorem dX11_sumRead_73 : decode cX11_sumRead 73 = .ok (.ireturn, 1) := by decide +kernel
theorem dX11_sumRead_74 : decode cX11_sumRead 74 = .ok (.aload_n 0, 1) := by decide +kernel
theorem dX11_sumRead_75 : decode cX11_sumRead 75 = .ok (.iconst 1, 1) := by decide +kernel
theorem dX11_sumRead_76 : decode cX11_sumRead 76 = .ok (.invokevirtual 327, 3) := by decide +kernel
theorem dX11_sumRead_79 : decode cX11_sumRead 79 = .ok (.iconst 1, 1) := by decide +kernel
theorem dX11_sumRead_80 : decode cX11_sumRead 80 = .ok (.ireturn, 1) := by decide +kernel
theorem dX11_bounded_0 : decode cX11_bounded 0 = .ok (.aload_n 0, 1) := by decide +kernel
theorem dX11_bounded_1 : decode cX11_bounded 1 = .ok (.aload_n 0, 1) := by decide +kernel
theorem dX11_bounded_2 : decode cX11_bounded 2 = .ok (.getfield 336, 3) := by decide +kernel
theorem dX11_bounded_5 : decode cX11_bounded 5 = .ok (.ifCond .ne 19, 3) := by decide +kernel
theorem dX11_bounded_8 : decode cX11_bounded 8 = .ok (.lload_n 1, 1) := by decide +kernel
theorem dX11_bounded_9 : decode cX11_bounded 9 = .ok (.ldc2_w 339, 3) := by decide +kernel
theorem dX11_bounded_12 : decode cX11_bounded 12 = .ok (.lcmp, 1) := by decide +kernel
theorem dX11_bounded_13 : decode cX11_bounded 13 = .ok (.ifCond .gt 11, 3) := by decide +kernel
theorem dX11_bounded_16 : decode cX11_bounded 16 = .ok (.lload_n 1, 1) := by decide +kernel
theorem dX11_bounded_17 : decode cX11_bounded 17 = .ok (.ldc2_w 341, 3) := by decide +kernel
theorem dX11_bounded_20 : decode cX11_bounded 20 = .ok (.lcmp, 1) := by decide +kernel
theorem dX11_bounded_21 : decode cX11_bounded 21 = .ok (.ifCond .ge 7, 3) := by decide +kernel
theorem dX11_bounded_24 : decode cX11_bounded 24 = .ok (.iconst 1, 1) := by decide +kernel
theorem dX11_bounded_25 : decode cX11_bounded 25 = .ok (.goto 4, 3) := by decide +kernel
theorem dX11_bounded_28 : decode cX11_bounded 28 = .ok (.iconst 0, 1) := by decide +kernel
theorem dX11_bounded_29 : decode cX11_bounded 29 = .ok (.putfield 336, 3) := by decide +kernel
theorem dX11_bounded_32 : decode cX11_bounded 32 = .ok (.aload_n 0, 1) := by decide +kernel
theorem dX11_bounded_33 : decode cX11_bounded 33 = .ok (.getfield 336, 3) := by decide +kernel
theorem dX11_bounded_36 : decode cX11_bounded 36 = .ok (.ifCond .eq 7, 3) := by decide +kernel
theorem dX11_bounded_39 : decode cX11_bounded 39 = .ok (.lconst 0, 1) := by decide +kernel
theorem dX11_bounded_40 : decode cX11_bounded 40 = .ok (.goto 4, 3) := by decide +kernel
theorem dX11_bounded_43 : decode cX11_bounded 43 = .ok (.lload_n 1, 1) := by decide +kernel
theorem dX11_bounded_44 : decode cX11_bounded 44 = .ok (.lreturn, 1) := by decide +kernel
theorem dX11_compares_0 : decode cX11_compares 0 = .ok (.iload_n 0, 1) := by decide +kernel
theorem dX11_compares_1 : decode cX11_compares 1 = .ok (.tableswitch 95 5 9 #[35, 47, 59, 71, 83], 35) := by decide +kernel
theorem dX11_compares_36 : decode cX11_compares 36 = .ok (.lload_n 1, 1) := by decide +kernel
theorem dX11_compares_37 : decode cX11_compares 37 = .ok (.lload_n 3, 1) := by decide +kernel
theorem dX11_compares_38 : decode cX11_compares 38 = .ok (.lcmp, 1) := by decide +kernel
theorem dX11_compares_39 : decode cX11_compares 39 = .ok (.ifCond .ge 7, 3) := by decide +kernel
theorem dX11_compares_42 : decode cX11_compares 42 = .ok (.iconst 1, 1) := by decide +kernel
theorem dX11_compares_43 : decode cX11_compares 43 = .ok (.goto 4, 3) := by decide +kernel
theorem dX11_compares_46 : decode cX11_compares 46 = .ok (.iconst 0, 1) := by decide +kernel
theorem dX11_compares_47 : decode cX11_compares 47 = .ok (.ireturn, 1) := by decide +kernel
theorem dX11_compares_48 : decode cX11_compares 48 = .ok (.lload_n 1, 1) := by decide +kernel
theorem dX11_compares_49 : decode cX11_compares 49 = .ok (.lload_n 3, 1) := by decide +kernel
theorem dX11_compares_50 : decode cX11_compares 50 = .ok (.lcmp, 1) := by decide +kernel
theorem dX11_compares_51 : decode cX11_compares 51 = .ok (.ifCond .gt 7, 3) := by decide +kernel
theorem dX11_compares_54 : decode cX11_compares 54 = .ok (.iconst 1, 1) := by decide +kernel
theorem dX11_compares_55 : decode cX11_compares 55 = .ok (.goto 4, 3) := by decide +kernel
theorem dX11_compares_58 : decode cX11_compares 58 = .ok (.iconst 0, 1) := by decide +kernel
theorem dX11_compares_59 : decode cX11_compares 59 = .ok (.ireturn, 1) := by decide +kernel
theorem dX11_compares_60 : decode cX11_compares 60 = .ok (.lload_n 1, 1) := by decide +kernel
theorem dX11_compares_61 : decode cX11_compares 61 = .ok (.lload_n 3, 1) := by decide +kernel
theorem dX11_compares_62 : decode cX11_compares 62 = .ok (.lcmp, 1) := by decide +kernel
theorem dX11_compares_63 : decode cX11_compares 63 = .ok (.ifCond .ne 7, 3) := by decide +kernel
theorem dX11_compares_66 : decode cX11_compares 66 = .ok (.iconst 1, 1) := by decide +kernel
theorem dX11_compares_67 : decode cX11_compares 67 = .ok (.goto 4, 3) := by decide +kernel
theorem dX11_compares_70 : decode cX11_compares 70 = .ok (.iconst 0, 1) := by decide +kernel
theorem dX11_compares_71 : decode cX11_compares 71 = .ok (.ireturn, 1) := by decide +kernel
theorem dX11_compares_72 : decode cX11_compares 72 = .ok (.lload_n 1, 1) := by decide +kernel
theorem dX11_compares_73 : decode cX11_compares 73 = .ok (.lload_n 3, 1) := by decide +kernel
theorem dX11_compares_74 : decode cX11_compares 74 = .ok (.lcmp, 1) := by decide +kernel
theorem dX11_compares_75 : decode cX11_compares 75 = .ok (.ifCond .eq 7, 3) := by decide +kernel
theorem dX11_compares_78 : decode cX11_compares 78 = .ok (.iconst 1, 1) := by decide +kernel
theorem dX11_compares_79 : decode cX11_compares 79 = .ok (.goto 4, 3) := by decide +kernel
theorem dX11_compares_82 : decode cX11_compares 82 = .ok (.iconst 0, 1) := by decide +kernel
theorem dX11_compares_83 : decode cX11_compares 83 = .ok (.ireturn, 1) := by decide +kernel
theorem dX11_compares_84 : decode cX11_compares 84 = .ok (.lload_n 1, 1) := by decide +kernel
theorem dX11_compares_85 : decode cX11_compares 85 = .ok (.lload_n 3, 1) := by decide +kernel
theorem dX11_compares_86 : decode cX11_compares 86 = .ok (.lcmp, 1) := by decide +kernel
theorem dX11_compares_87 : decode cX11_compares 87 = .ok (.ifCond .lt 7, 3) := by decide +kernel
theorem dX11_compares_90 : decode cX11_compares 90 = .ok (.iconst 1, 1) := by decide +kernel
theorem dX11_compares_91 : decode cX11_compares 91 = .ok (.goto 4, 3) := by decide +kernel
theorem dX11_compares_94 : decode cX11_compares 94 = .ok (.iconst 0, 1) := by decide +kernel
theorem dX11_compares_95 : decode cX11_compares 95 = .ok (.ireturn, 1) := by decide +kernel
theorem dX11_compares_96 : decode cX11_compares 96 = .ok (.lload_n 1, 1) := by decide +kernel
theorem dX11_compares_97 : decode cX11_compares 97 = .ok (.lload_n 3, 1) := by decide +kernel
theorem dX11_compares_98 : decode cX11_compares 98 = .ok (.lcmp, 1) := by decide +kernel
theorem dX11_compares_99 : decode cX11_compares 99 = .ok (.ifCond .le 7, 3) := by decide +kernel
theorem dX11_compares_102 : decode cX11_compares 102 = .ok (.iconst 1, 1) := by decide +kernel
theorem dX11_compares_103 : decode cX11_compares 103 = .ok (.goto 4, 3) := by decide +kernel
theorem dX11_compares_106 : decode cX11_compares 106 = .ok (.iconst 0, 1) := by decide +kernel
theorem dX11_compares_107 : decode cX11_compares 107 = .ok (.ireturn, 1) := by decide +kernel
theorem dX11_times_0 : decode cX11_times 0 = .ok (.lload_n 1, 1) := by decide +kernel
theorem dX11_times_1 : decode cX11_times 1 = .ok (.lconst 0, 1) := by decide +kernel
theorem dX11_times_2 : decode cX11_times 2 = .ok (.lcmp, 1) := by decide +kernel
theorem dX11_times_3 : decode cX11_times 3 = .ok (.ifCond .eq 45, 3) := by decide +kernel
theorem dX11_times_6 : decode cX11_times 6 = .ok (.lload_n 3, 1) := by decide +kernel
theorem dX11_times_7 : decode cX11_times 7 = .ok (.lconst 0, 1) := by decide +kernel
theorem dX11_times_8 : decode cX11_times 8 = .ok (.lcmp, 1) := by decide +kernel
theorem dX11_times_9 : decode cX11_times 9 = .ok (.ifCond .eq 39, 3) := by decide +kernel
theorem dX11_times_12 : decode cX11_times 12 = .ok (.lload_n 3, 1) := by decide +kernel
theorem dX11_times_13 : decode cX11_times 13 = .ok (.lconst 0, 1) := by decide +kernel
theorem dX11_times_14 : decode cX11_times 14 = .ok (.lcmp, 1) := by decide +kernel
theorem dX11_times_15 : decode cX11_times 15 = .ok (.ifCond .ge 8, 3) := by decide +kernel
theorem dX11_times_18 : decode cX11_times 18 = .ok (.lload_n 3, 1) := by decide +kernel
theorem dX11_times_19 : decode cX11_times 19 = .ok (.lneg, 1) := by decide +kernel
theorem dX11_times_20 : decode cX11_times 20 = .ok (.goto 4, 3) := by decide +kernel
theorem dX11_times_23 : decode cX11_times 23 = .ok (.lload_n 3, 1) := by decide +kernel
theorem dX11_times_24 : decode cX11_times 24 = .ok (.ldc2_w 339, 3) := by decide +kernel
theorem dX11_times_27 : decode cX11_times 27 = .ok (.lload_n 1, 1) := by decide +kernel
theorem dX11_times_28 : decode cX11_times 28 = .ok (.lconst 0, 1) := by decide +kernel
theorem dX11_times_29 : decode cX11_times 29 = .ok (.lcmp, 1) := by decide +kernel
theorem dX11_times_30 : decode cX11_times 30 = .ok (.ifCond .ge 8, 3) := by decide +kernel
theorem dX11_times_33 : decode cX11_times 33 = .ok (.lload_n 1, 1) := by decide +kernel
theorem dX11_times_34 : decode cX11_times 34 = .ok (.lneg, 1) := by decide +kernel
theorem dX11_times_35 : decode cX11_times 35 = .ok (.goto 4, 3) := by decide +kernel
theorem dX11_times_38 : decode cX11_times 38 = .ok (.lload_n 1, 1) := by decide +kernel
theorem dX11_times_39 : decode cX11_times 39 = .ok (.ldiv, 1) := by decide +kernel
theorem dX11_times_40 : decode cX11_times 40 = .ok (.lcmp, 1) := by decide +kernel
theorem dX11_times_41 : decode cX11_times 41 = .ok (.ifCond .le 7, 3) := by decide +kernel
theorem dX11_times_44 : decode cX11_times 44 = .ok (.iconst 1, 1) := by decide +kernel
theorem dX11_times_45 : decode cX11_times 45 = .ok (.goto 4, 3) := by decide +kernel
theorem dX11_times_48 : decode cX11_times 48 = .ok (.iconst 0, 1) := by decide +kernel
theorem dX11_times_49 : decode cX11_times 49 = .ok (.istore 5, 2) := by decide +kernel
theorem dX11_times_51 : decode cX11_times 51 = .ok (.aload_n 0, 1) := by decide +kernel
theorem dX11_times_52 : decode cX11_times 52 = .ok (.aload_n 0, 1) := by decide +kernel
theorem dX11_times_53 : decode cX11_times 53 = .ok (.getfield 336, 3) := by decide +kernel
theorem dX11_times_56 : decode cX11_times 56 = .ok (.ifCond .ne 8, 3) := by decide +kernel
theorem dX11_times_59 : decode cX11_times 59 = .ok (.iload 5, 2) := by decide +kernel
theorem dX11_times_61 : decode cX11_times 61 = .ok (.ifCond .eq 7, 3) := by decide +kernel
theorem dX11_times_64 : decode cX11_times 64 = .ok (.iconst 1, 1) := by decide +kernel
theorem dX11_times_65 : decode cX11_times 65 = .ok (.goto 4, 3) := by decide +kernel
theorem dX11_times_68 : decode cX11_times 68 = .ok (.iconst 0, 1) := by decide +kernel
theorem dX11_times_69 : decode cX11_times 69 = .ok (.putfield 336, 3) := by decide +kernel
theorem dX11_times_72 : decode cX11_times 72 = .ok (.aload_n 0, 1) := by decide +kernel
theorem dX11_times_73 : decode cX11_times 73 = .ok (.getfield 336, 3) := by decide +kernel
theorem dX11_times_76 : decode cX11_times 76 = .ok (.ifCond .eq 7, 3) := by decide +kernel
theorem dX11_times_79 : decode cX11_times 79 = .ok (.lconst 0, 1) := by decide +kernel
theorem dX11_times_80 : decode cX11_times 80 = .ok (.goto 6, 3) := by decide +kernel
theorem dX11_times_83 : decode cX11_times 83 = .ok (.lload_n 1, 1) := by decide +kernel
theorem dX11_times_84 : decode cX11_times 84 = .ok (.lload_n 3, 1) := by decide +kernel
theorem dX11_times_85 : decode cX11_times 85 = .ok (.lmul, 1) := by decide +kernel
theorem dX11_times_86 : decode cX11_times 86 = .ok (.lreturn, 1) := by decide +kernel
theorem dX11_valueOf_0 : decode cX11_valueOf 0 = .ok (.aload_n 0, 1) := by decide +kernel
theorem dX11_valueOf_1 : decode cX11_valueOf 1 = .ok (.getfield 69, 3) := by decide +kernel
theorem dX11_valueOf_4 : decode cX11_valueOf 4 = .ok (.iload_n 1, 1) := by decide +kernel
theorem dX11_valueOf_5 : decode cX11_valueOf 5 = .ok (.iaload, 1) := by decide +kernel
theorem dX11_valueOf_6 : decode cX11_valueOf 6 = .ok (.ifCond .ne 11, 3) := by decide +kernel
theorem dX11_valueOf_9 : decode cX11_valueOf 9 = .ok (.aload_n 0, 1) := by decide +kernel
theorem dX11_valueOf_10 : decode cX11_valueOf 10 = .ok (.getfield 72, 3) := by decide +kernel
theorem dX11_valueOf_13 : decode cX11_valueOf 13 = .ok (.iload_n 1, 1) := by decide +kernel
theorem dX11_valueOf_14 : decode cX11_valueOf 14 = .ok (.iaload, 1) := by decide +kernel
theorem dX11_valueOf_15 : decode cX11_valueOf 15 = .ok (.i2l, 1) := by decide +kernel
theorem dX11_valueOf_16 : decode cX11_valueOf 16 = .ok (.lreturn, 1) := by decide +kernel
theorem dX11_valueOf_17 : decode cX11_valueOf 17 = .ok (.aload_n 0, 1) := by decide +kernel
theorem dX11_valueOf_18 : decode cX11_valueOf 18 = .ok (.getfield 69, 3) := by decide +kernel
theorem dX11_valueOf_21 : decode cX11_valueOf 21 = .ok (.iload_n 1, 1) := by decide +kernel
theorem dX11_valueOf_22 : decode cX11_valueOf 22 = .ok (.iaload, 1) := by decide +kernel
theorem dX11_valueOf_23 : decode cX11_valueOf 23 = .ok (.iconst 1, 1) := by decide +kernel
theorem dX11_valueOf_24 : decode cX11_valueOf 24 = .ok (.if_icmp .ne 15, 3) := by decide +kernel
theorem dX11_valueOf_27 : decode cX11_valueOf 27 = .ok (.aload_n 0, 1) := by decide +kernel
theorem dX11_valueOf_28 : decode cX11_valueOf 28 = .ok (.getfield 84, 3) := by decide +kernel
theorem dX11_valueOf_31 : decode cX11_valueOf 31 = .ok (.aload_n 0, 1) := by decide +kernel
theorem dX11_valueOf_32 : decode cX11_valueOf 32 = .ok (.getfield 72, 3) := by decide +kernel
theorem dX11_valueOf_35 : decode cX11_valueOf 35 = .ok (.iload_n 1, 1) := by decide +kernel
theorem dX11_valueOf_36 : decode cX11_valueOf 36 = .ok (.iaload, 1) := by decide +kernel
theorem dX11_valueOf_37 : decode cX11_valueOf 37 = .ok (.laload, 1) := by decide +kernel
theorem dX11_valueOf_38 : decode cX11_valueOf 38 = .ok (.lreturn, 1) := by decide +kernel
theorem dX11_valueOf_39 : decode cX11_valueOf 39 = .ok (.aload_n 0, 1) := by decide +kernel
theorem dX11_valueOf_40 : decode cX11_valueOf 40 = .ok (.getfield 88, 3) := by decide +kernel
theorem dX11_valueOf_43 : decode cX11_valueOf 43 = .ok (.aload_n 0, 1) := by decide +kernel
theorem dX11_valueOf_44 : decode cX11_valueOf 44 = .ok (.getfield 72, 3) := by decide +kernel
theorem dX11_valueOf_47 : decode cX11_valueOf 47 = .ok (.iload_n 1, 1) := by decide +kernel
theorem dX11_valueOf_48 : decode cX11_valueOf 48 = .ok (.iaload, 1) := by decide +kernel
theorem dX11_valueOf_49 : decode cX11_valueOf 49 = .ok (.laload, 1) := by decide +kernel
theorem dX11_valueOf_50 : decode cX11_valueOf 50 = .ok (.lstore_n 2, 1) := by decide +kernel
theorem dX11_valueOf_51 : decode cX11_valueOf 51 = .ok (.aload_n 0, 1) := by decide +kernel
theorem dX11_valueOf_52 : decode cX11_valueOf 52 = .ok (.getfield 69, 3) := by decide +kernel
theorem dX11_valueOf_55 : decode cX11_valueOf 55 = .ok (.iload_n 1, 1) := by decide +kernel
theorem dX11_valueOf_56 : decode cX11_valueOf 56 = .ok (.iaload, 1) := by decide +kernel
theorem dX11_valueOf_57 : decode cX11_valueOf 57 = .ok (.iconst 2, 1) := by decide +kernel
theorem dX11_valueOf_58 : decode cX11_valueOf 58 = .ok (.if_icmp .ne 15, 3) := by decide +kernel
theorem dX11_valueOf_61 : decode cX11_valueOf 61 = .ok (.lload_n 2, 1) := by decide +kernel
theorem dX11_valueOf_62 : decode cX11_valueOf 62 = .ok (.lconst 0, 1) := by decide +kernel
theorem dX11_valueOf_63 : decode cX11_valueOf 63 = .ok (.lcmp, 1) := by decide +kernel
theorem dX11_valueOf_64 : decode cX11_valueOf 64 = .ok (.ifCond .ne 7, 3) := by decide +kernel
theorem dX11_valueOf_67 : decode cX11_valueOf 67 = .ok (.lconst 1, 1) := by decide +kernel
theorem dX11_valueOf_68 : decode cX11_valueOf 68 = .ok (.goto 4, 3) := by decide +kernel
theorem dX11_valueOf_71 : decode cX11_valueOf 71 = .ok (.lconst 0, 1) := by decide +kernel
theorem dX11_valueOf_72 : decode cX11_valueOf 72 = .ok (.lreturn, 1) := by decide +kernel
theorem dX11_valueOf_73 : decode cX11_valueOf 73 = .ok (.aload_n 0, 1) := by decide +kernel
theorem dX11_valueOf_74 : decode cX11_valueOf 74 = .ok (.getfield 88, 3) := by decide +kernel
theorem dX11_valueOf_77 : decode cX11_valueOf 77 = .ok (.aload_n 0, 1) := by decide +kernel
theorem dX11_valueOf_78 : decode cX11_valueOf 78 = .ok (.getfield 75, 3) := by decide +kernel
theorem dX11_valueOf_81 : decode cX11_valueOf 81 = .ok (.iload_n 1, 1) := by decide +kernel
theorem dX11_valueOf_82 : decode cX11_valueOf 82 = .ok (.iaload, 1) := by decide +kernel
theorem dX11_valueOf_83 : decode cX11_valueOf 83 = .ok (.laload, 1) := by decide +kernel
theorem dX11_valueOf_84 : decode cX11_valueOf 84 = .ok (.lstore 4, 2) := by decide +kernel
theorem dX11_valueOf_86 : decode cX11_valueOf 86 = .ok (.aload_n 0, 1) := by decide +kernel
theorem dX11_valueOf_87 : decode cX11_valueOf 87 = .ok (.getfield 69, 3) := by decide +kernel
theorem dX11_valueOf_90 : decode cX11_valueOf 90 = .ok (.iload_n 1, 1) := by decide +kernel
theorem dX11_valueOf_91 : decode cX11_valueOf 91 = .ok (.iaload, 1) := by decide +kernel
theorem dX11_valueOf_92 : decode cX11_valueOf 92 = .ok (.tableswitch 167 3 14 #[64, 83, 167, 167, 167, 167, 167, 167, 102, 111, 120, 128], 64) := by decide +kernel
theorem dX11_valueOf_156 : decode cX11_valueOf 156 = .ok (.lload_n 2, 1) := by decide +kernel
theorem dX11_valueOf_157 : decode cX11_valueOf 157 = .ok (.lconst 0, 1) := by decide +kernel
theorem dX11_valueOf_158 : decode cX11_valueOf 158 = .ok (.lcmp, 1) := by decide +kernel
theorem dX11_valueOf_159 : decode cX11_valueOf 159 = .ok (.ifCond .eq 14, 3) := by decide +kernel
theorem dX11_valueOf_162 : decode cX11_valueOf 162 = .ok (.lload 4, 2) := by decide +kernel
theorem dX11_valueOf_164 : decode cX11_valueOf 164 = .ok (.lconst 0, 1) := by decide +kernel
theorem dX11_valueOf_165 : decode cX11_valueOf 165 = .ok (.lcmp, 1) := by decide +kernel
theorem dX11_valueOf_166 : decode cX11_valueOf 166 = .ok (.ifCond .eq 7, 3) := by decide +kernel
theorem dX11_valueOf_169 : decode cX11_valueOf 169 = .ok (.lconst 1, 1) := by decide +kernel
theorem dX11_valueOf_170 : decode cX11_valueOf 170 = .ok (.goto 4, 3) := by decide +kernel
theorem dX11_valueOf_173 : decode cX11_valueOf 173 = .ok (.lconst 0, 1) := by decide +kernel
theorem dX11_valueOf_174 : decode cX11_valueOf 174 = .ok (.lreturn, 1) := by decide +kernel
theorem dX11_valueOf_175 : decode cX11_valueOf 175 = .ok (.lload_n 2, 1) := by decide +kernel
theorem dX11_valueOf_176 : decode cX11_valueOf 176 = .ok (.lconst 0, 1) := by decide +kernel
theorem dX11_valueOf_177 : decode cX11_valueOf 177 = .ok (.lcmp, 1) := by decide +kernel
theorem dX11_valueOf_178 : decode cX11_valueOf 178 = .ok (.ifCond .ne 10, 3) := by decide +kernel
theorem dX11_valueOf_181 : decode cX11_valueOf 181 = .ok (.lload 4, 2) := by decide +kernel
theorem dX11_valueOf_183 : decode cX11_valueOf 183 = .ok (.lconst 0, 1) := by decide +kernel
theorem dX11_valueOf_184 : decode cX11_valueOf 184 = .ok (.lcmp, 1) := by decide +kernel
theorem dX11_valueOf_185 : decode cX11_valueOf 185 = .ok (.ifCond .eq 7, 3) := by decide +kernel
theorem dX11_valueOf_188 : decode cX11_valueOf 188 = .ok (.lconst 1, 1) := by decide +kernel
theorem dX11_valueOf_189 : decode cX11_valueOf 189 = .ok (.goto 4, 3) := by decide +kernel
theorem dX11_valueOf_192 : decode cX11_valueOf 192 = .ok (.lconst 0, 1) := by decide +kernel
theorem dX11_valueOf_193 : decode cX11_valueOf 193 = .ok (.lreturn, 1) := by decide +kernel
theorem dX11_valueOf_194 : decode cX11_valueOf 194 = .ok (.aload_n 0, 1) := by decide +kernel
theorem dX11_valueOf_195 : decode cX11_valueOf 195 = .ok (.lload_n 2, 1) := by decide +kernel
theorem dX11_valueOf_196 : decode cX11_valueOf 196 = .ok (.lload 4, 2) := by decide +kernel
theorem dX11_valueOf_198 : decode cX11_valueOf 198 = .ok (.ladd, 1) := by decide +kernel
theorem dX11_valueOf_199 : decode cX11_valueOf 199 = .ok (.invokevirtual 343, 3) := by decide +kernel
theorem dX11_valueOf_202 : decode cX11_valueOf 202 = .ok (.lreturn, 1) := by decide +kernel
theorem dX11_valueOf_203 : decode cX11_valueOf 203 = .ok (.aload_n 0, 1) := by decide +kernel
theorem dX11_valueOf_204 : decode cX11_valueOf 204 = .ok (.lload_n 2, 1) := by decide +kernel
theorem dX11_valueOf_205 : decode cX11_valueOf 205 = .ok (.lload 4, 2) := by decide +kernel
theorem dX11_valueOf_207 : decode cX11_valueOf 207 = .ok (.lsub, 1) := by decide +kernel
theorem dX11_valueOf_208 : decode cX11_valueOf 208 = .ok (.invokevirtual 343, 3) := by decide +kernel
theorem dX11_valueOf_211 : decode cX11_valueOf 211 = .ok (.lreturn, 1) := by decide +kernel
theorem dX11_valueOf_212 : decode cX11_valueOf 212 = .ok (.aload_n 0, 1) := by decide +kernel
theorem dX11_valueOf_213 : decode cX11_valueOf 213 = .ok (.lload_n 2, 1) := by decide +kernel
theorem dX11_valueOf_214 : decode cX11_valueOf 214 = .ok (.lload 4, 2) := by decide +kernel
theorem dX11_valueOf_216 : decode cX11_valueOf 216 = .ok (.invokevirtual 347, 3) := by decide +kernel
theorem dX11_valueOf_219 : decode cX11_valueOf 219 = .ok (.lreturn, 1) := by decide +kernel
theorem dX11_valueOf_220 : decode cX11_valueOf 220 = .ok (.aload_n 0, 1) := by decide +kernel
theorem dX11_valueOf_221 : decode cX11_valueOf 221 = .ok (.aload_n 0, 1) := by decide +kernel
theorem dX11_valueOf_222 : decode cX11_valueOf 222 = .ok (.getfield 336, 3) := by decide +kernel
theorem dX11_valueOf_225 : decode cX11_valueOf 225 = .ok (.ifCond .ne 10, 3) := by decide +kernel
theorem dX11_valueOf_228 : decode cX11_valueOf 228 = .ok (.lload 4, 2) := by decide +kernel
theorem dX11_valueOf_230 : decode cX11_valueOf 230 = .ok (.lconst 0, 1) := by decide +kernel
theorem dX11_valueOf_231 : decode cX11_valueOf 231 = .ok (.lcmp, 1) := by decide +kernel
theorem dX11_valueOf_232 : decode cX11_valueOf 232 = .ok (.ifCond .ne 7, 3) := by decide +kernel
theorem dX11_valueOf_235 : decode cX11_valueOf 235 = .ok (.iconst 1, 1) := by decide +kernel
theorem dX11_valueOf_236 : decode cX11_valueOf 236 = .ok (.goto 4, 3) := by decide +kernel
theorem dX11_valueOf_239 : decode cX11_valueOf 239 = .ok (.iconst 0, 1) := by decide +kernel
theorem dX11_valueOf_240 : decode cX11_valueOf 240 = .ok (.putfield 336, 3) := by decide +kernel
theorem dX11_valueOf_243 : decode cX11_valueOf 243 = .ok (.aload_n 0, 1) := by decide +kernel
theorem dX11_valueOf_244 : decode cX11_valueOf 244 = .ok (.getfield 336, 3) := by decide +kernel
theorem dX11_valueOf_247 : decode cX11_valueOf 247 = .ok (.ifCond .eq 7, 3) := by decide +kernel
theorem dX11_valueOf_250 : decode cX11_valueOf 250 = .ok (.lconst 0, 1) := by decide +kernel
theorem dX11_valueOf_251 : decode cX11_valueOf 251 = .ok (.goto 7, 3) := by decide +kernel
theorem dX11_valueOf_254 : decode cX11_valueOf 254 = .ok (.lload_n 2, 1) := by decide +kernel
theorem dX11_valueOf_255 : decode cX11_valueOf 255 = .ok (.lload 4, 2) := by decide +kernel
theorem dX11_valueOf_257 : decode cX11_valueOf 257 = .ok (.ldiv, 1) := by decide +kernel
theorem dX11_valueOf_258 : decode cX11_valueOf 258 = .ok (.lreturn, 1) := by decide +kernel
theorem dX11_valueOf_259 : decode cX11_valueOf 259 = .ok (.aload_n 0, 1) := by decide +kernel
theorem dX11_valueOf_260 : decode cX11_valueOf 260 = .ok (.getfield 69, 3) := by decide +kernel
theorem dX11_valueOf_263 : decode cX11_valueOf 263 = .ok (.iload_n 1, 1) := by decide +kernel
theorem dX11_valueOf_264 : decode cX11_valueOf 264 = .ok (.iaload, 1) := by decide +kernel
theorem dX11_valueOf_265 : decode cX11_valueOf 265 = .ok (.lload_n 2, 1) := by decide +kernel
theorem dX11_valueOf_266 : decode cX11_valueOf 266 = .ok (.lload 4, 2) := by decide +kernel
theorem dX11_valueOf_268 : decode cX11_valueOf 268 = .ok (.invokestatic 351, 3) := by decide +kernel
theorem dX11_valueOf_271 : decode cX11_valueOf 271 = .ok (.ifCond .eq 7, 3) := by decide +kernel
theorem dX11_valueOf_274 : decode cX11_valueOf 274 = .ok (.lconst 1, 1) := by decide +kernel
theorem dX11_valueOf_275 : decode cX11_valueOf 275 = .ok (.goto 4, 3) := by decide +kernel
theorem dX11_valueOf_278 : decode cX11_valueOf 278 = .ok (.lconst 0, 1) := by decide +kernel
theorem dX11_valueOf_279 : decode cX11_valueOf 279 = .ok (.lreturn, 1) := by decide +kernel
theorem dX11_begin_0 : decode cX11_begin 0 = .ok (.iconst 0, 1) := by decide +kernel
theorem dX11_begin_1 : decode cX11_begin 1 = .ok (.istore_n 1, 1) := by decide +kernel
theorem dX11_begin_2 : decode cX11_begin 2 = .ok (.iload_n 1, 1) := by decide +kernel
theorem dX11_begin_3 : decode cX11_begin 3 = .ok (.bipush 6, 2) := by decide +kernel
theorem dX11_begin_5 : decode cX11_begin 5 = .ok (.if_icmp .ge 49, 3) := by decide +kernel
theorem dX11_begin_8 : decode cX11_begin 8 = .ok (.aload_n 0, 1) := by decide +kernel
theorem dX11_begin_9 : decode cX11_begin 9 = .ok (.getfield 91, 3) := by decide +kernel
theorem dX11_begin_12 : decode cX11_begin 12 = .ok (.iload_n 1, 1) := by decide +kernel
theorem dX11_begin_13 : decode cX11_begin 13 = .ok (.aload_n 0, 1) := by decide +kernel
theorem dX11_begin_14 : decode cX11_begin 14 = .ok (.getfield 39, 3) := by decide +kernel
theorem dX11_begin_17 : decode cX11_begin 17 = .ok (.iload_n 1, 1) := by decide +kernel
theorem dX11_begin_18 : decode cX11_begin 18 = .ok (.iaload, 1) := by decide +kernel
theorem dX11_begin_19 : decode cX11_begin 19 = .ok (.iastore, 1) := by decide +kernel
theorem dX11_begin_20 : decode cX11_begin 20 = .ok (.aload_n 0, 1) := by decide +kernel
theorem dX11_begin_21 : decode cX11_begin 21 = .ok (.getfield 94, 3) := by decide +kernel
theorem dX11_begin_24 : decode cX11_begin 24 = .ok (.iload_n 1, 1) := by decide +kernel
theorem dX11_begin_25 : decode cX11_begin 25 = .ok (.iconst 0, 1) := by decide +kernel
theorem dX11_begin_26 : decode cX11_begin 26 = .ok (.iastore, 1) := by decide +kernel
theorem dX11_begin_27 : decode cX11_begin 27 = .ok (.aload_n 0, 1) := by decide +kernel
theorem dX11_begin_28 : decode cX11_begin 28 = .ok (.getfield 97, 3) := by decide +kernel
theorem dX11_begin_31 : decode cX11_begin 31 = .ok (.iload_n 1, 1) := by decide +kernel
theorem dX11_begin_32 : decode cX11_begin 32 = .ok (.iconst 0, 1) := by decide +kernel
theorem dX11_begin_33 : decode cX11_begin 33 = .ok (.iastore, 1) := by decide +kernel
theorem dX11_begin_34 : decode cX11_begin 34 = .ok (.aload_n 0, 1) := by decide +kernel
theorem dX11_begin_35 : decode cX11_begin 35 = .ok (.getfield 100, 3) := by decide +kernel
theorem dX11_begin_38 : decode cX11_begin 38 = .ok (.iload_n 1, 1) := by decide +kernel
theorem dX11_begin_39 : decode cX11_begin 39 = .ok (.iconst 0, 1) := by decide +kernel
theorem dX11_begin_40 : decode cX11_begin 40 = .ok (.iastore, 1) := by decide +kernel
theorem dX11_begin_41 : decode cX11_begin 41 = .ok (.aload_n 0, 1) := by decide +kernel
theorem dX11_begin_42 : decode cX11_begin 42 = .ok (.getfield 103, 3) := by decide +kernel
theorem dX11_begin_45 : decode cX11_begin 45 = .ok (.iload_n 1, 1) := by decide +kernel
theorem dX11_begin_46 : decode cX11_begin 46 = .ok (.iconst 0, 1) := by decide +kernel
theorem dX11_begin_47 : decode cX11_begin 47 = .ok (.iastore, 1) := by decide +kernel
theorem dX11_begin_48 : decode cX11_begin 48 = .ok (.iinc 1 1, 3) := by decide +kernel
theorem dX11_begin_51 : decode cX11_begin 51 = .ok (.goto (-49), 3) := by decide +kernel
theorem dX11_begin_54 : decode cX11_begin 54 = .ok (.aload_n 0, 1) := by decide +kernel
theorem dX11_begin_55 : decode cX11_begin 55 = .ok (.getfield 106, 3) := by decide +kernel
theorem dX11_begin_58 : decode cX11_begin 58 = .ok (.iconst 0, 1) := by decide +kernel
theorem dX11_begin_59 : decode cX11_begin 59 = .ok (.iconst 0, 1) := by decide +kernel
theorem dX11_begin_60 : decode cX11_begin 60 = .ok (.iastore, 1) := by decide +kernel
theorem dX11_begin_61 : decode cX11_begin 61 = .ok (.aload_n 0, 1) := by decide +kernel
theorem dX11_begin_62 : decode cX11_begin 62 = .ok (.getfield 109, 3) := by decide +kernel
theorem dX11_begin_65 : decode cX11_begin 65 = .ok (.iconst 0, 1) := by decide +kernel
theorem dX11_begin_66 : decode cX11_begin 66 = .ok (.iconst 0, 1) := by decide +kernel
theorem dX11_begin_67 : decode cX11_begin 67 = .ok (.iastore, 1) := by decide +kernel
theorem dX11_begin_68 : decode cX11_begin 68 = .ok (.aload_n 0, 1) := by decide +kernel
theorem dX11_begin_69 : decode cX11_begin 69 = .ok (.getfield 112, 3) := by decide +kernel
theorem dX11_begin_72 : decode cX11_begin 72 = .ok (.iconst 0, 1) := by decide +kernel
theorem dX11_begin_73 : decode cX11_begin 73 = .ok (.iconst (-1), 1) := by decide +kernel
theorem dX11_begin_74 : decode cX11_begin 74 = .ok (.iastore, 1) := by decide +kernel
theorem dX11_begin_75 : decode cX11_begin 75 = .ok (.aload_n 0, 1) := by decide +kernel
theorem dX11_begin_76 : decode cX11_begin 76 = .ok (.getfield 115, 3) := by decide +kernel
theorem dX11_begin_79 : decode cX11_begin 79 = .ok (.iconst 0, 1) := by decide +kernel
theorem dX11_begin_80 : decode cX11_begin 80 = .ok (.iconst 0, 1) := by decide +kernel
theorem dX11_begin_81 : decode cX11_begin 81 = .ok (.iastore, 1) := by decide +kernel
theorem dX11_begin_82 : decode cX11_begin 82 = .ok (.aload_n 0, 1) := by decide +kernel
theorem dX11_begin_83 : decode cX11_begin 83 = .ok (.getfield 118, 3) := by decide +kernel
theorem dX11_begin_86 : decode cX11_begin 86 = .ok (.iconst 0, 1) := by decide +kernel
theorem dX11_begin_87 : decode cX11_begin 87 = .ok (.iconst 0, 1) := by decide +kernel
theorem dX11_begin_88 : decode cX11_begin 88 = .ok (.iastore, 1) := by decide +kernel
theorem dX11_begin_89 : decode cX11_begin 89 = .ok (.aload_n 0, 1) := by decide +kernel
theorem dX11_begin_90 : decode cX11_begin 90 = .ok (.aload_n 0, 1) := by decide +kernel
theorem dX11_begin_91 : decode cX11_begin 91 = .ok (.getfield 24, 3) := by decide +kernel
theorem dX11_begin_94 : decode cX11_begin 94 = .ok (.iconst 1, 1) := by decide +kernel
theorem dX11_begin_95 : decode cX11_begin 95 = .ok (.iaload, 1) := by decide +kernel
theorem dX11_begin_96 : decode cX11_begin 96 = .ok (.i2l, 1) := by decide +kernel
theorem dX11_begin_97 : decode cX11_begin 97 = .ok (.putfield 355, 3) := by decide +kernel
theorem dX11_begin_100 : decode cX11_begin 100 = .ok (.aload_n 0, 1) := by decide +kernel
theorem dX11_begin_101 : decode cX11_begin 101 = .ok (.invokevirtual 359, 3) := by decide +kernel
theorem dX11_begin_104 : decode cX11_begin 104 = .ok (.aload_n 0, 1) := by decide +kernel
theorem dX11_begin_105 : decode cX11_begin 105 = .ok (.iconst 0, 1) := by decide +kernel
theorem dX11_begin_106 : decode cX11_begin 106 = .ok (.putfield 362, 3) := by decide +kernel
theorem dX11_begin_109 : decode cX11_begin 109 = .ok (.aload_n 0, 1) := by decide +kernel
theorem dX11_begin_110 : decode cX11_begin 110 = .ok (.iconst (-1), 1) := by decide +kernel
theorem dX11_begin_111 : decode cX11_begin 111 = .ok (.putfield 127, 3) := by decide +kernel
theorem dX11_begin_114 : decode cX11_begin 114 = .ok (.aload_n 0, 1) := by decide +kernel
theorem dX11_begin_115 : decode cX11_begin 115 = .ok (.iconst 0, 1) := by decide +kernel
theorem dX11_begin_116 : decode cX11_begin 116 = .ok (.putfield 365, 3) := by decide +kernel
theorem dX11_begin_119 : decode cX11_begin 119 = .ok (.aload_n 0, 1) := by decide +kernel
theorem dX11_begin_120 : decode cX11_begin 120 = .ok (.iconst 0, 1) := by decide +kernel
theorem dX11_begin_121 : decode cX11_begin 121 = .ok (.putfield 368, 3) := by decide +kernel
theorem dX11_begin_124 : decode cX11_begin 124 = .ok (.return_, 1) := by decide +kernel
theorem dX11_plainTried_0 : decode cX11_plainTried 0 = .ok (.aload_n 0, 1) := by decide +kernel
theorem dX11_plainTried_1 : decode cX11_plainTried 1 = .ok (.iconst 0, 1) := by decide +kernel
theorem dX11_plainTried_2 : decode cX11_plainTried 2 = .ok (.putfield 371, 3) := by decide +kernel
theorem dX11_plainTried_5 : decode cX11_plainTried 5 = .ok (.aload_n 0, 1) := by decide +kernel
theorem dX11_plainTried_6 : decode cX11_plainTried 6 = .ok (.iconst 0, 1) := by decide +kernel
theorem dX11_plainTried_7 : decode cX11_plainTried 7 = .ok (.putfield 374, 3) := by decide +kernel
theorem dX11_plainTried_10 : decode cX11_plainTried 10 = .ok (.aload_n 0, 1) := by decide +kernel
theorem dX11_plainTried_11 : decode cX11_plainTried 11 = .ok (.iconst 0, 1) := by decide +kernel
theorem dX11_plainTried_12 : decode cX11_plainTried 12 = .ok (.putfield 377, 3) := by decide +kernel
theorem dX11_plainTried_15 : decode cX11_plainTried 15 = .ok (.aload_n 0, 1) := by decide +kernel
theorem dX11_plainTried_16 : decode cX11_plainTried 16 = .ok (.iconst 0, 1) := by decide +kernel
theorem dX11_plainTried_17 : decode cX11_plainTried 17 = .ok (.putfield 380, 3) := by decide +kernel
theorem dX11_plainTried_20 : decode cX11_plainTried 20 = .ok (.return_, 1) := by decide +kernel
theorem dX11_layTried_0 : decode cX11_layTried 0 = .ok (.iconst 0, 1) := by decide +kernel
theorem dX11_layTried_1 : decode cX11_layTried 1 = .ok (.istore_n 1, 1) := by decide +kernel
theorem dX11_layTried_2 : decode cX11_layTried 2 = .ok (.iload_n 1, 1) := by decide +kernel
theorem dX11_layTried_3 : decode cX11_layTried 3 = .ok (.bipush 6, 2) := by decide +kernel
theorem dX11_layTried_5 : decode cX11_layTried 5 = .ok (.if_icmp .ge 84, 3) := by decide +kernel
theorem dX11_layTried_8 : decode cX11_layTried 8 = .ok (.aload_n 0, 1) := by decide +kernel
theorem dX11_layTried_9 : decode cX11_layTried 9 = .ok (.getfield 91, 3) := by decide +kernel
theorem dX11_layTried_12 : decode cX11_layTried 12 = .ok (.bipush 6, 2) := by decide +kernel
theorem dX11_layTried_14 : decode cX11_layTried 14 = .ok (.iload_n 1, 1) := by decide +kernel
theorem dX11_layTried_15 : decode cX11_layTried 15 = .ok (.iadd, 1) := by decide +kernel
theorem dX11_layTried_16 : decode cX11_layTried 16 = .ok (.aload_n 0, 1) := by decide +kernel
theorem dX11_layTried_17 : decode cX11_layTried 17 = .ok (.getfield 91, 3) := by decide +kernel
theorem dX11_layTried_20 : decode cX11_layTried 20 = .ok (.iload_n 1, 1) := by decide +kernel
theorem dX11_layTried_21 : decode cX11_layTried 21 = .ok (.iaload, 1) := by decide +kernel
theorem dX11_layTried_22 : decode cX11_layTried 22 = .ok (.iastore, 1) := by decide +kernel
theorem dX11_layTried_23 : decode cX11_layTried 23 = .ok (.aload_n 0, 1) := by decide +kernel
theorem dX11_layTried_24 : decode cX11_layTried 24 = .ok (.getfield 94, 3) := by decide +kernel
theorem dX11_layTried_27 : decode cX11_layTried 27 = .ok (.bipush 6, 2) := by decide +kernel
theorem dX11_layTried_29 : decode cX11_layTried 29 = .ok (.iload_n 1, 1) := by decide +kernel
theorem dX11_layTried_30 : decode cX11_layTried 30 = .ok (.iadd, 1) := by decide +kernel
theorem dX11_layTried_31 : decode cX11_layTried 31 = .ok (.aload_n 0, 1) := by decide +kernel
theorem dX11_layTried_32 : decode cX11_layTried 32 = .ok (.getfield 94, 3) := by decide +kernel
theorem dX11_layTried_35 : decode cX11_layTried 35 = .ok (.iload_n 1, 1) := by decide +kernel
theorem dX11_layTried_36 : decode cX11_layTried 36 = .ok (.iaload, 1) := by decide +kernel
theorem dX11_layTried_37 : decode cX11_layTried 37 = .ok (.iastore, 1) := by decide +kernel
theorem dX11_layTried_38 : decode cX11_layTried 38 = .ok (.aload_n 0, 1) := by decide +kernel
theorem dX11_layTried_39 : decode cX11_layTried 39 = .ok (.getfield 97, 3) := by decide +kernel
theorem dX11_layTried_42 : decode cX11_layTried 42 = .ok (.bipush 6, 2) := by decide +kernel
theorem dX11_layTried_44 : decode cX11_layTried 44 = .ok (.iload_n 1, 1) := by decide +kernel
theorem dX11_layTried_45 : decode cX11_layTried 45 = .ok (.iadd, 1) := by decide +kernel
theorem dX11_layTried_46 : decode cX11_layTried 46 = .ok (.aload_n 0, 1) := by decide +kernel
theorem dX11_layTried_47 : decode cX11_layTried 47 = .ok (.getfield 97, 3) := by decide +kernel
theorem dX11_layTried_50 : decode cX11_layTried 50 = .ok (.iload_n 1, 1) := by decide +kernel
theorem dX11_layTried_51 : decode cX11_layTried 51 = .ok (.iaload, 1) := by decide +kernel
theorem dX11_layTried_52 : decode cX11_layTried 52 = .ok (.iastore, 1) := by decide +kernel
theorem dX11_layTried_53 : decode cX11_layTried 53 = .ok (.aload_n 0, 1) := by decide +kernel
theorem dX11_layTried_54 : decode cX11_layTried 54 = .ok (.getfield 100, 3) := by decide +kernel
theorem dX11_layTried_57 : decode cX11_layTried 57 = .ok (.bipush 6, 2) := by decide +kernel
theorem dX11_layTried_59 : decode cX11_layTried 59 = .ok (.iload_n 1, 1) := by decide +kernel
theorem dX11_layTried_60 : decode cX11_layTried 60 = .ok (.iadd, 1) := by decide +kernel
theorem dX11_layTried_61 : decode cX11_layTried 61 = .ok (.aload_n 0, 1) := by decide +kernel
theorem dX11_layTried_62 : decode cX11_layTried 62 = .ok (.getfield 100, 3) := by decide +kernel
theorem dX11_layTried_65 : decode cX11_layTried 65 = .ok (.iload_n 1, 1) := by decide +kernel
theorem dX11_layTried_66 : decode cX11_layTried 66 = .ok (.iaload, 1) := by decide +kernel
theorem dX11_layTried_67 : decode cX11_layTried 67 = .ok (.iastore, 1) := by decide +kernel
theorem dX11_layTried_68 : decode cX11_layTried 68 = .ok (.aload_n 0, 1) := by decide +kernel
theorem dX11_layTried_69 : decode cX11_layTried 69 = .ok (.getfield 103, 3) := by decide +kernel
theorem dX11_layTried_72 : decode cX11_layTried 72 = .ok (.bipush 6, 2) := by decide +kernel
theorem dX11_layTried_74 : decode cX11_layTried 74 = .ok (.iload_n 1, 1) := by decide +kernel
theorem dX11_layTried_75 : decode cX11_layTried 75 = .ok (.iadd, 1) := by decide +kernel
theorem dX11_layTried_76 : decode cX11_layTried 76 = .ok (.aload_n 0, 1) := by decide +kernel
theorem dX11_layTried_77 : decode cX11_layTried 77 = .ok (.getfield 103, 3) := by decide +kernel
theorem dX11_layTried_80 : decode cX11_layTried 80 = .ok (.iload_n 1, 1) := by decide +kernel
theorem dX11_layTried_81 : decode cX11_layTried 81 = .ok (.iaload, 1) := by decide +kernel
theorem dX11_layTried_82 : decode cX11_layTried 82 = .ok (.iastore, 1) := by decide +kernel
theorem dX11_layTried_83 : decode cX11_layTried 83 = .ok (.iinc 1 1, 3) := by decide +kernel
theorem dX11_layTried_86 : decode cX11_layTried 86 = .ok (.goto (-84), 3) := by decide +kernel
theorem dX11_layTried_89 : decode cX11_layTried 89 = .ok (.aload_n 0, 1) := by decide +kernel
theorem dX11_layTried_90 : decode cX11_layTried 90 = .ok (.getfield 106, 3) := by decide +kernel
theorem dX11_layTried_93 : decode cX11_layTried 93 = .ok (.iconst 1, 1) := by decide +kernel
theorem dX11_layTried_94 : decode cX11_layTried 94 = .ok (.aload_n 0, 1) := by decide +kernel
theorem dX11_layTried_95 : decode cX11_layTried 95 = .ok (.getfield 106, 3) := by decide +kernel
theorem dX11_layTried_98 : decode cX11_layTried 98 = .ok (.iconst 0, 1) := by decide +kernel
theorem dX11_layTried_99 : decode cX11_layTried 99 = .ok (.iaload, 1) := by decide +kernel
theorem dX11_layTried_100 : decode cX11_layTried 100 = .ok (.iastore, 1) := by decide +kernel
theorem dX11_layTried_101 : decode cX11_layTried 101 = .ok (.aload_n 0, 1) := by decide +kernel
theorem dX11_layTried_102 : decode cX11_layTried 102 = .ok (.getfield 109, 3) := by decide +kernel
theorem dX11_layTried_105 : decode cX11_layTried 105 = .ok (.iconst 1, 1) := by decide +kernel
theorem dX11_layTried_106 : decode cX11_layTried 106 = .ok (.aload_n 0, 1) := by decide +kernel
theorem dX11_layTried_107 : decode cX11_layTried 107 = .ok (.getfield 109, 3) := by decide +kernel
theorem dX11_layTried_110 : decode cX11_layTried 110 = .ok (.iconst 0, 1) := by decide +kernel
theorem dX11_layTried_111 : decode cX11_layTried 111 = .ok (.iaload, 1) := by decide +kernel
theorem dX11_layTried_112 : decode cX11_layTried 112 = .ok (.iastore, 1) := by decide +kernel
theorem dX11_layTried_113 : decode cX11_layTried 113 = .ok (.aload_n 0, 1) := by decide +kernel
theorem dX11_layTried_114 : decode cX11_layTried 114 = .ok (.getfield 112, 3) := by decide +kernel
theorem dX11_layTried_117 : decode cX11_layTried 117 = .ok (.iconst 1, 1) := by decide +kernel
theorem dX11_layTried_118 : decode cX11_layTried 118 = .ok (.aload_n 0, 1) := by decide +kernel
theorem dX11_layTried_119 : decode cX11_layTried 119 = .ok (.getfield 112, 3) := by decide +kernel
theorem dX11_layTried_122 : decode cX11_layTried 122 = .ok (.iconst 0, 1) := by decide +kernel
theorem dX11_layTried_123 : decode cX11_layTried 123 = .ok (.iaload, 1) := by decide +kernel
theorem dX11_layTried_124 : decode cX11_layTried 124 = .ok (.iastore, 1) := by decide +kernel
theorem dX11_layTried_125 : decode cX11_layTried 125 = .ok (.aload_n 0, 1) := by decide +kernel
theorem dX11_layTried_126 : decode cX11_layTried 126 = .ok (.getfield 115, 3) := by decide +kernel
theorem dX11_layTried_129 : decode cX11_layTried 129 = .ok (.iconst 1, 1) := by decide +kernel
theorem dX11_layTried_130 : decode cX11_layTried 130 = .ok (.aload_n 0, 1) := by decide +kernel
theorem dX11_layTried_131 : decode cX11_layTried 131 = .ok (.getfield 115, 3) := by decide +kernel
theorem dX11_layTried_134 : decode cX11_layTried 134 = .ok (.iconst 0, 1) := by decide +kernel
theorem dX11_layTried_135 : decode cX11_layTried 135 = .ok (.iaload, 1) := by decide +kernel
theorem dX11_layTried_136 : decode cX11_layTried 136 = .ok (.iastore, 1) := by decide +kernel
theorem dX11_layTried_137 : decode cX11_layTried 137 = .ok (.aload_n 0, 1) := by decide +kernel
theorem dX11_layTried_138 : decode cX11_layTried 138 = .ok (.getfield 118, 3) := by decide +kernel
theorem dX11_layTried_141 : decode cX11_layTried 141 = .ok (.iconst 1, 1) := by decide +kernel
theorem dX11_layTried_142 : decode cX11_layTried 142 = .ok (.aload_n 0, 1) := by decide +kernel
theorem dX11_layTried_143 : decode cX11_layTried 143 = .ok (.getfield 118, 3) := by decide +kernel
theorem dX11_layTried_146 : decode cX11_layTried 146 = .ok (.iconst 0, 1) := by decide +kernel
theorem dX11_layTried_147 : decode cX11_layTried 147 = .ok (.iaload, 1) := by decide +kernel
theorem dX11_layTried_148 : decode cX11_layTried 148 = .ok (.iastore, 1) := by decide +kernel
theorem dX11_layTried_149 : decode cX11_layTried 149 = .ok (.aload_n 0, 1) := by decide +kernel
theorem dX11_layTried_150 : decode cX11_layTried 150 = .ok (.invokevirtual 359, 3) := by decide +kernel
theorem dX11_layTried_153 : decode cX11_layTried 153 = .ok (.return_, 1) := by decide +kernel
theorem dX11_isKind_0 : decode cX11_isKind 0 = .ok (.iload_n 1, 1) := by decide +kernel
theorem dX11_isKind_1 : decode cX11_isKind 1 = .ok (.ifCond .lt 15, 3) := by decide +kernel
theorem dX11_isKind_4 : decode cX11_isKind 4 = .ok (.iload_n 1, 1) := by decide +kernel
theorem dX11_isKind_5 : decode cX11_isKind 5 = .ok (.aload_n 0, 1) := by decide +kernel
theorem dX11_isKind_6 : decode cX11_isKind 6 = .ok (.getfield 231, 3) := by decide +kernel
theorem dX11_isKind_9 : decode cX11_isKind 9 = .ok (.if_icmp .ge 7, 3) := by decide +kernel
theorem dX11_isKind_12 : decode cX11_isKind 12 = .ok (.iconst 1, 1) := by decide +kernel
theorem dX11_isKind_13 : decode cX11_isKind 13 = .ok (.goto 4, 3) := by decide +kernel
theorem dX11_isKind_16 : decode cX11_isKind 16 = .ok (.iconst 0, 1) := by decide +kernel
theorem dX11_isKind_17 : decode cX11_isKind 17 = .ok (.ireturn, 1) := by decide +kernel
theorem dX11_isHouse_0 : decode cX11_isHouse 0 = .ok (.iload_n 1, 1) := by decide +kernel
theorem dX11_isHouse_1 : decode cX11_isHouse 1 = .ok (.ifCond .lt 15, 3) := by decide +kernel
theorem dX11_isHouse_4 : decode cX11_isHouse 4 = .ok (.iload_n 1, 1) := by decide +kernel
theorem dX11_isHouse_5 : decode cX11_isHouse 5 = .ok (.aload_n 0, 1) := by decide +kernel
theorem dX11_isHouse_6 : decode cX11_isHouse 6 = .ok (.getfield 234, 3) := by decide +kernel
theorem dX11_isHouse_9 : decode cX11_isHouse 9 = .ok (.if_icmp .ge 7, 3) := by decide +kernel
theorem dX11_isHouse_12 : decode cX11_isHouse 12 = .ok (.iconst 1, 1) := by decide +kernel
theorem dX11_isHouse_13 : decode cX11_isHouse 13 = .ok (.goto 4, 3) := by decide +kernel
theorem dX11_isHouse_16 : decode cX11_isHouse 16 = .ok (.iconst 0, 1) := by decide +kernel
theorem dX11_isHouse_17 : decode cX11_isHouse 17 = .ok (.ireturn, 1) := by decide +kernel
theorem dX11_areHouses_0 : decode cX11_areHouses 0 = .ok (.iload_n 1, 1) := by decide +kernel
theorem dX11_areHouses_1 : decode cX11_areHouses 1 = .ok (.ifCond .lt 16, 3) := by decide +kernel
theorem dX11_areHouses_4 : decode cX11_areHouses 4 = .ok (.iload_n 1, 1) := by decide +kernel
theorem dX11_areHouses_5 : decode cX11_areHouses 5 = .ok (.aload_n 0, 1) := by decide +kernel
theorem dX11_areHouses_6 : decode cX11_areHouses 6 = .ok (.getfield 234, 3) := by decide +kernel
theorem dX11_areHouses_9 : decode cX11_areHouses 9 = .ok (.ishr, 1) := by decide +kernel
theorem dX11_areHouses_10 : decode cX11_areHouses 10 = .ok (.ifCond .ne 7, 3) := by decide +kernel
theorem dX11_areHouses_13 : decode cX11_areHouses 13 = .ok (.iconst 1, 1) := by decide +kernel
theorem dX11_areHouses_14 : decode cX11_areHouses 14 = .ok (.goto 4, 3) := by decide +kernel
theorem dX11_areHouses_17 : decode cX11_areHouses 17 = .ok (.iconst 0, 1) := by decide +kernel
theorem dX11_areHouses_18 : decode cX11_areHouses 18 = .ok (.ireturn, 1) := by decide +kernel
theorem dX11_manyOf_0 : decode cX11_manyOf 0 = .ok (.iconst 0, 1) := by decide +kernel
theorem dX11_manyOf_1 : decode cX11_manyOf 1 = .ok (.istore_n 1, 1) := by decide +kernel
theorem dX11_manyOf_2 : decode cX11_manyOf 2 = .ok (.iconst 0, 1) := by decide +kernel
theorem dX11_manyOf_3 : decode cX11_manyOf 3 = .ok (.istore_n 2, 1) := by decide +kernel
theorem dX11_manyOf_4 : decode cX11_manyOf 4 = .ok (.iload_n 2, 1) := by decide +kernel
theorem dX11_manyOf_5 : decode cX11_manyOf 5 = .ok (.bipush 8, 2) := by decide +kernel
theorem dX11_manyOf_7 : decode cX11_manyOf 7 = .ok (.if_icmp .ge 17, 3) := by decide +kernel
theorem dX11_manyOf_10 : decode cX11_manyOf 10 = .ok (.iload_n 1, 1) := by decide +kernel
theorem dX11_manyOf_11 : decode cX11_manyOf 11 = .ok (.iload_n 0, 1) := by decide +kernel
theorem dX11_manyOf_12 : decode cX11_manyOf 12 = .ok (.iload_n 2, 1) := by decide +kernel
theorem dX11_manyOf_13 : decode cX11_manyOf 13 = .ok (.ishr, 1) := by decide +kernel
theorem dX11_manyOf_14 : decode cX11_manyOf 14 = .ok (.iconst 1, 1) := by decide +kernel
theorem dX11_manyOf_15 : decode cX11_manyOf 15 = .ok (.iand, 1) := by decide +kernel
theorem dX11_manyOf_16 : decode cX11_manyOf 16 = .ok (.iadd, 1) := by decide +kernel
theorem dX11_manyOf_17 : decode cX11_manyOf 17 = .ok (.istore_n 1, 1) := by decide +kernel
theorem dX11_manyOf_18 : decode cX11_manyOf 18 = .ok (.iinc 2 1, 3) := by decide +kernel
theorem dX11_manyOf_21 : decode cX11_manyOf 21 = .ok (.goto (-17), 3) := by decide +kernel
theorem dX11_manyOf_24 : decode cX11_manyOf 24 = .ok (.iload_n 1, 1) := by decide +kernel
theorem dX11_manyOf_25 : decode cX11_manyOf 25 = .ok (.ireturn, 1) := by decide +kernel
theorem dX11_worthOf_0 : decode cX11_worthOf 0 = .ok (.aload_n 0, 1) := by decide +kernel
theorem dX11_worthOf_1 : decode cX11_worthOf 1 = .ok (.getfield 374, 3) := by decide +kernel
theorem dX11_worthOf_4 : decode cX11_worthOf 4 = .ok (.ifCond .eq 7, 3) := by decide +kernel
theorem dX11_worthOf_7 : decode cX11_worthOf 7 = .ok (.iconst 0, 1) := by decide +kernel
theorem dX11_worthOf_8 : decode cX11_worthOf 8 = .ok (.goto 9, 3) := by decide +kernel
theorem dX11_worthOf_11 : decode cX11_worthOf 11 = .ok (.aload_n 0, 1) := by decide +kernel
theorem dX11_worthOf_12 : decode cX11_worthOf 12 = .ok (.getfield 30, 3) := by decide +kernel
theorem dX11_worthOf_15 : decode cX11_worthOf 15 = .ok (.iload_n 1, 1) := by decide +kernel
theorem dX11_worthOf_16 : decode cX11_worthOf 16 = .ok (.iaload, 1) := by decide +kernel
theorem dX11_worthOf_17 : decode cX11_worthOf 17 = .ok (.ireturn, 1) := by decide +kernel
theorem dX11_eagerOf_0 : decode cX11_eagerOf 0 = .ok (.aload_n 0, 1) := by decide +kernel
theorem dX11_eagerOf_1 : decode cX11_eagerOf 1 = .ok (.getfield 377, 3) := by decide +kernel
theorem dX11_eagerOf_4 : decode cX11_eagerOf 4 = .ok (.ifCond .eq 8, 3) := by decide +kernel
theorem dX11_eagerOf_7 : decode cX11_eagerOf 7 = .ok (.bipush 9, 2) := by decide +kernel
theorem dX11_eagerOf_9 : decode cX11_eagerOf 9 = .ok (.goto 9, 3) := by decide +kernel
theorem dX11_eagerOf_12 : decode cX11_eagerOf 12 = .ok (.aload_n 0, 1) := by decide +kernel
theorem dX11_eagerOf_13 : decode cX11_eagerOf 13 = .ok (.getfield 42, 3) := by decide +kernel
theorem dX11_eagerOf_16 : decode cX11_eagerOf 16 = .ok (.iload_n 1, 1) := by decide +kernel
theorem dX11_eagerOf_17 : decode cX11_eagerOf 17 = .ok (.iaload, 1) := by decide +kernel
theorem dX11_eagerOf_18 : decode cX11_eagerOf 18 = .ok (.ireturn, 1) := by decide +kernel
theorem dX11_lay_0 : decode cX11_lay 0 = .ok (.aload_n 0, 1) := by decide +kernel
theorem dX11_lay_1 : decode cX11_lay 1 = .ok (.getfield 84, 3) := by decide +kernel
theorem dX11_lay_4 : decode cX11_lay 4 = .ok (.iconst 0, 1) := by decide +kernel
theorem dX11_lay_5 : decode cX11_lay 5 = .ok (.aload_n 0, 1) := by decide +kernel
theorem dX11_lay_6 : decode cX11_lay 6 = .ok (.iload_n 3, 1) := by decide +kernel
theorem dX11_lay_7 : decode cX11_lay 7 = .ok (.invokevirtual 383, 3) := by decide +kernel
theorem dX11_lay_10 : decode cX11_lay 10 = .ok (.i2l, 1) := by decide +kernel
theorem dX11_lay_11 : decode cX11_lay 11 = .ok (.lastore, 1) := by decide +kernel
theorem dX11_lay_12 : decode cX11_lay 12 = .ok (.aload_n 0, 1) := by decide +kernel
theorem dX11_lay_13 : decode cX11_lay 13 = .ok (.getfield 84, 3) := by decide +kernel
theorem dX11_lay_16 : decode cX11_lay 16 = .ok (.iconst 1, 1) := by decide +kernel
theorem dX11_lay_17 : decode cX11_lay 17 = .ok (.aload_n 0, 1) := by decide +kernel
theorem dX11_lay_18 : decode cX11_lay 18 = .ok (.iload_n 2, 1) := by decide +kernel
theorem dX11_lay_19 : decode cX11_lay 19 = .ok (.invokevirtual 386, 3) := by decide +kernel
theorem dX11_lay_22 : decode cX11_lay 22 = .ok (.i2l, 1) := by decide +kernel
theorem dX11_lay_23 : decode cX11_lay 23 = .ok (.lastore, 1) := by decide +kernel
theorem dX11_lay_24 : decode cX11_lay 24 = .ok (.aload_n 0, 1) := by decide +kernel
theorem dX11_lay_25 : decode cX11_lay 25 = .ok (.getfield 84, 3) := by decide +kernel
theorem dX11_lay_28 : decode cX11_lay 28 = .ok (.iconst 2, 1) := by decide +kernel
theorem dX11_lay_29 : decode cX11_lay 29 = .ok (.aload_n 0, 1) := by decide +kernel
theorem dX11_lay_30 : decode cX11_lay 30 = .ok (.getfield 91, 3) := by decide +kernel
theorem dX11_lay_33 : decode cX11_lay 33 = .ok (.bipush 6, 2) := by decide +kernel
theorem dX11_lay_35 : decode cX11_lay 35 = .ok (.iload_n 1, 1) := by decide +kernel
theorem dX11_lay_36 : decode cX11_lay 36 = .ok (.imul, 1) := by decide +kernel
theorem dX11_lay_37 : decode cX11_lay 37 = .ok (.iload_n 2, 1) := by decide +kernel
theorem dX11_lay_38 : decode cX11_lay 38 = .ok (.iadd, 1) := by decide +kernel
theorem dX11_lay_39 : decode cX11_lay 39 = .ok (.iaload, 1) := by decide +kernel
theorem dX11_lay_40 : decode cX11_lay 40 = .ok (.i2l, 1) := by decide +kernel
theorem dX11_lay_41 : decode cX11_lay 41 = .ok (.lastore, 1) := by decide +kernel
theorem dX11_lay_42 : decode cX11_lay 42 = .ok (.aload_n 0, 1) := by decide +kernel
theorem dX11_lay_43 : decode cX11_lay 43 = .ok (.getfield 84, 3) := by decide +kernel
theorem dX11_lay_46 : decode cX11_lay 46 = .ok (.iconst 3, 1) := by decide +kernel
theorem dX11_lay_47 : decode cX11_lay 47 = .ok (.aload_n 0, 1) := by decide +kernel
theorem dX11_lay_48 : decode cX11_lay 48 = .ok (.getfield 94, 3) := by decide +kernel
theorem dX11_lay_51 : decode cX11_lay 51 = .ok (.bipush 6, 2) := by decide +kernel
theorem dX11_lay_53 : decode cX11_lay 53 = .ok (.iload_n 1, 1) := by decide +kernel
theorem dX11_lay_54 : decode cX11_lay 54 = .ok (.imul, 1) := by decide +kernel
theorem dX11_lay_55 : decode cX11_lay 55 = .ok (.iload_n 2, 1) := by decide +kernel
theorem dX11_lay_56 : decode cX11_lay 56 = .ok (.iadd, 1) := by decide +kernel
theorem dX11_lay_57 : decode cX11_lay 57 = .ok (.iaload, 1) := by decide +kernel
theorem dX11_lay_58 : decode cX11_lay 58 = .ok (.i2l, 1) := by decide +kernel
theorem dX11_lay_59 : decode cX11_lay 59 = .ok (.lastore, 1) := by decide +kernel
theorem dX11_lay_60 : decode cX11_lay 60 = .ok (.aload_n 0, 1) := by decide +kernel
theorem dX11_lay_61 : decode cX11_lay 61 = .ok (.getfield 84, 3) := by decide +kernel
theorem dX11_lay_64 : decode cX11_lay 64 = .ok (.iconst 4, 1) := by decide +kernel
theorem dX11_lay_65 : decode cX11_lay 65 = .ok (.aload_n 0, 1) := by decide +kernel
theorem dX11_lay_66 : decode cX11_lay 66 = .ok (.getfield 97, 3) := by decide +kernel
theorem dX11_lay_69 : decode cX11_lay 69 = .ok (.bipush 6, 2) := by decide +kernel
theorem dX11_lay_71 : decode cX11_lay 71 = .ok (.iload_n 1, 1) := by decide +kernel
theorem dX11_lay_72 : decode cX11_lay 72 = .ok (.imul, 1) := by decide +kernel
theorem dX11_lay_73 : decode cX11_lay 73 = .ok (.iload_n 2, 1) := by decide +kernel
theorem dX11_lay_74 : decode cX11_lay 74 = .ok (.iadd, 1) := by decide +kernel
theorem dX11_lay_75 : decode cX11_lay 75 = .ok (.iaload, 1) := by decide +kernel
theorem dX11_lay_76 : decode cX11_lay 76 = .ok (.i2l, 1) := by decide +kernel
theorem dX11_lay_77 : decode cX11_lay 77 = .ok (.lastore, 1) := by decide +kernel
theorem dX11_lay_78 : decode cX11_lay 78 = .ok (.aload_n 0, 1) := by decide +kernel
theorem dX11_lay_79 : decode cX11_lay 79 = .ok (.getfield 84, 3) := by decide +kernel
theorem dX11_lay_82 : decode cX11_lay 82 = .ok (.iconst 5, 1) := by decide +kernel
theorem dX11_lay_83 : decode cX11_lay 83 = .ok (.aload_n 0, 1) := by decide +kernel
theorem dX11_lay_84 : decode cX11_lay 84 = .ok (.getfield 33, 3) := by decide +kernel
theorem dX11_lay_87 : decode cX11_lay 87 = .ok (.iload_n 3, 1) := by decide +kernel
theorem dX11_lay_88 : decode cX11_lay 88 = .ok (.iaload, 1) := by decide +kernel
theorem dX11_lay_89 : decode cX11_lay 89 = .ok (.i2l, 1) := by decide +kernel
theorem dX11_lay_90 : decode cX11_lay 90 = .ok (.lastore, 1) := by decide +kernel
theorem dX11_lay_91 : decode cX11_lay 91 = .ok (.aload_n 0, 1) := by decide +kernel
theorem dX11_lay_92 : decode cX11_lay 92 = .ok (.getfield 84, 3) := by decide +kernel
theorem dX11_lay_95 : decode cX11_lay 95 = .ok (.bipush 6, 2) := by decide +kernel
theorem dX11_lay_97 : decode cX11_lay 97 = .ok (.aload_n 0, 1) := by decide +kernel
theorem dX11_lay_98 : decode cX11_lay 98 = .ok (.getfield 118, 3) := by decide +kernel
theorem dX11_lay_101 : decode cX11_lay 101 = .ok (.iload_n 1, 1) := by decide +kernel
theorem dX11_lay_102 : decode cX11_lay 102 = .ok (.iaload, 1) := by decide +kernel
theorem dX11_lay_103 : decode cX11_lay 103 = .ok (.i2l, 1) := by decide +kernel
theorem dX11_lay_104 : decode cX11_lay 104 = .ok (.lastore, 1) := by decide +kernel
theorem dX11_lay_105 : decode cX11_lay 105 = .ok (.return_, 1) := by decide +kernel
theorem dX11_lawOf_0 : decode cX11_lawOf 0 = .ok (.aload_n 0, 1) := by decide +kernel
theorem dX11_lawOf_1 : decode cX11_lawOf 1 = .ok (.iconst 0, 1) := by decide +kernel
theorem dX11_lawOf_2 : decode cX11_lawOf 2 = .ok (.putfield 336, 3) := by decide +kernel
theorem dX11_lawOf_5 : decode cX11_lawOf 5 = .ok (.aload_n 0, 1) := by decide +kernel
theorem dX11_lawOf_6 : decode cX11_lawOf 6 = .ok (.getfield 63, 3) := by decide +kernel
theorem dX11_lawOf_9 : decode cX11_lawOf 9 = .ok (.iload_n 1, 1) := by decide +kernel
theorem dX11_lawOf_10 : decode cX11_lawOf 10 = .ok (.iaload, 1) := by decide +kernel
theorem dX11_lawOf_11 : decode cX11_lawOf 11 = .ok (.istore_n 2, 1) := by decide +kernel
theorem dX11_lawOf_12 : decode cX11_lawOf 12 = .ok (.iload_n 2, 1) := by decide +kernel
theorem dX11_lawOf_13 : decode cX11_lawOf 13 = .ok (.aload_n 0, 1) := by decide +kernel
theorem dX11_lawOf_14 : decode cX11_lawOf 14 = .ok (.getfield 66, 3) := by decide +kernel
theorem dX11_lawOf_17 : decode cX11_lawOf 17 = .ok (.iload_n 1, 1) := by decide +kernel
theorem dX11_lawOf_18 : decode cX11_lawOf 18 = .ok (.iaload, 1) := by decide +kernel
theorem dX11_lawOf_19 : decode cX11_lawOf 19 = .ok (.if_icmp .ge 20, 3) := by decide +kernel
theorem dX11_lawOf_22 : decode cX11_lawOf 22 = .ok (.aload_n 0, 1) := by decide +kernel
theorem dX11_lawOf_23 : decode cX11_lawOf 23 = .ok (.getfield 88, 3) := by decide +kernel
theorem dX11_lawOf_26 : decode cX11_lawOf 26 = .ok (.iload_n 2, 1) := by decide +kernel
theorem dX11_lawOf_27 : decode cX11_lawOf 27 = .ok (.aload_n 0, 1) := by decide +kernel
theorem dX11_lawOf_28 : decode cX11_lawOf 28 = .ok (.iload_n 2, 1) := by decide +kernel
theorem dX11_lawOf_29 : decode cX11_lawOf 29 = .ok (.invokevirtual 389, 3) := by decide +kernel
theorem dX11_lawOf_32 : decode cX11_lawOf 32 = .ok (.lastore, 1) := by decide +kernel
theorem dX11_lawOf_33 : decode cX11_lawOf 33 = .ok (.iinc 2 1, 3) := by decide +kernel
theorem dX11_lawOf_36 : decode cX11_lawOf 36 = .ok (.goto (-24), 3) := by decide +kernel
theorem dX11_lawOf_39 : decode cX11_lawOf 39 = .ok (.aload_n 0, 1) := by decide +kernel
theorem dX11_lawOf_40 : decode cX11_lawOf 40 = .ok (.getfield 336, 3) := by decide +kernel
theorem dX11_lawOf_43 : decode cX11_lawOf 43 = .ok (.ifCond .eq 7, 3) := by decide +kernel
theorem dX11_lawOf_46 : decode cX11_lawOf 46 = .ok (.lconst 0, 1) := by decide +kernel
theorem dX11_lawOf_47 : decode cX11_lawOf 47 = .ok (.goto 16, 3) := by decide +kernel
theorem dX11_lawOf_50 : decode cX11_lawOf 50 = .ok (.aload_n 0, 1) := by decide +kernel
theorem dX11_lawOf_51 : decode cX11_lawOf 51 = .ok (.getfield 88, 3) := by decide +kernel
theorem dX11_lawOf_54 : decode cX11_lawOf 54 = .ok (.aload_n 0, 1) := by decide +kernel
theorem dX11_lawOf_55 : decode cX11_lawOf 55 = .ok (.getfield 66, 3) := by decide +kernel
theorem dX11_lawOf_58 : decode cX11_lawOf 58 = .ok (.iload_n 1, 1) := by decide +kernel
theorem dX11_lawOf_59 : decode cX11_lawOf 59 = .ok (.iaload, 1) := by decide +kernel
theorem dX11_lawOf_60 : decode cX11_lawOf 60 = .ok (.iconst 1, 1) := by decide +kernel
theorem dX11_lawOf_61 : decode cX11_lawOf 61 = .ok (.isub, 1) := by decide +kernel
theorem dX11_lawOf_62 : decode cX11_lawOf 62 = .ok (.laload, 1) := by decide +kernel
theorem dX11_lawOf_63 : decode cX11_lawOf 63 = .ok (.lreturn, 1) := by decide +kernel
theorem dX11_boundLaw_0 : decode cX11_boundLaw 0 = .ok (.aload_n 0, 1) := by decide +kernel
theorem dX11_boundLaw_1 : decode cX11_boundLaw 1 = .ok (.getfield 60, 3) := by decide +kernel
theorem dX11_boundLaw_4 : decode cX11_boundLaw 4 = .ok (.iload_n 1, 1) := by decide +kernel
theorem dX11_boundLaw_5 : decode cX11_boundLaw 5 = .ok (.baload, 1) := by decide +kernel
theorem dX11_boundLaw_6 : decode cX11_boundLaw 6 = .ok (.ifCond .ne 5, 3) := by decide +kernel
theorem dX11_boundLaw_9 : decode cX11_boundLaw 9 = .ok (.iload_n 2, 1) := by decide +kernel
theorem dX11_boundLaw_10 : decode cX11_boundLaw 10 = .ok (.ireturn, 1) := by decide +kernel
theorem dX11_boundLaw_11 : decode cX11_boundLaw 11 = .ok (.aload_n 0, 1) := by decide +kernel
theorem dX11_boundLaw_12 : decode cX11_boundLaw 12 = .ok (.iload_n 1, 1) := by decide +kernel
theorem dX11_boundLaw_13 : decode cX11_boundLaw 13 = .ok (.invokevirtual 393, 3) := by decide +kernel
theorem dX11_boundLaw_16 : decode cX11_boundLaw 16 = .ok (.lstore 5, 2) := by decide +kernel
theorem dX11_boundLaw_18 : decode cX11_boundLaw 18 = .ok (.aload_n 0, 1) := by decide +kernel
theorem dX11_boundLaw_19 : decode cX11_boundLaw 19 = .ok (.getfield 336, 3) := by decide +kernel
theorem dX11_boundLaw_22 : decode cX11_boundLaw 22 = .ok (.ifCond .eq 5, 3) := by decide +kernel
theorem dX11_boundLaw_25 : decode cX11_boundLaw 25 = .ok (.iload_n 2, 1) := by decide +kernel
theorem dX11_boundLaw_26 : decode cX11_boundLaw 26 = .ok (.ireturn, 1) := by decide +kernel
theorem dX11_boundLaw_27 : decode cX11_boundLaw 27 = .ok (.lload 5, 2) := by decide +kernel
theorem dX11_boundLaw_29 : decode cX11_boundLaw 29 = .ok (.iload_n 3, 1) := by decide +kernel
theorem dX11_boundLaw_30 : decode cX11_boundLaw 30 = .ok (.i2l, 1) := by decide +kernel
theorem dX11_boundLaw_31 : decode cX11_boundLaw 31 = .ok (.lcmp, 1) := by decide +kernel
theorem dX11_boundLaw_32 : decode cX11_boundLaw 32 = .ok (.ifCond .ge 7, 3) := by decide +kernel
theorem dX11_boundLaw_35 : decode cX11_boundLaw 35 = .ok (.iload_n 3, 1) := by decide +kernel
theorem dX11_boundLaw_36 : decode cX11_boundLaw 36 = .ok (.goto 20, 3) := by decide +kernel
theorem dX11_boundLaw_39 : decode cX11_boundLaw 39 = .ok (.lload 5, 2) := by decide +kernel
theorem dX11_boundLaw_41 : decode cX11_boundLaw 41 = .ok (.iload 4, 2) := by decide +kernel
theorem dX11_boundLaw_43 : decode cX11_boundLaw 43 = .ok (.i2l, 1) := by decide +kernel
theorem dX11_boundLaw_44 : decode cX11_boundLaw 44 = .ok (.lcmp, 1) := by decide +kernel
theorem dX11_boundLaw_45 : decode cX11_boundLaw 45 = .ok (.ifCond .le 8, 3) := by decide +kernel
theorem dX11_boundLaw_48 : decode cX11_boundLaw 48 = .ok (.iload 4, 2) := by decide +kernel
theorem dX11_boundLaw_50 : decode cX11_boundLaw 50 = .ok (.goto 6, 3) := by decide +kernel
theorem dX11_boundLaw_53 : decode cX11_boundLaw 53 = .ok (.lload 5, 2) := by decide +kernel
theorem dX11_boundLaw_55 : decode cX11_boundLaw 55 = .ok (.l2i, 1) := by decide +kernel
theorem dX11_boundLaw_56 : decode cX11_boundLaw 56 = .ok (.ireturn, 1) := by decide +kernel
theorem dX11_number1_0 : decode cX11_number1 0 = .ok (.aload_n 0, 1) := by decide +kernel
theorem dX11_number1_1 : decode cX11_number1 1 = .ok (.aload_n 0, 1) := by decide +kernel
theorem dX11_number1_2 : decode cX11_number1 2 = .ok (.getfield 355, 3) := by decide +kernel
theorem dX11_number1_5 : decode cX11_number1 5 = .ok (.ldc2_w 396, 3) := by decide +kernel
theorem dX11_number1_8 : decode cX11_number1 8 = .ok (.lmul, 1) := by decide +kernel
theorem dX11_number1_9 : decode cX11_number1 9 = .ok (.ldc2_w 398, 3) := by decide +kernel
theorem dX11_number1_12 : decode cX11_number1 12 = .ok (.ladd, 1) := by decide +kernel
theorem dX11_number1_13 : decode cX11_number1 13 = .ok (.ldc2_w 400, 3) := by decide +kernel
theorem dX11_number1_16 : decode cX11_number1 16 = .ok (.land, 1) := by decide +kernel
theorem dX11_number1_17 : decode cX11_number1 17 = .ok (.putfield 355, 3) := by decide +kernel
theorem dX11_number1_20 : decode cX11_number1 20 = .ok (.aload_n 0, 1) := by decide +kernel
theorem dX11_number1_21 : decode cX11_number1 21 = .ok (.getfield 355, 3) := by decide +kernel
theorem dX11_number1_24 : decode cX11_number1 24 = .ok (.ldc2_w 402, 3) := by decide +kernel
theorem dX11_number1_27 : decode cX11_number1 27 = .ok (.ldiv, 1) := by decide +kernel
theorem dX11_number1_28 : decode cX11_number1 28 = .ok (.iload_n 1, 1) := by decide +kernel
theorem dX11_number1_29 : decode cX11_number1 29 = .ok (.i2l, 1) := by decide +kernel
theorem dX11_number1_30 : decode cX11_number1 30 = .ok (.lrem, 1) := by decide +kernel
theorem dX11_number1_31 : decode cX11_number1 31 = .ok (.l2i, 1) := by decide +kernel
theorem dX11_number1_32 : decode cX11_number1 32 = .ok (.ireturn, 1) := by decide +kernel
theorem dX11_weightAll_0 : decode cX11_weightAll 0 = .ok (.iconst 0, 1) := by decide +kernel
theorem dX11_weightAll_1 : decode cX11_weightAll 1 = .ok (.istore_n 1, 1) := by decide +kernel
theorem dX11_weightAll_2 : decode cX11_weightAll 2 = .ok (.iconst 0, 1) := by decide +kernel
theorem dX11_weightAll_3 : decode cX11_weightAll 3 = .ok (.istore_n 2, 1) := by decide +kernel
theorem dX11_weightAll_4 : decode cX11_weightAll 4 = .ok (.iload_n 2, 1) := by decide +kernel
theorem dX11_weightAll_5 : decode cX11_weightAll 5 = .ok (.aload_n 0, 1) := by decide +kernel
theorem dX11_weightAll_6 : decode cX11_weightAll 6 = .ok (.getfield 231, 3) := by decide +kernel
theorem dX11_weightAll_9 : decode cX11_weightAll 9 = .ok (.if_icmp .ge 18, 3) := by decide +kernel
theorem dX11_weightAll_12 : decode cX11_weightAll 12 = .ok (.iload_n 1, 1) := by decide +kernel
theorem dX11_weightAll_13 : decode cX11_weightAll 13 = .ok (.aload_n 0, 1) := by decide +kernel
theorem dX11_weightAll_14 : decode cX11_weightAll 14 = .ok (.getfield 33, 3) := by decide +kernel
theorem dX11_weightAll_17 : decode cX11_weightAll 17 = .ok (.iload_n 2, 1) := by decide +kernel
theorem dX11_weightAll_18 : decode cX11_weightAll 18 = .ok (.iaload, 1) := by decide +kernel
theorem dX11_weightAll_19 : decode cX11_weightAll 19 = .ok (.iadd, 1) := by decide +kernel
theorem dX11_weightAll_20 : decode cX11_weightAll 20 = .ok (.istore_n 1, 1) := by decide +kernel
theorem dX11_weightAll_21 : decode cX11_weightAll 21 = .ok (.iinc 2 1, 3) := by decide +kernel
theorem dX11_weightAll_24 : decode cX11_weightAll 24 = .ok (.goto (-20), 3) := by decide +kernel
theorem dX11_weightAll_27 : decode cX11_weightAll 27 = .ok (.iload_n 1, 1) := by decide +kernel
theorem dX11_weightAll_28 : decode cX11_weightAll 28 = .ok (.ireturn, 1) := by decide +kernel
theorem dX11_heaviest_0 : decode cX11_heaviest 0 = .ok (.iconst (-1), 1) := by decide +kernel
theorem dX11_heaviest_1 : decode cX11_heaviest 1 = .ok (.istore_n 1, 1) := by decide +kernel
theorem dX11_heaviest_2 : decode cX11_heaviest 2 = .ok (.iconst 0, 1) := by decide +kernel
theorem dX11_heaviest_3 : decode cX11_heaviest 3 = .ok (.istore_n 2, 1) := by decide +kernel
theorem dX11_heaviest_4 : decode cX11_heaviest 4 = .ok (.iload_n 2, 1) := by decide +kernel
theorem dX11_heaviest_5 : decode cX11_heaviest 5 = .ok (.aload_n 0, 1) := by decide +kernel
theorem dX11_heaviest_6 : decode cX11_heaviest 6 = .ok (.getfield 231, 3) := by decide +kernel
theorem dX11_heaviest_9 : decode cX11_heaviest 9 = .ok (.if_icmp .ge 34, 3) := by decide +kernel
theorem dX11_heaviest_12 : decode cX11_heaviest 12 = .ok (.aload_n 0, 1) := by decide +kernel
theorem dX11_heaviest_13 : decode cX11_heaviest 13 = .ok (.getfield 33, 3) := by decide +kernel
theorem dX11_heaviest_16 : decode cX11_heaviest 16 = .ok (.iload_n 2, 1) := by decide +kernel
theorem dX11_heaviest_17 : decode cX11_heaviest 17 = .ok (.iaload, 1) := by decide +kernel
theorem dX11_heaviest_18 : decode cX11_heaviest 18 = .ok (.iload_n 1, 1) := by decide +kernel
theorem dX11_heaviest_19 : decode cX11_heaviest 19 = .ok (.ifCond .ge 7, 3) := by decide +kernel
theorem dX11_heaviest_22 : decode cX11_heaviest 22 = .ok (.iconst 0, 1) := by decide +kernel
theorem dX11_heaviest_23 : decode cX11_heaviest 23 = .ok (.goto 9, 3) := by decide +kernel
theorem dX11_heaviest_26 : decode cX11_heaviest 26 = .ok (.aload_n 0, 1) := by decide +kernel
theorem dX11_heaviest_27 : decode cX11_heaviest 27 = .ok (.getfield 33, 3) := by decide +kernel
theorem dX11_heaviest_30 : decode cX11_heaviest 30 = .ok (.iload_n 1, 1) := by decide +kernel
theorem dX11_heaviest_31 : decode cX11_heaviest 31 = .ok (.iaload, 1) := by decide +kernel
theorem dX11_heaviest_32 : decode cX11_heaviest 32 = .ok (.if_icmp .le 5, 3) := by decide +kernel
theorem dX11_heaviest_35 : decode cX11_heaviest 35 = .ok (.iload_n 2, 1) := by decide +kernel
theorem dX11_heaviest_36 : decode cX11_heaviest 36 = .ok (.istore_n 1, 1) := by decide +kernel
theorem dX11_heaviest_37 : decode cX11_heaviest 37 = .ok (.iinc 2 1, 3) := by decide +kernel
theorem dX11_heaviest_40 : decode cX11_heaviest 40 = .ok (.goto (-36), 3) := by decide +kernel
theorem dX11_heaviest_43 : decode cX11_heaviest 43 = .ok (.iload_n 1, 1) := by decide +kernel
theorem dX11_heaviest_44 : decode cX11_heaviest 44 = .ok (.ireturn, 1) := by decide +kernel
theorem dX11_drawnKind_0 : decode cX11_drawnKind 0 = .ok (.aload_n 0, 1) := by decide +kernel
theorem dX11_drawnKind_1 : decode cX11_drawnKind 1 = .ok (.invokevirtual 404, 3) := by decide +kernel
theorem dX11_drawnKind_4 : decode cX11_drawnKind 4 = .ok (.istore_n 1, 1) := by decide +kernel
theorem dX11_drawnKind_5 : decode cX11_drawnKind 5 = .ok (.aload_n 0, 1) := by decide +kernel
theorem dX11_drawnKind_6 : decode cX11_drawnKind 6 = .ok (.invokevirtual 407, 3) := by decide +kernel
theorem dX11_drawnKind_9 : decode cX11_drawnKind 9 = .ok (.istore_n 2, 1) := by decide +kernel
theorem dX11_drawnKind_10 : decode cX11_drawnKind 10 = .ok (.iload_n 1, 1) := by decide +kernel
theorem dX11_drawnKind_11 : decode cX11_drawnKind 11 = .ok (.ifCond .eq 13, 3) := by decide +kernel
theorem dX11_drawnKind_14 : decode cX11_drawnKind 14 = .ok (.aload_n 0, 1) := by decide +kernel
theorem dX11_drawnKind_15 : decode cX11_drawnKind 15 = .ok (.getfield 33, 3) := by decide +kernel
theorem dX11_drawnKind_18 : decode cX11_drawnKind 18 = .ok (.iload_n 2, 1) := by decide +kernel
theorem dX11_drawnKind_19 : decode cX11_drawnKind 19 = .ok (.iaload, 1) := by decide +kernel
theorem dX11_drawnKind_20 : decode cX11_drawnKind 20 = .ok (.iload_n 1, 1) := by decide +kernel
theorem dX11_drawnKind_21 : decode cX11_drawnKind 21 = .ok (.if_icmp .ne 5, 3) := by decide +kernel
theorem dX11_drawnKind_24 : decode cX11_drawnKind 24 = .ok (.iload_n 2, 1) := by decide +kernel
theorem dX11_drawnKind_25 : decode cX11_drawnKind 25 = .ok (.ireturn, 1) := by decide +kernel
theorem dX11_drawnKind_26 : decode cX11_drawnKind 26 = .ok (.aload_n 0, 1) := by decide +kernel
theorem dX11_drawnKind_27 : decode cX11_drawnKind 27 = .ok (.iload_n 1, 1) := by decide +kernel
